/-! what the questions answer -/
def tp_Sv (B : Nat → Prop) (K f : Nat → Nat) (p : Nat) (r : Int32) : Prop := ((∀ m, ¬ tp_H B K f p m) → r = -5) ∧ ∀ m, tp_L B K f p m → r = nI m
theorem tp_Sv_u {B : Nat → Prop} {K f : Nat → Nat} {p : Nat} {r r' : Int32} (h : tp_Sv B K f p r) (h' : tp_Sv B K f p r') : r' = r := by
  rcases tp_L_or B K f p with z | ⟨m, z⟩
  · rw [h.1 z, h'.1 z]
  · rw [h.2 m z, h'.2 m z]
def tp_So (B : Nat → Prop) (K f : Nat → Nat) (a i : Nat) (r : Int32) : Prop :=
  (r = -5 ∧ ∀ s, a ≤ s → s < a + i → ¬ tp_P B K f s) ∨
  ∃ m, m < 4096 ∧ r = nI m ∧ (∃ s, a ≤ s ∧ s < a + i ∧ tp_R B K f m s) ∧ ∀ s n, a ≤ s → s < a + i → tp_D B K f s n → m ≤ n
theorem tp_So_0 (B : Nat → Prop) (K f : Nat → Nat) (a : Nat) : tp_So B K f a 0 (-5) := Or.inl ⟨rfl, fun s h1 h2 => by omega⟩
theorem tp_So_n {B : Nat → Prop} {K f : Nat → Nat} {a i : Nat} {r : Int32} (h : tp_So B K f a i r) (hn : ¬ tp_P B K f (a + i)) : tp_So B K f a (i + 1) r := by
  have key : ∀ s, a ≤ s → s < a + (i + 1) → tp_P B K f s → s < a + i := by
    intro s h1 h2 hp
    rcases Nat.lt_or_ge s (a + i) with z | z
    · exact z
    · have e : s = a + i := by omega
      rw [e] at hp
      exact absurd hp hn
  rcases h with ⟨h1, h2⟩ | ⟨m, h0, h1, ⟨s, h2, h3, h4⟩, h5⟩
  · exact Or.inl ⟨h1, fun s a1 a2 hp => h2 s a1 (key s a1 a2 hp) hp⟩
  · exact Or.inr ⟨m, h0, h1, ⟨s, h2, by omega, h4⟩, fun s n a1 a2 hD => h5 s n a1 (key s a1 a2 ⟨n, hD.1⟩) hD⟩
theorem tp_So_s {B : Nat → Prop} {K f : Nat → Nat} {a i n : Nat} {r : Int32} (h : tp_So B K f a i r) (hn : n < 4096) (hD : tp_D B K f (a + i) n) : (r = -5 → tp_So B K f a (i + 1) (nI n)) ∧ (nI n < r → tp_So B K f a (i + 1) (nI n)) ∧ (¬ r = -5 → ¬ nI n < r → tp_So B K f a (i + 1) r) := by
  have last : ∀ s, s < a + (i + 1) → ¬ s < a + i → s = a + i := fun s h1 h2 => by omega
  rcases h with ⟨h1, h2⟩ | ⟨m, h0, h1, ⟨s, h2, h3, h4⟩, h5⟩
  · have x : tp_So B K f a (i + 1) (nI n) := by
      refine Or.inr ⟨n, hn, rfl, ⟨a + i, by omega, by omega, hD.1⟩, fun s n' a1 a2 hD' => ?_⟩
      rcases Nat.lt_or_ge s (a + i) with z | z
      · exact absurd ⟨n', hD'.1⟩ (h2 s a1 z)
      · have e := last s a2 (by omega)
        rw [e] at hD'
        exact hD.2 n' hD'.1
    exact ⟨fun _ => x, fun _ => x, fun z => absurd h1 z⟩
  · refine ⟨fun z => ?_, fun z => ?_, fun _ z => ?_⟩
    · rw [h1] at z
      exact absurd z (tp_code_ne (by omega))
    · rw [h1, nI_ltI (by omega) (by omega)] at z
      refine Or.inr ⟨n, hn, rfl, ⟨a + i, by omega, by omega, hD.1⟩, fun s' n' a1 a2 hD' => ?_⟩
      rcases Nat.lt_or_ge s' (a + i) with y | y
      · have := h5 s' n' a1 y hD'; omega
      · have e := last s' a2 (by omega)
        rw [e] at hD'
        exact hD.2 n' hD'.1
    · rw [h1, nI_ltI (by omega) (by omega)] at z
      refine Or.inr ⟨m, h0, h1, ⟨s, h2, by omega, h4⟩, fun s' n' a1 a2 hD' => ?_⟩
      rcases Nat.lt_or_ge s' (a + i) with y | y
      · exact h5 s' n' a1 y hD'
      · have e := last s' a2 (by omega)
        rw [e] at hD'
        have := hD.2 n' hD'.1
        have := tp_D_u hD hD'
        omega
theorem tp_So_x {B : Nat → Prop} {K f : Nat → Nat} {p : Nat} {r : Int32} (h : tp_So B K f (256 * p) 256 r) : tp_Sv B K f p r := by
  rcases h with ⟨h1, h2⟩ | ⟨m, h0, h1, ⟨s, h2, h3, h4⟩, h5⟩
  · refine ⟨fun _ => h1, fun m hm => ?_⟩
    obtain ⟨s, hs, hR⟩ := hm.1
    exact absurd ⟨m, hR⟩ (h2 s (by omega) (by omega))
  · have x : tp_L B K f p m := by
      refine ⟨⟨s, by omega, h4⟩, fun m' hm' => ?_⟩
      obtain ⟨s', hs', hR'⟩ := hm'
      obtain ⟨n, hn⟩ := tp_P_D ⟨m', hR'⟩
      have a1 := h5 s' n (by omega) (by omega) hn
      have a2 := hn.2 m' hR'
      omega
    exact ⟨fun z => absurd x.1 (z m), fun m' hm' => by rw [tp_L_u hm' x]; exact h1⟩
/-- the values of x, and of y, in possible states at p -/
def tp_Tx (P : Nat → Prop) (p v : Nat) : Prop := ∃ s, s / 256 = p ∧ s / 16 % 16 = v ∧ P s
def tp_Ty (P : Nat → Prop) (p v : Nat) : Prop := ∃ s, s / 256 = p ∧ s % 16 = v ∧ P s
/-- the component's mask after i states, q the value that it takes -/
def tp_Tm (P : Nat → Prop) (q : Nat → Nat) (a i v : Nat) : Prop := ∃ s, a ≤ s ∧ s < a + i ∧ q s = v ∧ P s
theorem tp_Tm_0 {P : Nat → Prop} {q : Nat → Nat} {a : Nat} : tp_V 0 (tp_Tm P q a 0) := tp_V_0 (fun _ _ ⟨_, h1, h2, _⟩ => by omega)
theorem tp_Tm_n {P : Nat → Prop} {q : Nat → Nat} {a i : Nat} {m : Int32} (h : tp_V m (tp_Tm P q a i)) (hn : ¬ P (a + i)) : tp_V m (tp_Tm P q a (i + 1)) := by
  refine tp_V_e h (fun v _ => ⟨fun ⟨s, h1, h2, h3⟩ => ⟨s, h1, by omega, h3⟩, fun ⟨s, h1, h2, h3, h4⟩ => ⟨s, h1, ?_, h3, h4⟩⟩)
  rcases Nat.lt_or_ge s (a + i) with z | z
  · exact z
  · have e : s = a + i := by omega
    rw [e] at h4
    exact absurd h4 hn
theorem tp_Tm_s {P : Nat → Prop} {q : Nat → Nat} {a i : Nat} {m : Int32} (h : tp_V m (tp_Tm P q a i)) (hp : P (a + i)) (hq : q (a + i) < 16) : tp_V (m ||| ((1 : Int32) <<< (nI (q (a + i)) &&& 31))) (tp_Tm P q a (i + 1)) := by
  refine tp_V_e (tp_V_or h (tp_V_1 hq)) (fun v _ => ⟨fun z => ?_, fun ⟨s, h1, h2, h3, h4⟩ => ?_⟩)
  · rcases z with ⟨s, h1, h2, h3⟩ | z
    · exact ⟨s, h1, by omega, h3⟩
    · exact ⟨a + i, by omega, by omega, z.symm, hp⟩
  · rcases Nat.lt_or_ge s (a + i) with z | z
    · exact Or.inl ⟨s, h1, z, h3, h4⟩
    · have e : s = a + i := by omega
      rw [e] at h3
      exact Or.inr h3.symm
theorem tp_Tm_x {P : Nat → Prop} {p : Nat} {m : Int32} (h : tp_V m (tp_Tm P (fun s => s / 16 % 16) (256 * p) 256)) : tp_V m (tp_Tx P p) :=
  tp_V_e h (fun v _ => ⟨fun ⟨s, h1, h2, h3, h4⟩ => ⟨s, by omega, h3, h4⟩, fun ⟨s, h1, h3, h4⟩ => ⟨s, by omega, by omega, h3, h4⟩⟩)
theorem tp_Tm_y {P : Nat → Prop} {p : Nat} {m : Int32} (h : tp_V m (tp_Tm P (fun s => s % 16) (256 * p) 256)) : tp_V m (tp_Ty P p) :=
  tp_V_e h (fun v _ => ⟨fun ⟨s, h1, h2, h3, h4⟩ => ⟨s, by omega, h3, h4⟩, fun ⟨s, h1, h3, h4⟩ => ⟨s, by omega, by omega, h3, h4⟩⟩)
/-- the reference's masks after x rows -/
def tp_Yx (P : Nat → Prop) (p x v : Nat) : Prop := v < x ∧ ∃ y, y < 16 ∧ P (16 * (16 * p + v) + y)
def tp_Yy (P : Nat → Prop) (p x v : Nat) : Prop := ∃ x', x' < x ∧ P (16 * (16 * p + x') + v)
theorem tp_Yx_0 {P : Nat → Prop} {p : Nat} : tp_V 0 (tp_Yx P p 0) := tp_V_0 (fun _ _ h => Nat.not_lt_zero _ h.1)
theorem tp_Yy_0 {P : Nat → Prop} {p : Nat} : tp_V 0 (tp_Yy P p 0) := tp_V_0 (fun _ _ ⟨_, h, _⟩ => Nat.not_lt_zero _ h)
theorem tp_Yy_s {P : Nat → Prop} {p x : Nat} {m a : Int32} (h : tp_V m (tp_Yy P p x)) (ha : tp_M a (16 * p + x) P) : tp_V (m ||| a) (tp_Yy P p (x + 1)) := by
  refine tp_V_e (tp_V_or h (tp_M_V ha)) (fun v _ => ⟨fun z => ?_, fun ⟨x', h1, h2⟩ => ?_⟩)
  · rcases z with ⟨x', h1, h2⟩ | z
    · exact ⟨x', by omega, h2⟩
    · exact ⟨x, by omega, z⟩
  · rcases Nat.lt_or_ge x' x with z | z
    · exact Or.inl ⟨x', z, h2⟩
    · have e : x' = x := by omega
      rw [e] at h2
      exact Or.inr h2
theorem tp_Yx_n {P : Nat → Prop} {p x : Nat} {m a : Int32} (h : tp_V m (tp_Yx P p x)) (ha : tp_M a (16 * p + x) P) (h0 : a = 0) : tp_V m (tp_Yx P p (x + 1)) := by
  have z := (tp_M_z ha).mp h0
  refine tp_V_e h (fun v _ => ⟨fun ⟨h1, h2⟩ => ⟨by omega, h2⟩, fun ⟨h1, y, hy, h2⟩ => ⟨?_, y, hy, h2⟩⟩)
  rcases Nat.lt_or_ge v x with q | q
  · exact q
  · have e : v = x := by omega
    rw [e] at h2
    exact absurd h2 (z y hy)
theorem tp_Yx_s {P : Nat → Prop} {p x : Nat} {m a : Int32} (hx : x < 16) (h : tp_V m (tp_Yx P p x)) (ha : tp_M a (16 * p + x) P) (h0 : ¬ a = 0) : tp_V (m ||| ((1 : Int32) <<< (nI x &&& 31))) (tp_Yx P p (x + 1)) := by
  have z : ∃ y, y < 16 ∧ P (16 * (16 * p + x) + y) := by
    rcases Classical.em (∃ y, y < 16 ∧ P (16 * (16 * p + x) + y)) with q | q
    · exact q
    · exact absurd ((tp_M_z ha).mpr (fun j hj hs => q ⟨j, hj, hs⟩)) h0
  refine tp_V_e (tp_V_or h (tp_V_1 hx)) (fun v _ => ⟨fun w => ?_, fun ⟨h1, h2⟩ => ?_⟩)
  · rcases w with ⟨h1, h2⟩ | w
    · exact ⟨by omega, h2⟩
    · rw [w]; exact ⟨by omega, z⟩
  · rcases Nat.lt_or_ge v x with q | q
    · exact Or.inl ⟨q, h2⟩
    · exact Or.inr (by omega)
theorem tp_Yx_x {P : Nat → Prop} {p : Nat} {m : Int32} (h : tp_V m (tp_Yx P p 16)) : tp_V m (tp_Tx P p) := by
  refine tp_V_e h (fun v hv => ⟨fun ⟨h1, y, hy, h2⟩ => ⟨_, by omega, by omega, h2⟩, fun ⟨s, h1, h2, h3⟩ => ⟨hv, s % 16, by omega, ?_⟩⟩)
  have e : 16 * (16 * p + v) + s % 16 = s := by omega
  rw [e]; exact h3
theorem tp_Yy_x {P : Nat → Prop} {p : Nat} {m : Int32} (h : tp_V m (tp_Yy P p 16)) : tp_V m (tp_Ty P p) := by
  refine tp_V_e h (fun v hv => ⟨fun ⟨x, hx, h2⟩ => ⟨_, by omega, by omega, h2⟩, fun ⟨s, h1, h2, h3⟩ => ⟨s / 16 % 16, by omega, ?_⟩⟩)
  have e : 16 * (16 * p + s / 16 % 16) + v = s := by omega
  rw [e]; exact h3
/-- safe -/
theorem tp_safe {L : Nat} {B : Nat → Prop} {K f : Nat → Nat} {F : Nat → Int32} (W : tp_Wf L B K f) (h : ∀ p, p < L → tp_cn (fun s => tp_P B K f s ∧ F s = -2) (256 * p) 256 = 0) : ¬ ∃ s, tp_P B K f s ∧ F s = -2 := by
  intro ⟨s, hp, hF⟩
  have hl := tp_P_lt W hp
  have x := tp_cn_pos (P := fun s => tp_P B K f s ∧ F s = -2) (a := 256 * (s / 256)) (n := 256) (s := s) ⟨hp, hF⟩ (by omega) (by omega)
  have y := h (s / 256) (by omega)
  omega
theorem tp_notsafe {p : Nat} {B : Nat → Prop} {K f : Nat → Nat} {F : Nat → Int32} (h : 0 < tp_cn (fun s => tp_P B K f s ∧ F s = -2) (256 * p) 256) : ∃ s, tp_P B K f s ∧ F s = -2 := by
  rcases Classical.em (∃ s, tp_P B K f s ∧ F s = -2) with z | z
  · exact z
  · have := tp_cn_0 (P := fun s => tp_P B K f s ∧ F s = -2) (a := 256 * p) (n := 256) (fun s _ _ y => z ⟨s, y⟩)
    omega
