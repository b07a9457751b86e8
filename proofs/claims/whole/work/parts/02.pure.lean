/-! counting -/
noncomputable def tp_b (P : Prop) : Nat := @ite Nat P (Classical.propDecidable P) 1 0
theorem tp_b1 {P : Prop} (h : P) : tp_b P = 1 := by unfold tp_b; rw [if_pos h]
theorem tp_b0 {P : Prop} (h : ¬ P) : tp_b P = 0 := by unfold tp_b; rw [if_neg h]
theorem tp_ble (P : Prop) : tp_b P ≤ 1 := by
  rcases Classical.em P with h | h
  · rw [tp_b1 h]; omega
  · rw [tp_b0 h]; omega
theorem tp_bm {P Q : Prop} (h : P → Q) : tp_b P ≤ tp_b Q := by
  rcases Classical.em P with hp | hp
  · rw [tp_b1 hp, tp_b1 (h hp)]; omega
  · rw [tp_b0 hp]; omega
theorem tp_be {P Q : Prop} (h : P ↔ Q) : tp_b P = tp_b Q := Nat.le_antisymm (tp_bm h.mp) (tp_bm h.mpr)
noncomputable def tp_cn (P : Nat → Prop) (a : Nat) : Nat → Nat
  | 0 => 0
  | n + 1 => tp_cn P a n + tp_b (P (a + n))
theorem tp_cn_s (P : Nat → Prop) (a n : Nat) : tp_cn P a (n + 1) = tp_cn P a n + tp_b (P (a + n)) := rfl
theorem tp_cn_m {P Q : Nat → Prop} {a : Nat} : ∀ {n : Nat}, (∀ s, a ≤ s → s < a + n → P s → Q s) → tp_cn P a n ≤ tp_cn Q a n
  | 0, _ => Nat.le_refl _
  | n + 1, h => by
    have x := tp_cn_m (P := P) (Q := Q) (a := a) (n := n) (fun s h1 h2 => h s h1 (by omega))
    have y := tp_bm (h (a + n) (by omega) (by omega))
    rw [tp_cn_s, tp_cn_s]; omega
theorem tp_cn_e {P Q : Nat → Prop} {a n : Nat} (h : ∀ s, a ≤ s → s < a + n → (P s ↔ Q s)) : tp_cn P a n = tp_cn Q a n :=
  Nat.le_antisymm (tp_cn_m fun s h1 h2 => (h s h1 h2).mp) (tp_cn_m fun s h1 h2 => (h s h1 h2).mpr)
theorem tp_cn_le (P : Nat → Prop) (a : Nat) : ∀ n, tp_cn P a n ≤ n
  | 0 => Nat.le_refl _
  | n + 1 => by have := tp_cn_le P a n; have := tp_ble (P (a + n)); rw [tp_cn_s]; omega
theorem tp_cn_0 {P : Nat → Prop} {a : Nat} : ∀ {n : Nat}, (∀ s, a ≤ s → s < a + n → ¬ P s) → tp_cn P a n = 0
  | 0, _ => rfl
  | n + 1, h => by
    rw [tp_cn_s, tp_cn_0 (fun s h1 h2 => h s h1 (by omega)), tp_b0 (h (a + n) (by omega) (by omega))]
theorem tp_cn_a (P : Nat → Prop) (a n : Nat) : ∀ m, tp_cn P a (n + m) = tp_cn P a n + tp_cn P (a + n) m
  | 0 => rfl
  | m + 1 => by
    rw [← Nat.add_assoc, tp_cn_s, tp_cn_s, tp_cn_a P a n m, Nat.add_assoc a n m]; omega
theorem tp_cn_p {P Q : Nat → Prop} {a s : Nat} (hp : ¬ P s) (hq : Q s) (ho : ∀ t, t ≠ s → (Q t ↔ P t)) : ∀ {n : Nat}, a ≤ s → s < a + n → tp_cn Q a n = tp_cn P a n + 1
  | 0, h1, h2 => by omega
  | n + 1, h1, h2 => by
    rw [tp_cn_s, tp_cn_s]
    rcases Nat.lt_or_ge s (a + n) with z | z
    · rw [tp_cn_p hp hq ho h1 z, tp_be (ho (a + n) (by omega))]; omega
    · have e : s = a + n := by omega
      rw [tp_cn_e (P := Q) (Q := P) (fun t h3 h4 => ho t (by omega)), ← e, tp_b1 hq, tp_b0 hp]
theorem tp_cn_lt {P : Nat → Prop} {a n s : Nat} (hp : ¬ P s) (h1 : a ≤ s) (h2 : s < a + n) : tp_cn P a n < n := by
  have x := tp_cn_p (P := P) (Q := fun t => P t ∨ t = s) hp (Or.inr rfl) (fun t ht => ⟨fun q => q.elim id (fun e => absurd e ht), Or.inl⟩) h1 h2
  have y := tp_cn_le (fun t => P t ∨ t = s) a n
  omega
theorem tp_cn_sub {P Q : Nat → Prop} {a n s : Nat} (h : ∀ t, a ≤ t → t < a + n → P t → Q t) (hp : ¬ P s) (hq : Q s) (h1 : a ≤ s) (h2 : s < a + n) : tp_cn P a n < tp_cn Q a n := by
  have x := tp_cn_p (P := P) (Q := fun t => P t ∨ t = s) hp (Or.inr rfl) (fun t ht => ⟨fun q => q.elim id (fun e => absurd e ht), Or.inl⟩) h1 h2
  have y := tp_cn_m (P := fun t => P t ∨ t = s) (Q := Q) (a := a) (n := n) (fun t h3 h4 q => q.elim (h t h3 h4) (fun e => e ▸ hq))
  omega
theorem tp_cn_pos {P : Nat → Prop} {a n s : Nat} (hp : P s) (h1 : a ≤ s) (h2 : s < a + n) : 0 < tp_cn P a n := by
  have x := tp_cn_sub (P := fun _ => False) (Q := P) (a := a) (n := n) (s := s) (fun _ _ _ z => z.elim) id hp h1 h2
  omega
/-! graphs: K s next states, numbered from f s on -/
def tp_E (K f : Nat → Nat) (s t : Nat) : Prop := ∃ k, k < K s ∧ t = f s + k
def tp_R (B : Nat → Prop) (K f : Nat → Nat) : Nat → Nat → Prop
  | 0 => fun s => B s
  | n + 1 => fun s => ∃ t, tp_R B K f n t ∧ tp_E K f t s
def tp_P (B : Nat → Prop) (K f : Nat → Nat) (s : Nat) : Prop := ∃ n, tp_R B K f n s
def tp_D (B : Nat → Prop) (K f : Nat → Nat) (s n : Nat) : Prop := tp_R B K f n s ∧ ∀ m, tp_R B K f m s → n ≤ m
def tp_G (B : Nat → Prop) (K f : Nat → Nat) (s : Nat) : Prop := ∃ S : Nat → Prop, S s ∧ ∀ t, S t → tp_P B K f t ∧ ∃ t', tp_E K f t t' ∧ S t'
def tp_Cl (K f : Nat → Nat) (g : Nat → Prop) (s : Nat) : Prop := ∃ k, k < K s ∧ g (f s + k)
def tp_Wf (L : Nat) (B : Nat → Prop) (K f : Nat → Nat) : Prop := (∀ s, B s → s < 256 * L) ∧ ∀ s k, k < K s → f s + k < 256 * L
theorem tp_R_lt {L : Nat} {B : Nat → Prop} {K f : Nat → Nat} (W : tp_Wf L B K f) : ∀ {n s : Nat}, tp_R B K f n s → s < 256 * L
  | 0, s, h => W.1 s h
  | n + 1, s, h => by
    obtain ⟨t, -, k, hk, rfl⟩ := h
    exact W.2 t k hk
theorem tp_P_lt {L : Nat} {B : Nat → Prop} {K f : Nat → Nat} (W : tp_Wf L B K f) {s : Nat} (h : tp_P B K f s) : s < 256 * L := by
  obtain ⟨n, hn⟩ := h
  exact tp_R_lt W hn
theorem tp_P_D {B : Nat → Prop} {K f : Nat → Nat} {s : Nat} (h : tp_P B K f s) : ∃ n, tp_D B K f s n := by
  obtain ⟨n, hn, hl⟩ := pk_least (fun n => tp_R B K f n s) h
  exact ⟨n, hn, fun m hm => Nat.not_lt.mp (fun z => hl m z hm)⟩
theorem tp_D_u {B : Nat → Prop} {K f : Nat → Nat} {s n m : Nat} (h : tp_D B K f s n) (h' : tp_D B K f s m) : n = m :=
  Nat.le_antisymm (h.2 m h'.1) (h'.2 n h.1)
theorem tp_G_P {B : Nat → Prop} {K f : Nat → Nat} {s : Nat} (h : tp_G B K f s) : tp_P B K f s := by
  obtain ⟨S, hs, hS⟩ := h
  exact (hS s hs).1
theorem tp_G_drop {B : Nat → Prop} {K f : Nat → Nat} {g : Nat → Prop} {s : Nat} (hg : ∀ t, tp_G B K f t → g t) (h : tp_G B K f s) : tp_Cl K f g s := by
  obtain ⟨S, hs, hS⟩ := h
  obtain ⟨t, ⟨k, hk, e⟩, ht⟩ := (hS s hs).2
  exact ⟨k, hk, e ▸ hg t ⟨S, ht, hS⟩⟩
theorem tp_G_all {B : Nat → Prop} {K f : Nat → Nat} {g : Nat → Prop} {s : Nat} (h1 : ∀ t, g t → tp_P B K f t) (h2 : ∀ t, g t → tp_Cl K f g t) (hs : g s) : tp_G B K f s := by
  refine ⟨g, hs, fun t ht => ⟨h1 t ht, ?_⟩⟩
  obtain ⟨k, hk, hg⟩ := h2 t ht
  exact ⟨f t + k, ⟨k, hk, rfl⟩, hg⟩
/-! the queue of the component: w the steps to a state, o the order, c how many -/
def tp_code : Option Nat → Int32
  | none => -5
  | some n => nI n
theorem tp_code_ne {n : Nat} (h : n < 2 ^ 31) : ¬ nI n = -5 := by
  intro e
  have x := congrArg Int32.toInt e
  rw [nI_toInt h, show ((-5 : Int32)).toInt = -5 by decide] at x
  omega
def tp_us (w : Nat → Option Nat) (s n : Nat) : Nat → Option Nat := fun t => if t = s then some n else w t
def tp_un (o : Nat → Nat) (c s : Nat) : Nat → Nat := fun j => if j = c then s else o j
theorem tp_us_s {w : Nat → Option Nat} {s n : Nat} : tp_us w s n s = some n := if_pos rfl
theorem tp_us_n {w : Nat → Option Nat} {s n t : Nat} (h : t ≠ s) : tp_us w s n t = w t := if_neg h
theorem tp_un_s {o : Nat → Nat} {c s : Nat} : tp_un o c s c = s := if_pos rfl
theorem tp_un_n {o : Nat → Nat} {c s j : Nat} (h : j ≠ c) : tp_un o c s j = o j := if_neg h
def tp_Q (B : Nat → Prop) (K f : Nat → Nat) (w : Nat → Option Nat) (o : Nat → Nat) (c : Nat) : Prop :=
  tp_cn (fun s => w s ≠ none) 0 4096 = c ∧
  (∀ j, j < c → o j < 4096 ∧ ∃ n, w (o j) = some n ∧ n ≤ j) ∧
  (∀ s n, w s = some n → (∃ j, j < c ∧ o j = s) ∧ tp_R B K f n s) ∧
  (∀ j k a b, j ≤ k → k < c → w (o j) = some a → w (o k) = some b → a ≤ b)
theorem tp_Q0 (B : Nat → Prop) (K f : Nat → Nat) (o : Nat → Nat) : tp_Q B K f (fun _ => none) o 0 :=
  ⟨tp_cn_0 (fun _ _ _ h => h rfl), fun _ h => absurd h (Nat.not_lt_zero _), fun _ _ h => by simp at h, fun _ _ _ _ _ h => absurd h (Nat.not_lt_zero _)⟩
theorem tp_Qc {B : Nat → Prop} {K f : Nat → Nat} {w : Nat → Option Nat} {o : Nat → Nat} {c s : Nat} (h : tp_Q B K f w o c) (hs : w s = none) (h4 : s < 4096) : c < 4096 := by
  have x := tp_cn_lt (P := fun s => w s ≠ none) (a := 0) (n := 4096) (s := s) (fun z => z hs) (by omega) (by omega)
  rw [h.1] at x
  exact x
theorem tp_Qle {B : Nat → Prop} {K f : Nat → Nat} {w : Nat → Option Nat} {o : Nat → Nat} {c : Nat} (h : tp_Q B K f w o c) : c ≤ 4096 := by
  rw [← h.1]; exact tp_cn_le _ _ _
theorem tp_Qo {B : Nat → Prop} {K f : Nat → Nat} {w : Nat → Option Nat} {o : Nat → Nat} {c s : Nat} (n : Nat) (h : tp_Q B K f w o c) (hs : w s = none) {j : Nat} (hj : j < c) : tp_un o c s j = o j ∧ o j ≠ s ∧ tp_us w s n (o j) = w (o j) := by
  obtain ⟨-, a, ha, -⟩ := h.2.1 j hj
  have hn : o j ≠ s := fun e => by rw [e, hs] at ha; simp at ha
  exact ⟨tp_un_n (by omega), hn, tp_us_n hn⟩
theorem tp_Qs {B : Nat → Prop} {K f : Nat → Nat} {w : Nat → Option Nat} {o : Nat → Nat} {c s n : Nat} (h : tp_Q B K f w o c) (hs : w s = none) (h4 : s < 4096) (hn : n ≤ c) (hr : tp_R B K f n s) (hb : ∀ j b, j < c → w (o j) = some b → b ≤ n) : tp_Q B K f (tp_us w s n) (tp_un o c s) (c + 1) := by
  have O := fun {j} (hj : j < c) => tp_Qo n h hs hj
  refine ⟨?_, ?_, ?_, ?_⟩
  · rw [tp_cn_p (P := fun t => w t ≠ none) (Q := fun t => tp_us w s n t ≠ none) (s := s) (fun z => z hs) (by rw [tp_us_s]; simp) (fun t ht => by rw [tp_us_n ht]) (by omega) (by omega), h.1]
  · intro j hj
    rcases Nat.lt_or_ge j c with z | z
    · obtain ⟨e1, e2, e3⟩ := O z
      rw [e1, e3]
      exact h.2.1 j z
    · have e : j = c := by omega
      subst e
      rw [tp_un_s, tp_us_s]
      exact ⟨h4, n, rfl, hn⟩
  · intro t m ht
    by_cases e : t = s
    · subst e
      rw [tp_us_s] at ht
      injection ht with e2
      subst e2
      exact ⟨⟨c, by omega, tp_un_s⟩, hr⟩
    · rw [tp_us_n e] at ht
      obtain ⟨⟨j, hj, ej⟩, hR⟩ := h.2.2.1 t m ht
      exact ⟨⟨j, by omega, by rw [(O hj).1]; exact ej⟩, hR⟩
  · intro j k a b hjk hk ha hb'
    rcases Nat.lt_or_ge k c with z | z
    · obtain ⟨e1, e2, e3⟩ := O z
      obtain ⟨d1, d2, d3⟩ := O (j := j) (by omega)
      rw [d1, d3] at ha
      rw [e1, e3] at hb'
      exact h.2.2.2 j k a b hjk z ha hb'
    · have e : k = c := by omega
      subst e
      rw [tp_un_s, tp_us_s] at hb'
      injection hb' with e2
      subst e2
      rcases Nat.lt_or_ge j k with y | y
      · obtain ⟨d1, d2, d3⟩ := O (j := j) y
        rw [d1, d3] at ha
        exact hb j a y ha
      · have e : j = k := by omega
        subst e
        rw [tp_un_s, tp_us_s] at ha
        injection ha with e3
        omega
/-! what is done with the states ahead of i -/
def tp_Pr (K f : Nat → Nat) (w : Nat → Option Nat) (o : Nat → Nat) (i : Nat) : Prop := ∀ j, j < i → ∀ a, w (o j) = some a → ∀ k, k < K (o j) → ∃ b, w (f (o j) + k) = some b ∧ b ≤ a + 1
/-- w' and o' go on from w and o -/
def tp_Ex (w : Nat → Option Nat) (o : Nat → Nat) (c : Nat) (w' : Nat → Option Nat) (o' : Nat → Nat) (c' : Nat) : Prop := c ≤ c' ∧ (∀ t a, w t = some a → w' t = some a) ∧ ∀ j, j < c → o' j = o j
theorem tp_Ex_r (w : Nat → Option Nat) (o : Nat → Nat) (c : Nat) : tp_Ex w o c w o c := ⟨Nat.le_refl _, fun _ _ h => h, fun _ _ => rfl⟩
theorem tp_Ex_s {B : Nat → Prop} {K f : Nat → Nat} {w : Nat → Option Nat} {o : Nat → Nat} {c s : Nat} (n : Nat) (h : tp_Q B K f w o c) (hs : w s = none) : tp_Ex w o c (tp_us w s n) (tp_un o c s) (c + 1) := by
  refine ⟨by omega, fun t a ha => ?_, fun j hj => (tp_Qo n h hs hj).1⟩
  rw [tp_us_n]
  · exact ha
  · intro e; rw [e, hs] at ha; simp at ha
theorem tp_Ex_t {w w' w'' : Nat → Option Nat} {o o' o'' : Nat → Nat} {c c' c'' : Nat} (h : tp_Ex w o c w' o' c') (h' : tp_Ex w' o' c' w'' o'' c'') : tp_Ex w o c w'' o'' c'' :=
  ⟨Nat.le_trans h.1 h'.1, fun t a ha => h'.2.1 t a (h.2.1 t a ha), fun j hj => (h'.2.2 j (Nat.lt_of_lt_of_le hj h.1)).trans (h.2.2 j hj)⟩
theorem tp_Pr_x {B : Nat → Prop} {K f : Nat → Nat} {w w' : Nat → Option Nat} {o o' : Nat → Nat} {c c' i : Nat} (h : tp_Q B K f w o c) (x : tp_Ex w o c w' o' c') (hi : i ≤ c) (p : tp_Pr K f w o i) : tp_Pr K f w' o' i := by
  intro j hj a ha k hk
  rw [x.2.2 j (by omega)] at ha hk ⊢
  obtain ⟨-, n, hn, -⟩ := h.2.1 j (by omega)
  have e := x.2.1 _ _ hn
  rw [ha] at e
  injection e with e
  subst e
  obtain ⟨b, hb, hl⟩ := p j hj a hn k hk
  exact ⟨b, x.2.1 _ _ hb, hl⟩
theorem tp_end {B : Nat → Prop} {K f : Nat → Nat} {w : Nat → Option Nat} {o : Nat → Nat} {c : Nat} (h : tp_Q B K f w o c) (p : tp_Pr K f w o c) (hB : ∀ s, B s → w s = some 0) : ∀ n s, tp_R B K f n s → ∃ b, w s = some b ∧ b ≤ n := by
  intro n
  induction n with
  | zero => exact fun s hs => ⟨0, hB s hs, Nat.le_refl _⟩
  | succ n ih =>
    intro s hs
    obtain ⟨t, ht, k, hk, rfl⟩ := hs
    obtain ⟨a, ha, hl⟩ := ih t ht
    obtain ⟨⟨j, hj, ej⟩, -⟩ := h.2.2.1 t a ha
    subst ej
    obtain ⟨b, hb, hl'⟩ := p j hj a ha k hk
    exact ⟨b, hb, by omega⟩
/-- what the component knows of a state when it has gone through all -/
def tp_Kn (B : Nat → Prop) (K f : Nat → Nat) (w : Nat → Option Nat) : Prop := (∀ s n, w s = some n → tp_D B K f s n) ∧ ∀ s, w s = none → ¬ tp_P B K f s
theorem tp_kn {B : Nat → Prop} {K f : Nat → Nat} {w : Nat → Option Nat} {o : Nat → Nat} {c : Nat} (h : tp_Q B K f w o c) (p : tp_Pr K f w o c) (hB : ∀ s, B s → w s = some 0) : tp_Kn B K f w := by
  have z := tp_end h p hB
  refine ⟨fun s n hn => ⟨(h.2.2.1 s n hn).2, fun m hm => ?_⟩, fun s hs hp => ?_⟩
  · obtain ⟨b, hb, hl⟩ := z m s hm
    rw [hn] at hb
    injection hb with e
    omega
  · obtain ⟨n, hn⟩ := hp
    obtain ⟨b, hb, -⟩ := z n s hn
    rw [hs] at hb
    simp at hb
theorem tp_Kn_P {B : Nat → Prop} {K f : Nat → Nat} {w : Nat → Option Nat} (h : tp_Kn B K f w) (s : Nat) : w s ≠ none ↔ tp_P B K f s := by
  constructor
  · intro hn
    cases e : w s with
    | none => exact absurd e hn
    | some n => exact ⟨n, (h.1 s n e).1⟩
  · exact fun hp e => h.2 s e hp
/-! the layers of the reference -/
def tp_A (B : Nat → Prop) (K f : Nat → Nat) (n s : Nat) : Prop := ∃ m, m ≤ n ∧ tp_R B K f m s
theorem tp_lay {B : Nat → Prop} {K f : Nat → Nat} {n s : Nat} : tp_D B K f s (n + 1) ↔ ¬ tp_A B K f n s ∧ ∃ t, tp_D B K f t n ∧ tp_E K f t s := by
  constructor
  · intro ⟨h, hl⟩
    refine ⟨fun ⟨m, hm, hR⟩ => by have := hl m hR; omega, ?_⟩
    obtain ⟨t, ht, he⟩ := h
    exact ⟨t, ⟨ht, fun m hm => by have := hl (m + 1) ⟨t, hm, he⟩; omega⟩, he⟩
  · intro ⟨hA, t, ht, he⟩
    refine ⟨⟨t, ht.1, he⟩, fun m hm => ?_⟩
    rcases Nat.lt_or_ge n m with z | z
    · exact z
    · exact absurd ⟨m, z, hm⟩ hA
theorem tp_A_0 {B : Nat → Prop} {K f : Nat → Nat} {s : Nat} : tp_A B K f 0 s ↔ B s := by
  constructor
  · intro ⟨m, hm, hR⟩
    have e : m = 0 := by omega
    subst e
    exact hR
  · exact fun h => ⟨0, Nat.le_refl _, h⟩
theorem tp_D_0 {B : Nat → Prop} {K f : Nat → Nat} {s : Nat} : tp_D B K f s 0 ↔ B s := ⟨fun h => h.1, fun h => ⟨h, fun _ _ => Nat.zero_le _⟩⟩
theorem tp_A_s {B : Nat → Prop} {K f : Nat → Nat} {n s : Nat} : tp_A B K f (n + 1) s ↔ tp_A B K f n s ∨ tp_D B K f s (n + 1) := by
  constructor
  · intro ⟨m, hm, hR⟩
    rcases Classical.em (tp_A B K f n s) with h | h
    · exact Or.inl h
    · have e : m = n + 1 := by
        rcases Nat.lt_or_ge n m with z | z
        · omega
        · exact absurd ⟨m, z, hR⟩ h
      subst e
      refine Or.inr ⟨hR, fun m' hm' => ?_⟩
      rcases Nat.lt_or_ge n m' with z | z
      · exact z
      · exact absurd ⟨m', z, hm'⟩ h
  · rintro (⟨m, hm, hR⟩ | h)
    · exact ⟨m, by omega, hR⟩
    · exact ⟨n + 1, Nat.le_refl _, h.1⟩
theorem tp_D_A {B : Nat → Prop} {K f : Nat → Nat} {n s : Nat} (h : tp_D B K f s n) : tp_A B K f n s := ⟨n, Nat.le_refl _, h.1⟩
theorem tp_A_P {B : Nat → Prop} {K f : Nat → Nat} {n s : Nat} (h : tp_A B K f n s) : tp_P B K f s := by
  obtain ⟨m, -, hm⟩ := h
  exact ⟨m, hm⟩
theorem tp_A_e {B : Nat → Prop} {K f : Nat → Nat} {n : Nat} (h : ∀ s, ¬ tp_D B K f s n) : ∀ m s, tp_R B K f m s → ∃ m', m' < n ∧ tp_R B K f m' s := by
  intro m
  induction m with
  | zero =>
    intro s hs
    rcases Nat.eq_zero_or_pos n with e | e
    · subst e
      exact absurd (tp_D_0.mpr hs) (h s)
    · exact ⟨0, e, hs⟩
  | succ m ih =>
    intro s hs
    obtain ⟨t, ht, he⟩ := hs
    obtain ⟨m', hm', hR⟩ := ih t ht
    have hR' : tp_R B K f (m' + 1) s := ⟨t, hR, he⟩
    rcases Nat.lt_or_ge (m' + 1) n with z | z
    · exact ⟨m' + 1, z, hR'⟩
    · have e : m' + 1 = n := by omega
      rcases Classical.em (∃ q, q < n ∧ tp_R B K f q s) with y | y
      · exact y
      · refine absurd ⟨e ▸ hR', fun q hq => ?_⟩ (h s)
        rcases Nat.lt_or_ge q n with x | x
        · exact absurd ⟨q, x, hq⟩ y
        · exact x
theorem tp_A_end {B : Nat → Prop} {K f : Nat → Nat} {n s : Nat} (h : ∀ s, ¬ tp_D B K f s n) : tp_A B K f n s ↔ tp_P B K f s := by
  refine ⟨tp_A_P, fun ⟨m, hm⟩ => ?_⟩
  obtain ⟨m', hl, hR⟩ := tp_A_e h m s hm
  exact ⟨m', by omega, hR⟩
/-! the first time at an instruction -/
def tp_H (B : Nat → Prop) (K f : Nat → Nat) (p m : Nat) : Prop := ∃ s, s / 256 = p ∧ tp_R B K f m s
def tp_L (B : Nat → Prop) (K f : Nat → Nat) (p m : Nat) : Prop := tp_H B K f p m ∧ ∀ m', tp_H B K f p m' → m ≤ m'
theorem tp_L_u {B : Nat → Prop} {K f : Nat → Nat} {p n m : Nat} (h : tp_L B K f p n) (h' : tp_L B K f p m) : n = m :=
  Nat.le_antisymm (h.2 m h'.1) (h'.2 n h.1)
theorem tp_L_D {B : Nat → Prop} {K f : Nat → Nat} {p m : Nat} (h : tp_L B K f p m) : ∃ s, s / 256 = p ∧ tp_D B K f s m := by
  obtain ⟨⟨s, hs, hR⟩, hl⟩ := h
  exact ⟨s, hs, hR, fun m' hm' => hl m' ⟨s, hs, hm'⟩⟩
theorem tp_L_or (B : Nat → Prop) (K f : Nat → Nat) (p : Nat) : (∀ m, ¬ tp_H B K f p m) ∨ ∃ m, tp_L B K f p m := by
  rcases Classical.em (∃ m, tp_H B K f p m) with h | h
  · obtain ⟨m, hm, hl⟩ := pk_least (fun m => tp_H B K f p m) h
    exact Or.inr ⟨m, hm, fun m' hm' => Nat.not_lt.mp (fun z => hl m' z hm')⟩
  · exact Or.inl (fun m hm => h ⟨m, hm⟩)
