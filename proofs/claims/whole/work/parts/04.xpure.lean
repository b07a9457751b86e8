/-! a mask of sixteen values -/
def tp_V (m : Int32) (T : Nat → Prop) : Prop := ∀ j, j < 32 → (bt m j = true ↔ j < 16 ∧ T j)
theorem tp_V_u {m m' : Int32} {T T' : Nat → Prop} (h : tp_V m T) (h' : tp_V m' T') (e : ∀ j, j < 16 → (T j ↔ T' j)) : m = m' :=
  b_ext (fun j hj => Bool.eq_iff_iff.mpr ((h j hj).trans ((show (j < 16 ∧ T j) ↔ (j < 16 ∧ T' j) from ⟨fun z => ⟨z.1, (e j z.1).mp z.2⟩, fun z => ⟨z.1, (e j z.1).mpr z.2⟩⟩).trans (h' j hj).symm)))
theorem tp_V_e {m : Int32} {T T' : Nat → Prop} (h : tp_V m T) (e : ∀ j, j < 16 → (T j ↔ T' j)) : tp_V m T' :=
  fun j hj => (h j hj).trans ⟨fun z => ⟨z.1, (e j z.1).mp z.2⟩, fun z => ⟨z.1, (e j z.1).mpr z.2⟩⟩
theorem tp_V_0 {T : Nat → Prop} (h : ∀ j, j < 16 → ¬ T j) : tp_V 0 T := by
  intro j hj
  rw [b_0]
  exact ⟨fun z => by simp at z, fun z => absurd z.2 (h j z.1)⟩
theorem tp_V_or {m m' : Int32} {T T' : Nat → Prop} (h : tp_V m T) (h' : tp_V m' T') : tp_V (m ||| m') (fun j => T j ∨ T' j) := by
  intro j hj
  rw [b_or, Bool.or_eq_true, h j hj, h' j hj]
  exact ⟨fun z => z.elim (fun y => ⟨y.1, Or.inl y.2⟩) (fun y => ⟨y.1, Or.inr y.2⟩), fun z => z.2.elim (fun y => Or.inl ⟨z.1, y⟩) (fun y => Or.inr ⟨z.1, y⟩)⟩
theorem tp_V_1 {y : Nat} (hy : y < 16) : tp_V ((1 : Int32) <<< (nI y &&& 31)) (fun j => j = y) := by
  intro j hj
  rw [tp_1sh (by omega) hj, decide_eq_true_iff]
  exact ⟨fun z => ⟨by omega, z⟩, fun z => z.2⟩
theorem tp_M_V {m : Int32} {i : Nat} {S : Nat → Prop} (h : tp_M m i S) : tp_V m (fun j => S (16 * i + j)) := h
/-! the queue as the component's arrays hold it -/
def tp_XQ (B : Nat → Prop) (K f : Nat → Nat) (st ord : Nat → Int32) (w : Nat → Option Nat) (o : Nat → Nat) (c : Nat) : Prop :=
  tp_Q B K f w o c ∧ (∀ s, s < 4096 → st s = tp_code (w s)) ∧ (∀ j, j < c → ord j = nI (o j))
theorem tp_Qn {B : Nat → Prop} {K f : Nat → Nat} {w : Nat → Option Nat} {o : Nat → Nat} {c s n : Nat} (h : tp_Q B K f w o c) (e : w s = some n) : n < 4096 ∧ n < c ∧ s < 4096 := by
  obtain ⟨⟨j, hj, ej⟩, -⟩ := h.2.2.1 s n e
  obtain ⟨h4, n', hn', hl⟩ := h.2.1 j hj
  rw [ej, e] at hn'
  injection hn' with e'
  have := tp_Qle h
  refine ⟨by omega, by omega, by omega⟩
theorem tp_XQ_m {B : Nat → Prop} {K f : Nat → Nat} {st ord : Nat → Int32} {w : Nat → Option Nat} {o : Nat → Nat} {c : Nat} (h : tp_XQ B K f st ord w o c) {s : Nat} (hs : s < 4096) : st s = -5 ↔ w s = none := by
  rw [h.2.1 s hs]
  cases e : w s with
  | none => exact ⟨fun _ => rfl, fun _ => rfl⟩
  | some n => exact ⟨fun z => absurd z (tp_code_ne (by have := (tp_Qn h.1 e).1; omega)), fun z => by simp at z⟩
theorem tp_XQ_s {B : Nat → Prop} {K f : Nat → Nat} {st ord : Nat → Int32} {w : Nat → Option Nat} {o : Nat → Nat} {c s n : Nat} (h : tp_XQ B K f st ord w o c) (hs : w s = none) (h4 : s < 4096) (hn : n ≤ c) (hr : tp_R B K f n s) (hb : ∀ j b, j < c → w (o j) = some b → b ≤ n) : tp_XQ B K f (upd st s (nI n)) (upd ord c (nI s)) (tp_us w s n) (tp_un o c s) (c + 1) := by
  refine ⟨tp_Qs h.1 hs h4 hn hr hb, fun t ht => ?_, fun j hj => ?_⟩
  · by_cases e : t = s
    · subst e; rw [pk_us, tp_us_s]; rfl
    · rw [pk_un e, tp_us_n e]; exact h.2.1 t ht
  · by_cases e : j = c
    · subst e; rw [pk_us, tp_un_s]
    · rw [pk_un e, tp_un_n e]; exact h.2.2 j (by omega)
/-- what a call of reach leaves, asked for state s with n steps -/
def tp_Rc (B : Nat → Prop) (K f : Nat → Nat) (w : Nat → Option Nat) (o : Nat → Nat) (c s n : Nat) (st' ord' : Nat → Int32) (w' : Nat → Option Nat) (o' : Nat → Nat) (c' : Nat) : Prop :=
  tp_XQ B K f st' ord' w' o' c' ∧ tp_Ex w o c w' o' c' ∧ (∃ b, w' s = some b ∧ b ≤ n) ∧ ∀ j b, j < c' → w' (o' j) = some b → b ≤ n
theorem tp_Rc_old {B : Nat → Prop} {K f : Nat → Nat} {st ord : Nat → Int32} {w : Nat → Option Nat} {o : Nat → Nat} {c s n : Nat} (h : tp_XQ B K f st ord w o c) (hs : w s ≠ none) (hb : ∀ j b, j < c → w (o j) = some b → b ≤ n) : tp_Rc B K f w o c s n st ord w o c := by
  refine ⟨h, tp_Ex_r w o c, ?_, hb⟩
  cases e : w s with
  | none => exact absurd e hs
  | some b =>
    obtain ⟨⟨j, hj, ej⟩, -⟩ := h.1.2.2.1 s b e
    exact ⟨b, rfl, hb j b hj (by rw [ej]; exact e)⟩
theorem tp_Rc_new {B : Nat → Prop} {K f : Nat → Nat} {st ord : Nat → Int32} {w : Nat → Option Nat} {o : Nat → Nat} {c s n : Nat} (h : tp_XQ B K f st ord w o c) (hs : w s = none) (h4 : s < 4096) (hn : n ≤ c) (hr : tp_R B K f n s) (hb : ∀ j b, j < c → w (o j) = some b → b ≤ n) : tp_Rc B K f w o c s n (upd st s (nI n)) (upd ord c (nI s)) (tp_us w s n) (tp_un o c s) (c + 1) := by
  refine ⟨tp_XQ_s h hs h4 hn hr hb, tp_Ex_s n h.1 hs, ⟨n, tp_us_s, Nat.le_refl _⟩, fun j b hj hw => ?_⟩
  by_cases e : j = c
  · subst e
    rw [tp_un_s, tp_us_s] at hw
    injection hw with e'
    omega
  · obtain ⟨e1, e2, e3⟩ := tp_Qo n h.1 hs (j := j) (by omega)
    rw [e1, e3] at hw
    exact hb j b (by omega) hw
/-! the states that go on -/
def tp_XG (B : Nat → Prop) (K f : Nat → Nat) (go : Nat → Int32) (g : Nat → Prop) : Prop :=
  (∀ s, g s → tp_P B K f s) ∧ (∀ s, tp_G B K f s → g s) ∧ ∀ s, s < 4096 → (go s = 0 ↔ ¬ g s)
theorem tp_XG_d {B : Nat → Prop} {K f : Nat → Nat} {go : Nat → Int32} {g : Nat → Prop} {s : Nat} (h : tp_XG B K f go g) (hc : ¬ tp_Cl K f g s) : tp_XG B K f (upd go s 0) (fun t => g t ∧ t ≠ s) := by
  refine ⟨fun t ht => h.1 t ht.1, fun t ht => ⟨h.2.1 t ht, fun e => ?_⟩, fun t ht => ?_⟩
  · subst e
    exact hc (tp_G_drop h.2.1 ht)
  · by_cases e : t = s
    · subst e; rw [pk_us]; exact ⟨fun _ z => z.2 rfl, fun _ => rfl⟩
    · rw [pk_un e, h.2.2 t ht]
      exact ⟨fun z y => z y.1, fun z y => z ⟨y, e⟩⟩
theorem tp_cn_d {g : Nat → Prop} {s : Nat} (hs : g s) (h4 : s < 4096) : tp_cn g 0 4096 = tp_cn (fun t => g t ∧ t ≠ s) 0 4096 + 1 :=
  tp_cn_p (P := fun t => g t ∧ t ≠ s) (Q := g) (fun z => z.2 rfl) hs (fun t ht => ⟨fun z => ⟨z, ht⟩, fun z => z.1⟩) (by omega) (by omega)
theorem tp_XG_c {B : Nat → Prop} {K f : Nat → Nat} {go : Nat → Int32} {g : Nat → Prop} (h : tp_XG B K f go g) (hc : ∀ s, g s → tp_Cl K f g s) (s : Nat) : g s ↔ tp_G B K f s :=
  ⟨fun hs => tp_G_all h.1 hc hs, h.2.1 s⟩
/-! what the component's arrays say once it has explored -/
def tp_XK (B : Nat → Prop) (K f : Nat → Nat) (F : Nat → Int32) (st fn : Nat → Int32) (ec : Int32) : Prop :=
  ∃ w : Nat → Option Nat, tp_Kn B K f w ∧ (∀ s n, w s = some n → n < 4096) ∧ (∀ s, s < 4096 → st s = tp_code (w s)) ∧ (∀ s, s < 4096 → fn s = F s) ∧ ec = nI (tp_cn (tp_G B K f) 0 4096)
theorem tp_XK_m {B : Nat → Prop} {K f : Nat → Nat} {F : Nat → Int32} {st fn : Nat → Int32} {ec : Int32} (h : tp_XK B K f F st fn ec) {s : Nat} (hs : s < 4096) : st s = -5 ↔ ¬ tp_P B K f s := by
  obtain ⟨w, hk, hn, hst, -⟩ := h
  rw [hst s hs, ← tp_Kn_P hk s]
  cases e : w s with
  | none => exact ⟨fun _ z => z rfl, fun _ => rfl⟩
  | some n => exact ⟨fun z => absurd z (tp_code_ne (by have := hn s n e; omega)), fun z => absurd (by simp) z⟩
theorem tp_XK_d {B : Nat → Prop} {K f : Nat → Nat} {F : Nat → Int32} {st fn : Nat → Int32} {ec : Int32} (h : tp_XK B K f F st fn ec) {s : Nat} (hs : s < 4096) (hp : tp_P B K f s) : ∃ n, n < 4096 ∧ st s = nI n ∧ tp_D B K f s n := by
  obtain ⟨w, hk, hn, hst, -⟩ := h
  rw [hst s hs]
  cases e : w s with
  | none => exact absurd hp (hk.2 s e)
  | some n => exact ⟨n, hn s n e, rfl, hk.1 s n e⟩
/-! what the reference's arrays say once it has worked out -/
def tp_YK (L : Nat) (B : Nat → Prop) (K f : Nat → Nat) (F : Nat → Int32) (all fst trp en : Nat → Int32) (ends : Int32) : Prop :=
  tp_S all (tp_P B K f) ∧
  (∀ p, p < 16 → ((∀ m, ¬ tp_H B K f p m) → fst p = -5) ∧ ∀ m, tp_L B K f p m → fst p = nI m) ∧
  (∀ p, p < 16 → trp p = nI (tp_cn (fun s => tp_P B K f s ∧ F s = -2) (256 * p) 256)) ∧
  tp_S en (tp_G B K f) ∧
  ends = nI (tp_b (∃ s, tp_P B K f s ∧ F s = -1))
