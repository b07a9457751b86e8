/-! a round at stage n: the states of the layer below cur are gone through -/
def tp_Zc (B : Nat → Prop) (K f : Nat → Nat) (n cur s : Nat) : Prop := (tp_A B K f n s ∧ ¬ tp_D B K f s n) ∨ (tp_D B K f s n ∧ s < cur)
def tp_Nc (B : Nat → Prop) (K f : Nat → Nat) (n cur s : Nat) : Prop := ¬ tp_A B K f n s ∧ ∃ t, tp_D B K f t n ∧ t < cur ∧ tp_E K f t s
theorem tp_Zc_0 {B : Nat → Prop} {K f : Nat → Nat} {n : Nat} (s : Nat) : tp_Zc B K f n 0 s ↔ (tp_A B K f n s ∧ ¬ tp_D B K f s n) :=
  ⟨fun h => h.elim id (fun z => absurd z.2 (Nat.not_lt_zero _)), Or.inl⟩
theorem tp_Nc_0 {B : Nat → Prop} {K f : Nat → Nat} {n : Nat} (s : Nat) : ¬ tp_Nc B K f n 0 s := fun ⟨_, _, _, h, _⟩ => Nat.not_lt_zero _ h
theorem tp_Zc_k {B : Nat → Prop} {K f : Nat → Nat} {n t : Nat} (h : ¬ tp_D B K f t n) (s : Nat) : tp_Zc B K f n t s ↔ tp_Zc B K f n (t + 1) s := by
  refine ⟨fun z => z.elim Or.inl (fun y => Or.inr ⟨y.1, by have := y.2; omega⟩), fun z => z.elim Or.inl (fun y => Or.inr ⟨y.1, ?_⟩)⟩
  have h2 := y.2
  rcases Nat.lt_or_ge s t with q | q
  · exact q
  · have e : s = t := by omega
    rw [e] at y
    exact absurd y.1 h
theorem tp_Nc_k {B : Nat → Prop} {K f : Nat → Nat} {n t : Nat} (h : ¬ tp_D B K f t n) (s : Nat) : tp_Nc B K f n t s ↔ tp_Nc B K f n (t + 1) s := by
  refine ⟨fun ⟨a, q, b, c, d⟩ => ⟨a, q, b, by omega, d⟩, fun ⟨a, q, b, c, d⟩ => ⟨a, q, b, ?_, d⟩⟩
  rcases Nat.lt_or_ge q t with z | z
  · exact z
  · have e : q = t := by omega
    rw [e] at b
    exact absurd b h
theorem tp_Zc_s {B : Nat → Prop} {K f : Nat → Nat} {n t : Nat} (h : tp_D B K f t n) (s : Nat) : (tp_Zc B K f n t s ∨ s = t) ↔ tp_Zc B K f n (t + 1) s := by
  constructor
  · rintro (z | z)
    · exact z.elim Or.inl (fun y => Or.inr ⟨y.1, by have := y.2; omega⟩)
    · subst z
      exact Or.inr ⟨h, by omega⟩
  · rintro (z | z)
    · exact Or.inl (Or.inl z)
    · have z2 := z.2
      rcases Nat.lt_or_ge s t with q | q
      · exact Or.inl (Or.inr ⟨z.1, q⟩)
      · exact Or.inr (by omega)
theorem tp_Nc_s {B : Nat → Prop} {K f : Nat → Nat} {n t : Nat} (h : tp_D B K f t n) (s : Nat) : (tp_Nc B K f n t s ∨ (¬ tp_A B K f n s ∧ tp_E K f t s)) ↔ tp_Nc B K f n (t + 1) s := by
  constructor
  · rintro (⟨a, q, b, c, d⟩ | ⟨a, d⟩)
    · exact ⟨a, q, b, by omega, d⟩
    · exact ⟨a, t, h, by omega, d⟩
  · rintro ⟨a, q, b, c, d⟩
    rcases Nat.lt_or_ge q t with z | z
    · exact Or.inl ⟨a, q, b, z, d⟩
    · have e : q = t := by omega
      rw [e] at d
      exact Or.inr ⟨a, d⟩
theorem tp_Zc_n {B : Nat → Prop} {K f : Nat → Nat} {n t : Nat} (h : tp_D B K f t n) : ¬ tp_Zc B K f n t t := by
  rintro (z | z)
  · exact z.2 h
  · exact Nat.lt_irrefl _ z.2
theorem tp_D_lt {L : Nat} {B : Nat → Prop} {K f : Nat → Nat} {n s : Nat} (hL : L ≤ 16) (W : tp_Wf L B K f) (h : tp_D B K f s n) : s < 4096 := by
  have := tp_R_lt W h.1
  omega
theorem tp_Zc_x {L : Nat} {B : Nat → Prop} {K f : Nat → Nat} {n : Nat} (hL : L ≤ 16) (W : tp_Wf L B K f) (s : Nat) : tp_Zc B K f n 4096 s ↔ tp_A B K f n s := by
  constructor
  · rintro (z | z)
    · exact z.1
    · exact tp_D_A z.1
  · intro z
    rcases Classical.em (tp_D B K f s n) with h | h
    · exact Or.inr ⟨h, tp_D_lt hL W h⟩
    · exact Or.inl ⟨z, h⟩
theorem tp_Nc_x {L : Nat} {B : Nat → Prop} {K f : Nat → Nat} {n : Nat} (hL : L ≤ 16) (W : tp_Wf L B K f) (s : Nat) : tp_Nc B K f n 4096 s ↔ tp_D B K f s (n + 1) := by
  rw [tp_lay]
  exact ⟨fun ⟨a, t, b, _, d⟩ => ⟨a, t, b, d⟩, fun ⟨a, t, b, d⟩ => ⟨a, t, b, tp_D_lt hL W b, d⟩⟩
/-! going on from t: v values tried -/
def tp_Zv (Z : Nat → Prop) (t v s : Nat) : Prop := Z s ∨ (s = t ∧ 0 < v)
def tp_Nv (Fd A : Nat → Prop) (K f : Nat → Nat) (t v s : Nat) : Prop := Fd s ∨ (¬ A s ∧ ∃ k, k < v ∧ k < K t ∧ s = f t + k)
theorem tp_Nv_x {Fd A : Nat → Prop} {K f : Nat → Nat} {t : Nat} (hK : K t ≤ 16) (s : Nat) : tp_Nv Fd A K f t 16 s ↔ (Fd s ∨ (¬ A s ∧ tp_E K f t s)) :=
  ⟨fun h => h.elim Or.inl (fun ⟨a, k, _, b, c⟩ => Or.inr ⟨a, k, b, c⟩), fun h => h.elim Or.inl (fun ⟨a, k, b, c⟩ => Or.inr ⟨a, k, by omega, b, c⟩)⟩
/-- no next state with this v -/
theorem tp_Nv_k {Fd A : Nat → Prop} {K f : Nat → Nat} {t v : Nat} (hK : K t ≤ v) (s : Nat) : tp_Nv Fd A K f t v s ↔ tp_Nv Fd A K f t (v + 1) s :=
  ⟨fun h => h.elim Or.inl (fun ⟨a, k, b, c⟩ => Or.inr ⟨a, k, by omega, c⟩), fun h => h.elim Or.inl (fun ⟨a, k, _, c, d⟩ => Or.inr ⟨a, k, by omega, c, d⟩)⟩
theorem tp_Nv_s {Fd A : Nat → Prop} {K f : Nat → Nat} {t v : Nat} (hK : v < K t) (s : Nat) : (tp_Nv Fd A K f t v s ∨ (s = f t + v ∧ ¬ A s)) ↔ tp_Nv Fd A K f t (v + 1) s := by
  constructor
  · rintro ((h | ⟨a, k, b, c⟩) | ⟨h, a⟩)
    · exact Or.inl h
    · exact Or.inr ⟨a, k, by omega, c⟩
    · exact Or.inr ⟨a, v, by omega, hK, h⟩
  · rintro (h | ⟨a, k, b, c, d⟩)
    · exact Or.inl (Or.inl h)
    · rcases Nat.lt_or_ge k v with z | z
      · exact Or.inl (Or.inr ⟨a, k, z, c, d⟩)
      · have e : k = v := by omega
        subst e
        exact Or.inr ⟨d, a⟩
theorem tp_Zv_k {Z : Nat → Prop} {t v : Nat} (hv : 0 < v) (s : Nat) : tp_Zv Z t v s ↔ tp_Zv Z t (v + 1) s :=
  ⟨fun h => h.elim Or.inl (fun z => Or.inr ⟨z.1, by omega⟩), fun h => h.elim Or.inl (fun z => Or.inr ⟨z.1, hv⟩)⟩
theorem tp_Zv_s {Z : Nat → Prop} {t v : Nat} (s : Nat) : (tp_Zv Z t v s ∨ s = t) ↔ tp_Zv Z t (v + 1) s := by
  constructor
  · rintro ((h | h) | h)
    · exact Or.inl h
    · exact Or.inr ⟨h.1, by omega⟩
    · exact Or.inr ⟨h, by omega⟩
  · rintro (h | h)
    · exact Or.inl (Or.inl h)
    · exact Or.inr h.1
theorem tp_Zv_x {Z : Nat → Prop} {t : Nat} (s : Nat) : tp_Zv Z t 16 s ↔ (Z s ∨ s = t) :=
  ⟨fun h => h.elim Or.inl (fun z => Or.inr z.1), fun h => h.elim Or.inl (fun z => Or.inr ⟨z, by omega⟩)⟩
theorem tp_Zv_0 {Z : Nat → Prop} {t : Nat} (s : Nat) : Z s ↔ tp_Zv Z t 0 s :=
  ⟨Or.inl, fun h => h.elim id (fun z => absurd z.2 (Nat.lt_irrefl _))⟩
theorem tp_Nv_0 {Fd A : Nat → Prop} {K f : Nat → Nat} {t : Nat} (s : Nat) : Fd s ↔ tp_Nv Fd A K f t 0 s :=
  ⟨Or.inl, fun h => h.elim id (fun ⟨_, _, z, _⟩ => absurd z (Nat.not_lt_zero _))⟩
/-! a whole stage -/
def tp_YS (B : Nat → Prop) (K f : Nat → Nat) (F : Nat → Int32) (n : Nat) (all last fst trp : Nat → Int32) (ends : Int32) : Prop :=
  tp_S all (tp_A B K f n) ∧ tp_S last (fun s => tp_D B K f s n) ∧ tp_Fs B K f fst n ∧
  (∀ p, p < 16 → trp p = nI (tp_cn (fun s => (tp_A B K f n s ∧ ¬ tp_D B K f s n) ∧ F s = -2) (256 * p) 256)) ∧ ends = nI (tp_b (∃ s, (tp_A B K f n s ∧ ¬ tp_D B K f s n) ∧ F s = -1))
theorem tp_YS_r {B : Nat → Prop} {K f : Nat → Nat} {F : Nat → Int32} {n : Nat} {all last fst trp fd : Nat → Int32} {ends : Int32} (h : tp_YS B K f F n all last fst trp ends) (h0 : ∀ i, i < 256 → fd i = 0) : tp_YZ F (tp_Zc B K f n 0) (tp_Nc B K f n 0) fd trp ends := by
  have e : (fun s => tp_A B K f n s ∧ ¬ tp_D B K f s n) = tp_Zc B K f n 0 := funext (fun s => propext (tp_Zc_0 s).symm)
  refine ⟨fun i hi => ?_, ?_, ?_⟩
  · rw [h0 i hi]; exact tp_M_0 (fun j _ => tp_Nc_0 _)
  · rw [← e]; exact h.2.2.2.1
  · rw [← e]; exact h.2.2.2.2
/-- after a round and a take -/
theorem tp_YS_s {L : Nat} {B : Nat → Prop} {K f : Nat → Nat} {F : Nat → Int32} {n : Nat} {all last fst trp fd all' last' fst' : Nat → Int32} {ends ends0 : Int32} {trp0 : Nat → Int32} (hL : L ≤ 16) (W : tp_Wf L B K f) (hn : n < 2 ^ 30) (h : tp_YS B K f F n all last fst trp0 ends0) (hz : tp_YZ F (tp_A B K f n) (fun s => tp_D B K f s (n + 1)) fd trp ends)
    (ha : tp_S all' (fun s => tp_A B K f n s ∨ tp_D B K f s (n + 1))) (hl : tp_S last' (fun s => tp_D B K f s (n + 1))) (hf : tp_YF fst fst' (fun s => tp_D B K f s (n + 1)) (n + 1) 256) : tp_YS B K f F (n + 1) all' last' fst' trp ends := by
  have e : tp_A B K f n = (fun s => tp_A B K f (n + 1) s ∧ ¬ tp_D B K f s (n + 1)) := by
    funext s
    apply propext
    rw [tp_A_s]
    constructor
    · intro z
      refine ⟨Or.inl z, fun y => ?_⟩
      exact (tp_lay.mp y).1 z
    · rintro ⟨z | z, y⟩
      · exact z
      · exact absurd z y
  refine ⟨tp_S_e ha (fun s _ => tp_A_s.symm), hl, tp_Fs_s hL W hn h.2.2.1 hf, ?_, ?_⟩
  · rw [e] at hz; exact hz.2.1
  · rw [e] at hz; exact hz.2.2
theorem tp_YS_0 {L : Nat} {B : Nat → Prop} {K f : Nat → Nat} {F : Nat → Int32} {all' last' fst fst' trp : Nat → Int32} {ends : Int32} (hL : L ≤ 16) (W : tp_Wf L B K f) (ht : ∀ p, p < 16 → trp p = 0) (he : ends = 0) (h0 : ∀ p, p < 16 → fst p = -5)
    (ha : tp_S all' B) (hl : tp_S last' B) (hf : tp_YF fst fst' B 0 256) : tp_YS B K f F 0 all' last' fst' trp ends := by
  have no : ∀ s, ¬ (tp_A B K f 0 s ∧ ¬ tp_D B K f s 0) := fun s z => z.2 (tp_D_0.mpr (tp_A_0.mp z.1))
  refine ⟨tp_S_e ha (fun s _ => tp_A_0.symm), tp_S_e hl (fun s _ => tp_D_0.symm), tp_Fs_0 (fun s hs => by have := W.1 s hs; omega) h0 hf, fun p hp => ?_, ?_⟩
  · rw [ht p hp, tp_cn_0 (fun s _ _ z => no s z.1)]; rfl
  · rw [he, tp_b0 (fun ⟨s, z, _⟩ => no s z)]; rfl
/-- the last layer is empty -/
theorem tp_YS_x {B : Nat → Prop} {K f : Nat → Nat} {F : Nat → Int32} {n : Nat} {all last fst trp : Nat → Int32} {ends : Int32} (h : tp_YS B K f F n all last fst trp ends) (hn : ∀ s, ¬ tp_D B K f s n) :
    tp_S all (tp_P B K f) ∧ (∀ p, p < 16 → ((∀ m, ¬ tp_H B K f p m) → fst p = -5) ∧ ∀ m, tp_L B K f p m → fst p = nI m) ∧
    (∀ p, p < 16 → trp p = nI (tp_cn (fun s => tp_P B K f s ∧ F s = -2) (256 * p) 256)) ∧ ends = nI (tp_b (∃ s, tp_P B K f s ∧ F s = -1)) := by
  have e : (fun s => tp_A B K f n s ∧ ¬ tp_D B K f s n) = tp_P B K f := by
    funext s
    apply propext
    rw [tp_A_end hn]
    exact ⟨fun z => z.1, fun z => ⟨z, hn s⟩⟩
  refine ⟨tp_S_e h.1 (fun s _ => tp_A_end hn), tp_Fs_e hn h.2.2.1, ?_, ?_⟩
  · rw [← e]; exact h.2.2.2.1
  · rw [← e]; exact h.2.2.2.2
/-- how many states a stage has at least, while the last layer isn't empty -/
theorem tp_cA_0 {L : Nat} {B : Nat → Prop} {K f : Nat → Nat} (hL : L ≤ 16) (W : tp_Wf L B K f) (h : ∃ s, tp_D B K f s 0) : 1 ≤ tp_cn (tp_A B K f 0) 0 4096 := by
  obtain ⟨s, hs⟩ := h
  exact tp_cn_pos (s := s) (tp_D_A hs) (by omega) (by have := tp_D_lt hL W hs; omega)
theorem tp_cA_s {L : Nat} {B : Nat → Prop} {K f : Nat → Nat} {n : Nat} (hL : L ≤ 16) (W : tp_Wf L B K f) (h : ∃ s, tp_D B K f s (n + 1)) (hc : n + 1 ≤ tp_cn (tp_A B K f n) 0 4096) : n + 1 + 1 ≤ tp_cn (tp_A B K f (n + 1)) 0 4096 := by
  obtain ⟨s, hs⟩ := h
  have x := tp_cn_sub (P := tp_A B K f n) (Q := tp_A B K f (n + 1)) (a := 0) (n := 4096) (s := s) (fun t _ _ z => tp_A_s.mpr (Or.inl z)) (tp_lay.mp hs).1 (tp_D_A hs) (by omega) (by have := tp_D_lt hL W hs; omega)
  omega
theorem tp_D_d {B : Nat → Prop} {K f : Nat → Nat} {n : Nat} (h : ∃ s, tp_D B K f s (n + 1)) : ∃ s, tp_D B K f s n := by
  obtain ⟨s, hs⟩ := h
  obtain ⟨t, ht, _⟩ := (tp_lay.mp hs).2
  exact ⟨t, ht⟩
