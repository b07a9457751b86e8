/-! small steps -/
theorem tp_nu {i : Nat} (hi : i < 2 ^ 31) {a : Nat → Int32} {v : Int32} {P : (Nat → Int32) → Prop} (h : P (upd a i v)) : ∀ b, b = upd a (nI i).toNatClampNeg v → P b := by
  intro b e
  rw [nI_clamp hi] at e
  subst e
  exact h
theorem tp_n1 {i : Nat} {P : Int32 → Prop} (h : P (nI (i + 1))) : ∀ y, y = nI i + 1 → P y := by
  intro y e
  rw [nI_1] at e
  subst e
  exact h
theorem tp_F0_o {L : Nat} {op c : Int32} {p x y : Nat} (h : L ≤ p) : tp_F0 L op c p x y = -1 := by
  unfold tp_F0
  rw [tp_if_t h]
theorem tp_F0_t {L : Nat} {op c : Int32} {p x y : Nat} (hp : p < L) (h : tp_tr op c x y) : tp_F0 L op c p x y = -2 := by
  unfold tp_F0
  rw [tp_if_f (by omega), tp_if_t h]
theorem tp_F0_g {L : Nat} {op c : Int32} {p x y : Nat} (hp : p < L) (h : tp_go L op c p x y) : tp_F0 L op c p x y = nI (tp_f0 op c p x y) := by
  unfold tp_F0
  rw [tp_if_f (by omega), tp_if_f h.1, tp_if_t h]
theorem tp_F0_n {L : Nat} {op c : Int32} {p x y : Nat} (ht : ¬ tp_tr op c x y) (h : ¬ tp_go L op c p x y) : tp_F0 L op c p x y = -1 := by
  unfold tp_F0
  rw [tp_if_f ht, tp_if_f h]
  by_cases z : L ≤ p
  · rw [tp_if_t z]
  · rw [tp_if_f z]
/-- no instruction at z -/
theorem tp_out {L : Nat} (hL : L ≤ 16) {z : Int32} (h : ∀ q, q < L → ¬ z = nI q) : ¬ (0 ≤ z ∧ z < nI L) := by
  intro ⟨h1, h2⟩
  obtain ⟨q, hq, e⟩ := nI_of (x := z) (Int32.not_lt.mpr h1)
  rw [e, nI_ltI hq (by omega)] at h2
  exact h q h2 e
theorem tp_inn {L q : Nat} (hL : L ≤ 16) {z : Int32} (hq : q < L) (e : z = nI q) : 0 ≤ z ∧ z < nI L := by
  subst e
  exact ⟨nI_pos' (by omega), nI_lt hq (by omega)⟩
/-! the component's methods that only reckon -/
theorem xw_place {post : Int32 → Prop} {p : Int32} (ht : ∀ q, q < 16 → p = nI q → post 1) (hf : (∀ q, q < 16 → ¬ p = nI q) → post 0) : wpX_isPlace post p := by
  rcases pk_ix p (n := 16) (by omega) with h | h | ⟨q, hq, rfl⟩
  · refine br_t h (hf (fun q hq e => ?_))
    subst e
    exact nI_pos (by omega) h
  · have h0 : ¬ p < 0 := Int32.not_lt.mpr (Int32.le_trans (by decide) h)
    refine br_f h0 (br_t h (hf (fun q hq e => ?_)))
    subst e
    exact nI_ge (b := 16) hq (by omega) h
  · exact br_f (nI_pos (by omega)) (br_f (nI_ge (b := 16) hq (by omega)) (ht q hq rfl))
theorem xw_reg {post : Int32 → Prop} {p : Int32} (ht : p = 0 ∨ p = 1 → post 1) (hf : ¬ (p = 0 ∨ p = 1) → post 0) : wpX_isRegister post p :=
  br_c (fun h => ht (Or.inl h)) (fun h => br_c (fun h' => ht (Or.inr h')) (fun h' => hf (fun z => z.elim h h')))
theorem xw_val {post : Int32 → Prop} {p : Int32} (ht : ∀ q, q < 16 → p = nI q → post 1) (hf : (∀ q, q < 16 → ¬ p = nI q) → post 0) : wpX_isValue post p := by
  rcases pk_ix p (n := 16) (by omega) with h | h | ⟨q, hq, rfl⟩
  · refine br_t h (hf (fun q hq e => ?_))
    subst e
    exact nI_pos (by omega) h
  · have h0 : ¬ p < 0 := Int32.not_lt.mpr (Int32.le_trans (by decide) h)
    have h1 : (15 : Int32) < p := Int32.lt_of_lt_of_le (by decide) h
    refine br_f h0 (br_t h1 (hf (fun q hq e => ?_)))
    subst e
    exact nI_ge (b := 16) hq (by omega) h
  · exact br_f (nI_pos (by omega)) (br_f (Int32.not_lt.mpr (nI_le (a := q) (b := 15) (by omega) (by omega))) (ht q hq rfl))
theorem xw_state {post : Int32 → Prop} {s : Nat} (hs : s < 4096) (h : post 1) : wpX_isState post (nI s) :=
  br_f (nI_pos (by omega)) (br_f (nI_ge (b := 4096) hs (by omega)) h)
theorem xw_state_n {post : Int32 → Prop} {x : Int32} (hx : x < 0) (h : post 0) : wpX_isState post x := br_t hx h
theorem xw_num {post : Int32 → Prop} {p x y : Nat} (h : post (nI (256 * p + 16 * x + y))) : wpX_stateNumber post (nI p) (nI x) (nI y) := by
  have e : nI p * nI 256 + nI x * nI 16 + nI y = nI (256 * p + 16 * x + y) := by
    rw [pk_mul, pk_mul, nI_add, nI_add, Nat.mul_comm p, Nat.mul_comm x]
  exact ek_v (P := post) e h
theorem xw_pl {post : Int32 → Prop} {s : Nat} (hs : s < 4096) (h : post (nI (s / 256))) : wpX_placeOf post (nI s) :=
  ⟨by decide, ek_v (P := post) (pk_div (a := s) (d := 256) (by omega) (by omega) (by omega)) h⟩
theorem xw_x {post : Int32 → Prop} {s : Nat} (hs : s < 4096) (h : post (nI (s / 16 % 16))) : wpX_xOf post (nI s) := by
  have e1 : nI s / 16 = nI (s / 16) := pk_div (a := s) (d := 16) (by omega) (by omega) (by omega)
  have e2 : nI (s / 16) - nI (s / 16) / 16 * 16 = nI (s / 16 % 16) := pk_rem (a := s / 16) (d := 16) (by omega) (by omega) (by omega)
  refine ⟨by decide, by decide, ?_⟩
  rw [e1, e2]
  exact h
theorem xw_y {post : Int32 → Prop} {s : Nat} (hs : s < 4096) (h : post (nI (s % 16))) : wpX_yOf post (nI s) :=
  ⟨by decide, ek_v (P := post) (pk_rem (a := s) (d := 16) (by omega) (by omega) (by omega)) h⟩
theorem xw_tr {post : Int32 → Prop} {op c : Int32} {x y : Nat} (hy : y < 16) (ht : tp_tr op c x y → post 1) (hf : ¬ tp_tr op c x y → post 0) : wpX_trapsWith post op c (nI x) (nI y) := by
  refine br_c (fun h6 => pk_eq y 0 (fun e => ht (Or.inl ⟨h6, e⟩)) (fun e => hf ?_)) (fun h6 => br_c (fun h8 => br_c (fun h => hf ?_) (fun h => ht (Or.inr ⟨h8, Int32.not_lt.mp h⟩))) (fun h8 => hf ?_))
  · rintro (z | z)
    · exact e z.2
    · exact absurd (h6.symm.trans z.1) (by decide)
  · rintro (z | z)
    · exact h6 z.1
    · exact absurd h (Int32.not_lt.mpr z.2)
  · rintro (z | z)
    · exact h6 z.1
    · exact h8 z.1
theorem xw_jp {post : Int32 → Prop} {op : Int32} {x y : Nat} (hx : x < 16) (hy : y < 16) (ht : tp_jp op x y → post 1) (hf : ¬ tp_jp op x y → post 0) : wpX_goesElsewhere post op (nI x) (nI y) := by
  refine br_c (fun h => hf ?_) (fun _ => br_c (fun h => hf ?_) (fun _ => br_c (fun e => ht (Or.inl e)) (fun n10 =>
    br_c (fun e11 => pk_eq x y (fun e => ht (Or.inr (Or.inl ⟨e11, e⟩))) (fun e => hf ?_)) (fun n11 =>
    br_c (fun e12 => pk_le y x (fun e => hf ?_) (fun e => ht (Or.inr (Or.inr (Or.inl ⟨e12, e⟩))))) (fun n12 =>
    br_c (fun e13 => pk_eq x 0 (fun e => ht (Or.inr (Or.inr (Or.inr ⟨e13, e⟩)))) (fun e => hf ?_)) (fun _ => trivial))))))
  · rintro (z | z | z | z)
    · subst z; exact absurd h (by decide)
    · rw [z.1] at h; exact absurd h (by decide)
    · rw [z.1] at h; exact absurd h (by decide)
    · rw [z.1] at h; exact absurd h (by decide)
  · rintro (z | z | z | z)
    · subst z; exact absurd h (by decide)
    · rw [z.1] at h; exact absurd h (by decide)
    · rw [z.1] at h; exact absurd h (by decide)
    · rw [z.1] at h; exact absurd h (by decide)
  · rintro (z | z | z | z)
    · exact n10 z
    · exact e z.2
    · exact absurd (e11.symm.trans z.1) (by decide)
    · exact absurd (e11.symm.trans z.1) (by decide)
  · rintro (z | z | z | z)
    · exact n10 z
    · exact n11 z.1
    · have := z.2; omega
    · exact absurd (e12.symm.trans z.1) (by decide)
  · rintro (z | z | z | z)
    · exact n10 z
    · exact n11 z.1
    · exact n12 z.1
    · exact e z.2
theorem xw_xa {post : Int32 → Prop} {op c : Int32} {x y : Nat} (hx : x < 16) (hy : y < 16) (h6 : op = 6 → y ≠ 0) (h : post (nI (tp_lo (tp_xe op c x y)))) : wpX_xAfter post op c (nI x) (nI y) := by
  rw [tp_xe_lo hx hy h6] at h
  refine br_c (fun k => ?_) (fun _ => br_c (fun k => ?_) (fun _ => br_c (fun e0 => ?_) (fun n0 => br_c (fun e1 => ?_) (fun n1 =>
    br_c (fun e2 => ?_) (fun n2 => br_c (fun e3 => ?_) (fun n3 => br_c (fun e4 => ?_) (fun n4 => br_c (fun e5 => ?_) (fun n5 =>
    br_c (fun e6 => ?_) (fun n6 => br_c (fun e7 => ?_) (fun _ => trivial))))))))))
  · have g : ∀ z : Int32, ¬ z < 0 → ¬ op = z := fun z hz e => hz (e ▸ k)
    rw [if_neg (g 0 (by decide)), if_neg (g 2 (by decide)), if_neg (g 3 (by decide)), if_neg (g 4 (by decide)), if_neg (g 5 (by decide)), if_neg (g 6 (by decide)), if_neg (g 7 (by decide))] at h
    exact h
  · have g : ∀ z : Int32, ¬ 7 < z → ¬ op = z := fun z hz e => hz (e ▸ k)
    rw [if_neg (g 0 (by decide)), if_neg (g 2 (by decide)), if_neg (g 3 (by decide)), if_neg (g 4 (by decide)), if_neg (g 5 (by decide)), if_neg (g 6 (by decide)), if_neg (g 7 (by decide))] at h
    exact h
  · rw [if_pos e0] at h; exact h
  · subst e1
    rw [if_neg (by decide), if_neg (by decide), if_neg (by decide), if_neg (by decide), if_neg (by decide), if_neg (by decide), if_neg (by decide)] at h
    exact h
  · rw [if_neg n0, if_pos e2] at h; exact h
  · rw [if_neg n0, if_neg n2, if_pos e3] at h; exact h
  · rw [if_neg n0, if_neg n2, if_neg n3, if_pos e4] at h; exact h
  · rw [if_neg n0, if_neg n2, if_neg n3, if_neg n4, if_pos e5] at h; exact h
  · rw [if_neg n0, if_neg n2, if_neg n3, if_neg n4, if_neg n5, if_pos e6] at h
    have hy0 : ¬ nI y = 0 := nI_ne0 (by have := h6 e6; omega) (by omega)
    exact br_f hy0 ⟨hy0, h⟩
  · rw [if_neg n0, if_neg n2, if_neg n3, if_neg n4, if_neg n5, if_neg n6, if_pos e7] at h; exact h
theorem xw_ya {post : Int32 → Prop} {op c : Int32} {x y : Nat} (hx : x < 16) (hy : y < 16) (h : post (nI (tp_lo (tp_ye op c x y)))) : wpX_leastYAfter post op c (nI x) (nI y) := by
  rw [tp_ye_lo hx hy] at h
  refine br_c (fun e1 => ?_) (fun n1 => br_c (fun e7 => ?_) (fun n7 => br_c (fun e9 => ?_) (fun n9 => ?_)))
  · rw [if_pos e1] at h; exact h
  · rw [if_neg n1, if_pos e7] at h; exact h
  · rw [if_neg n1, if_neg n7, if_pos e9] at h; exact h
  · rw [if_neg n1, if_neg n7, if_neg n9] at h; exact h
section
variable {ln lx gx ly gy ex pc ec : Int32} {ops nums ord st fn nc go : Nat → Int32} {L : Nat}
theorem xw_ins {post : Int32 → Prop} (hL : L ≤ 16) {p : Int32} (ht : ∀ q, q < L → p = nI q → post 1) (hf : (∀ q, q < L → ¬ p = nI q) → post 0) : wpX_isInstruction post (nI L, lx, gx, ly, gy, ex, pc, ec, ops, nums, ord, st, fn, nc, go) p := by
  unfold wpX_isInstruction
  dsimp only
  refine xw_place (fun q hq e => ?_) (fun hn => br_t rfl (hf (fun q hq => hn q (by omega))))
  subst e
  refine br_f (by decide) (pk_le L q (fun h => hf (fun q' hq' e => ?_)) (fun h => ht q h rfl))
  have := (nI_eq (by omega) (by omega)).mp e
  omega
theorem xw_77 {post : Int32 → Prop} (hL : L ≤ 16) {op c z : Int32} {p x y : Nat} (hx : x < 16) (hy : y < 16) (hp : p < L) (ht : ¬ tp_tr op c x y) (hz : z = tp_pl op c p x y) (h : post (tp_F0 L op c p x y)) : wX_firstStateAfter_77 post (nI x) (nI y) op c z (nI L) lx gx ly gy ex pc ec ops nums ord st fn nc go := by
  refine br_c (fun e14 => ?_) (fun n14 => xw_ins hL (fun q hq e => br_f (by decide) ?_) (fun hn => br_t rfl ?_))
  · rw [tp_F0_n ht (fun g => g.2.1 e14)] at h
    exact h
  · have hg : tp_go L op c p x y := ⟨ht, n14, by rw [← hz]; exact (tp_inn hL hq e).1, by rw [← hz]; exact (tp_inn hL hq e).2⟩
    rw [tp_F0_g hp hg] at h
    have h6 : op = 6 → y ≠ 0 := fun e6 e0 => ht (Or.inl ⟨e6, e0⟩)
    refine xw_xa hx hy h6 (xw_ya hx hy ?_)
    rw [e]
    refine xw_num ?_
    have ef : tp_f0 op c p x y = 256 * q + 16 * tp_lo (tp_xe op c x y) + tp_lo (tp_ye op c x y) := by
      unfold tp_f0
      rw [← hz, e, nI_clamp (by omega)]
      omega
    rw [← ef]
    exact h
  · rw [tp_F0_n ht (fun g => tp_out hL hn (by rw [hz]; exact g.2.2))] at h
    exact h
theorem xw_first {post : Int32 → Prop} (hL : L ≤ 16) {s : Nat} (hs : s < 4096) (h : post (tp_F ops nums L s)) : wpX_firstStateAfter post (nI L, lx, gx, ly, gy, ex, pc, ec, ops, nums, ord, st, fn, nc, go) (nI s) := by
  unfold wpX_firstStateAfter
  dsimp only
  refine xw_pl hs (xw_ins hL (fun q hq e => ?_) (fun hn => br_t rfl ?_))
  · have eq : s / 256 = q := (nI_eq (by omega) (by omega)).mp e
    subst eq
    have hx : s / 16 % 16 < 16 := Nat.mod_lt _ (by omega)
    have hy : s % 16 < 16 := Nat.mod_lt _ (by omega)
    have hi : vp_in (nI (s / 256)) 16 := vp_in_nI (by omega) (by omega)
    refine br_f (by decide) (xw_x hs (xw_y hs ⟨hi, fun op eop => ⟨hi, fun c ec => ?_⟩⟩))
    rw [nI_clamp (by omega)] at eop ec
    subst eop
    subst ec
    unfold tp_F at h
    refine xw_tr hy (fun t => br_f (by decide) ?_) (fun t => br_t rfl (xw_jp hx hy (fun j => br_f (by decide) ?_) (fun j => br_t rfl ?_)))
    · rw [tp_F0_t hq t] at h
      exact h
    · exact xw_77 hL hx hy hq t (by unfold tp_pl; rw [tp_if_t j]) h
    · exact xw_77 hL hx hy hq t (by unfold tp_pl; rw [tp_if_f j, nI_1]) h
  · unfold tp_F at h
    rw [tp_F0_o (by
      rcases Nat.lt_or_ge (s / 256) L with z | z
      · exact absurd rfl (hn _ z)
      · exact z)] at h
    exact h
theorem xw_ch {post : Int32 → Prop} (hL : L ≤ 16) {s : Nat} (hs : s < 4096) (h9 : s / 256 < L → ops (s / 256) = 9 → post 16) (h1 : (s / 256 < L → ¬ ops (s / 256) = 9) → post 1) : wpX_choicesAt post (nI L, lx, gx, ly, gy, ex, pc, ec, ops, nums, ord, st, fn, nc, go) (nI s) := by
  unfold wpX_choicesAt
  dsimp only
  refine xw_pl hs (xw_ins hL (fun q hq e => ?_) (fun hn => br_t rfl (h1 (fun z => absurd rfl (hn _ z)))))
  have eq : s / 256 = q := (nI_eq (by omega) (by omega)).mp e
  subst eq
  refine br_f (by decide) ⟨vp_in_nI (by omega) (by omega), ?_⟩
  rw [nI_clamp (by omega)]
  exact br_c (fun e9 => h9 hq e9) (fun n9 => h1 (fun _ => n9))
theorem xw_poss {post : Int32 → Prop} {s : Nat} (h4 : s < 4096) (ht : ¬ st s = -5 → post 1) (hf : st s = -5 → post 0) : wpX_isPossible post (ln, lx, gx, ly, gy, ex, pc, ec, ops, nums, ord, st, fn, nc, go) (nI s) := by
  unfold wpX_isPossible
  dsimp only
  refine xw_state h4 (br_f (by decide) ⟨vp_in_nI h4 (by omega), ?_⟩)
  rw [nI_clamp (by omega)]
  exact br_c hf ht
theorem xw_pwn {post : Int32 → Prop} {s : Nat} {z : Int32} (h4 : s < 4096) (ht : ¬ st s = -5 → fn s = z → post 1) (hf : ¬ (¬ st s = -5 ∧ fn s = z) → post 0) : wpX_isPossibleWithNext post (ln, lx, gx, ly, gy, ex, pc, ec, ops, nums, ord, st, fn, nc, go) (nI s) z := by
  unfold wpX_isPossibleWithNext
  dsimp only
  refine xw_poss h4 (fun h => br_f (by decide) ⟨vp_in_nI h4 (by omega), ?_⟩) (fun h => br_t rfl (hf (fun y => y.1 h)))
  rw [nI_clamp (by omega)]
  exact br_c (fun e => ht h e) (fun e => hf (fun y => e y.2))
theorem xw_still {post : Int32 → Prop} {s : Nat} (h4 : s < 4096) (ht : ¬ go s = 0 → post 1) (hf : go s = 0 → post 0) : wpX_stillGoesOn post (ln, lx, gx, ly, gy, ex, pc, ec, ops, nums, ord, st, fn, nc, go) (nI s) := by
  unfold wpX_stillGoesOn
  dsimp only
  refine xw_state h4 (br_f (by decide) ⟨vp_in_nI h4 (by omega), ?_⟩)
  rw [nI_clamp (by omega)]
  exact br_c hf ht
theorem xw_may {post : Int32 → Prop} {a b c d x y : Nat} (ha : a < 16) (hb : b < 16) (hc : c < 16) (hd : d < 16) (hx : x < 16) (hy : y < 16) (ht : a ≤ x ∧ x ≤ b ∧ c ≤ y ∧ y ≤ d → post 1) (hf : ¬ (a ≤ x ∧ x ≤ b ∧ c ≤ y ∧ y ≤ d) → post 0) : wpX_mayBeginWith post (ln, nI a, nI b, nI c, nI d, ex, pc, ec, ops, nums, ord, st, fn, nc, go) (nI x) (nI y) := by
  unfold wpX_mayBeginWith
  dsimp only
  exact pk_lt x a (fun h => hf (by omega)) (fun h1 => pk_lt b x (fun h => hf (by omega)) (fun h2 => pk_lt y c (fun h => hf (by omega)) (fun h3 => pk_lt d y (fun h => hf (by omega)) (fun h4 => ht ⟨h1, h2, h3, h4⟩))))
end
