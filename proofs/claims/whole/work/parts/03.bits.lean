/-! bits of a row -/
theorem tp_bt1 : ∀ i, i < 32 → bt 1 i = decide (i = 0) := by decide +kernel
theorem tp_and1 (x : Int32) : x &&& 1 = if bt x 0 = true then 1 else 0 := by
  apply b_ext
  intro i hi
  rw [b_and, tp_bt1 i hi]
  by_cases e : i = 0
  · subst e
    by_cases h : bt x 0 = true
    · rw [if_pos h, h, tp_bt1 0 hi]; rfl
    · rw [if_neg h, b_0, Bool.eq_false_iff.mpr h]; rfl
  · rw [decide_eq_false e, Bool.and_false]
    by_cases h : bt x 0 = true
    · rw [if_pos h, tp_bt1 i hi, decide_eq_false e]
    · rw [if_neg h, b_0]
theorem tp_sh0 {y : Nat} (hy : y < 32) (m : Int32) : bt (m >>> (nI y &&& 31)) 0 = bt m y := by
  rw [b_sshr y hy m (by omega)]
  simp [hy]
theorem tp_sh {y : Nat} (hy : y < 32) (m : Int32) : (m >>> (nI y &&& 31)) &&& 1 = if bt m y = true then 1 else 0 := by
  rw [tp_and1, tp_sh0 hy]
theorem tp_1sh {y : Nat} (hy : y < 32) {i : Nat} (hi : i < 32) : bt ((1 : Int32) <<< (nI y &&& 31)) i = decide (i = y) := by
  rw [b_shl y hy 1 hi, tp_bt1 (i - y) (by omega)]
  by_cases e : i = y
  · subst e; simp
  · rw [decide_eq_false e]
    rcases Nat.lt_or_ge i y with z | z
    · rw [decide_eq_false (Nat.not_le.mpr z), Bool.false_and]
    · rw [decide_eq_false (show ¬ i - y = 0 by omega), Bool.and_false]
/-- m is row i of the set S -/
def tp_M (m : Int32) (i : Nat) (S : Nat → Prop) : Prop := ∀ j, j < 32 → (bt m j = true ↔ j < 16 ∧ S (16 * i + j))
theorem tp_M_u {m m' : Int32} {i : Nat} {S : Nat → Prop} (h : tp_M m i S) (h' : tp_M m' i S) : m = m' :=
  b_ext (fun j hj => Bool.eq_iff_iff.mpr ((h j hj).trans (h' j hj).symm))
theorem tp_M_e {m : Int32} {i : Nat} {S S' : Nat → Prop} (h : tp_M m i S) (e : ∀ j, j < 16 → (S (16 * i + j) ↔ S' (16 * i + j))) : tp_M m i S' :=
  fun j hj => (h j hj).trans ⟨fun z => ⟨z.1, (e j z.1).mp z.2⟩, fun z => ⟨z.1, (e j z.1).mpr z.2⟩⟩
theorem tp_M_0 {i : Nat} {S : Nat → Prop} (h : ∀ j, j < 16 → ¬ S (16 * i + j)) : tp_M 0 i S := by
  intro j hj
  rw [b_0]
  exact ⟨fun z => by simp at z, fun z => absurd z.2 (h j z.1)⟩
theorem tp_M_z {m : Int32} {i : Nat} {S : Nat → Prop} (h : tp_M m i S) : m = 0 ↔ ∀ j, j < 16 → ¬ S (16 * i + j) := by
  constructor
  · intro e j hj hs
    have x := (h j (by omega)).mpr ⟨hj, hs⟩
    rw [e, b_0] at x
    simp at x
  · exact fun z => tp_M_u h (tp_M_0 z)
theorem tp_M_or {m m' : Int32} {i : Nat} {S S' : Nat → Prop} (h : tp_M m i S) (h' : tp_M m' i S') : tp_M (m ||| m') i (fun s => S s ∨ S' s) := by
  intro j hj
  rw [b_or, Bool.or_eq_true, h j hj, h' j hj]
  exact ⟨fun z => z.elim (fun y => ⟨y.1, Or.inl y.2⟩) (fun y => ⟨y.1, Or.inr y.2⟩), fun z => z.2.elim (fun y => Or.inl ⟨z.1, y⟩) (fun y => Or.inr ⟨z.1, y⟩)⟩
theorem tp_M_1 {y : Nat} (hy : y < 16) (i : Nat) : tp_M ((1 : Int32) <<< (nI y &&& 31)) i (fun s => s = 16 * i + y) := by
  intro j hj
  rw [tp_1sh (by omega) hj, decide_eq_true_iff]
  exact ⟨fun z => ⟨by omega, by omega⟩, fun z => by have := z.2; omega⟩
theorem tp_M_not {m m' : Int32} {i : Nat} {S S' : Nat → Prop} (h : tp_M m i S) (h' : tp_M m' i S') : tp_M (m &&& (m' ^^^ (-1))) i (fun s => S s ∧ ¬ S' s) := by
  intro j hj
  rw [b_and, b_xor, b_m1 j hj, Bool.and_eq_true, h j hj]
  have x := h' j hj
  constructor
  · intro ⟨z1, z2⟩
    refine ⟨z1.1, z1.2, fun w => ?_⟩
    rw [x.mpr ⟨z1.1, w⟩] at z2
    simp at z2
  · intro ⟨z1, z2, z3⟩
    refine ⟨⟨z1, z2⟩, ?_⟩
    have q : bt m' j = false := Bool.eq_false_iff.mpr (fun w => z3 (x.mp w).2)
    rw [q]; rfl
theorem tp_M_val {m : Int32} {i y : Nat} {S : Nat → Prop} (h : tp_M m i S) (hy : y < 16) : (m >>> (nI y &&& 31)) &&& 1 = nI (tp_b (S (16 * i + y))) := by
  rw [tp_sh (by omega)]
  have x := h y (by omega)
  by_cases c : bt m y = true
  · rw [if_pos c, tp_b1 (x.mp c).2]; rfl
  · rw [if_neg c, tp_b0 (fun z => c (x.mpr ⟨hy, z⟩))]; rfl
theorem tp_M_bit {m : Int32} {i y : Nat} {S : Nat → Prop} (h : tp_M m i S) (hy : y < 16) : (m >>> (nI y &&& 31)) &&& 1 = 1 ↔ S (16 * i + y) := by
  rw [tp_M_val h hy]
  by_cases c : S (16 * i + y)
  · rw [tp_b1 c]; exact ⟨fun _ => c, fun _ => rfl⟩
  · rw [tp_b0 c]; exact ⟨fun z => absurd z (by decide), fun z => absurd z c⟩
theorem tp_M_k {y : Nat} (hy : y < 16) (i : Nat) (c : Prop) : tp_M (nI (tp_b c) <<< (nI y &&& 31)) i (fun s => s = 16 * i + y ∧ c) := by
  by_cases h : c
  · rw [tp_b1 h]
    exact tp_M_e (tp_M_1 hy i) (fun j _ => ⟨fun z => ⟨z, h⟩, fun z => z.1⟩)
  · rw [tp_b0 h]
    intro j hj
    rw [show nI 0 = 0 from nI_0, b_shl y (by omega) 0 hj, b_0, Bool.and_false]
    exact ⟨fun z => by simp at z, fun z => absurd z.2.2 h⟩
/-- the array is the set -/
def tp_S (a : Nat → Int32) (S : Nat → Prop) : Prop := ∀ i, i < 256 → tp_M (a i) i S
theorem tp_S_e {a : Nat → Int32} {S S' : Nat → Prop} (h : tp_S a S) (e : ∀ s, s < 4096 → (S s ↔ S' s)) : tp_S a S' :=
  fun i hi => tp_M_e (h i hi) (fun j hj => e _ (by omega))
theorem tp_S_u {a : Nat → Int32} {S S' : Nat → Prop} {i : Nat} {m : Int32} (h : tp_S a S) (hi : i < 256) (hm : tp_M m i S') (ho : ∀ s, s / 16 ≠ i → (S s ↔ S' s)) : tp_S (upd a i m) S' := by
  intro k hk
  by_cases e : k = i
  · subst e; rw [pk_us]; exact hm
  · rw [pk_un e]
    exact tp_M_e (h k hk) (fun j hj => ho _ (by omega))
theorem tp_S_b {a : Nat → Int32} {S : Nat → Prop} (h : tp_S a S) {s : Nat} (hs : s < 4096) : ((a (s / 16)) >>> (nI (s % 16) &&& 31)) &&& 1 = nI (tp_b (S s)) := by
  rw [tp_M_val (h (s / 16) (by omega)) (Nat.mod_lt _ (by omega)), show 16 * (s / 16) + s % 16 = s by omega]
/-! one step -/
noncomputable def tp_if {α : Type} (P : Prop) (a b : α) : α := @ite α P (Classical.propDecidable P) a b
theorem tp_if_t {α : Type} {P : Prop} {a b : α} (h : P) : tp_if P a b = a := by unfold tp_if; rw [if_pos h]
theorem tp_if_f {α : Type} {P : Prop} {a b : α} (h : ¬ P) : tp_if P a b = b := by unfold tp_if; rw [if_neg h]
def tp_lo (z : Int32) : Nat := z.toBitVec.toNat % 16
theorem tp_lo_lt (z : Int32) : tp_lo z < 16 := Nat.mod_lt _ (by omega)
theorem tp_lo_and (z : Int32) : z &&& 15 = nI (tp_lo z) := pk_and z 4 (by decide)
theorem tp_lo_nI {n : Nat} (h : n < 16) : tp_lo (nI n) = n := by
  unfold tp_lo
  rw [pk_tn (by omega), Nat.mod_eq_of_lt h]
def tp_xe (op c : Int32) (x y : Nat) : Int32 := if op = 0 then c else if op = 2 then nI x + c else if op = 3 then nI x + nI y else if op = 4 then nI x - nI y else if op = 5 then nI x * nI y else if op = 6 then nI x / nI y else if op = 7 then nI y else nI x
def tp_ye (op c : Int32) (x y : Nat) : Int32 := if op = 1 then c else if op = 7 then nI x else if op = 9 then 0 else nI y
def tp_tr (op c : Int32) (x y : Nat) : Prop := (op = 6 ∧ y = 0) ∨ (op = 8 ∧ c &&& 31 ≤ nI x)
def tp_jp (op : Int32) (x y : Nat) : Prop := op = 10 ∨ (op = 11 ∧ x = y) ∨ (op = 12 ∧ x < y) ∨ (op = 13 ∧ x = 0)
noncomputable def tp_pl (op c : Int32) (p x y : Nat) : Int32 := tp_if (tp_jp op x y) c (nI (p + 1))
def tp_go (L : Nat) (op c : Int32) (p x y : Nat) : Prop := ¬ tp_tr op c x y ∧ ¬ op = 14 ∧ 0 ≤ tp_pl op c p x y ∧ tp_pl op c p x y < nI L
noncomputable def tp_f0 (op c : Int32) (p x y : Nat) : Nat := (tp_pl op c p x y).toNatClampNeg * 256 + tp_lo (tp_xe op c x y) * 16 + tp_lo (tp_ye op c x y)
noncomputable def tp_F0 (L : Nat) (op c : Int32) (p x y : Nat) : Int32 := tp_if (L ≤ p) (-1) (tp_if (tp_tr op c x y) (-2) (tp_if (tp_go L op c p x y) (nI (tp_f0 op c p x y)) (-1)))
noncomputable def tp_K0 (L : Nat) (op c : Int32) (p x y : Nat) : Nat := tp_if (p < L ∧ tp_go L op c p x y) (tp_if (op = 9) 16 1) 0
noncomputable def tp_f (ops nums : Nat → Int32) (s : Nat) : Nat := tp_f0 (ops (s / 256)) (nums (s / 256)) (s / 256) (s / 16 % 16) (s % 16)
noncomputable def tp_F (ops nums : Nat → Int32) (L s : Nat) : Int32 := tp_F0 L (ops (s / 256)) (nums (s / 256)) (s / 256) (s / 16 % 16) (s % 16)
noncomputable def tp_K (ops nums : Nat → Int32) (L s : Nat) : Nat := tp_K0 L (ops (s / 256)) (nums (s / 256)) (s / 256) (s / 16 % 16) (s % 16)
def tp_B (L lx gx ly gy s : Nat) : Prop := 0 < L ∧ s < 256 ∧ lx ≤ s / 16 ∧ s / 16 ≤ gx ∧ ly ≤ s % 16 ∧ s % 16 ≤ gy
theorem tp_F0c {L : Nat} {op c : Int32} {p x y : Nat} (hL : L ≤ 16) :
    (tp_F0 L op c p x y = -1 ∧ tp_K0 L op c p x y = 0) ∨
    (tp_F0 L op c p x y = -2 ∧ tp_K0 L op c p x y = 0 ∧ p < L ∧ ¬ op = 9) ∨
    (tp_F0 L op c p x y = nI (tp_f0 op c p x y) ∧ p < L ∧ tp_f0 op c p x y + tp_K0 L op c p x y ≤ 256 * L ∧
      ((op = 9 ∧ tp_K0 L op c p x y = 16) ∨ (¬ op = 9 ∧ tp_K0 L op c p x y = 1)) ∧ tp_go L op c p x y) := by
  unfold tp_F0 tp_K0
  by_cases h1 : L ≤ p
  · rw [tp_if_t h1, tp_if_f (fun z => by omega)]
    exact Or.inl ⟨rfl, rfl⟩
  · rw [tp_if_f h1]
    by_cases h2 : tp_tr op c x y
    · rw [tp_if_t h2, tp_if_f (fun z => z.2.1 h2)]
      refine Or.inr (Or.inl ⟨rfl, rfl, by omega, fun e => ?_⟩)
      subst e
      rcases h2 with z | z
      · exact absurd z.1 (by decide)
      · exact absurd z.1 (by decide)
    · rw [tp_if_f h2]
      by_cases h3 : tp_go L op c p x y
      · rw [tp_if_t h3, tp_if_t (show p < L ∧ tp_go L op c p x y from ⟨by omega, h3⟩)]
        obtain ⟨q, hq, eq⟩ := nI_of (x := tp_pl op c p x y) (Int32.not_lt.mpr h3.2.2.1)
        have hl := h3.2.2.2
        rw [eq, nI_ltI hq (by omega)] at hl
        have e1 : (tp_pl op c p x y).toNatClampNeg = q := by rw [eq, nI_clamp hq]
        have h5 := tp_lo_lt (tp_xe op c x y)
        have h6 := tp_lo_lt (tp_ye op c x y)
        refine Or.inr (Or.inr ⟨rfl, by omega, ?_, ?_, h3⟩)
        · unfold tp_f0
          rw [e1]
          by_cases h4 : op = 9
          · rw [tp_if_t h4]
            have e2 : tp_lo (tp_ye op c x y) = 0 := by subst h4; rfl
            rw [e2]; omega
          · rw [tp_if_f h4]; omega
        · by_cases h4 : op = 9
          · exact Or.inl ⟨h4, tp_if_t h4⟩
          · exact Or.inr ⟨h4, tp_if_f h4⟩
      · rw [tp_if_f h3, tp_if_f (fun z => h3 z.2)]
        exact Or.inl ⟨rfl, rfl⟩
theorem tp_Fc {ops nums : Nat → Int32} {L : Nat} (hL : L ≤ 16) (s : Nat) :
    (tp_F ops nums L s = -1 ∧ tp_K ops nums L s = 0) ∨
    (tp_F ops nums L s = -2 ∧ tp_K ops nums L s = 0 ∧ s / 256 < L ∧ ¬ ops (s / 256) = 9) ∨
    (tp_F ops nums L s = nI (tp_f ops nums s) ∧ s / 256 < L ∧ tp_f ops nums s + tp_K ops nums L s ≤ 256 * L ∧
      ((ops (s / 256) = 9 ∧ tp_K ops nums L s = 16) ∨ (¬ ops (s / 256) = 9 ∧ tp_K ops nums L s = 1)) ∧ tp_go L (ops (s / 256)) (nums (s / 256)) (s / 256) (s / 16 % 16) (s % 16)) := tp_F0c hL
theorem tp_wf {ops nums : Nat → Int32} {L lx gx ly gy : Nat} (hL : L ≤ 16) : tp_Wf L (tp_B L lx gx ly gy) (tp_K ops nums L) (tp_f ops nums) := by
  refine ⟨fun s h => ?_, fun s k hk => ?_⟩
  · have h1 := h.1
    have h2 := h.2.1
    omega
  · rcases tp_Fc (ops := ops) (nums := nums) hL s with h | h | h
    · rw [h.2] at hk; omega
    · rw [h.2.1] at hk; omega
    · have := h.2.2.1; omega
theorem tp_nIneg {n : Nat} (h : n < 2 ^ 31) : ¬ nI n = -1 ∧ ¬ nI n = -2 ∧ ¬ nI n < 0 := by
  refine ⟨fun e => ?_, fun e => ?_, nI_pos h⟩
  · have x := congrArg Int32.toInt e
    rw [nI_toInt h, show ((-1 : Int32)).toInt = -1 by decide] at x
    omega
  · have x := congrArg Int32.toInt e
    rw [nI_toInt h, show ((-2 : Int32)).toInt = -2 by decide] at x
    omega
theorem tp_xe_lo {op c : Int32} {x y : Nat} (hx : x < 16) (hy : y < 16) (h6 : op = 6 → y ≠ 0) :
    nI (tp_lo (tp_xe op c x y)) = if op = 0 then c &&& 15 else if op = 2 then (nI x + c) &&& 15 else if op = 3 then (nI x + nI y) &&& 15 else if op = 4 then (nI x - nI y) &&& 15 else if op = 5 then (nI x * nI y) &&& 15 else if op = 6 then nI x / nI y else if op = 7 then nI y else nI x := by
  rw [← tp_lo_and]
  unfold tp_xe
  by_cases h0 : op = 0
  · rw [if_pos h0, if_pos h0]
  · rw [if_neg h0, if_neg h0]
    by_cases h2 : op = 2
    · rw [if_pos h2, if_pos h2]
    · rw [if_neg h2, if_neg h2]
      by_cases h3 : op = 3
      · rw [if_pos h3, if_pos h3]
      · rw [if_neg h3, if_neg h3]
        by_cases h4 : op = 4
        · rw [if_pos h4, if_pos h4]
        · rw [if_neg h4, if_neg h4]
          by_cases h5 : op = 5
          · rw [if_pos h5, if_pos h5]
          · rw [if_neg h5, if_neg h5]
            by_cases h6' : op = 6
            · rw [if_pos h6']
              have hy0 := h6 h6'
              have hd : x / y < 16 := Nat.lt_of_le_of_lt (Nat.div_le_self _ _) hx
              rw [pk_div (by omega) (by omega) (by omega), tp_lo_and, tp_lo_nI hd]
            · rw [if_neg h6']
              by_cases h7 : op = 7
              · rw [if_pos h7, tp_lo_and, tp_lo_nI hy]
              · rw [if_neg h7, tp_lo_and, tp_lo_nI hx]
theorem tp_ye_lo {op c : Int32} {x y : Nat} (hx : x < 16) (hy : y < 16) :
    nI (tp_lo (tp_ye op c x y)) = if op = 1 then c &&& 15 else if op = 7 then nI x else if op = 9 then 0 else nI y := by
  unfold tp_ye
  by_cases h1 : op = 1
  · rw [if_pos h1, if_pos h1, tp_lo_and]
  · rw [if_neg h1, if_neg h1]
    by_cases h7 : op = 7
    · rw [if_pos h7, tp_lo_nI hx]
    · rw [if_neg h7]
      by_cases h9 : op = 9
      · rw [if_pos h9]; rfl
      · rw [if_neg h9, tp_lo_nI hy]
