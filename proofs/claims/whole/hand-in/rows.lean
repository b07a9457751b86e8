section
/-! rows pasted from the given starting texts (stores, numbers, bits) -/
theorem pk_us {f : Nat → Int32} {k : Nat} {x : Int32} : upd f k x k = x := if_pos rfl
theorem pk_un {f : Nat → Int32} {k j : Nat} {x : Int32} (h : j ≠ k) : upd f k x j = f j := if_neg h
theorem pk_uLs {f : Nat → Int64} {k : Nat} {x : Int64} : vp_updL f k x k = x := if_pos rfl
theorem pk_uLn {f : Nat → Int64} {k j : Nat} {x : Int64} (h : j ≠ k) : vp_updL f k x j = f j := if_neg h
theorem pk_sub {a b : Nat} (h : b ≤ a) : nI a - nI b = nI (a - b) := by
  obtain ⟨c, rfl⟩ : ∃ c, a = c + b := ⟨a - b, by omega⟩
  rw [← nI_add, Int32.add_sub_cancel, Nat.add_sub_cancel]
theorem pk_m1 (n : Nat) : nI (n + 1) + (-1) = nI n := by
  rw [← nI_1, Int32.add_assoc, show (1 : Int32) + (-1) = 0 from rfl, Int32.add_zero]
theorem pk_mul (a b : Nat) : nI a * nI b = nI (a * b) := (Int32.ofNat_mul a b).symm
theorem pk_div {a d : Nat} (ha : a < 2 ^ 31) (h0 : 0 < d) (hd : d < 2 ^ 31) : nI a / nI d = nI (a / d) := by
  apply Int32.toInt_inj.mp
  rw [lg_idiv_nonneg (by rw [nI_toInt ha]; omega) (by rw [nI_toInt hd]; omega), nI_toInt ha, nI_toInt hd, nI_toInt (Nat.lt_of_le_of_lt (Nat.div_le_self a d) ha)]
  first | rfl | exact (Int.natCast_ediv _ _).symm
theorem pk_rem {a d : Nat} (ha : a < 2 ^ 31) (h0 : 0 < d) (hd : d < 2 ^ 31) : nI a - nI a / nI d * nI d = nI (a % d) := by
  rw [pk_div ha h0 hd, pk_mul, pk_sub (Nat.div_mul_le_self a d)]
  exact congrArg nI (by have := Nat.div_add_mod' a d; omega)
theorem pk_sub_toInt {a b : Nat} (ha : a < 2 ^ 30) (hb : b < 2 ^ 30) : (nI a - nI b).toInt = (a : Int) - b := by
  rw [Int32.toInt_sub, nI_toInt (by omega), nI_toInt (by omega)]
  exact Int.bmod_eq_of_le (by omega) (by omega)
theorem pk_sneg {a b : Nat} (hb : b < 2 ^ 30) (h : a < b) : nI a - nI b < 0 := by
  rw [Int32.lt_iff_toInt_lt, pk_sub_toInt (by omega) hb, show (0 : Int32).toInt = 0 from by decide]
  omega
theorem pk_ix (x : Int32) {n : Nat} (hn : n < 2 ^ 31) : x < 0 ∨ nI n ≤ x ∨ ∃ j : Nat, j < n ∧ x = nI j := by
  by_cases h : x < 0
  · exact Or.inl h
  · obtain ⟨j, hj, rfl⟩ := nI_of h
    by_cases h2 : j < n
    · exact Or.inr (Or.inr ⟨j, h2, rfl⟩)
    · exact Or.inr (Or.inl (nI_le (by omega) hj))
theorem pk_le {x y : Int32} {A B : Prop} (a b : Nat) (f : a ≤ b → A) (g : b < a → B) (hx : x = nI a := by rfl) (hy : y = nI b := by rfl) (ha : a < 2 ^ 31 := by omega) (hb : b < 2 ^ 31 := by omega) : (x ≤ y → A) ∧ (¬ x ≤ y → B) := by
  subst hx hy
  rw [nI_leI ha hb]
  exact ⟨f, fun z => g (by omega)⟩
theorem pk_lt {x y : Int32} {A B : Prop} (a b : Nat) (f : a < b → A) (g : b ≤ a → B) (hx : x = nI a := by rfl) (hy : y = nI b := by rfl) (ha : a < 2 ^ 31 := by omega) (hb : b < 2 ^ 31 := by omega) : (x < y → A) ∧ (¬ x < y → B) := by
  subst hx hy
  rw [nI_ltI ha hb]
  exact ⟨f, fun z => g (by omega)⟩
theorem pk_eq {x y : Int32} {A B : Prop} (a b : Nat) (f : a = b → A) (g : a ≠ b → B) (hx : x = nI a := by rfl) (hy : y = nI b := by rfl) (ha : a < 2 ^ 31 := by omega) (hb : b < 2 ^ 31 := by omega) : (x = y → A) ∧ (¬ x = y → B) := by
  subst hx hy
  rw [nI_eq ha hb]
  exact ⟨f, g⟩
theorem pk_in {x : Int32} (n N : Nat) (h : n < N) (hx : x = nI n := by rfl) (hN : N < 2 ^ 31 := by omega) : vp_in x N := by
  subst hx
  exact vp_in_nI h hN
theorem pk_cl {x : Int32} (n : Nat) (hx : x = nI n := by rfl) (h : n < 2 ^ 31 := by omega) : x.toNatClampNeg = n := by
  subst hx
  exact nI_clamp h
theorem pk_tn {n : Nat} (h : n < 2 ^ 32) : (nI n).toBitVec.toNat = n := Nat.mod_eq_of_lt h
theorem pk_and (x : Int32) {m : Int32} (k : Nat) (hm : m.toBitVec.toNat = 2 ^ k - 1) : x &&& m = nI (x.toBitVec.toNat % 2 ^ k) := by
  apply Int32.toBitVec_inj.mp
  apply BitVec.eq_of_toNat_eq
  rw [Int32.toBitVec_and, BitVec.toNat_and, hm, Nat.and_two_pow_sub_one_eq_mod]
  show _ = (BitVec.ofNat 32 _).toNat
  rw [BitVec.toNat_ofNat]
  exact (Nat.mod_eq_of_lt (Nat.lt_of_le_of_lt (Nat.mod_le _ _) x.toBitVec.isLt)).symm
theorem pk_andN {n : Nat} (h : n < 2 ^ 32) {m : Int32} (k : Nat) (hm : m.toBitVec.toNat = 2 ^ k - 1) : nI n &&& m = nI (n % 2 ^ k) := by
  rw [pk_and _ k hm, pk_tn h]
theorem pk_andE (x : Int32) {m : Int32} (k : Nat) (hm : m.toBitVec.toNat = 2 ^ k - 1) : ∃ j : Nat, j < 2 ^ k ∧ x &&& m = nI j := ⟨_, Nat.mod_lt _ (Nat.two_pow_pos k), pk_and x k hm⟩
theorem pk_andIn (x : Int32) {m : Int32} (k : Nat) (hm : m.toBitVec.toNat = 2 ^ k - 1) (hk : k ≤ 30) : vp_in (x &&& m) (2 ^ k) := by
  obtain ⟨j, hj, e⟩ := pk_andE x k hm
  rw [e]
  exact vp_in_nI hj (Nat.lt_of_le_of_lt (Nat.pow_le_pow_right (by decide) hk) (by decide))
theorem pk_shl (a s : Int32) (k : Nat) (hs : (s.toBitVec.smod 32).toNat = k) : (a <<< s).toBitVec.toNat = a.toBitVec.toNat * 2 ^ k % 2 ^ 32 := by
  show (a.toBitVec <<< (s.toBitVec.smod 32).toNat).toNat = _
  rw [hs, BitVec.toNat_shiftLeft, Nat.shiftLeft_eq]
theorem pk_shlN {n : Nat} (s : Int32) (k : Nat) (hs : (s.toBitVec.smod 32).toNat = k) (h : n * 2 ^ k < 2 ^ 32) : nI n <<< s = nI (n * 2 ^ k) := by
  apply Int32.toBitVec_inj.mp
  apply BitVec.eq_of_toNat_eq
  have hn : n < 2 ^ 32 := Nat.lt_of_le_of_lt (Nat.le_mul_of_pos_right n (Nat.two_pow_pos k)) h
  rw [pk_shl _ _ k hs, pk_tn hn, pk_tn h, Nat.mod_eq_of_lt h]
theorem pk_shr (a s : Int32) (k : Nat) (hs : (s.toBitVec.smod 32).toNat = k) : (a >>> s).toInt = a.toInt >>> k := by
  show (a.toBitVec.sshiftRight (s.toBitVec.smod 32).toNat).toInt = _
  rw [hs, BitVec.toInt_sshiftRight]
  rfl
theorem pk_shrN {n : Nat} (h : n < 2 ^ 31) (s : Int32) (k : Nat) (hs : (s.toBitVec.smod 32).toNat = k) : nI n >>> s = nI (n / 2 ^ k) := by
  apply Int32.toInt_inj.mp
  have h2 : n / 2 ^ k ≤ n := Nat.div_le_self _ _
  rw [pk_shr _ _ k hs, nI_toInt h, nI_toInt (by omega), Int.shiftRight_eq_div_pow]
  rfl
theorem pk_ushr (x s : Int32) (k : Nat) (hs : ((s.toUInt32 &&& Int32.toUInt32 31).toBitVec % 32).toNat = k) : (x.toUInt32 >>> (s.toUInt32 &&& Int32.toUInt32 31)).toInt32.toBitVec.toNat = x.toBitVec.toNat / 2 ^ k := by
  have e : (x.toUInt32 >>> (s.toUInt32 &&& Int32.toUInt32 31)).toInt32.toBitVec = x.toBitVec >>> k := by
    rw [← hs]
    exact UInt32.toBitVec_shiftRight _ _
  rw [e, BitVec.toNat_ushiftRight, Nat.shiftRight_eq_div_pow]
theorem pk_ushrN {n : Nat} (hn : n < 2 ^ 32) (s : Int32) (k : Nat) (hs : ((s.toUInt32 &&& Int32.toUInt32 31).toBitVec % 32).toNat = k) : ((nI n).toUInt32 >>> (s.toUInt32 &&& Int32.toUInt32 31)).toInt32 = nI (n / 2 ^ k) := by
  apply Int32.toBitVec_inj.mp
  apply BitVec.eq_of_toNat_eq
  rw [pk_ushr _ s k hs, pk_tn hn, pk_tn (Nat.lt_of_le_of_lt (Nat.div_le_self _ _) hn)]
theorem pk_loop {σ : Type} (W : Nat → Nat → σ → Prop) (I : Nat → σ → Prop) (e i0 : Nat) (s : σ) (hi : i0 ≤ e) (h0 : I i0 s) (hx : ∀ n s, I e s → W (n + 1) e s)
    (hs : ∀ n i s, i < e → I i s → (∀ s', I (i + 1) s' → W n (i + 1) s') → W (n + 1) i s) : ∃ n, W n i0 s :=
  ⟨e + 1, loop_i W I e hx hs (e + 1) i0 s hi (by omega) h0⟩
theorem pk_loopD {σ : Type} (W : Nat → Nat → σ → Prop) (I : Nat → σ → Prop) (hx : ∀ n s, I 0 s → W (n + 1) 0 s)
    (hs : ∀ n i s, I (i + 1) s → (∀ s', I i s' → W n i s') → W (n + 1) (i + 1) s) : ∀ (e : Nat) (s : σ), I e s → W (e + 1) e s := by
  intro e
  induction e with
  | zero => exact fun s h => hx 0 s h
  | succ e ih => exact fun s h => hs (e + 1) e s h (fun s' h' => ih s' h')
theorem pk_least (P : Nat → Prop) (h : ∃ k, P k) : ∃ k, P k ∧ ∀ j, j < k → ¬ P j := by
  obtain ⟨k, hk⟩ := h
  induction k using Nat.strongRecOn with
  | ind k ih =>
    by_cases e : ∃ j, j < k ∧ P j
    · obtain ⟨j, hj, pj⟩ := e
      exact ih j hj pj
    · exact ⟨k, hk, fun j hj pj => e ⟨j, hj, pj⟩⟩
theorem ek_if {c d A B : Prop} (e : c ↔ d) (f : d → A) (g : ¬ d → B) : (c → A) ∧ (¬ c → B) :=
  ⟨fun z => f (e.mp z), fun z => g (fun y => z (e.mpr y))⟩
theorem ek_v {α : Sort _} {P : α → Prop} {a b : α} (e : a = b) (h : P b) : P a := e ▸ h
/-! ===== Int32 by its bits: bt x i ===== -/
def bt (x : Int32) (i : Nat) : Bool := x.toBitVec.getLsbD i
theorem b_ext {x y : Int32} (h : ∀ i, i < 32 → bt x i = bt y i) : x = y := Int32.toBitVec_inj.mp (BitVec.eq_of_getLsbD_eq (fun i hi => h i hi))
theorem b_or (x y : Int32) (i : Nat) : bt (x ||| y) i = (bt x i || bt y i) := by unfold bt; rw [Int32.toBitVec_or, BitVec.getLsbD_or]
theorem b_and (x y : Int32) (i : Nat) : bt (x &&& y) i = (bt x i && bt y i) := by unfold bt; rw [Int32.toBitVec_and, BitVec.getLsbD_and]
theorem b_xor (x y : Int32) (i : Nat) : bt (x ^^^ y) i = (bt x i ^^ bt y i) := by unfold bt; rw [Int32.toBitVec_xor, BitVec.getLsbD_xor]
theorem b_big {x : Int32} {i : Nat} (h : 32 ≤ i) : bt x i = false := BitVec.getLsbD_of_ge _ _ h
theorem b_255 (i : Nat) : bt 255 i = decide (i < 8) := by
  rcases Nat.lt_or_ge i 32 with h | h
  · exact (by decide +kernel : ∀ i, i < 32 → bt 255 i = decide (i < 8)) i h
  · rw [b_big h, decide_eq_false (by omega)]
theorem b_65535 (i : Nat) : bt 65535 i = decide (i < 16) := by
  rcases Nat.lt_or_ge i 32 with h | h
  · exact (by decide +kernel : ∀ i, i < 32 → bt 65535 i = decide (i < 16)) i h
  · rw [b_big h, decide_eq_false (by omega)]
theorem b_m1 : ∀ i, i < 32 → bt (-1) i = true := by decide +kernel
theorem b_0 (i : Nat) : bt 0 i = false := BitVec.getLsbD_zero
theorem s_l : ∀ n, n < 32 → ((nI n &&& 31).toBitVec.smod 32).toNat = n := by decide +kernel
theorem s_u : ∀ n, n < 32 → (((nI n).toUInt32 &&& Int32.toUInt32 31).toBitVec % 32).toNat = n := by decide +kernel
theorem b_shl (n : Nat) (hn : n < 32) (x : Int32) {i : Nat} (hi : i < 32) : bt (x <<< (nI n &&& 31)) i = (decide (n ≤ i) && bt x (i - n)) := by
  unfold bt
  rw [Int32.toBitVec_shiftLeft]
  show (x.toBitVec <<< ((nI n &&& 31).toBitVec.smod 32).toNat).getLsbD i = _
  rw [s_l n hn, BitVec.getLsbD_shiftLeft]
  rcases Nat.lt_or_ge i n with h | h
  · simp [h, Nat.not_le.mpr h]
  · simp [hi, h, Nat.not_lt.mpr h]
theorem b_ushr (n : Nat) (hn : n < 32) (x : Int32) (i : Nat) : bt ((x.toUInt32 >>> ((nI n).toUInt32 &&& Int32.toUInt32 31)).toInt32) i = bt x (n + i) := by
  show (x.toUInt32 >>> ((nI n).toUInt32 &&& Int32.toUInt32 31)).toBitVec.getLsbD i = x.toUInt32.toBitVec.getLsbD (n + i)
  rw [UInt32.toBitVec_shiftRight]
  show (x.toUInt32.toBitVec >>> (((nI n).toUInt32 &&& Int32.toUInt32 31).toBitVec % 32).toNat).getLsbD i = _
  rw [s_u n hn, BitVec.getLsbD_ushiftRight]
theorem b_sshr (n : Nat) (hn : n < 32) (x : Int32) {i : Nat} (hi : i < 32) : bt (x >>> (nI n &&& 31)) i = if n + i < 32 then bt x (n + i) else bt x 31 := by
  unfold bt
  rw [Int32.toBitVec_shiftRight]
  show (x.toBitVec.sshiftRight ((nI n &&& 31).toBitVec.smod 32).toNat).getLsbD i = _
  rw [s_l n hn, BitVec.getLsbD_sshiftRight, BitVec.msb_eq_getLsbD_last]
  simp [hi]
end
section
/-! counting -/
noncomputable def tp_b (P : Prop) : Nat := @ite Nat P (Classical.propDecidable P) 1 0
theorem tp_b1 {P : Prop} (h : P) : tp_b P = 1 := by unfold tp_b; rw [if_pos h]
theorem tp_b0 {P : Prop} (h : ¬ P) : tp_b P = 0 := by unfold tp_b; rw [if_neg h]
theorem tp_ble (P : Prop) : tp_b P ≤ 1 := by
  rcases Classical.em P with h | h
  · rw [tp_b1 h]; omega
  · rw [tp_b0 h]; omega
theorem tp_bm {P Q : Prop} (h : P → Q) : tp_b P ≤ tp_b Q := by
  rcases Classical.em P with hp | hp
  · rw [tp_b1 hp, tp_b1 (h hp)]; omega
  · rw [tp_b0 hp]; omega
theorem tp_be {P Q : Prop} (h : P ↔ Q) : tp_b P = tp_b Q := Nat.le_antisymm (tp_bm h.mp) (tp_bm h.mpr)
noncomputable def tp_cn (P : Nat → Prop) (a : Nat) : Nat → Nat
  | 0 => 0
  | n + 1 => tp_cn P a n + tp_b (P (a + n))
theorem tp_cn_s (P : Nat → Prop) (a n : Nat) : tp_cn P a (n + 1) = tp_cn P a n + tp_b (P (a + n)) := rfl
theorem tp_cn_m {P Q : Nat → Prop} {a : Nat} : ∀ {n : Nat}, (∀ s, a ≤ s → s < a + n → P s → Q s) → tp_cn P a n ≤ tp_cn Q a n
  | 0, _ => Nat.le_refl _
  | n + 1, h => by
    have x := tp_cn_m (P := P) (Q := Q) (a := a) (n := n) (fun s h1 h2 => h s h1 (by omega))
    have y := tp_bm (h (a + n) (by omega) (by omega))
    rw [tp_cn_s, tp_cn_s]; omega
theorem tp_cn_e {P Q : Nat → Prop} {a n : Nat} (h : ∀ s, a ≤ s → s < a + n → (P s ↔ Q s)) : tp_cn P a n = tp_cn Q a n :=
  Nat.le_antisymm (tp_cn_m fun s h1 h2 => (h s h1 h2).mp) (tp_cn_m fun s h1 h2 => (h s h1 h2).mpr)
theorem tp_cn_le (P : Nat → Prop) (a : Nat) : ∀ n, tp_cn P a n ≤ n
  | 0 => Nat.le_refl _
  | n + 1 => by have := tp_cn_le P a n; have := tp_ble (P (a + n)); rw [tp_cn_s]; omega
theorem tp_cn_0 {P : Nat → Prop} {a : Nat} : ∀ {n : Nat}, (∀ s, a ≤ s → s < a + n → ¬ P s) → tp_cn P a n = 0
  | 0, _ => rfl
  | n + 1, h => by
    rw [tp_cn_s, tp_cn_0 (fun s h1 h2 => h s h1 (by omega)), tp_b0 (h (a + n) (by omega) (by omega))]
theorem tp_cn_a (P : Nat → Prop) (a n : Nat) : ∀ m, tp_cn P a (n + m) = tp_cn P a n + tp_cn P (a + n) m
  | 0 => rfl
  | m + 1 => by
    rw [← Nat.add_assoc, tp_cn_s, tp_cn_s, tp_cn_a P a n m, Nat.add_assoc a n m]; omega
theorem tp_cn_p {P Q : Nat → Prop} {a s : Nat} (hp : ¬ P s) (hq : Q s) (ho : ∀ t, t ≠ s → (Q t ↔ P t)) : ∀ {n : Nat}, a ≤ s → s < a + n → tp_cn Q a n = tp_cn P a n + 1
  | 0, h1, h2 => by omega
  | n + 1, h1, h2 => by
    rw [tp_cn_s, tp_cn_s]
    rcases Nat.lt_or_ge s (a + n) with z | z
    · rw [tp_cn_p hp hq ho h1 z, tp_be (ho (a + n) (by omega))]; omega
    · have e : s = a + n := by omega
      rw [tp_cn_e (P := Q) (Q := P) (fun t h3 h4 => ho t (by omega)), ← e, tp_b1 hq, tp_b0 hp]
theorem tp_cn_lt {P : Nat → Prop} {a n s : Nat} (hp : ¬ P s) (h1 : a ≤ s) (h2 : s < a + n) : tp_cn P a n < n := by
  have x := tp_cn_p (P := P) (Q := fun t => P t ∨ t = s) hp (Or.inr rfl) (fun t ht => ⟨fun q => q.elim id (fun e => absurd e ht), Or.inl⟩) h1 h2
  have y := tp_cn_le (fun t => P t ∨ t = s) a n
  omega
theorem tp_cn_sub {P Q : Nat → Prop} {a n s : Nat} (h : ∀ t, a ≤ t → t < a + n → P t → Q t) (hp : ¬ P s) (hq : Q s) (h1 : a ≤ s) (h2 : s < a + n) : tp_cn P a n < tp_cn Q a n := by
  have x := tp_cn_p (P := P) (Q := fun t => P t ∨ t = s) hp (Or.inr rfl) (fun t ht => ⟨fun q => q.elim id (fun e => absurd e ht), Or.inl⟩) h1 h2
  have y := tp_cn_m (P := fun t => P t ∨ t = s) (Q := Q) (a := a) (n := n) (fun t h3 h4 q => q.elim (h t h3 h4) (fun e => e ▸ hq))
  omega
theorem tp_cn_pos {P : Nat → Prop} {a n s : Nat} (hp : P s) (h1 : a ≤ s) (h2 : s < a + n) : 0 < tp_cn P a n := by
  have x := tp_cn_sub (P := fun _ => False) (Q := P) (a := a) (n := n) (s := s) (fun _ _ _ z => z.elim) id hp h1 h2
  omega
/-! graphs: K s next states, numbered from f s on -/
def tp_E (K f : Nat → Nat) (s t : Nat) : Prop := ∃ k, k < K s ∧ t = f s + k
def tp_R (B : Nat → Prop) (K f : Nat → Nat) : Nat → Nat → Prop
  | 0 => fun s => B s
  | n + 1 => fun s => ∃ t, tp_R B K f n t ∧ tp_E K f t s
def tp_P (B : Nat → Prop) (K f : Nat → Nat) (s : Nat) : Prop := ∃ n, tp_R B K f n s
def tp_D (B : Nat → Prop) (K f : Nat → Nat) (s n : Nat) : Prop := tp_R B K f n s ∧ ∀ m, tp_R B K f m s → n ≤ m
def tp_G (B : Nat → Prop) (K f : Nat → Nat) (s : Nat) : Prop := ∃ S : Nat → Prop, S s ∧ ∀ t, S t → tp_P B K f t ∧ ∃ t', tp_E K f t t' ∧ S t'
def tp_Cl (K f : Nat → Nat) (g : Nat → Prop) (s : Nat) : Prop := ∃ k, k < K s ∧ g (f s + k)
def tp_Wf (L : Nat) (B : Nat → Prop) (K f : Nat → Nat) : Prop := (∀ s, B s → s < 256 * L) ∧ ∀ s k, k < K s → f s + k < 256 * L
theorem tp_R_lt {L : Nat} {B : Nat → Prop} {K f : Nat → Nat} (W : tp_Wf L B K f) : ∀ {n s : Nat}, tp_R B K f n s → s < 256 * L
  | 0, s, h => W.1 s h
  | n + 1, s, h => by
    obtain ⟨t, -, k, hk, rfl⟩ := h
    exact W.2 t k hk
theorem tp_P_lt {L : Nat} {B : Nat → Prop} {K f : Nat → Nat} (W : tp_Wf L B K f) {s : Nat} (h : tp_P B K f s) : s < 256 * L := by
  obtain ⟨n, hn⟩ := h
  exact tp_R_lt W hn
theorem tp_P_D {B : Nat → Prop} {K f : Nat → Nat} {s : Nat} (h : tp_P B K f s) : ∃ n, tp_D B K f s n := by
  obtain ⟨n, hn, hl⟩ := pk_least (fun n => tp_R B K f n s) h
  exact ⟨n, hn, fun m hm => Nat.not_lt.mp (fun z => hl m z hm)⟩
theorem tp_D_u {B : Nat → Prop} {K f : Nat → Nat} {s n m : Nat} (h : tp_D B K f s n) (h' : tp_D B K f s m) : n = m :=
  Nat.le_antisymm (h.2 m h'.1) (h'.2 n h.1)
theorem tp_G_P {B : Nat → Prop} {K f : Nat → Nat} {s : Nat} (h : tp_G B K f s) : tp_P B K f s := by
  obtain ⟨S, hs, hS⟩ := h
  exact (hS s hs).1
theorem tp_G_drop {B : Nat → Prop} {K f : Nat → Nat} {g : Nat → Prop} {s : Nat} (hg : ∀ t, tp_G B K f t → g t) (h : tp_G B K f s) : tp_Cl K f g s := by
  obtain ⟨S, hs, hS⟩ := h
  obtain ⟨t, ⟨k, hk, e⟩, ht⟩ := (hS s hs).2
  exact ⟨k, hk, e ▸ hg t ⟨S, ht, hS⟩⟩
theorem tp_G_all {B : Nat → Prop} {K f : Nat → Nat} {g : Nat → Prop} {s : Nat} (h1 : ∀ t, g t → tp_P B K f t) (h2 : ∀ t, g t → tp_Cl K f g t) (hs : g s) : tp_G B K f s := by
  refine ⟨g, hs, fun t ht => ⟨h1 t ht, ?_⟩⟩
  obtain ⟨k, hk, hg⟩ := h2 t ht
  exact ⟨f t + k, ⟨k, hk, rfl⟩, hg⟩
/-! the queue of the component: w the steps to a state, o the order, c how many -/
def tp_code : Option Nat → Int32
  | none => -5
  | some n => nI n
theorem tp_code_ne {n : Nat} (h : n < 2 ^ 31) : ¬ nI n = -5 := by
  intro e
  have x := congrArg Int32.toInt e
  rw [nI_toInt h, show ((-5 : Int32)).toInt = -5 by decide] at x
  omega
def tp_us (w : Nat → Option Nat) (s n : Nat) : Nat → Option Nat := fun t => if t = s then some n else w t
def tp_un (o : Nat → Nat) (c s : Nat) : Nat → Nat := fun j => if j = c then s else o j
theorem tp_us_s {w : Nat → Option Nat} {s n : Nat} : tp_us w s n s = some n := if_pos rfl
theorem tp_us_n {w : Nat → Option Nat} {s n t : Nat} (h : t ≠ s) : tp_us w s n t = w t := if_neg h
theorem tp_un_s {o : Nat → Nat} {c s : Nat} : tp_un o c s c = s := if_pos rfl
theorem tp_un_n {o : Nat → Nat} {c s j : Nat} (h : j ≠ c) : tp_un o c s j = o j := if_neg h
def tp_Q (B : Nat → Prop) (K f : Nat → Nat) (w : Nat → Option Nat) (o : Nat → Nat) (c : Nat) : Prop :=
  tp_cn (fun s => w s ≠ none) 0 4096 = c ∧
  (∀ j, j < c → o j < 4096 ∧ ∃ n, w (o j) = some n ∧ n ≤ j) ∧
  (∀ s n, w s = some n → (∃ j, j < c ∧ o j = s) ∧ tp_R B K f n s) ∧
  (∀ j k a b, j ≤ k → k < c → w (o j) = some a → w (o k) = some b → a ≤ b)
theorem tp_Q0 (B : Nat → Prop) (K f : Nat → Nat) (o : Nat → Nat) : tp_Q B K f (fun _ => none) o 0 :=
  ⟨tp_cn_0 (fun _ _ _ h => h rfl), fun _ h => absurd h (Nat.not_lt_zero _), fun _ _ h => by simp at h, fun _ _ _ _ _ h => absurd h (Nat.not_lt_zero _)⟩
theorem tp_Qc {B : Nat → Prop} {K f : Nat → Nat} {w : Nat → Option Nat} {o : Nat → Nat} {c s : Nat} (h : tp_Q B K f w o c) (hs : w s = none) (h4 : s < 4096) : c < 4096 := by
  have x := tp_cn_lt (P := fun s => w s ≠ none) (a := 0) (n := 4096) (s := s) (fun z => z hs) (by omega) (by omega)
  rw [h.1] at x
  exact x
theorem tp_Qle {B : Nat → Prop} {K f : Nat → Nat} {w : Nat → Option Nat} {o : Nat → Nat} {c : Nat} (h : tp_Q B K f w o c) : c ≤ 4096 := by
  rw [← h.1]; exact tp_cn_le _ _ _
theorem tp_Qo {B : Nat → Prop} {K f : Nat → Nat} {w : Nat → Option Nat} {o : Nat → Nat} {c s : Nat} (n : Nat) (h : tp_Q B K f w o c) (hs : w s = none) {j : Nat} (hj : j < c) : tp_un o c s j = o j ∧ o j ≠ s ∧ tp_us w s n (o j) = w (o j) := by
  obtain ⟨-, a, ha, -⟩ := h.2.1 j hj
  have hn : o j ≠ s := fun e => by rw [e, hs] at ha; simp at ha
  exact ⟨tp_un_n (by omega), hn, tp_us_n hn⟩
theorem tp_Qs {B : Nat → Prop} {K f : Nat → Nat} {w : Nat → Option Nat} {o : Nat → Nat} {c s n : Nat} (h : tp_Q B K f w o c) (hs : w s = none) (h4 : s < 4096) (hn : n ≤ c) (hr : tp_R B K f n s) (hb : ∀ j b, j < c → w (o j) = some b → b ≤ n) : tp_Q B K f (tp_us w s n) (tp_un o c s) (c + 1) := by
  have O := fun {j} (hj : j < c) => tp_Qo n h hs hj
  refine ⟨?_, ?_, ?_, ?_⟩
  · rw [tp_cn_p (P := fun t => w t ≠ none) (Q := fun t => tp_us w s n t ≠ none) (s := s) (fun z => z hs) (by rw [tp_us_s]; simp) (fun t ht => by rw [tp_us_n ht]) (by omega) (by omega), h.1]
  · intro j hj
    rcases Nat.lt_or_ge j c with z | z
    · obtain ⟨e1, e2, e3⟩ := O z
      rw [e1, e3]
      exact h.2.1 j z
    · have e : j = c := by omega
      subst e
      rw [tp_un_s, tp_us_s]
      exact ⟨h4, n, rfl, hn⟩
  · intro t m ht
    by_cases e : t = s
    · subst e
      rw [tp_us_s] at ht
      injection ht with e2
      subst e2
      exact ⟨⟨c, by omega, tp_un_s⟩, hr⟩
    · rw [tp_us_n e] at ht
      obtain ⟨⟨j, hj, ej⟩, hR⟩ := h.2.2.1 t m ht
      exact ⟨⟨j, by omega, by rw [(O hj).1]; exact ej⟩, hR⟩
  · intro j k a b hjk hk ha hb'
    rcases Nat.lt_or_ge k c with z | z
    · obtain ⟨e1, e2, e3⟩ := O z
      obtain ⟨d1, d2, d3⟩ := O (j := j) (by omega)
      rw [d1, d3] at ha
      rw [e1, e3] at hb'
      exact h.2.2.2 j k a b hjk z ha hb'
    · have e : k = c := by omega
      subst e
      rw [tp_un_s, tp_us_s] at hb'
      injection hb' with e2
      subst e2
      rcases Nat.lt_or_ge j k with y | y
      · obtain ⟨d1, d2, d3⟩ := O (j := j) y
        rw [d1, d3] at ha
        exact hb j a y ha
      · have e : j = k := by omega
        subst e
        rw [tp_un_s, tp_us_s] at ha
        injection ha with e3
        omega
/-! what is done with the states ahead of i -/
def tp_Pr (K f : Nat → Nat) (w : Nat → Option Nat) (o : Nat → Nat) (i : Nat) : Prop := ∀ j, j < i → ∀ a, w (o j) = some a → ∀ k, k < K (o j) → ∃ b, w (f (o j) + k) = some b ∧ b ≤ a + 1
/-- w' and o' go on from w and o -/
def tp_Ex (w : Nat → Option Nat) (o : Nat → Nat) (c : Nat) (w' : Nat → Option Nat) (o' : Nat → Nat) (c' : Nat) : Prop := c ≤ c' ∧ (∀ t a, w t = some a → w' t = some a) ∧ ∀ j, j < c → o' j = o j
theorem tp_Ex_r (w : Nat → Option Nat) (o : Nat → Nat) (c : Nat) : tp_Ex w o c w o c := ⟨Nat.le_refl _, fun _ _ h => h, fun _ _ => rfl⟩
theorem tp_Ex_s {B : Nat → Prop} {K f : Nat → Nat} {w : Nat → Option Nat} {o : Nat → Nat} {c s : Nat} (n : Nat) (h : tp_Q B K f w o c) (hs : w s = none) : tp_Ex w o c (tp_us w s n) (tp_un o c s) (c + 1) := by
  refine ⟨by omega, fun t a ha => ?_, fun j hj => (tp_Qo n h hs hj).1⟩
  rw [tp_us_n]
  · exact ha
  · intro e; rw [e, hs] at ha; simp at ha
theorem tp_Ex_t {w w' w'' : Nat → Option Nat} {o o' o'' : Nat → Nat} {c c' c'' : Nat} (h : tp_Ex w o c w' o' c') (h' : tp_Ex w' o' c' w'' o'' c'') : tp_Ex w o c w'' o'' c'' :=
  ⟨Nat.le_trans h.1 h'.1, fun t a ha => h'.2.1 t a (h.2.1 t a ha), fun j hj => (h'.2.2 j (Nat.lt_of_lt_of_le hj h.1)).trans (h.2.2 j hj)⟩
theorem tp_Pr_x {B : Nat → Prop} {K f : Nat → Nat} {w w' : Nat → Option Nat} {o o' : Nat → Nat} {c c' i : Nat} (h : tp_Q B K f w o c) (x : tp_Ex w o c w' o' c') (hi : i ≤ c) (p : tp_Pr K f w o i) : tp_Pr K f w' o' i := by
  intro j hj a ha k hk
  rw [x.2.2 j (by omega)] at ha hk ⊢
  obtain ⟨-, n, hn, -⟩ := h.2.1 j (by omega)
  have e := x.2.1 _ _ hn
  rw [ha] at e
  injection e with e
  subst e
  obtain ⟨b, hb, hl⟩ := p j hj a hn k hk
  exact ⟨b, x.2.1 _ _ hb, hl⟩
theorem tp_end {B : Nat → Prop} {K f : Nat → Nat} {w : Nat → Option Nat} {o : Nat → Nat} {c : Nat} (h : tp_Q B K f w o c) (p : tp_Pr K f w o c) (hB : ∀ s, B s → w s = some 0) : ∀ n s, tp_R B K f n s → ∃ b, w s = some b ∧ b ≤ n := by
  intro n
  induction n with
  | zero => exact fun s hs => ⟨0, hB s hs, Nat.le_refl _⟩
  | succ n ih =>
    intro s hs
    obtain ⟨t, ht, k, hk, rfl⟩ := hs
    obtain ⟨a, ha, hl⟩ := ih t ht
    obtain ⟨⟨j, hj, ej⟩, -⟩ := h.2.2.1 t a ha
    subst ej
    obtain ⟨b, hb, hl'⟩ := p j hj a ha k hk
    exact ⟨b, hb, by omega⟩
/-- what the component knows of a state when it has gone through all -/
def tp_Kn (B : Nat → Prop) (K f : Nat → Nat) (w : Nat → Option Nat) : Prop := (∀ s n, w s = some n → tp_D B K f s n) ∧ ∀ s, w s = none → ¬ tp_P B K f s
theorem tp_kn {B : Nat → Prop} {K f : Nat → Nat} {w : Nat → Option Nat} {o : Nat → Nat} {c : Nat} (h : tp_Q B K f w o c) (p : tp_Pr K f w o c) (hB : ∀ s, B s → w s = some 0) : tp_Kn B K f w := by
  have z := tp_end h p hB
  refine ⟨fun s n hn => ⟨(h.2.2.1 s n hn).2, fun m hm => ?_⟩, fun s hs hp => ?_⟩
  · obtain ⟨b, hb, hl⟩ := z m s hm
    rw [hn] at hb
    injection hb with e
    omega
  · obtain ⟨n, hn⟩ := hp
    obtain ⟨b, hb, -⟩ := z n s hn
    rw [hs] at hb
    simp at hb
theorem tp_Kn_P {B : Nat → Prop} {K f : Nat → Nat} {w : Nat → Option Nat} (h : tp_Kn B K f w) (s : Nat) : w s ≠ none ↔ tp_P B K f s := by
  constructor
  · intro hn
    cases e : w s with
    | none => exact absurd e hn
    | some n => exact ⟨n, (h.1 s n e).1⟩
  · exact fun hp e => h.2 s e hp
/-! the layers of the reference -/
def tp_A (B : Nat → Prop) (K f : Nat → Nat) (n s : Nat) : Prop := ∃ m, m ≤ n ∧ tp_R B K f m s
theorem tp_lay {B : Nat → Prop} {K f : Nat → Nat} {n s : Nat} : tp_D B K f s (n + 1) ↔ ¬ tp_A B K f n s ∧ ∃ t, tp_D B K f t n ∧ tp_E K f t s := by
  constructor
  · intro ⟨h, hl⟩
    refine ⟨fun ⟨m, hm, hR⟩ => by have := hl m hR; omega, ?_⟩
    obtain ⟨t, ht, he⟩ := h
    exact ⟨t, ⟨ht, fun m hm => by have := hl (m + 1) ⟨t, hm, he⟩; omega⟩, he⟩
  · intro ⟨hA, t, ht, he⟩
    refine ⟨⟨t, ht.1, he⟩, fun m hm => ?_⟩
    rcases Nat.lt_or_ge n m with z | z
    · exact z
    · exact absurd ⟨m, z, hm⟩ hA
theorem tp_A_0 {B : Nat → Prop} {K f : Nat → Nat} {s : Nat} : tp_A B K f 0 s ↔ B s := by
  constructor
  · intro ⟨m, hm, hR⟩
    have e : m = 0 := by omega
    subst e
    exact hR
  · exact fun h => ⟨0, Nat.le_refl _, h⟩
theorem tp_D_0 {B : Nat → Prop} {K f : Nat → Nat} {s : Nat} : tp_D B K f s 0 ↔ B s := ⟨fun h => h.1, fun h => ⟨h, fun _ _ => Nat.zero_le _⟩⟩
theorem tp_A_s {B : Nat → Prop} {K f : Nat → Nat} {n s : Nat} : tp_A B K f (n + 1) s ↔ tp_A B K f n s ∨ tp_D B K f s (n + 1) := by
  constructor
  · intro ⟨m, hm, hR⟩
    rcases Classical.em (tp_A B K f n s) with h | h
    · exact Or.inl h
    · have e : m = n + 1 := by
        rcases Nat.lt_or_ge n m with z | z
        · omega
        · exact absurd ⟨m, z, hR⟩ h
      subst e
      refine Or.inr ⟨hR, fun m' hm' => ?_⟩
      rcases Nat.lt_or_ge n m' with z | z
      · exact z
      · exact absurd ⟨m', z, hm'⟩ h
  · rintro (⟨m, hm, hR⟩ | h)
    · exact ⟨m, by omega, hR⟩
    · exact ⟨n + 1, Nat.le_refl _, h.1⟩
theorem tp_D_A {B : Nat → Prop} {K f : Nat → Nat} {n s : Nat} (h : tp_D B K f s n) : tp_A B K f n s := ⟨n, Nat.le_refl _, h.1⟩
theorem tp_A_P {B : Nat → Prop} {K f : Nat → Nat} {n s : Nat} (h : tp_A B K f n s) : tp_P B K f s := by
  obtain ⟨m, -, hm⟩ := h
  exact ⟨m, hm⟩
theorem tp_A_e {B : Nat → Prop} {K f : Nat → Nat} {n : Nat} (h : ∀ s, ¬ tp_D B K f s n) : ∀ m s, tp_R B K f m s → ∃ m', m' < n ∧ tp_R B K f m' s := by
  intro m
  induction m with
  | zero =>
    intro s hs
    rcases Nat.eq_zero_or_pos n with e | e
    · subst e
      exact absurd (tp_D_0.mpr hs) (h s)
    · exact ⟨0, e, hs⟩
  | succ m ih =>
    intro s hs
    obtain ⟨t, ht, he⟩ := hs
    obtain ⟨m', hm', hR⟩ := ih t ht
    have hR' : tp_R B K f (m' + 1) s := ⟨t, hR, he⟩
    rcases Nat.lt_or_ge (m' + 1) n with z | z
    · exact ⟨m' + 1, z, hR'⟩
    · have e : m' + 1 = n := by omega
      rcases Classical.em (∃ q, q < n ∧ tp_R B K f q s) with y | y
      · exact y
      · refine absurd ⟨e ▸ hR', fun q hq => ?_⟩ (h s)
        rcases Nat.lt_or_ge q n with x | x
        · exact absurd ⟨q, x, hq⟩ y
        · exact x
theorem tp_A_end {B : Nat → Prop} {K f : Nat → Nat} {n s : Nat} (h : ∀ s, ¬ tp_D B K f s n) : tp_A B K f n s ↔ tp_P B K f s := by
  refine ⟨tp_A_P, fun ⟨m, hm⟩ => ?_⟩
  obtain ⟨m', hl, hR⟩ := tp_A_e h m s hm
  exact ⟨m', by omega, hR⟩
/-! the first time at an instruction -/
def tp_H (B : Nat → Prop) (K f : Nat → Nat) (p m : Nat) : Prop := ∃ s, s / 256 = p ∧ tp_R B K f m s
def tp_L (B : Nat → Prop) (K f : Nat → Nat) (p m : Nat) : Prop := tp_H B K f p m ∧ ∀ m', tp_H B K f p m' → m ≤ m'
theorem tp_L_u {B : Nat → Prop} {K f : Nat → Nat} {p n m : Nat} (h : tp_L B K f p n) (h' : tp_L B K f p m) : n = m :=
  Nat.le_antisymm (h.2 m h'.1) (h'.2 n h.1)
theorem tp_L_D {B : Nat → Prop} {K f : Nat → Nat} {p m : Nat} (h : tp_L B K f p m) : ∃ s, s / 256 = p ∧ tp_D B K f s m := by
  obtain ⟨⟨s, hs, hR⟩, hl⟩ := h
  exact ⟨s, hs, hR, fun m' hm' => hl m' ⟨s, hs, hm'⟩⟩
theorem tp_L_or (B : Nat → Prop) (K f : Nat → Nat) (p : Nat) : (∀ m, ¬ tp_H B K f p m) ∨ ∃ m, tp_L B K f p m := by
  rcases Classical.em (∃ m, tp_H B K f p m) with h | h
  · obtain ⟨m, hm, hl⟩ := pk_least (fun m => tp_H B K f p m) h
    exact Or.inr ⟨m, hm, fun m' hm' => Nat.not_lt.mp (fun z => hl m' z hm')⟩
  · exact Or.inl (fun m hm => h ⟨m, hm⟩)
end
section
/-! bits of a row -/
theorem tp_bt1 : ∀ i, i < 32 → bt 1 i = decide (i = 0) := by decide +kernel
theorem tp_and1 (x : Int32) : x &&& 1 = if bt x 0 = true then 1 else 0 := by
  apply b_ext
  intro i hi
  rw [b_and, tp_bt1 i hi]
  by_cases e : i = 0
  · subst e
    by_cases h : bt x 0 = true
    · rw [if_pos h, h, tp_bt1 0 hi]; rfl
    · rw [if_neg h, b_0, Bool.eq_false_iff.mpr h]; rfl
  · rw [decide_eq_false e, Bool.and_false]
    by_cases h : bt x 0 = true
    · rw [if_pos h, tp_bt1 i hi, decide_eq_false e]
    · rw [if_neg h, b_0]
theorem tp_sh0 {y : Nat} (hy : y < 32) (m : Int32) : bt (m >>> (nI y &&& 31)) 0 = bt m y := by
  rw [b_sshr y hy m (by omega)]
  simp [hy]
theorem tp_sh {y : Nat} (hy : y < 32) (m : Int32) : (m >>> (nI y &&& 31)) &&& 1 = if bt m y = true then 1 else 0 := by
  rw [tp_and1, tp_sh0 hy]
theorem tp_1sh {y : Nat} (hy : y < 32) {i : Nat} (hi : i < 32) : bt ((1 : Int32) <<< (nI y &&& 31)) i = decide (i = y) := by
  rw [b_shl y hy 1 hi, tp_bt1 (i - y) (by omega)]
  by_cases e : i = y
  · subst e; simp
  · rw [decide_eq_false e]
    rcases Nat.lt_or_ge i y with z | z
    · rw [decide_eq_false (Nat.not_le.mpr z), Bool.false_and]
    · rw [decide_eq_false (show ¬ i - y = 0 by omega), Bool.and_false]
/-- m is row i of the set S -/
def tp_M (m : Int32) (i : Nat) (S : Nat → Prop) : Prop := ∀ j, j < 32 → (bt m j = true ↔ j < 16 ∧ S (16 * i + j))
theorem tp_M_u {m m' : Int32} {i : Nat} {S : Nat → Prop} (h : tp_M m i S) (h' : tp_M m' i S) : m = m' :=
  b_ext (fun j hj => Bool.eq_iff_iff.mpr ((h j hj).trans (h' j hj).symm))
theorem tp_M_e {m : Int32} {i : Nat} {S S' : Nat → Prop} (h : tp_M m i S) (e : ∀ j, j < 16 → (S (16 * i + j) ↔ S' (16 * i + j))) : tp_M m i S' :=
  fun j hj => (h j hj).trans ⟨fun z => ⟨z.1, (e j z.1).mp z.2⟩, fun z => ⟨z.1, (e j z.1).mpr z.2⟩⟩
theorem tp_M_0 {i : Nat} {S : Nat → Prop} (h : ∀ j, j < 16 → ¬ S (16 * i + j)) : tp_M 0 i S := by
  intro j hj
  rw [b_0]
  exact ⟨fun z => by simp at z, fun z => absurd z.2 (h j z.1)⟩
theorem tp_M_z {m : Int32} {i : Nat} {S : Nat → Prop} (h : tp_M m i S) : m = 0 ↔ ∀ j, j < 16 → ¬ S (16 * i + j) := by
  constructor
  · intro e j hj hs
    have x := (h j (by omega)).mpr ⟨hj, hs⟩
    rw [e, b_0] at x
    simp at x
  · exact fun z => tp_M_u h (tp_M_0 z)
theorem tp_M_or {m m' : Int32} {i : Nat} {S S' : Nat → Prop} (h : tp_M m i S) (h' : tp_M m' i S') : tp_M (m ||| m') i (fun s => S s ∨ S' s) := by
  intro j hj
  rw [b_or, Bool.or_eq_true, h j hj, h' j hj]
  exact ⟨fun z => z.elim (fun y => ⟨y.1, Or.inl y.2⟩) (fun y => ⟨y.1, Or.inr y.2⟩), fun z => z.2.elim (fun y => Or.inl ⟨z.1, y⟩) (fun y => Or.inr ⟨z.1, y⟩)⟩
theorem tp_M_1 {y : Nat} (hy : y < 16) (i : Nat) : tp_M ((1 : Int32) <<< (nI y &&& 31)) i (fun s => s = 16 * i + y) := by
  intro j hj
  rw [tp_1sh (by omega) hj, decide_eq_true_iff]
  exact ⟨fun z => ⟨by omega, by omega⟩, fun z => by have := z.2; omega⟩
theorem tp_M_not {m m' : Int32} {i : Nat} {S S' : Nat → Prop} (h : tp_M m i S) (h' : tp_M m' i S') : tp_M (m &&& (m' ^^^ (-1))) i (fun s => S s ∧ ¬ S' s) := by
  intro j hj
  rw [b_and, b_xor, b_m1 j hj, Bool.and_eq_true, h j hj]
  have x := h' j hj
  constructor
  · intro ⟨z1, z2⟩
    refine ⟨z1.1, z1.2, fun w => ?_⟩
    rw [x.mpr ⟨z1.1, w⟩] at z2
    simp at z2
  · intro ⟨z1, z2, z3⟩
    refine ⟨⟨z1, z2⟩, ?_⟩
    have q : bt m' j = false := Bool.eq_false_iff.mpr (fun w => z3 (x.mp w).2)
    rw [q]; rfl
theorem tp_M_val {m : Int32} {i y : Nat} {S : Nat → Prop} (h : tp_M m i S) (hy : y < 16) : (m >>> (nI y &&& 31)) &&& 1 = nI (tp_b (S (16 * i + y))) := by
  rw [tp_sh (by omega)]
  have x := h y (by omega)
  by_cases c : bt m y = true
  · rw [if_pos c, tp_b1 (x.mp c).2]; rfl
  · rw [if_neg c, tp_b0 (fun z => c (x.mpr ⟨hy, z⟩))]; rfl
theorem tp_M_bit {m : Int32} {i y : Nat} {S : Nat → Prop} (h : tp_M m i S) (hy : y < 16) : (m >>> (nI y &&& 31)) &&& 1 = 1 ↔ S (16 * i + y) := by
  rw [tp_M_val h hy]
  by_cases c : S (16 * i + y)
  · rw [tp_b1 c]; exact ⟨fun _ => c, fun _ => rfl⟩
  · rw [tp_b0 c]; exact ⟨fun z => absurd z (by decide), fun z => absurd z c⟩
theorem tp_M_k {y : Nat} (hy : y < 16) (i : Nat) (c : Prop) : tp_M (nI (tp_b c) <<< (nI y &&& 31)) i (fun s => s = 16 * i + y ∧ c) := by
  by_cases h : c
  · rw [tp_b1 h]
    exact tp_M_e (tp_M_1 hy i) (fun j _ => ⟨fun z => ⟨z, h⟩, fun z => z.1⟩)
  · rw [tp_b0 h]
    intro j hj
    rw [show nI 0 = 0 from nI_0, b_shl y (by omega) 0 hj, b_0, Bool.and_false]
    exact ⟨fun z => by simp at z, fun z => absurd z.2.2 h⟩
/-- the array is the set -/
def tp_S (a : Nat → Int32) (S : Nat → Prop) : Prop := ∀ i, i < 256 → tp_M (a i) i S
theorem tp_S_e {a : Nat → Int32} {S S' : Nat → Prop} (h : tp_S a S) (e : ∀ s, s < 4096 → (S s ↔ S' s)) : tp_S a S' :=
  fun i hi => tp_M_e (h i hi) (fun j hj => e _ (by omega))
theorem tp_S_u {a : Nat → Int32} {S S' : Nat → Prop} {i : Nat} {m : Int32} (h : tp_S a S) (hi : i < 256) (hm : tp_M m i S') (ho : ∀ s, s / 16 ≠ i → (S s ↔ S' s)) : tp_S (upd a i m) S' := by
  intro k hk
  by_cases e : k = i
  · subst e; rw [pk_us]; exact hm
  · rw [pk_un e]
    exact tp_M_e (h k hk) (fun j hj => ho _ (by omega))
theorem tp_S_b {a : Nat → Int32} {S : Nat → Prop} (h : tp_S a S) {s : Nat} (hs : s < 4096) : ((a (s / 16)) >>> (nI (s % 16) &&& 31)) &&& 1 = nI (tp_b (S s)) := by
  rw [tp_M_val (h (s / 16) (by omega)) (Nat.mod_lt _ (by omega)), show 16 * (s / 16) + s % 16 = s by omega]
/-! one step -/
noncomputable def tp_if {α : Type} (P : Prop) (a b : α) : α := @ite α P (Classical.propDecidable P) a b
theorem tp_if_t {α : Type} {P : Prop} {a b : α} (h : P) : tp_if P a b = a := by unfold tp_if; rw [if_pos h]
theorem tp_if_f {α : Type} {P : Prop} {a b : α} (h : ¬ P) : tp_if P a b = b := by unfold tp_if; rw [if_neg h]
def tp_lo (z : Int32) : Nat := z.toBitVec.toNat % 16
theorem tp_lo_lt (z : Int32) : tp_lo z < 16 := Nat.mod_lt _ (by omega)
theorem tp_lo_and (z : Int32) : z &&& 15 = nI (tp_lo z) := pk_and z 4 (by decide)
theorem tp_lo_nI {n : Nat} (h : n < 16) : tp_lo (nI n) = n := by
  unfold tp_lo
  rw [pk_tn (by omega), Nat.mod_eq_of_lt h]
def tp_xe (op c : Int32) (x y : Nat) : Int32 := if op = 0 then c else if op = 2 then nI x + c else if op = 3 then nI x + nI y else if op = 4 then nI x - nI y else if op = 5 then nI x * nI y else if op = 6 then nI x / nI y else if op = 7 then nI y else nI x
def tp_ye (op c : Int32) (x y : Nat) : Int32 := if op = 1 then c else if op = 7 then nI x else if op = 9 then 0 else nI y
def tp_tr (op c : Int32) (x y : Nat) : Prop := (op = 6 ∧ y = 0) ∨ (op = 8 ∧ c &&& 31 ≤ nI x)
def tp_jp (op : Int32) (x y : Nat) : Prop := op = 10 ∨ (op = 11 ∧ x = y) ∨ (op = 12 ∧ x < y) ∨ (op = 13 ∧ x = 0)
noncomputable def tp_pl (op c : Int32) (p x y : Nat) : Int32 := tp_if (tp_jp op x y) c (nI (p + 1))
def tp_go (L : Nat) (op c : Int32) (p x y : Nat) : Prop := ¬ tp_tr op c x y ∧ ¬ op = 14 ∧ 0 ≤ tp_pl op c p x y ∧ tp_pl op c p x y < nI L
noncomputable def tp_f0 (op c : Int32) (p x y : Nat) : Nat := (tp_pl op c p x y).toNatClampNeg * 256 + tp_lo (tp_xe op c x y) * 16 + tp_lo (tp_ye op c x y)
noncomputable def tp_F0 (L : Nat) (op c : Int32) (p x y : Nat) : Int32 := tp_if (L ≤ p) (-1) (tp_if (tp_tr op c x y) (-2) (tp_if (tp_go L op c p x y) (nI (tp_f0 op c p x y)) (-1)))
noncomputable def tp_K0 (L : Nat) (op c : Int32) (p x y : Nat) : Nat := tp_if (p < L ∧ tp_go L op c p x y) (tp_if (op = 9) 16 1) 0
noncomputable def tp_f (ops nums : Nat → Int32) (s : Nat) : Nat := tp_f0 (ops (s / 256)) (nums (s / 256)) (s / 256) (s / 16 % 16) (s % 16)
noncomputable def tp_F (ops nums : Nat → Int32) (L s : Nat) : Int32 := tp_F0 L (ops (s / 256)) (nums (s / 256)) (s / 256) (s / 16 % 16) (s % 16)
noncomputable def tp_K (ops nums : Nat → Int32) (L s : Nat) : Nat := tp_K0 L (ops (s / 256)) (nums (s / 256)) (s / 256) (s / 16 % 16) (s % 16)
def tp_B (L lx gx ly gy s : Nat) : Prop := 0 < L ∧ s < 256 ∧ lx ≤ s / 16 ∧ s / 16 ≤ gx ∧ ly ≤ s % 16 ∧ s % 16 ≤ gy
theorem tp_F0c {L : Nat} {op c : Int32} {p x y : Nat} (hL : L ≤ 16) :
    (tp_F0 L op c p x y = -1 ∧ tp_K0 L op c p x y = 0) ∨
    (tp_F0 L op c p x y = -2 ∧ tp_K0 L op c p x y = 0 ∧ p < L ∧ ¬ op = 9) ∨
    (tp_F0 L op c p x y = nI (tp_f0 op c p x y) ∧ p < L ∧ tp_f0 op c p x y + tp_K0 L op c p x y ≤ 256 * L ∧
      ((op = 9 ∧ tp_K0 L op c p x y = 16) ∨ (¬ op = 9 ∧ tp_K0 L op c p x y = 1)) ∧ tp_go L op c p x y) := by
  unfold tp_F0 tp_K0
  by_cases h1 : L ≤ p
  · rw [tp_if_t h1, tp_if_f (fun z => by omega)]
    exact Or.inl ⟨rfl, rfl⟩
  · rw [tp_if_f h1]
    by_cases h2 : tp_tr op c x y
    · rw [tp_if_t h2, tp_if_f (fun z => z.2.1 h2)]
      refine Or.inr (Or.inl ⟨rfl, rfl, by omega, fun e => ?_⟩)
      subst e
      rcases h2 with z | z
      · exact absurd z.1 (by decide)
      · exact absurd z.1 (by decide)
    · rw [tp_if_f h2]
      by_cases h3 : tp_go L op c p x y
      · rw [tp_if_t h3, tp_if_t (show p < L ∧ tp_go L op c p x y from ⟨by omega, h3⟩)]
        obtain ⟨q, hq, eq⟩ := nI_of (x := tp_pl op c p x y) (Int32.not_lt.mpr h3.2.2.1)
        have hl := h3.2.2.2
        rw [eq, nI_ltI hq (by omega)] at hl
        have e1 : (tp_pl op c p x y).toNatClampNeg = q := by rw [eq, nI_clamp hq]
        have h5 := tp_lo_lt (tp_xe op c x y)
        have h6 := tp_lo_lt (tp_ye op c x y)
        refine Or.inr (Or.inr ⟨rfl, by omega, ?_, ?_, h3⟩)
        · unfold tp_f0
          rw [e1]
          by_cases h4 : op = 9
          · rw [tp_if_t h4]
            have e2 : tp_lo (tp_ye op c x y) = 0 := by subst h4; rfl
            rw [e2]; omega
          · rw [tp_if_f h4]; omega
        · by_cases h4 : op = 9
          · exact Or.inl ⟨h4, tp_if_t h4⟩
          · exact Or.inr ⟨h4, tp_if_f h4⟩
      · rw [tp_if_f h3, tp_if_f (fun z => h3 z.2)]
        exact Or.inl ⟨rfl, rfl⟩
theorem tp_Fc {ops nums : Nat → Int32} {L : Nat} (hL : L ≤ 16) (s : Nat) :
    (tp_F ops nums L s = -1 ∧ tp_K ops nums L s = 0) ∨
    (tp_F ops nums L s = -2 ∧ tp_K ops nums L s = 0 ∧ s / 256 < L ∧ ¬ ops (s / 256) = 9) ∨
    (tp_F ops nums L s = nI (tp_f ops nums s) ∧ s / 256 < L ∧ tp_f ops nums s + tp_K ops nums L s ≤ 256 * L ∧
      ((ops (s / 256) = 9 ∧ tp_K ops nums L s = 16) ∨ (¬ ops (s / 256) = 9 ∧ tp_K ops nums L s = 1)) ∧ tp_go L (ops (s / 256)) (nums (s / 256)) (s / 256) (s / 16 % 16) (s % 16)) := tp_F0c hL
theorem tp_wf {ops nums : Nat → Int32} {L lx gx ly gy : Nat} (hL : L ≤ 16) : tp_Wf L (tp_B L lx gx ly gy) (tp_K ops nums L) (tp_f ops nums) := by
  refine ⟨fun s h => ?_, fun s k hk => ?_⟩
  · have h1 := h.1
    have h2 := h.2.1
    omega
  · rcases tp_Fc (ops := ops) (nums := nums) hL s with h | h | h
    · rw [h.2] at hk; omega
    · rw [h.2.1] at hk; omega
    · have := h.2.2.1; omega
theorem tp_nIneg {n : Nat} (h : n < 2 ^ 31) : ¬ nI n = -1 ∧ ¬ nI n = -2 ∧ ¬ nI n < 0 := by
  refine ⟨fun e => ?_, fun e => ?_, nI_pos h⟩
  · have x := congrArg Int32.toInt e
    rw [nI_toInt h, show ((-1 : Int32)).toInt = -1 by decide] at x
    omega
  · have x := congrArg Int32.toInt e
    rw [nI_toInt h, show ((-2 : Int32)).toInt = -2 by decide] at x
    omega
theorem tp_xe_lo {op c : Int32} {x y : Nat} (hx : x < 16) (hy : y < 16) (h6 : op = 6 → y ≠ 0) :
    nI (tp_lo (tp_xe op c x y)) = if op = 0 then c &&& 15 else if op = 2 then (nI x + c) &&& 15 else if op = 3 then (nI x + nI y) &&& 15 else if op = 4 then (nI x - nI y) &&& 15 else if op = 5 then (nI x * nI y) &&& 15 else if op = 6 then nI x / nI y else if op = 7 then nI y else nI x := by
  rw [← tp_lo_and]
  unfold tp_xe
  by_cases h0 : op = 0
  · rw [if_pos h0, if_pos h0]
  · rw [if_neg h0, if_neg h0]
    by_cases h2 : op = 2
    · rw [if_pos h2, if_pos h2]
    · rw [if_neg h2, if_neg h2]
      by_cases h3 : op = 3
      · rw [if_pos h3, if_pos h3]
      · rw [if_neg h3, if_neg h3]
        by_cases h4 : op = 4
        · rw [if_pos h4, if_pos h4]
        · rw [if_neg h4, if_neg h4]
          by_cases h5 : op = 5
          · rw [if_pos h5, if_pos h5]
          · rw [if_neg h5, if_neg h5]
            by_cases h6' : op = 6
            · rw [if_pos h6']
              have hy0 := h6 h6'
              have hd : x / y < 16 := Nat.lt_of_le_of_lt (Nat.div_le_self _ _) hx
              rw [pk_div (by omega) (by omega) (by omega), tp_lo_and, tp_lo_nI hd]
            · rw [if_neg h6']
              by_cases h7 : op = 7
              · rw [if_pos h7, tp_lo_and, tp_lo_nI hy]
              · rw [if_neg h7, tp_lo_and, tp_lo_nI hx]
theorem tp_ye_lo {op c : Int32} {x y : Nat} (hx : x < 16) (hy : y < 16) :
    nI (tp_lo (tp_ye op c x y)) = if op = 1 then c &&& 15 else if op = 7 then nI x else if op = 9 then 0 else nI y := by
  unfold tp_ye
  by_cases h1 : op = 1
  · rw [if_pos h1, if_pos h1, tp_lo_and]
  · rw [if_neg h1, if_neg h1]
    by_cases h7 : op = 7
    · rw [if_pos h7, tp_lo_nI hx]
    · rw [if_neg h7]
      by_cases h9 : op = 9
      · rw [if_pos h9]; rfl
      · rw [if_neg h9, tp_lo_nI hy]
end
section
/-! a mask of sixteen values -/
def tp_V (m : Int32) (T : Nat → Prop) : Prop := ∀ j, j < 32 → (bt m j = true ↔ j < 16 ∧ T j)
theorem tp_V_u {m m' : Int32} {T T' : Nat → Prop} (h : tp_V m T) (h' : tp_V m' T') (e : ∀ j, j < 16 → (T j ↔ T' j)) : m = m' :=
  b_ext (fun j hj => Bool.eq_iff_iff.mpr ((h j hj).trans ((show (j < 16 ∧ T j) ↔ (j < 16 ∧ T' j) from ⟨fun z => ⟨z.1, (e j z.1).mp z.2⟩, fun z => ⟨z.1, (e j z.1).mpr z.2⟩⟩).trans (h' j hj).symm)))
theorem tp_V_e {m : Int32} {T T' : Nat → Prop} (h : tp_V m T) (e : ∀ j, j < 16 → (T j ↔ T' j)) : tp_V m T' :=
  fun j hj => (h j hj).trans ⟨fun z => ⟨z.1, (e j z.1).mp z.2⟩, fun z => ⟨z.1, (e j z.1).mpr z.2⟩⟩
theorem tp_V_0 {T : Nat → Prop} (h : ∀ j, j < 16 → ¬ T j) : tp_V 0 T := by
  intro j hj
  rw [b_0]
  exact ⟨fun z => by simp at z, fun z => absurd z.2 (h j z.1)⟩
theorem tp_V_or {m m' : Int32} {T T' : Nat → Prop} (h : tp_V m T) (h' : tp_V m' T') : tp_V (m ||| m') (fun j => T j ∨ T' j) := by
  intro j hj
  rw [b_or, Bool.or_eq_true, h j hj, h' j hj]
  exact ⟨fun z => z.elim (fun y => ⟨y.1, Or.inl y.2⟩) (fun y => ⟨y.1, Or.inr y.2⟩), fun z => z.2.elim (fun y => Or.inl ⟨z.1, y⟩) (fun y => Or.inr ⟨z.1, y⟩)⟩
theorem tp_V_1 {y : Nat} (hy : y < 16) : tp_V ((1 : Int32) <<< (nI y &&& 31)) (fun j => j = y) := by
  intro j hj
  rw [tp_1sh (by omega) hj, decide_eq_true_iff]
  exact ⟨fun z => ⟨by omega, z⟩, fun z => z.2⟩
theorem tp_M_V {m : Int32} {i : Nat} {S : Nat → Prop} (h : tp_M m i S) : tp_V m (fun j => S (16 * i + j)) := h
/-! the queue as the component's arrays hold it -/
def tp_XQ (B : Nat → Prop) (K f : Nat → Nat) (st ord : Nat → Int32) (w : Nat → Option Nat) (o : Nat → Nat) (c : Nat) : Prop :=
  tp_Q B K f w o c ∧ (∀ s, s < 4096 → st s = tp_code (w s)) ∧ (∀ j, j < c → ord j = nI (o j))
theorem tp_Qn {B : Nat → Prop} {K f : Nat → Nat} {w : Nat → Option Nat} {o : Nat → Nat} {c s n : Nat} (h : tp_Q B K f w o c) (e : w s = some n) : n < 4096 ∧ n < c ∧ s < 4096 := by
  obtain ⟨⟨j, hj, ej⟩, -⟩ := h.2.2.1 s n e
  obtain ⟨h4, n', hn', hl⟩ := h.2.1 j hj
  rw [ej, e] at hn'
  injection hn' with e'
  have := tp_Qle h
  refine ⟨by omega, by omega, by omega⟩
theorem tp_XQ_m {B : Nat → Prop} {K f : Nat → Nat} {st ord : Nat → Int32} {w : Nat → Option Nat} {o : Nat → Nat} {c : Nat} (h : tp_XQ B K f st ord w o c) {s : Nat} (hs : s < 4096) : st s = -5 ↔ w s = none := by
  rw [h.2.1 s hs]
  cases e : w s with
  | none => exact ⟨fun _ => rfl, fun _ => rfl⟩
  | some n => exact ⟨fun z => absurd z (tp_code_ne (by have := (tp_Qn h.1 e).1; omega)), fun z => by simp at z⟩
theorem tp_XQ_s {B : Nat → Prop} {K f : Nat → Nat} {st ord : Nat → Int32} {w : Nat → Option Nat} {o : Nat → Nat} {c s n : Nat} (h : tp_XQ B K f st ord w o c) (hs : w s = none) (h4 : s < 4096) (hn : n ≤ c) (hr : tp_R B K f n s) (hb : ∀ j b, j < c → w (o j) = some b → b ≤ n) : tp_XQ B K f (upd st s (nI n)) (upd ord c (nI s)) (tp_us w s n) (tp_un o c s) (c + 1) := by
  refine ⟨tp_Qs h.1 hs h4 hn hr hb, fun t ht => ?_, fun j hj => ?_⟩
  · by_cases e : t = s
    · subst e; rw [pk_us, tp_us_s]; rfl
    · rw [pk_un e, tp_us_n e]; exact h.2.1 t ht
  · by_cases e : j = c
    · subst e; rw [pk_us, tp_un_s]
    · rw [pk_un e, tp_un_n e]; exact h.2.2 j (by omega)
/-- what a call of reach leaves, asked for state s with n steps -/
def tp_Rc (B : Nat → Prop) (K f : Nat → Nat) (w : Nat → Option Nat) (o : Nat → Nat) (c s n : Nat) (st' ord' : Nat → Int32) (w' : Nat → Option Nat) (o' : Nat → Nat) (c' : Nat) : Prop :=
  tp_XQ B K f st' ord' w' o' c' ∧ tp_Ex w o c w' o' c' ∧ (∃ b, w' s = some b ∧ b ≤ n) ∧ ∀ j b, j < c' → w' (o' j) = some b → b ≤ n
theorem tp_Rc_old {B : Nat → Prop} {K f : Nat → Nat} {st ord : Nat → Int32} {w : Nat → Option Nat} {o : Nat → Nat} {c s n : Nat} (h : tp_XQ B K f st ord w o c) (hs : w s ≠ none) (hb : ∀ j b, j < c → w (o j) = some b → b ≤ n) : tp_Rc B K f w o c s n st ord w o c := by
  refine ⟨h, tp_Ex_r w o c, ?_, hb⟩
  cases e : w s with
  | none => exact absurd e hs
  | some b =>
    obtain ⟨⟨j, hj, ej⟩, -⟩ := h.1.2.2.1 s b e
    exact ⟨b, rfl, hb j b hj (by rw [ej]; exact e)⟩
theorem tp_Rc_new {B : Nat → Prop} {K f : Nat → Nat} {st ord : Nat → Int32} {w : Nat → Option Nat} {o : Nat → Nat} {c s n : Nat} (h : tp_XQ B K f st ord w o c) (hs : w s = none) (h4 : s < 4096) (hn : n ≤ c) (hr : tp_R B K f n s) (hb : ∀ j b, j < c → w (o j) = some b → b ≤ n) : tp_Rc B K f w o c s n (upd st s (nI n)) (upd ord c (nI s)) (tp_us w s n) (tp_un o c s) (c + 1) := by
  refine ⟨tp_XQ_s h hs h4 hn hr hb, tp_Ex_s n h.1 hs, ⟨n, tp_us_s, Nat.le_refl _⟩, fun j b hj hw => ?_⟩
  by_cases e : j = c
  · subst e
    rw [tp_un_s, tp_us_s] at hw
    injection hw with e'
    omega
  · obtain ⟨e1, e2, e3⟩ := tp_Qo n h.1 hs (j := j) (by omega)
    rw [e1, e3] at hw
    exact hb j b (by omega) hw
/-! the states that go on -/
def tp_XG (B : Nat → Prop) (K f : Nat → Nat) (go : Nat → Int32) (g : Nat → Prop) : Prop :=
  (∀ s, g s → tp_P B K f s) ∧ (∀ s, tp_G B K f s → g s) ∧ ∀ s, s < 4096 → (go s = 0 ↔ ¬ g s)
theorem tp_XG_d {B : Nat → Prop} {K f : Nat → Nat} {go : Nat → Int32} {g : Nat → Prop} {s : Nat} (h : tp_XG B K f go g) (hc : ¬ tp_Cl K f g s) : tp_XG B K f (upd go s 0) (fun t => g t ∧ t ≠ s) := by
  refine ⟨fun t ht => h.1 t ht.1, fun t ht => ⟨h.2.1 t ht, fun e => ?_⟩, fun t ht => ?_⟩
  · subst e
    exact hc (tp_G_drop h.2.1 ht)
  · by_cases e : t = s
    · subst e; rw [pk_us]; exact ⟨fun _ z => z.2 rfl, fun _ => rfl⟩
    · rw [pk_un e, h.2.2 t ht]
      exact ⟨fun z y => z y.1, fun z y => z ⟨y, e⟩⟩
theorem tp_cn_d {g : Nat → Prop} {s : Nat} (hs : g s) (h4 : s < 4096) : tp_cn g 0 4096 = tp_cn (fun t => g t ∧ t ≠ s) 0 4096 + 1 :=
  tp_cn_p (P := fun t => g t ∧ t ≠ s) (Q := g) (fun z => z.2 rfl) hs (fun t ht => ⟨fun z => ⟨z, ht⟩, fun z => z.1⟩) (by omega) (by omega)
theorem tp_XG_c {B : Nat → Prop} {K f : Nat → Nat} {go : Nat → Int32} {g : Nat → Prop} (h : tp_XG B K f go g) (hc : ∀ s, g s → tp_Cl K f g s) (s : Nat) : g s ↔ tp_G B K f s :=
  ⟨fun hs => tp_G_all h.1 hc hs, h.2.1 s⟩
/-! what the component's arrays say once it has explored -/
def tp_XK (B : Nat → Prop) (K f : Nat → Nat) (F : Nat → Int32) (st fn : Nat → Int32) (ec : Int32) : Prop :=
  ∃ w : Nat → Option Nat, tp_Kn B K f w ∧ (∀ s n, w s = some n → n < 4096) ∧ (∀ s, s < 4096 → st s = tp_code (w s)) ∧ (∀ s, s < 4096 → fn s = F s) ∧ ec = nI (tp_cn (tp_G B K f) 0 4096)
theorem tp_XK_m {B : Nat → Prop} {K f : Nat → Nat} {F : Nat → Int32} {st fn : Nat → Int32} {ec : Int32} (h : tp_XK B K f F st fn ec) {s : Nat} (hs : s < 4096) : st s = -5 ↔ ¬ tp_P B K f s := by
  obtain ⟨w, hk, hn, hst, -⟩ := h
  rw [hst s hs, ← tp_Kn_P hk s]
  cases e : w s with
  | none => exact ⟨fun _ z => z rfl, fun _ => rfl⟩
  | some n => exact ⟨fun z => absurd z (tp_code_ne (by have := hn s n e; omega)), fun z => absurd (by simp) z⟩
theorem tp_XK_d {B : Nat → Prop} {K f : Nat → Nat} {F : Nat → Int32} {st fn : Nat → Int32} {ec : Int32} (h : tp_XK B K f F st fn ec) {s : Nat} (hs : s < 4096) (hp : tp_P B K f s) : ∃ n, n < 4096 ∧ st s = nI n ∧ tp_D B K f s n := by
  obtain ⟨w, hk, hn, hst, -⟩ := h
  rw [hst s hs]
  cases e : w s with
  | none => exact absurd hp (hk.2 s e)
  | some n => exact ⟨n, hn s n e, rfl, hk.1 s n e⟩
/-! what the reference's arrays say once it has worked out -/
def tp_YK (L : Nat) (B : Nat → Prop) (K f : Nat → Nat) (F : Nat → Int32) (all fst trp en : Nat → Int32) (ends : Int32) : Prop :=
  tp_S all (tp_P B K f) ∧
  (∀ p, p < 16 → ((∀ m, ¬ tp_H B K f p m) → fst p = -5) ∧ ∀ m, tp_L B K f p m → fst p = nI m) ∧
  (∀ p, p < 16 → trp p = nI (tp_cn (fun s => tp_P B K f s ∧ F s = -2) (256 * p) 256)) ∧
  tp_S en (tp_G B K f) ∧
  ends = nI (tp_b (∃ s, tp_P B K f s ∧ F s = -1))
end
section
/-! the round of the reference: Z the states gone through, Fd those found -/
def tp_YZ (F : Nat → Int32) (Z Fd : Nat → Prop) (fd trp : Nat → Int32) (ends : Int32) : Prop :=
  tp_S fd Fd ∧ (∀ p, p < 16 → trp p = nI (tp_cn (fun s => Z s ∧ F s = -2) (256 * p) 256)) ∧ ends = nI (tp_b (∃ s, Z s ∧ F s = -1))
theorem tp_YZ_e {F : Nat → Int32} {Z Z' Fd Fd' : Nat → Prop} {fd trp : Nat → Int32} {ends : Int32} (h : tp_YZ F Z Fd fd trp ends) (hZ : ∀ s, Z s ↔ Z' s) (hF : ∀ s, s < 4096 → (Fd s ↔ Fd' s)) : tp_YZ F Z' Fd' fd trp ends := by
  have e : Z = Z' := funext (fun s => propext (hZ s))
  subst e
  exact ⟨tp_S_e h.1 hF, h.2⟩
theorem tp_YZ_end {F : Nat → Int32} {Z Fd : Nat → Prop} {fd trp : Nat → Int32} {ends : Int32} {t : Nat} (h : tp_YZ F Z Fd fd trp ends) (hF : F t = -1) : tp_YZ F (fun s => Z s ∨ s = t) Fd fd trp 1 := by
  refine ⟨h.1, fun p hp => ?_, ?_⟩
  · rw [h.2.1 p hp]
    refine congrArg nI (tp_cn_e (fun s _ _ => ⟨fun z => ⟨Or.inl z.1, z.2⟩, fun z => ⟨?_, z.2⟩⟩))
    rcases z.1 with y | y
    · exact y
    · have z2 := z.2
      rw [y, hF] at z2
      exact absurd z2 (by decide)
  · rw [tp_b1 ⟨t, Or.inr rfl, hF⟩]; rfl
theorem tp_YZ_no {F : Nat → Int32} {Z Fd : Nat → Prop} {fd trp : Nat → Int32} {ends : Int32} {t : Nat} (h : tp_YZ F Z Fd fd trp ends) (h1 : ¬ F t = -1) (h2 : ¬ F t = -2) : tp_YZ F (fun s => Z s ∨ s = t) Fd fd trp ends := by
  refine ⟨h.1, fun p hp => ?_, ?_⟩
  · rw [h.2.1 p hp]
    refine congrArg nI (tp_cn_e (fun s _ _ => ⟨fun z => ⟨Or.inl z.1, z.2⟩, fun z => ⟨?_, z.2⟩⟩))
    rcases z.1 with y | y
    · exact y
    · have z2 := z.2
      rw [y] at z2
      exact absurd z2 h2
  · rw [h.2.2]
    refine congrArg nI (tp_be ⟨fun ⟨s, z1, z2⟩ => ⟨s, Or.inl z1, z2⟩, fun ⟨s, z1, z2⟩ => ?_⟩)
    rcases z1 with y | y
    · exact ⟨s, y, z2⟩
    · rw [y] at z2
      exact absurd z2 h1
theorem tp_YZ_trap {F : Nat → Int32} {Z Fd : Nat → Prop} {fd trp : Nat → Int32} {ends : Int32} {t : Nat} (h : tp_YZ F Z Fd fd trp ends) (hF : F t = -2) (hZ : ¬ Z t) (ht : t < 4096) : tp_YZ F (fun s => Z s ∨ s = t) Fd fd (upd trp (t / 256) (trp (t / 256) + 1)) ends := by
  refine ⟨h.1, fun p hp => ?_, ?_⟩
  · by_cases e : p = t / 256
    · subst e
      rw [pk_us, h.2.1 _ hp, nI_1]
      refine congrArg nI (tp_cn_p (s := t) (fun z => hZ z.1) ⟨Or.inr rfl, hF⟩ (fun s hs => ⟨fun z => ⟨z.1.elim id (fun y => absurd y hs), z.2⟩, fun z => ⟨Or.inl z.1, z.2⟩⟩) (by omega) (by omega)).symm
    · rw [pk_un e, h.2.1 p hp]
      refine congrArg nI (tp_cn_e (fun s h1 h2 => ⟨fun z => ⟨Or.inl z.1, z.2⟩, fun z => ⟨?_, z.2⟩⟩))
      rcases z.1 with y | y
      · exact y
      · omega
  · rw [h.2.2]
    refine congrArg nI (tp_be ⟨fun ⟨s, z1, z2⟩ => ⟨s, Or.inl z1, z2⟩, fun ⟨s, z1, z2⟩ => ?_⟩)
    rcases z1 with y | y
    · exact ⟨s, y, z2⟩
    · rw [y, hF] at z2
      exact absurd z2 (by decide)
theorem tp_YZ_fd {F : Nat → Int32} {Z Fd A : Nat → Prop} {fd trp al : Nat → Int32} {ends : Int32} {s : Nat} (h : tp_YZ F Z Fd fd trp ends) (hA : tp_S al A) (hs : s < 4096) : tp_YZ F Z (fun q => Fd q ∨ (q = s ∧ ¬ A q)) (upd fd (s / 16) (fd (s / 16) ||| (((1 : Int32) <<< (nI (s % 16) &&& 31)) &&& (al (s / 16) ^^^ (-1))))) trp ends := by
  refine ⟨?_, h.2⟩
  have hi : s / 16 < 256 := by omega
  refine tp_S_u h.1 hi ?_ (fun q hq => ⟨Or.inl, fun z => z.elim id (fun y => absurd (by rw [y.1]) hq)⟩)
  refine tp_M_e (tp_M_or (h.1 _ hi) (tp_M_not (tp_M_1 (Nat.mod_lt s (by omega)) (s / 16)) (hA _ hi))) (fun j _ => ?_)
  have e : 16 * (s / 16) + s % 16 = s := by omega
  rw [e]
/-! taking what a round found -/
def tp_YF (fst0 fst : Nat → Int32) (Fd : Nat → Prop) (n i : Nat) : Prop := ∀ p, p < 16 →
  (¬ fst0 p = -5 → fst p = fst0 p) ∧ (fst0 p = -5 → (∃ s, s < 16 * i ∧ s / 256 = p ∧ Fd s) → fst p = nI n) ∧ (fst0 p = -5 → (¬ ∃ s, s < 16 * i ∧ s / 256 = p ∧ Fd s) → fst p = -5)
theorem tp_YF_0 (fst0 : Nat → Int32) (Fd : Nat → Prop) (n : Nat) : tp_YF fst0 fst0 Fd n 0 :=
  fun _ _ => ⟨fun _ => rfl, fun _ ⟨_, h, _⟩ => by omega, fun h _ => h⟩
/-- a row without a find -/
theorem tp_YF_n {fst0 fst : Nat → Int32} {Fd : Nat → Prop} {n i : Nat} (h : tp_YF fst0 fst Fd n i) (hf : ∀ j, j < 16 → ¬ Fd (16 * i + j)) : tp_YF fst0 fst Fd n (i + 1) := by
  have key : ∀ p, (∃ s, s < 16 * (i + 1) ∧ s / 256 = p ∧ Fd s) → ∃ s, s < 16 * i ∧ s / 256 = p ∧ Fd s := by
    intro p ⟨s, h1, h2, h3⟩
    rcases Nat.lt_or_ge s (16 * i) with z | z
    · exact ⟨s, z, h2, h3⟩
    · refine absurd h3 ?_
      have e : s = 16 * i + (s - 16 * i) := by omega
      rw [e]
      exact hf _ (by omega)
  intro p hp
  obtain ⟨a, b, c⟩ := h p hp
  exact ⟨a, fun z y => b z (key p y), fun z y => c z (fun ⟨s, h1, h2⟩ => y ⟨s, by omega, h2⟩)⟩
/-- a row with a find, the first time known or not -/
theorem tp_YF_s {fst0 fst : Nat → Int32} {Fd : Nat → Prop} {n i j : Nat} (hn : n < 2 ^ 31) (hj : j < 16) (h : tp_YF fst0 fst Fd n i) (hf : Fd (16 * i + j)) (hx : fst (i / 16) = -5) : tp_YF fst0 (upd fst (i / 16) (nI n)) Fd n (i + 1) := by
  intro p hp
  obtain ⟨a, b, c⟩ := h p hp
  by_cases e : p = i / 16
  · subst e
    rw [pk_us]
    have w : ∃ s, s < 16 * (i + 1) ∧ s / 256 = i / 16 ∧ Fd s := ⟨16 * i + j, by omega, by omega, hf⟩
    exact ⟨fun z => absurd ((a z).symm.trans hx) z, fun _ _ => rfl, fun _ y => absurd w y⟩
  · rw [pk_un e]
    have key : (∃ s, s < 16 * (i + 1) ∧ s / 256 = p ∧ Fd s) → ∃ s, s < 16 * i ∧ s / 256 = p ∧ Fd s := by
      intro ⟨s, h1, h2, h3⟩
      exact ⟨s, by omega, h2, h3⟩
    exact ⟨a, fun z y => b z (key y), fun z y => c z (fun ⟨s, h1, h2⟩ => y ⟨s, by omega, h2⟩)⟩
theorem tp_YF_k {fst0 fst : Nat → Int32} {Fd : Nat → Prop} {n i j : Nat} (hj : j < 16) (h : tp_YF fst0 fst Fd n i) (hf : Fd (16 * i + j)) (hx : ¬ fst (i / 16) = -5) : tp_YF fst0 fst Fd n (i + 1) := by
  intro p hp
  obtain ⟨a, b, c⟩ := h p hp
  by_cases e : p = i / 16
  · subst e
    refine ⟨a, fun z _ => ?_, fun z y => absurd ⟨16 * i + j, by omega, by omega, hf⟩ y⟩
    rcases Classical.em (∃ s, s < 16 * i ∧ s / 256 = i / 16 ∧ Fd s) with q | q
    · exact b z q
    · exact absurd (c z q) hx
  · have key : (∃ s, s < 16 * (i + 1) ∧ s / 256 = p ∧ Fd s) → ∃ s, s < 16 * i ∧ s / 256 = p ∧ Fd s := by
      intro ⟨s, h1, h2, h3⟩
      exact ⟨s, by omega, h2, h3⟩
    exact ⟨a, fun z y => b z (key y), fun z y => c z (fun ⟨s, h1, h2⟩ => y ⟨s, by omega, h2⟩)⟩
/-! a stage of the reference -/
def tp_Fs (B : Nat → Prop) (K f : Nat → Nat) (fst : Nat → Int32) (n : Nat) : Prop := ∀ p, p < 16 →
  (∀ m, tp_L B K f p m → m ≤ n → fst p = nI m) ∧ ((∀ m, m ≤ n → ¬ tp_H B K f p m) → fst p = -5)
theorem tp_Fs_0 {B : Nat → Prop} {K f : Nat → Nat} {fst0 fst : Nat → Int32} (hB : ∀ s, B s → s < 4096) (h0 : ∀ p, p < 16 → fst0 p = -5) (h : tp_YF fst0 fst B 0 256) : tp_Fs B K f fst 0 := by
  intro p hp
  obtain ⟨a, b, c⟩ := h p hp
  refine ⟨fun m hm hl => ?_, fun hn => c (h0 p hp) (fun ⟨s, h1, h2, h3⟩ => hn 0 (Nat.le_refl _) ⟨s, h2, h3⟩)⟩
  have e : m = 0 := by omega
  subst e
  obtain ⟨s, hs, hR⟩ := hm.1
  exact b (h0 p hp) ⟨s, hB s hR, hs, hR⟩
theorem tp_Fs_s {L : Nat} {B : Nat → Prop} {K f : Nat → Nat} {fst0 fst : Nat → Int32} {n : Nat} (hL : L ≤ 16) (W : tp_Wf L B K f) (hn : n < 2 ^ 30) (h0 : tp_Fs B K f fst0 n) (h : tp_YF fst0 fst (fun s => tp_D B K f s (n + 1)) (n + 1) 256) : tp_Fs B K f fst (n + 1) := by
  intro p hp
  obtain ⟨a, b, c⟩ := h p hp
  obtain ⟨a0, b0⟩ := h0 p hp
  have key : ∀ s, s / 256 = p → tp_D B K f s (n + 1) → ∃ s, s < 16 * 256 ∧ s / 256 = p ∧ tp_D B K f s (n + 1) := by
    intro s hs hD
    have := tp_R_lt W hD.1
    exact ⟨s, by omega, hs, hD⟩
  refine ⟨fun m hm hl => ?_, fun hno => ?_⟩
  · rcases Nat.lt_or_ge n m with z | z
    · have e : m = n + 1 := by omega
      subst e
      have x : fst0 p = -5 := b0 (fun m' hl' hH => by have := hm.2 m' hH; omega)
      obtain ⟨s, hs, hD⟩ := tp_L_D hm
      exact b x (key s hs hD)
    · have x := a0 m hm z
      rw [← x]
      refine a ?_
      rw [x]
      exact tp_code_ne (by omega)
  · refine c (b0 (fun m hl => hno m (by omega))) (fun ⟨s, h1, h2, h3⟩ => hno (n + 1) (Nat.le_refl _) ⟨s, h2, h3.1⟩)
theorem tp_Fs_e {B : Nat → Prop} {K f : Nat → Nat} {fst : Nat → Int32} {n : Nat} (hn : ∀ s, ¬ tp_D B K f s n) (h : tp_Fs B K f fst n) : ∀ p, p < 16 → ((∀ m, ¬ tp_H B K f p m) → fst p = -5) ∧ ∀ m, tp_L B K f p m → fst p = nI m := by
  intro p hp
  obtain ⟨a, b⟩ := h p hp
  refine ⟨fun z => b (fun m _ => z m), fun m hm => a m hm ?_⟩
  obtain ⟨s, hs, hD⟩ := tp_L_D hm
  obtain ⟨m', hl, hR⟩ := tp_A_e hn m s hD.1
  have := hD.2 m' hR
  omega
/-! dropping states, round by round: d whether one fell in this round -/
def tp_Dr (K f : Nat → Nat) (g : Nat → Prop) (r : Nat) (d : Int32) (Dn : Nat → Prop) : Prop :=
  (d = 0 ∧ tp_cn g 0 4096 + r ≤ 4096 ∧ ∀ s, Dn s → g s → tp_Cl K f g s) ∨ (d = 1 ∧ tp_cn g 0 4096 + r + 1 ≤ 4096)
def tp_Hd (K f : Nat → Nat) (g : Nat → Prop) (r : Nat) (d : Int32) : Prop :=
  (d = 1 ∧ tp_cn g 0 4096 + r ≤ 4096) ∨ (d = 0 ∧ ∀ s, g s → tp_Cl K f g s)
theorem tp_Hd_x {K f : Nat → Nat} {g : Nat → Prop} {d : Int32} (h : tp_Hd K f g 4097 d) : ∀ s, g s → tp_Cl K f g s := by
  rcases h with h | h
  · omega
  · exact h.2
theorem tp_Hd_0 {K f : Nat → Nat} {g : Nat → Prop} {r : Nat} (h : tp_Hd K f g r 0) : ∀ s, g s → tp_Cl K f g s := by
  rcases h with h | h
  · exact absurd h.1 (by decide)
  · exact h.2
theorem tp_Hd_1 {K f : Nat → Nat} {g : Nat → Prop} {r : Nat} {d : Int32} (h : tp_Hd K f g r d) (hd : ¬ d = 0) : tp_cn g 0 4096 + r ≤ 4096 := by
  rcases h with h | h
  · exact h.2
  · exact absurd h.1 hd
theorem tp_Dr_e {K f : Nat → Nat} {g Dn : Nat → Prop} {r : Nat} {d : Int32} (h : tp_Dr K f g r d Dn) (hD : ∀ s, g s → Dn s) : tp_Hd K f g (r + 1) d := by
  rcases h with h | h
  · exact Or.inr ⟨h.1, fun s hs => h.2.2 s (hD s hs) hs⟩
  · exact Or.inl ⟨h.1, by omega⟩
theorem tp_Dr_k {K f : Nat → Nat} {g Dn Dn' : Nat → Prop} {r : Nat} {d : Int32} (h : tp_Dr K f g r d Dn) (hD : ∀ s, Dn' s → g s → Dn s ∨ tp_Cl K f g s) : tp_Dr K f g r d Dn' := by
  rcases h with h | h
  · exact Or.inl ⟨h.1, h.2.1, fun s h1 h2 => (hD s h1 h2).elim (fun z => h.2.2 s z h2) id⟩
  · exact Or.inr h
theorem tp_Dr_d {K f : Nat → Nat} {g g' Dn : Nat → Prop} (Dn' : Nat → Prop) {r : Nat} {d : Int32} (h : tp_Dr K f g r d Dn) (hc : tp_cn g' 0 4096 < tp_cn g 0 4096) : tp_Dr K f g' r 1 Dn' := by
  refine Or.inr ⟨rfl, ?_⟩
  rcases h with h | h
  · have := h.2.1; omega
  · have := h.2; omega
/-! the reference's rows of states that go on -/
def tp_YG (B : Nat → Prop) (K f : Nat → Nat) (en : Nat → Int32) (g : Nat → Prop) : Prop :=
  (∀ s, g s → tp_P B K f s) ∧ (∀ s, tp_G B K f s → g s) ∧ tp_S en g
theorem tp_YG_k {B : Nat → Prop} {K f : Nat → Nat} {en : Nat → Int32} {g : Nat → Prop} {i : Nat} {k : Int32} (h : tp_YG B K f en g) (hi : i < 256) (hk : tp_M k i (fun s => g s ∧ tp_Cl K f g s)) (e : k = en i) : ∀ s, s / 16 = i → g s → tp_Cl K f g s := by
  intro s hs hg
  subst e
  have e : 16 * i + s % 16 = s := by omega
  have x := (h.2.2 i hi (s % 16) (by omega)).mpr ⟨by omega, by rw [e]; exact hg⟩
  have y := ((hk (s % 16) (by omega)).mp x).2
  rw [e] at y
  exact y.2
theorem tp_YG_d {B : Nat → Prop} {K f : Nat → Nat} {en : Nat → Int32} {g : Nat → Prop} {i : Nat} {k : Int32} (h : tp_YG B K f en g) (hi : i < 256) (hk : tp_M k i (fun s => g s ∧ tp_Cl K f g s)) (e : ¬ k = en i) : tp_YG B K f (upd en i k) (fun s => g s ∧ (s / 16 = i → tp_Cl K f g s)) ∧ tp_cn (fun s => g s ∧ (s / 16 = i → tp_Cl K f g s)) 0 4096 < tp_cn g 0 4096 := by
  refine ⟨⟨fun s hs => h.1 s hs.1, fun s hs => ⟨h.2.1 s hs, fun _ => tp_G_drop h.2.1 hs⟩, ?_⟩, ?_⟩
  · refine tp_S_u h.2.2 hi (tp_M_e hk (fun j hj => ⟨fun z => ⟨z.1, fun _ => z.2⟩, fun z => ⟨z.1, z.2 (by omega)⟩⟩)) (fun s hs => ⟨fun z => ⟨z, fun y => absurd y hs⟩, fun z => z.1⟩)
  · rcases Classical.em (∃ j, j < 16 ∧ g (16 * i + j) ∧ ¬ tp_Cl K f g (16 * i + j)) with z | z
    · obtain ⟨j, hj, hg, hc⟩ := z
      exact tp_cn_sub (s := 16 * i + j) (fun t _ _ q => q.1) (fun q => hc (q.2 (by omega))) hg (by omega) (by omega)
    · refine absurd (tp_M_u (tp_M_e hk (fun j hj => ⟨fun q => q.1, fun q => ⟨q, ?_⟩⟩)) (h.2.2 i hi)) e
      rcases Classical.em (tp_Cl K f g (16 * i + j)) with y | y
      · exact y
      · exact absurd ⟨j, hj, q, y⟩ z
end
section
/-! a round at stage n: the states of the layer below cur are gone through -/
def tp_Zc (B : Nat → Prop) (K f : Nat → Nat) (n cur s : Nat) : Prop := (tp_A B K f n s ∧ ¬ tp_D B K f s n) ∨ (tp_D B K f s n ∧ s < cur)
def tp_Nc (B : Nat → Prop) (K f : Nat → Nat) (n cur s : Nat) : Prop := ¬ tp_A B K f n s ∧ ∃ t, tp_D B K f t n ∧ t < cur ∧ tp_E K f t s
theorem tp_Zc_0 {B : Nat → Prop} {K f : Nat → Nat} {n : Nat} (s : Nat) : tp_Zc B K f n 0 s ↔ (tp_A B K f n s ∧ ¬ tp_D B K f s n) :=
  ⟨fun h => h.elim id (fun z => absurd z.2 (Nat.not_lt_zero _)), Or.inl⟩
theorem tp_Nc_0 {B : Nat → Prop} {K f : Nat → Nat} {n : Nat} (s : Nat) : ¬ tp_Nc B K f n 0 s := fun ⟨_, _, _, h, _⟩ => Nat.not_lt_zero _ h
theorem tp_Zc_k {B : Nat → Prop} {K f : Nat → Nat} {n t : Nat} (h : ¬ tp_D B K f t n) (s : Nat) : tp_Zc B K f n t s ↔ tp_Zc B K f n (t + 1) s := by
  refine ⟨fun z => z.elim Or.inl (fun y => Or.inr ⟨y.1, by have := y.2; omega⟩), fun z => z.elim Or.inl (fun y => Or.inr ⟨y.1, ?_⟩)⟩
  have h2 := y.2
  rcases Nat.lt_or_ge s t with q | q
  · exact q
  · have e : s = t := by omega
    rw [e] at y
    exact absurd y.1 h
theorem tp_Nc_k {B : Nat → Prop} {K f : Nat → Nat} {n t : Nat} (h : ¬ tp_D B K f t n) (s : Nat) : tp_Nc B K f n t s ↔ tp_Nc B K f n (t + 1) s := by
  refine ⟨fun ⟨a, q, b, c, d⟩ => ⟨a, q, b, by omega, d⟩, fun ⟨a, q, b, c, d⟩ => ⟨a, q, b, ?_, d⟩⟩
  rcases Nat.lt_or_ge q t with z | z
  · exact z
  · have e : q = t := by omega
    rw [e] at b
    exact absurd b h
theorem tp_Zc_s {B : Nat → Prop} {K f : Nat → Nat} {n t : Nat} (h : tp_D B K f t n) (s : Nat) : (tp_Zc B K f n t s ∨ s = t) ↔ tp_Zc B K f n (t + 1) s := by
  constructor
  · rintro (z | z)
    · exact z.elim Or.inl (fun y => Or.inr ⟨y.1, by have := y.2; omega⟩)
    · subst z
      exact Or.inr ⟨h, by omega⟩
  · rintro (z | z)
    · exact Or.inl (Or.inl z)
    · have z2 := z.2
      rcases Nat.lt_or_ge s t with q | q
      · exact Or.inl (Or.inr ⟨z.1, q⟩)
      · exact Or.inr (by omega)
theorem tp_Nc_s {B : Nat → Prop} {K f : Nat → Nat} {n t : Nat} (h : tp_D B K f t n) (s : Nat) : (tp_Nc B K f n t s ∨ (¬ tp_A B K f n s ∧ tp_E K f t s)) ↔ tp_Nc B K f n (t + 1) s := by
  constructor
  · rintro (⟨a, q, b, c, d⟩ | ⟨a, d⟩)
    · exact ⟨a, q, b, by omega, d⟩
    · exact ⟨a, t, h, by omega, d⟩
  · rintro ⟨a, q, b, c, d⟩
    rcases Nat.lt_or_ge q t with z | z
    · exact Or.inl ⟨a, q, b, z, d⟩
    · have e : q = t := by omega
      rw [e] at d
      exact Or.inr ⟨a, d⟩
theorem tp_Zc_n {B : Nat → Prop} {K f : Nat → Nat} {n t : Nat} (h : tp_D B K f t n) : ¬ tp_Zc B K f n t t := by
  rintro (z | z)
  · exact z.2 h
  · exact Nat.lt_irrefl _ z.2
theorem tp_D_lt {L : Nat} {B : Nat → Prop} {K f : Nat → Nat} {n s : Nat} (hL : L ≤ 16) (W : tp_Wf L B K f) (h : tp_D B K f s n) : s < 4096 := by
  have := tp_R_lt W h.1
  omega
theorem tp_Zc_x {L : Nat} {B : Nat → Prop} {K f : Nat → Nat} {n : Nat} (hL : L ≤ 16) (W : tp_Wf L B K f) (s : Nat) : tp_Zc B K f n 4096 s ↔ tp_A B K f n s := by
  constructor
  · rintro (z | z)
    · exact z.1
    · exact tp_D_A z.1
  · intro z
    rcases Classical.em (tp_D B K f s n) with h | h
    · exact Or.inr ⟨h, tp_D_lt hL W h⟩
    · exact Or.inl ⟨z, h⟩
theorem tp_Nc_x {L : Nat} {B : Nat → Prop} {K f : Nat → Nat} {n : Nat} (hL : L ≤ 16) (W : tp_Wf L B K f) (s : Nat) : tp_Nc B K f n 4096 s ↔ tp_D B K f s (n + 1) := by
  rw [tp_lay]
  exact ⟨fun ⟨a, t, b, _, d⟩ => ⟨a, t, b, d⟩, fun ⟨a, t, b, d⟩ => ⟨a, t, b, tp_D_lt hL W b, d⟩⟩
/-! going on from t: v values tried -/
def tp_Zv (Z : Nat → Prop) (t v s : Nat) : Prop := Z s ∨ (s = t ∧ 0 < v)
def tp_Nv (Fd A : Nat → Prop) (K f : Nat → Nat) (t v s : Nat) : Prop := Fd s ∨ (¬ A s ∧ ∃ k, k < v ∧ k < K t ∧ s = f t + k)
theorem tp_Nv_x {Fd A : Nat → Prop} {K f : Nat → Nat} {t : Nat} (hK : K t ≤ 16) (s : Nat) : tp_Nv Fd A K f t 16 s ↔ (Fd s ∨ (¬ A s ∧ tp_E K f t s)) :=
  ⟨fun h => h.elim Or.inl (fun ⟨a, k, _, b, c⟩ => Or.inr ⟨a, k, b, c⟩), fun h => h.elim Or.inl (fun ⟨a, k, b, c⟩ => Or.inr ⟨a, k, by omega, b, c⟩)⟩
/-- no next state with this v -/
theorem tp_Nv_k {Fd A : Nat → Prop} {K f : Nat → Nat} {t v : Nat} (hK : K t ≤ v) (s : Nat) : tp_Nv Fd A K f t v s ↔ tp_Nv Fd A K f t (v + 1) s :=
  ⟨fun h => h.elim Or.inl (fun ⟨a, k, b, c⟩ => Or.inr ⟨a, k, by omega, c⟩), fun h => h.elim Or.inl (fun ⟨a, k, _, c, d⟩ => Or.inr ⟨a, k, by omega, c, d⟩)⟩
theorem tp_Nv_s {Fd A : Nat → Prop} {K f : Nat → Nat} {t v : Nat} (hK : v < K t) (s : Nat) : (tp_Nv Fd A K f t v s ∨ (s = f t + v ∧ ¬ A s)) ↔ tp_Nv Fd A K f t (v + 1) s := by
  constructor
  · rintro ((h | ⟨a, k, b, c⟩) | ⟨h, a⟩)
    · exact Or.inl h
    · exact Or.inr ⟨a, k, by omega, c⟩
    · exact Or.inr ⟨a, v, by omega, hK, h⟩
  · rintro (h | ⟨a, k, b, c, d⟩)
    · exact Or.inl (Or.inl h)
    · rcases Nat.lt_or_ge k v with z | z
      · exact Or.inl (Or.inr ⟨a, k, z, c, d⟩)
      · have e : k = v := by omega
        subst e
        exact Or.inr ⟨d, a⟩
theorem tp_Zv_k {Z : Nat → Prop} {t v : Nat} (hv : 0 < v) (s : Nat) : tp_Zv Z t v s ↔ tp_Zv Z t (v + 1) s :=
  ⟨fun h => h.elim Or.inl (fun z => Or.inr ⟨z.1, by omega⟩), fun h => h.elim Or.inl (fun z => Or.inr ⟨z.1, hv⟩)⟩
theorem tp_Zv_s {Z : Nat → Prop} {t v : Nat} (s : Nat) : (tp_Zv Z t v s ∨ s = t) ↔ tp_Zv Z t (v + 1) s := by
  constructor
  · rintro ((h | h) | h)
    · exact Or.inl h
    · exact Or.inr ⟨h.1, by omega⟩
    · exact Or.inr ⟨h, by omega⟩
  · rintro (h | h)
    · exact Or.inl (Or.inl h)
    · exact Or.inr h.1
theorem tp_Zv_x {Z : Nat → Prop} {t : Nat} (s : Nat) : tp_Zv Z t 16 s ↔ (Z s ∨ s = t) :=
  ⟨fun h => h.elim Or.inl (fun z => Or.inr z.1), fun h => h.elim Or.inl (fun z => Or.inr ⟨z, by omega⟩)⟩
theorem tp_Zv_0 {Z : Nat → Prop} {t : Nat} (s : Nat) : Z s ↔ tp_Zv Z t 0 s :=
  ⟨Or.inl, fun h => h.elim id (fun z => absurd z.2 (Nat.lt_irrefl _))⟩
theorem tp_Nv_0 {Fd A : Nat → Prop} {K f : Nat → Nat} {t : Nat} (s : Nat) : Fd s ↔ tp_Nv Fd A K f t 0 s :=
  ⟨Or.inl, fun h => h.elim id (fun ⟨_, _, z, _⟩ => absurd z (Nat.not_lt_zero _))⟩
/-! a whole stage -/
def tp_YS (B : Nat → Prop) (K f : Nat → Nat) (F : Nat → Int32) (n : Nat) (all last fst trp : Nat → Int32) (ends : Int32) : Prop :=
  tp_S all (tp_A B K f n) ∧ tp_S last (fun s => tp_D B K f s n) ∧ tp_Fs B K f fst n ∧
  (∀ p, p < 16 → trp p = nI (tp_cn (fun s => (tp_A B K f n s ∧ ¬ tp_D B K f s n) ∧ F s = -2) (256 * p) 256)) ∧ ends = nI (tp_b (∃ s, (tp_A B K f n s ∧ ¬ tp_D B K f s n) ∧ F s = -1))
theorem tp_YS_r {B : Nat → Prop} {K f : Nat → Nat} {F : Nat → Int32} {n : Nat} {all last fst trp fd : Nat → Int32} {ends : Int32} (h : tp_YS B K f F n all last fst trp ends) (h0 : ∀ i, i < 256 → fd i = 0) : tp_YZ F (tp_Zc B K f n 0) (tp_Nc B K f n 0) fd trp ends := by
  have e : (fun s => tp_A B K f n s ∧ ¬ tp_D B K f s n) = tp_Zc B K f n 0 := funext (fun s => propext (tp_Zc_0 s).symm)
  refine ⟨fun i hi => ?_, ?_, ?_⟩
  · rw [h0 i hi]; exact tp_M_0 (fun j _ => tp_Nc_0 _)
  · rw [← e]; exact h.2.2.2.1
  · rw [← e]; exact h.2.2.2.2
/-- after a round and a take -/
theorem tp_YS_s {L : Nat} {B : Nat → Prop} {K f : Nat → Nat} {F : Nat → Int32} {n : Nat} {all last fst trp fd all' last' fst' : Nat → Int32} {ends ends0 : Int32} {trp0 : Nat → Int32} (hL : L ≤ 16) (W : tp_Wf L B K f) (hn : n < 2 ^ 30) (h : tp_YS B K f F n all last fst trp0 ends0) (hz : tp_YZ F (tp_A B K f n) (fun s => tp_D B K f s (n + 1)) fd trp ends)
    (ha : tp_S all' (fun s => tp_A B K f n s ∨ tp_D B K f s (n + 1))) (hl : tp_S last' (fun s => tp_D B K f s (n + 1))) (hf : tp_YF fst fst' (fun s => tp_D B K f s (n + 1)) (n + 1) 256) : tp_YS B K f F (n + 1) all' last' fst' trp ends := by
  have e : tp_A B K f n = (fun s => tp_A B K f (n + 1) s ∧ ¬ tp_D B K f s (n + 1)) := by
    funext s
    apply propext
    rw [tp_A_s]
    constructor
    · intro z
      refine ⟨Or.inl z, fun y => ?_⟩
      exact (tp_lay.mp y).1 z
    · rintro ⟨z | z, y⟩
      · exact z
      · exact absurd z y
  refine ⟨tp_S_e ha (fun s _ => tp_A_s.symm), hl, tp_Fs_s hL W hn h.2.2.1 hf, ?_, ?_⟩
  · rw [e] at hz; exact hz.2.1
  · rw [e] at hz; exact hz.2.2
theorem tp_YS_0 {L : Nat} {B : Nat → Prop} {K f : Nat → Nat} {F : Nat → Int32} {all' last' fst fst' trp : Nat → Int32} {ends : Int32} (hL : L ≤ 16) (W : tp_Wf L B K f) (ht : ∀ p, p < 16 → trp p = 0) (he : ends = 0) (h0 : ∀ p, p < 16 → fst p = -5)
    (ha : tp_S all' B) (hl : tp_S last' B) (hf : tp_YF fst fst' B 0 256) : tp_YS B K f F 0 all' last' fst' trp ends := by
  have no : ∀ s, ¬ (tp_A B K f 0 s ∧ ¬ tp_D B K f s 0) := fun s z => z.2 (tp_D_0.mpr (tp_A_0.mp z.1))
  refine ⟨tp_S_e ha (fun s _ => tp_A_0.symm), tp_S_e hl (fun s _ => tp_D_0.symm), tp_Fs_0 (fun s hs => by have := W.1 s hs; omega) h0 hf, fun p hp => ?_, ?_⟩
  · rw [ht p hp, tp_cn_0 (fun s _ _ z => no s z.1)]; rfl
  · rw [he, tp_b0 (fun ⟨s, z, _⟩ => no s z)]; rfl
/-- the last layer is empty -/
theorem tp_YS_x {B : Nat → Prop} {K f : Nat → Nat} {F : Nat → Int32} {n : Nat} {all last fst trp : Nat → Int32} {ends : Int32} (h : tp_YS B K f F n all last fst trp ends) (hn : ∀ s, ¬ tp_D B K f s n) :
    tp_S all (tp_P B K f) ∧ (∀ p, p < 16 → ((∀ m, ¬ tp_H B K f p m) → fst p = -5) ∧ ∀ m, tp_L B K f p m → fst p = nI m) ∧
    (∀ p, p < 16 → trp p = nI (tp_cn (fun s => tp_P B K f s ∧ F s = -2) (256 * p) 256)) ∧ ends = nI (tp_b (∃ s, tp_P B K f s ∧ F s = -1)) := by
  have e : (fun s => tp_A B K f n s ∧ ¬ tp_D B K f s n) = tp_P B K f := by
    funext s
    apply propext
    rw [tp_A_end hn]
    exact ⟨fun z => z.1, fun z => ⟨z, hn s⟩⟩
  refine ⟨tp_S_e h.1 (fun s _ => tp_A_end hn), tp_Fs_e hn h.2.2.1, ?_, ?_⟩
  · rw [← e]; exact h.2.2.2.1
  · rw [← e]; exact h.2.2.2.2
/-- how many states a stage has at least, while the last layer isn't empty -/
theorem tp_cA_0 {L : Nat} {B : Nat → Prop} {K f : Nat → Nat} (hL : L ≤ 16) (W : tp_Wf L B K f) (h : ∃ s, tp_D B K f s 0) : 1 ≤ tp_cn (tp_A B K f 0) 0 4096 := by
  obtain ⟨s, hs⟩ := h
  exact tp_cn_pos (s := s) (tp_D_A hs) (by omega) (by have := tp_D_lt hL W hs; omega)
theorem tp_cA_s {L : Nat} {B : Nat → Prop} {K f : Nat → Nat} {n : Nat} (hL : L ≤ 16) (W : tp_Wf L B K f) (h : ∃ s, tp_D B K f s (n + 1)) (hc : n + 1 ≤ tp_cn (tp_A B K f n) 0 4096) : n + 1 + 1 ≤ tp_cn (tp_A B K f (n + 1)) 0 4096 := by
  obtain ⟨s, hs⟩ := h
  have x := tp_cn_sub (P := tp_A B K f n) (Q := tp_A B K f (n + 1)) (a := 0) (n := 4096) (s := s) (fun t _ _ z => tp_A_s.mpr (Or.inl z)) (tp_lay.mp hs).1 (tp_D_A hs) (by omega) (by have := tp_D_lt hL W hs; omega)
  omega
theorem tp_D_d {B : Nat → Prop} {K f : Nat → Nat} {n : Nat} (h : ∃ s, tp_D B K f s (n + 1)) : ∃ s, tp_D B K f s n := by
  obtain ⟨s, hs⟩ := h
  obtain ⟨t, ht, _⟩ := (tp_lay.mp hs).2
  exact ⟨t, ht⟩
end
section
/-! what the questions answer -/
def tp_Sv (B : Nat → Prop) (K f : Nat → Nat) (p : Nat) (r : Int32) : Prop := ((∀ m, ¬ tp_H B K f p m) → r = -5) ∧ ∀ m, tp_L B K f p m → r = nI m
theorem tp_Sv_u {B : Nat → Prop} {K f : Nat → Nat} {p : Nat} {r r' : Int32} (h : tp_Sv B K f p r) (h' : tp_Sv B K f p r') : r' = r := by
  rcases tp_L_or B K f p with z | ⟨m, z⟩
  · rw [h.1 z, h'.1 z]
  · rw [h.2 m z, h'.2 m z]
def tp_So (B : Nat → Prop) (K f : Nat → Nat) (a i : Nat) (r : Int32) : Prop :=
  (r = -5 ∧ ∀ s, a ≤ s → s < a + i → ¬ tp_P B K f s) ∨
  ∃ m, m < 4096 ∧ r = nI m ∧ (∃ s, a ≤ s ∧ s < a + i ∧ tp_R B K f m s) ∧ ∀ s n, a ≤ s → s < a + i → tp_D B K f s n → m ≤ n
theorem tp_So_0 (B : Nat → Prop) (K f : Nat → Nat) (a : Nat) : tp_So B K f a 0 (-5) := Or.inl ⟨rfl, fun s h1 h2 => by omega⟩
theorem tp_So_n {B : Nat → Prop} {K f : Nat → Nat} {a i : Nat} {r : Int32} (h : tp_So B K f a i r) (hn : ¬ tp_P B K f (a + i)) : tp_So B K f a (i + 1) r := by
  have key : ∀ s, a ≤ s → s < a + (i + 1) → tp_P B K f s → s < a + i := by
    intro s h1 h2 hp
    rcases Nat.lt_or_ge s (a + i) with z | z
    · exact z
    · have e : s = a + i := by omega
      rw [e] at hp
      exact absurd hp hn
  rcases h with ⟨h1, h2⟩ | ⟨m, h0, h1, ⟨s, h2, h3, h4⟩, h5⟩
  · exact Or.inl ⟨h1, fun s a1 a2 hp => h2 s a1 (key s a1 a2 hp) hp⟩
  · exact Or.inr ⟨m, h0, h1, ⟨s, h2, by omega, h4⟩, fun s n a1 a2 hD => h5 s n a1 (key s a1 a2 ⟨n, hD.1⟩) hD⟩
theorem tp_So_s {B : Nat → Prop} {K f : Nat → Nat} {a i n : Nat} {r : Int32} (h : tp_So B K f a i r) (hn : n < 4096) (hD : tp_D B K f (a + i) n) : (r = -5 → tp_So B K f a (i + 1) (nI n)) ∧ (nI n < r → tp_So B K f a (i + 1) (nI n)) ∧ (¬ r = -5 → ¬ nI n < r → tp_So B K f a (i + 1) r) := by
  have last : ∀ s, s < a + (i + 1) → ¬ s < a + i → s = a + i := fun s h1 h2 => by omega
  rcases h with ⟨h1, h2⟩ | ⟨m, h0, h1, ⟨s, h2, h3, h4⟩, h5⟩
  · have x : tp_So B K f a (i + 1) (nI n) := by
      refine Or.inr ⟨n, hn, rfl, ⟨a + i, by omega, by omega, hD.1⟩, fun s n' a1 a2 hD' => ?_⟩
      rcases Nat.lt_or_ge s (a + i) with z | z
      · exact absurd ⟨n', hD'.1⟩ (h2 s a1 z)
      · have e := last s a2 (by omega)
        rw [e] at hD'
        exact hD.2 n' hD'.1
    exact ⟨fun _ => x, fun _ => x, fun z => absurd h1 z⟩
  · refine ⟨fun z => ?_, fun z => ?_, fun _ z => ?_⟩
    · rw [h1] at z
      exact absurd z (tp_code_ne (by omega))
    · rw [h1, nI_ltI (by omega) (by omega)] at z
      refine Or.inr ⟨n, hn, rfl, ⟨a + i, by omega, by omega, hD.1⟩, fun s' n' a1 a2 hD' => ?_⟩
      rcases Nat.lt_or_ge s' (a + i) with y | y
      · have := h5 s' n' a1 y hD'; omega
      · have e := last s' a2 (by omega)
        rw [e] at hD'
        exact hD.2 n' hD'.1
    · rw [h1, nI_ltI (by omega) (by omega)] at z
      refine Or.inr ⟨m, h0, h1, ⟨s, h2, by omega, h4⟩, fun s' n' a1 a2 hD' => ?_⟩
      rcases Nat.lt_or_ge s' (a + i) with y | y
      · exact h5 s' n' a1 y hD'
      · have e := last s' a2 (by omega)
        rw [e] at hD'
        have := hD.2 n' hD'.1
        have := tp_D_u hD hD'
        omega
theorem tp_So_x {B : Nat → Prop} {K f : Nat → Nat} {p : Nat} {r : Int32} (h : tp_So B K f (256 * p) 256 r) : tp_Sv B K f p r := by
  rcases h with ⟨h1, h2⟩ | ⟨m, h0, h1, ⟨s, h2, h3, h4⟩, h5⟩
  · refine ⟨fun _ => h1, fun m hm => ?_⟩
    obtain ⟨s, hs, hR⟩ := hm.1
    exact absurd ⟨m, hR⟩ (h2 s (by omega) (by omega))
  · have x : tp_L B K f p m := by
      refine ⟨⟨s, by omega, h4⟩, fun m' hm' => ?_⟩
      obtain ⟨s', hs', hR'⟩ := hm'
      obtain ⟨n, hn⟩ := tp_P_D ⟨m', hR'⟩
      have a1 := h5 s' n (by omega) (by omega) hn
      have a2 := hn.2 m' hR'
      omega
    exact ⟨fun z => absurd x.1 (z m), fun m' hm' => by rw [tp_L_u hm' x]; exact h1⟩
/-- the values of x, and of y, in possible states at p -/
def tp_Tx (P : Nat → Prop) (p v : Nat) : Prop := ∃ s, s / 256 = p ∧ s / 16 % 16 = v ∧ P s
def tp_Ty (P : Nat → Prop) (p v : Nat) : Prop := ∃ s, s / 256 = p ∧ s % 16 = v ∧ P s
/-- the component's mask after i states, q the value that it takes -/
def tp_Tm (P : Nat → Prop) (q : Nat → Nat) (a i v : Nat) : Prop := ∃ s, a ≤ s ∧ s < a + i ∧ q s = v ∧ P s
theorem tp_Tm_0 {P : Nat → Prop} {q : Nat → Nat} {a : Nat} : tp_V 0 (tp_Tm P q a 0) := tp_V_0 (fun _ _ ⟨_, h1, h2, _⟩ => by omega)
theorem tp_Tm_n {P : Nat → Prop} {q : Nat → Nat} {a i : Nat} {m : Int32} (h : tp_V m (tp_Tm P q a i)) (hn : ¬ P (a + i)) : tp_V m (tp_Tm P q a (i + 1)) := by
  refine tp_V_e h (fun v _ => ⟨fun ⟨s, h1, h2, h3⟩ => ⟨s, h1, by omega, h3⟩, fun ⟨s, h1, h2, h3, h4⟩ => ⟨s, h1, ?_, h3, h4⟩⟩)
  rcases Nat.lt_or_ge s (a + i) with z | z
  · exact z
  · have e : s = a + i := by omega
    rw [e] at h4
    exact absurd h4 hn
theorem tp_Tm_s {P : Nat → Prop} {q : Nat → Nat} {a i : Nat} {m : Int32} (h : tp_V m (tp_Tm P q a i)) (hp : P (a + i)) (hq : q (a + i) < 16) : tp_V (m ||| ((1 : Int32) <<< (nI (q (a + i)) &&& 31))) (tp_Tm P q a (i + 1)) := by
  refine tp_V_e (tp_V_or h (tp_V_1 hq)) (fun v _ => ⟨fun z => ?_, fun ⟨s, h1, h2, h3, h4⟩ => ?_⟩)
  · rcases z with ⟨s, h1, h2, h3⟩ | z
    · exact ⟨s, h1, by omega, h3⟩
    · exact ⟨a + i, by omega, by omega, z.symm, hp⟩
  · rcases Nat.lt_or_ge s (a + i) with z | z
    · exact Or.inl ⟨s, h1, z, h3, h4⟩
    · have e : s = a + i := by omega
      rw [e] at h3
      exact Or.inr h3.symm
theorem tp_Tm_x {P : Nat → Prop} {p : Nat} {m : Int32} (h : tp_V m (tp_Tm P (fun s => s / 16 % 16) (256 * p) 256)) : tp_V m (tp_Tx P p) :=
  tp_V_e h (fun v _ => ⟨fun ⟨s, h1, h2, h3, h4⟩ => ⟨s, by omega, h3, h4⟩, fun ⟨s, h1, h3, h4⟩ => ⟨s, by omega, by omega, h3, h4⟩⟩)
theorem tp_Tm_y {P : Nat → Prop} {p : Nat} {m : Int32} (h : tp_V m (tp_Tm P (fun s => s % 16) (256 * p) 256)) : tp_V m (tp_Ty P p) :=
  tp_V_e h (fun v _ => ⟨fun ⟨s, h1, h2, h3, h4⟩ => ⟨s, by omega, h3, h4⟩, fun ⟨s, h1, h3, h4⟩ => ⟨s, by omega, by omega, h3, h4⟩⟩)
/-- the reference's masks after x rows -/
def tp_Yx (P : Nat → Prop) (p x v : Nat) : Prop := v < x ∧ ∃ y, y < 16 ∧ P (16 * (16 * p + v) + y)
def tp_Yy (P : Nat → Prop) (p x v : Nat) : Prop := ∃ x', x' < x ∧ P (16 * (16 * p + x') + v)
theorem tp_Yx_0 {P : Nat → Prop} {p : Nat} : tp_V 0 (tp_Yx P p 0) := tp_V_0 (fun _ _ h => Nat.not_lt_zero _ h.1)
theorem tp_Yy_0 {P : Nat → Prop} {p : Nat} : tp_V 0 (tp_Yy P p 0) := tp_V_0 (fun _ _ ⟨_, h, _⟩ => Nat.not_lt_zero _ h)
theorem tp_Yy_s {P : Nat → Prop} {p x : Nat} {m a : Int32} (h : tp_V m (tp_Yy P p x)) (ha : tp_M a (16 * p + x) P) : tp_V (m ||| a) (tp_Yy P p (x + 1)) := by
  refine tp_V_e (tp_V_or h (tp_M_V ha)) (fun v _ => ⟨fun z => ?_, fun ⟨x', h1, h2⟩ => ?_⟩)
  · rcases z with ⟨x', h1, h2⟩ | z
    · exact ⟨x', by omega, h2⟩
    · exact ⟨x, by omega, z⟩
  · rcases Nat.lt_or_ge x' x with z | z
    · exact Or.inl ⟨x', z, h2⟩
    · have e : x' = x := by omega
      rw [e] at h2
      exact Or.inr h2
theorem tp_Yx_n {P : Nat → Prop} {p x : Nat} {m a : Int32} (h : tp_V m (tp_Yx P p x)) (ha : tp_M a (16 * p + x) P) (h0 : a = 0) : tp_V m (tp_Yx P p (x + 1)) := by
  have z := (tp_M_z ha).mp h0
  refine tp_V_e h (fun v _ => ⟨fun ⟨h1, h2⟩ => ⟨by omega, h2⟩, fun ⟨h1, y, hy, h2⟩ => ⟨?_, y, hy, h2⟩⟩)
  rcases Nat.lt_or_ge v x with q | q
  · exact q
  · have e : v = x := by omega
    rw [e] at h2
    exact absurd h2 (z y hy)
theorem tp_Yx_s {P : Nat → Prop} {p x : Nat} {m a : Int32} (hx : x < 16) (h : tp_V m (tp_Yx P p x)) (ha : tp_M a (16 * p + x) P) (h0 : ¬ a = 0) : tp_V (m ||| ((1 : Int32) <<< (nI x &&& 31))) (tp_Yx P p (x + 1)) := by
  have z : ∃ y, y < 16 ∧ P (16 * (16 * p + x) + y) := by
    rcases Classical.em (∃ y, y < 16 ∧ P (16 * (16 * p + x) + y)) with q | q
    · exact q
    · exact absurd ((tp_M_z ha).mpr (fun j hj hs => q ⟨j, hj, hs⟩)) h0
  refine tp_V_e (tp_V_or h (tp_V_1 hx)) (fun v _ => ⟨fun w => ?_, fun ⟨h1, h2⟩ => ?_⟩)
  · rcases w with ⟨h1, h2⟩ | w
    · exact ⟨by omega, h2⟩
    · rw [w]; exact ⟨by omega, z⟩
  · rcases Nat.lt_or_ge v x with q | q
    · exact Or.inl ⟨q, h2⟩
    · exact Or.inr (by omega)
theorem tp_Yx_x {P : Nat → Prop} {p : Nat} {m : Int32} (h : tp_V m (tp_Yx P p 16)) : tp_V m (tp_Tx P p) := by
  refine tp_V_e h (fun v hv => ⟨fun ⟨h1, y, hy, h2⟩ => ⟨_, by omega, by omega, h2⟩, fun ⟨s, h1, h2, h3⟩ => ⟨hv, s % 16, by omega, ?_⟩⟩)
  have e : 16 * (16 * p + v) + s % 16 = s := by omega
  rw [e]; exact h3
theorem tp_Yy_x {P : Nat → Prop} {p : Nat} {m : Int32} (h : tp_V m (tp_Yy P p 16)) : tp_V m (tp_Ty P p) := by
  refine tp_V_e h (fun v hv => ⟨fun ⟨x, hx, h2⟩ => ⟨_, by omega, by omega, h2⟩, fun ⟨s, h1, h2, h3⟩ => ⟨s / 16 % 16, by omega, ?_⟩⟩)
  have e : 16 * (16 * p + s / 16 % 16) + v = s := by omega
  rw [e]; exact h3
/-- safe -/
theorem tp_safe {L : Nat} {B : Nat → Prop} {K f : Nat → Nat} {F : Nat → Int32} (W : tp_Wf L B K f) (h : ∀ p, p < L → tp_cn (fun s => tp_P B K f s ∧ F s = -2) (256 * p) 256 = 0) : ¬ ∃ s, tp_P B K f s ∧ F s = -2 := by
  intro ⟨s, hp, hF⟩
  have hl := tp_P_lt W hp
  have x := tp_cn_pos (P := fun s => tp_P B K f s ∧ F s = -2) (a := 256 * (s / 256)) (n := 256) (s := s) ⟨hp, hF⟩ (by omega) (by omega)
  have y := h (s / 256) (by omega)
  omega
theorem tp_notsafe {p : Nat} {B : Nat → Prop} {K f : Nat → Nat} {F : Nat → Int32} (h : 0 < tp_cn (fun s => tp_P B K f s ∧ F s = -2) (256 * p) 256) : ∃ s, tp_P B K f s ∧ F s = -2 := by
  rcases Classical.em (∃ s, tp_P B K f s ∧ F s = -2) with z | z
  · exact z
  · have := tp_cn_0 (P := fun s => tp_P B K f s ∧ F s = -2) (a := 256 * p) (n := 256) (fun s _ _ y => z ⟨s, y⟩)
    omega
end
section
/-! small steps -/
theorem tp_nu {i : Nat} (hi : i < 2 ^ 31) {a : Nat → Int32} {v : Int32} {P : (Nat → Int32) → Prop} (h : P (upd a i v)) : ∀ b, b = upd a (nI i).toNatClampNeg v → P b := by
  intro b e
  rw [nI_clamp hi] at e
  subst e
  exact h
theorem tp_n1 {i : Nat} {P : Int32 → Prop} (h : P (nI (i + 1))) : ∀ y, y = nI i + 1 → P y := by
  intro y e
  rw [nI_1] at e
  subst e
  exact h
theorem tp_F0_o {L : Nat} {op c : Int32} {p x y : Nat} (h : L ≤ p) : tp_F0 L op c p x y = -1 := by
  unfold tp_F0
  rw [tp_if_t h]
theorem tp_F0_t {L : Nat} {op c : Int32} {p x y : Nat} (hp : p < L) (h : tp_tr op c x y) : tp_F0 L op c p x y = -2 := by
  unfold tp_F0
  rw [tp_if_f (by omega), tp_if_t h]
theorem tp_F0_g {L : Nat} {op c : Int32} {p x y : Nat} (hp : p < L) (h : tp_go L op c p x y) : tp_F0 L op c p x y = nI (tp_f0 op c p x y) := by
  unfold tp_F0
  rw [tp_if_f (by omega), tp_if_f h.1, tp_if_t h]
theorem tp_F0_n {L : Nat} {op c : Int32} {p x y : Nat} (ht : ¬ tp_tr op c x y) (h : ¬ tp_go L op c p x y) : tp_F0 L op c p x y = -1 := by
  unfold tp_F0
  rw [tp_if_f ht, tp_if_f h]
  by_cases z : L ≤ p
  · rw [tp_if_t z]
  · rw [tp_if_f z]
/-- no instruction at z -/
theorem tp_out {L : Nat} (hL : L ≤ 16) {z : Int32} (h : ∀ q, q < L → ¬ z = nI q) : ¬ (0 ≤ z ∧ z < nI L) := by
  intro ⟨h1, h2⟩
  obtain ⟨q, hq, e⟩ := nI_of (x := z) (Int32.not_lt.mpr h1)
  rw [e, nI_ltI hq (by omega)] at h2
  exact h q h2 e
theorem tp_inn {L q : Nat} (hL : L ≤ 16) {z : Int32} (hq : q < L) (e : z = nI q) : 0 ≤ z ∧ z < nI L := by
  subst e
  exact ⟨nI_pos' (by omega), nI_lt hq (by omega)⟩
/-! the component's methods that only reckon -/
theorem xw_place {post : Int32 → Prop} {p : Int32} (ht : ∀ q, q < 16 → p = nI q → post 1) (hf : (∀ q, q < 16 → ¬ p = nI q) → post 0) : wpX_isPlace post p := by
  rcases pk_ix p (n := 16) (by omega) with h | h | ⟨q, hq, rfl⟩
  · refine br_t h (hf (fun q hq e => ?_))
    subst e
    exact nI_pos (by omega) h
  · have h0 : ¬ p < 0 := Int32.not_lt.mpr (Int32.le_trans (by decide) h)
    refine br_f h0 (br_t h (hf (fun q hq e => ?_)))
    subst e
    exact nI_ge (b := 16) hq (by omega) h
  · exact br_f (nI_pos (by omega)) (br_f (nI_ge (b := 16) hq (by omega)) (ht q hq rfl))
theorem xw_reg {post : Int32 → Prop} {p : Int32} (ht : p = 0 ∨ p = 1 → post 1) (hf : ¬ (p = 0 ∨ p = 1) → post 0) : wpX_isRegister post p :=
  br_c (fun h => ht (Or.inl h)) (fun h => br_c (fun h' => ht (Or.inr h')) (fun h' => hf (fun z => z.elim h h')))
theorem xw_val {post : Int32 → Prop} {p : Int32} (ht : ∀ q, q < 16 → p = nI q → post 1) (hf : (∀ q, q < 16 → ¬ p = nI q) → post 0) : wpX_isValue post p := by
  rcases pk_ix p (n := 16) (by omega) with h | h | ⟨q, hq, rfl⟩
  · refine br_t h (hf (fun q hq e => ?_))
    subst e
    exact nI_pos (by omega) h
  · have h0 : ¬ p < 0 := Int32.not_lt.mpr (Int32.le_trans (by decide) h)
    have h1 : (15 : Int32) < p := Int32.lt_of_lt_of_le (by decide) h
    refine br_f h0 (br_t h1 (hf (fun q hq e => ?_)))
    subst e
    exact nI_ge (b := 16) hq (by omega) h
  · exact br_f (nI_pos (by omega)) (br_f (Int32.not_lt.mpr (nI_le (a := q) (b := 15) (by omega) (by omega))) (ht q hq rfl))
theorem xw_state {post : Int32 → Prop} {s : Nat} (hs : s < 4096) (h : post 1) : wpX_isState post (nI s) :=
  br_f (nI_pos (by omega)) (br_f (nI_ge (b := 4096) hs (by omega)) h)
theorem xw_state_n {post : Int32 → Prop} {x : Int32} (hx : x < 0) (h : post 0) : wpX_isState post x := br_t hx h
theorem xw_num {post : Int32 → Prop} {p x y : Nat} (h : post (nI (256 * p + 16 * x + y))) : wpX_stateNumber post (nI p) (nI x) (nI y) := by
  have e : nI p * nI 256 + nI x * nI 16 + nI y = nI (256 * p + 16 * x + y) := by
    rw [pk_mul, pk_mul, nI_add, nI_add, Nat.mul_comm p, Nat.mul_comm x]
  exact ek_v (P := post) e h
theorem xw_pl {post : Int32 → Prop} {s : Nat} (hs : s < 4096) (h : post (nI (s / 256))) : wpX_placeOf post (nI s) :=
  ⟨by decide, ek_v (P := post) (pk_div (a := s) (d := 256) (by omega) (by omega) (by omega)) h⟩
theorem xw_x {post : Int32 → Prop} {s : Nat} (hs : s < 4096) (h : post (nI (s / 16 % 16))) : wpX_xOf post (nI s) := by
  have e1 : nI s / 16 = nI (s / 16) := pk_div (a := s) (d := 16) (by omega) (by omega) (by omega)
  have e2 : nI (s / 16) - nI (s / 16) / 16 * 16 = nI (s / 16 % 16) := pk_rem (a := s / 16) (d := 16) (by omega) (by omega) (by omega)
  refine ⟨by decide, by decide, ?_⟩
  rw [e1, e2]
  exact h
theorem xw_y {post : Int32 → Prop} {s : Nat} (hs : s < 4096) (h : post (nI (s % 16))) : wpX_yOf post (nI s) :=
  ⟨by decide, ek_v (P := post) (pk_rem (a := s) (d := 16) (by omega) (by omega) (by omega)) h⟩
theorem xw_tr {post : Int32 → Prop} {op c : Int32} {x y : Nat} (hy : y < 16) (ht : tp_tr op c x y → post 1) (hf : ¬ tp_tr op c x y → post 0) : wpX_trapsWith post op c (nI x) (nI y) := by
  refine br_c (fun h6 => pk_eq y 0 (fun e => ht (Or.inl ⟨h6, e⟩)) (fun e => hf ?_)) (fun h6 => br_c (fun h8 => br_c (fun h => hf ?_) (fun h => ht (Or.inr ⟨h8, Int32.not_lt.mp h⟩))) (fun h8 => hf ?_))
  · rintro (z | z)
    · exact e z.2
    · exact absurd (h6.symm.trans z.1) (by decide)
  · rintro (z | z)
    · exact h6 z.1
    · exact absurd h (Int32.not_lt.mpr z.2)
  · rintro (z | z)
    · exact h6 z.1
    · exact h8 z.1
theorem xw_jp {post : Int32 → Prop} {op : Int32} {x y : Nat} (hx : x < 16) (hy : y < 16) (ht : tp_jp op x y → post 1) (hf : ¬ tp_jp op x y → post 0) : wpX_goesElsewhere post op (nI x) (nI y) := by
  refine br_c (fun h => hf ?_) (fun _ => br_c (fun h => hf ?_) (fun _ => br_c (fun e => ht (Or.inl e)) (fun n10 =>
    br_c (fun e11 => pk_eq x y (fun e => ht (Or.inr (Or.inl ⟨e11, e⟩))) (fun e => hf ?_)) (fun n11 =>
    br_c (fun e12 => pk_le y x (fun e => hf ?_) (fun e => ht (Or.inr (Or.inr (Or.inl ⟨e12, e⟩))))) (fun n12 =>
    br_c (fun e13 => pk_eq x 0 (fun e => ht (Or.inr (Or.inr (Or.inr ⟨e13, e⟩)))) (fun e => hf ?_)) (fun _ => trivial))))))
  · rintro (z | z | z | z)
    · subst z; exact absurd h (by decide)
    · rw [z.1] at h; exact absurd h (by decide)
    · rw [z.1] at h; exact absurd h (by decide)
    · rw [z.1] at h; exact absurd h (by decide)
  · rintro (z | z | z | z)
    · subst z; exact absurd h (by decide)
    · rw [z.1] at h; exact absurd h (by decide)
    · rw [z.1] at h; exact absurd h (by decide)
    · rw [z.1] at h; exact absurd h (by decide)
  · rintro (z | z | z | z)
    · exact n10 z
    · exact e z.2
    · exact absurd (e11.symm.trans z.1) (by decide)
    · exact absurd (e11.symm.trans z.1) (by decide)
  · rintro (z | z | z | z)
    · exact n10 z
    · exact n11 z.1
    · have := z.2; omega
    · exact absurd (e12.symm.trans z.1) (by decide)
  · rintro (z | z | z | z)
    · exact n10 z
    · exact n11 z.1
    · exact n12 z.1
    · exact e z.2
theorem xw_xa {post : Int32 → Prop} {op c : Int32} {x y : Nat} (hx : x < 16) (hy : y < 16) (h6 : op = 6 → y ≠ 0) (h : post (nI (tp_lo (tp_xe op c x y)))) : wpX_xAfter post op c (nI x) (nI y) := by
  rw [tp_xe_lo hx hy h6] at h
  refine br_c (fun k => ?_) (fun _ => br_c (fun k => ?_) (fun _ => br_c (fun e0 => ?_) (fun n0 => br_c (fun e1 => ?_) (fun n1 =>
    br_c (fun e2 => ?_) (fun n2 => br_c (fun e3 => ?_) (fun n3 => br_c (fun e4 => ?_) (fun n4 => br_c (fun e5 => ?_) (fun n5 =>
    br_c (fun e6 => ?_) (fun n6 => br_c (fun e7 => ?_) (fun _ => trivial))))))))))
  · have g : ∀ z : Int32, ¬ z < 0 → ¬ op = z := fun z hz e => hz (e ▸ k)
    rw [if_neg (g 0 (by decide)), if_neg (g 2 (by decide)), if_neg (g 3 (by decide)), if_neg (g 4 (by decide)), if_neg (g 5 (by decide)), if_neg (g 6 (by decide)), if_neg (g 7 (by decide))] at h
    exact h
  · have g : ∀ z : Int32, ¬ 7 < z → ¬ op = z := fun z hz e => hz (e ▸ k)
    rw [if_neg (g 0 (by decide)), if_neg (g 2 (by decide)), if_neg (g 3 (by decide)), if_neg (g 4 (by decide)), if_neg (g 5 (by decide)), if_neg (g 6 (by decide)), if_neg (g 7 (by decide))] at h
    exact h
  · rw [if_pos e0] at h; exact h
  · subst e1
    rw [if_neg (by decide), if_neg (by decide), if_neg (by decide), if_neg (by decide), if_neg (by decide), if_neg (by decide), if_neg (by decide)] at h
    exact h
  · rw [if_neg n0, if_pos e2] at h; exact h
  · rw [if_neg n0, if_neg n2, if_pos e3] at h; exact h
  · rw [if_neg n0, if_neg n2, if_neg n3, if_pos e4] at h; exact h
  · rw [if_neg n0, if_neg n2, if_neg n3, if_neg n4, if_pos e5] at h; exact h
  · rw [if_neg n0, if_neg n2, if_neg n3, if_neg n4, if_neg n5, if_pos e6] at h
    have hy0 : ¬ nI y = 0 := nI_ne0 (by have := h6 e6; omega) (by omega)
    exact br_f hy0 ⟨hy0, h⟩
  · rw [if_neg n0, if_neg n2, if_neg n3, if_neg n4, if_neg n5, if_neg n6, if_pos e7] at h; exact h
theorem xw_ya {post : Int32 → Prop} {op c : Int32} {x y : Nat} (hx : x < 16) (hy : y < 16) (h : post (nI (tp_lo (tp_ye op c x y)))) : wpX_leastYAfter post op c (nI x) (nI y) := by
  rw [tp_ye_lo hx hy] at h
  refine br_c (fun e1 => ?_) (fun n1 => br_c (fun e7 => ?_) (fun n7 => br_c (fun e9 => ?_) (fun n9 => ?_)))
  · rw [if_pos e1] at h; exact h
  · rw [if_neg n1, if_pos e7] at h; exact h
  · rw [if_neg n1, if_neg n7, if_pos e9] at h; exact h
  · rw [if_neg n1, if_neg n7, if_neg n9] at h; exact h
section
variable {ln lx gx ly gy ex pc ec : Int32} {ops nums ord st fn nc go : Nat → Int32} {L : Nat}
theorem xw_ins {post : Int32 → Prop} (hL : L ≤ 16) {p : Int32} (ht : ∀ q, q < L → p = nI q → post 1) (hf : (∀ q, q < L → ¬ p = nI q) → post 0) : wpX_isInstruction post (nI L, lx, gx, ly, gy, ex, pc, ec, ops, nums, ord, st, fn, nc, go) p := by
  unfold wpX_isInstruction
  dsimp only
  refine xw_place (fun q hq e => ?_) (fun hn => br_t rfl (hf (fun q hq => hn q (by omega))))
  subst e
  refine br_f (by decide) (pk_le L q (fun h => hf (fun q' hq' e => ?_)) (fun h => ht q h rfl))
  have := (nI_eq (by omega) (by omega)).mp e
  omega
theorem xw_77 {post : Int32 → Prop} (hL : L ≤ 16) {op c z : Int32} {p x y : Nat} (hx : x < 16) (hy : y < 16) (hp : p < L) (ht : ¬ tp_tr op c x y) (hz : z = tp_pl op c p x y) (h : post (tp_F0 L op c p x y)) : wX_firstStateAfter_77 post (nI x) (nI y) op c z (nI L) lx gx ly gy ex pc ec ops nums ord st fn nc go := by
  refine br_c (fun e14 => ?_) (fun n14 => xw_ins hL (fun q hq e => br_f (by decide) ?_) (fun hn => br_t rfl ?_))
  · rw [tp_F0_n ht (fun g => g.2.1 e14)] at h
    exact h
  · have hg : tp_go L op c p x y := ⟨ht, n14, by rw [← hz]; exact (tp_inn hL hq e).1, by rw [← hz]; exact (tp_inn hL hq e).2⟩
    rw [tp_F0_g hp hg] at h
    have h6 : op = 6 → y ≠ 0 := fun e6 e0 => ht (Or.inl ⟨e6, e0⟩)
    refine xw_xa hx hy h6 (xw_ya hx hy ?_)
    rw [e]
    refine xw_num ?_
    have ef : tp_f0 op c p x y = 256 * q + 16 * tp_lo (tp_xe op c x y) + tp_lo (tp_ye op c x y) := by
      unfold tp_f0
      rw [← hz, e, nI_clamp (by omega)]
      omega
    rw [← ef]
    exact h
  · rw [tp_F0_n ht (fun g => tp_out hL hn (by rw [hz]; exact g.2.2))] at h
    exact h
theorem xw_first {post : Int32 → Prop} (hL : L ≤ 16) {s : Nat} (hs : s < 4096) (h : post (tp_F ops nums L s)) : wpX_firstStateAfter post (nI L, lx, gx, ly, gy, ex, pc, ec, ops, nums, ord, st, fn, nc, go) (nI s) := by
  unfold wpX_firstStateAfter
  dsimp only
  refine xw_pl hs (xw_ins hL (fun q hq e => ?_) (fun hn => br_t rfl ?_))
  · have eq : s / 256 = q := (nI_eq (by omega) (by omega)).mp e
    subst eq
    have hx : s / 16 % 16 < 16 := Nat.mod_lt _ (by omega)
    have hy : s % 16 < 16 := Nat.mod_lt _ (by omega)
    have hi : vp_in (nI (s / 256)) 16 := vp_in_nI (by omega) (by omega)
    refine br_f (by decide) (xw_x hs (xw_y hs ⟨hi, fun op eop => ⟨hi, fun c ec => ?_⟩⟩))
    rw [nI_clamp (by omega)] at eop ec
    subst eop
    subst ec
    unfold tp_F at h
    refine xw_tr hy (fun t => br_f (by decide) ?_) (fun t => br_t rfl (xw_jp hx hy (fun j => br_f (by decide) ?_) (fun j => br_t rfl ?_)))
    · rw [tp_F0_t hq t] at h
      exact h
    · exact xw_77 hL hx hy hq t (by unfold tp_pl; rw [tp_if_t j]) h
    · exact xw_77 hL hx hy hq t (by unfold tp_pl; rw [tp_if_f j, nI_1]) h
  · unfold tp_F at h
    rw [tp_F0_o (by
      rcases Nat.lt_or_ge (s / 256) L with z | z
      · exact absurd rfl (hn _ z)
      · exact z)] at h
    exact h
theorem xw_ch {post : Int32 → Prop} (hL : L ≤ 16) {s : Nat} (hs : s < 4096) (h9 : s / 256 < L → ops (s / 256) = 9 → post 16) (h1 : (s / 256 < L → ¬ ops (s / 256) = 9) → post 1) : wpX_choicesAt post (nI L, lx, gx, ly, gy, ex, pc, ec, ops, nums, ord, st, fn, nc, go) (nI s) := by
  unfold wpX_choicesAt
  dsimp only
  refine xw_pl hs (xw_ins hL (fun q hq e => ?_) (fun hn => br_t rfl (h1 (fun z => absurd rfl (hn _ z)))))
  have eq : s / 256 = q := (nI_eq (by omega) (by omega)).mp e
  subst eq
  refine br_f (by decide) ⟨vp_in_nI (by omega) (by omega), ?_⟩
  rw [nI_clamp (by omega)]
  exact br_c (fun e9 => h9 hq e9) (fun n9 => h1 (fun _ => n9))
theorem xw_poss {post : Int32 → Prop} {s : Nat} (h4 : s < 4096) (ht : ¬ st s = -5 → post 1) (hf : st s = -5 → post 0) : wpX_isPossible post (ln, lx, gx, ly, gy, ex, pc, ec, ops, nums, ord, st, fn, nc, go) (nI s) := by
  unfold wpX_isPossible
  dsimp only
  refine xw_state h4 (br_f (by decide) ⟨vp_in_nI h4 (by omega), ?_⟩)
  rw [nI_clamp (by omega)]
  exact br_c hf ht
theorem xw_pwn {post : Int32 → Prop} {s : Nat} {z : Int32} (h4 : s < 4096) (ht : ¬ st s = -5 → fn s = z → post 1) (hf : ¬ (¬ st s = -5 ∧ fn s = z) → post 0) : wpX_isPossibleWithNext post (ln, lx, gx, ly, gy, ex, pc, ec, ops, nums, ord, st, fn, nc, go) (nI s) z := by
  unfold wpX_isPossibleWithNext
  dsimp only
  refine xw_poss h4 (fun h => br_f (by decide) ⟨vp_in_nI h4 (by omega), ?_⟩) (fun h => br_t rfl (hf (fun y => y.1 h)))
  rw [nI_clamp (by omega)]
  exact br_c (fun e => ht h e) (fun e => hf (fun y => e y.2))
theorem xw_still {post : Int32 → Prop} {s : Nat} (h4 : s < 4096) (ht : ¬ go s = 0 → post 1) (hf : go s = 0 → post 0) : wpX_stillGoesOn post (ln, lx, gx, ly, gy, ex, pc, ec, ops, nums, ord, st, fn, nc, go) (nI s) := by
  unfold wpX_stillGoesOn
  dsimp only
  refine xw_state h4 (br_f (by decide) ⟨vp_in_nI h4 (by omega), ?_⟩)
  rw [nI_clamp (by omega)]
  exact br_c hf ht
theorem xw_may {post : Int32 → Prop} {a b c d x y : Nat} (ha : a < 16) (hb : b < 16) (hc : c < 16) (hd : d < 16) (hx : x < 16) (hy : y < 16) (ht : a ≤ x ∧ x ≤ b ∧ c ≤ y ∧ y ≤ d → post 1) (hf : ¬ (a ≤ x ∧ x ≤ b ∧ c ≤ y ∧ y ≤ d) → post 0) : wpX_mayBeginWith post (ln, nI a, nI b, nI c, nI d, ex, pc, ec, ops, nums, ord, st, fn, nc, go) (nI x) (nI y) := by
  unfold wpX_mayBeginWith
  dsimp only
  exact pk_lt x a (fun h => hf (by omega)) (fun h1 => pk_lt b x (fun h => hf (by omega)) (fun h2 => pk_lt y c (fun h => hf (by omega)) (fun h3 => pk_lt d y (fun h => hf (by omega)) (fun h4 => ht ⟨h1, h2, h3, h4⟩))))
end
end
section
/-! the component's exploring -/
section
variable {ln lx gx ly gy ex pc ec : Int32} {ops nums ord st fn nc go : Nat → Int32} {L : Nat}
/-- firstNext and nextCount are right below i -/
def xw_N (ops nums : Nat → Int32) (L : Nat) (fn nc : Nat → Int32) (i : Nat) : Prop := ∀ s, s < i → fn s = tp_F ops nums L s ∧ nc s = nI (tp_K ops nums L s)
theorem xw_N_s {i : Nat} (h : xw_N ops nums L fn nc i) {a b : Int32} (ha : a = tp_F ops nums L i) (hb : b = nI (tp_K ops nums L i)) : xw_N ops nums L (upd fn i a) (upd nc i b) (i + 1) := by
  intro s hs
  by_cases e : s = i
  · subst e; rw [pk_us, pk_us]; exact ⟨ha, hb⟩
  · rw [pk_un e, pk_un e]; exact h s (by omega)
theorem xw_fns_l {post : SX → Prop} (hL : L ≤ 16) : ∀ (d i n : Nat) (fn nc : Nat → Int32), i + d = 4096 → d < n → xw_N ops nums L fn nc i → (∀ fn' nc', xw_N ops nums L fn' nc' 4096 → post (nI L, lx, gx, ly, gy, ex, pc, ec, ops, nums, ord, st, fn', nc', go)) → wX_findNextStates_2 post (nI L) lx gx ly gy ex pc ec n (nI i) ops nums ord st fn nc go := by
  intro d
  induction d with
  | zero =>
    intro i n fn nc hi hn hI hp
    obtain ⟨n, rfl⟩ : ∃ m, n = m + 1 := ⟨n - 1, by omega⟩
    have e : i = 4096 := by omega
    subst e
    exact br_t (nI_le (a := 4096) (b := 4096) (by omega) (by omega)) (hp fn nc hI)
  | succ d ih =>
    intro i n fn nc hi hn hI hp
    obtain ⟨n, rfl⟩ : ∃ m, n = m + 1 := ⟨n - 1, by omega⟩
    have h4 : i < 4096 := by omega
    have hin : vp_in (nI i) 4096 := vp_in_nI h4 (by omega)
    refine br_f (nI_ge (b := 4096) h4 (by omega)) (xw_first hL h4 ⟨hin, tp_nu (by omega) ?_⟩)
    rcases tp_Fc (ops := ops) (nums := nums) hL i with ⟨hF, hK⟩ | ⟨hF, hK, -⟩ | ⟨hF, hq, hle, hk, -⟩
    · rw [hF]
      refine xw_state_n (by decide) (br_t rfl ⟨hin, tp_nu (by omega) (tp_n1 ?_)⟩)
      exact ih (i + 1) n _ _ (by omega) (by omega) (xw_N_s hI hF.symm (by rw [hK]; rfl)) hp
    · rw [hF]
      refine xw_state_n (by decide) (br_t rfl ⟨hin, tp_nu (by omega) (tp_n1 ?_)⟩)
      exact ih (i + 1) n _ _ (by omega) (by omega) (xw_N_s hI hF.symm (by rw [hK]; rfl)) hp
    · rw [hF]
      refine xw_state (by rcases hk with k | k <;> omega) (br_f (by decide) (xw_ch hL h4 (fun _ e9 => ⟨hin, tp_nu (by omega) (tp_n1 ?_)⟩) (fun n9 => ⟨hin, tp_nu (by omega) (tp_n1 ?_)⟩)))
      · refine ih (i + 1) n _ _ (by omega) (by omega) (xw_N_s hI hF.symm ?_) hp
        rcases hk with k | k
        · rw [k.2]; rfl
        · exact absurd e9 k.1
      · refine ih (i + 1) n _ _ (by omega) (by omega) (xw_N_s hI hF.symm ?_) hp
        rcases hk with k | k
        · exact absurd k.1 (n9 hq)
        · rw [k.2]; rfl
theorem xw_fns {post : SX → Prop} (hL : L ≤ 16) (hp : ∀ fn' nc', xw_N ops nums L fn' nc' 4096 → post (nI L, lx, gx, ly, gy, ex, pc, ec, ops, nums, ord, st, fn', nc', go)) : wpX_findNextStates post (nI L, lx, gx, ly, gy, ex, pc, ec, ops, nums, ord, st, fn, nc, go) :=
  ⟨4097, xw_fns_l hL 4096 0 4097 fn nc (by omega) (by omega) (fun s hs => absurd hs (Nat.not_lt_zero _)) hp⟩
theorem xw_fps_l {post : SX → Prop} : ∀ (d i n : Nat) (st : Nat → Int32), i + d = 4096 → d < n → (∀ s, s < i → st s = -5) → (∀ st', (∀ s, s < 4096 → st' s = -5) → post (ln, lx, gx, ly, gy, ex, pc, ec, ops, nums, ord, st', fn, nc, go)) → wX_forgetPossibleStates_7 post ln lx gx ly gy ex pc ec n (nI i) ops nums ord st fn nc go := by
  intro d
  induction d with
  | zero =>
    intro i n st hi hn hI hp
    obtain ⟨n, rfl⟩ : ∃ m, n = m + 1 := ⟨n - 1, by omega⟩
    have e : i = 4096 := by omega
    subst e
    exact br_t (nI_le (a := 4096) (b := 4096) (by omega) (by omega)) (hp st hI)
  | succ d ih =>
    intro i n st hi hn hI hp
    obtain ⟨n, rfl⟩ : ∃ m, n = m + 1 := ⟨n - 1, by omega⟩
    have h4 : i < 4096 := by omega
    refine br_f (nI_ge (b := 4096) h4 (by omega)) ⟨vp_in_nI h4 (by omega), tp_nu (by omega) (tp_n1 ?_)⟩
    refine ih (i + 1) n _ (by omega) (by omega) (fun s hs => ?_) hp
    by_cases e : s = i
    · subst e; rw [pk_us]
    · rw [pk_un e]; exact hI s (by omega)
theorem xw_fps {post : SX → Prop} (hp : ∀ st', (∀ s, s < 4096 → st' s = -5) → post (ln, lx, gx, ly, gy, ex, 0, ec, ops, nums, ord, st', fn, nc, go)) : wpX_forgetPossibleStates post (ln, lx, gx, ly, gy, ex, pc, ec, ops, nums, ord, st, fn, nc, go) :=
  ⟨4097, xw_fps_l 4096 0 4097 st (by omega) (by omega) (fun s hs => absurd hs (Nat.not_lt_zero _)) hp⟩
theorem xw_reach {post : SX → Prop} {B : Nat → Prop} {K f : Nat → Nat} {w : Nat → Option Nat} {o : Nat → Nat} {c s n : Nat} (h : tp_XQ B K f st ord w o c) (h4 : s < 4096) (hn : n ≤ c) (hr : tp_R B K f n s) (hb : ∀ j b, j < c → w (o j) = some b → b ≤ n)
    (hp : ∀ st' ord' w' o' c', tp_Rc B K f w o c s n st' ord' w' o' c' → post (ln, lx, gx, ly, gy, ex, nI c', ec, ops, nums, ord', st', fn, nc, go)) : wpX_reach post (ln, lx, gx, ly, gy, ex, nI c, ec, ops, nums, ord, st, fn, nc, go) (nI s) (nI n) := by
  unfold wpX_reach
  dsimp only
  refine xw_state h4 (br_f (by decide) (xw_poss h4 (fun hne => br_f (by decide) ?_) (fun he => br_t rfl ?_)))
  · exact hp _ _ _ _ _ (tp_Rc_old h (fun e => hne ((tp_XQ_m h h4).mpr e)) hb)
  · have hs : w s = none := (tp_XQ_m h h4).mp he
    have hc := tp_Qc h.1 hs h4
    refine br_f (nI_pos (by omega)) (br_t (nI_lt (b := 4096) hc (by omega)) ⟨vp_in_nI h4 (by omega), tp_nu (by omega) ⟨vp_in_nI hc (by omega), tp_nu (by omega) (tp_n1 ?_)⟩⟩)
    exact hp _ _ _ _ _ (tp_Rc_new h hs h4 hn hr hb)
/-- while the beginnings are taken -/
def xw_I0 (B : Nat → Prop) (K f : Nat → Nat) (st ord : Nat → Int32) (w : Nat → Option Nat) (o : Nat → Nat) (c cur : Nat) : Prop :=
  tp_XQ B K f st ord w o c ∧ (∀ j b, j < c → w (o j) = some b → b ≤ 0) ∧ ∀ s, B s → s < cur → w s = some 0
theorem xw_I0_k {B : Nat → Prop} {K f : Nat → Nat} {w : Nat → Option Nat} {o : Nat → Nat} {c cur : Nat} (h : xw_I0 B K f st ord w o c cur) (hB : ¬ B cur) : xw_I0 B K f st ord w o c (cur + 1) := by
  refine ⟨h.1, h.2.1, fun s hs hl => ?_⟩
  rcases Nat.lt_or_ge s cur with z | z
  · exact h.2.2 s hs z
  · have e : s = cur := by omega
    rw [e] at hs
    exact absurd hs hB
theorem xw_I0_s {B : Nat → Prop} {K f : Nat → Nat} {w w' : Nat → Option Nat} {o o' : Nat → Nat} {c c' cur : Nat} {st' ord' : Nat → Int32} (h : xw_I0 B K f st ord w o c cur) (hr : tp_Rc B K f w o c cur 0 st' ord' w' o' c') : xw_I0 B K f st' ord' w' o' c' (cur + 1) := by
  refine ⟨hr.1, hr.2.2.2, fun s hs hl => ?_⟩
  rcases Nat.lt_or_ge s cur with z | z
  · exact hr.2.1.2.1 s 0 (h.2.2 s hs z)
  · have e : s = cur := by omega
    obtain ⟨b, hb, hl⟩ := hr.2.2.1
    have e0 : b = 0 := by omega
    rw [e, hb, e0]
theorem xw_rb_in {post : SX → Prop} {J : Int32 → Int32 → Int32 → Int32 → Int32 → Int32 → Int32 → Int32 → Int32 → (Nat → Int32) → (Nat → Int32) → (Nat → Int32) → (Nat → Int32) → (Nat → Int32) → (Nat → Int32) → (Nat → Int32) → Prop} {a b c d x : Nat} {K f : Nat → Nat} (ha : a < 16) (hb : b < 16) (hc : c < 16) (hd : d < 16) (hx : x < 16) (hL0 : 0 < L)
    (hJ : ∀ st' ord' w' o' c', xw_I0 (tp_B L a b c d) K f st' ord' w' o' c' (16 * (x + 1)) → J (nI (x + 1)) ln (nI a) (nI b) (nI c) (nI d) ex (nI c') ec ops nums ord' st' fn nc go) :
    ∀ (e y n : Nat) (st ord : Nat → Int32) (w : Nat → Option Nat) (o : Nat → Nat) (k : Nat), y + e = 16 → e < n → xw_I0 (tp_B L a b c d) K f st ord w o k (16 * x + y) → wX_reachBeginnings_10 post J (nI x) n (nI y) ln (nI a) (nI b) (nI c) (nI d) ex (nI k) ec ops nums ord st fn nc go := by
  intro e
  induction e with
  | zero =>
    intro y n st ord w o k hy hn hI
    obtain ⟨n, rfl⟩ : ∃ m, n = m + 1 := ⟨n - 1, by omega⟩
    have e : y = 16 := by omega
    subst e
    exact br_t (nI_le (a := 16) (b := 16) (by omega) (by omega)) (tp_n1 (hJ st ord w o k hI))
  | succ e ih =>
    intro y n st ord w o k hy hn hI
    obtain ⟨n, rfl⟩ : ∃ m, n = m + 1 := ⟨n - 1, by omega⟩
    have hy' : y < 16 := by omega
    have ex' : (16 * x + y) / 16 = x := by omega
    have ey' : (16 * x + y) % 16 = y := by omega
    have hBi : tp_B L a b c d (16 * x + y) ↔ a ≤ x ∧ x ≤ b ∧ c ≤ y ∧ y ≤ d := by
      unfold tp_B
      rw [ex', ey']
      exact ⟨fun z => ⟨z.2.2.1, z.2.2.2.1, z.2.2.2.2.1, z.2.2.2.2.2⟩, fun z => ⟨hL0, by omega, z.1, z.2.1, z.2.2.1, z.2.2.2⟩⟩
    refine br_f (nI_ge (b := 16) hy' (by omega)) (xw_may ha hb hc hd hx hy' (fun hm => br_f (by decide) ?_) (fun hm => br_t rfl (tp_n1 ?_)))
    · refine xw_num (p := 0) ?_
      rw [show 256 * 0 + 16 * x + y = 16 * x + y by omega]
      refine xw_reach (n := 0) hI.1 (by omega) (Nat.zero_le _) (hBi.mpr hm) hI.2.1 (fun st' ord' w' o' c' hr => tp_n1 ?_)
      exact ih (y + 1) n st' ord' w' o' c' (by omega) (by omega) (xw_I0_s hI hr)
    · exact ih (y + 1) n st ord w o k (by omega) (by omega) (xw_I0_k hI (fun z => hm (hBi.mp z)))
theorem xw_rb_out {post : SX → Prop} {a b c d : Nat} {K f : Nat → Nat} (ha : a < 16) (hb : b < 16) (hc : c < 16) (hd : d < 16) (hL0 : 0 < L)
    (hp : ∀ st' ord' w' o' c', xw_I0 (tp_B L a b c d) K f st' ord' w' o' c' 256 → post (ln, nI a, nI b, nI c, nI d, ex, nI c', ec, ops, nums, ord', st', fn, nc, go)) :
    ∀ (e x n : Nat) (st ord : Nat → Int32) (w : Nat → Option Nat) (o : Nat → Nat) (k : Nat), x + e = 16 → e < n → xw_I0 (tp_B L a b c d) K f st ord w o k (16 * x) → wX_reachBeginnings_2 post n (nI x) ln (nI a) (nI b) (nI c) (nI d) ex (nI k) ec ops nums ord st fn nc go := by
  intro e
  induction e with
  | zero =>
    intro x n st ord w o k hx hn hI
    obtain ⟨n, rfl⟩ : ∃ m, n = m + 1 := ⟨n - 1, by omega⟩
    have e : x = 16 := by omega
    subst e
    exact br_t (nI_le (a := 16) (b := 16) (by omega) (by omega)) (hp st ord w o k hI)
  | succ e ih =>
    intro x n st ord w o k hx hn hI
    obtain ⟨n, rfl⟩ : ∃ m, n = m + 1 := ⟨n - 1, by omega⟩
    refine br_f (nI_ge (b := 16) (a := x) (by omega) (by omega)) ⟨17, ?_⟩
    exact xw_rb_in ha hb hc hd (by omega) hL0 (fun st' ord' w' o' c' hI' => ih (x + 1) n st' ord' w' o' c' (by omega) (by omega) hI') 16 0 17 st ord w o k (by omega) (by omega) hI
theorem xw_rb {post : SX → Prop} {a b c d : Nat} {K f : Nat → Nat} (ha : a < 16) (hb : b < 16) (hc : c < 16) (hd : d < 16) (hL0 : 0 < L) (h5 : ∀ s, s < 4096 → st s = -5)
    (hp : ∀ st' ord' w' o' c', xw_I0 (tp_B L a b c d) K f st' ord' w' o' c' 256 → post (ln, nI a, nI b, nI c, nI d, ex, nI c', ec, ops, nums, ord', st', fn, nc, go)) : wpX_reachBeginnings post (ln, nI a, nI b, nI c, nI d, ex, 0, ec, ops, nums, ord, st, fn, nc, go) := by
  refine ⟨17, xw_rb_out (K := K) (f := f) ha hb hc hd hL0 hp 16 0 17 st ord (fun _ => none) (fun _ => 0) 0 (by omega) (by omega) ⟨⟨tp_Q0 _ _ _ _, fun s hs => h5 s hs, fun j hj => absurd hj (Nat.not_lt_zero _)⟩, fun j _ hj => absurd hj (Nat.not_lt_zero _), fun s _ hs => absurd hs (Nat.not_lt_zero _)⟩⟩
end
end
section
/-! the component follows the runs -/
section
variable {ln lx gx ly gy ex pc ec : Int32} {ops nums ord st fn nc go : Nat → Int32} {L : Nat}
def xw_I1 (B : Nat → Prop) (K f : Nat → Nat) (st ord : Nat → Int32) (w : Nat → Option Nat) (o : Nat → Nat) (c i : Nat) : Prop :=
  tp_XQ B K f st ord w o c ∧ (∀ s, B s → w s = some 0) ∧ tp_Pr K f w o i ∧ i ≤ c ∧ ∀ j a b, i < c → j < c → w (o i) = some a → w (o j) = some b → b ≤ a + 1
/-- inside: state t of order i, its first k next states taken -/
def xw_I2 (B : Nat → Prop) (K f : Nat → Nat) (st ord : Nat → Int32) (w : Nat → Option Nat) (o : Nat → Nat) (c i t a k : Nat) : Prop :=
  tp_XQ B K f st ord w o c ∧ (∀ s, B s → w s = some 0) ∧ tp_Pr K f w o i ∧ (i < c ∧ o i = t ∧ w t = some a) ∧ (∀ j b, j < c → w (o j) = some b → b ≤ a + 1) ∧ ∀ k', k' < k → ∃ b, w (f t + k') = some b ∧ b ≤ a + 1
theorem xw_I2_s {B : Nat → Prop} {K f : Nat → Nat} {w w' : Nat → Option Nat} {o o' : Nat → Nat} {c c' i t a k : Nat} {st' ord' : Nat → Int32} (h : xw_I2 B K f st ord w o c i t a k) (hr : tp_Rc B K f w o c (f t + k) (a + 1) st' ord' w' o' c') : xw_I2 B K f st' ord' w' o' c' i t a (k + 1) := by
  obtain ⟨h1, h2, h3, ⟨h4, h5, h6⟩, h7, h8⟩ := h
  obtain ⟨r1, r2, r3, r4⟩ := hr
  refine ⟨r1, fun s hs => r2.2.1 s 0 (h2 s hs), tp_Pr_x h1.1 r2 (by omega) h3, ⟨Nat.lt_of_lt_of_le h4 r2.1, by rw [r2.2.2 i h4]; exact h5, r2.2.1 t a h6⟩, r4, fun k' hk' => ?_⟩
  rcases Nat.lt_or_ge k' k with z | z
  · obtain ⟨b, hb, hl⟩ := h8 k' z
    exact ⟨b, r2.2.1 _ _ hb, hl⟩
  · have e : k' = k := by omega
    subst e
    exact r3
theorem xw_I2_x {B : Nat → Prop} {K f : Nat → Nat} {w : Nat → Option Nat} {o : Nat → Nat} {c i t a k : Nat} (h : xw_I2 B K f st ord w o c i t a k) (hk : K t ≤ k) : xw_I1 B K f st ord w o c (i + 1) := by
  obtain ⟨h1, h2, h3, ⟨h4, h5, h6⟩, h7, h8⟩ := h
  refine ⟨h1, h2, fun j hj a' ha' k' hk' => ?_, by omega, fun j a' b hi hj ha' hb => ?_⟩
  · rcases Nat.lt_or_ge j i with z | z
    · exact h3 j z a' ha' k' hk'
    · have e : j = i := by omega
      subst e
      rw [h5] at ha' hk' ⊢
      rw [h6] at ha'
      injection ha' with e
      subst e
      exact h8 k' (by omega)
  · have m := h1.1.2.2.2 i (i + 1) a a' (by omega) hi (by rw [h5]; exact h6) ha'
    have := h7 j b hj hb
    omega
theorem xw_fr_in {post : SX → Prop} {J : Int32 → Int32 → Int32 → Int32 → Int32 → Int32 → Int32 → Int32 → Int32 → (Nat → Int32) → (Nat → Int32) → (Nat → Int32) → (Nat → Int32) → (Nat → Int32) → (Nat → Int32) → (Nat → Int32) → Prop} {B : Nat → Prop} {i t a : Nat} (hL : L ≤ 16) (hN : xw_N ops nums L fn nc 4096) (ht : t < 4096)
    (hJ : ∀ st' ord' w' o' c', xw_I1 B (tp_K ops nums L) (tp_f ops nums) st' ord' w' o' c' (i + 1) → J (nI (i + 1)) ln lx gx ly gy ex (nI c') ec ops nums ord' st' fn nc go) :
    ∀ (e k n : Nat) (st ord : Nat → Int32) (w : Nat → Option Nat) (o : Nat → Nat) (c : Nat), k + e = 16 → e < n → xw_I2 B (tp_K ops nums L) (tp_f ops nums) st ord w o c i t a k → wX_followRuns_44 post J (nI i) (nI t) (nI (a + 1)) n (nI k) ln lx gx ly gy ex (nI c) ec ops nums ord st fn nc go := by
  have hF := tp_Fc (ops := ops) (nums := nums) hL t
  have hK16 : tp_K ops nums L t ≤ 16 := by
    rcases hF with h | h | h
    · rw [h.2]; omega
    · rw [h.2.1]; omega
    · rcases h.2.2.2.1 with z | z <;> rw [z.2] <;> omega
  have hfn : ∀ k, k < tp_K ops nums L t → fn t = nI (tp_f ops nums t) ∧ tp_f ops nums t + k < 4096 := by
    intro k hk
    rcases hF with h | h | h
    · rw [h.2] at hk; omega
    · rw [h.2.1] at hk; omega
    · refine ⟨(hN t ht).1.trans h.1, ?_⟩
      have := h.2.2.1
      omega
  intro e
  induction e with
  | zero =>
    intro k n st ord w o c hk hn hI
    obtain ⟨n, rfl⟩ : ∃ m, n = m + 1 := ⟨n - 1, by omega⟩
    have e : k = 16 := by omega
    subst e
    exact br_t (nI_le (a := 16) (b := 16) (by omega) (by omega)) (tp_n1 (hJ st ord w o c (xw_I2_x hI hK16)))
  | succ e ih =>
    intro k n st ord w o c hk hn hI
    obtain ⟨n, rfl⟩ : ∃ m, n = m + 1 := ⟨n - 1, by omega⟩
    have hin : vp_in (nI t) 4096 := vp_in_nI ht (by omega)
    refine br_f (nI_ge (b := 16) (a := k) (by omega) (by omega)) ⟨hin, ?_⟩
    rw [nI_clamp (n := t) (by omega), (hN t ht).2]
    refine pk_le (tp_K ops nums L t) k (fun h => tp_n1 (hJ st ord w o c (xw_I2_x hI h))) (fun h => ⟨hin, ?_⟩)
    obtain ⟨e1, e2⟩ := hfn k h
    rw [e1, nI_add]
    have hI' := hI
    obtain ⟨h1, h2, h3, ⟨h4, h5, h6⟩, h7, h8⟩ := hI'
    obtain ⟨-, a', ha', hl⟩ := h1.1.2.1 i h4
    rw [h5, h6] at ha'
    injection ha' with ea
    refine xw_reach (n := a + 1) h1 e2 (by omega) ⟨t, (h1.1.2.2.1 t a h6).2, k, h, rfl⟩ h7 (fun st' ord' w' o' c' hr => tp_n1 ?_)
    exact ih (k + 1) n st' ord' w' o' c' (by omega) (by omega) (xw_I2_s hI hr)
theorem xw_fr_out {post : SX → Prop} {B : Nat → Prop} (hL : L ≤ 16) (hN : xw_N ops nums L fn nc 4096)
    (hp : ∀ st' ord' w' o' c', tp_XQ B (tp_K ops nums L) (tp_f ops nums) st' ord' w' o' c' → tp_Kn B (tp_K ops nums L) (tp_f ops nums) w' → post (ln, lx, gx, ly, gy, ex, nI c', ec, ops, nums, ord', st', fn, nc, go)) :
    ∀ (e i n : Nat) (st ord : Nat → Int32) (w : Nat → Option Nat) (o : Nat → Nat) (c : Nat), i + e = 4096 → e < n → xw_I1 B (tp_K ops nums L) (tp_f ops nums) st ord w o c i → wX_followRuns_2 post n (nI i) ln lx gx ly gy ex (nI c) ec ops nums ord st fn nc go := by
  intro e
  induction e with
  | zero =>
    intro i n st ord w o c hi hn hI
    obtain ⟨n, rfl⟩ : ∃ m, n = m + 1 := ⟨n - 1, by omega⟩
    have hc := tp_Qle hI.1.1
    have hic := hI.2.2.2.1
    have e : i = c := by omega
    subst e
    exact br_t (nI_le (a := 4096) (by omega) (by omega)) (hp st ord w o i hI.1 (tp_kn hI.1.1 hI.2.2.1 hI.2.1))
  | succ e ih =>
    intro i n st ord w o c hi hn hI
    obtain ⟨n, rfl⟩ : ∃ m, n = m + 1 := ⟨n - 1, by omega⟩
    have hc := tp_Qle hI.1.1
    have hic := hI.2.2.2.1
    refine br_f (nI_ge (b := 4096) (a := i) (by omega) (by omega)) (pk_le c i (fun h => ?_) (fun h => ⟨vp_in_nI (by omega) (by omega), ?_⟩))
    · have e : i = c := by omega
      subst e
      exact hp st ord w o i hI.1 (tp_kn hI.1.1 hI.2.2.1 hI.2.1)
    · rw [nI_clamp (by omega), hI.1.2.2 i h]
      obtain ⟨h4, a, ha, hl⟩ := hI.1.1.2.1 i h
      refine nm_e (xw_poss h4 (fun hne => br_f (by decide) ⟨vp_in_nI h4 (by omega), ?_⟩) (fun he => ?_))
      · have es : st (o i) = nI a := by rw [hI.1.2.1 _ h4, ha]; rfl
        rw [nI_clamp (by omega), es]
        refine tp_n1 ⟨17, ?_⟩
        exact xw_fr_in hL hN h4 (fun st' ord' w' o' c' hI' => ih (i + 1) n st' ord' w' o' c' (by omega) (by omega) hI') 16 0 17 st ord w o c (by omega) (by omega)
          ⟨hI.1, hI.2.1, hI.2.2.1, ⟨h, rfl, ha⟩, fun j b hj hb => hI.2.2.2.2 j a b h hj ha hb, fun k' hk' => absurd hk' (Nat.not_lt_zero _)⟩
      · have := (tp_XQ_m hI.1 h4).mp he
        rw [ha] at this
        simp at this
theorem xw_fr {post : SX → Prop} {B : Nat → Prop} {w : Nat → Option Nat} {o : Nat → Nat} {c : Nat} (hL : L ≤ 16) (hN : xw_N ops nums L fn nc 4096) (hQ : tp_XQ B (tp_K ops nums L) (tp_f ops nums) st ord w o c) (hB : ∀ s, B s → w s = some 0) (hb : ∀ j b, j < c → w (o j) = some b → b ≤ 0)
    (hp : ∀ st' ord' w' o' c', tp_XQ B (tp_K ops nums L) (tp_f ops nums) st' ord' w' o' c' → tp_Kn B (tp_K ops nums L) (tp_f ops nums) w' → post (ln, lx, gx, ly, gy, ex, nI c', ec, ops, nums, ord', st', fn, nc, go)) : wpX_followRuns post (ln, lx, gx, ly, gy, ex, nI c, ec, ops, nums, ord, st, fn, nc, go) := by
  refine ⟨4097, xw_fr_out hL hN hp 4096 0 4097 st ord w o c (by omega) (by omega) ⟨hQ, hB, fun j hj => absurd hj (Nat.not_lt_zero _), Nat.zero_le _, fun j a b _ hj _ h2 => ?_⟩⟩
  have := hb j b hj h2
  omega
/-! the component drops the states that must end -/
theorem tp_m1 (j : Nat) : nI j + (-1) = nI j - 1 := by
  cases j with
  | zero => decide
  | succ j => rw [pk_m1, nI_pred]
theorem xw_hn_l {post : Int32 → Prop} {g : Nat → Prop} {s : Nat} (hL : L ≤ 16) (hN : xw_N ops nums L fn nc 4096) (hs : s < 4096) (hg : ∀ t, t < 4096 → (go t = 0 ↔ ¬ g t)) (ht : tp_Cl (tp_K ops nums L) (tp_f ops nums) g s → post 1) (hf : ¬ tp_Cl (tp_K ops nums L) (tp_f ops nums) g s → post 0) :
    ∀ (e k n : Nat), k + e = 16 → e < n → (∀ k', k' < k → ¬ g (tp_f ops nums s + k')) → wX_hasNextThatGoesOn_11 post (nI s) ln lx gx ly gy ex pc ec ops nums ord st fn nc go n (nI k) := by
  have hF := tp_Fc (ops := ops) (nums := nums) hL s
  have hK16 : tp_K ops nums L s ≤ 16 := by
    rcases hF with h | h | h
    · rw [h.2]; omega
    · rw [h.2.1]; omega
    · rcases h.2.2.2.1 with z | z <;> rw [z.2] <;> omega
  have hfn : ∀ k, k < tp_K ops nums L s → fn s = nI (tp_f ops nums s) ∧ tp_f ops nums s + k < 4096 := by
    intro k hk
    rcases hF with h | h | h
    · rw [h.2] at hk; omega
    · rw [h.2.1] at hk; omega
    · refine ⟨(hN s hs).1.trans h.1, ?_⟩
      have := h.2.2.1
      omega
  intro e
  induction e with
  | zero =>
    intro k n hk hn hI
    obtain ⟨n, rfl⟩ : ∃ m, n = m + 1 := ⟨n - 1, by omega⟩
    have e : k = 16 := by omega
    subst e
    exact br_t (nI_le (a := 16) (b := 16) (by omega) (by omega)) (hf (fun ⟨k', h1, h2⟩ => hI k' (by omega) h2))
  | succ e ih =>
    intro k n hk hn hI
    obtain ⟨n, rfl⟩ : ∃ m, n = m + 1 := ⟨n - 1, by omega⟩
    have hin : vp_in (nI s) 4096 := vp_in_nI hs (by omega)
    refine br_f (nI_ge (b := 16) (a := k) (by omega) (by omega)) ⟨hin, ?_⟩
    rw [nI_clamp (n := s) (by omega), (hN s hs).2]
    refine pk_le (tp_K ops nums L s) k (fun h => hf (fun ⟨k', h1, h2⟩ => hI k' (by omega) h2)) (fun h => ⟨hin, ?_⟩)
    obtain ⟨e1, e2⟩ := hfn k h
    rw [e1, nI_add]
    refine xw_still e2 (fun hne => br_f (by decide) (ht ⟨k, h, ?_⟩)) (fun he => br_t rfl (tp_n1 (ih (k + 1) n (by omega) (by omega) (fun k' hk' => ?_))))
    · exact Classical.byContradiction (fun z => hne ((hg _ e2).mpr z))
    · rcases Nat.lt_or_ge k' k with z | z
      · exact hI k' z
      · have e : k' = k := by omega
        subst e
        exact (hg _ e2).mp he
theorem xw_hn {post : Int32 → Prop} {g : Nat → Prop} {s : Nat} (hL : L ≤ 16) (hN : xw_N ops nums L fn nc 4096) (hs : s < 4096) (hg : ∀ t, t < 4096 → (go t = 0 ↔ ¬ g t)) (ht : tp_Cl (tp_K ops nums L) (tp_f ops nums) g s → post 1) (hf : ¬ tp_Cl (tp_K ops nums L) (tp_f ops nums) g s → post 0) : wpX_hasNextThatGoesOn post (ln, lx, gx, ly, gy, ex, pc, ec, ops, nums, ord, st, fn, nc, go) (nI s) := by
  unfold wpX_hasNextThatGoesOn
  dsimp only
  exact xw_state hs (br_f (by decide) ⟨17, xw_hn_l hL hN hs hg ht hf 16 0 17 (by omega) (by omega) (fun k' hk' => absurd hk' (Nat.not_lt_zero _))⟩)
/-- in a round, positions from i on looked at -/
def xw_I3 (B : Nat → Prop) (K f : Nat → Nat) (o : Nat → Nat) (c : Nat) (go : Nat → Int32) (ec d : Int32) (g : Nat → Prop) (r i : Nat) : Prop :=
  tp_XG B K f go g ∧ ec = nI (tp_cn g 0 4096) ∧ tp_Dr K f g r d (fun s => ∃ j, i ≤ j ∧ j < c ∧ o j = s)
theorem xw_nb0 : vp_nar .boolean 0 = 0 := rfl
theorem xw_nb1 : vp_nar .boolean 1 = 1 := rfl
theorem xw_dr_in {post : SX → Prop} {J : Int32 → Int32 → Int32 → (Nat → Int32) → (Nat → Int32) → (Nat → Int32) → (Nat → Int32) → (Nat → Int32) → (Nat → Int32) → (Nat → Int32) → Prop} {B : Nat → Prop} {w : Nat → Option Nat} {o : Nat → Nat} {c r : Nat} (hL : L ≤ 16) (hN : xw_N ops nums L fn nc 4096) (hQ : tp_XQ B (tp_K ops nums L) (tp_f ops nums) st ord w o c)
    (hJ : ∀ go' ec' d' g', xw_I3 B (tp_K ops nums L) (tp_f ops nums) o c go' ec' d' g' r 0 → J d' (nI (r + 1)) ec' ops nums ord st fn nc go') :
    ∀ (i n : Nat) (go : Nat → Int32) (ec d : Int32) (g : Nat → Prop), i ≤ c → i < n → xw_I3 B (tp_K ops nums L) (tp_f ops nums) o c go ec d g r i → wX_dropStatesThatMustEnd_58 post J (nI r) ln lx gx ly gy ex pc n d (nI i - 1) ec ops nums ord st fn nc go := by
  have hc := tp_Qle hQ.1
  intro i
  induction i with
  | zero =>
    intro n go ec d g hi hn hI
    obtain ⟨n, rfl⟩ : ∃ m, n = m + 1 := ⟨n - 1, by omega⟩
    exact br_t (by decide) (tp_n1 (hJ go ec d g hI))
  | succ i ih =>
    intro n go ec d g hi hn hI
    obtain ⟨n, rfl⟩ : ∃ m, n = m + 1 := ⟨n - 1, by omega⟩
    rw [nI_pred]
    obtain ⟨h4, a, ha, -⟩ := hQ.1.2.1 i (by omega)
    refine br_f (nI_pos (by omega)) (br_f (nI_ge (b := 4096) (a := i) (by omega) (by omega)) ⟨vp_in_nI (by omega) (by omega), ?_⟩)
    rw [nI_clamp (by omega), hQ.2.2 i (by omega)]
    have keep : (g (o i) → tp_Cl (tp_K ops nums L) (tp_f ops nums) g (o i)) → xw_I3 B (tp_K ops nums L) (tp_f ops nums) o c go ec d g r i := by
      intro hc'
      refine ⟨hI.1, hI.2.1, tp_Dr_k hI.2.2 (fun s ⟨j, h1, h2, h3⟩ hgs => ?_)⟩
      rcases Nat.lt_or_ge i j with z | z
      · exact Or.inl ⟨j, by omega, h2, h3⟩
      · have e : j = i := by omega
        rw [e] at h3
        rw [← h3] at hgs ⊢
        exact Or.inr (hc' hgs)
    refine nm_e (xw_still h4 (fun hne => br_f (by decide) ?_) (fun he => br_t rfl (nm_r (tp_m1 i) ?_)))
    · have hgi : g (o i) := Classical.byContradiction (fun z => hne ((hI.1.2.2 _ h4).mpr z))
      refine xw_hn hL hN h4 hI.1.2.2 (fun hcl => br_f (by decide) (nm_r (tp_m1 i) ?_)) (fun hcl => br_t rfl ⟨vp_in_nI h4 (by omega), tp_nu (by omega) (nm_e (nm_r (tp_m1 i) ?_))⟩)
      · exact ih n go ec d g (by omega) (by omega) (keep (fun _ => hcl))
      · have hcn := tp_cn_d hgi h4
        refine ih n _ _ _ (fun t => g t ∧ t ≠ o i) (by omega) (by omega) ⟨?_, ?_, ?_⟩
        · rw [xw_nb0]; exact tp_XG_d hI.1 hcl
        · rw [hI.2.1, hcn, nI_pred]
        · exact tp_Dr_d _ hI.2.2 (by omega)
    · exact ih n go ec d g (by omega) (by omega) (keep (fun z => absurd z ((hI.1.2.2 _ h4).mp he)))
def xw_I4 (B : Nat → Prop) (K f : Nat → Nat) (go : Nat → Int32) (ec d : Int32) (g : Nat → Prop) (r : Nat) : Prop :=
  tp_XG B K f go g ∧ ec = nI (tp_cn g 0 4096) ∧ tp_Hd K f g r d
theorem xw_dr_out {post : SX → Prop} {B : Nat → Prop} {w : Nat → Option Nat} {o : Nat → Nat} {c : Nat} (hL : L ≤ 16) (hN : xw_N ops nums L fn nc 4096) (hQ : tp_XQ B (tp_K ops nums L) (tp_f ops nums) st ord w o c) (hK : tp_Kn B (tp_K ops nums L) (tp_f ops nums) w)
    (hp : ∀ go' ec', ec' = nI (tp_cn (tp_G B (tp_K ops nums L) (tp_f ops nums)) 0 4096) → post (ln, lx, gx, ly, gy, ex, nI c, ec', ops, nums, ord, st, fn, nc, go')) :
    ∀ (e r n : Nat) (go : Nat → Int32) (ec d : Int32) (g : Nat → Prop), r + e = 4097 → e < n → xw_I4 B (tp_K ops nums L) (tp_f ops nums) go ec d g r → wX_dropStatesThatMustEnd_38 post ln lx gx ly gy ex (nI c) n d (nI r) ec ops nums ord st fn nc go := by
  have fin : ∀ (go : Nat → Int32) (ec : Int32) (g : Nat → Prop), tp_XG B (tp_K ops nums L) (tp_f ops nums) go g → ec = nI (tp_cn g 0 4096) → (∀ s, g s → tp_Cl (tp_K ops nums L) (tp_f ops nums) g s) → post (ln, lx, gx, ly, gy, ex, nI c, ec, ops, nums, ord, st, fn, nc, go) := by
    intro go ec g h1 h2 h3
    refine hp go ec ?_
    rw [h2]
    exact congrArg nI (tp_cn_e (fun s _ _ => tp_XG_c h1 h3 s))
  intro e
  induction e with
  | zero =>
    intro r n go ec d g hr hn hI
    obtain ⟨n, rfl⟩ : ∃ m, n = m + 1 := ⟨n - 1, by omega⟩
    have e : r = 4097 := by omega
    subst e
    exact br_t (nI_lt (a := 4096) (by omega) (by omega)) (fin go ec g hI.1 hI.2.1 (tp_Hd_x hI.2.2))
  | succ e ih =>
    intro r n go ec d g hr hn hI
    obtain ⟨n, rfl⟩ : ∃ m, n = m + 1 := ⟨n - 1, by omega⟩
    refine br_f (Int32.not_lt.mpr (nI_le (a := r) (b := 4096) (by omega) (by omega))) (br_c (fun e0 => ?_) (fun n0 => nm_e ⟨c + 1, ?_⟩))
    · subst e0
      exact fin go ec g hI.1 hI.2.1 (tp_Hd_0 hI.2.2)
    · refine xw_dr_in hL hN hQ (fun go' ec' d' g' hI' => ih (r + 1) n go' ec' d' g' (by omega) (by omega) ⟨hI'.1, hI'.2.1, tp_Dr_e hI'.2.2 (fun s hs => ?_)⟩) c (c + 1) go ec 0 g (Nat.le_refl _) (by omega) ⟨hI.1, hI.2.1, Or.inl ⟨rfl, tp_Hd_1 hI.2.2 n0, fun s ⟨j, h1, h2, _⟩ => by omega⟩⟩
      have hP := hI'.1.1 s hs
      cases ew : w s with
      | none => exact absurd hP (hK.2 s ew)
      | some a =>
        obtain ⟨j, hj, ej⟩ := (hQ.1.2.2.1 s a ew).1
        exact ⟨j, Nat.zero_le _, hj, ej⟩
theorem xw_dr_first {post : SX → Prop} {B : Nat → Prop} {w : Nat → Option Nat} {o : Nat → Nat} {c : Nat} (hL : L ≤ 16) (hN : xw_N ops nums L fn nc 4096) (hQ : tp_XQ B (tp_K ops nums L) (tp_f ops nums) st ord w o c) (hK : tp_Kn B (tp_K ops nums L) (tp_f ops nums) w)
    (hp : ∀ go' ec', ec' = nI (tp_cn (tp_G B (tp_K ops nums L) (tp_f ops nums)) 0 4096) → post (ln, lx, gx, ly, gy, ex, nI c, ec', ops, nums, ord, st, fn, nc, go')) :
    ∀ (e i n : Nat) (go : Nat → Int32), i + e = 4096 → e < n → (∀ s, s < i → (go s = 0 ↔ ¬ tp_P B (tp_K ops nums L) (tp_f ops nums) s)) → wX_dropStatesThatMustEnd_2 post ln lx gx ly gy ex (nI c) ec n (nI i) ops nums ord st fn nc go := by
  intro e
  induction e with
  | zero =>
    intro i n go hi hn hI
    obtain ⟨n, rfl⟩ : ∃ m, n = m + 1 := ⟨n - 1, by omega⟩
    have e : i = 4096 := by omega
    subst e
    have ec : tp_cn (tp_P B (tp_K ops nums L) (tp_f ops nums)) 0 4096 = c := by
      rw [← hQ.1.1]
      exact tp_cn_e (fun s _ _ => (tp_Kn_P hK s).symm)
    refine br_t (nI_le (a := 4096) (b := 4096) (by omega) (by omega)) ⟨4098, ?_⟩
    refine xw_dr_out hL hN hQ hK hp 4097 0 4098 go (nI c) 1 (tp_P B (tp_K ops nums L) (tp_f ops nums)) (by omega) (by omega) ⟨⟨fun s h => h, fun s h => tp_G_P h, hI⟩, by rw [ec], Or.inl ⟨rfl, ?_⟩⟩
    exact tp_cn_le _ _ _
  | succ e ih =>
    intro i n go hi hn hI
    obtain ⟨n, rfl⟩ : ∃ m, n = m + 1 := ⟨n - 1, by omega⟩
    have h4 : i < 4096 := by omega
    have hm := tp_XQ_m hQ h4
    have hk := tp_Kn_P hK i
    refine br_f (nI_ge (b := 4096) h4 (by omega)) (xw_poss h4 (fun hne => ⟨vp_in_nI h4 (by omega), tp_nu (by omega) (tp_n1 ?_)⟩) (fun he => ⟨vp_in_nI h4 (by omega), tp_nu (by omega) (tp_n1 ?_)⟩))
    · refine ih (i + 1) n _ (by omega) (by omega) (fun s hs => ?_)
      by_cases e : s = i
      · subst e
        rw [pk_us, xw_nb1]
        exact ⟨fun z => absurd z (by decide), fun z => absurd (hk.mp (fun y => hne (hm.mpr y))) z⟩
      · rw [pk_un e]; exact hI s (by omega)
    · refine ih (i + 1) n _ (by omega) (by omega) (fun s hs => ?_)
      by_cases e : s = i
      · subst e
        rw [pk_us, xw_nb0]
        exact ⟨fun _ z => hk.mpr z (hm.mp he), fun _ => rfl⟩
      · rw [pk_un e]; exact hI s (by omega)
theorem xw_dr {post : SX → Prop} {B : Nat → Prop} {w : Nat → Option Nat} {o : Nat → Nat} {c : Nat} (hL : L ≤ 16) (hN : xw_N ops nums L fn nc 4096) (hQ : tp_XQ B (tp_K ops nums L) (tp_f ops nums) st ord w o c) (hK : tp_Kn B (tp_K ops nums L) (tp_f ops nums) w)
    (hp : ∀ go' ec', ec' = nI (tp_cn (tp_G B (tp_K ops nums L) (tp_f ops nums)) 0 4096) → post (ln, lx, gx, ly, gy, ex, nI c, ec', ops, nums, ord, st, fn, nc, go')) : wpX_dropStatesThatMustEnd post (ln, lx, gx, ly, gy, ex, nI c, ec, ops, nums, ord, st, fn, nc, go) :=
  ⟨4097, xw_dr_first hL hN hQ hK hp 4096 0 4097 go (by omega) (by omega) (fun s hs => absurd hs (Nat.not_lt_zero _))⟩
end
end
section
/-! the component's explore, and its questions -/
section
variable {ln lx gx ly gy ex pc ec : Int32} {ops nums ord st fn nc go : Nat → Int32} {L a b c d : Nat}
def xR (L a b c d : Nat) (ops nums : Nat → Int32) (u : SX) : Prop :=
  ∃ (ex pc ec : Int32) (ord st fn nc go : Nat → Int32), u = (nI L, nI a, nI b, nI c, nI d, ex, pc, ec, ops, nums, ord, st, fn, nc, go) ∧ (ex = 0 ∨ tp_XK (tp_B L a b c d) (tp_K ops nums L) (tp_f ops nums) (tp_F ops nums L) st fn ec)
theorem xw_e27 {post : SX → Prop} {w : Nat → Option Nat} {o : Nat → Nat} {k : Nat} (hL : L ≤ 16) (hN : xw_N ops nums L fn nc 4096) (hQ : tp_XQ (tp_B L a b c d) (tp_K ops nums L) (tp_f ops nums) st ord w o k) (hB : ∀ s, (tp_B L a b c d) s → w s = some 0) (hb : ∀ j b, j < k → w (o j) = some b → b ≤ 0)
    (hp : ∀ ex' pc' ec' ord' st' go', tp_XK (tp_B L a b c d) (tp_K ops nums L) (tp_f ops nums) (tp_F ops nums L) st' fn ec' → post (ln, nI a, nI b, nI c, nI d, ex', pc', ec', ops, nums, ord', st', fn, nc, go')) : wX_explore_27 post ln (nI a) (nI b) (nI c) (nI d) ex (nI k) ec ops nums ord st fn nc go := by
  unfold wX_explore_27
  refine xw_fr hL hN hQ hB hb (fun st' ord' w' o' c' hQ' hK' => ?_)
  refine xw_dr hL hN hQ' hK' (fun go' ec' he => ?_)
  exact hp _ _ _ _ _ _ ⟨w', hK', fun s n h => (tp_Qn hQ'.1 h).1, hQ'.2.1, fun s hs => (hN s hs).1, he⟩
theorem xw_explore {post : SX → Prop} (hL : L ≤ 16) (ha : a < 16) (hb : b < 16) (hc : c < 16) (hd : d < 16) (hx : ex = 0 ∨ tp_XK (tp_B L a b c d) (tp_K ops nums L) (tp_f ops nums) (tp_F ops nums L) st fn ec)
    (hp : ∀ ex' pc' ec' ord' st' fn' nc' go', tp_XK (tp_B L a b c d) (tp_K ops nums L) (tp_f ops nums) (tp_F ops nums L) st' fn' ec' → post (nI L, nI a, nI b, nI c, nI d, ex', pc', ec', ops, nums, ord', st', fn', nc', go')) : wpX_explore post (nI L, nI a, nI b, nI c, nI d, ex, pc, ec, ops, nums, ord, st, fn, nc, go) := by
  unfold wpX_explore
  dsimp only
  refine br_c (fun e0 => ?_) (fun n0 => ?_)
  · refine xw_fns hL (fun fn' nc' hN => ?_)
    refine xw_fps (fun st' h5 => ?_)
    refine pk_le L 0 (fun h => ?_) (fun h => ?_)
    · refine xw_e27 (w := fun _ => none) (o := fun _ => 0) (k := 0) hL hN ⟨tp_Q0 _ _ _ _, fun s hs => h5 s hs, fun j hj => absurd hj (Nat.not_lt_zero _)⟩ (fun s hs => ?_) (fun j _ hj => absurd hj (Nat.not_lt_zero _)) (fun ex' pc' ec' ord' st' go' hk => hp _ _ _ _ _ _ _ _ hk)
      have := hs.1
      omega
    · refine xw_rb (K := (tp_K ops nums L)) (f := (tp_f ops nums)) ha hb hc hd h h5 (fun st2 ord2 w2 o2 c2 hI => ?_)
      exact xw_e27 hL hN hI.1 (fun s hs => hI.2.2 s hs hs.2.1) hI.2.1 (fun ex' pc' ec' ord' st' go' hk => hp _ _ _ _ _ _ _ _ hk)
  · rcases hx with h | h
    · exact absurd h n0
    · exact hp _ _ _ _ _ _ _ _ h
/-- explore, then what follows -/
theorem xq_ex {post : SX → Prop} {u : SX} (hL : L ≤ 16) (ha : a < 16) (hb : b < 16) (hc : c < 16) (hd : d < 16) (hu : xR L a b c d ops nums u)
    (hp : ∀ ex' pc' ec' ord' st' fn' nc' go', tp_XK (tp_B L a b c d) (tp_K ops nums L) (tp_f ops nums) (tp_F ops nums L) st' fn' ec' → post (nI L, nI a, nI b, nI c, nI d, ex', pc', ec', ops, nums, ord', st', fn', nc', go')) : wpX_explore post u := by
  obtain ⟨ex, pc, ec, ord, st, fn, nc, go, rfl, hx⟩ := hu
  exact xw_explore hL ha hb hc hd hx hp
theorem xw_states_l {post : Int32 → SX → Prop} {q : Nat} (hq : q < 16) (hk : tp_XK (tp_B L a b c d) (tp_K ops nums L) (tp_f ops nums) (tp_F ops nums L) st fn ec) (hp : post (nI (tp_cn (tp_P (tp_B L a b c d) (tp_K ops nums L) (tp_f ops nums)) (256 * q) 256)) (ln, lx, gx, ly, gy, ex, pc, ec, ops, nums, ord, st, fn, nc, go)) :
    ∀ (e i n : Nat), i + e = 256 → e < n → wX_states_27 post (nI (256 * q)) ln lx gx ly gy ex pc ec ops nums ord st fn nc go n (nI (tp_cn (tp_P (tp_B L a b c d) (tp_K ops nums L) (tp_f ops nums)) (256 * q) i)) (nI (256 * q + i)) := by
  intro e
  induction e with
  | zero =>
    intro i n hi hn
    obtain ⟨n, rfl⟩ : ∃ m, n = m + 1 := ⟨n - 1, by omega⟩
    have e : i = 256 := by omega
    subst e
    exact pk_le (256 * q + 256) (256 * q + 256) (fun _ => hp) (fun h => by omega) (nI_add _ _)
  | succ e ih =>
    intro i n hi hn
    obtain ⟨n, rfl⟩ : ∃ m, n = m + 1 := ⟨n - 1, by omega⟩
    have h4 : 256 * q + i < 4096 := by omega
    have hm := tp_XK_m hk h4
    refine pk_le (256 * q + 256) (256 * q + i) (fun h => by omega) (fun _ => ?_) (nI_add _ _)
    refine xw_poss h4 (fun hne => br_f (by decide) (tp_n1 (tp_n1 ?_))) (fun he => br_t rfl (tp_n1 ?_))
    · have hP : (tp_P (tp_B L a b c d) (tp_K ops nums L) (tp_f ops nums)) (256 * q + i) := Classical.byContradiction (fun z => hne (hm.mpr z))
      have x := ih (i + 1) n (by omega) (by omega)
      rw [tp_cn_s, tp_b1 hP] at x
      exact x
    · have x := ih (i + 1) n (by omega) (by omega)
      rw [tp_cn_s, tp_b0 (hm.mp he)] at x
      exact x
theorem xq_states {post : Int32 → SX → Prop} {u : SX} {p : Int32} (hL : L ≤ 16) (ha : a < 16) (hb : b < 16) (hc : c < 16) (hd : d < 16) (hu : xR L a b c d ops nums u)
    (h3 : (∀ q, q < L → ¬ p = nI q) → post (-3) u) (hp : ∀ q, q < L → p = nI q → ∀ u', xR L a b c d ops nums u' → post (nI (tp_cn (tp_P (tp_B L a b c d) (tp_K ops nums L) (tp_f ops nums)) (256 * q) 256)) u') : wpX_states post u p := by
  have hu' := hu
  obtain ⟨ex, pc, ec, ord, st, fn, nc, go, rfl, hx⟩ := hu'
  unfold wpX_states
  dsimp only
  refine xw_ins hL (fun q hq e => br_f (by decide) ?_) (fun hn => br_t rfl (h3 hn))
  refine xq_ex hL ha hb hc hd hu (fun ex' pc' ec' ord' st' fn' nc' go' hk => ?_)
  subst e
  refine xw_num (x := 0) (y := 0) ⟨257, ?_⟩
  exact xw_states_l (by omega) hk (hp q hq rfl _ ⟨_, _, _, _, _, _, _, _, rfl, Or.inr hk⟩) 256 0 257 (by omega) (by omega)
theorem xw_traps_l {post : Int32 → SX → Prop} {q : Nat} (hq : q < 16) (hk : tp_XK (tp_B L a b c d) (tp_K ops nums L) (tp_f ops nums) (tp_F ops nums L) st fn ec) (hp : post (nI (tp_cn (fun s => (tp_P (tp_B L a b c d) (tp_K ops nums L) (tp_f ops nums)) s ∧ (tp_F ops nums L) s = -2) (256 * q) 256)) (ln, lx, gx, ly, gy, ex, pc, ec, ops, nums, ord, st, fn, nc, go)) :
    ∀ (e i n : Nat), i + e = 256 → e < n → wX_traps_27 post (nI (256 * q)) ln lx gx ly gy ex pc ec ops nums ord st fn nc go n (nI (tp_cn (fun s => (tp_P (tp_B L a b c d) (tp_K ops nums L) (tp_f ops nums)) s ∧ (tp_F ops nums L) s = -2) (256 * q) i)) (nI (256 * q + i)) := by
  have hfn : ∀ s, s < 4096 → fn s = (tp_F ops nums L) s := by
    obtain ⟨w, -, -, -, h, -⟩ := hk
    exact h
  intro e
  induction e with
  | zero =>
    intro i n hi hn
    obtain ⟨n, rfl⟩ : ∃ m, n = m + 1 := ⟨n - 1, by omega⟩
    have e : i = 256 := by omega
    subst e
    exact pk_le (256 * q + 256) (256 * q + 256) (fun _ => hp) (fun h => by omega) (nI_add _ _)
  | succ e ih =>
    intro i n hi hn
    obtain ⟨n, rfl⟩ : ∃ m, n = m + 1 := ⟨n - 1, by omega⟩
    have h4 : 256 * q + i < 4096 := by omega
    have hm := tp_XK_m hk h4
    have x := ih (i + 1) n (by omega) (by omega)
    rw [tp_cn_s] at x
    refine pk_le (256 * q + 256) (256 * q + i) (fun h => by omega) (fun _ => ?_) (nI_add _ _)
    refine xw_pwn h4 (fun hne he => br_f (by decide) (tp_n1 (tp_n1 ?_))) (fun he => br_t rfl (tp_n1 ?_))
    · have hP : (tp_P (tp_B L a b c d) (tp_K ops nums L) (tp_f ops nums)) (256 * q + i) := Classical.byContradiction (fun z => hne (hm.mpr z))
      rw [tp_b1 ⟨hP, (hfn _ h4).symm.trans he⟩] at x
      exact x
    · rw [tp_b0 (fun z => he ⟨fun y => hm.mp y z.1, (hfn _ h4).trans z.2⟩)] at x
      exact x
theorem xq_traps {post : Int32 → SX → Prop} {u : SX} {p : Int32} (hL : L ≤ 16) (ha : a < 16) (hb : b < 16) (hc : c < 16) (hd : d < 16) (hu : xR L a b c d ops nums u)
    (h3 : (∀ q, q < L → ¬ p = nI q) → post (-3) u) (hp : ∀ q, q < L → p = nI q → ∀ u', xR L a b c d ops nums u' → post (nI (tp_cn (fun s => (tp_P (tp_B L a b c d) (tp_K ops nums L) (tp_f ops nums)) s ∧ (tp_F ops nums L) s = -2) (256 * q) 256)) u') : wpX_traps post u p := by
  have hu' := hu
  obtain ⟨ex, pc, ec, ord, st, fn, nc, go, rfl, hx⟩ := hu'
  unfold wpX_traps
  dsimp only
  refine xw_ins hL (fun q hq e => br_f (by decide) ?_) (fun hn => br_t rfl (h3 hn))
  refine xq_ex hL ha hb hc hd hu (fun ex' pc' ec' ord' st' fn' nc' go' hk => ?_)
  subst e
  refine xw_num (x := 0) (y := 0) ⟨257, ?_⟩
  exact xw_traps_l (by omega) hk (hp q hq rfl _ ⟨_, _, _, _, _, _, _, _, rfl, Or.inr hk⟩) 256 0 257 (by omega) (by omega)
theorem xw_soon_l {post : Int32 → SX → Prop} {q : Nat} (hq : q < 16) (hk : tp_XK (tp_B L a b c d) (tp_K ops nums L) (tp_f ops nums) (tp_F ops nums L) st fn ec) (hp : ∀ r, tp_Sv (tp_B L a b c d) (tp_K ops nums L) (tp_f ops nums) q r → post r (ln, lx, gx, ly, gy, ex, pc, ec, ops, nums, ord, st, fn, nc, go)) :
    ∀ (e i n : Nat) (r : Int32), i + e = 256 → e < n → tp_So (tp_B L a b c d) (tp_K ops nums L) (tp_f ops nums) (256 * q) i r → wX_soonest_28 post (nI (256 * q)) ln lx gx ly gy ex pc ec ops nums ord st fn nc go n r (nI (256 * q + i)) := by
  intro e
  induction e with
  | zero =>
    intro i n r hi hn hS
    obtain ⟨n, rfl⟩ : ∃ m, n = m + 1 := ⟨n - 1, by omega⟩
    have e : i = 256 := by omega
    subst e
    exact pk_le (256 * q + 256) (256 * q + 256) (fun _ => hp r (tp_So_x hS)) (fun h => by omega) (nI_add _ _)
  | succ e ih =>
    intro i n r hi hn hS
    obtain ⟨n, rfl⟩ : ∃ m, n = m + 1 := ⟨n - 1, by omega⟩
    have h4 : 256 * q + i < 4096 := by omega
    have hm := tp_XK_m hk h4
    have hin : vp_in (nI (256 * q + i)) 4096 := vp_in_nI h4 (by omega)
    refine pk_le (256 * q + 256) (256 * q + i) (fun h => by omega) (fun _ => ?_) (nI_add _ _)
    refine xw_poss h4 (fun hne => br_f (by decide) ?_) (fun he => br_t rfl (tp_n1 (ih (i + 1) n r (by omega) (by omega) (tp_So_n hS (hm.mp he)))))
    have hP : (tp_P (tp_B L a b c d) (tp_K ops nums L) (tp_f ops nums)) (256 * q + i) := Classical.byContradiction (fun z => hne (hm.mpr z))
    obtain ⟨m, hm4, es, hD⟩ := tp_XK_d hk h4 hP
    obtain ⟨s1, s2, s3⟩ := tp_So_s hS hm4 hD
    have hcl : (nI (256 * q + i)).toNatClampNeg = 256 * q + i := nI_clamp (by omega)
    rw [hcl, es]
    refine br_c (fun e5 => ⟨hin, nm_e (tp_n1 (ih (i + 1) n _ (by omega) (by omega) (s1 e5)))⟩) (fun n5 => ⟨hin, br_c (fun hle => tp_n1 (ih (i + 1) n r (by omega) (by omega) (s3 n5 (Int32.not_lt.mpr hle)))) (fun hlt => ⟨hin, nm_e (tp_n1 (ih (i + 1) n _ (by omega) (by omega) (s2 (Int32.not_le.mp hlt))))⟩)⟩)
theorem xq_soonest {post : Int32 → SX → Prop} {u : SX} {p : Int32} (hL : L ≤ 16) (ha : a < 16) (hb : b < 16) (hc : c < 16) (hd : d < 16) (hu : xR L a b c d ops nums u)
    (h3 : (∀ q, q < L → ¬ p = nI q) → post (-3) u) (hp : ∀ q, q < L → p = nI q → ∀ u' r, xR L a b c d ops nums u' → tp_Sv (tp_B L a b c d) (tp_K ops nums L) (tp_f ops nums) q r → post r u') : wpX_soonest post u p := by
  have hu' := hu
  obtain ⟨ex, pc, ec, ord, st, fn, nc, go, rfl, hx⟩ := hu'
  unfold wpX_soonest
  dsimp only
  refine xw_ins hL (fun q hq e => br_f (by decide) ?_) (fun hn => br_t rfl (h3 hn))
  refine xq_ex hL ha hb hc hd hu (fun ex' pc' ec' ord' st' fn' nc' go' hk => ?_)
  subst e
  refine xw_num (x := 0) (y := 0) ⟨257, ?_⟩
  exact xw_soon_l (by omega) hk (fun r hr => hp q hq rfl _ r ⟨_, _, _, _, _, _, _, _, rfl, Or.inr hk⟩ hr) 256 0 257 (-5) (by omega) (by omega) (tp_So_0 _ _ _ _)
theorem xq_possible {post : Int32 → SX → Prop} {u : SX} {p x y : Int32} (hL : L ≤ 16) (ha : a < 16) (hb : b < 16) (hc : c < 16) (hd : d < 16) (hu : xR L a b c d ops nums u)
    (h0 : ¬ (∃ q i j, q < L ∧ i < 16 ∧ j < 16 ∧ p = nI q ∧ x = nI i ∧ y = nI j) → post 0 u) (hp : ∀ q i j, q < L → i < 16 → j < 16 → p = nI q → x = nI i → y = nI j → ∀ u', xR L a b c d ops nums u' → post (nI (tp_b ((tp_P (tp_B L a b c d) (tp_K ops nums L) (tp_f ops nums)) (256 * q + 16 * i + j)))) u') : wpX_possible post u p x y := by
  have hu' := hu
  obtain ⟨ex, pc, ec, ord, st, fn, nc, go, rfl, hx⟩ := hu'
  unfold wpX_possible
  dsimp only
  refine xw_ins hL (fun q hq e => br_f (by decide) ?_) (fun hn => br_t rfl (h0 (fun ⟨q, i, j, h1, h2, h3, h4, h5, h6⟩ => hn q h1 h4)))
  refine xw_val (fun i hi ei => br_f (by decide) ?_) (fun hn => br_t rfl (h0 (fun ⟨q, i, j, h1, h2, h3, h4, h5, h6⟩ => hn i h2 h5)))
  refine xw_val (fun j hj ej => br_f (by decide) ?_) (fun hn => br_t rfl (h0 (fun ⟨q, i, j, h1, h2, h3, h4, h5, h6⟩ => hn j h3 h6)))
  refine xq_ex hL ha hb hc hd hu (fun ex' pc' ec' ord' st' fn' nc' go' hk => ?_)
  have h4 : 256 * q + 16 * i + j < 4096 := by omega
  have hm := tp_XK_m hk h4
  have hpp := hp q i j hq hi hj e ei ej (nI L, nI a, nI b, nI c, nI d, ex', pc', ec', ops, nums, ord', st', fn', nc', go') ⟨_, _, _, _, _, _, _, _, rfl, Or.inr hk⟩
  subst e
  subst ei
  subst ej
  refine xw_num (xw_poss h4 (fun hne => ⟨rfl, ?_⟩) (fun he => ⟨rfl, ?_⟩))
  · rw [tp_b1 (Classical.byContradiction (fun z => hne (hm.mpr z)))] at hpp
    exact hpp
  · rw [tp_b0 (hm.mp he)] at hpp
    exact hpp
theorem xw_v74 {post : Int32 → SX → Prop} {J : Int32 → Int32 → Prop} {x2 x3 m : Int32} {i v : Nat} (h : J (m ||| ((1 : Int32) <<< (nI v &&& 31))) (nI (i + 1))) : wX_values_74 post J x2 x3 m (nI i) (nI v) ln lx gx ly gy ex pc ec ops nums ord st fn nc go := by
  unfold wX_values_74
  exact nm_e (tp_n1 h)
theorem xw_vals_l {post : Int32 → SX → Prop} {q : Nat} {rg : Int32} {vf : Nat → Nat} (hq : q < 16) (hv : (rg = 0 ∧ vf = fun s => s / 16 % 16) ∨ (¬ rg = 0 ∧ vf = fun s => s % 16)) (hk : tp_XK (tp_B L a b c d) (tp_K ops nums L) (tp_f ops nums) (tp_F ops nums L) st fn ec) (hp : ∀ m, tp_V m (tp_Tm (tp_P (tp_B L a b c d) (tp_K ops nums L) (tp_f ops nums)) vf (256 * q) 256) → post m (ln, lx, gx, ly, gy, ex, pc, ec, ops, nums, ord, st, fn, nc, go)) :
    ∀ (e i n : Nat) (m : Int32), i + e = 256 → e < n → tp_V m (tp_Tm (tp_P (tp_B L a b c d) (tp_K ops nums L) (tp_f ops nums)) vf (256 * q) i) → wX_values_38 post rg (nI (256 * q)) ln lx gx ly gy ex pc ec ops nums ord st fn nc go n m (nI (256 * q + i)) := by
  intro e
  induction e with
  | zero =>
    intro i n r hi hn hS
    obtain ⟨n, rfl⟩ : ∃ m, n = m + 1 := ⟨n - 1, by omega⟩
    have e : i = 256 := by omega
    subst e
    exact pk_le (256 * q + 256) (256 * q + 256) (fun _ => hp r hS) (fun h => by omega) (nI_add _ _)
  | succ e ih =>
    intro i n r hi hn hS
    obtain ⟨n, rfl⟩ : ∃ m, n = m + 1 := ⟨n - 1, by omega⟩
    have h4 : 256 * q + i < 4096 := by omega
    have hm := tp_XK_m hk h4
    refine pk_le (256 * q + 256) (256 * q + i) (fun h => by omega) (fun _ => ?_) (nI_add _ _)
    refine xw_poss h4 (fun hne => br_f (by decide) ?_) (fun he => br_t rfl (tp_n1 (ih (i + 1) n r (by omega) (by omega) (tp_Tm_n hS (hm.mp he)))))
    have hP : (tp_P (tp_B L a b c d) (tp_K ops nums L) (tp_f ops nums)) (256 * q + i) := Classical.byContradiction (fun z => hne (hm.mpr z))
    rcases hv with ⟨h0, hvf⟩ | ⟨h0, hvf⟩
    · have e : vf (256 * q + i) = (256 * q + i) / 16 % 16 := by rw [hvf]
      have x := tp_Tm_s hS hP (by rw [e]; exact Nat.mod_lt _ (by omega))
      rw [e] at x
      refine br_t h0 (xw_x h4 (xw_v74 ?_))
      exact ih (i + 1) n _ (by omega) (by omega) x
    · have e : vf (256 * q + i) = (256 * q + i) % 16 := by rw [hvf]
      have x := tp_Tm_s hS hP (by rw [e]; exact Nat.mod_lt _ (by omega))
      rw [e] at x
      refine br_f h0 (xw_y h4 (xw_v74 ?_))
      exact ih (i + 1) n _ (by omega) (by omega) x
theorem xq_values {post : Int32 → SX → Prop} {u : SX} {p rg : Int32} (hL : L ≤ 16) (ha : a < 16) (hb : b < 16) (hc : c < 16) (hd : d < 16) (hu : xR L a b c d ops nums u)
    (h3 : (∀ q, q < L → ¬ p = nI q) → post (-3) u) (h4 : ∀ q, q < L → p = nI q → ¬ (rg = 0 ∨ rg = 1) → post (-4) u)
    (hx : ∀ q, q < L → p = nI q → rg = 0 → ∀ u' r, xR L a b c d ops nums u' → tp_V r (tp_Tx (tp_P (tp_B L a b c d) (tp_K ops nums L) (tp_f ops nums)) q) → post r u') (hy : ∀ q, q < L → p = nI q → rg = 1 → ∀ u' r, xR L a b c d ops nums u' → tp_V r (tp_Ty (tp_P (tp_B L a b c d) (tp_K ops nums L) (tp_f ops nums)) q) → post r u') : wpX_values post u p rg := by
  have hu' := hu
  obtain ⟨ex, pc, ec, ord, st, fn, nc, go, rfl, hxx⟩ := hu'
  unfold wpX_values
  dsimp only
  refine xw_ins hL (fun q hq e => br_f (by decide) ?_) (fun hn => br_t rfl (h3 hn))
  refine xw_reg (fun hr => br_f (by decide) ?_) (fun hr => br_t rfl (h4 q hq e hr))
  refine xq_ex hL ha hb hc hd hu (fun ex' pc' ec' ord' st' fn' nc' go' hk => ?_)
  subst e
  refine xw_num (x := 0) (y := 0) ⟨257, ?_⟩
  by_cases h0 : rg = 0
  · exact xw_vals_l (by omega) (Or.inl ⟨h0, rfl⟩) hk (fun r hr => hx q hq rfl h0 _ r ⟨_, _, _, _, _, _, _, _, rfl, Or.inr hk⟩ (tp_Tm_x hr)) 256 0 257 0 (by omega) (by omega) tp_Tm_0
  · exact xw_vals_l (by omega) (Or.inr ⟨h0, rfl⟩) hk (fun r hr' => hy q hq rfl (hr.elim (fun z => absurd z h0) id) _ r ⟨_, _, _, _, _, _, _, _, rfl, Or.inr hk⟩ (tp_Tm_y hr')) 256 0 257 0 (by omega) (by omega) tp_Tm_0
theorem xw_some_l {post : Int32 → Prop} {z : Int32} (hk : tp_XK (tp_B L a b c d) (tp_K ops nums L) (tp_f ops nums) (tp_F ops nums L) st fn ec) (ht : (∃ s, (tp_P (tp_B L a b c d) (tp_K ops nums L) (tp_f ops nums)) s ∧ (tp_F ops nums L) s = z) → post 1) (hf : ¬ (∃ s, s < 4096 ∧ (tp_P (tp_B L a b c d) (tp_K ops nums L) (tp_f ops nums)) s ∧ (tp_F ops nums L) s = z) → post 0) :
    ∀ (e i n : Nat), i + e = 4096 → e < n → (∀ s, s < i → ¬ ((tp_P (tp_B L a b c d) (tp_K ops nums L) (tp_f ops nums)) s ∧ (tp_F ops nums L) s = z)) → wX_somePossibleStateHasNext_2 post z ln lx gx ly gy ex pc ec ops nums ord st fn nc go n (nI i) := by
  have hfn : ∀ s, s < 4096 → fn s = (tp_F ops nums L) s := by
    obtain ⟨w, -, -, -, h, -⟩ := hk
    exact h
  intro e
  induction e with
  | zero =>
    intro i n hi hn hI
    obtain ⟨n, rfl⟩ : ∃ m, n = m + 1 := ⟨n - 1, by omega⟩
    have e : i = 4096 := by omega
    subst e
    exact br_t (nI_le (a := 4096) (b := 4096) (by omega) (by omega)) (hf (fun ⟨s, h1, h2⟩ => hI s h1 h2))
  | succ e ih =>
    intro i n hi hn hI
    obtain ⟨n, rfl⟩ : ∃ m, n = m + 1 := ⟨n - 1, by omega⟩
    have h4 : i < 4096 := by omega
    have hm := tp_XK_m hk h4
    refine br_f (nI_ge (b := 4096) h4 (by omega)) (xw_pwn h4 (fun hne he => br_f (by decide) (ht ⟨i, Classical.byContradiction (fun z => hne (hm.mpr z)), (hfn _ h4).symm.trans he⟩)) (fun he => br_t rfl (tp_n1 (ih (i + 1) n (by omega) (by omega) (fun s hs => ?_)))))
    rcases Nat.lt_or_ge s i with y | y
    · exact hI s y
    · have e : s = i := by omega
      subst e
      exact fun z => he ⟨fun y => hm.mp y z.1, (hfn _ h4).trans z.2⟩
theorem xw_some {post : Int32 → Prop} {z : Int32} (hL : L ≤ 16) (hk : tp_XK (tp_B L a b c d) (tp_K ops nums L) (tp_f ops nums) (tp_F ops nums L) st fn ec) (h : post (nI (tp_b (∃ s, (tp_P (tp_B L a b c d) (tp_K ops nums L) (tp_f ops nums)) s ∧ (tp_F ops nums L) s = z)))) : wpX_somePossibleStateHasNext post (ln, lx, gx, ly, gy, ex, pc, ec, ops, nums, ord, st, fn, nc, go) z := by
  refine ⟨4097, xw_some_l hk (fun z => ?_) (fun z => ?_) 4096 0 4097 (by omega) (by omega) (fun s hs => absurd hs (Nat.not_lt_zero _))⟩
  · rw [tp_b1 z] at h
    exact h
  · rw [tp_b0 (fun ⟨s, h1, h2⟩ => z ⟨s, by have := tp_P_lt (tp_wf hL) h1; omega, h1, h2⟩)] at h
    exact h
theorem xq_safe {post : Int32 → SX → Prop} {u : SX} (hL : L ≤ 16) (ha : a < 16) (hb : b < 16) (hc : c < 16) (hd : d < 16) (hu : xR L a b c d ops nums u)
    (hp : ∀ u', xR L a b c d ops nums u' → post (nI (tp_b (¬ ∃ s, (tp_P (tp_B L a b c d) (tp_K ops nums L) (tp_f ops nums)) s ∧ (tp_F ops nums L) s = -2))) u') : wpX_safe post u := by
  have hu' := hu
  obtain ⟨ex, pc, ec, ord, st, fn, nc, go, rfl, hxx⟩ := hu'
  unfold wpX_safe
  dsimp only
  refine xq_ex hL ha hb hc hd hu (fun ex' pc' ec' ord' st' fn' nc' go' hk => ?_)
  have hpp := hp (nI L, nI a, nI b, nI c, nI d, ex', pc', ec', ops, nums, ord', st', fn', nc', go') ⟨_, _, _, _, _, _, _, _, rfl, Or.inr hk⟩
  refine xw_some hL hk ?_
  by_cases h : ∃ s, (tp_P (tp_B L a b c d) (tp_K ops nums L) (tp_f ops nums)) s ∧ (tp_F ops nums L) s = -2
  · rw [tp_b0 (fun z => z h)] at hpp
    rw [tp_b1 h]
    exact br_f (by decide) hpp
  · rw [tp_b1 h] at hpp
    rw [tp_b0 h]
    exact br_t rfl hpp
theorem xq_canEnd {post : Int32 → SX → Prop} {u : SX} (hL : L ≤ 16) (ha : a < 16) (hb : b < 16) (hc : c < 16) (hd : d < 16) (hu : xR L a b c d ops nums u)
    (hp : ∀ u', xR L a b c d ops nums u' → post (nI (tp_b (∃ s, (tp_P (tp_B L a b c d) (tp_K ops nums L) (tp_f ops nums)) s ∧ (tp_F ops nums L) s = -1))) u') : wpX_canEnd post u := by
  have hu' := hu
  obtain ⟨ex, pc, ec, ord, st, fn, nc, go, rfl, hxx⟩ := hu'
  unfold wpX_canEnd
  dsimp only
  refine xq_ex hL ha hb hc hd hu (fun ex' pc' ec' ord' st' fn' nc' go' hk => ?_)
  have hpp := hp (nI L, nI a, nI b, nI c, nI d, ex', pc', ec', ops, nums, ord', st', fn', nc', go') ⟨_, _, _, _, _, _, _, _, rfl, Or.inr hk⟩
  refine xw_some hL hk ⟨?_, hpp⟩
  by_cases h : ∃ s, (tp_P (tp_B L a b c d) (tp_K ops nums L) (tp_f ops nums)) s ∧ (tp_F ops nums L) s = -1
  · rw [tp_b1 h]; rfl
  · rw [tp_b0 h]; rfl
theorem xq_endless {post : Int32 → SX → Prop} {u : SX} (hL : L ≤ 16) (ha : a < 16) (hb : b < 16) (hc : c < 16) (hd : d < 16) (hu : xR L a b c d ops nums u)
    (hp : ∀ u', xR L a b c d ops nums u' → post (nI (tp_cn (tp_G (tp_B L a b c d) (tp_K ops nums L) (tp_f ops nums)) 0 4096)) u') : wpX_endless post u := by
  have hu' := hu
  obtain ⟨ex, pc, ec, ord, st, fn, nc, go, rfl, hxx⟩ := hu'
  unfold wpX_endless
  dsimp only
  refine xq_ex hL ha hb hc hd hu (fun ex' pc' ec' ord' st' fn' nc' go' hk => ?_)
  have e : ec' = nI (tp_cn (tp_G (tp_B L a b c d) (tp_K ops nums L) (tp_f ops nums)) 0 4096) := by
    obtain ⟨w, -, -, -, -, h⟩ := hk
    exact h
  have hpp := hp (nI L, nI a, nI b, nI c, nI d, ex', pc', ec', ops, nums, ord', st', fn', nc', go') ⟨_, _, _, _, _, _, _, _, rfl, Or.inr hk⟩
  rw [← e] at hpp
  exact hpp
theorem xq_forever {post : Int32 → SX → Prop} {u : SX} (hL : L ≤ 16) (ha : a < 16) (hb : b < 16) (hc : c < 16) (hd : d < 16) (hu : xR L a b c d ops nums u)
    (hp : ∀ u', xR L a b c d ops nums u' → post (nI (tp_b (0 < tp_cn (tp_G (tp_B L a b c d) (tp_K ops nums L) (tp_f ops nums)) 0 4096))) u') : wpX_canRunForever post u := by
  have hu' := hu
  obtain ⟨ex, pc, ec, ord, st, fn, nc, go, rfl, hxx⟩ := hu'
  unfold wpX_canRunForever
  dsimp only
  refine xq_ex hL ha hb hc hd hu (fun ex' pc' ec' ord' st' fn' nc' go' hk => ?_)
  have e : ec' = nI (tp_cn (tp_G (tp_B L a b c d) (tp_K ops nums L) (tp_f ops nums)) 0 4096) := by
    obtain ⟨w, -, -, -, -, h⟩ := hk
    exact h
  have hpp := hp (nI L, nI a, nI b, nI c, nI d, ex', pc', ec', ops, nums, ord', st', fn', nc', go') ⟨_, _, _, _, _, _, _, _, rfl, Or.inr hk⟩
  have hle := tp_cn_le (tp_G (tp_B L a b c d) (tp_K ops nums L) (tp_f ops nums)) 0 4096
  refine pk_le (tp_cn (tp_G (tp_B L a b c d) (tp_K ops nums L) (tp_f ops nums)) 0 4096) 0 (fun h => ?_) (fun h => ?_) e
  · rw [tp_b0 (by omega)] at hpp
    exact hpp
  · rw [tp_b1 h] at hpp
    exact hpp
end
end
section
/-! the reference's one step -/
theorem tp_njp {op : Int32} {x y : Nat} (n10 : ¬ op = 10) (n11 : ¬ op = 11) (n12 : ¬ op = 12) (n13 : ¬ op = 13) : ¬ tp_jp op x y := by
  rintro (z | z | z | z)
  · exact n10 z
  · exact n11 z.1
  · exact n12 z.1
  · exact n13 z.1
theorem tp_pl_n {op c : Int32} {p x y : Nat} (h : ¬ tp_jp op x y) : nI (p + 1) = tp_pl op c p x y := by
  unfold tp_pl
  rw [tp_if_f h]
theorem tp_pl_j {op c : Int32} {p x y : Nat} (h : tp_jp op x y) : c = tp_pl op c p x y := by
  unfold tp_pl
  rw [tp_if_t h]
section
variable {sz kn en : Int32} {ops nums lws hgs al la fd ev fi tr : Nat → Int32} {L : Nat}
theorem yw_bad {post : Int32 → Prop} (hL : L ≤ 16) {p : Int32} (ht : ∀ q, q < L → p = nI q → post 0) (hf : (∀ q, q < L → ¬ p = nI q) → post 1) : wpY_bad post (nI L, kn, en, ops, nums, lws, hgs, al, la, fd, ev, fi, tr) p := by
  unfold wpY_bad
  dsimp only
  rcases pk_ix p (n := L) (by omega) with h | h | ⟨q, hq, rfl⟩
  · refine br_t h (hf (fun q hq e => ?_))
    subst e
    exact nI_pos (by omega) h
  · have h0 : ¬ p < 0 := Int32.not_lt.mpr (Int32.le_trans (nI_pos' (n := L) (by omega)) h)
    refine br_f h0 (br_f (Int32.not_lt.mpr h) (hf (fun q hq e => ?_)))
    subst e
    exact nI_ge hq (by omega) h
  · exact br_f (nI_pos (by omega)) (br_t (nI_lt hq (by omega)) (ht q hq rfl))
theorem yw_243 {post : Int32 → Prop} (hL : L ≤ 16) {op c z x8 x9 : Int32} {p x y v : Nat} (ht : ¬ tp_tr op c x y) (n14 : ¬ op = 14) (h1 : ¬ tp_go L op c p x y → post (-1)) (h3 : tp_go L op c p x y → post (nI (tp_f0 op c p x y + v)))
    (hz : z = tp_pl op c p x y) (e8 : x8 = tp_xe op c x y) (e9 : tp_lo x9 = tp_lo (tp_ye op c x y) + v) : wY_after_243 post z x8 x9 (nI L) kn en ops nums lws hgs al la fd ev fi tr := by
  unfold wY_after_243
  refine yw_bad hL (fun q hq e => br_t rfl ?_) (fun hn => br_f (by decide) (h1 (fun g => tp_out hL hn (by rw [hz]; exact g.2.2))))
  have hg : tp_go L op c p x y := ⟨ht, n14, by rw [← hz]; exact (tp_inn hL hq e).1, by rw [← hz]; exact (tp_inn hL hq e).2⟩
  have h := h3 hg
  have ef : nI q * nI 256 + nI (tp_lo x8) * nI 16 + nI (tp_lo x9) = nI (tp_f0 op c p x y + v) := by
    unfold tp_f0
    rw [← hz, e, nI_clamp (by omega), pk_mul, pk_mul, nI_add, nI_add, e9, e8]
    exact congrArg nI (by omega)
  rw [tp_lo_and, tp_lo_and, e]
  exact ek_v (P := post) ef h
theorem yw_66 {post : Int32 → Prop} (hL : L ≤ 16) {op c : Int32} {p x y v : Nat} (hx : x < 16) (hy : y < 16) (hv : v < 16) (hv9 : ¬ op = 9 → v = 0) (ht : ¬ tp_tr op c x y) (n14 : ¬ op = 14) (h1 : ¬ tp_go L op c p x y → post (-1)) (h3 : tp_go L op c p x y → post (nI (tp_f0 op c p x y + v))) :
    wY_after_66 post (nI x) (nI y) (nI v) op c (nI (p + 1)) (nI x) (nI y) (nI L) kn en ops nums lws hgs al la fd ev fi tr := by
  have fin : ∀ {z x8 x9 : Int32}, z = tp_pl op c p x y → x8 = tp_xe op c x y → tp_lo x9 = tp_lo (tp_ye op c x y) + v → wY_after_243 post z x8 x9 (nI L) kn en ops nums lws hgs al la fd ev fi tr := fun a b e => yw_243 hL ht n14 h1 h3 a b e
  have fin0 : ∀ {z x8 x9 : Int32}, ¬ op = 9 → z = tp_pl op c p x y → x8 = tp_xe op c x y → x9 = tp_ye op c x y → wY_after_243 post z x8 x9 (nI L) kn en ops nums lws hgs al la fd ev fi tr := fun n9 a b e => fin a b (by rw [hv9 n9, e]; rfl)
  refine br_c (fun e => ?_) (fun n0 => br_c (fun e => ?_) (fun n1 => br_c (fun e => nm_e ?_) (fun n2 => br_c (fun e => nm_e ?_) (fun n3 => br_c (fun e => nm_e ?_) (fun n4 => br_c (fun e => nm_e ?_) (fun n5 => br_c (fun e => ?_) (fun n6 => ?_)))))))
  · subst e; exact fin0 (by decide) (tp_pl_n (tp_njp (by decide) (by decide) (by decide) (by decide))) rfl rfl
  · subst e; exact fin0 (by decide) (tp_pl_n (tp_njp (by decide) (by decide) (by decide) (by decide))) rfl rfl
  · subst e; exact fin0 (by decide) (tp_pl_n (tp_njp (by decide) (by decide) (by decide) (by decide))) rfl rfl
  · subst e; exact fin0 (by decide) (tp_pl_n (tp_njp (by decide) (by decide) (by decide) (by decide))) rfl rfl
  · subst e; exact fin0 (by decide) (tp_pl_n (tp_njp (by decide) (by decide) (by decide) (by decide))) rfl rfl
  · subst e; exact fin0 (by decide) (tp_pl_n (tp_njp (by decide) (by decide) (by decide) (by decide))) rfl rfl
  · subst e
    have hy0 : y ≠ 0 := fun z => ht (Or.inl ⟨rfl, z⟩)
    refine pk_le y 0 (fun h => absurd h (by omega)) (fun h => ⟨nI_ne0 (by omega) (by omega), nm_e ?_⟩)
    exact fin0 (by decide) (tp_pl_n (tp_njp (by decide) (by decide) (by decide) (by decide))) rfl rfl
  · refine br_c (fun e => ?_) (fun n7 => br_c (fun e => ?_) (fun n9 => ?_))
    · subst e; exact fin0 (by decide) (tp_pl_n (tp_njp (by decide) (by decide) (by decide) (by decide))) rfl rfl
    · subst e
      refine fin (tp_pl_n (tp_njp (by decide) (by decide) (by decide) (by decide))) rfl ?_
      rw [tp_lo_nI hv]
      show v = 0 + v
      omega
    · have ex : nI x = tp_xe op c x y := by
        unfold tp_xe
        rw [if_neg n0, if_neg n2, if_neg n3, if_neg n4, if_neg n5, if_neg n6, if_neg n7]
      have ey : nI y = tp_ye op c x y := by
        unfold tp_ye
        rw [if_neg n1, if_neg n7, if_neg n9]
      have go : tp_jp op x y → wY_after_239 post c (nI x) (nI y) (nI L) kn en ops nums lws hgs al la fd ev fi tr := fun j => fin0 n9 (tp_pl_j j) ex ey
      have no : ¬ tp_jp op x y → wY_after_243 post (nI (p + 1)) (nI x) (nI y) (nI L) kn en ops nums lws hgs al la fd ev fi tr := fun j => fin0 n9 (tp_pl_n j) ex ey
      have k13 : ¬ op = 10 → (op = 11 → ¬ x = y) → (op = 12 → ¬ x < y) → wY_after_228 post (nI x) op c (nI (p + 1)) (nI x) (nI y) (nI L) kn en ops nums lws hgs al la fd ev fi tr := by
        intro n10 n11 n12
        refine br_c (fun e13 => pk_eq x 0 (fun e => go (Or.inr (Or.inr (Or.inr ⟨e13, e⟩)))) (fun e => no ?_)) (fun n13 => no ?_)
        · rintro (z | z | z | z)
          · exact n10 z
          · exact n11 z.1 z.2
          · exact n12 z.1 z.2
          · exact e z.2
        · rintro (z | z | z | z)
          · exact n10 z
          · exact n11 z.1 z.2
          · exact n12 z.1 z.2
          · exact n13 z.1
      have k12 : ¬ op = 10 → (op = 11 → ¬ x = y) → wY_after_216 post (nI x) (nI y) op c (nI (p + 1)) (nI x) (nI y) (nI L) kn en ops nums lws hgs al la fd ev fi tr := by
        intro n10 n11
        exact br_c (fun e12 => pk_lt x y (fun e => go (Or.inr (Or.inr (Or.inl ⟨e12, e⟩)))) (fun e => k13 n10 n11 (fun _ => by omega))) (fun n12 => k13 n10 n11 (fun z => absurd z n12))
      exact br_c (fun e10 => go (Or.inl e10)) (fun n10 => br_c (fun e11 => pk_eq x y (fun e => go (Or.inr (Or.inl ⟨e11, e⟩))) (fun e => k12 n10 (fun _ => e))) (fun n11 => k12 n10 (fun z => absurd z n11)))
theorem yw_after0 {post : Int32 → Prop} (hL : L ≤ 16) {op c : Int32} {p x y v : Nat} (hop : ops p = op) (hc : nums p = c) (hp : p < L) (hx : x < 16) (hy : y < 16) (hv : v < 16) (hv9 : ¬ op = 9 → v = 0) (h1 : ¬ tp_tr op c x y → ¬ tp_go L op c p x y → post (-1)) (h2 : tp_tr op c x y → post (-2)) (h3 : tp_go L op c p x y → post (nI (tp_f0 op c p x y + v))) :
    wpY_after post (nI L, kn, en, ops, nums, lws, hgs, al, la, fd, ev, fi, tr) (nI p) (nI x) (nI y) (nI v) := by
  unfold wpY_after
  dsimp only
  have hin : vp_in (nI p) 16 := vp_in_nI (by omega) (by omega)
  rw [nI_clamp (by omega), hop, hc]
  refine ⟨hin, nm_e ⟨hin, nm_e (tp_n1 ?_)⟩⟩
  have k66 : ¬ op = 14 → ¬ tp_tr op c x y → wY_after_66 post (nI x) (nI y) (nI v) op c (nI (p + 1)) (nI x) (nI y) (nI L) kn en ops nums lws hgs al la fd ev fi tr := fun n14 nt => yw_66 hL hx hy hv hv9 nt n14 (h1 nt) h3
  have k47 : ¬ op = 14 → (op = 6 → ¬ y = 0) → wY_after_47 post (nI x) (nI y) (nI v) op c (nI (p + 1)) (nI x) (nI y) (nI L) kn en ops nums lws hgs al la fd ev fi tr := by
    intro n14 n6
    refine br_c (fun e8 => br_c (fun h => k66 n14 ?_) (fun h => h2 (Or.inr ⟨e8, Int32.not_lt.mp h⟩))) (fun n8 => k66 n14 ?_)
    · rintro (z | z)
      · exact n6 z.1 z.2
      · exact absurd h (Int32.not_lt.mpr z.2)
    · rintro (z | z)
      · exact n6 z.1 z.2
      · exact n8 z.1
  refine br_c (fun e14 => ?_) (fun n14 => br_c (fun e6 => pk_eq y 0 (fun e => h2 (Or.inl ⟨e6, e⟩)) (fun e => k47 n14 (fun _ => e))) (fun n6 => k47 n14 (fun z => absurd z n6)))
  refine h1 ?_ (fun g => g.2.1 e14)
  subst e14
  rintro (z | z)
  · exact absurd z.1 (by decide)
  · exact absurd z.1 (by decide)
theorem yw_after {post : Int32 → Prop} (hL : L ≤ 16) {t v : Nat} (ht : t / 256 < L) (hv : v < 16) (hv9 : v = 0 ∨ ops (t / 256) = 9) (h1 : tp_F ops nums L t = -1 → tp_K ops nums L t = 0 → post (-1)) (h2 : tp_F ops nums L t = -2 → tp_K ops nums L t = 0 → v = 0 → post (-2)) (h3 : tp_F ops nums L t = nI (tp_f ops nums t) → v < tp_K ops nums L t → tp_f ops nums t + v < 4096 → post (nI (tp_f ops nums t + v))) :
    wpY_after post (nI L, kn, en, ops, nums, lws, hgs, al, la, fd, ev, fi, tr) (nI (t / 256)) (nI (t / 16 % 16)) (nI (t % 16)) (nI v) := by
  have hK0 : ¬ (t / 256 < L ∧ tp_go L (ops (t / 256)) (nums (t / 256)) (t / 256) (t / 16 % 16) (t % 16)) → tp_K ops nums L t = 0 := fun z => tp_if_f z
  refine yw_after0 hL rfl rfl ht (Nat.mod_lt _ (by omega)) (Nat.mod_lt _ (by omega)) hv (fun n9 => hv9.elim id (fun z => absurd z n9)) (fun nt ng => h1 (tp_F0_n nt ng) (hK0 (fun z => ng z.2))) (fun tr => h2 (tp_F0_t ht tr) (hK0 (fun z => z.2.1 tr)) ?_) (fun g => ?_)
  · rcases hv9 with z | z
    · exact z
    · rcases tr with y | y
      · exact absurd (z.symm.trans y.1) (by decide)
      · exact absurd (z.symm.trans y.1) (by decide)
  · have hF : tp_F ops nums L t = nI (tp_f ops nums t) := tp_F0_g ht g
    have hlt : tp_f ops nums t + v < 4096 ∧ v < tp_K ops nums L t := by
      have hKe : tp_K ops nums L t = tp_if (ops (t / 256) = 9) 16 1 := tp_if_t ⟨ht, g⟩
      have hvK : v < tp_K ops nums L t := by
        rw [hKe]
        by_cases e : ops (t / 256) = 9
        · rw [tp_if_t e]; exact hv
        · rw [tp_if_f e, hv9.elim id (fun z => absurd z e)]; omega
      have := (tp_wf (ops := ops) (nums := nums) (L := L) (lx := 0) (gx := 0) (ly := 0) (gy := 0) hL).2 t v hvK
      exact ⟨by omega, hvK⟩
    exact h3 hF hlt.2 hlt.1
end
end
section
/-! the reference goes on from a state, a round, and taking -/
section
variable {sz kn en : Int32} {ops nums lws hgs al la fd ev fi tr : Nat → Int32} {L : Nat}
theorem yw_26 {post : SY → Prop} {J : Int32 → Int32 → (Nat → Int32) → (Nat → Int32) → (Nat → Int32) → (Nat → Int32) → (Nat → Int32) → (Nat → Int32) → (Nat → Int32) → (Nat → Int32) → (Nat → Int32) → (Nat → Int32) → Prop} {Z Fd A : Nat → Prop} {t v : Nat} (hL : L ≤ 16) (ht : t / 256 < L) (h4 : t < 4096) (hv : v < 16) (hv9 : v = 0 ∨ ops (t / 256) = 9) (hA : tp_S al A) (hZ : ¬ Z t)
    (hI : tp_YZ (tp_F ops nums L) (tp_Zv Z t v) (tp_Nv Fd A (tp_K ops nums L) (tp_f ops nums) t v) fd tr en)
    (hJ : ∀ fd' tr' en', tp_YZ (tp_F ops nums L) (tp_Zv Z t (v + 1)) (tp_Nv Fd A (tp_K ops nums L) (tp_f ops nums) t (v + 1)) fd' tr' en' → J (nI (v + 1)) en' ops nums lws hgs al la fd' ev fi tr') :
    wY_goOn_26 post J (nI (t / 256)) (nI (t / 16 % 16)) (nI (t % 16)) (nI v) (nI L) kn en ops nums lws hgs al la fd ev fi tr := by
  unfold wY_goOn_26
  refine yw_after hL ht hv hv9 (fun hF hK => ?_) (fun hF hK hv0 => ?_) (fun hF hK hs => ?_)
  · refine br_f (by decide) (br_t rfl (tp_n1 (hJ _ _ _ ?_)))
    exact tp_YZ_e (tp_YZ_end hI hF) (fun s => tp_Zv_s s) (fun s _ => tp_Nv_k (by omega) s)
  · have hin : vp_in (nI (t / 256)) 16 := vp_in_nI (by omega) (by omega)
    have hcl : (nI (t / 256)).toNatClampNeg = t / 256 := nI_clamp (by omega)
    rw [hcl]
    refine br_t rfl ⟨hin, hin, nm_e (tp_n1 (hJ _ _ _ ?_))⟩
    have hZ' : ¬ tp_Zv Z t v t := by
      rintro (z | z)
      · exact hZ z
      · have := z.2; omega
    exact tp_YZ_e (tp_YZ_trap hI hF hZ' h4) (fun s => tp_Zv_s s) (fun s _ => tp_Nv_k (by omega) s)
  · obtain ⟨k1, k2, -⟩ := tp_nIneg (n := tp_f ops nums t + v) (by omega)
    obtain ⟨j1, j2, -⟩ := tp_nIneg (n := tp_f ops nums t) (by omega)
    refine br_f k2 (br_f k1 ?_)
    have e1 : nI (tp_f ops nums t + v) / 16 = nI ((tp_f ops nums t + v) / 16) := pk_div (d := 16) (by omega) (by omega) (by omega)
    have e2 : nI (tp_f ops nums t + v) - nI (tp_f ops nums t + v) / 16 * 16 = nI ((tp_f ops nums t + v) % 16) := pk_rem (d := 16) (by omega) (by omega) (by omega)
    have hcl : (nI ((tp_f ops nums t + v) / 16)).toNatClampNeg = (tp_f ops nums t + v) / 16 := nI_clamp (by omega)
    have hin : vp_in (nI ((tp_f ops nums t + v) / 16)) 256 := vp_in_nI (by omega) (by omega)
    rw [e2, e1, hcl]
    refine ⟨by decide, nm_e ⟨by decide, by decide, hin, by decide, hin, hin, nm_e (tp_n1 (hJ _ _ _ ?_))⟩⟩
    exact tp_YZ_e (tp_YZ_no (tp_YZ_fd hI hA hs) (by rw [hF]; exact j1) (by rw [hF]; exact j2)) (fun s => tp_Zv_s s) (fun s _ => tp_Nv_s hK s)
theorem yw_go_l {post : SY → Prop} {Z Fd A : Nat → Prop} {t : Nat} (hL : L ≤ 16) (ht : t / 256 < L) (h4 : t < 4096) (hA : tp_S al A) (hZ : ¬ Z t)
    (hp : ∀ fd' tr' en', tp_YZ (tp_F ops nums L) (tp_Zv Z t 16) (tp_Nv Fd A (tp_K ops nums L) (tp_f ops nums) t 16) fd' tr' en' → post (nI L, kn, en', ops, nums, lws, hgs, al, la, fd', ev, fi, tr')) :
    ∀ (e v n : Nat) (fd tr : Nat → Int32) (en : Int32), v + e = 16 → e < n → tp_YZ (tp_F ops nums L) (tp_Zv Z t v) (tp_Nv Fd A (tp_K ops nums L) (tp_f ops nums) t v) fd tr en → wY_goOn_3 post (nI (t / 256)) (nI (t / 16 % 16)) (nI (t % 16)) (nI L) kn n (nI v) en ops nums lws hgs al la fd ev fi tr := by
  intro e
  induction e with
  | zero =>
    intro v n fd tr en hv hn hI
    obtain ⟨n, rfl⟩ : ∃ m, n = m + 1 := ⟨n - 1, by omega⟩
    have e : v = 16 := by omega
    subst e
    exact br_t (nI_le (a := 16) (b := 16) (by omega) (by omega)) (hp _ _ _ hI)
  | succ e ih =>
    intro v n fd tr en hv hn hI
    obtain ⟨n, rfl⟩ : ∃ m, n = m + 1 := ⟨n - 1, by omega⟩
    have hin : vp_in (nI (t / 256)) 16 := vp_in_nI (by omega) (by omega)
    have hcl : (nI (t / 256)).toNatClampNeg = t / 256 := nI_clamp (by omega)
    refine br_f (nI_ge (b := 16) (a := v) (by omega) (by omega)) (pk_eq v 0 (fun e0 => ?_) (fun n0 => ⟨hin, ?_⟩))
    · exact yw_26 hL ht h4 (by omega) (Or.inl e0) hA hZ hI (fun fd' tr' en' hI' => ih (v + 1) n fd' tr' en' (by omega) (by omega) hI')
    · rw [hcl]
      refine br_c (fun e9 => ?_) (fun n9 => tp_n1 ?_)
      · exact yw_26 hL ht h4 (by omega) (Or.inr e9) hA hZ hI (fun fd' tr' en' hI' => ih (v + 1) n fd' tr' en' (by omega) (by omega) hI')
      · have hK : tp_K ops nums L t ≤ v := by
          rcases tp_Fc (ops := ops) (nums := nums) hL t with h | h | h
          · rw [h.2]; omega
          · rw [h.2.1]; omega
          · rcases h.2.2.2.1 with z | z
            · exact absurd z.1 n9
            · rw [z.2]; omega
        exact ih (v + 1) n fd tr en (by omega) (by omega) (tp_YZ_e hI (fun s => tp_Zv_k (by omega) s) (fun s _ => tp_Nv_k hK s))
theorem yw_K16 (hL : L ≤ 16) (t : Nat) : tp_K ops nums L t ≤ 16 := by
  rcases tp_Fc (ops := ops) (nums := nums) hL t with h | h | h
  · rw [h.2]; omega
  · rw [h.2.1]; omega
  · rcases h.2.2.2.1 with z | z <;> rw [z.2] <;> omega
theorem yw_goOn {post : SY → Prop} {Z Fd A : Nat → Prop} {t : Nat} (hL : L ≤ 16) (ht : t / 256 < L) (h4 : t < 4096) (hA : tp_S al A) (hZ : ¬ Z t) (hI : tp_YZ (tp_F ops nums L) Z Fd fd tr en)
    (hp : ∀ fd' tr' en', tp_YZ (tp_F ops nums L) (fun s => Z s ∨ s = t) (fun s => Fd s ∨ (¬ A s ∧ tp_E (tp_K ops nums L) (tp_f ops nums) t s)) fd' tr' en' → post (nI L, kn, en', ops, nums, lws, hgs, al, la, fd', ev, fi, tr')) :
    wpY_goOn post (nI L, kn, en, ops, nums, lws, hgs, al, la, fd, ev, fi, tr) (nI (t / 256)) (nI (t / 16 % 16)) (nI (t % 16)) :=
  ⟨17, yw_go_l hL ht h4 hA hZ (fun fd' tr' en' hI' => hp fd' tr' en' (tp_YZ_e hI' (fun s => tp_Zv_x s) (fun s _ => tp_Nv_x (yw_K16 hL t) s))) 16 0 17 fd tr en (by omega) (by omega) (tp_YZ_e hI (fun s => tp_Zv_0 s) (fun s _ => tp_Nv_0 s))⟩
theorem yw_rd_in {post : SY → Prop} {J : Int32 → Int32 → Int32 → Int32 → (Nat → Int32) → (Nat → Int32) → (Nat → Int32) → (Nat → Int32) → (Nat → Int32) → (Nat → Int32) → (Nat → Int32) → (Nat → Int32) → (Nat → Int32) → (Nat → Int32) → Prop} {B : Nat → Prop} {i m : Nat} (hL : L ≤ 16) (W : tp_Wf L B (tp_K ops nums L) (tp_f ops nums)) (hi : i < 256) (hA : tp_S al (tp_A B (tp_K ops nums L) (tp_f ops nums) m)) (hD : tp_S la (fun s => tp_D B (tp_K ops nums L) (tp_f ops nums) s m))
    (hJ : ∀ fd' tr' en', tp_YZ (tp_F ops nums L) (tp_Zc B (tp_K ops nums L) (tp_f ops nums) m (16 * (i + 1))) (tp_Nc B (tp_K ops nums L) (tp_f ops nums) m (16 * (i + 1))) fd' tr' en' → J (nI (i + 1)) (nI L) kn en' ops nums lws hgs al la fd' ev fi tr') :
    ∀ (e y n : Nat) (fd tr : Nat → Int32) (en : Int32), y + e = 16 → e < n → tp_YZ (tp_F ops nums L) (tp_Zc B (tp_K ops nums L) (tp_f ops nums) m (16 * i + y)) (tp_Nc B (tp_K ops nums L) (tp_f ops nums) m (16 * i + y)) fd tr en → wY_round_33 post J (nI i) n (nI y) (nI L) kn en ops nums lws hgs al la fd ev fi tr := by
  intro e
  induction e with
  | zero =>
    intro y n fd tr en hy hn hI
    obtain ⟨n, rfl⟩ : ∃ m, n = m + 1 := ⟨n - 1, by omega⟩
    have e : y = 16 := by omega
    subst e
    exact br_t (nI_le (a := 16) (b := 16) (by omega) (by omega)) (tp_n1 (hJ _ _ _ hI))
  | succ e ih =>
    intro y n fd tr en hy hn hI
    obtain ⟨n, rfl⟩ : ∃ m, n = m + 1 := ⟨n - 1, by omega⟩
    have hy' : y < 16 := by omega
    have hcl : (nI i).toNatClampNeg = i := nI_clamp (by omega)
    have e1 : nI i / 16 = nI (i / 16) := pk_div (d := 16) (by omega) (by omega) (by omega)
    have e2 : nI i - nI i / 16 * 16 = nI (i % 16) := pk_rem (d := 16) (by omega) (by omega) (by omega)
    refine br_f (nI_ge (b := 16) (a := y) hy' (by omega)) ⟨vp_in_nI hi (by omega), ?_⟩
    rw [hcl, e2, e1]
    refine ek_if (tp_M_bit (hD i hi) hy') (fun hd => ⟨by decide, by decide, ?_⟩) (fun hd => tp_n1 ?_)
    · have hlt := tp_D_lt hL W hd
      have hl2 := tp_R_lt W hd.1
      have g := yw_goOn (post := fun u => match u with | (sz', kn', en', ops', nums', lws', hgs', al', la', fd', ev', fi', tr') => (∀ x2 : Int32, x2 = nI y + 1 → (wY_round_33 post J (nI i) n x2 sz' kn' en' ops' nums' lws' hgs' al' la' fd' ev' fi' tr'))) (kn := kn) (lws := lws) (hgs := hgs) (la := la) (ev := ev) (fi := fi) (t := 16 * i + y) hL (by omega) (by omega) hA (tp_Zc_n hd) hI (fun fd' tr' en' hI' => tp_n1 (ih (y + 1) n fd' tr' en' (by omega) (by omega) (tp_YZ_e hI' (fun s => tp_Zc_s hd s) (fun s _ => tp_Nc_s hd s))))
      rw [show (16 * i + y) / 256 = i / 16 by omega, show (16 * i + y) / 16 % 16 = i % 16 by omega, show (16 * i + y) % 16 = y by omega] at g
      exact g
    · exact ih (y + 1) n fd tr en (by omega) (by omega) (tp_YZ_e hI (fun s => tp_Zc_k hd s) (fun s _ => tp_Nc_k hd s))
theorem yw_rd_out {post : SY → Prop} {B : Nat → Prop} {m : Nat} (hL : L ≤ 16) (W : tp_Wf L B (tp_K ops nums L) (tp_f ops nums)) (hA : tp_S al (tp_A B (tp_K ops nums L) (tp_f ops nums) m)) (hD : tp_S la (fun s => tp_D B (tp_K ops nums L) (tp_f ops nums) s m))
    (hp : ∀ fd' tr' en', tp_YZ (tp_F ops nums L) (tp_Zc B (tp_K ops nums L) (tp_f ops nums) m 4096) (tp_Nc B (tp_K ops nums L) (tp_f ops nums) m 4096) fd' tr' en' → post (nI L, kn, en', ops, nums, lws, hgs, al, la, fd', ev, fi, tr')) :
    ∀ (e i n : Nat) (fd tr : Nat → Int32) (en : Int32), i + e = 256 → e < n → tp_YZ (tp_F ops nums L) (tp_Zc B (tp_K ops nums L) (tp_f ops nums) m (16 * i)) (tp_Nc B (tp_K ops nums L) (tp_f ops nums) m (16 * i)) fd tr en → wY_round_24 post n (nI i) (nI L) kn en ops nums lws hgs al la fd ev fi tr := by
  intro e
  induction e with
  | zero =>
    intro i n fd tr en hi hn hI
    obtain ⟨n, rfl⟩ : ∃ m, n = m + 1 := ⟨n - 1, by omega⟩
    have e : i = 256 := by omega
    subst e
    exact br_t (nI_le (a := 256) (b := 256) (by omega) (by omega)) (hp _ _ _ hI)
  | succ e ih =>
    intro i n fd tr en hi hn hI
    obtain ⟨n, rfl⟩ : ∃ m, n = m + 1 := ⟨n - 1, by omega⟩
    refine br_f (nI_ge (b := 256) (a := i) (by omega) (by omega)) ⟨17, ?_⟩
    exact yw_rd_in hL W (by omega) hA hD (fun fd' tr' en' hI' => ih (i + 1) n fd' tr' en' (by omega) (by omega) hI') 16 0 17 fd tr en (by omega) (by omega) hI
theorem yw_rd_0 {post : SY → Prop} (hp : ∀ fd', (∀ i, i < 256 → fd' i = 0) → ∃ n, wY_round_24 post n 0 sz kn en ops nums lws hgs al la fd' ev fi tr) :
    ∀ (e i n : Nat) (fd : Nat → Int32), i + e = 256 → e < n → (∀ k, k < i → fd k = 0) → wY_round_2 post sz kn en n (nI i) ops nums lws hgs al la fd ev fi tr := by
  intro e
  induction e with
  | zero =>
    intro i n fd hi hn hI
    obtain ⟨n, rfl⟩ : ∃ m, n = m + 1 := ⟨n - 1, by omega⟩
    have e : i = 256 := by omega
    subst e
    exact br_t (nI_le (a := 256) (b := 256) (by omega) (by omega)) (hp fd hI)
  | succ e ih =>
    intro i n fd hi hn hI
    obtain ⟨n, rfl⟩ : ∃ m, n = m + 1 := ⟨n - 1, by omega⟩
    refine br_f (nI_ge (b := 256) (a := i) (by omega) (by omega)) ⟨vp_in_nI (by omega) (by omega), tp_nu (by omega) (tp_n1 ?_)⟩
    refine ih (i + 1) n _ (by omega) (by omega) (fun k hk => ?_)
    by_cases e : k = i
    · subst e; rw [pk_us]
    · rw [pk_un e]; exact hI k (by omega)
theorem yw_round {post : SY → Prop} {B : Nat → Prop} {m : Nat} (hL : L ≤ 16) (W : tp_Wf L B (tp_K ops nums L) (tp_f ops nums)) (h : tp_YS B (tp_K ops nums L) (tp_f ops nums) (tp_F ops nums L) m al la fi tr en)
    (hp : ∀ fd' tr' en', tp_YZ (tp_F ops nums L) (tp_A B (tp_K ops nums L) (tp_f ops nums) m) (fun s => tp_D B (tp_K ops nums L) (tp_f ops nums) s (m + 1)) fd' tr' en' → post (nI L, kn, en', ops, nums, lws, hgs, al, la, fd', ev, fi, tr')) : wpY_round post (nI L, kn, en, ops, nums, lws, hgs, al, la, fd, ev, fi, tr) := by
  refine ⟨257, yw_rd_0 (fun fd' h0 => ⟨257, ?_⟩) 256 0 257 fd (by omega) (by omega) (fun k hk => absurd hk (Nat.not_lt_zero _))⟩
  exact yw_rd_out hL W h.1 h.2.1 (fun fd2 tr2 en2 hI => hp fd2 tr2 en2 (tp_YZ_e hI (fun s => tp_Zc_x hL W s) (fun s _ => tp_Nc_x hL W s))) 256 0 257 fd' tr en (by omega) (by omega) (tp_YS_r h h0)
/-- while taking: rows below i are taken -/
def yw_T (A Fd : Nat → Prop) (fst0 : Nat → Int32) (m i : Nat) (al la fi : Nat → Int32) (any : Int32) : Prop :=
  tp_S al (fun s => A s ∨ (Fd s ∧ s / 16 < i)) ∧ (∀ k, k < i → tp_M (la k) k Fd) ∧ tp_YF fst0 fi Fd m i ∧ any = nI (tp_b (∃ s, s < 16 * i ∧ Fd s))
theorem yw_T_al {A Fd : Nat → Prop} {i : Nat} (hi : i < 256) (h : tp_S al (fun s => A s ∨ (Fd s ∧ s / 16 < i))) (hf : tp_S fd Fd) : tp_S (upd al i (al i ||| fd i)) (fun s => A s ∨ (Fd s ∧ s / 16 < i + 1)) := by
  refine tp_S_u h hi (tp_M_e (tp_M_or (h i hi) (hf i hi)) (fun j hj => ⟨fun z => ?_, fun z => ?_⟩)) (fun s hs => ⟨fun z => z.elim Or.inl (fun y => Or.inr ⟨y.1, by have := y.2; omega⟩), fun z => z.elim Or.inl (fun y => Or.inr ⟨y.1, by have := y.2; omega⟩)⟩)
  · rcases z with (z | z) | z
    · exact Or.inl z
    · exact Or.inr ⟨z.1, by omega⟩
    · exact Or.inr ⟨z, by omega⟩
  · rcases z with z | z
    · exact Or.inl (Or.inl z)
    · exact Or.inr z.1
theorem yw_T_la {Fd : Nat → Prop} {i : Nat} (hi : i < 256) (h : ∀ k, k < i → tp_M (la k) k Fd) (hf : tp_S fd Fd) : ∀ k, k < i + 1 → tp_M (upd la i (fd i) k) k Fd := by
  intro k hk
  by_cases e : k = i
  · subst e; rw [pk_us]; exact hf k hi
  · rw [pk_un e]; exact h k (by omega)
theorem yw_tk_l {post : Int32 → SY → Prop} {A Fd : Nat → Prop} {fst0 : Nat → Int32} {m : Nat} (hm : m < 2 ^ 31) (hf : tp_S fd Fd)
    (hp : ∀ al' la' fi' any, yw_T A Fd fst0 m 256 al' la' fi' any → post any (sz, kn, en, ops, nums, lws, hgs, al', la', fd, ev, fi', tr)) :
    ∀ (e i n : Nat) (al la fi : Nat → Int32) (any : Int32), i + e = 256 → e < n → yw_T A Fd fst0 m i al la fi any → wY_take_4 post (nI m) sz kn en n any (nI i) ops nums lws hgs al la fd ev fi tr := by
  intro e
  induction e with
  | zero =>
    intro i n al la fi any hi hn hI
    obtain ⟨n, rfl⟩ : ∃ m, n = m + 1 := ⟨n - 1, by omega⟩
    have e : i = 256 := by omega
    subst e
    refine br_t (nI_le (a := 256) (b := 256) (by omega) (by omega)) ⟨?_, hp _ _ _ _ hI⟩
    rw [hI.2.2.2]
    by_cases z : ∃ s, s < 16 * 256 ∧ Fd s
    · rw [tp_b1 z]; rfl
    · rw [tp_b0 z]; rfl
  | succ e ih =>
    intro i n al la fi any hi hn hI
    obtain ⟨n, rfl⟩ : ∃ m, n = m + 1 := ⟨n - 1, by omega⟩
    have h256 : i < 256 := by omega
    have hcl : (nI i).toNatClampNeg = i := nI_clamp (by omega)
    have e1 : nI i / 16 = nI (i / 16) := pk_div (d := 16) (by omega) (by omega) (by omega)
    have hcl2 : (nI (i / 16)).toNatClampNeg = i / 16 := nI_clamp (by omega)
    have hin : vp_in (nI i) 256 := vp_in_nI h256 (by omega)
    have hin2 : vp_in (nI (i / 16)) 16 := vp_in_nI (by omega) (by omega)
    refine br_f (nI_ge (b := 256) h256 (by omega)) ?_
    rw [hcl, e1, hcl2]
    refine ⟨hin, hin, hin, nm_e ⟨hin, hin, nm_e ⟨hin, ?_⟩⟩⟩
    refine br_c (fun e0 => tp_n1 ?_) (fun n0 => ⟨by decide, hin2, br_c (fun e5 => ⟨by decide, hin2, nm_e (tp_n1 ?_)⟩) (fun n5 => tp_n1 ?_)⟩)
    · have hno := (tp_M_z (hf i h256)).mp e0
      refine ih (i + 1) n _ _ _ _ (by omega) (by omega) ⟨yw_T_al h256 hI.1 hf, yw_T_la h256 hI.2.1 hf, tp_YF_n hI.2.2.1 hno, ?_⟩
      rw [hI.2.2.2]
      refine congrArg nI (tp_be ⟨fun ⟨s, h1, h2⟩ => ⟨s, by omega, h2⟩, fun ⟨s, h1, h2⟩ => ⟨s, ?_, h2⟩⟩)
      rcases Nat.lt_or_ge s (16 * i) with z | z
      · exact z
      · have e : s = 16 * i + (s - 16 * i) := by omega
        rw [e] at h2
        exact absurd h2 (hno _ (by omega))
    · obtain ⟨j, hj, hFd⟩ : ∃ j, j < 16 ∧ Fd (16 * i + j) := Classical.byContradiction (fun z => n0 ((tp_M_z (hf i h256)).mpr (fun j hj hs => z ⟨j, hj, hs⟩)))
      refine ih (i + 1) n _ _ _ _ (by omega) (by omega) ⟨yw_T_al h256 hI.1 hf, yw_T_la h256 hI.2.1 hf, tp_YF_s hm hj hI.2.2.1 hFd e5, ?_⟩
      rw [tp_b1 ⟨16 * i + j, by omega, hFd⟩]; rfl
    · obtain ⟨j, hj, hFd⟩ : ∃ j, j < 16 ∧ Fd (16 * i + j) := Classical.byContradiction (fun z => n0 ((tp_M_z (hf i h256)).mpr (fun j hj hs => z ⟨j, hj, hs⟩)))
      refine ih (i + 1) n _ _ _ _ (by omega) (by omega) ⟨yw_T_al h256 hI.1 hf, yw_T_la h256 hI.2.1 hf, tp_YF_k hj hI.2.2.1 hFd n5, ?_⟩
      rw [tp_b1 ⟨16 * i + j, by omega, hFd⟩]; rfl
theorem yw_take {post : Int32 → SY → Prop} {A Fd : Nat → Prop} {m : Nat} (hm : m < 2 ^ 31) (hA : tp_S al A) (hf : tp_S fd Fd) (h4 : ∀ s, Fd s → s < 4096)
    (hp : ∀ al' la' fi', tp_S al' (fun s => A s ∨ Fd s) → tp_S la' Fd → tp_YF fi fi' Fd m 256 → post (nI (tp_b (∃ s, Fd s))) (sz, kn, en, ops, nums, lws, hgs, al', la', fd, ev, fi', tr)) : wpY_take post (sz, kn, en, ops, nums, lws, hgs, al, la, fd, ev, fi, tr) (nI m) := by
  refine ⟨257, yw_tk_l (A := A) (fst0 := fi) hm hf (fun al' la' fi' any hT => ?_) 256 0 257 al la fi 0 (by omega) (by omega) ⟨tp_S_e hA (fun s _ => ⟨Or.inl, fun z => z.elim id (fun y => absurd y.2 (Nat.not_lt_zero _))⟩), fun k hk => absurd hk (Nat.not_lt_zero _), tp_YF_0 _ _ _, ?_⟩⟩
  · have e : any = nI (tp_b (∃ s, Fd s)) := by
      rw [hT.2.2.2]
      exact congrArg nI (tp_be ⟨fun ⟨s, _, h2⟩ => ⟨s, h2⟩, fun ⟨s, h2⟩ => ⟨s, by have := h4 s h2; omega, h2⟩⟩)
    rw [e]
    refine hp al' la' fi' (tp_S_e hT.1 (fun s hs => ⟨fun z => z.elim Or.inl (fun y => Or.inr y.1), fun z => z.elim Or.inl (fun y => Or.inr ⟨y, by omega⟩)⟩)) (fun i hi => hT.2.1 i hi) hT.2.2.1
  · rw [tp_b0 (fun ⟨s, h1, _⟩ => by omega)]; rfl
end
end
section
/-! the reference: the states that go on for ever -/
section
variable {sz kn en : Int32} {ops nums lws hgs al la fd ev fi tr : Nat → Int32} {L : Nat}
/-- the mask of row i when the values below y are through -/
def yw_Ky (K f : Nat → Nat) (g : Nat → Prop) (y s : Nat) : Prop := (g s ∧ tp_Cl K f g s) ∧ s % 16 < y
/-- and v values of the next one -/
def yw_Kv (K f : Nat → Nat) (g : Nat → Prop) (t y v s : Nat) : Prop := yw_Ky K f g y s ∨ (s = t ∧ g s ∧ ∃ k, k < v ∧ k < K t ∧ g (f t + k))
theorem yw_Kv_0 {K f : Nat → Nat} {g : Nat → Prop} {t y s : Nat} : yw_Ky K f g y s ↔ yw_Kv K f g t y 0 s :=
  ⟨Or.inl, fun h => h.elim id (fun ⟨_, _, _, z, _⟩ => absurd z (Nat.not_lt_zero _))⟩
theorem yw_Kv_x {K f : Nat → Nat} {g : Nat → Prop} {i y j : Nat} (hK : K (16 * i + y) ≤ 16) (hy : y < 16) (hj : j < 16) : yw_Kv K f g (16 * i + y) y 16 (16 * i + j) ↔ yw_Ky K f g (y + 1) (16 * i + j) := by
  constructor
  · rintro (⟨h1, h2⟩ | ⟨h1, h2, k, h3, h4, h5⟩)
    · exact ⟨h1, by omega⟩
    · rw [h1] at h2 ⊢
      exact ⟨⟨h2, k, h4, h5⟩, by omega⟩
  · rintro ⟨⟨h1, k, h3, h4⟩, h2⟩
    rcases Nat.lt_or_ge ((16 * i + j) % 16) y with z | z
    · exact Or.inl ⟨⟨h1, k, h3, h4⟩, z⟩
    · have e : 16 * i + j = 16 * i + y := by omega
      rw [e] at h1 h3 h4 ⊢
      exact Or.inr ⟨rfl, h1, k, by omega, h3, h4⟩
theorem yw_Kv_k {K f : Nat → Nat} {g : Nat → Prop} {t y v s : Nat} (h : ¬ (g t ∧ v < K t)) : yw_Kv K f g t y v s ↔ yw_Kv K f g t y (v + 1) s := by
  refine ⟨fun z => z.elim Or.inl (fun ⟨h1, h2, k, h3, h4⟩ => Or.inr ⟨h1, h2, k, by omega, h4⟩), fun z => z.elim Or.inl (fun ⟨h1, h2, k, h3, h4, h5⟩ => Or.inr ⟨h1, h2, k, ?_, h4, h5⟩)⟩
  rcases Nat.lt_or_ge k v with y | y
  · exact y
  · rw [h1] at h2
    exact absurd ⟨h2, by omega⟩ h
theorem yw_Kv_s {K f : Nat → Nat} {g : Nat → Prop} {t y v s : Nat} (hg : g t) (hK : v < K t) : (yw_Kv K f g t y v s ∨ (s = t ∧ g (f t + v))) ↔ yw_Kv K f g t y (v + 1) s := by
  constructor
  · rintro ((h | ⟨h1, h2, k, h3, h4⟩) | ⟨h1, h2⟩)
    · exact Or.inl h
    · exact Or.inr ⟨h1, h2, k, by omega, h4⟩
    · exact Or.inr ⟨h1, by rw [h1]; exact hg, v, by omega, hK, h2⟩
  · rintro (h | ⟨h1, h2, k, h3, h4, h5⟩)
    · exact Or.inl (Or.inl h)
    · rcases Nat.lt_or_ge k v with z | z
      · exact Or.inl (Or.inr ⟨h1, h2, k, z, h4, h5⟩)
      · have e : k = v := by omega
        subst e
        exact Or.inr ⟨h1, h5⟩
theorem yw_k53 {post : Int32 → Prop} {J4 J13 : Int32 → Int32 → Prop} {g : Nat → Prop} {i y v : Nat} {m : Int32} (hL : L ≤ 16) (hi : i < 256) (hy : y < 16) (hv : v < 16) (hg : g (16 * i + y)) (hl : (16 * i + y) / 256 < L) (hv9 : v = 0 ∨ ops (i / 16) = 9) (hS : tp_S ev g)
    (hM : tp_M m i (yw_Kv (tp_K ops nums L) (tp_f ops nums) g (16 * i + y) y v)) (hJ : ∀ m', tp_M m' i (yw_Kv (tp_K ops nums L) (tp_f ops nums) g (16 * i + y) y (v + 1)) → J13 m' (nI (v + 1))) : wY_kept_53 post J4 J13 (nI i) m (nI y) (nI v) (nI L) kn en ops nums lws hgs al la fd ev fi tr := by
  have e1 : nI i / 16 = nI ((16 * i + y) / 256) := by
    rw [show (16 * i + y) / 256 = i / 16 by omega]
    exact pk_div (d := 16) (by omega) (by omega) (by omega)
  have e2 : nI i - nI i / 16 * 16 = nI ((16 * i + y) / 16 % 16) := by
    rw [show (16 * i + y) / 16 % 16 = i % 16 by omega]
    exact pk_rem (d := 16) (by omega) (by omega) (by omega)
  have e3 : nI y = nI ((16 * i + y) % 16) := by rw [show (16 * i + y) % 16 = y by omega]
  unfold wY_kept_53
  refine ⟨by decide, by decide, ?_⟩
  rw [e2, e1]
  have g2 : wpY_after (fun r_10 => (((r_10 < 0 → (∀ x4_25 : Int32, x4_25 = nI v + 1 → (J13 m x4_25))) ∧ (¬ r_10 < 0 → (¬ (16 : Int32) = 0 ∧ (vp_in (r_10 / 16) 256 ∧ (¬ (16 : Int32) = 0 ∧ (∀ x2_29 : Int32, x2_29 = m ||| ((((ev (r_10 / 16).toNatClampNeg) >>> ((r_10 - r_10 / 16 * 16) &&& 31)) &&& 1) <<< (nI y &&& 31)) → (∀ x4_30 : Int32, x4_30 = nI v + 1 → (J13 x2_29 x4_30)))))))))) (nI L, kn, en, ops, nums, lws, hgs, al, la, fd, ev, fi, tr) (nI ((16 * i + y) / 256)) (nI ((16 * i + y) / 16 % 16)) (nI ((16 * i + y) % 16)) (nI v) := by
    refine yw_after hL hl hv (by rw [show (16 * i + y) / 256 = i / 16 by omega]; exact hv9) (fun hF hK => ?_) (fun hF hK _ => ?_) (fun hF hK hs => ?_)
    · exact br_t (by decide) (tp_n1 (hJ m (tp_M_e hM (fun j hj => yw_Kv_k (fun z => by omega)))))
    · exact br_t (by decide) (tp_n1 (hJ m (tp_M_e hM (fun j hj => yw_Kv_k (fun z => by omega)))))
    · have d1 : nI (tp_f ops nums (16 * i + y) + v) / 16 = nI ((tp_f ops nums (16 * i + y) + v) / 16) := pk_div (d := 16) (by omega) (by omega) (by omega)
      have d2 : nI (tp_f ops nums (16 * i + y) + v) - nI (tp_f ops nums (16 * i + y) + v) / 16 * 16 = nI ((tp_f ops nums (16 * i + y) + v) % 16) := pk_rem (d := 16) (by omega) (by omega) (by omega)
      have hcl : (nI ((tp_f ops nums (16 * i + y) + v) / 16)).toNatClampNeg = (tp_f ops nums (16 * i + y) + v) / 16 := nI_clamp (by omega)
      refine br_f (nI_pos (by omega)) ?_
      rw [d2, d1, hcl, tp_S_b hS hs]
      refine ⟨by decide, vp_in_nI (by omega) (by omega), by decide, nm_e (tp_n1 (hJ _ ?_))⟩
      exact tp_M_e (tp_M_or hM (tp_M_k hy i _)) (fun j hj => yw_Kv_s hg hK)
  rw [← e3] at g2
  exact g2
theorem yw_k13 {post : Int32 → Prop} {J4 : Int32 → Int32 → Prop} {g : Nat → Prop} {i y : Nat} (hL : L ≤ 16) (hi : i < 256) (hy : y < 16) (hl : g (16 * i + y) → (16 * i + y) / 256 < L) (hS : tp_S ev g)
    (hJ : ∀ m', tp_M m' i (yw_Ky (tp_K ops nums L) (tp_f ops nums) g (y + 1)) → J4 m' (nI (y + 1))) :
    ∀ (e v n : Nat) (m : Int32), v + e = 16 → e < n → tp_M m i (yw_Kv (tp_K ops nums L) (tp_f ops nums) g (16 * i + y) y v) → wY_kept_13 post J4 (nI i) (nI y) (nI L) kn en ops nums lws hgs al la fd ev fi tr n m (nI v) := by
  intro e
  induction e with
  | zero =>
    intro v n m hv hn hI
    obtain ⟨n, rfl⟩ : ∃ m, n = m + 1 := ⟨n - 1, by omega⟩
    have e : v = 16 := by omega
    subst e
    exact br_t (nI_le (a := 16) (b := 16) (by omega) (by omega)) (tp_n1 (hJ m (tp_M_e hI (fun j hj => yw_Kv_x (yw_K16 hL _) hy hj))))
  | succ e ih =>
    intro v n m hv hn hI
    obtain ⟨n, rfl⟩ : ∃ m, n = m + 1 := ⟨n - 1, by omega⟩
    have hcl : (nI i).toNatClampNeg = i := nI_clamp (by omega)
    have e1 : nI i / 16 = nI (i / 16) := pk_div (d := 16) (by omega) (by omega) (by omega)
    have hcl2 : (nI (i / 16)).toNatClampNeg = i / 16 := nI_clamp (by omega)
    refine br_f (nI_ge (b := 16) (a := v) (by omega) (by omega)) ⟨vp_in_nI hi (by omega), ?_⟩
    rw [hcl, e1, hcl2]
    refine ek_if (tp_M_bit (hS i hi) hy) (fun hg => pk_eq v 0 (fun e0 => ?_) (fun n0 => ⟨by decide, vp_in_nI (by omega) (by omega), br_c (fun e9 => ?_) (fun n9 => tp_n1 ?_)⟩)) (fun hg => tp_n1 ?_)
    · exact yw_k53 hL hi hy (by omega) hg (hl hg) (Or.inl e0) hS hI (fun m' hm' => ih (v + 1) n m' (by omega) (by omega) hm')
    · exact yw_k53 hL hi hy (by omega) hg (hl hg) (Or.inr e9) hS hI (fun m' hm' => ih (v + 1) n m' (by omega) (by omega) hm')
    · have hK : tp_K ops nums L (16 * i + y) ≤ v := by
        rcases tp_Fc (ops := ops) (nums := nums) hL (16 * i + y) with h | h | h
        · rw [h.2]; omega
        · rw [h.2.1]; omega
        · rcases h.2.2.2.1 with z | z
          · have z1 := z.1
            rw [show (16 * i + y) / 256 = i / 16 by omega] at z1
            exact absurd z1 n9
          · rw [z.2]; omega
      exact ih (v + 1) n m (by omega) (by omega) (tp_M_e hI (fun j hj => yw_Kv_k (fun z => by omega)))
    · exact ih (v + 1) n m (by omega) (by omega) (tp_M_e hI (fun j hj => yw_Kv_k (fun z => hg z.1)))
theorem yw_k4 {post : Int32 → Prop} {g : Nat → Prop} {i : Nat} (hL : L ≤ 16) (hi : i < 256) (hl : ∀ s, g s → s / 256 < L) (hS : tp_S ev g)
    (hp : ∀ m', tp_M m' i (fun s => g s ∧ tp_Cl (tp_K ops nums L) (tp_f ops nums) g s) → post m') :
    ∀ (e y n : Nat) (m : Int32), y + e = 16 → e < n → tp_M m i (yw_Ky (tp_K ops nums L) (tp_f ops nums) g y) → wY_kept_4 post (nI i) (nI L) kn en ops nums lws hgs al la fd ev fi tr n m (nI y) := by
  intro e
  induction e with
  | zero =>
    intro y n m hv hn hI
    obtain ⟨n, rfl⟩ : ∃ m, n = m + 1 := ⟨n - 1, by omega⟩
    have e : y = 16 := by omega
    subst e
    exact br_t (nI_le (a := 16) (b := 16) (by omega) (by omega)) (hp m (tp_M_e hI (fun j hj => ⟨fun z => z.1, fun z => ⟨z, by omega⟩⟩)))
  | succ e ih =>
    intro y n m hv hn hI
    obtain ⟨n, rfl⟩ : ∃ m, n = m + 1 := ⟨n - 1, by omega⟩
    refine br_f (nI_ge (b := 16) (a := y) (by omega) (by omega)) ⟨17, ?_⟩
    exact yw_k13 hL hi (by omega) (hl _) hS (fun m' hm' => ih (y + 1) n m' (by omega) (by omega) hm') 16 0 17 m (by omega) (by omega) (tp_M_e hI (fun j hj => yw_Kv_0))
theorem yw_kept {post : Int32 → Prop} {g : Nat → Prop} {i : Nat} (hL : L ≤ 16) (hi : i < 256) (hl : ∀ s, g s → s / 256 < L) (hS : tp_S ev g)
    (hp : ∀ m', tp_M m' i (fun s => g s ∧ tp_Cl (tp_K ops nums L) (tp_f ops nums) g s) → post m') : wpY_kept post (nI L, kn, en, ops, nums, lws, hgs, al, la, fd, ev, fi, tr) (nI i) :=
  ⟨17, yw_k4 hL hi hl hS hp 16 0 17 0 (by omega) (by omega) (tp_M_0 (fun j hj z => Nat.not_lt_zero _ z.2))⟩
def yw_I3 (B : Nat → Prop) (K f : Nat → Nat) (ev : Nat → Int32) (d : Int32) (g : Nat → Prop) (r i : Nat) : Prop :=
  tp_YG B K f ev g ∧ tp_Dr K f g r d (fun s => s < 16 * i)
theorem yw_fe_in {post : SY → Prop} {J : Int32 → Int32 → (Nat → Int32) → (Nat → Int32) → (Nat → Int32) → (Nat → Int32) → (Nat → Int32) → (Nat → Int32) → (Nat → Int32) → (Nat → Int32) → (Nat → Int32) → (Nat → Int32) → Prop} {B : Nat → Prop} {r : Nat} (hL : L ≤ 16) (W : tp_Wf L B (tp_K ops nums L) (tp_f ops nums))
    (hJ : ∀ ev' d' g', yw_I3 B (tp_K ops nums L) (tp_f ops nums) ev' d' g' r 256 → J d' (nI (r + 1)) ops nums lws hgs al la fd ev' fi tr) :
    ∀ (e i n : Nat) (ev : Nat → Int32) (d : Int32) (g : Nat → Prop), i + e = 256 → e < n → yw_I3 B (tp_K ops nums L) (tp_f ops nums) ev d g r i → wY_goOnForEver_46 post J (nI r) (nI L) kn en n d (nI i) ops nums lws hgs al la fd ev fi tr := by
  intro e
  induction e with
  | zero =>
    intro i n ev d g hi hn hI
    obtain ⟨n, rfl⟩ : ∃ m, n = m + 1 := ⟨n - 1, by omega⟩
    have e : i = 256 := by omega
    subst e
    exact br_t (nI_le (a := 256) (b := 256) (by omega) (by omega)) (tp_n1 (hJ ev d g hI))
  | succ e ih =>
    intro i n ev d g hi hn hI
    obtain ⟨n, rfl⟩ : ∃ m, n = m + 1 := ⟨n - 1, by omega⟩
    have h256 : i < 256 := by omega
    have hcl : (nI i).toNatClampNeg = i := nI_clamp (by omega)
    have hin : vp_in (nI i) 256 := vp_in_nI h256 (by omega)
    refine br_f (nI_ge (b := 256) h256 (by omega)) ?_
    rw [hcl]
    refine yw_kept hL h256 (fun s hs => by have := tp_P_lt W (hI.1.1 s hs); omega) hI.1.2.2 (fun m hm => ⟨hin, br_c (fun ee => tp_n1 ?_) (fun ne => ⟨hin, nm_e (tp_n1 ?_)⟩)⟩)
    · refine ih (i + 1) n ev d g (by omega) (by omega) ⟨hI.1, tp_Dr_k hI.2 (fun s hs hgs => ?_)⟩
      rcases Nat.lt_or_ge s (16 * i) with z | z
      · exact Or.inl z
      · exact Or.inr (tp_YG_k hI.1 h256 hm ee s (by omega) hgs)
    · obtain ⟨y1, y2⟩ := tp_YG_d hI.1 h256 hm ne
      exact ih (i + 1) n _ _ _ (by omega) (by omega) ⟨y1, tp_Dr_d _ hI.2 y2⟩
theorem yw_fe_out {post : SY → Prop} {B : Nat → Prop} (hL : L ≤ 16) (W : tp_Wf L B (tp_K ops nums L) (tp_f ops nums)) (hp : ∀ ev', tp_S ev' (tp_G B (tp_K ops nums L) (tp_f ops nums)) → post (nI L, kn, en, ops, nums, lws, hgs, al, la, fd, ev', fi, tr)) :
    ∀ (e r n : Nat) (ev : Nat → Int32) (d : Int32) (g : Nat → Prop), r + e = 4097 → e < n → tp_YG B (tp_K ops nums L) (tp_f ops nums) ev g → tp_Hd (tp_K ops nums L) (tp_f ops nums) g r d → wY_goOnForEver_31 post (nI L) kn en n d (nI r) ops nums lws hgs al la fd ev fi tr := by
  have fin : ∀ (ev : Nat → Int32) (g : Nat → Prop), tp_YG B (tp_K ops nums L) (tp_f ops nums) ev g → (∀ s, g s → tp_Cl (tp_K ops nums L) (tp_f ops nums) g s) → post (nI L, kn, en, ops, nums, lws, hgs, al, la, fd, ev, fi, tr) :=
    fun ev g h1 h2 => hp ev (tp_S_e h1.2.2 (fun s _ => ⟨fun hs => tp_G_all h1.1 h2 hs, h1.2.1 s⟩))
  intro e
  induction e with
  | zero =>
    intro r n ev d g hr hn hI hH
    obtain ⟨n, rfl⟩ : ∃ m, n = m + 1 := ⟨n - 1, by omega⟩
    have e : r = 4097 := by omega
    subst e
    exact br_t (nI_le (a := 4097) (b := 4097) (by omega) (by omega)) (fin ev g hI (tp_Hd_x hH))
  | succ e ih =>
    intro r n ev d g hr hn hI hH
    obtain ⟨n, rfl⟩ : ∃ m, n = m + 1 := ⟨n - 1, by omega⟩
    refine br_f (nI_ge (b := 4097) (a := r) (by omega) (by omega)) (br_c (fun e0 => ?_) (fun n0 => ⟨257, ?_⟩))
    · subst e0
      exact fin ev g hI (tp_Hd_0 hH)
    · exact yw_fe_in hL W (fun ev' d' g' hI' => ih (r + 1) n ev' d' g' (by omega) (by omega) hI'.1 (tp_Dr_e hI'.2 (fun s hs => by have := tp_P_lt W (hI'.1.1 s hs); omega))) 256 0 257 ev 0 g (by omega) (by omega) ⟨hI, Or.inl ⟨rfl, tp_Hd_1 hH n0, fun s hs => absurd hs (Nat.not_lt_zero _)⟩⟩
theorem yw_fe_0 {post : SY → Prop} (hp : ∀ ev', (∀ i, i < 256 → ev' i = al i) → ∃ n, wY_goOnForEver_31 post sz kn en n 1 0 ops nums lws hgs al la fd ev' fi tr) :
    ∀ (e i n : Nat) (ev : Nat → Int32), i + e = 256 → e < n → (∀ k, k < i → ev k = al k) → wY_goOnForEver_2 post sz kn en n (nI i) ops nums lws hgs al la fd ev fi tr := by
  intro e
  induction e with
  | zero =>
    intro i n ev hi hn hI
    obtain ⟨n, rfl⟩ : ∃ m, n = m + 1 := ⟨n - 1, by omega⟩
    have e : i = 256 := by omega
    subst e
    exact br_t (nI_le (a := 256) (b := 256) (by omega) (by omega)) (hp ev hI)
  | succ e ih =>
    intro i n ev hi hn hI
    obtain ⟨n, rfl⟩ : ∃ m, n = m + 1 := ⟨n - 1, by omega⟩
    have hcl : (nI i).toNatClampNeg = i := nI_clamp (by omega)
    have hin : vp_in (nI i) 256 := vp_in_nI (by omega) (by omega)
    refine br_f (nI_ge (b := 256) (a := i) (by omega) (by omega)) ?_
    rw [hcl]
    refine ⟨hin, hin, nm_e (tp_n1 (ih (i + 1) n _ (by omega) (by omega) (fun k hk => ?_)))⟩
    by_cases e : k = i
    · subst e; rw [pk_us]
    · rw [pk_un e]; exact hI k (by omega)
theorem yw_fe {post : SY → Prop} {B : Nat → Prop} (hL : L ≤ 16) (W : tp_Wf L B (tp_K ops nums L) (tp_f ops nums)) (hA : tp_S al (tp_P B (tp_K ops nums L) (tp_f ops nums))) (hp : ∀ ev', tp_S ev' (tp_G B (tp_K ops nums L) (tp_f ops nums)) → post (nI L, kn, en, ops, nums, lws, hgs, al, la, fd, ev', fi, tr)) : wpY_goOnForEver post (nI L, kn, en, ops, nums, lws, hgs, al, la, fd, ev, fi, tr) := by
  refine ⟨257, yw_fe_0 (fun ev' h => ⟨4098, ?_⟩) 256 0 257 ev (by omega) (by omega) (fun k hk => absurd hk (Nat.not_lt_zero _))⟩
  refine yw_fe_out hL W hp 4097 0 4098 ev' 1 (tp_P B (tp_K ops nums L) (tp_f ops nums)) (by omega) (by omega) ⟨fun s hs => hs, fun s hs => tp_G_P hs, fun i hi => by rw [h i hi]; exact hA i hi⟩ (Or.inl ⟨rfl, ?_⟩)
  exact tp_cn_le _ _ _
end
end
section
/-! the reference's work -/
section
variable {sz kn en : Int32} {ops nums lws hgs al la fd ev fi tr : Nat → Int32} {L a b c d : Nat}
theorem yw_153 {post : SY → Prop} {B : Nat → Prop} (hL : L ≤ 16) (W : tp_Wf L B (tp_K ops nums L) (tp_f ops nums))
    (hp : ∀ en' al' la' fd' ev' fi' tr', tp_YK L B (tp_K ops nums L) (tp_f ops nums) (tp_F ops nums L) al' fi' tr' ev' en' → post (nI L, kn, en', ops, nums, lws, hgs, al', la', fd', ev', fi', tr')) :
    ∀ (e m n : Nat) (en more : Int32) (al la fd fi tr : Nat → Int32), m + e = 4097 → e < n → tp_YS B (tp_K ops nums L) (tp_f ops nums) (tp_F ops nums L) m al la fi tr en → more = nI (tp_b (∃ s, tp_D B (tp_K ops nums L) (tp_f ops nums) s m)) → ((∃ s, tp_D B (tp_K ops nums L) (tp_f ops nums) s m) → m + 1 ≤ tp_cn (tp_A B (tp_K ops nums L) (tp_f ops nums) m) 0 4096) → wY_workOut_153 post n more (nI (m + 1)) (nI L) kn en ops nums lws hgs al la fd ev fi tr := by
  have fin : ∀ (m : Nat) (en : Int32) (al la fd fi tr : Nat → Int32), tp_YS B (tp_K ops nums L) (tp_f ops nums) (tp_F ops nums L) m al la fi tr en → (∀ s, ¬ tp_D B (tp_K ops nums L) (tp_f ops nums) s m) → wY_workOut_180 post (nI L) kn en ops nums lws hgs al la fd ev fi tr := by
    intro m en al la fd fi tr h hn
    obtain ⟨x1, x2, x3, x4⟩ := tp_YS_x h hn
    unfold wY_workOut_180
    exact yw_fe hL W x1 (fun ev' hG => hp _ _ _ _ _ _ _ ⟨x1, x2, x3, hG, x4⟩)
  intro e
  induction e with
  | zero =>
    intro m n en more al la fd fi tr hm hn hS hmo hc
    obtain ⟨n, rfl⟩ : ∃ m, n = m + 1 := ⟨n - 1, by omega⟩
    have e : m = 4097 := by omega
    subst e
    refine br_t (nI_lt (a := 4097) (b := 4098) (by omega) (by omega)) (fin _ _ _ _ _ _ _ hS (fun s hs => ?_))
    have h1 := hc ⟨s, hs⟩
    have h2 := tp_cn_le (tp_A B (tp_K ops nums L) (tp_f ops nums) 4097) 0 4096
    omega
  | succ e ih =>
    intro m n en more al la fd fi tr hm hn hS hmo hc
    obtain ⟨n, rfl⟩ : ∃ m, n = m + 1 := ⟨n - 1, by omega⟩
    refine br_f (Int32.not_lt.mpr (nI_le (a := m + 1) (b := 4097) (by omega) (by omega))) (br_c (fun e0 => fin _ _ _ _ _ _ _ hS (fun s hs => ?_)) (fun n0 => ?_))
    · rw [tp_b1 ⟨s, hs⟩] at hmo
      rw [hmo] at e0
      exact absurd e0 (by decide)
    · have hD : ∃ s, tp_D B (tp_K ops nums L) (tp_f ops nums) s m := by
        refine Classical.byContradiction (fun z => n0 ?_)
        rw [hmo, tp_b0 z]
        rfl
      refine yw_round hL W hS (fun fd' tr' en' hz => ?_)
      refine yw_take (m := m + 1) (A := tp_A B (tp_K ops nums L) (tp_f ops nums) m) (by omega) hS.1 hz.1 (fun s hs => tp_D_lt hL W hs) (fun al' la' fi' a1 a2 a3 => tp_n1 ?_)
      exact ih (m + 1) n en' _ al' la' fd' fi' tr' (by omega) (by omega) (tp_YS_s hL W (by omega) hS hz a1 a2 a3) rfl (fun hD' => tp_cA_s hL W hD' (hc hD))
/-- beginnings found so far -/
def yw_Bx (B : Nat → Prop) (x y s : Nat) : Prop := B s ∧ (s / 16 < x ∨ (s / 16 = x ∧ s % 16 < y))
theorem yw_100 {post : SY → Prop} {J : Int32 → (Nat → Int32) → (Nat → Int32) → (Nat → Int32) → (Nat → Int32) → (Nat → Int32) → (Nat → Int32) → (Nat → Int32) → (Nat → Int32) → (Nat → Int32) → (Nat → Int32) → Prop} {x : Nat} (hL : L ≤ 16) (hb : b < 16) (hd : d < 16) (hax : a ≤ x) (hxb : x ≤ b) (h1 : hgs 1 = nI d)
    (hJ : ∀ fd', tp_S fd' (yw_Bx (tp_B L a b c d) (x + 1) 0) → J (nI (x + 1)) ops nums lws hgs al la fd' ev fi tr) :
    ∀ (e y n : Nat) (fd : Nat → Int32), y + e = d + 1 → e < n → c ≤ y → tp_S fd (yw_Bx (tp_B L a b c d) x y) → wY_workOut_100 post J (nI x) (nI L) kn en n (nI y) ops nums lws hgs al la fd ev fi tr := by
  intro e
  induction e with
  | zero =>
    intro y n fd hy hn hcy hI
    obtain ⟨n, rfl⟩ : ∃ m, n = m + 1 := ⟨n - 1, by omega⟩
    refine pk_lt d y (fun _ => tp_n1 (hJ fd (tp_S_e hI (fun s _ => ⟨fun ⟨z1, z2⟩ => ⟨z1, Or.inl (by omega)⟩, fun ⟨z1, z2⟩ => ⟨z1, ?_⟩⟩)))) (fun h => by omega) h1
    have h6 := z1.2.2.2.2.2
    omega
  | succ e ih =>
    intro y n fd hy hn hcy hI
    obtain ⟨n, rfl⟩ : ∃ m, n = m + 1 := ⟨n - 1, by omega⟩
    have hcl : (nI x).toNatClampNeg = x := nI_clamp (by omega)
    have hin : vp_in (nI x) 256 := vp_in_nI (by omega) (by omega)
    refine pk_lt d y (fun h => by omega) (fun _ => pk_le L 0 (fun hL0 => tp_n1 ?_) (fun hL0 => ?_)) h1
    · refine ih (y + 1) n fd (by omega) (by omega) (by omega) (tp_S_e hI (fun s _ => ⟨fun z => ?_, fun z => ?_⟩))
      · have := z.1.1; omega
      · have := z.1.1; omega
    · rw [hcl]
      refine ⟨hin, hin, nm_e (tp_n1 (ih (y + 1) n _ (by omega) (by omega) (by omega) ?_))⟩
      refine tp_S_u hI (by omega) (tp_M_e (tp_M_or (hI x (by omega)) (tp_M_1 (y := y) (by omega) x)) (fun j hj => ⟨fun z => ?_, fun z => ?_⟩)) (fun s hs => ⟨fun ⟨z1, z2⟩ => ⟨z1, by omega⟩, fun ⟨z1, z2⟩ => ⟨z1, by omega⟩⟩)
      · rcases z with ⟨z1, z2⟩ | z
        · exact ⟨z1, by omega⟩
        · refine ⟨⟨hL0, by omega, by omega, by omega, by omega, by omega⟩, by omega⟩
      · obtain ⟨z1, z2⟩ := z
        by_cases e : j = y
        · exact Or.inr (by omega)
        · exact Or.inl ⟨z1, by omega⟩
theorem yw_83 {post : SY → Prop} (hL : L ≤ 16) (hb : b < 16) (hcd : c ≤ d) (hd : d < 16) (h0 : hgs 0 = nI b) (h1 : hgs 1 = nI d) (l1 : lws 1 = nI c)
    (hal : ∀ i, i < 256 → al i = 0) (hfi : ∀ p, p < 16 → fi p = -5) (htr : ∀ p, p < 16 → tr p = 0)
    (hp : ∀ en' al' la' fd' ev' fi' tr', tp_YK L (tp_B L a b c d) (tp_K ops nums L) (tp_f ops nums) (tp_F ops nums L) al' fi' tr' ev' en' → post (nI L, kn, en', ops, nums, lws, hgs, al', la', fd', ev', fi', tr')) :
    ∀ (e x n : Nat) (fd : Nat → Int32), x + e = b + 1 → e < n → a ≤ x → tp_S fd (yw_Bx (tp_B L a b c d) x 0) → wY_workOut_83 post (nI L) kn 0 n (nI x) ops nums lws hgs al la fd ev fi tr := by
  have W : tp_Wf L (tp_B L a b c d) (tp_K ops nums L) (tp_f ops nums) := tp_wf hL
  intro e
  induction e with
  | zero =>
    intro x n fd hx hn hax hI
    obtain ⟨n, rfl⟩ : ∃ m, n = m + 1 := ⟨n - 1, by omega⟩
    have hf : tp_S fd (tp_B L a b c d) := tp_S_e hI (fun s _ => ⟨fun z => z.1, fun z => ⟨z, Or.inl (by have := z.2.2.2.1; omega)⟩⟩)
    refine pk_lt b x (fun _ => ?_) (fun h => by omega) h0
    refine yw_take (m := 0) (A := fun _ => False) (by omega) (fun i hi => by rw [hal i hi]; exact tp_M_0 (fun j _ z => z)) hf (fun s hs => by have := hs.2.1; omega) (fun al' la' fi' a1 a2 a3 => ⟨4099, ?_⟩)
    have hD : (∃ s, (tp_B L a b c d) s) ↔ ∃ s, tp_D (tp_B L a b c d) (tp_K ops nums L) (tp_f ops nums) s 0 := ⟨fun ⟨s, z⟩ => ⟨s, tp_D_0.mpr z⟩, fun ⟨s, z⟩ => ⟨s, tp_D_0.mp z⟩⟩
    exact yw_153 hL W hp 4097 0 4099 _ _ al' la' fd fi' tr (by omega) (by omega) (tp_YS_0 hL W htr rfl hfi (tp_S_e a1 (fun s _ => ⟨fun z => z.elim False.elim id, Or.inr⟩)) a2 a3) (congrArg nI (tp_be hD)) (fun z => tp_cA_0 hL W z)
  | succ e ih =>
    intro x n fd hx hn hax hI
    obtain ⟨n, rfl⟩ : ∃ m, n = m + 1 := ⟨n - 1, by omega⟩
    refine pk_lt b x (fun h => by omega) (fun _ => nm_r l1 ⟨18, ?_⟩) h0
    refine yw_100 hL hb hd hax (by omega) h1 (fun fd' hI' => ih (x + 1) n fd' (by omega) (by omega) (by omega) hI') (d + 1 - c) c 18 fd (by omega) (by omega) (by omega) (tp_S_e hI (fun s _ => ⟨fun ⟨z1, z2⟩ => ⟨z1, by omega⟩, fun ⟨z1, z2⟩ => ⟨z1, ?_⟩⟩))
    have h5 := z1.2.2.2.2.1
    omega
theorem yw_49 {post : SY → Prop} {x0 : Int32} (hx : lws 0 = x0) (hp : ∀ fi' tr', (∀ p, p < 16 → fi' p = -5) → (∀ p, p < 16 → tr' p = 0) → ∃ n, wY_workOut_83 post sz kn en n x0 ops nums lws hgs al la fd ev fi' tr') :
    ∀ (e i n : Nat) (fi tr : Nat → Int32), i + e = 16 → e < n → (∀ p, p < i → fi p = -5) → (∀ p, p < i → tr p = 0) → wY_workOut_49 post sz kn en n (nI i) ops nums lws hgs al la fd ev fi tr := by
  intro e
  induction e with
  | zero =>
    intro i n fi tr hi hn h1 h2
    obtain ⟨n, rfl⟩ : ∃ m, n = m + 1 := ⟨n - 1, by omega⟩
    have e : i = 16 := by omega
    subst e
    exact br_t (nI_le (a := 16) (b := 16) (by omega) (by omega)) (nm_r hx (hp fi tr h1 h2))
  | succ e ih =>
    intro i n fi tr hi hn h1 h2
    obtain ⟨n, rfl⟩ : ∃ m, n = m + 1 := ⟨n - 1, by omega⟩
    have hin : vp_in (nI i) 16 := vp_in_nI (by omega) (by omega)
    refine br_f (nI_ge (b := 16) (a := i) (by omega) (by omega)) ⟨hin, tp_nu (by omega) ⟨hin, tp_nu (by omega) (tp_n1 (ih (i + 1) n _ _ (by omega) (by omega) (fun k hk => ?_) (fun k hk => ?_)))⟩⟩
    · by_cases e : k = i
      · subst e; rw [pk_us]
      · rw [pk_un e]; exact h1 k (by omega)
    · by_cases e : k = i
      · subst e; rw [pk_us]
      · rw [pk_un e]; exact h2 k (by omega)
theorem yw_20 {post : SY → Prop} (hp : ∀ al' fd', (∀ i, i < 256 → al' i = 0) → (∀ i, i < 256 → fd' i = 0) → ∃ n, wY_workOut_49 post sz kn en n 0 ops nums lws hgs al' la fd' ev fi tr) :
    ∀ (e i n : Nat) (al fd : Nat → Int32), i + e = 256 → e < n → (∀ p, p < i → al p = 0) → (∀ p, p < i → fd p = 0) → wY_workOut_20 post sz kn en n (nI i) ops nums lws hgs al la fd ev fi tr := by
  intro e
  induction e with
  | zero =>
    intro i n al fd hi hn h1 h2
    obtain ⟨n, rfl⟩ : ∃ m, n = m + 1 := ⟨n - 1, by omega⟩
    have e : i = 256 := by omega
    subst e
    exact br_t (nI_le (a := 256) (b := 256) (by omega) (by omega)) (hp al fd h1 h2)
  | succ e ih =>
    intro i n al fd hi hn h1 h2
    obtain ⟨n, rfl⟩ : ∃ m, n = m + 1 := ⟨n - 1, by omega⟩
    have hin : vp_in (nI i) 256 := vp_in_nI (by omega) (by omega)
    refine br_f (nI_ge (b := 256) (a := i) (by omega) (by omega)) ⟨hin, tp_nu (by omega) ⟨hin, tp_nu (by omega) (tp_n1 (ih (i + 1) n _ _ (by omega) (by omega) (fun k hk => ?_) (fun k hk => ?_)))⟩⟩
    · by_cases e : k = i
      · subst e; rw [pk_us]
      · rw [pk_un e]; exact h1 k (by omega)
    · by_cases e : k = i
      · subst e; rw [pk_us]
      · rw [pk_un e]; exact h2 k (by omega)
theorem yw_work {post : SY → Prop} (hL : L ≤ 16) (hab : a ≤ b) (hb : b < 16) (hcd : c ≤ d) (hd : d < 16) (l0 : lws 0 = nI a) (h0 : hgs 0 = nI b) (l1 : lws 1 = nI c) (h1 : hgs 1 = nI d) (hk : kn = 0 ∨ tp_YK L (tp_B L a b c d) (tp_K ops nums L) (tp_f ops nums) (tp_F ops nums L) al fi tr ev en)
    (hp : ∀ kn' en' al' la' fd' ev' fi' tr', tp_YK L (tp_B L a b c d) (tp_K ops nums L) (tp_f ops nums) (tp_F ops nums L) al' fi' tr' ev' en' → post (nI L, kn', en', ops, nums, lws, hgs, al', la', fd', ev', fi', tr')) : wpY_workOut post (nI L, kn, en, ops, nums, lws, hgs, al, la, fd, ev, fi, tr) := by
  unfold wpY_workOut
  dsimp only
  refine br_c (fun e0 => ⟨257, yw_20 (fun al' fd' z1 z2 => ⟨17, ?_⟩) 256 0 257 al fd (by omega) (by omega) (fun p hp => absurd hp (Nat.not_lt_zero _)) (fun p hp => absurd hp (Nat.not_lt_zero _))⟩) (fun n0 => ?_)
  · refine yw_49 l0 (fun fi' tr' z3 z4 => ⟨18, ?_⟩) 16 0 17 fi tr (by omega) (by omega) (fun p hp => absurd hp (Nat.not_lt_zero _)) (fun p hp => absurd hp (Nat.not_lt_zero _))
    refine yw_83 (a := a) (b := b) (c := c) (d := d) hL hb hcd hd h0 h1 l1 z1 z3 z4 (fun en' al' la' fd' ev' fi' tr' h => hp _ _ _ _ _ _ _ _ h) (b + 1 - a) a 18 fd' (by omega) (by omega) (by omega) (fun i hi => ?_)
    rw [z2 i hi]
    refine tp_M_0 (fun j hj z => ?_)
    obtain ⟨z1, z2⟩ := z
    have := z1.2.2.1
    omega
  · rcases hk with h | h
    · exact absurd h n0
    · exact hp _ _ _ _ _ _ _ _ h
end
end
section
/-! the reference's questions -/
section
variable {sz kn en : Int32} {ops nums lws hgs al la fd ev fi tr : Nat → Int32} {L a b c d : Nat}
def yR (L a b c d : Nat) (ops nums : Nat → Int32) (v : SY) : Prop :=
  ∃ (kn en : Int32) (lws hgs al la fd ev fi tr : Nat → Int32), v = (nI L, kn, en, ops, nums, lws, hgs, al, la, fd, ev, fi, tr) ∧ (lws 0 = nI a ∧ hgs 0 = nI b ∧ lws 1 = nI c ∧ hgs 1 = nI d) ∧ (kn = 0 ∨ tp_YK L (tp_B L a b c d) (tp_K ops nums L) (tp_f ops nums) (tp_F ops nums L) al fi tr ev en)
/-- the bounds that hold for every state -/
def tp_Bd (L a b c d : Nat) : Prop := L ≤ 16 ∧ a ≤ b ∧ b < 16 ∧ c ≤ d ∧ d < 16
theorem yq_wo {post : SY → Prop} {v : SY} (hB : tp_Bd L a b c d) (hv : yR L a b c d ops nums v)
    (hp : ∀ kn' en' lws' hgs' al' la' fd' ev' fi' tr', tp_YK L (tp_B L a b c d) (tp_K ops nums L) (tp_f ops nums) (tp_F ops nums L) al' fi' tr' ev' en' → yR L a b c d ops nums (nI L, kn', en', ops, nums, lws', hgs', al', la', fd', ev', fi', tr') → post (nI L, kn', en', ops, nums, lws', hgs', al', la', fd', ev', fi', tr')) : wpY_workOut post v := by
  obtain ⟨kn, en, lws, hgs, al, la, fd, ev, fi, tr, rfl, ⟨h1, h2, h3, h4⟩, hk⟩ := hv
  obtain ⟨hL, hab, hb, hcd, hd⟩ := hB
  exact yw_work hL hab hb hcd hd h1 h2 h3 h4 hk (fun kn' en' al' la' fd' ev' fi' tr' h => hp _ _ _ _ _ _ _ _ _ _ h ⟨_, _, _, _, _, _, _, _, _, _, rfl, ⟨h1, h2, h3, h4⟩, Or.inr h⟩)
theorem yw_cnt_l {post : Int32 → Prop} {m : Int32} {i : Nat} {S : Nat → Prop} (hM : tp_M m i S) (h : post (nI (tp_cn S (16 * i) 16))) :
    ∀ (e j n : Nat), j + e = 16 → e < n → wY_count_4 post m sz kn en ops nums lws hgs al la fd ev fi tr n (nI (tp_cn S (16 * i) j)) (nI j) := by
  intro e
  induction e with
  | zero =>
    intro j n hj hn
    obtain ⟨n, rfl⟩ : ∃ m, n = m + 1 := ⟨n - 1, by omega⟩
    have e : j = 16 := by omega
    subst e
    exact br_t (nI_le (a := 16) (b := 16) (by omega) (by omega)) h
  | succ e ih =>
    intro j n hj hn
    obtain ⟨n, rfl⟩ : ∃ m, n = m + 1 := ⟨n - 1, by omega⟩
    refine br_f (nI_ge (b := 16) (a := j) (by omega) (by omega)) (nm_r ?_ (tp_n1 (ih (j + 1) n (by omega) (by omega))))
    rw [tp_M_val hM (by omega), nI_add, ← tp_cn_s]
theorem yw_cnt {post : Int32 → Prop} {m : Int32} {i : Nat} {S : Nat → Prop} (hM : tp_M m i S) (h : post (nI (tp_cn S (16 * i) 16))) : wpY_count post (sz, kn, en, ops, nums, lws, hgs, al, la, fd, ev, fi, tr) m :=
  ⟨17, yw_cnt_l hM h 16 0 17 (by omega) (by omega)⟩
theorem yw_ix {q x : Nat} : nI q * 16 + nI x = nI (16 * q + x) := by
  rw [show (16 : Int32) = nI 16 from rfl, pk_mul, nI_add, Nat.mul_comm]
theorem yw_states_l {post : Int32 → SY → Prop} {P : Nat → Prop} {q : Nat} (hq : q < 16) (hS : tp_S al P) (hp : post (nI (tp_cn P (256 * q) 256)) (sz, kn, en, ops, nums, lws, hgs, al, la, fd, ev, fi, tr)) :
    ∀ (e x n : Nat), x + e = 16 → e < n → wY_states_19 post (nI q) sz kn en ops nums lws hgs al la fd ev fi tr n (nI (tp_cn P (256 * q) (16 * x))) (nI x) := by
  intro e
  induction e with
  | zero =>
    intro x n hx hn
    obtain ⟨n, rfl⟩ : ∃ m, n = m + 1 := ⟨n - 1, by omega⟩
    have e : x = 16 := by omega
    subst e
    exact br_t (nI_le (a := 16) (b := 16) (by omega) (by omega)) hp
  | succ e ih =>
    intro x n hx hn
    obtain ⟨n, rfl⟩ : ∃ m, n = m + 1 := ⟨n - 1, by omega⟩
    refine br_f (nI_ge (b := 16) (a := x) (by omega) (by omega)) ?_
    rw [yw_ix, nI_clamp (by omega)]
    refine ⟨vp_in_nI (by omega) (by omega), yw_cnt (hS (16 * q + x) (by omega)) (nm_r ?_ (tp_n1 (ih (x + 1) n (by omega) (by omega))))⟩
    rw [nI_add, show 16 * (x + 1) = 16 * x + 16 by omega, tp_cn_a, show 16 * (16 * q + x) = 256 * q + 16 * x by omega]
theorem yq_states {post : Int32 → SY → Prop} {v : SY} {p : Int32} (hB : tp_Bd L a b c d) (hv : yR L a b c d ops nums v)
    (h3 : (∀ q, q < L → ¬ p = nI q) → post (-3) v) (hp : ∀ q, q < L → p = nI q → ∀ v', yR L a b c d ops nums v' → post (nI (tp_cn (tp_P (tp_B L a b c d) (tp_K ops nums L) (tp_f ops nums)) (256 * q) 256)) v') : wpY_states post v p := by
  have hv' := hv
  obtain ⟨kn, en, lws, hgs, al, la, fd, ev, fi, tr, rfl, -⟩ := hv'
  unfold wpY_states
  dsimp only
  refine yw_bad hB.1 (fun q hq e => br_t rfl ?_) (fun hn => br_f (by decide) (h3 hn))
  refine yq_wo hB hv (fun kn' en' lws' hgs' al' la' fd' ev' fi' tr' hk hy => ?_)
  subst e
  have hL := hB.1
  exact ⟨17, yw_states_l (by omega) hk.1 (hp q hq rfl _ hy) 16 0 17 (by omega) (by omega)⟩
theorem yq_possible {post : Int32 → SY → Prop} {v : SY} {p x y : Int32} (hB : tp_Bd L a b c d) (hv : yR L a b c d ops nums v)
    (h0 : ¬ (∃ q i j, q < L ∧ i < 16 ∧ j < 16 ∧ p = nI q ∧ x = nI i ∧ y = nI j) → post 0 v) (hp : ∀ q i j, q < L → i < 16 → j < 16 → p = nI q → x = nI i → y = nI j → ∀ v', yR L a b c d ops nums v' → post (nI (tp_b ((tp_P (tp_B L a b c d) (tp_K ops nums L) (tp_f ops nums)) (256 * q + 16 * i + j)))) v') : wpY_possible post v p x y := by
  have hv' := hv
  obtain ⟨kn, en, lws, hgs, al, la, fd, ev, fi, tr, rfl, -⟩ := hv'
  have hL := hB.1
  unfold wpY_possible
  dsimp only
  refine yw_bad hL (fun q hq e => br_t rfl ?_) (fun hn => br_f (by decide) (h0 (fun ⟨q, i, j, h1, h2, h3, h4, h5, h6⟩ => hn q h1 h4)))
  rcases pk_ix x (n := 16) (by omega) with hx | hx | ⟨i, hi, ei⟩
  · refine br_t hx (h0 (fun ⟨q, i, j, h1, h2, h3, h4, h5, h6⟩ => ?_))
    subst h5
    exact nI_pos (by omega) hx
  · have hx0 : ¬ x < 0 := Int32.not_lt.mpr (Int32.le_trans (by decide) hx)
    have hx1 : (15 : Int32) < x := Int32.lt_of_lt_of_le (by decide) hx
    refine br_f hx0 (br_t hx1 (h0 (fun ⟨q, i, j, h1, h2, h3, h4, h5, h6⟩ => ?_)))
    subst h5
    exact nI_ge (b := 16) h2 (by omega) hx
  subst ei
  refine br_f (nI_pos (by omega)) (br_f (Int32.not_lt.mpr (nI_le (a := i) (b := 15) (by omega) (by omega))) ?_)
  rcases pk_ix y (n := 16) (by omega) with hy | hy | ⟨j, hj, ej⟩
  · refine br_t hy (h0 (fun ⟨q, i, j, h1, h2, h3, h4, h5, h6⟩ => ?_))
    subst h6
    exact nI_pos (by omega) hy
  · have hy0 : ¬ y < 0 := Int32.not_lt.mpr (Int32.le_trans (by decide) hy)
    have hy1 : ¬ y ≤ 15 := Int32.not_le.mpr (Int32.lt_of_lt_of_le (by decide) hy)
    refine br_f hy0 (br_f hy1 (h0 (fun ⟨q, i, j, h1, h2, h3, h4, h5, h6⟩ => ?_)))
    subst h6
    exact nI_ge (b := 16) h3 (by omega) hy
  subst ej
  refine br_f (nI_pos (by omega)) (br_t (nI_le (a := j) (b := 15) (by omega) (by omega)) ?_)
  refine yq_wo hB hv (fun kn' en' lws' hgs' al' la' fd' ev' fi' tr' hk hy => ?_)
  subst e
  have hpp := hp q i j hq hi hj rfl rfl rfl _ hy
  show vp_in (nI q * 16 + nI i) 256 ∧ _
  rw [yw_ix, nI_clamp (by omega)]
  refine ⟨vp_in_nI (by omega) (by omega), ek_if (tp_M_bit (hk.1 (16 * q + i) (by omega)) hj) (fun h => ?_) (fun h => ?_)⟩
  · rw [show 16 * (16 * q + i) + j = 256 * q + 16 * i + j by omega] at h
    rw [tp_b1 h] at hpp
    exact hpp
  · rw [show 16 * (16 * q + i) + j = 256 * q + 16 * i + j by omega] at h
    rw [tp_b0 h] at hpp
    exact hpp
theorem yw_vals_l {post : Int32 → SY → Prop} {P : Nat → Prop} {q : Nat} {rg : Int32} (hq : q < 16) (hS : tp_S al P) (hx : ∀ m, rg = 0 → tp_V m (tp_Yx P q 16) → post m (sz, kn, en, ops, nums, lws, hgs, al, la, fd, ev, fi, tr)) (hy : ∀ m, ¬ rg = 0 → tp_V m (tp_Yy P q 16) → post m (sz, kn, en, ops, nums, lws, hgs, al, la, fd, ev, fi, tr)) :
    ∀ (e x n : Nat) (m1 m2 : Int32), x + e = 16 → e < n → tp_V m1 (tp_Yx P q x) → tp_V m2 (tp_Yy P q x) → wY_values_35 post (nI q) rg sz kn en ops nums lws hgs al la fd ev fi tr n m1 m2 (nI x) := by
  intro e
  induction e with
  | zero =>
    intro x n m1 m2 hx' hn h1 h2
    obtain ⟨n, rfl⟩ : ∃ m, n = m + 1 := ⟨n - 1, by omega⟩
    have e : x = 16 := by omega
    subst e
    exact br_t (nI_le (a := 16) (b := 16) (by omega) (by omega)) (br_c (fun z => hx _ z h1) (fun z => hy _ z h2))
  | succ e ih =>
    intro x n m1 m2 hx' hn h1 h2
    obtain ⟨n, rfl⟩ : ∃ m, n = m + 1 := ⟨n - 1, by omega⟩
    have hin : vp_in (nI (16 * q + x)) 256 := vp_in_nI (by omega) (by omega)
    have hM := hS (16 * q + x) (by omega)
    refine br_f (nI_ge (b := 16) (a := x) (by omega) (by omega)) ?_
    rw [yw_ix, nI_clamp (by omega)]
    refine ⟨hin, nm_e ⟨hin, br_c (fun e0 => tp_n1 (ih (x + 1) n _ _ (by omega) (by omega) (tp_Yx_n h1 hM e0) (tp_Yy_s h2 hM))) (fun n0 => nm_e (tp_n1 (ih (x + 1) n _ _ (by omega) (by omega) (tp_Yx_s (by omega) h1 hM n0) (tp_Yy_s h2 hM))))⟩⟩
theorem yq_values {post : Int32 → SY → Prop} {v : SY} {p rg : Int32} (hB : tp_Bd L a b c d) (hv : yR L a b c d ops nums v)
    (h3 : (∀ q, q < L → ¬ p = nI q) → post (-3) v) (h4 : ∀ q, q < L → p = nI q → ¬ (rg = 0 ∨ rg = 1) → post (-4) v)
    (hx : ∀ q, q < L → p = nI q → rg = 0 → ∀ v' r, yR L a b c d ops nums v' → tp_V r (tp_Tx (tp_P (tp_B L a b c d) (tp_K ops nums L) (tp_f ops nums)) q) → post r v') (hy : ∀ q, q < L → p = nI q → rg = 1 → ∀ v' r, yR L a b c d ops nums v' → tp_V r (tp_Ty (tp_P (tp_B L a b c d) (tp_K ops nums L) (tp_f ops nums)) q) → post r v') : wpY_values post v p rg := by
  have hv' := hv
  obtain ⟨kn, en, lws, hgs, al, la, fd, ev, fi, tr, rfl, -⟩ := hv'
  have hL := hB.1
  unfold wpY_values
  dsimp only
  refine yw_bad hL (fun q hq e => br_t rfl ?_) (fun hn => br_f (by decide) (h3 hn))
  rcases pk_ix rg (n := 2) (by omega) with hr | hr | ⟨k, hk2, ek⟩
  · refine br_t hr (h4 q hq e (fun z => ?_))
    rcases z with z | z
    · rw [z] at hr; exact absurd hr (by decide)
    · rw [z] at hr; exact absurd hr (by decide)
  · have hr0 : ¬ rg < 0 := Int32.not_lt.mpr (Int32.le_trans (by decide) hr)
    have hr1 : ¬ rg ≤ 1 := Int32.not_le.mpr (Int32.lt_of_lt_of_le (by decide) hr)
    refine br_f hr0 (br_f hr1 (h4 q hq e (fun z => ?_)))
    rcases z with z | z
    · rw [z] at hr; exact absurd hr (by decide)
    · rw [z] at hr; exact absurd hr (by decide)
  have hr01 : rg = 0 ∨ rg = 1 := by
    have : k = 0 ∨ k = 1 := by omega
    rcases this with z | z
    · subst z; exact Or.inl ek
    · subst z; exact Or.inr ek
  have hr0 : ¬ rg < 0 := by rw [ek]; exact nI_pos (by omega)
  have hr1 : rg ≤ 1 := by rw [ek]; exact nI_le (a := k) (b := 1) (by omega) (by omega)
  refine br_f hr0 (br_t hr1 ?_)
  refine yq_wo hB hv (fun kn' en' lws' hgs' al' la' fd' ev' fi' tr' hk hyR => ?_)
  subst e
  exact ⟨17, yw_vals_l (by omega) hk.1 (fun m h0 hm => hx q hq rfl h0 _ m hyR (tp_Yx_x hm)) (fun m h0 hm => hy q hq rfl (hr01.elim (fun z => absurd z h0) id) _ m hyR (tp_Yy_x hm)) 16 0 17 0 0 (by omega) (by omega) tp_Yx_0 tp_Yy_0⟩
theorem yq_traps {post : Int32 → SY → Prop} {v : SY} {p : Int32} (hB : tp_Bd L a b c d) (hv : yR L a b c d ops nums v)
    (h3 : (∀ q, q < L → ¬ p = nI q) → post (-3) v) (hp : ∀ q, q < L → p = nI q → ∀ v', yR L a b c d ops nums v' → post (nI (tp_cn (fun s => (tp_P (tp_B L a b c d) (tp_K ops nums L) (tp_f ops nums)) s ∧ (tp_F ops nums L) s = -2) (256 * q) 256)) v') : wpY_traps post v p := by
  have hv' := hv
  obtain ⟨kn, en, lws, hgs, al, la, fd, ev, fi, tr, rfl, -⟩ := hv'
  have hL := hB.1
  unfold wpY_traps
  dsimp only
  refine yw_bad hL (fun q hq e => br_t rfl ?_) (fun hn => br_f (by decide) (h3 hn))
  refine yq_wo hB hv (fun kn' en' lws' hgs' al' la' fd' ev' fi' tr' hk hyR => ?_)
  subst e
  have hpp := hp q hq rfl _ hyR
  rw [← hk.2.2.1 q (by omega)] at hpp
  refine ⟨vp_in_nI (by omega) (by omega), ?_⟩
  rw [nI_clamp (by omega)]
  exact hpp
theorem yq_soonest {post : Int32 → SY → Prop} {v : SY} {p : Int32} (hB : tp_Bd L a b c d) (hv : yR L a b c d ops nums v)
    (h3 : (∀ q, q < L → ¬ p = nI q) → post (-3) v) (hp : ∀ q, q < L → p = nI q → ∀ v' r, yR L a b c d ops nums v' → tp_Sv (tp_B L a b c d) (tp_K ops nums L) (tp_f ops nums) q r → post r v') : wpY_soonest post v p := by
  have hv' := hv
  obtain ⟨kn, en, lws, hgs, al, la, fd, ev, fi, tr, rfl, -⟩ := hv'
  have hL := hB.1
  unfold wpY_soonest
  dsimp only
  refine yw_bad hL (fun q hq e => br_t rfl ?_) (fun hn => br_f (by decide) (h3 hn))
  refine yq_wo hB hv (fun kn' en' lws' hgs' al' la' fd' ev' fi' tr' hk hyR => ?_)
  subst e
  have hpp := hp q hq rfl _ _ hyR (hk.2.1 q (by omega))
  refine ⟨vp_in_nI (by omega) (by omega), ?_⟩
  rw [nI_clamp (by omega)]
  exact hpp
theorem yw_safe_l {post : Int32 → SY → Prop} {B : Nat → Prop} {K f : Nat → Nat} {F : Nat → Int32} (hL : L ≤ 16) (htr : ∀ p, p < 16 → tr p = nI (tp_cn (fun s => tp_P B K f s ∧ F s = -2) (256 * p) 256)) (h1 : (∀ p, p < L → tp_cn (fun s => tp_P B K f s ∧ F s = -2) (256 * p) 256 = 0) → post 1 (nI L, kn, en, ops, nums, lws, hgs, al, la, fd, ev, fi, tr)) (h0 : (∃ p, 0 < tp_cn (fun s => tp_P B K f s ∧ F s = -2) (256 * p) 256) → post 0 (nI L, kn, en, ops, nums, lws, hgs, al, la, fd, ev, fi, tr)) :
    ∀ (e p n : Nat), p + e = L → e < n → (∀ q, q < p → tp_cn (fun s => tp_P B K f s ∧ F s = -2) (256 * q) 256 = 0) → wY_safe_6 post (nI L) kn en ops nums lws hgs al la fd ev fi tr n (nI p) := by
  intro e
  induction e with
  | zero =>
    intro p n hp hn hI
    obtain ⟨n, rfl⟩ : ∃ m, n = m + 1 := ⟨n - 1, by omega⟩
    have e : p = L := by omega
    subst e
    exact br_t (nI_le (Nat.le_refl _) (by omega)) (h1 hI)
  | succ e ih =>
    intro p n hp hn hI
    obtain ⟨n, rfl⟩ : ∃ m, n = m + 1 := ⟨n - 1, by omega⟩
    refine br_f (nI_ge (a := p) (b := L) (by omega) (by omega)) ⟨vp_in_nI (by omega) (by omega), ?_⟩
    have hle := tp_cn_le (fun s => tp_P B K f s ∧ F s = -2) (256 * p) 256
    rw [nI_clamp (by omega), htr p (by omega)]
    refine pk_le (tp_cn (fun s => tp_P B K f s ∧ F s = -2) (256 * p) 256) 0 (fun h => tp_n1 (ih (p + 1) n (by omega) (by omega) (fun q hq => ?_))) (fun h => h0 ⟨p, h⟩)
    rcases Nat.lt_or_ge q p with z | z
    · exact hI q z
    · have e : q = p := by omega
      subst e
      omega
theorem yq_safe {post : Int32 → SY → Prop} {v : SY} (hB : tp_Bd L a b c d) (hv : yR L a b c d ops nums v)
    (hp : ∀ v', yR L a b c d ops nums v' → post (nI (tp_b (¬ ∃ s, (tp_P (tp_B L a b c d) (tp_K ops nums L) (tp_f ops nums)) s ∧ (tp_F ops nums L) s = -2))) v') : wpY_safe post v := by
  have hv' := hv
  obtain ⟨kn, en, lws, hgs, al, la, fd, ev, fi, tr, rfl, -⟩ := hv'
  have hL := hB.1
  unfold wpY_safe
  dsimp only
  refine yq_wo hB hv (fun kn' en' lws' hgs' al' la' fd' ev' fi' tr' hk hyR => ?_)
  have hpp := hp _ hyR
  refine ⟨17, yw_safe_l hL hk.2.2.1 (fun h => ?_) (fun ⟨p, h⟩ => ?_) L 0 17 (by omega) (by omega) (fun q hq => absurd hq (Nat.not_lt_zero _))⟩
  · rw [tp_b1 (tp_safe (tp_wf hL) h)] at hpp
    exact hpp
  · rw [tp_b0 (fun z => z (tp_notsafe h))] at hpp
    exact hpp
theorem yq_canEnd {post : Int32 → SY → Prop} {v : SY} (hB : tp_Bd L a b c d) (hv : yR L a b c d ops nums v)
    (hp : ∀ v', yR L a b c d ops nums v' → post (nI (tp_b (∃ s, (tp_P (tp_B L a b c d) (tp_K ops nums L) (tp_f ops nums)) s ∧ (tp_F ops nums L) s = -1))) v') : wpY_canEnd post v := by
  have hv' := hv
  obtain ⟨kn, en, lws, hgs, al, la, fd, ev, fi, tr, rfl, -⟩ := hv'
  unfold wpY_canEnd
  dsimp only
  refine yq_wo hB hv (fun kn' en' lws' hgs' al' la' fd' ev' fi' tr' hk hyR => ?_)
  have hpp := hp _ hyR
  have he := hk.2.2.2.2
  rw [← he] at hpp
  have hn : narrow .boolean (.int en') = .int en' := by
    rw [he]
    by_cases z : ∃ s, (tp_P (tp_B L a b c d) (tp_K ops nums L) (tp_f ops nums)) s ∧ (tp_F ops nums L) s = -1
    · rw [tp_b1 z]; rfl
    · rw [tp_b0 z]; rfl
  exact ⟨hn, hpp⟩
theorem yw_end_l {post : Int32 → SY → Prop} {G : Nat → Prop} (hS : tp_S ev G) (hp : post (nI (tp_cn G 0 4096)) (sz, kn, en, ops, nums, lws, hgs, al, la, fd, ev, fi, tr)) :
    ∀ (e i n : Nat), i + e = 256 → e < n → wY_endless_8 post sz kn en ops nums lws hgs al la fd ev fi tr n (nI (tp_cn G 0 (16 * i))) (nI i) := by
  intro e
  induction e with
  | zero =>
    intro i n hi hn
    obtain ⟨n, rfl⟩ : ∃ m, n = m + 1 := ⟨n - 1, by omega⟩
    have e : i = 256 := by omega
    subst e
    exact br_t (nI_le (a := 256) (b := 256) (by omega) (by omega)) hp
  | succ e ih =>
    intro i n hi hn
    obtain ⟨n, rfl⟩ : ∃ m, n = m + 1 := ⟨n - 1, by omega⟩
    refine br_f (nI_ge (b := 256) (a := i) (by omega) (by omega)) ?_
    rw [nI_clamp (by omega)]
    refine ⟨vp_in_nI (by omega) (by omega), yw_cnt (hS i (by omega)) (nm_r ?_ (tp_n1 (ih (i + 1) n (by omega) (by omega))))⟩
    rw [nI_add, show 16 * (i + 1) = 16 * i + 16 by omega, tp_cn_a, Nat.zero_add]
theorem yq_endless {post : Int32 → SY → Prop} {v : SY} (hB : tp_Bd L a b c d) (hv : yR L a b c d ops nums v)
    (hp : ∀ v', yR L a b c d ops nums v' → post (nI (tp_cn (tp_G (tp_B L a b c d) (tp_K ops nums L) (tp_f ops nums)) 0 4096)) v') : wpY_endless post v := by
  have hv' := hv
  obtain ⟨kn, en, lws, hgs, al, la, fd, ev, fi, tr, rfl, -⟩ := hv'
  unfold wpY_endless
  dsimp only
  refine yq_wo hB hv (fun kn' en' lws' hgs' al' la' fd' ev' fi' tr' hk hyR => ?_)
  exact ⟨257, yw_end_l hk.2.2.2.1 (hp _ hyR) 256 0 257 (by omega) (by omega)⟩
theorem yq_forever {post : Int32 → SY → Prop} {v : SY} (hB : tp_Bd L a b c d) (hv : yR L a b c d ops nums v)
    (hp : ∀ v', yR L a b c d ops nums v' → post (nI (tp_b (0 < tp_cn (tp_G (tp_B L a b c d) (tp_K ops nums L) (tp_f ops nums)) 0 4096))) v') : wpY_canRunForever post v := by
  have hv' := hv
  obtain ⟨kn, en, lws, hgs, al, la, fd, ev, fi, tr, rfl, -⟩ := hv'
  unfold wpY_canRunForever
  dsimp only
  refine yq_endless hB hv (fun v' hyR => ?_)
  have hpp := hp _ hyR
  obtain ⟨kn', en', lws', hgs', al', la', fd', ev', fi', tr', rfl, -⟩ := hyR
  have hle := tp_cn_le (tp_G (tp_B L a b c d) (tp_K ops nums L) (tp_f ops nums)) 0 4096
  refine pk_le (tp_cn (tp_G (tp_B L a b c d) (tp_K ops nums L) (tp_f ops nums)) 0 4096) 0 (fun h => ?_) (fun h => ?_)
  · rw [tp_b0 (by omega)] at hpp
    exact hpp
  · rw [tp_b1 h] at hpp
    exact hpp
end
end
section
/-! the relation, and what is owed -/
def i_Rel (_ : Nat) (u : SX) (v : SY) : Prop := ∃ (L a b c d : Nat) (ops nums : Nat → Int32), tp_Bd L a b c d ∧ xR L a b c d ops nums u ∧ yR L a b c d ops nums v
theorem i_up {k : Nat} {u : SX} {v : SY} (h : i_Rel k u v) : i_Rel (k + 4) u v := h
theorem i_vc0 : wpX_init (fun u => wpY_init (fun v => i_Rel 0 u v)) := by
  unfold wpX_init wpY_init
  refine nm_e (nm_e ?_)
  exact ⟨0, 0, 15, 0, 15, fun _ => 0, fun _ => 0, ⟨by omega, by omega, by omega, by omega, by omega⟩, ⟨0, 0, 0, fun _ => 0, fun _ => 0, fun _ => 0, fun _ => 0, fun _ => 0, rfl, Or.inl rfl⟩, ⟨0, 0, fun _ => 0, _, fun _ => 0, fun _ => 0, fun _ => 0, fun _ => 0, fun _ => 0, fun _ => 0, rfl, ⟨rfl, rfl, rfl, rfl⟩, Or.inl rfl⟩⟩
theorem i_vc_emit {k : Nat} {u : SX} {v : SY} (I : i_Rel k u v) (hk : k + 4 ≤ 2048) (v1 : Int32) (v2 : Int32) : wpX_emit (fun r u' => wpY_emit (fun r' v' => r' = r ∧ i_Rel (k + 4) u' v') v v1 v2) u v1 v2 := by
  have I' := I
  obtain ⟨L, a, b, c, d, ops, nums, hB, hu, hv⟩ := I'
  obtain ⟨ex, pc, ec, ord, st, fn, nc, go, rfl, hx⟩ := hu
  obtain ⟨kn, en, lws, hgs, al, la, fd, ev, fi, tr, rfl, hr, hy⟩ := hv
  have hL := hB.1
  unfold wpX_emit wpY_emit
  dsimp only
  by_cases h0 : v1 < 0
  · exact br_t h0 (br_t h0 ⟨rfl, I⟩)
  · by_cases h14 : v1 ≤ 14
    · refine br_f h0 (br_t h14 ?_)
      refine xw_place (fun q hq e => br_f (by decide) ?_) (fun hn => br_t rfl ?_)
      · have hq' : L = q := (nI_eq (by omega) (by omega)).mp e
        subst hq'
        have hin : vp_in (nI L) 16 := vp_in_nI hq (by omega)
        have hcl : (nI L).toNatClampNeg = L := nI_clamp (by omega)
        have hne : ¬ nI L = 16 := fun z => by
          have := (nI_eq (a := L) (b := 16) (by omega) (by omega)).mp z
          omega
        rw [hcl]
        refine ⟨hin, nm_e ⟨hin, nm_e (tp_n1 ?_)⟩⟩
        refine br_f h0 (br_t h14 (br_f hne ⟨hin, nm_e ⟨hin, nm_e (tp_n1 ?_)⟩⟩))
        refine ⟨nI_pred L, L + 1, a, b, c, d, upd ops L v1, upd nums L v2, ⟨by omega, hB.2⟩, ⟨_, _, _, _, _, _, _, _, rfl, Or.inl rfl⟩, ⟨_, _, _, _, _, _, _, _, _, _, rfl, hr, Or.inl rfl⟩⟩
      · have e16 : L = 16 := by
          rcases Nat.lt_or_ge L 16 with z | z
          · exact absurd rfl (hn L z)
          · omega
        subst e16
        exact br_f h0 (br_t h14 (br_t rfl ⟨rfl, I⟩))
    · exact br_f h0 (br_f h14 (br_f h0 (br_f h14 ⟨rfl, I⟩)))
theorem i_vc_patch {k : Nat} {u : SX} {v : SY} (I : i_Rel k u v) (hk : k + 4 ≤ 2048) (v1 : Int32) (v2 : Int32) : wpX_patch (fun r u' => wpY_patch (fun r' v' => r' = r ∧ i_Rel (k + 4) u' v') v v1 v2) u v1 v2 := by
  have I' := I
  obtain ⟨L, a, b, c, d, ops, nums, hB, hu, hv⟩ := I'
  obtain ⟨ex, pc, ec, ord, st, fn, nc, go, rfl, hx⟩ := hu
  obtain ⟨kn, en, lws, hgs, al, la, fd, ev, fi, tr, rfl, hr, hy⟩ := hv
  have hL := hB.1
  unfold wpX_patch wpY_patch
  dsimp only
  refine xw_ins hL (fun q hq e => br_f (by decide) ?_) (fun hn => br_t rfl ?_)
  · subst e
    have hin : vp_in (nI q) 16 := vp_in_nI (by omega) (by omega)
    have hcl : (nI q).toNatClampNeg = q := nI_clamp (by omega)
    rw [hcl]
    refine ⟨hin, nm_e ⟨hin, nm_e ?_⟩⟩
    refine yw_bad hL (fun q' hq' e' => br_t rfl ?_) (fun hn => absurd rfl (hn q hq))
    refine ⟨hin, nm_e ⟨hin, nm_e ?_⟩⟩
    exact ⟨rfl, L, a, b, c, d, ops, upd nums q v2, hB, ⟨_, _, _, _, _, _, _, _, rfl, Or.inl rfl⟩, ⟨_, _, _, _, _, _, _, _, _, _, rfl, hr, Or.inl rfl⟩⟩
  · exact yw_bad hL (fun q hq e => absurd e (hn q hq)) (fun _ => br_f (by decide) ⟨rfl, I⟩)
theorem i_vc_begin {k : Nat} {u : SX} {v : SY} (I : i_Rel k u v) (hk : k + 4 ≤ 2048) (v1 : Int32) (v2 : Int32) (v3 : Int32) : wpX_begin (fun r u' => wpY_begin (fun r' v' => r' = r ∧ i_Rel (k + 4) u' v') v v1 v2 v3) u v1 v2 v3 := by
  have I' := I
  obtain ⟨L, a, b, c, d, ops, nums, hB, hu, hv⟩ := I'
  obtain ⟨ex, pc, ec, ord, st, fn, nc, go, rfl, hx⟩ := hu
  obtain ⟨kn, en, lws, hgs, al, la, fd, ev, fi, tr, rfl, hr, hy⟩ := hv
  have hL := hB.1
  unfold wpX_begin wpY_begin
  dsimp only
  refine xw_reg (fun h01 => br_f (by decide) ?_) (fun h01 => br_t rfl ?_)
  · have hn0 : ¬ v1 < 0 := by
      rcases h01 with z | z <;> rw [z] <;> decide
    have hn1 : ¬ 1 < v1 := by
      rcases h01 with z | z <;> rw [z] <;> decide
    by_cases h2 : v2 < 0
    · exact br_t h2 (br_f hn0 (br_f hn1 (br_t h2 ⟨rfl, I⟩)))
    by_cases h3 : v3 < v2
    · exact br_f h2 (br_t h3 (br_f hn0 (br_f hn1 (br_f h2 (br_t h3 ⟨rfl, I⟩)))))
    by_cases h15 : v3 ≤ 15
    · refine br_f h2 (br_f h3 (br_t h15 ?_))
      obtain ⟨i, hi, ei⟩ := nI_of (x := v2) h2
      have h30 : ¬ v3 < 0 := Int32.not_lt.mpr (Int32.le_trans (Int32.not_lt.mp h2) (Int32.not_lt.mp h3))
      obtain ⟨j, hj, ej⟩ := nI_of (x := v3) h30
      have hj15 : j ≤ 15 := by
        rw [ej] at h15
        exact (nI_leI (b := 15) hj (by omega)).mp h15
      have hij : i ≤ j := by
        have z := Int32.not_lt.mp h3
        rw [ei, ej] at z
        exact (nI_leI hi hj).mp z
      by_cases e0 : v1 = 0
      · subst e0
        refine br_t rfl ?_
        refine br_f hn0 (br_f hn1 (br_f h2 (br_f h3 (br_t h15 ⟨vp_in_iff.mpr (by decide), nm_e ⟨vp_in_iff.mpr (by decide), nm_e ?_⟩⟩))))
        subst ei
        subst ej
        exact ⟨rfl, L, i, j, c, d, ops, nums, ⟨hL, hij, by omega, hB.2.2.2⟩, ⟨_, _, _, _, _, _, _, _, rfl, Or.inl rfl⟩, ⟨_, _, _, _, _, _, _, _, _, _, rfl, ⟨rfl, rfl, hr.2.2.1, hr.2.2.2⟩, Or.inl rfl⟩⟩
      · have e1 : v1 = 1 := h01.elim (fun z => absurd z e0) id
        subst e1
        refine br_f e0 ?_
        refine br_f hn0 (br_f hn1 (br_f h2 (br_f h3 (br_t h15 ⟨vp_in_iff.mpr (by decide), nm_e ⟨vp_in_iff.mpr (by decide), nm_e ?_⟩⟩))))
        subst ei
        subst ej
        exact ⟨rfl, L, a, b, i, j, ops, nums, ⟨hL, hB.2.1, hB.2.2.1, hij, by omega⟩, ⟨_, _, _, _, _, _, _, _, rfl, Or.inl rfl⟩, ⟨_, _, _, _, _, _, _, _, _, _, rfl, ⟨hr.1, hr.2.1, rfl, rfl⟩, Or.inl rfl⟩⟩
    · exact br_f h2 (br_f h3 (br_f h15 (br_f hn0 (br_f hn1 (br_f h2 (br_f h3 (br_f h15 ⟨rfl, I⟩)))))))
  · by_cases hn0 : v1 < 0
    · exact br_t hn0 ⟨rfl, I⟩
    · refine br_f hn0 (br_t ?_ ⟨rfl, I⟩)
      obtain ⟨i, hi, ei⟩ := nI_of (x := v1) hn0
      have h2 : 2 ≤ i := by
        rcases Nat.lt_or_ge i 2 with z | z
        · have : i = 0 ∨ i = 1 := by omega
          rcases this with y | y
          · subst y; exact absurd (Or.inl ei) h01
          · subst y; exact absurd (Or.inr ei) h01
        · exact z
      rw [ei]
      exact nI_lt (a := 1) (b := i) (by omega) hi
theorem i_vc_clear {k : Nat} {u : SX} {v : SY} (I : i_Rel k u v) (hk : k + 4 ≤ 2048) : wpX_clear (fun u' => wpY_clear (fun v' => i_Rel (k + 4) u' v') v) u := by
  obtain ⟨L, a, b, c, d, ops, nums, hB, hu, hv⟩ := I
  obtain ⟨ex, pc, ec, ord, st, fn, nc, go, rfl, hx⟩ := hu
  obtain ⟨kn, en, lws, hgs, al, la, fd, ev, fi, tr, rfl, hr, hy⟩ := hv
  unfold wpX_clear wpY_clear
  exact ⟨0, a, b, c, d, ops, nums, ⟨by omega, hB.2⟩, ⟨_, _, _, _, _, _, _, _, rfl, Or.inl rfl⟩, ⟨_, _, _, _, _, _, _, _, _, _, rfl, hr, Or.inl rfl⟩⟩
theorem i_vc_states {k : Nat} {u : SX} {v : SY} (I : i_Rel k u v) (hk : k + 4 ≤ 2048) (v1 : Int32) : wpX_states (fun r u' => wpY_states (fun r' v' => r' = r ∧ i_Rel (k + 4) u' v') v v1) u v1 := by
  obtain ⟨L, a, b, c, d, ops, nums, hB, hu, hv⟩ := I
  have ⟨hL, hab, hb, hcd, hd⟩ := hB
  refine xq_states hL (by omega) hb (by omega) hd hu (fun hn => ?_) (fun q hq e u' hu' => ?_)
  · exact yq_states hB hv (fun _ => ⟨rfl, L, a, b, c, d, ops, nums, hB, hu, hv⟩) (fun q hq e => absurd e (hn q hq))
  · refine yq_states hB hv (fun hn => absurd e (hn q hq)) (fun q' hq' e' v' hv' => ⟨?_, L, a, b, c, d, ops, nums, hB, hu', hv'⟩)
    have := (nI_eq (by omega) (by omega)).mp (e.symm.trans e')
    rw [this]
theorem i_vc_possible {k : Nat} {u : SX} {v : SY} (I : i_Rel k u v) (hk : k + 4 ≤ 2048) (v1 : Int32) (v2 : Int32) (v3 : Int32) : wpX_possible (fun r u' => wpY_possible (fun r' v' => r' = r ∧ i_Rel (k + 4) u' v') v v1 v2 v3) u v1 v2 v3 := by
  obtain ⟨L, a, b, c, d, ops, nums, hB, hu, hv⟩ := I
  have ⟨hL, hab, hb, hcd, hd⟩ := hB
  refine xq_possible hL (by omega) hb (by omega) hd hu (fun hn => ?_) (fun q i j hq hi hj e ei ej u' hu' => ?_)
  · exact yq_possible hB hv (fun _ => ⟨rfl, L, a, b, c, d, ops, nums, hB, hu, hv⟩) (fun q i j hq hi hj e ei ej => absurd ⟨q, i, j, hq, hi, hj, e, ei, ej⟩ hn)
  · refine yq_possible hB hv (fun hn => absurd ⟨q, i, j, hq, hi, hj, e, ei, ej⟩ hn) (fun q' i' j' hq' hi' hj' e' ei' ej' v' hv' => ⟨?_, L, a, b, c, d, ops, nums, hB, hu', hv'⟩)
    have h1 := (nI_eq (by omega) (by omega)).mp (e.symm.trans e')
    have h2 := (nI_eq (by omega) (by omega)).mp (ei.symm.trans ei')
    have h3 := (nI_eq (by omega) (by omega)).mp (ej.symm.trans ej')
    rw [h1, h2, h3]
theorem i_vc_values {k : Nat} {u : SX} {v : SY} (I : i_Rel k u v) (hk : k + 4 ≤ 2048) (v1 : Int32) (v2 : Int32) : wpX_values (fun r u' => wpY_values (fun r' v' => r' = r ∧ i_Rel (k + 4) u' v') v v1 v2) u v1 v2 := by
  obtain ⟨L, a, b, c, d, ops, nums, hB, hu, hv⟩ := I
  have ⟨hL, hab, hb, hcd, hd⟩ := hB
  refine xq_values hL (by omega) hb (by omega) hd hu (fun hn => ?_) (fun q hq e hr => ?_) (fun q hq e hr u' r hu' hV => ?_) (fun q hq e hr u' r hu' hV => ?_)
  · exact yq_values hB hv (fun _ => ⟨rfl, L, a, b, c, d, ops, nums, hB, hu, hv⟩) (fun q hq e => absurd e (hn q hq)) (fun q hq e => absurd e (hn q hq)) (fun q hq e => absurd e (hn q hq))
  · exact yq_values hB hv (fun hn => absurd e (hn q hq)) (fun _ _ _ _ => ⟨rfl, L, a, b, c, d, ops, nums, hB, hu, hv⟩) (fun _ _ _ z => absurd (Or.inl z) hr) (fun _ _ _ z => absurd (Or.inr z) hr)
  · refine yq_values hB hv (fun hn => absurd e (hn q hq)) (fun _ _ _ z => absurd (Or.inl hr) z) (fun q' hq' e' _ v' r' hv' hV' => ⟨?_, L, a, b, c, d, ops, nums, hB, hu', hv'⟩) (fun _ _ _ z => absurd (hr.symm.trans z) (by decide))
    have := (nI_eq (by omega) (by omega)).mp (e.symm.trans e')
    subst this
    exact tp_V_u hV' hV (fun _ _ => Iff.rfl)
  · refine yq_values hB hv (fun hn => absurd e (hn q hq)) (fun _ _ _ z => absurd (Or.inr hr) z) (fun _ _ _ z => absurd (hr.symm.trans z) (by decide)) (fun q' hq' e' _ v' r' hv' hV' => ⟨?_, L, a, b, c, d, ops, nums, hB, hu', hv'⟩)
    have := (nI_eq (by omega) (by omega)).mp (e.symm.trans e')
    subst this
    exact tp_V_u hV' hV (fun _ _ => Iff.rfl)
theorem i_vc_traps {k : Nat} {u : SX} {v : SY} (I : i_Rel k u v) (hk : k + 4 ≤ 2048) (v1 : Int32) : wpX_traps (fun r u' => wpY_traps (fun r' v' => r' = r ∧ i_Rel (k + 4) u' v') v v1) u v1 := by
  obtain ⟨L, a, b, c, d, ops, nums, hB, hu, hv⟩ := I
  have ⟨hL, hab, hb, hcd, hd⟩ := hB
  refine xq_traps hL (by omega) hb (by omega) hd hu (fun hn => ?_) (fun q hq e u' hu' => ?_)
  · exact yq_traps hB hv (fun _ => ⟨rfl, L, a, b, c, d, ops, nums, hB, hu, hv⟩) (fun q hq e => absurd e (hn q hq))
  · refine yq_traps hB hv (fun hn => absurd e (hn q hq)) (fun q' hq' e' v' hv' => ⟨?_, L, a, b, c, d, ops, nums, hB, hu', hv'⟩)
    have := (nI_eq (by omega) (by omega)).mp (e.symm.trans e')
    rw [this]
theorem i_vc_safe {k : Nat} {u : SX} {v : SY} (I : i_Rel k u v) (hk : k + 4 ≤ 2048) : wpX_safe (fun r u' => wpY_safe (fun r' v' => r' = r ∧ i_Rel (k + 4) u' v') v) u := by
  obtain ⟨L, a, b, c, d, ops, nums, hB, hu, hv⟩ := I
  have ⟨hL, hab, hb, hcd, hd⟩ := hB
  exact xq_safe hL (by omega) hb (by omega) hd hu (fun u' hu' => yq_safe hB hv (fun v' hv' => ⟨rfl, L, a, b, c, d, ops, nums, hB, hu', hv'⟩))
theorem i_vc_soonest {k : Nat} {u : SX} {v : SY} (I : i_Rel k u v) (hk : k + 4 ≤ 2048) (v1 : Int32) : wpX_soonest (fun r u' => wpY_soonest (fun r' v' => r' = r ∧ i_Rel (k + 4) u' v') v v1) u v1 := by
  obtain ⟨L, a, b, c, d, ops, nums, hB, hu, hv⟩ := I
  have ⟨hL, hab, hb, hcd, hd⟩ := hB
  refine xq_soonest hL (by omega) hb (by omega) hd hu (fun hn => ?_) (fun q hq e u' r hu' hS => ?_)
  · exact yq_soonest hB hv (fun _ => ⟨rfl, L, a, b, c, d, ops, nums, hB, hu, hv⟩) (fun q hq e => absurd e (hn q hq))
  · refine yq_soonest hB hv (fun hn => absurd e (hn q hq)) (fun q' hq' e' v' r' hv' hS' => ⟨?_, L, a, b, c, d, ops, nums, hB, hu', hv'⟩)
    have := (nI_eq (by omega) (by omega)).mp (e.symm.trans e')
    subst this
    exact tp_Sv_u hS hS'
theorem i_vc_canEnd {k : Nat} {u : SX} {v : SY} (I : i_Rel k u v) (hk : k + 4 ≤ 2048) : wpX_canEnd (fun r u' => wpY_canEnd (fun r' v' => r' = r ∧ i_Rel (k + 4) u' v') v) u := by
  obtain ⟨L, a, b, c, d, ops, nums, hB, hu, hv⟩ := I
  have ⟨hL, hab, hb, hcd, hd⟩ := hB
  exact xq_canEnd hL (by omega) hb (by omega) hd hu (fun u' hu' => yq_canEnd hB hv (fun v' hv' => ⟨rfl, L, a, b, c, d, ops, nums, hB, hu', hv'⟩))
theorem i_vc_canRunForever {k : Nat} {u : SX} {v : SY} (I : i_Rel k u v) (hk : k + 4 ≤ 2048) : wpX_canRunForever (fun r u' => wpY_canRunForever (fun r' v' => r' = r ∧ i_Rel (k + 4) u' v') v) u := by
  obtain ⟨L, a, b, c, d, ops, nums, hB, hu, hv⟩ := I
  have ⟨hL, hab, hb, hcd, hd⟩ := hB
  exact xq_forever hL (by omega) hb (by omega) hd hu (fun u' hu' => yq_forever hB hv (fun v' hv' => ⟨rfl, L, a, b, c, d, ops, nums, hB, hu', hv'⟩))
theorem i_vc_endless {k : Nat} {u : SX} {v : SY} (I : i_Rel k u v) (hk : k + 4 ≤ 2048) : wpX_endless (fun r u' => wpY_endless (fun r' v' => r' = r ∧ i_Rel (k + 4) u' v') v) u := by
  obtain ⟨L, a, b, c, d, ops, nums, hB, hu, hv⟩ := I
  have ⟨hL, hab, hb, hcd, hd⟩ := hB
  exact xq_endless hL (by omega) hb (by omega) hd hu (fun u' hu' => yq_endless hB hv (fun v' hv' => ⟨rfl, L, a, b, c, d, ops, nums, hB, hu', hv'⟩))
end
