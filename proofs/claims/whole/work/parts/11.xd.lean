/-! the component's explore, and its questions -/
section
variable {ln lx gx ly gy ex pc ec : Int32} {ops nums ord st fn nc go : Nat → Int32} {L a b c d : Nat}
def xR (L a b c d : Nat) (ops nums : Nat → Int32) (u : SX) : Prop :=
  ∃ (ex pc ec : Int32) (ord st fn nc go : Nat → Int32), u = (nI L, nI a, nI b, nI c, nI d, ex, pc, ec, ops, nums, ord, st, fn, nc, go) ∧ (ex = 0 ∨ tp_XK (tp_B L a b c d) (tp_K ops nums L) (tp_f ops nums) (tp_F ops nums L) st fn ec)
theorem xw_e27 {post : SX → Prop} {w : Nat → Option Nat} {o : Nat → Nat} {k : Nat} (hL : L ≤ 16) (hN : xw_N ops nums L fn nc 4096) (hQ : tp_XQ (tp_B L a b c d) (tp_K ops nums L) (tp_f ops nums) st ord w o k) (hB : ∀ s, (tp_B L a b c d) s → w s = some 0) (hb : ∀ j b, j < k → w (o j) = some b → b ≤ 0)
    (hp : ∀ ex' pc' ec' ord' st' go', tp_XK (tp_B L a b c d) (tp_K ops nums L) (tp_f ops nums) (tp_F ops nums L) st' fn ec' → post (ln, nI a, nI b, nI c, nI d, ex', pc', ec', ops, nums, ord', st', fn, nc, go')) : wX_explore_27 post ln (nI a) (nI b) (nI c) (nI d) ex (nI k) ec ops nums ord st fn nc go := by
  unfold wX_explore_27
  refine xw_fr hL hN hQ hB hb (fun st' ord' w' o' c' hQ' hK' => ?_)
  refine xw_dr hL hN hQ' hK' (fun go' ec' he => ?_)
  exact hp _ _ _ _ _ _ ⟨w', hK', fun s n h => (tp_Qn hQ'.1 h).1, hQ'.2.1, fun s hs => (hN s hs).1, he⟩
theorem xw_explore {post : SX → Prop} (hL : L ≤ 16) (ha : a < 16) (hb : b < 16) (hc : c < 16) (hd : d < 16) (hx : ex = 0 ∨ tp_XK (tp_B L a b c d) (tp_K ops nums L) (tp_f ops nums) (tp_F ops nums L) st fn ec)
    (hp : ∀ ex' pc' ec' ord' st' fn' nc' go', tp_XK (tp_B L a b c d) (tp_K ops nums L) (tp_f ops nums) (tp_F ops nums L) st' fn' ec' → post (nI L, nI a, nI b, nI c, nI d, ex', pc', ec', ops, nums, ord', st', fn', nc', go')) : wpX_explore post (nI L, nI a, nI b, nI c, nI d, ex, pc, ec, ops, nums, ord, st, fn, nc, go) := by
  unfold wpX_explore
  dsimp only
  refine br_c (fun e0 => ?_) (fun n0 => ?_)
  · refine xw_fns hL (fun fn' nc' hN => ?_)
    refine xw_fps (fun st' h5 => ?_)
    refine pk_le L 0 (fun h => ?_) (fun h => ?_)
    · refine xw_e27 (w := fun _ => none) (o := fun _ => 0) (k := 0) hL hN ⟨tp_Q0 _ _ _ _, fun s hs => h5 s hs, fun j hj => absurd hj (Nat.not_lt_zero _)⟩ (fun s hs => ?_) (fun j _ hj => absurd hj (Nat.not_lt_zero _)) (fun ex' pc' ec' ord' st' go' hk => hp _ _ _ _ _ _ _ _ hk)
      have := hs.1
      omega
    · refine xw_rb (K := (tp_K ops nums L)) (f := (tp_f ops nums)) ha hb hc hd h h5 (fun st2 ord2 w2 o2 c2 hI => ?_)
      exact xw_e27 hL hN hI.1 (fun s hs => hI.2.2 s hs hs.2.1) hI.2.1 (fun ex' pc' ec' ord' st' go' hk => hp _ _ _ _ _ _ _ _ hk)
  · rcases hx with h | h
    · exact absurd h n0
    · exact hp _ _ _ _ _ _ _ _ h
/-- explore, then what follows -/
theorem xq_ex {post : SX → Prop} {u : SX} (hL : L ≤ 16) (ha : a < 16) (hb : b < 16) (hc : c < 16) (hd : d < 16) (hu : xR L a b c d ops nums u)
    (hp : ∀ ex' pc' ec' ord' st' fn' nc' go', tp_XK (tp_B L a b c d) (tp_K ops nums L) (tp_f ops nums) (tp_F ops nums L) st' fn' ec' → post (nI L, nI a, nI b, nI c, nI d, ex', pc', ec', ops, nums, ord', st', fn', nc', go')) : wpX_explore post u := by
  obtain ⟨ex, pc, ec, ord, st, fn, nc, go, rfl, hx⟩ := hu
  exact xw_explore hL ha hb hc hd hx hp
theorem xw_states_l {post : Int32 → SX → Prop} {q : Nat} (hq : q < 16) (hk : tp_XK (tp_B L a b c d) (tp_K ops nums L) (tp_f ops nums) (tp_F ops nums L) st fn ec) (hp : post (nI (tp_cn (tp_P (tp_B L a b c d) (tp_K ops nums L) (tp_f ops nums)) (256 * q) 256)) (ln, lx, gx, ly, gy, ex, pc, ec, ops, nums, ord, st, fn, nc, go)) :
    ∀ (e i n : Nat), i + e = 256 → e < n → wX_states_27 post (nI (256 * q)) ln lx gx ly gy ex pc ec ops nums ord st fn nc go n (nI (tp_cn (tp_P (tp_B L a b c d) (tp_K ops nums L) (tp_f ops nums)) (256 * q) i)) (nI (256 * q + i)) := by
  intro e
  induction e with
  | zero =>
    intro i n hi hn
    obtain ⟨n, rfl⟩ : ∃ m, n = m + 1 := ⟨n - 1, by omega⟩
    have e : i = 256 := by omega
    subst e
    exact pk_le (256 * q + 256) (256 * q + 256) (fun _ => hp) (fun h => by omega) (nI_add _ _)
  | succ e ih =>
    intro i n hi hn
    obtain ⟨n, rfl⟩ : ∃ m, n = m + 1 := ⟨n - 1, by omega⟩
    have h4 : 256 * q + i < 4096 := by omega
    have hm := tp_XK_m hk h4
    refine pk_le (256 * q + 256) (256 * q + i) (fun h => by omega) (fun _ => ?_) (nI_add _ _)
    refine xw_poss h4 (fun hne => br_f (by decide) (tp_n1 (tp_n1 ?_))) (fun he => br_t rfl (tp_n1 ?_))
    · have hP : (tp_P (tp_B L a b c d) (tp_K ops nums L) (tp_f ops nums)) (256 * q + i) := Classical.byContradiction (fun z => hne (hm.mpr z))
      have x := ih (i + 1) n (by omega) (by omega)
      rw [tp_cn_s, tp_b1 hP] at x
      exact x
    · have x := ih (i + 1) n (by omega) (by omega)
      rw [tp_cn_s, tp_b0 (hm.mp he)] at x
      exact x
theorem xq_states {post : Int32 → SX → Prop} {u : SX} {p : Int32} (hL : L ≤ 16) (ha : a < 16) (hb : b < 16) (hc : c < 16) (hd : d < 16) (hu : xR L a b c d ops nums u)
    (h3 : (∀ q, q < L → ¬ p = nI q) → post (-3) u) (hp : ∀ q, q < L → p = nI q → ∀ u', xR L a b c d ops nums u' → post (nI (tp_cn (tp_P (tp_B L a b c d) (tp_K ops nums L) (tp_f ops nums)) (256 * q) 256)) u') : wpX_states post u p := by
  have hu' := hu
  obtain ⟨ex, pc, ec, ord, st, fn, nc, go, rfl, hx⟩ := hu'
  unfold wpX_states
  dsimp only
  refine xw_ins hL (fun q hq e => br_f (by decide) ?_) (fun hn => br_t rfl (h3 hn))
  refine xq_ex hL ha hb hc hd hu (fun ex' pc' ec' ord' st' fn' nc' go' hk => ?_)
  subst e
  refine xw_num (x := 0) (y := 0) ⟨257, ?_⟩
  exact xw_states_l (by omega) hk (hp q hq rfl _ ⟨_, _, _, _, _, _, _, _, rfl, Or.inr hk⟩) 256 0 257 (by omega) (by omega)
theorem xw_traps_l {post : Int32 → SX → Prop} {q : Nat} (hq : q < 16) (hk : tp_XK (tp_B L a b c d) (tp_K ops nums L) (tp_f ops nums) (tp_F ops nums L) st fn ec) (hp : post (nI (tp_cn (fun s => (tp_P (tp_B L a b c d) (tp_K ops nums L) (tp_f ops nums)) s ∧ (tp_F ops nums L) s = -2) (256 * q) 256)) (ln, lx, gx, ly, gy, ex, pc, ec, ops, nums, ord, st, fn, nc, go)) :
    ∀ (e i n : Nat), i + e = 256 → e < n → wX_traps_27 post (nI (256 * q)) ln lx gx ly gy ex pc ec ops nums ord st fn nc go n (nI (tp_cn (fun s => (tp_P (tp_B L a b c d) (tp_K ops nums L) (tp_f ops nums)) s ∧ (tp_F ops nums L) s = -2) (256 * q) i)) (nI (256 * q + i)) := by
  have hfn : ∀ s, s < 4096 → fn s = (tp_F ops nums L) s := by
    obtain ⟨w, -, -, -, h, -⟩ := hk
    exact h
  intro e
  induction e with
  | zero =>
    intro i n hi hn
    obtain ⟨n, rfl⟩ : ∃ m, n = m + 1 := ⟨n - 1, by omega⟩
    have e : i = 256 := by omega
    subst e
    exact pk_le (256 * q + 256) (256 * q + 256) (fun _ => hp) (fun h => by omega) (nI_add _ _)
  | succ e ih =>
    intro i n hi hn
    obtain ⟨n, rfl⟩ : ∃ m, n = m + 1 := ⟨n - 1, by omega⟩
    have h4 : 256 * q + i < 4096 := by omega
    have hm := tp_XK_m hk h4
    have x := ih (i + 1) n (by omega) (by omega)
    rw [tp_cn_s] at x
    refine pk_le (256 * q + 256) (256 * q + i) (fun h => by omega) (fun _ => ?_) (nI_add _ _)
    refine xw_pwn h4 (fun hne he => br_f (by decide) (tp_n1 (tp_n1 ?_))) (fun he => br_t rfl (tp_n1 ?_))
    · have hP : (tp_P (tp_B L a b c d) (tp_K ops nums L) (tp_f ops nums)) (256 * q + i) := Classical.byContradiction (fun z => hne (hm.mpr z))
      rw [tp_b1 ⟨hP, (hfn _ h4).symm.trans he⟩] at x
      exact x
    · rw [tp_b0 (fun z => he ⟨fun y => hm.mp y z.1, (hfn _ h4).trans z.2⟩)] at x
      exact x
theorem xq_traps {post : Int32 → SX → Prop} {u : SX} {p : Int32} (hL : L ≤ 16) (ha : a < 16) (hb : b < 16) (hc : c < 16) (hd : d < 16) (hu : xR L a b c d ops nums u)
    (h3 : (∀ q, q < L → ¬ p = nI q) → post (-3) u) (hp : ∀ q, q < L → p = nI q → ∀ u', xR L a b c d ops nums u' → post (nI (tp_cn (fun s => (tp_P (tp_B L a b c d) (tp_K ops nums L) (tp_f ops nums)) s ∧ (tp_F ops nums L) s = -2) (256 * q) 256)) u') : wpX_traps post u p := by
  have hu' := hu
  obtain ⟨ex, pc, ec, ord, st, fn, nc, go, rfl, hx⟩ := hu'
  unfold wpX_traps
  dsimp only
  refine xw_ins hL (fun q hq e => br_f (by decide) ?_) (fun hn => br_t rfl (h3 hn))
  refine xq_ex hL ha hb hc hd hu (fun ex' pc' ec' ord' st' fn' nc' go' hk => ?_)
  subst e
  refine xw_num (x := 0) (y := 0) ⟨257, ?_⟩
  exact xw_traps_l (by omega) hk (hp q hq rfl _ ⟨_, _, _, _, _, _, _, _, rfl, Or.inr hk⟩) 256 0 257 (by omega) (by omega)
theorem xw_soon_l {post : Int32 → SX → Prop} {q : Nat} (hq : q < 16) (hk : tp_XK (tp_B L a b c d) (tp_K ops nums L) (tp_f ops nums) (tp_F ops nums L) st fn ec) (hp : ∀ r, tp_Sv (tp_B L a b c d) (tp_K ops nums L) (tp_f ops nums) q r → post r (ln, lx, gx, ly, gy, ex, pc, ec, ops, nums, ord, st, fn, nc, go)) :
    ∀ (e i n : Nat) (r : Int32), i + e = 256 → e < n → tp_So (tp_B L a b c d) (tp_K ops nums L) (tp_f ops nums) (256 * q) i r → wX_soonest_28 post (nI (256 * q)) ln lx gx ly gy ex pc ec ops nums ord st fn nc go n r (nI (256 * q + i)) := by
  intro e
  induction e with
  | zero =>
    intro i n r hi hn hS
    obtain ⟨n, rfl⟩ : ∃ m, n = m + 1 := ⟨n - 1, by omega⟩
    have e : i = 256 := by omega
    subst e
    exact pk_le (256 * q + 256) (256 * q + 256) (fun _ => hp r (tp_So_x hS)) (fun h => by omega) (nI_add _ _)
  | succ e ih =>
    intro i n r hi hn hS
    obtain ⟨n, rfl⟩ : ∃ m, n = m + 1 := ⟨n - 1, by omega⟩
    have h4 : 256 * q + i < 4096 := by omega
    have hm := tp_XK_m hk h4
    have hin : vp_in (nI (256 * q + i)) 4096 := vp_in_nI h4 (by omega)
    refine pk_le (256 * q + 256) (256 * q + i) (fun h => by omega) (fun _ => ?_) (nI_add _ _)
    refine xw_poss h4 (fun hne => br_f (by decide) ?_) (fun he => br_t rfl (tp_n1 (ih (i + 1) n r (by omega) (by omega) (tp_So_n hS (hm.mp he)))))
    have hP : (tp_P (tp_B L a b c d) (tp_K ops nums L) (tp_f ops nums)) (256 * q + i) := Classical.byContradiction (fun z => hne (hm.mpr z))
    obtain ⟨m, hm4, es, hD⟩ := tp_XK_d hk h4 hP
    obtain ⟨s1, s2, s3⟩ := tp_So_s hS hm4 hD
    have hcl : (nI (256 * q + i)).toNatClampNeg = 256 * q + i := nI_clamp (by omega)
    rw [hcl, es]
    refine br_c (fun e5 => ⟨hin, nm_e (tp_n1 (ih (i + 1) n _ (by omega) (by omega) (s1 e5)))⟩) (fun n5 => ⟨hin, br_c (fun hle => tp_n1 (ih (i + 1) n r (by omega) (by omega) (s3 n5 (Int32.not_lt.mpr hle)))) (fun hlt => ⟨hin, nm_e (tp_n1 (ih (i + 1) n _ (by omega) (by omega) (s2 (Int32.not_le.mp hlt))))⟩)⟩)
theorem xq_soonest {post : Int32 → SX → Prop} {u : SX} {p : Int32} (hL : L ≤ 16) (ha : a < 16) (hb : b < 16) (hc : c < 16) (hd : d < 16) (hu : xR L a b c d ops nums u)
    (h3 : (∀ q, q < L → ¬ p = nI q) → post (-3) u) (hp : ∀ q, q < L → p = nI q → ∀ u' r, xR L a b c d ops nums u' → tp_Sv (tp_B L a b c d) (tp_K ops nums L) (tp_f ops nums) q r → post r u') : wpX_soonest post u p := by
  have hu' := hu
  obtain ⟨ex, pc, ec, ord, st, fn, nc, go, rfl, hx⟩ := hu'
  unfold wpX_soonest
  dsimp only
  refine xw_ins hL (fun q hq e => br_f (by decide) ?_) (fun hn => br_t rfl (h3 hn))
  refine xq_ex hL ha hb hc hd hu (fun ex' pc' ec' ord' st' fn' nc' go' hk => ?_)
  subst e
  refine xw_num (x := 0) (y := 0) ⟨257, ?_⟩
  exact xw_soon_l (by omega) hk (fun r hr => hp q hq rfl _ r ⟨_, _, _, _, _, _, _, _, rfl, Or.inr hk⟩ hr) 256 0 257 (-5) (by omega) (by omega) (tp_So_0 _ _ _ _)
theorem xq_possible {post : Int32 → SX → Prop} {u : SX} {p x y : Int32} (hL : L ≤ 16) (ha : a < 16) (hb : b < 16) (hc : c < 16) (hd : d < 16) (hu : xR L a b c d ops nums u)
    (h0 : ¬ (∃ q i j, q < L ∧ i < 16 ∧ j < 16 ∧ p = nI q ∧ x = nI i ∧ y = nI j) → post 0 u) (hp : ∀ q i j, q < L → i < 16 → j < 16 → p = nI q → x = nI i → y = nI j → ∀ u', xR L a b c d ops nums u' → post (nI (tp_b ((tp_P (tp_B L a b c d) (tp_K ops nums L) (tp_f ops nums)) (256 * q + 16 * i + j)))) u') : wpX_possible post u p x y := by
  have hu' := hu
  obtain ⟨ex, pc, ec, ord, st, fn, nc, go, rfl, hx⟩ := hu'
  unfold wpX_possible
  dsimp only
  refine xw_ins hL (fun q hq e => br_f (by decide) ?_) (fun hn => br_t rfl (h0 (fun ⟨q, i, j, h1, h2, h3, h4, h5, h6⟩ => hn q h1 h4)))
  refine xw_val (fun i hi ei => br_f (by decide) ?_) (fun hn => br_t rfl (h0 (fun ⟨q, i, j, h1, h2, h3, h4, h5, h6⟩ => hn i h2 h5)))
  refine xw_val (fun j hj ej => br_f (by decide) ?_) (fun hn => br_t rfl (h0 (fun ⟨q, i, j, h1, h2, h3, h4, h5, h6⟩ => hn j h3 h6)))
  refine xq_ex hL ha hb hc hd hu (fun ex' pc' ec' ord' st' fn' nc' go' hk => ?_)
  have h4 : 256 * q + 16 * i + j < 4096 := by omega
  have hm := tp_XK_m hk h4
  have hpp := hp q i j hq hi hj e ei ej (nI L, nI a, nI b, nI c, nI d, ex', pc', ec', ops, nums, ord', st', fn', nc', go') ⟨_, _, _, _, _, _, _, _, rfl, Or.inr hk⟩
  subst e
  subst ei
  subst ej
  refine xw_num (xw_poss h4 (fun hne => ⟨rfl, ?_⟩) (fun he => ⟨rfl, ?_⟩))
  · rw [tp_b1 (Classical.byContradiction (fun z => hne (hm.mpr z)))] at hpp
    exact hpp
  · rw [tp_b0 (hm.mp he)] at hpp
    exact hpp
theorem xw_v74 {post : Int32 → SX → Prop} {J : Int32 → Int32 → Prop} {x2 x3 m : Int32} {i v : Nat} (h : J (m ||| ((1 : Int32) <<< (nI v &&& 31))) (nI (i + 1))) : wX_values_74 post J x2 x3 m (nI i) (nI v) ln lx gx ly gy ex pc ec ops nums ord st fn nc go := by
  unfold wX_values_74
  exact nm_e (tp_n1 h)
theorem xw_vals_l {post : Int32 → SX → Prop} {q : Nat} {rg : Int32} {vf : Nat → Nat} (hq : q < 16) (hv : (rg = 0 ∧ vf = fun s => s / 16 % 16) ∨ (¬ rg = 0 ∧ vf = fun s => s % 16)) (hk : tp_XK (tp_B L a b c d) (tp_K ops nums L) (tp_f ops nums) (tp_F ops nums L) st fn ec) (hp : ∀ m, tp_V m (tp_Tm (tp_P (tp_B L a b c d) (tp_K ops nums L) (tp_f ops nums)) vf (256 * q) 256) → post m (ln, lx, gx, ly, gy, ex, pc, ec, ops, nums, ord, st, fn, nc, go)) :
    ∀ (e i n : Nat) (m : Int32), i + e = 256 → e < n → tp_V m (tp_Tm (tp_P (tp_B L a b c d) (tp_K ops nums L) (tp_f ops nums)) vf (256 * q) i) → wX_values_38 post rg (nI (256 * q)) ln lx gx ly gy ex pc ec ops nums ord st fn nc go n m (nI (256 * q + i)) := by
  intro e
  induction e with
  | zero =>
    intro i n r hi hn hS
    obtain ⟨n, rfl⟩ : ∃ m, n = m + 1 := ⟨n - 1, by omega⟩
    have e : i = 256 := by omega
    subst e
    exact pk_le (256 * q + 256) (256 * q + 256) (fun _ => hp r hS) (fun h => by omega) (nI_add _ _)
  | succ e ih =>
    intro i n r hi hn hS
    obtain ⟨n, rfl⟩ : ∃ m, n = m + 1 := ⟨n - 1, by omega⟩
    have h4 : 256 * q + i < 4096 := by omega
    have hm := tp_XK_m hk h4
    refine pk_le (256 * q + 256) (256 * q + i) (fun h => by omega) (fun _ => ?_) (nI_add _ _)
    refine xw_poss h4 (fun hne => br_f (by decide) ?_) (fun he => br_t rfl (tp_n1 (ih (i + 1) n r (by omega) (by omega) (tp_Tm_n hS (hm.mp he)))))
    have hP : (tp_P (tp_B L a b c d) (tp_K ops nums L) (tp_f ops nums)) (256 * q + i) := Classical.byContradiction (fun z => hne (hm.mpr z))
    rcases hv with ⟨h0, hvf⟩ | ⟨h0, hvf⟩
    · have e : vf (256 * q + i) = (256 * q + i) / 16 % 16 := by rw [hvf]
      have x := tp_Tm_s hS hP (by rw [e]; exact Nat.mod_lt _ (by omega))
      rw [e] at x
      refine br_t h0 (xw_x h4 (xw_v74 ?_))
      exact ih (i + 1) n _ (by omega) (by omega) x
    · have e : vf (256 * q + i) = (256 * q + i) % 16 := by rw [hvf]
      have x := tp_Tm_s hS hP (by rw [e]; exact Nat.mod_lt _ (by omega))
      rw [e] at x
      refine br_f h0 (xw_y h4 (xw_v74 ?_))
      exact ih (i + 1) n _ (by omega) (by omega) x
theorem xq_values {post : Int32 → SX → Prop} {u : SX} {p rg : Int32} (hL : L ≤ 16) (ha : a < 16) (hb : b < 16) (hc : c < 16) (hd : d < 16) (hu : xR L a b c d ops nums u)
    (h3 : (∀ q, q < L → ¬ p = nI q) → post (-3) u) (h4 : ∀ q, q < L → p = nI q → ¬ (rg = 0 ∨ rg = 1) → post (-4) u)
    (hx : ∀ q, q < L → p = nI q → rg = 0 → ∀ u' r, xR L a b c d ops nums u' → tp_V r (tp_Tx (tp_P (tp_B L a b c d) (tp_K ops nums L) (tp_f ops nums)) q) → post r u') (hy : ∀ q, q < L → p = nI q → rg = 1 → ∀ u' r, xR L a b c d ops nums u' → tp_V r (tp_Ty (tp_P (tp_B L a b c d) (tp_K ops nums L) (tp_f ops nums)) q) → post r u') : wpX_values post u p rg := by
  have hu' := hu
  obtain ⟨ex, pc, ec, ord, st, fn, nc, go, rfl, hxx⟩ := hu'
  unfold wpX_values
  dsimp only
  refine xw_ins hL (fun q hq e => br_f (by decide) ?_) (fun hn => br_t rfl (h3 hn))
  refine xw_reg (fun hr => br_f (by decide) ?_) (fun hr => br_t rfl (h4 q hq e hr))
  refine xq_ex hL ha hb hc hd hu (fun ex' pc' ec' ord' st' fn' nc' go' hk => ?_)
  subst e
  refine xw_num (x := 0) (y := 0) ⟨257, ?_⟩
  by_cases h0 : rg = 0
  · exact xw_vals_l (by omega) (Or.inl ⟨h0, rfl⟩) hk (fun r hr => hx q hq rfl h0 _ r ⟨_, _, _, _, _, _, _, _, rfl, Or.inr hk⟩ (tp_Tm_x hr)) 256 0 257 0 (by omega) (by omega) tp_Tm_0
  · exact xw_vals_l (by omega) (Or.inr ⟨h0, rfl⟩) hk (fun r hr' => hy q hq rfl (hr.elim (fun z => absurd z h0) id) _ r ⟨_, _, _, _, _, _, _, _, rfl, Or.inr hk⟩ (tp_Tm_y hr')) 256 0 257 0 (by omega) (by omega) tp_Tm_0
theorem xw_some_l {post : Int32 → Prop} {z : Int32} (hk : tp_XK (tp_B L a b c d) (tp_K ops nums L) (tp_f ops nums) (tp_F ops nums L) st fn ec) (ht : (∃ s, (tp_P (tp_B L a b c d) (tp_K ops nums L) (tp_f ops nums)) s ∧ (tp_F ops nums L) s = z) → post 1) (hf : ¬ (∃ s, s < 4096 ∧ (tp_P (tp_B L a b c d) (tp_K ops nums L) (tp_f ops nums)) s ∧ (tp_F ops nums L) s = z) → post 0) :
    ∀ (e i n : Nat), i + e = 4096 → e < n → (∀ s, s < i → ¬ ((tp_P (tp_B L a b c d) (tp_K ops nums L) (tp_f ops nums)) s ∧ (tp_F ops nums L) s = z)) → wX_somePossibleStateHasNext_2 post z ln lx gx ly gy ex pc ec ops nums ord st fn nc go n (nI i) := by
  have hfn : ∀ s, s < 4096 → fn s = (tp_F ops nums L) s := by
    obtain ⟨w, -, -, -, h, -⟩ := hk
    exact h
  intro e
  induction e with
  | zero =>
    intro i n hi hn hI
    obtain ⟨n, rfl⟩ : ∃ m, n = m + 1 := ⟨n - 1, by omega⟩
    have e : i = 4096 := by omega
    subst e
    exact br_t (nI_le (a := 4096) (b := 4096) (by omega) (by omega)) (hf (fun ⟨s, h1, h2⟩ => hI s h1 h2))
  | succ e ih =>
    intro i n hi hn hI
    obtain ⟨n, rfl⟩ : ∃ m, n = m + 1 := ⟨n - 1, by omega⟩
    have h4 : i < 4096 := by omega
    have hm := tp_XK_m hk h4
    refine br_f (nI_ge (b := 4096) h4 (by omega)) (xw_pwn h4 (fun hne he => br_f (by decide) (ht ⟨i, Classical.byContradiction (fun z => hne (hm.mpr z)), (hfn _ h4).symm.trans he⟩)) (fun he => br_t rfl (tp_n1 (ih (i + 1) n (by omega) (by omega) (fun s hs => ?_)))))
    rcases Nat.lt_or_ge s i with y | y
    · exact hI s y
    · have e : s = i := by omega
      subst e
      exact fun z => he ⟨fun y => hm.mp y z.1, (hfn _ h4).trans z.2⟩
theorem xw_some {post : Int32 → Prop} {z : Int32} (hL : L ≤ 16) (hk : tp_XK (tp_B L a b c d) (tp_K ops nums L) (tp_f ops nums) (tp_F ops nums L) st fn ec) (h : post (nI (tp_b (∃ s, (tp_P (tp_B L a b c d) (tp_K ops nums L) (tp_f ops nums)) s ∧ (tp_F ops nums L) s = z)))) : wpX_somePossibleStateHasNext post (ln, lx, gx, ly, gy, ex, pc, ec, ops, nums, ord, st, fn, nc, go) z := by
  refine ⟨4097, xw_some_l hk (fun z => ?_) (fun z => ?_) 4096 0 4097 (by omega) (by omega) (fun s hs => absurd hs (Nat.not_lt_zero _))⟩
  · rw [tp_b1 z] at h
    exact h
  · rw [tp_b0 (fun ⟨s, h1, h2⟩ => z ⟨s, by have := tp_P_lt (tp_wf hL) h1; omega, h1, h2⟩)] at h
    exact h
theorem xq_safe {post : Int32 → SX → Prop} {u : SX} (hL : L ≤ 16) (ha : a < 16) (hb : b < 16) (hc : c < 16) (hd : d < 16) (hu : xR L a b c d ops nums u)
    (hp : ∀ u', xR L a b c d ops nums u' → post (nI (tp_b (¬ ∃ s, (tp_P (tp_B L a b c d) (tp_K ops nums L) (tp_f ops nums)) s ∧ (tp_F ops nums L) s = -2))) u') : wpX_safe post u := by
  have hu' := hu
  obtain ⟨ex, pc, ec, ord, st, fn, nc, go, rfl, hxx⟩ := hu'
  unfold wpX_safe
  dsimp only
  refine xq_ex hL ha hb hc hd hu (fun ex' pc' ec' ord' st' fn' nc' go' hk => ?_)
  have hpp := hp (nI L, nI a, nI b, nI c, nI d, ex', pc', ec', ops, nums, ord', st', fn', nc', go') ⟨_, _, _, _, _, _, _, _, rfl, Or.inr hk⟩
  refine xw_some hL hk ?_
  by_cases h : ∃ s, (tp_P (tp_B L a b c d) (tp_K ops nums L) (tp_f ops nums)) s ∧ (tp_F ops nums L) s = -2
  · rw [tp_b0 (fun z => z h)] at hpp
    rw [tp_b1 h]
    exact br_f (by decide) hpp
  · rw [tp_b1 h] at hpp
    rw [tp_b0 h]
    exact br_t rfl hpp
theorem xq_canEnd {post : Int32 → SX → Prop} {u : SX} (hL : L ≤ 16) (ha : a < 16) (hb : b < 16) (hc : c < 16) (hd : d < 16) (hu : xR L a b c d ops nums u)
    (hp : ∀ u', xR L a b c d ops nums u' → post (nI (tp_b (∃ s, (tp_P (tp_B L a b c d) (tp_K ops nums L) (tp_f ops nums)) s ∧ (tp_F ops nums L) s = -1))) u') : wpX_canEnd post u := by
  have hu' := hu
  obtain ⟨ex, pc, ec, ord, st, fn, nc, go, rfl, hxx⟩ := hu'
  unfold wpX_canEnd
  dsimp only
  refine xq_ex hL ha hb hc hd hu (fun ex' pc' ec' ord' st' fn' nc' go' hk => ?_)
  have hpp := hp (nI L, nI a, nI b, nI c, nI d, ex', pc', ec', ops, nums, ord', st', fn', nc', go') ⟨_, _, _, _, _, _, _, _, rfl, Or.inr hk⟩
  refine xw_some hL hk ⟨?_, hpp⟩
  by_cases h : ∃ s, (tp_P (tp_B L a b c d) (tp_K ops nums L) (tp_f ops nums)) s ∧ (tp_F ops nums L) s = -1
  · rw [tp_b1 h]; rfl
  · rw [tp_b0 h]; rfl
theorem xq_endless {post : Int32 → SX → Prop} {u : SX} (hL : L ≤ 16) (ha : a < 16) (hb : b < 16) (hc : c < 16) (hd : d < 16) (hu : xR L a b c d ops nums u)
    (hp : ∀ u', xR L a b c d ops nums u' → post (nI (tp_cn (tp_G (tp_B L a b c d) (tp_K ops nums L) (tp_f ops nums)) 0 4096)) u') : wpX_endless post u := by
  have hu' := hu
  obtain ⟨ex, pc, ec, ord, st, fn, nc, go, rfl, hxx⟩ := hu'
  unfold wpX_endless
  dsimp only
  refine xq_ex hL ha hb hc hd hu (fun ex' pc' ec' ord' st' fn' nc' go' hk => ?_)
  have e : ec' = nI (tp_cn (tp_G (tp_B L a b c d) (tp_K ops nums L) (tp_f ops nums)) 0 4096) := by
    obtain ⟨w, -, -, -, -, h⟩ := hk
    exact h
  have hpp := hp (nI L, nI a, nI b, nI c, nI d, ex', pc', ec', ops, nums, ord', st', fn', nc', go') ⟨_, _, _, _, _, _, _, _, rfl, Or.inr hk⟩
  rw [← e] at hpp
  exact hpp
theorem xq_forever {post : Int32 → SX → Prop} {u : SX} (hL : L ≤ 16) (ha : a < 16) (hb : b < 16) (hc : c < 16) (hd : d < 16) (hu : xR L a b c d ops nums u)
    (hp : ∀ u', xR L a b c d ops nums u' → post (nI (tp_b (0 < tp_cn (tp_G (tp_B L a b c d) (tp_K ops nums L) (tp_f ops nums)) 0 4096))) u') : wpX_canRunForever post u := by
  have hu' := hu
  obtain ⟨ex, pc, ec, ord, st, fn, nc, go, rfl, hxx⟩ := hu'
  unfold wpX_canRunForever
  dsimp only
  refine xq_ex hL ha hb hc hd hu (fun ex' pc' ec' ord' st' fn' nc' go' hk => ?_)
  have e : ec' = nI (tp_cn (tp_G (tp_B L a b c d) (tp_K ops nums L) (tp_f ops nums)) 0 4096) := by
    obtain ⟨w, -, -, -, -, h⟩ := hk
    exact h
  have hpp := hp (nI L, nI a, nI b, nI c, nI d, ex', pc', ec', ops, nums, ord', st', fn', nc', go') ⟨_, _, _, _, _, _, _, _, rfl, Or.inr hk⟩
  have hle := tp_cn_le (tp_G (tp_B L a b c d) (tp_K ops nums L) (tp_f ops nums)) 0 4096
  refine pk_le (tp_cn (tp_G (tp_B L a b c d) (tp_K ops nums L) (tp_f ops nums)) 0 4096) 0 (fun h => ?_) (fun h => ?_) e
  · rw [tp_b0 (by omega)] at hpp
    exact hpp
  · rw [tp_b1 h] at hpp
    exact hpp
end
