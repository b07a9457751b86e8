/-! the reference's questions -/
section
variable {sz kn en : Int32} {ops nums lws hgs al la fd ev fi tr : Nat → Int32} {L a b c d : Nat}
def yR (L a b c d : Nat) (ops nums : Nat → Int32) (v : SY) : Prop :=
  ∃ (kn en : Int32) (lws hgs al la fd ev fi tr : Nat → Int32), v = (nI L, kn, en, ops, nums, lws, hgs, al, la, fd, ev, fi, tr) ∧ (lws 0 = nI a ∧ hgs 0 = nI b ∧ lws 1 = nI c ∧ hgs 1 = nI d) ∧ (kn = 0 ∨ tp_YK L (tp_B L a b c d) (tp_K ops nums L) (tp_f ops nums) (tp_F ops nums L) al fi tr ev en)
/-- the bounds that hold for every state -/
def tp_Bd (L a b c d : Nat) : Prop := L ≤ 16 ∧ a ≤ b ∧ b < 16 ∧ c ≤ d ∧ d < 16
theorem yq_wo {post : SY → Prop} {v : SY} (hB : tp_Bd L a b c d) (hv : yR L a b c d ops nums v)
    (hp : ∀ kn' en' lws' hgs' al' la' fd' ev' fi' tr', tp_YK L (tp_B L a b c d) (tp_K ops nums L) (tp_f ops nums) (tp_F ops nums L) al' fi' tr' ev' en' → yR L a b c d ops nums (nI L, kn', en', ops, nums, lws', hgs', al', la', fd', ev', fi', tr') → post (nI L, kn', en', ops, nums, lws', hgs', al', la', fd', ev', fi', tr')) : wpY_workOut post v := by
  obtain ⟨kn, en, lws, hgs, al, la, fd, ev, fi, tr, rfl, ⟨h1, h2, h3, h4⟩, hk⟩ := hv
  obtain ⟨hL, hab, hb, hcd, hd⟩ := hB
  exact yw_work hL hab hb hcd hd h1 h2 h3 h4 hk (fun kn' en' al' la' fd' ev' fi' tr' h => hp _ _ _ _ _ _ _ _ _ _ h ⟨_, _, _, _, _, _, _, _, _, _, rfl, ⟨h1, h2, h3, h4⟩, Or.inr h⟩)
theorem yw_cnt_l {post : Int32 → Prop} {m : Int32} {i : Nat} {S : Nat → Prop} (hM : tp_M m i S) (h : post (nI (tp_cn S (16 * i) 16))) :
    ∀ (e j n : Nat), j + e = 16 → e < n → wY_count_4 post m sz kn en ops nums lws hgs al la fd ev fi tr n (nI (tp_cn S (16 * i) j)) (nI j) := by
  intro e
  induction e with
  | zero =>
    intro j n hj hn
    obtain ⟨n, rfl⟩ : ∃ m, n = m + 1 := ⟨n - 1, by omega⟩
    have e : j = 16 := by omega
    subst e
    exact br_t (nI_le (a := 16) (b := 16) (by omega) (by omega)) h
  | succ e ih =>
    intro j n hj hn
    obtain ⟨n, rfl⟩ : ∃ m, n = m + 1 := ⟨n - 1, by omega⟩
    refine br_f (nI_ge (b := 16) (a := j) (by omega) (by omega)) (nm_r ?_ (tp_n1 (ih (j + 1) n (by omega) (by omega))))
    rw [tp_M_val hM (by omega), nI_add, ← tp_cn_s]
theorem yw_cnt {post : Int32 → Prop} {m : Int32} {i : Nat} {S : Nat → Prop} (hM : tp_M m i S) (h : post (nI (tp_cn S (16 * i) 16))) : wpY_count post (sz, kn, en, ops, nums, lws, hgs, al, la, fd, ev, fi, tr) m :=
  ⟨17, yw_cnt_l hM h 16 0 17 (by omega) (by omega)⟩
theorem yw_ix {q x : Nat} : nI q * 16 + nI x = nI (16 * q + x) := by
  rw [show (16 : Int32) = nI 16 from rfl, pk_mul, nI_add, Nat.mul_comm]
theorem yw_states_l {post : Int32 → SY → Prop} {P : Nat → Prop} {q : Nat} (hq : q < 16) (hS : tp_S al P) (hp : post (nI (tp_cn P (256 * q) 256)) (sz, kn, en, ops, nums, lws, hgs, al, la, fd, ev, fi, tr)) :
    ∀ (e x n : Nat), x + e = 16 → e < n → wY_states_19 post (nI q) sz kn en ops nums lws hgs al la fd ev fi tr n (nI (tp_cn P (256 * q) (16 * x))) (nI x) := by
  intro e
  induction e with
  | zero =>
    intro x n hx hn
    obtain ⟨n, rfl⟩ : ∃ m, n = m + 1 := ⟨n - 1, by omega⟩
    have e : x = 16 := by omega
    subst e
    exact br_t (nI_le (a := 16) (b := 16) (by omega) (by omega)) hp
  | succ e ih =>
    intro x n hx hn
    obtain ⟨n, rfl⟩ : ∃ m, n = m + 1 := ⟨n - 1, by omega⟩
    refine br_f (nI_ge (b := 16) (a := x) (by omega) (by omega)) ?_
    rw [yw_ix, nI_clamp (by omega)]
    refine ⟨vp_in_nI (by omega) (by omega), yw_cnt (hS (16 * q + x) (by omega)) (nm_r ?_ (tp_n1 (ih (x + 1) n (by omega) (by omega))))⟩
    rw [nI_add, show 16 * (x + 1) = 16 * x + 16 by omega, tp_cn_a, show 16 * (16 * q + x) = 256 * q + 16 * x by omega]
theorem yq_states {post : Int32 → SY → Prop} {v : SY} {p : Int32} (hB : tp_Bd L a b c d) (hv : yR L a b c d ops nums v)
    (h3 : (∀ q, q < L → ¬ p = nI q) → post (-3) v) (hp : ∀ q, q < L → p = nI q → ∀ v', yR L a b c d ops nums v' → post (nI (tp_cn (tp_P (tp_B L a b c d) (tp_K ops nums L) (tp_f ops nums)) (256 * q) 256)) v') : wpY_states post v p := by
  have hv' := hv
  obtain ⟨kn, en, lws, hgs, al, la, fd, ev, fi, tr, rfl, -⟩ := hv'
  unfold wpY_states
  dsimp only
  refine yw_bad hB.1 (fun q hq e => br_t rfl ?_) (fun hn => br_f (by decide) (h3 hn))
  refine yq_wo hB hv (fun kn' en' lws' hgs' al' la' fd' ev' fi' tr' hk hy => ?_)
  subst e
  have hL := hB.1
  exact ⟨17, yw_states_l (by omega) hk.1 (hp q hq rfl _ hy) 16 0 17 (by omega) (by omega)⟩
theorem yq_possible {post : Int32 → SY → Prop} {v : SY} {p x y : Int32} (hB : tp_Bd L a b c d) (hv : yR L a b c d ops nums v)
    (h0 : ¬ (∃ q i j, q < L ∧ i < 16 ∧ j < 16 ∧ p = nI q ∧ x = nI i ∧ y = nI j) → post 0 v) (hp : ∀ q i j, q < L → i < 16 → j < 16 → p = nI q → x = nI i → y = nI j → ∀ v', yR L a b c d ops nums v' → post (nI (tp_b ((tp_P (tp_B L a b c d) (tp_K ops nums L) (tp_f ops nums)) (256 * q + 16 * i + j)))) v') : wpY_possible post v p x y := by
  have hv' := hv
  obtain ⟨kn, en, lws, hgs, al, la, fd, ev, fi, tr, rfl, -⟩ := hv'
  have hL := hB.1
  unfold wpY_possible
  dsimp only
  refine yw_bad hL (fun q hq e => br_t rfl ?_) (fun hn => br_f (by decide) (h0 (fun ⟨q, i, j, h1, h2, h3, h4, h5, h6⟩ => hn q h1 h4)))
  rcases pk_ix x (n := 16) (by omega) with hx | hx | ⟨i, hi, ei⟩
  · refine br_t hx (h0 (fun ⟨q, i, j, h1, h2, h3, h4, h5, h6⟩ => ?_))
    subst h5
    exact nI_pos (by omega) hx
  · have hx0 : ¬ x < 0 := Int32.not_lt.mpr (Int32.le_trans (by decide) hx)
    have hx1 : (15 : Int32) < x := Int32.lt_of_lt_of_le (by decide) hx
    refine br_f hx0 (br_t hx1 (h0 (fun ⟨q, i, j, h1, h2, h3, h4, h5, h6⟩ => ?_)))
    subst h5
    exact nI_ge (b := 16) h2 (by omega) hx
  subst ei
  refine br_f (nI_pos (by omega)) (br_f (Int32.not_lt.mpr (nI_le (a := i) (b := 15) (by omega) (by omega))) ?_)
  rcases pk_ix y (n := 16) (by omega) with hy | hy | ⟨j, hj, ej⟩
  · refine br_t hy (h0 (fun ⟨q, i, j, h1, h2, h3, h4, h5, h6⟩ => ?_))
    subst h6
    exact nI_pos (by omega) hy
  · have hy0 : ¬ y < 0 := Int32.not_lt.mpr (Int32.le_trans (by decide) hy)
    have hy1 : ¬ y ≤ 15 := Int32.not_le.mpr (Int32.lt_of_lt_of_le (by decide) hy)
    refine br_f hy0 (br_f hy1 (h0 (fun ⟨q, i, j, h1, h2, h3, h4, h5, h6⟩ => ?_)))
    subst h6
    exact nI_ge (b := 16) h3 (by omega) hy
  subst ej
  refine br_f (nI_pos (by omega)) (br_t (nI_le (a := j) (b := 15) (by omega) (by omega)) ?_)
  refine yq_wo hB hv (fun kn' en' lws' hgs' al' la' fd' ev' fi' tr' hk hy => ?_)
  subst e
  have hpp := hp q i j hq hi hj rfl rfl rfl _ hy
  show vp_in (nI q * 16 + nI i) 256 ∧ _
  rw [yw_ix, nI_clamp (by omega)]
  refine ⟨vp_in_nI (by omega) (by omega), ek_if (tp_M_bit (hk.1 (16 * q + i) (by omega)) hj) (fun h => ?_) (fun h => ?_)⟩
  · rw [show 16 * (16 * q + i) + j = 256 * q + 16 * i + j by omega] at h
    rw [tp_b1 h] at hpp
    exact hpp
  · rw [show 16 * (16 * q + i) + j = 256 * q + 16 * i + j by omega] at h
    rw [tp_b0 h] at hpp
    exact hpp
theorem yw_vals_l {post : Int32 → SY → Prop} {P : Nat → Prop} {q : Nat} {rg : Int32} (hq : q < 16) (hS : tp_S al P) (hx : ∀ m, rg = 0 → tp_V m (tp_Yx P q 16) → post m (sz, kn, en, ops, nums, lws, hgs, al, la, fd, ev, fi, tr)) (hy : ∀ m, ¬ rg = 0 → tp_V m (tp_Yy P q 16) → post m (sz, kn, en, ops, nums, lws, hgs, al, la, fd, ev, fi, tr)) :
    ∀ (e x n : Nat) (m1 m2 : Int32), x + e = 16 → e < n → tp_V m1 (tp_Yx P q x) → tp_V m2 (tp_Yy P q x) → wY_values_35 post (nI q) rg sz kn en ops nums lws hgs al la fd ev fi tr n m1 m2 (nI x) := by
  intro e
  induction e with
  | zero =>
    intro x n m1 m2 hx' hn h1 h2
    obtain ⟨n, rfl⟩ : ∃ m, n = m + 1 := ⟨n - 1, by omega⟩
    have e : x = 16 := by omega
    subst e
    exact br_t (nI_le (a := 16) (b := 16) (by omega) (by omega)) (br_c (fun z => hx _ z h1) (fun z => hy _ z h2))
  | succ e ih =>
    intro x n m1 m2 hx' hn h1 h2
    obtain ⟨n, rfl⟩ : ∃ m, n = m + 1 := ⟨n - 1, by omega⟩
    have hin : vp_in (nI (16 * q + x)) 256 := vp_in_nI (by omega) (by omega)
    have hM := hS (16 * q + x) (by omega)
    refine br_f (nI_ge (b := 16) (a := x) (by omega) (by omega)) ?_
    rw [yw_ix, nI_clamp (by omega)]
    refine ⟨hin, nm_e ⟨hin, br_c (fun e0 => tp_n1 (ih (x + 1) n _ _ (by omega) (by omega) (tp_Yx_n h1 hM e0) (tp_Yy_s h2 hM))) (fun n0 => nm_e (tp_n1 (ih (x + 1) n _ _ (by omega) (by omega) (tp_Yx_s (by omega) h1 hM n0) (tp_Yy_s h2 hM))))⟩⟩
theorem yq_values {post : Int32 → SY → Prop} {v : SY} {p rg : Int32} (hB : tp_Bd L a b c d) (hv : yR L a b c d ops nums v)
    (h3 : (∀ q, q < L → ¬ p = nI q) → post (-3) v) (h4 : ∀ q, q < L → p = nI q → ¬ (rg = 0 ∨ rg = 1) → post (-4) v)
    (hx : ∀ q, q < L → p = nI q → rg = 0 → ∀ v' r, yR L a b c d ops nums v' → tp_V r (tp_Tx (tp_P (tp_B L a b c d) (tp_K ops nums L) (tp_f ops nums)) q) → post r v') (hy : ∀ q, q < L → p = nI q → rg = 1 → ∀ v' r, yR L a b c d ops nums v' → tp_V r (tp_Ty (tp_P (tp_B L a b c d) (tp_K ops nums L) (tp_f ops nums)) q) → post r v') : wpY_values post v p rg := by
  have hv' := hv
  obtain ⟨kn, en, lws, hgs, al, la, fd, ev, fi, tr, rfl, -⟩ := hv'
  have hL := hB.1
  unfold wpY_values
  dsimp only
  refine yw_bad hL (fun q hq e => br_t rfl ?_) (fun hn => br_f (by decide) (h3 hn))
  rcases pk_ix rg (n := 2) (by omega) with hr | hr | ⟨k, hk2, ek⟩
  · refine br_t hr (h4 q hq e (fun z => ?_))
    rcases z with z | z
    · rw [z] at hr; exact absurd hr (by decide)
    · rw [z] at hr; exact absurd hr (by decide)
  · have hr0 : ¬ rg < 0 := Int32.not_lt.mpr (Int32.le_trans (by decide) hr)
    have hr1 : ¬ rg ≤ 1 := Int32.not_le.mpr (Int32.lt_of_lt_of_le (by decide) hr)
    refine br_f hr0 (br_f hr1 (h4 q hq e (fun z => ?_)))
    rcases z with z | z
    · rw [z] at hr; exact absurd hr (by decide)
    · rw [z] at hr; exact absurd hr (by decide)
  have hr01 : rg = 0 ∨ rg = 1 := by
    have : k = 0 ∨ k = 1 := by omega
    rcases this with z | z
    · subst z; exact Or.inl ek
    · subst z; exact Or.inr ek
  have hr0 : ¬ rg < 0 := by rw [ek]; exact nI_pos (by omega)
  have hr1 : rg ≤ 1 := by rw [ek]; exact nI_le (a := k) (b := 1) (by omega) (by omega)
  refine br_f hr0 (br_t hr1 ?_)
  refine yq_wo hB hv (fun kn' en' lws' hgs' al' la' fd' ev' fi' tr' hk hyR => ?_)
  subst e
  exact ⟨17, yw_vals_l (by omega) hk.1 (fun m h0 hm => hx q hq rfl h0 _ m hyR (tp_Yx_x hm)) (fun m h0 hm => hy q hq rfl (hr01.elim (fun z => absurd z h0) id) _ m hyR (tp_Yy_x hm)) 16 0 17 0 0 (by omega) (by omega) tp_Yx_0 tp_Yy_0⟩
theorem yq_traps {post : Int32 → SY → Prop} {v : SY} {p : Int32} (hB : tp_Bd L a b c d) (hv : yR L a b c d ops nums v)
    (h3 : (∀ q, q < L → ¬ p = nI q) → post (-3) v) (hp : ∀ q, q < L → p = nI q → ∀ v', yR L a b c d ops nums v' → post (nI (tp_cn (fun s => (tp_P (tp_B L a b c d) (tp_K ops nums L) (tp_f ops nums)) s ∧ (tp_F ops nums L) s = -2) (256 * q) 256)) v') : wpY_traps post v p := by
  have hv' := hv
  obtain ⟨kn, en, lws, hgs, al, la, fd, ev, fi, tr, rfl, -⟩ := hv'
  have hL := hB.1
  unfold wpY_traps
  dsimp only
  refine yw_bad hL (fun q hq e => br_t rfl ?_) (fun hn => br_f (by decide) (h3 hn))
  refine yq_wo hB hv (fun kn' en' lws' hgs' al' la' fd' ev' fi' tr' hk hyR => ?_)
  subst e
  have hpp := hp q hq rfl _ hyR
  rw [← hk.2.2.1 q (by omega)] at hpp
  refine ⟨vp_in_nI (by omega) (by omega), ?_⟩
  rw [nI_clamp (by omega)]
  exact hpp
theorem yq_soonest {post : Int32 → SY → Prop} {v : SY} {p : Int32} (hB : tp_Bd L a b c d) (hv : yR L a b c d ops nums v)
    (h3 : (∀ q, q < L → ¬ p = nI q) → post (-3) v) (hp : ∀ q, q < L → p = nI q → ∀ v' r, yR L a b c d ops nums v' → tp_Sv (tp_B L a b c d) (tp_K ops nums L) (tp_f ops nums) q r → post r v') : wpY_soonest post v p := by
  have hv' := hv
  obtain ⟨kn, en, lws, hgs, al, la, fd, ev, fi, tr, rfl, -⟩ := hv'
  have hL := hB.1
  unfold wpY_soonest
  dsimp only
  refine yw_bad hL (fun q hq e => br_t rfl ?_) (fun hn => br_f (by decide) (h3 hn))
  refine yq_wo hB hv (fun kn' en' lws' hgs' al' la' fd' ev' fi' tr' hk hyR => ?_)
  subst e
  have hpp := hp q hq rfl _ _ hyR (hk.2.1 q (by omega))
  refine ⟨vp_in_nI (by omega) (by omega), ?_⟩
  rw [nI_clamp (by omega)]
  exact hpp
theorem yw_safe_l {post : Int32 → SY → Prop} {B : Nat → Prop} {K f : Nat → Nat} {F : Nat → Int32} (hL : L ≤ 16) (htr : ∀ p, p < 16 → tr p = nI (tp_cn (fun s => tp_P B K f s ∧ F s = -2) (256 * p) 256)) (h1 : (∀ p, p < L → tp_cn (fun s => tp_P B K f s ∧ F s = -2) (256 * p) 256 = 0) → post 1 (nI L, kn, en, ops, nums, lws, hgs, al, la, fd, ev, fi, tr)) (h0 : (∃ p, 0 < tp_cn (fun s => tp_P B K f s ∧ F s = -2) (256 * p) 256) → post 0 (nI L, kn, en, ops, nums, lws, hgs, al, la, fd, ev, fi, tr)) :
    ∀ (e p n : Nat), p + e = L → e < n → (∀ q, q < p → tp_cn (fun s => tp_P B K f s ∧ F s = -2) (256 * q) 256 = 0) → wY_safe_6 post (nI L) kn en ops nums lws hgs al la fd ev fi tr n (nI p) := by
  intro e
  induction e with
  | zero =>
    intro p n hp hn hI
    obtain ⟨n, rfl⟩ : ∃ m, n = m + 1 := ⟨n - 1, by omega⟩
    have e : p = L := by omega
    subst e
    exact br_t (nI_le (Nat.le_refl _) (by omega)) (h1 hI)
  | succ e ih =>
    intro p n hp hn hI
    obtain ⟨n, rfl⟩ : ∃ m, n = m + 1 := ⟨n - 1, by omega⟩
    refine br_f (nI_ge (a := p) (b := L) (by omega) (by omega)) ⟨vp_in_nI (by omega) (by omega), ?_⟩
    have hle := tp_cn_le (fun s => tp_P B K f s ∧ F s = -2) (256 * p) 256
    rw [nI_clamp (by omega), htr p (by omega)]
    refine pk_le (tp_cn (fun s => tp_P B K f s ∧ F s = -2) (256 * p) 256) 0 (fun h => tp_n1 (ih (p + 1) n (by omega) (by omega) (fun q hq => ?_))) (fun h => h0 ⟨p, h⟩)
    rcases Nat.lt_or_ge q p with z | z
    · exact hI q z
    · have e : q = p := by omega
      subst e
      omega
theorem yq_safe {post : Int32 → SY → Prop} {v : SY} (hB : tp_Bd L a b c d) (hv : yR L a b c d ops nums v)
    (hp : ∀ v', yR L a b c d ops nums v' → post (nI (tp_b (¬ ∃ s, (tp_P (tp_B L a b c d) (tp_K ops nums L) (tp_f ops nums)) s ∧ (tp_F ops nums L) s = -2))) v') : wpY_safe post v := by
  have hv' := hv
  obtain ⟨kn, en, lws, hgs, al, la, fd, ev, fi, tr, rfl, -⟩ := hv'
  have hL := hB.1
  unfold wpY_safe
  dsimp only
  refine yq_wo hB hv (fun kn' en' lws' hgs' al' la' fd' ev' fi' tr' hk hyR => ?_)
  have hpp := hp _ hyR
  refine ⟨17, yw_safe_l hL hk.2.2.1 (fun h => ?_) (fun ⟨p, h⟩ => ?_) L 0 17 (by omega) (by omega) (fun q hq => absurd hq (Nat.not_lt_zero _))⟩
  · rw [tp_b1 (tp_safe (tp_wf hL) h)] at hpp
    exact hpp
  · rw [tp_b0 (fun z => z (tp_notsafe h))] at hpp
    exact hpp
theorem yq_canEnd {post : Int32 → SY → Prop} {v : SY} (hB : tp_Bd L a b c d) (hv : yR L a b c d ops nums v)
    (hp : ∀ v', yR L a b c d ops nums v' → post (nI (tp_b (∃ s, (tp_P (tp_B L a b c d) (tp_K ops nums L) (tp_f ops nums)) s ∧ (tp_F ops nums L) s = -1))) v') : wpY_canEnd post v := by
  have hv' := hv
  obtain ⟨kn, en, lws, hgs, al, la, fd, ev, fi, tr, rfl, -⟩ := hv'
  unfold wpY_canEnd
  dsimp only
  refine yq_wo hB hv (fun kn' en' lws' hgs' al' la' fd' ev' fi' tr' hk hyR => ?_)
  have hpp := hp _ hyR
  have he := hk.2.2.2.2
  rw [← he] at hpp
  have hn : narrow .boolean (.int en') = .int en' := by
    rw [he]
    by_cases z : ∃ s, (tp_P (tp_B L a b c d) (tp_K ops nums L) (tp_f ops nums)) s ∧ (tp_F ops nums L) s = -1
    · rw [tp_b1 z]; rfl
    · rw [tp_b0 z]; rfl
  exact ⟨hn, hpp⟩
theorem yw_end_l {post : Int32 → SY → Prop} {G : Nat → Prop} (hS : tp_S ev G) (hp : post (nI (tp_cn G 0 4096)) (sz, kn, en, ops, nums, lws, hgs, al, la, fd, ev, fi, tr)) :
    ∀ (e i n : Nat), i + e = 256 → e < n → wY_endless_8 post sz kn en ops nums lws hgs al la fd ev fi tr n (nI (tp_cn G 0 (16 * i))) (nI i) := by
  intro e
  induction e with
  | zero =>
    intro i n hi hn
    obtain ⟨n, rfl⟩ : ∃ m, n = m + 1 := ⟨n - 1, by omega⟩
    have e : i = 256 := by omega
    subst e
    exact br_t (nI_le (a := 256) (b := 256) (by omega) (by omega)) hp
  | succ e ih =>
    intro i n hi hn
    obtain ⟨n, rfl⟩ : ∃ m, n = m + 1 := ⟨n - 1, by omega⟩
    refine br_f (nI_ge (b := 256) (a := i) (by omega) (by omega)) ?_
    rw [nI_clamp (by omega)]
    refine ⟨vp_in_nI (by omega) (by omega), yw_cnt (hS i (by omega)) (nm_r ?_ (tp_n1 (ih (i + 1) n (by omega) (by omega))))⟩
    rw [nI_add, show 16 * (i + 1) = 16 * i + 16 by omega, tp_cn_a, Nat.zero_add]
theorem yq_endless {post : Int32 → SY → Prop} {v : SY} (hB : tp_Bd L a b c d) (hv : yR L a b c d ops nums v)
    (hp : ∀ v', yR L a b c d ops nums v' → post (nI (tp_cn (tp_G (tp_B L a b c d) (tp_K ops nums L) (tp_f ops nums)) 0 4096)) v') : wpY_endless post v := by
  have hv' := hv
  obtain ⟨kn, en, lws, hgs, al, la, fd, ev, fi, tr, rfl, -⟩ := hv'
  unfold wpY_endless
  dsimp only
  refine yq_wo hB hv (fun kn' en' lws' hgs' al' la' fd' ev' fi' tr' hk hyR => ?_)
  exact ⟨257, yw_end_l hk.2.2.2.1 (hp _ hyR) 256 0 257 (by omega) (by omega)⟩
theorem yq_forever {post : Int32 → SY → Prop} {v : SY} (hB : tp_Bd L a b c d) (hv : yR L a b c d ops nums v)
    (hp : ∀ v', yR L a b c d ops nums v' → post (nI (tp_b (0 < tp_cn (tp_G (tp_B L a b c d) (tp_K ops nums L) (tp_f ops nums)) 0 4096))) v') : wpY_canRunForever post v := by
  have hv' := hv
  obtain ⟨kn, en, lws, hgs, al, la, fd, ev, fi, tr, rfl, -⟩ := hv'
  unfold wpY_canRunForever
  dsimp only
  refine yq_endless hB hv (fun v' hyR => ?_)
  have hpp := hp _ hyR
  obtain ⟨kn', en', lws', hgs', al', la', fd', ev', fi', tr', rfl, -⟩ := hyR
  have hle := tp_cn_le (tp_G (tp_B L a b c d) (tp_K ops nums L) (tp_f ops nums)) 0 4096
  refine pk_le (tp_cn (tp_G (tp_B L a b c d) (tp_K ops nums L) (tp_f ops nums)) 0 4096) 0 (fun h => ?_) (fun h => ?_)
  · rw [tp_b0 (by omega)] at hpp
    exact hpp
  · rw [tp_b1 h] at hpp
    exact hpp
end
