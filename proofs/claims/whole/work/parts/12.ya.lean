/-! the reference's one step -/
theorem tp_njp {op : Int32} {x y : Nat} (n10 : ¬ op = 10) (n11 : ¬ op = 11) (n12 : ¬ op = 12) (n13 : ¬ op = 13) : ¬ tp_jp op x y := by
  rintro (z | z | z | z)
  · exact n10 z
  · exact n11 z.1
  · exact n12 z.1
  · exact n13 z.1
theorem tp_pl_n {op c : Int32} {p x y : Nat} (h : ¬ tp_jp op x y) : nI (p + 1) = tp_pl op c p x y := by
  unfold tp_pl
  rw [tp_if_f h]
theorem tp_pl_j {op c : Int32} {p x y : Nat} (h : tp_jp op x y) : c = tp_pl op c p x y := by
  unfold tp_pl
  rw [tp_if_t h]
section
variable {sz kn en : Int32} {ops nums lws hgs al la fd ev fi tr : Nat → Int32} {L : Nat}
theorem yw_bad {post : Int32 → Prop} (hL : L ≤ 16) {p : Int32} (ht : ∀ q, q < L → p = nI q → post 0) (hf : (∀ q, q < L → ¬ p = nI q) → post 1) : wpY_bad post (nI L, kn, en, ops, nums, lws, hgs, al, la, fd, ev, fi, tr) p := by
  unfold wpY_bad
  dsimp only
  rcases pk_ix p (n := L) (by omega) with h | h | ⟨q, hq, rfl⟩
  · refine br_t h (hf (fun q hq e => ?_))
    subst e
    exact nI_pos (by omega) h
  · have h0 : ¬ p < 0 := Int32.not_lt.mpr (Int32.le_trans (nI_pos' (n := L) (by omega)) h)
    refine br_f h0 (br_f (Int32.not_lt.mpr h) (hf (fun q hq e => ?_)))
    subst e
    exact nI_ge hq (by omega) h
  · exact br_f (nI_pos (by omega)) (br_t (nI_lt hq (by omega)) (ht q hq rfl))
theorem yw_243 {post : Int32 → Prop} (hL : L ≤ 16) {op c z x8 x9 : Int32} {p x y v : Nat} (ht : ¬ tp_tr op c x y) (n14 : ¬ op = 14) (h1 : ¬ tp_go L op c p x y → post (-1)) (h3 : tp_go L op c p x y → post (nI (tp_f0 op c p x y + v)))
    (hz : z = tp_pl op c p x y) (e8 : x8 = tp_xe op c x y) (e9 : tp_lo x9 = tp_lo (tp_ye op c x y) + v) : wY_after_243 post z x8 x9 (nI L) kn en ops nums lws hgs al la fd ev fi tr := by
  unfold wY_after_243
  refine yw_bad hL (fun q hq e => br_t rfl ?_) (fun hn => br_f (by decide) (h1 (fun g => tp_out hL hn (by rw [hz]; exact g.2.2))))
  have hg : tp_go L op c p x y := ⟨ht, n14, by rw [← hz]; exact (tp_inn hL hq e).1, by rw [← hz]; exact (tp_inn hL hq e).2⟩
  have h := h3 hg
  have ef : nI q * nI 256 + nI (tp_lo x8) * nI 16 + nI (tp_lo x9) = nI (tp_f0 op c p x y + v) := by
    unfold tp_f0
    rw [← hz, e, nI_clamp (by omega), pk_mul, pk_mul, nI_add, nI_add, e9, e8]
    exact congrArg nI (by omega)
  rw [tp_lo_and, tp_lo_and, e]
  exact ek_v (P := post) ef h
theorem yw_66 {post : Int32 → Prop} (hL : L ≤ 16) {op c : Int32} {p x y v : Nat} (hx : x < 16) (hy : y < 16) (hv : v < 16) (hv9 : ¬ op = 9 → v = 0) (ht : ¬ tp_tr op c x y) (n14 : ¬ op = 14) (h1 : ¬ tp_go L op c p x y → post (-1)) (h3 : tp_go L op c p x y → post (nI (tp_f0 op c p x y + v))) :
    wY_after_66 post (nI x) (nI y) (nI v) op c (nI (p + 1)) (nI x) (nI y) (nI L) kn en ops nums lws hgs al la fd ev fi tr := by
  have fin : ∀ {z x8 x9 : Int32}, z = tp_pl op c p x y → x8 = tp_xe op c x y → tp_lo x9 = tp_lo (tp_ye op c x y) + v → wY_after_243 post z x8 x9 (nI L) kn en ops nums lws hgs al la fd ev fi tr := fun a b e => yw_243 hL ht n14 h1 h3 a b e
  have fin0 : ∀ {z x8 x9 : Int32}, ¬ op = 9 → z = tp_pl op c p x y → x8 = tp_xe op c x y → x9 = tp_ye op c x y → wY_after_243 post z x8 x9 (nI L) kn en ops nums lws hgs al la fd ev fi tr := fun n9 a b e => fin a b (by rw [hv9 n9, e]; rfl)
  refine br_c (fun e => ?_) (fun n0 => br_c (fun e => ?_) (fun n1 => br_c (fun e => nm_e ?_) (fun n2 => br_c (fun e => nm_e ?_) (fun n3 => br_c (fun e => nm_e ?_) (fun n4 => br_c (fun e => nm_e ?_) (fun n5 => br_c (fun e => ?_) (fun n6 => ?_)))))))
  · subst e; exact fin0 (by decide) (tp_pl_n (tp_njp (by decide) (by decide) (by decide) (by decide))) rfl rfl
  · subst e; exact fin0 (by decide) (tp_pl_n (tp_njp (by decide) (by decide) (by decide) (by decide))) rfl rfl
  · subst e; exact fin0 (by decide) (tp_pl_n (tp_njp (by decide) (by decide) (by decide) (by decide))) rfl rfl
  · subst e; exact fin0 (by decide) (tp_pl_n (tp_njp (by decide) (by decide) (by decide) (by decide))) rfl rfl
  · subst e; exact fin0 (by decide) (tp_pl_n (tp_njp (by decide) (by decide) (by decide) (by decide))) rfl rfl
  · subst e; exact fin0 (by decide) (tp_pl_n (tp_njp (by decide) (by decide) (by decide) (by decide))) rfl rfl
  · subst e
    have hy0 : y ≠ 0 := fun z => ht (Or.inl ⟨rfl, z⟩)
    refine pk_le y 0 (fun h => absurd h (by omega)) (fun h => ⟨nI_ne0 (by omega) (by omega), nm_e ?_⟩)
    exact fin0 (by decide) (tp_pl_n (tp_njp (by decide) (by decide) (by decide) (by decide))) rfl rfl
  · refine br_c (fun e => ?_) (fun n7 => br_c (fun e => ?_) (fun n9 => ?_))
    · subst e; exact fin0 (by decide) (tp_pl_n (tp_njp (by decide) (by decide) (by decide) (by decide))) rfl rfl
    · subst e
      refine fin (tp_pl_n (tp_njp (by decide) (by decide) (by decide) (by decide))) rfl ?_
      rw [tp_lo_nI hv]
      show v = 0 + v
      omega
    · have ex : nI x = tp_xe op c x y := by
        unfold tp_xe
        rw [if_neg n0, if_neg n2, if_neg n3, if_neg n4, if_neg n5, if_neg n6, if_neg n7]
      have ey : nI y = tp_ye op c x y := by
        unfold tp_ye
        rw [if_neg n1, if_neg n7, if_neg n9]
      have go : tp_jp op x y → wY_after_239 post c (nI x) (nI y) (nI L) kn en ops nums lws hgs al la fd ev fi tr := fun j => fin0 n9 (tp_pl_j j) ex ey
      have no : ¬ tp_jp op x y → wY_after_243 post (nI (p + 1)) (nI x) (nI y) (nI L) kn en ops nums lws hgs al la fd ev fi tr := fun j => fin0 n9 (tp_pl_n j) ex ey
      have k13 : ¬ op = 10 → (op = 11 → ¬ x = y) → (op = 12 → ¬ x < y) → wY_after_228 post (nI x) op c (nI (p + 1)) (nI x) (nI y) (nI L) kn en ops nums lws hgs al la fd ev fi tr := by
        intro n10 n11 n12
        refine br_c (fun e13 => pk_eq x 0 (fun e => go (Or.inr (Or.inr (Or.inr ⟨e13, e⟩)))) (fun e => no ?_)) (fun n13 => no ?_)
        · rintro (z | z | z | z)
          · exact n10 z
          · exact n11 z.1 z.2
          · exact n12 z.1 z.2
          · exact e z.2
        · rintro (z | z | z | z)
          · exact n10 z
          · exact n11 z.1 z.2
          · exact n12 z.1 z.2
          · exact n13 z.1
      have k12 : ¬ op = 10 → (op = 11 → ¬ x = y) → wY_after_216 post (nI x) (nI y) op c (nI (p + 1)) (nI x) (nI y) (nI L) kn en ops nums lws hgs al la fd ev fi tr := by
        intro n10 n11
        exact br_c (fun e12 => pk_lt x y (fun e => go (Or.inr (Or.inr (Or.inl ⟨e12, e⟩)))) (fun e => k13 n10 n11 (fun _ => by omega))) (fun n12 => k13 n10 n11 (fun z => absurd z n12))
      exact br_c (fun e10 => go (Or.inl e10)) (fun n10 => br_c (fun e11 => pk_eq x y (fun e => go (Or.inr (Or.inl ⟨e11, e⟩))) (fun e => k12 n10 (fun _ => e))) (fun n11 => k12 n10 (fun z => absurd z n11)))
theorem yw_after0 {post : Int32 → Prop} (hL : L ≤ 16) {op c : Int32} {p x y v : Nat} (hop : ops p = op) (hc : nums p = c) (hp : p < L) (hx : x < 16) (hy : y < 16) (hv : v < 16) (hv9 : ¬ op = 9 → v = 0) (h1 : ¬ tp_tr op c x y → ¬ tp_go L op c p x y → post (-1)) (h2 : tp_tr op c x y → post (-2)) (h3 : tp_go L op c p x y → post (nI (tp_f0 op c p x y + v))) :
    wpY_after post (nI L, kn, en, ops, nums, lws, hgs, al, la, fd, ev, fi, tr) (nI p) (nI x) (nI y) (nI v) := by
  unfold wpY_after
  dsimp only
  have hin : vp_in (nI p) 16 := vp_in_nI (by omega) (by omega)
  rw [nI_clamp (by omega), hop, hc]
  refine ⟨hin, nm_e ⟨hin, nm_e (tp_n1 ?_)⟩⟩
  have k66 : ¬ op = 14 → ¬ tp_tr op c x y → wY_after_66 post (nI x) (nI y) (nI v) op c (nI (p + 1)) (nI x) (nI y) (nI L) kn en ops nums lws hgs al la fd ev fi tr := fun n14 nt => yw_66 hL hx hy hv hv9 nt n14 (h1 nt) h3
  have k47 : ¬ op = 14 → (op = 6 → ¬ y = 0) → wY_after_47 post (nI x) (nI y) (nI v) op c (nI (p + 1)) (nI x) (nI y) (nI L) kn en ops nums lws hgs al la fd ev fi tr := by
    intro n14 n6
    refine br_c (fun e8 => br_c (fun h => k66 n14 ?_) (fun h => h2 (Or.inr ⟨e8, Int32.not_lt.mp h⟩))) (fun n8 => k66 n14 ?_)
    · rintro (z | z)
      · exact n6 z.1 z.2
      · exact absurd h (Int32.not_lt.mpr z.2)
    · rintro (z | z)
      · exact n6 z.1 z.2
      · exact n8 z.1
  refine br_c (fun e14 => ?_) (fun n14 => br_c (fun e6 => pk_eq y 0 (fun e => h2 (Or.inl ⟨e6, e⟩)) (fun e => k47 n14 (fun _ => e))) (fun n6 => k47 n14 (fun z => absurd z n6)))
  refine h1 ?_ (fun g => g.2.1 e14)
  subst e14
  rintro (z | z)
  · exact absurd z.1 (by decide)
  · exact absurd z.1 (by decide)
theorem yw_after {post : Int32 → Prop} (hL : L ≤ 16) {t v : Nat} (ht : t / 256 < L) (hv : v < 16) (hv9 : v = 0 ∨ ops (t / 256) = 9) (h1 : tp_F ops nums L t = -1 → tp_K ops nums L t = 0 → post (-1)) (h2 : tp_F ops nums L t = -2 → tp_K ops nums L t = 0 → v = 0 → post (-2)) (h3 : tp_F ops nums L t = nI (tp_f ops nums t) → v < tp_K ops nums L t → tp_f ops nums t + v < 4096 → post (nI (tp_f ops nums t + v))) :
    wpY_after post (nI L, kn, en, ops, nums, lws, hgs, al, la, fd, ev, fi, tr) (nI (t / 256)) (nI (t / 16 % 16)) (nI (t % 16)) (nI v) := by
  have hK0 : ¬ (t / 256 < L ∧ tp_go L (ops (t / 256)) (nums (t / 256)) (t / 256) (t / 16 % 16) (t % 16)) → tp_K ops nums L t = 0 := fun z => tp_if_f z
  refine yw_after0 hL rfl rfl ht (Nat.mod_lt _ (by omega)) (Nat.mod_lt _ (by omega)) hv (fun n9 => hv9.elim id (fun z => absurd z n9)) (fun nt ng => h1 (tp_F0_n nt ng) (hK0 (fun z => ng z.2))) (fun tr => h2 (tp_F0_t ht tr) (hK0 (fun z => z.2.1 tr)) ?_) (fun g => ?_)
  · rcases hv9 with z | z
    · exact z
    · rcases tr with y | y
      · exact absurd (z.symm.trans y.1) (by decide)
      · exact absurd (z.symm.trans y.1) (by decide)
  · have hF : tp_F ops nums L t = nI (tp_f ops nums t) := tp_F0_g ht g
    have hlt : tp_f ops nums t + v < 4096 ∧ v < tp_K ops nums L t := by
      have hKe : tp_K ops nums L t = tp_if (ops (t / 256) = 9) 16 1 := tp_if_t ⟨ht, g⟩
      have hvK : v < tp_K ops nums L t := by
        rw [hKe]
        by_cases e : ops (t / 256) = 9
        · rw [tp_if_t e]; exact hv
        · rw [tp_if_f e, hv9.elim id (fun z => absurd z e)]; omega
      have := (tp_wf (ops := ops) (nums := nums) (L := L) (lx := 0) (gx := 0) (ly := 0) (gy := 0) hL).2 t v hvK
      exact ⟨by omega, hvK⟩
    exact h3 hF hlt.2 hlt.1
end
