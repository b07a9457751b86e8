/-! the reference: the states that go on for ever -/
section
variable {sz kn en : Int32} {ops nums lws hgs al la fd ev fi tr : Nat → Int32} {L : Nat}
/-- the mask of row i when the values below y are through -/
def yw_Ky (K f : Nat → Nat) (g : Nat → Prop) (y s : Nat) : Prop := (g s ∧ tp_Cl K f g s) ∧ s % 16 < y
/-- and v values of the next one -/
def yw_Kv (K f : Nat → Nat) (g : Nat → Prop) (t y v s : Nat) : Prop := yw_Ky K f g y s ∨ (s = t ∧ g s ∧ ∃ k, k < v ∧ k < K t ∧ g (f t + k))
theorem yw_Kv_0 {K f : Nat → Nat} {g : Nat → Prop} {t y s : Nat} : yw_Ky K f g y s ↔ yw_Kv K f g t y 0 s :=
  ⟨Or.inl, fun h => h.elim id (fun ⟨_, _, _, z, _⟩ => absurd z (Nat.not_lt_zero _))⟩
theorem yw_Kv_x {K f : Nat → Nat} {g : Nat → Prop} {i y j : Nat} (hK : K (16 * i + y) ≤ 16) (hy : y < 16) (hj : j < 16) : yw_Kv K f g (16 * i + y) y 16 (16 * i + j) ↔ yw_Ky K f g (y + 1) (16 * i + j) := by
  constructor
  · rintro (⟨h1, h2⟩ | ⟨h1, h2, k, h3, h4, h5⟩)
    · exact ⟨h1, by omega⟩
    · rw [h1] at h2 ⊢
      exact ⟨⟨h2, k, h4, h5⟩, by omega⟩
  · rintro ⟨⟨h1, k, h3, h4⟩, h2⟩
    rcases Nat.lt_or_ge ((16 * i + j) % 16) y with z | z
    · exact Or.inl ⟨⟨h1, k, h3, h4⟩, z⟩
    · have e : 16 * i + j = 16 * i + y := by omega
      rw [e] at h1 h3 h4 ⊢
      exact Or.inr ⟨rfl, h1, k, by omega, h3, h4⟩
theorem yw_Kv_k {K f : Nat → Nat} {g : Nat → Prop} {t y v s : Nat} (h : ¬ (g t ∧ v < K t)) : yw_Kv K f g t y v s ↔ yw_Kv K f g t y (v + 1) s := by
  refine ⟨fun z => z.elim Or.inl (fun ⟨h1, h2, k, h3, h4⟩ => Or.inr ⟨h1, h2, k, by omega, h4⟩), fun z => z.elim Or.inl (fun ⟨h1, h2, k, h3, h4, h5⟩ => Or.inr ⟨h1, h2, k, ?_, h4, h5⟩)⟩
  rcases Nat.lt_or_ge k v with y | y
  · exact y
  · rw [h1] at h2
    exact absurd ⟨h2, by omega⟩ h
theorem yw_Kv_s {K f : Nat → Nat} {g : Nat → Prop} {t y v s : Nat} (hg : g t) (hK : v < K t) : (yw_Kv K f g t y v s ∨ (s = t ∧ g (f t + v))) ↔ yw_Kv K f g t y (v + 1) s := by
  constructor
  · rintro ((h | ⟨h1, h2, k, h3, h4⟩) | ⟨h1, h2⟩)
    · exact Or.inl h
    · exact Or.inr ⟨h1, h2, k, by omega, h4⟩
    · exact Or.inr ⟨h1, by rw [h1]; exact hg, v, by omega, hK, h2⟩
  · rintro (h | ⟨h1, h2, k, h3, h4, h5⟩)
    · exact Or.inl (Or.inl h)
    · rcases Nat.lt_or_ge k v with z | z
      · exact Or.inl (Or.inr ⟨h1, h2, k, z, h4, h5⟩)
      · have e : k = v := by omega
        subst e
        exact Or.inr ⟨h1, h5⟩
theorem yw_k53 {post : Int32 → Prop} {J4 J13 : Int32 → Int32 → Prop} {g : Nat → Prop} {i y v : Nat} {m : Int32} (hL : L ≤ 16) (hi : i < 256) (hy : y < 16) (hv : v < 16) (hg : g (16 * i + y)) (hl : (16 * i + y) / 256 < L) (hv9 : v = 0 ∨ ops (i / 16) = 9) (hS : tp_S ev g)
    (hM : tp_M m i (yw_Kv (tp_K ops nums L) (tp_f ops nums) g (16 * i + y) y v)) (hJ : ∀ m', tp_M m' i (yw_Kv (tp_K ops nums L) (tp_f ops nums) g (16 * i + y) y (v + 1)) → J13 m' (nI (v + 1))) : wY_kept_53 post J4 J13 (nI i) m (nI y) (nI v) (nI L) kn en ops nums lws hgs al la fd ev fi tr := by
  have e1 : nI i / 16 = nI ((16 * i + y) / 256) := by
    rw [show (16 * i + y) / 256 = i / 16 by omega]
    exact pk_div (d := 16) (by omega) (by omega) (by omega)
  have e2 : nI i - nI i / 16 * 16 = nI ((16 * i + y) / 16 % 16) := by
    rw [show (16 * i + y) / 16 % 16 = i % 16 by omega]
    exact pk_rem (d := 16) (by omega) (by omega) (by omega)
  have e3 : nI y = nI ((16 * i + y) % 16) := by rw [show (16 * i + y) % 16 = y by omega]
  unfold wY_kept_53
  refine ⟨by decide, by decide, ?_⟩
  rw [e2, e1]
  have g2 : wpY_after (fun r_10 => (((r_10 < 0 → (∀ x4_25 : Int32, x4_25 = nI v + 1 → (J13 m x4_25))) ∧ (¬ r_10 < 0 → (¬ (16 : Int32) = 0 ∧ (vp_in (r_10 / 16) 256 ∧ (¬ (16 : Int32) = 0 ∧ (∀ x2_29 : Int32, x2_29 = m ||| ((((ev (r_10 / 16).toNatClampNeg) >>> ((r_10 - r_10 / 16 * 16) &&& 31)) &&& 1) <<< (nI y &&& 31)) → (∀ x4_30 : Int32, x4_30 = nI v + 1 → (J13 x2_29 x4_30)))))))))) (nI L, kn, en, ops, nums, lws, hgs, al, la, fd, ev, fi, tr) (nI ((16 * i + y) / 256)) (nI ((16 * i + y) / 16 % 16)) (nI ((16 * i + y) % 16)) (nI v) := by
    refine yw_after hL hl hv (by rw [show (16 * i + y) / 256 = i / 16 by omega]; exact hv9) (fun hF hK => ?_) (fun hF hK _ => ?_) (fun hF hK hs => ?_)
    · exact br_t (by decide) (tp_n1 (hJ m (tp_M_e hM (fun j hj => yw_Kv_k (fun z => by omega)))))
    · exact br_t (by decide) (tp_n1 (hJ m (tp_M_e hM (fun j hj => yw_Kv_k (fun z => by omega)))))
    · have d1 : nI (tp_f ops nums (16 * i + y) + v) / 16 = nI ((tp_f ops nums (16 * i + y) + v) / 16) := pk_div (d := 16) (by omega) (by omega) (by omega)
      have d2 : nI (tp_f ops nums (16 * i + y) + v) - nI (tp_f ops nums (16 * i + y) + v) / 16 * 16 = nI ((tp_f ops nums (16 * i + y) + v) % 16) := pk_rem (d := 16) (by omega) (by omega) (by omega)
      have hcl : (nI ((tp_f ops nums (16 * i + y) + v) / 16)).toNatClampNeg = (tp_f ops nums (16 * i + y) + v) / 16 := nI_clamp (by omega)
      refine br_f (nI_pos (by omega)) ?_
      rw [d2, d1, hcl, tp_S_b hS hs]
      refine ⟨by decide, vp_in_nI (by omega) (by omega), by decide, nm_e (tp_n1 (hJ _ ?_))⟩
      exact tp_M_e (tp_M_or hM (tp_M_k hy i _)) (fun j hj => yw_Kv_s hg hK)
  rw [← e3] at g2
  exact g2
theorem yw_k13 {post : Int32 → Prop} {J4 : Int32 → Int32 → Prop} {g : Nat → Prop} {i y : Nat} (hL : L ≤ 16) (hi : i < 256) (hy : y < 16) (hl : g (16 * i + y) → (16 * i + y) / 256 < L) (hS : tp_S ev g)
    (hJ : ∀ m', tp_M m' i (yw_Ky (tp_K ops nums L) (tp_f ops nums) g (y + 1)) → J4 m' (nI (y + 1))) :
    ∀ (e v n : Nat) (m : Int32), v + e = 16 → e < n → tp_M m i (yw_Kv (tp_K ops nums L) (tp_f ops nums) g (16 * i + y) y v) → wY_kept_13 post J4 (nI i) (nI y) (nI L) kn en ops nums lws hgs al la fd ev fi tr n m (nI v) := by
  intro e
  induction e with
  | zero =>
    intro v n m hv hn hI
    obtain ⟨n, rfl⟩ : ∃ m, n = m + 1 := ⟨n - 1, by omega⟩
    have e : v = 16 := by omega
    subst e
    exact br_t (nI_le (a := 16) (b := 16) (by omega) (by omega)) (tp_n1 (hJ m (tp_M_e hI (fun j hj => yw_Kv_x (yw_K16 hL _) hy hj))))
  | succ e ih =>
    intro v n m hv hn hI
    obtain ⟨n, rfl⟩ : ∃ m, n = m + 1 := ⟨n - 1, by omega⟩
    have hcl : (nI i).toNatClampNeg = i := nI_clamp (by omega)
    have e1 : nI i / 16 = nI (i / 16) := pk_div (d := 16) (by omega) (by omega) (by omega)
    have hcl2 : (nI (i / 16)).toNatClampNeg = i / 16 := nI_clamp (by omega)
    refine br_f (nI_ge (b := 16) (a := v) (by omega) (by omega)) ⟨vp_in_nI hi (by omega), ?_⟩
    rw [hcl, e1, hcl2]
    refine ek_if (tp_M_bit (hS i hi) hy) (fun hg => pk_eq v 0 (fun e0 => ?_) (fun n0 => ⟨by decide, vp_in_nI (by omega) (by omega), br_c (fun e9 => ?_) (fun n9 => tp_n1 ?_)⟩)) (fun hg => tp_n1 ?_)
    · exact yw_k53 hL hi hy (by omega) hg (hl hg) (Or.inl e0) hS hI (fun m' hm' => ih (v + 1) n m' (by omega) (by omega) hm')
    · exact yw_k53 hL hi hy (by omega) hg (hl hg) (Or.inr e9) hS hI (fun m' hm' => ih (v + 1) n m' (by omega) (by omega) hm')
    · have hK : tp_K ops nums L (16 * i + y) ≤ v := by
        rcases tp_Fc (ops := ops) (nums := nums) hL (16 * i + y) with h | h | h
        · rw [h.2]; omega
        · rw [h.2.1]; omega
        · rcases h.2.2.2.1 with z | z
          · have z1 := z.1
            rw [show (16 * i + y) / 256 = i / 16 by omega] at z1
            exact absurd z1 n9
          · rw [z.2]; omega
      exact ih (v + 1) n m (by omega) (by omega) (tp_M_e hI (fun j hj => yw_Kv_k (fun z => by omega)))
    · exact ih (v + 1) n m (by omega) (by omega) (tp_M_e hI (fun j hj => yw_Kv_k (fun z => hg z.1)))
theorem yw_k4 {post : Int32 → Prop} {g : Nat → Prop} {i : Nat} (hL : L ≤ 16) (hi : i < 256) (hl : ∀ s, g s → s / 256 < L) (hS : tp_S ev g)
    (hp : ∀ m', tp_M m' i (fun s => g s ∧ tp_Cl (tp_K ops nums L) (tp_f ops nums) g s) → post m') :
    ∀ (e y n : Nat) (m : Int32), y + e = 16 → e < n → tp_M m i (yw_Ky (tp_K ops nums L) (tp_f ops nums) g y) → wY_kept_4 post (nI i) (nI L) kn en ops nums lws hgs al la fd ev fi tr n m (nI y) := by
  intro e
  induction e with
  | zero =>
    intro y n m hv hn hI
    obtain ⟨n, rfl⟩ : ∃ m, n = m + 1 := ⟨n - 1, by omega⟩
    have e : y = 16 := by omega
    subst e
    exact br_t (nI_le (a := 16) (b := 16) (by omega) (by omega)) (hp m (tp_M_e hI (fun j hj => ⟨fun z => z.1, fun z => ⟨z, by omega⟩⟩)))
  | succ e ih =>
    intro y n m hv hn hI
    obtain ⟨n, rfl⟩ : ∃ m, n = m + 1 := ⟨n - 1, by omega⟩
    refine br_f (nI_ge (b := 16) (a := y) (by omega) (by omega)) ⟨17, ?_⟩
    exact yw_k13 hL hi (by omega) (hl _) hS (fun m' hm' => ih (y + 1) n m' (by omega) (by omega) hm') 16 0 17 m (by omega) (by omega) (tp_M_e hI (fun j hj => yw_Kv_0))
theorem yw_kept {post : Int32 → Prop} {g : Nat → Prop} {i : Nat} (hL : L ≤ 16) (hi : i < 256) (hl : ∀ s, g s → s / 256 < L) (hS : tp_S ev g)
    (hp : ∀ m', tp_M m' i (fun s => g s ∧ tp_Cl (tp_K ops nums L) (tp_f ops nums) g s) → post m') : wpY_kept post (nI L, kn, en, ops, nums, lws, hgs, al, la, fd, ev, fi, tr) (nI i) :=
  ⟨17, yw_k4 hL hi hl hS hp 16 0 17 0 (by omega) (by omega) (tp_M_0 (fun j hj z => Nat.not_lt_zero _ z.2))⟩
def yw_I3 (B : Nat → Prop) (K f : Nat → Nat) (ev : Nat → Int32) (d : Int32) (g : Nat → Prop) (r i : Nat) : Prop :=
  tp_YG B K f ev g ∧ tp_Dr K f g r d (fun s => s < 16 * i)
theorem yw_fe_in {post : SY → Prop} {J : Int32 → Int32 → (Nat → Int32) → (Nat → Int32) → (Nat → Int32) → (Nat → Int32) → (Nat → Int32) → (Nat → Int32) → (Nat → Int32) → (Nat → Int32) → (Nat → Int32) → (Nat → Int32) → Prop} {B : Nat → Prop} {r : Nat} (hL : L ≤ 16) (W : tp_Wf L B (tp_K ops nums L) (tp_f ops nums))
    (hJ : ∀ ev' d' g', yw_I3 B (tp_K ops nums L) (tp_f ops nums) ev' d' g' r 256 → J d' (nI (r + 1)) ops nums lws hgs al la fd ev' fi tr) :
    ∀ (e i n : Nat) (ev : Nat → Int32) (d : Int32) (g : Nat → Prop), i + e = 256 → e < n → yw_I3 B (tp_K ops nums L) (tp_f ops nums) ev d g r i → wY_goOnForEver_46 post J (nI r) (nI L) kn en n d (nI i) ops nums lws hgs al la fd ev fi tr := by
  intro e
  induction e with
  | zero =>
    intro i n ev d g hi hn hI
    obtain ⟨n, rfl⟩ : ∃ m, n = m + 1 := ⟨n - 1, by omega⟩
    have e : i = 256 := by omega
    subst e
    exact br_t (nI_le (a := 256) (b := 256) (by omega) (by omega)) (tp_n1 (hJ ev d g hI))
  | succ e ih =>
    intro i n ev d g hi hn hI
    obtain ⟨n, rfl⟩ : ∃ m, n = m + 1 := ⟨n - 1, by omega⟩
    have h256 : i < 256 := by omega
    have hcl : (nI i).toNatClampNeg = i := nI_clamp (by omega)
    have hin : vp_in (nI i) 256 := vp_in_nI h256 (by omega)
    refine br_f (nI_ge (b := 256) h256 (by omega)) ?_
    rw [hcl]
    refine yw_kept hL h256 (fun s hs => by have := tp_P_lt W (hI.1.1 s hs); omega) hI.1.2.2 (fun m hm => ⟨hin, br_c (fun ee => tp_n1 ?_) (fun ne => ⟨hin, nm_e (tp_n1 ?_)⟩)⟩)
    · refine ih (i + 1) n ev d g (by omega) (by omega) ⟨hI.1, tp_Dr_k hI.2 (fun s hs hgs => ?_)⟩
      rcases Nat.lt_or_ge s (16 * i) with z | z
      · exact Or.inl z
      · exact Or.inr (tp_YG_k hI.1 h256 hm ee s (by omega) hgs)
    · obtain ⟨y1, y2⟩ := tp_YG_d hI.1 h256 hm ne
      exact ih (i + 1) n _ _ _ (by omega) (by omega) ⟨y1, tp_Dr_d _ hI.2 y2⟩
theorem yw_fe_out {post : SY → Prop} {B : Nat → Prop} (hL : L ≤ 16) (W : tp_Wf L B (tp_K ops nums L) (tp_f ops nums)) (hp : ∀ ev', tp_S ev' (tp_G B (tp_K ops nums L) (tp_f ops nums)) → post (nI L, kn, en, ops, nums, lws, hgs, al, la, fd, ev', fi, tr)) :
    ∀ (e r n : Nat) (ev : Nat → Int32) (d : Int32) (g : Nat → Prop), r + e = 4097 → e < n → tp_YG B (tp_K ops nums L) (tp_f ops nums) ev g → tp_Hd (tp_K ops nums L) (tp_f ops nums) g r d → wY_goOnForEver_31 post (nI L) kn en n d (nI r) ops nums lws hgs al la fd ev fi tr := by
  have fin : ∀ (ev : Nat → Int32) (g : Nat → Prop), tp_YG B (tp_K ops nums L) (tp_f ops nums) ev g → (∀ s, g s → tp_Cl (tp_K ops nums L) (tp_f ops nums) g s) → post (nI L, kn, en, ops, nums, lws, hgs, al, la, fd, ev, fi, tr) :=
    fun ev g h1 h2 => hp ev (tp_S_e h1.2.2 (fun s _ => ⟨fun hs => tp_G_all h1.1 h2 hs, h1.2.1 s⟩))
  intro e
  induction e with
  | zero =>
    intro r n ev d g hr hn hI hH
    obtain ⟨n, rfl⟩ : ∃ m, n = m + 1 := ⟨n - 1, by omega⟩
    have e : r = 4097 := by omega
    subst e
    exact br_t (nI_le (a := 4097) (b := 4097) (by omega) (by omega)) (fin ev g hI (tp_Hd_x hH))
  | succ e ih =>
    intro r n ev d g hr hn hI hH
    obtain ⟨n, rfl⟩ : ∃ m, n = m + 1 := ⟨n - 1, by omega⟩
    refine br_f (nI_ge (b := 4097) (a := r) (by omega) (by omega)) (br_c (fun e0 => ?_) (fun n0 => ⟨257, ?_⟩))
    · subst e0
      exact fin ev g hI (tp_Hd_0 hH)
    · exact yw_fe_in hL W (fun ev' d' g' hI' => ih (r + 1) n ev' d' g' (by omega) (by omega) hI'.1 (tp_Dr_e hI'.2 (fun s hs => by have := tp_P_lt W (hI'.1.1 s hs); omega))) 256 0 257 ev 0 g (by omega) (by omega) ⟨hI, Or.inl ⟨rfl, tp_Hd_1 hH n0, fun s hs => absurd hs (Nat.not_lt_zero _)⟩⟩
theorem yw_fe_0 {post : SY → Prop} (hp : ∀ ev', (∀ i, i < 256 → ev' i = al i) → ∃ n, wY_goOnForEver_31 post sz kn en n 1 0 ops nums lws hgs al la fd ev' fi tr) :
    ∀ (e i n : Nat) (ev : Nat → Int32), i + e = 256 → e < n → (∀ k, k < i → ev k = al k) → wY_goOnForEver_2 post sz kn en n (nI i) ops nums lws hgs al la fd ev fi tr := by
  intro e
  induction e with
  | zero =>
    intro i n ev hi hn hI
    obtain ⟨n, rfl⟩ : ∃ m, n = m + 1 := ⟨n - 1, by omega⟩
    have e : i = 256 := by omega
    subst e
    exact br_t (nI_le (a := 256) (b := 256) (by omega) (by omega)) (hp ev hI)
  | succ e ih =>
    intro i n ev hi hn hI
    obtain ⟨n, rfl⟩ : ∃ m, n = m + 1 := ⟨n - 1, by omega⟩
    have hcl : (nI i).toNatClampNeg = i := nI_clamp (by omega)
    have hin : vp_in (nI i) 256 := vp_in_nI (by omega) (by omega)
    refine br_f (nI_ge (b := 256) (a := i) (by omega) (by omega)) ?_
    rw [hcl]
    refine ⟨hin, hin, nm_e (tp_n1 (ih (i + 1) n _ (by omega) (by omega) (fun k hk => ?_)))⟩
    by_cases e : k = i
    · subst e; rw [pk_us]
    · rw [pk_un e]; exact hI k (by omega)
theorem yw_fe {post : SY → Prop} {B : Nat → Prop} (hL : L ≤ 16) (W : tp_Wf L B (tp_K ops nums L) (tp_f ops nums)) (hA : tp_S al (tp_P B (tp_K ops nums L) (tp_f ops nums))) (hp : ∀ ev', tp_S ev' (tp_G B (tp_K ops nums L) (tp_f ops nums)) → post (nI L, kn, en, ops, nums, lws, hgs, al, la, fd, ev', fi, tr)) : wpY_goOnForEver post (nI L, kn, en, ops, nums, lws, hgs, al, la, fd, ev, fi, tr) := by
  refine ⟨257, yw_fe_0 (fun ev' h => ⟨4098, ?_⟩) 256 0 257 ev (by omega) (by omega) (fun k hk => absurd hk (Nat.not_lt_zero _))⟩
  refine yw_fe_out hL W hp 4097 0 4098 ev' 1 (tp_P B (tp_K ops nums L) (tp_f ops nums)) (by omega) (by omega) ⟨fun s hs => hs, fun s hs => tp_G_P hs, fun i hi => by rw [h i hi]; exact hA i hi⟩ (Or.inl ⟨rfl, ?_⟩)
  exact tp_cn_le _ _ _
end
