/-! the reference goes on from a state, a round, and taking -/
section
variable {sz kn en : Int32} {ops nums lws hgs al la fd ev fi tr : Nat → Int32} {L : Nat}
theorem yw_26 {post : SY → Prop} {J : Int32 → Int32 → (Nat → Int32) → (Nat → Int32) → (Nat → Int32) → (Nat → Int32) → (Nat → Int32) → (Nat → Int32) → (Nat → Int32) → (Nat → Int32) → (Nat → Int32) → (Nat → Int32) → Prop} {Z Fd A : Nat → Prop} {t v : Nat} (hL : L ≤ 16) (ht : t / 256 < L) (h4 : t < 4096) (hv : v < 16) (hv9 : v = 0 ∨ ops (t / 256) = 9) (hA : tp_S al A) (hZ : ¬ Z t)
    (hI : tp_YZ (tp_F ops nums L) (tp_Zv Z t v) (tp_Nv Fd A (tp_K ops nums L) (tp_f ops nums) t v) fd tr en)
    (hJ : ∀ fd' tr' en', tp_YZ (tp_F ops nums L) (tp_Zv Z t (v + 1)) (tp_Nv Fd A (tp_K ops nums L) (tp_f ops nums) t (v + 1)) fd' tr' en' → J (nI (v + 1)) en' ops nums lws hgs al la fd' ev fi tr') :
    wY_goOn_26 post J (nI (t / 256)) (nI (t / 16 % 16)) (nI (t % 16)) (nI v) (nI L) kn en ops nums lws hgs al la fd ev fi tr := by
  unfold wY_goOn_26
  refine yw_after hL ht hv hv9 (fun hF hK => ?_) (fun hF hK hv0 => ?_) (fun hF hK hs => ?_)
  · refine br_f (by decide) (br_t rfl (tp_n1 (hJ _ _ _ ?_)))
    exact tp_YZ_e (tp_YZ_end hI hF) (fun s => tp_Zv_s s) (fun s _ => tp_Nv_k (by omega) s)
  · have hin : vp_in (nI (t / 256)) 16 := vp_in_nI (by omega) (by omega)
    have hcl : (nI (t / 256)).toNatClampNeg = t / 256 := nI_clamp (by omega)
    rw [hcl]
    refine br_t rfl ⟨hin, hin, nm_e (tp_n1 (hJ _ _ _ ?_))⟩
    have hZ' : ¬ tp_Zv Z t v t := by
      rintro (z | z)
      · exact hZ z
      · have := z.2; omega
    exact tp_YZ_e (tp_YZ_trap hI hF hZ' h4) (fun s => tp_Zv_s s) (fun s _ => tp_Nv_k (by omega) s)
  · obtain ⟨k1, k2, -⟩ := tp_nIneg (n := tp_f ops nums t + v) (by omega)
    obtain ⟨j1, j2, -⟩ := tp_nIneg (n := tp_f ops nums t) (by omega)
    refine br_f k2 (br_f k1 ?_)
    have e1 : nI (tp_f ops nums t + v) / 16 = nI ((tp_f ops nums t + v) / 16) := pk_div (d := 16) (by omega) (by omega) (by omega)
    have e2 : nI (tp_f ops nums t + v) - nI (tp_f ops nums t + v) / 16 * 16 = nI ((tp_f ops nums t + v) % 16) := pk_rem (d := 16) (by omega) (by omega) (by omega)
    have hcl : (nI ((tp_f ops nums t + v) / 16)).toNatClampNeg = (tp_f ops nums t + v) / 16 := nI_clamp (by omega)
    have hin : vp_in (nI ((tp_f ops nums t + v) / 16)) 256 := vp_in_nI (by omega) (by omega)
    rw [e2, e1, hcl]
    refine ⟨by decide, nm_e ⟨by decide, by decide, hin, by decide, hin, hin, nm_e (tp_n1 (hJ _ _ _ ?_))⟩⟩
    exact tp_YZ_e (tp_YZ_no (tp_YZ_fd hI hA hs) (by rw [hF]; exact j1) (by rw [hF]; exact j2)) (fun s => tp_Zv_s s) (fun s _ => tp_Nv_s hK s)
theorem yw_go_l {post : SY → Prop} {Z Fd A : Nat → Prop} {t : Nat} (hL : L ≤ 16) (ht : t / 256 < L) (h4 : t < 4096) (hA : tp_S al A) (hZ : ¬ Z t)
    (hp : ∀ fd' tr' en', tp_YZ (tp_F ops nums L) (tp_Zv Z t 16) (tp_Nv Fd A (tp_K ops nums L) (tp_f ops nums) t 16) fd' tr' en' → post (nI L, kn, en', ops, nums, lws, hgs, al, la, fd', ev, fi, tr')) :
    ∀ (e v n : Nat) (fd tr : Nat → Int32) (en : Int32), v + e = 16 → e < n → tp_YZ (tp_F ops nums L) (tp_Zv Z t v) (tp_Nv Fd A (tp_K ops nums L) (tp_f ops nums) t v) fd tr en → wY_goOn_3 post (nI (t / 256)) (nI (t / 16 % 16)) (nI (t % 16)) (nI L) kn n (nI v) en ops nums lws hgs al la fd ev fi tr := by
  intro e
  induction e with
  | zero =>
    intro v n fd tr en hv hn hI
    obtain ⟨n, rfl⟩ : ∃ m, n = m + 1 := ⟨n - 1, by omega⟩
    have e : v = 16 := by omega
    subst e
    exact br_t (nI_le (a := 16) (b := 16) (by omega) (by omega)) (hp _ _ _ hI)
  | succ e ih =>
    intro v n fd tr en hv hn hI
    obtain ⟨n, rfl⟩ : ∃ m, n = m + 1 := ⟨n - 1, by omega⟩
    have hin : vp_in (nI (t / 256)) 16 := vp_in_nI (by omega) (by omega)
    have hcl : (nI (t / 256)).toNatClampNeg = t / 256 := nI_clamp (by omega)
    refine br_f (nI_ge (b := 16) (a := v) (by omega) (by omega)) (pk_eq v 0 (fun e0 => ?_) (fun n0 => ⟨hin, ?_⟩))
    · exact yw_26 hL ht h4 (by omega) (Or.inl e0) hA hZ hI (fun fd' tr' en' hI' => ih (v + 1) n fd' tr' en' (by omega) (by omega) hI')
    · rw [hcl]
      refine br_c (fun e9 => ?_) (fun n9 => tp_n1 ?_)
      · exact yw_26 hL ht h4 (by omega) (Or.inr e9) hA hZ hI (fun fd' tr' en' hI' => ih (v + 1) n fd' tr' en' (by omega) (by omega) hI')
      · have hK : tp_K ops nums L t ≤ v := by
          rcases tp_Fc (ops := ops) (nums := nums) hL t with h | h | h
          · rw [h.2]; omega
          · rw [h.2.1]; omega
          · rcases h.2.2.2.1 with z | z
            · exact absurd z.1 n9
            · rw [z.2]; omega
        exact ih (v + 1) n fd tr en (by omega) (by omega) (tp_YZ_e hI (fun s => tp_Zv_k (by omega) s) (fun s _ => tp_Nv_k hK s))
theorem yw_K16 (hL : L ≤ 16) (t : Nat) : tp_K ops nums L t ≤ 16 := by
  rcases tp_Fc (ops := ops) (nums := nums) hL t with h | h | h
  · rw [h.2]; omega
  · rw [h.2.1]; omega
  · rcases h.2.2.2.1 with z | z <;> rw [z.2] <;> omega
theorem yw_goOn {post : SY → Prop} {Z Fd A : Nat → Prop} {t : Nat} (hL : L ≤ 16) (ht : t / 256 < L) (h4 : t < 4096) (hA : tp_S al A) (hZ : ¬ Z t) (hI : tp_YZ (tp_F ops nums L) Z Fd fd tr en)
    (hp : ∀ fd' tr' en', tp_YZ (tp_F ops nums L) (fun s => Z s ∨ s = t) (fun s => Fd s ∨ (¬ A s ∧ tp_E (tp_K ops nums L) (tp_f ops nums) t s)) fd' tr' en' → post (nI L, kn, en', ops, nums, lws, hgs, al, la, fd', ev, fi, tr')) :
    wpY_goOn post (nI L, kn, en, ops, nums, lws, hgs, al, la, fd, ev, fi, tr) (nI (t / 256)) (nI (t / 16 % 16)) (nI (t % 16)) :=
  ⟨17, yw_go_l hL ht h4 hA hZ (fun fd' tr' en' hI' => hp fd' tr' en' (tp_YZ_e hI' (fun s => tp_Zv_x s) (fun s _ => tp_Nv_x (yw_K16 hL t) s))) 16 0 17 fd tr en (by omega) (by omega) (tp_YZ_e hI (fun s => tp_Zv_0 s) (fun s _ => tp_Nv_0 s))⟩
theorem yw_rd_in {post : SY → Prop} {J : Int32 → Int32 → Int32 → Int32 → (Nat → Int32) → (Nat → Int32) → (Nat → Int32) → (Nat → Int32) → (Nat → Int32) → (Nat → Int32) → (Nat → Int32) → (Nat → Int32) → (Nat → Int32) → (Nat → Int32) → Prop} {B : Nat → Prop} {i m : Nat} (hL : L ≤ 16) (W : tp_Wf L B (tp_K ops nums L) (tp_f ops nums)) (hi : i < 256) (hA : tp_S al (tp_A B (tp_K ops nums L) (tp_f ops nums) m)) (hD : tp_S la (fun s => tp_D B (tp_K ops nums L) (tp_f ops nums) s m))
    (hJ : ∀ fd' tr' en', tp_YZ (tp_F ops nums L) (tp_Zc B (tp_K ops nums L) (tp_f ops nums) m (16 * (i + 1))) (tp_Nc B (tp_K ops nums L) (tp_f ops nums) m (16 * (i + 1))) fd' tr' en' → J (nI (i + 1)) (nI L) kn en' ops nums lws hgs al la fd' ev fi tr') :
    ∀ (e y n : Nat) (fd tr : Nat → Int32) (en : Int32), y + e = 16 → e < n → tp_YZ (tp_F ops nums L) (tp_Zc B (tp_K ops nums L) (tp_f ops nums) m (16 * i + y)) (tp_Nc B (tp_K ops nums L) (tp_f ops nums) m (16 * i + y)) fd tr en → wY_round_33 post J (nI i) n (nI y) (nI L) kn en ops nums lws hgs al la fd ev fi tr := by
  intro e
  induction e with
  | zero =>
    intro y n fd tr en hy hn hI
    obtain ⟨n, rfl⟩ : ∃ m, n = m + 1 := ⟨n - 1, by omega⟩
    have e : y = 16 := by omega
    subst e
    exact br_t (nI_le (a := 16) (b := 16) (by omega) (by omega)) (tp_n1 (hJ _ _ _ hI))
  | succ e ih =>
    intro y n fd tr en hy hn hI
    obtain ⟨n, rfl⟩ : ∃ m, n = m + 1 := ⟨n - 1, by omega⟩
    have hy' : y < 16 := by omega
    have hcl : (nI i).toNatClampNeg = i := nI_clamp (by omega)
    have e1 : nI i / 16 = nI (i / 16) := pk_div (d := 16) (by omega) (by omega) (by omega)
    have e2 : nI i - nI i / 16 * 16 = nI (i % 16) := pk_rem (d := 16) (by omega) (by omega) (by omega)
    refine br_f (nI_ge (b := 16) (a := y) hy' (by omega)) ⟨vp_in_nI hi (by omega), ?_⟩
    rw [hcl, e2, e1]
    refine ek_if (tp_M_bit (hD i hi) hy') (fun hd => ⟨by decide, by decide, ?_⟩) (fun hd => tp_n1 ?_)
    · have hlt := tp_D_lt hL W hd
      have hl2 := tp_R_lt W hd.1
      have g := yw_goOn (post := fun u => match u with | (sz', kn', en', ops', nums', lws', hgs', al', la', fd', ev', fi', tr') => (∀ x2 : Int32, x2 = nI y + 1 → (wY_round_33 post J (nI i) n x2 sz' kn' en' ops' nums' lws' hgs' al' la' fd' ev' fi' tr'))) (kn := kn) (lws := lws) (hgs := hgs) (la := la) (ev := ev) (fi := fi) (t := 16 * i + y) hL (by omega) (by omega) hA (tp_Zc_n hd) hI (fun fd' tr' en' hI' => tp_n1 (ih (y + 1) n fd' tr' en' (by omega) (by omega) (tp_YZ_e hI' (fun s => tp_Zc_s hd s) (fun s _ => tp_Nc_s hd s))))
      rw [show (16 * i + y) / 256 = i / 16 by omega, show (16 * i + y) / 16 % 16 = i % 16 by omega, show (16 * i + y) % 16 = y by omega] at g
      exact g
    · exact ih (y + 1) n fd tr en (by omega) (by omega) (tp_YZ_e hI (fun s => tp_Zc_k hd s) (fun s _ => tp_Nc_k hd s))
theorem yw_rd_out {post : SY → Prop} {B : Nat → Prop} {m : Nat} (hL : L ≤ 16) (W : tp_Wf L B (tp_K ops nums L) (tp_f ops nums)) (hA : tp_S al (tp_A B (tp_K ops nums L) (tp_f ops nums) m)) (hD : tp_S la (fun s => tp_D B (tp_K ops nums L) (tp_f ops nums) s m))
    (hp : ∀ fd' tr' en', tp_YZ (tp_F ops nums L) (tp_Zc B (tp_K ops nums L) (tp_f ops nums) m 4096) (tp_Nc B (tp_K ops nums L) (tp_f ops nums) m 4096) fd' tr' en' → post (nI L, kn, en', ops, nums, lws, hgs, al, la, fd', ev, fi, tr')) :
    ∀ (e i n : Nat) (fd tr : Nat → Int32) (en : Int32), i + e = 256 → e < n → tp_YZ (tp_F ops nums L) (tp_Zc B (tp_K ops nums L) (tp_f ops nums) m (16 * i)) (tp_Nc B (tp_K ops nums L) (tp_f ops nums) m (16 * i)) fd tr en → wY_round_24 post n (nI i) (nI L) kn en ops nums lws hgs al la fd ev fi tr := by
  intro e
  induction e with
  | zero =>
    intro i n fd tr en hi hn hI
    obtain ⟨n, rfl⟩ : ∃ m, n = m + 1 := ⟨n - 1, by omega⟩
    have e : i = 256 := by omega
    subst e
    exact br_t (nI_le (a := 256) (b := 256) (by omega) (by omega)) (hp _ _ _ hI)
  | succ e ih =>
    intro i n fd tr en hi hn hI
    obtain ⟨n, rfl⟩ : ∃ m, n = m + 1 := ⟨n - 1, by omega⟩
    refine br_f (nI_ge (b := 256) (a := i) (by omega) (by omega)) ⟨17, ?_⟩
    exact yw_rd_in hL W (by omega) hA hD (fun fd' tr' en' hI' => ih (i + 1) n fd' tr' en' (by omega) (by omega) hI') 16 0 17 fd tr en (by omega) (by omega) hI
theorem yw_rd_0 {post : SY → Prop} (hp : ∀ fd', (∀ i, i < 256 → fd' i = 0) → ∃ n, wY_round_24 post n 0 sz kn en ops nums lws hgs al la fd' ev fi tr) :
    ∀ (e i n : Nat) (fd : Nat → Int32), i + e = 256 → e < n → (∀ k, k < i → fd k = 0) → wY_round_2 post sz kn en n (nI i) ops nums lws hgs al la fd ev fi tr := by
  intro e
  induction e with
  | zero =>
    intro i n fd hi hn hI
    obtain ⟨n, rfl⟩ : ∃ m, n = m + 1 := ⟨n - 1, by omega⟩
    have e : i = 256 := by omega
    subst e
    exact br_t (nI_le (a := 256) (b := 256) (by omega) (by omega)) (hp fd hI)
  | succ e ih =>
    intro i n fd hi hn hI
    obtain ⟨n, rfl⟩ : ∃ m, n = m + 1 := ⟨n - 1, by omega⟩
    refine br_f (nI_ge (b := 256) (a := i) (by omega) (by omega)) ⟨vp_in_nI (by omega) (by omega), tp_nu (by omega) (tp_n1 ?_)⟩
    refine ih (i + 1) n _ (by omega) (by omega) (fun k hk => ?_)
    by_cases e : k = i
    · subst e; rw [pk_us]
    · rw [pk_un e]; exact hI k (by omega)
theorem yw_round {post : SY → Prop} {B : Nat → Prop} {m : Nat} (hL : L ≤ 16) (W : tp_Wf L B (tp_K ops nums L) (tp_f ops nums)) (h : tp_YS B (tp_K ops nums L) (tp_f ops nums) (tp_F ops nums L) m al la fi tr en)
    (hp : ∀ fd' tr' en', tp_YZ (tp_F ops nums L) (tp_A B (tp_K ops nums L) (tp_f ops nums) m) (fun s => tp_D B (tp_K ops nums L) (tp_f ops nums) s (m + 1)) fd' tr' en' → post (nI L, kn, en', ops, nums, lws, hgs, al, la, fd', ev, fi, tr')) : wpY_round post (nI L, kn, en, ops, nums, lws, hgs, al, la, fd, ev, fi, tr) := by
  refine ⟨257, yw_rd_0 (fun fd' h0 => ⟨257, ?_⟩) 256 0 257 fd (by omega) (by omega) (fun k hk => absurd hk (Nat.not_lt_zero _))⟩
  exact yw_rd_out hL W h.1 h.2.1 (fun fd2 tr2 en2 hI => hp fd2 tr2 en2 (tp_YZ_e hI (fun s => tp_Zc_x hL W s) (fun s _ => tp_Nc_x hL W s))) 256 0 257 fd' tr en (by omega) (by omega) (tp_YS_r h h0)
/-- while taking: rows below i are taken -/
def yw_T (A Fd : Nat → Prop) (fst0 : Nat → Int32) (m i : Nat) (al la fi : Nat → Int32) (any : Int32) : Prop :=
  tp_S al (fun s => A s ∨ (Fd s ∧ s / 16 < i)) ∧ (∀ k, k < i → tp_M (la k) k Fd) ∧ tp_YF fst0 fi Fd m i ∧ any = nI (tp_b (∃ s, s < 16 * i ∧ Fd s))
theorem yw_T_al {A Fd : Nat → Prop} {i : Nat} (hi : i < 256) (h : tp_S al (fun s => A s ∨ (Fd s ∧ s / 16 < i))) (hf : tp_S fd Fd) : tp_S (upd al i (al i ||| fd i)) (fun s => A s ∨ (Fd s ∧ s / 16 < i + 1)) := by
  refine tp_S_u h hi (tp_M_e (tp_M_or (h i hi) (hf i hi)) (fun j hj => ⟨fun z => ?_, fun z => ?_⟩)) (fun s hs => ⟨fun z => z.elim Or.inl (fun y => Or.inr ⟨y.1, by have := y.2; omega⟩), fun z => z.elim Or.inl (fun y => Or.inr ⟨y.1, by have := y.2; omega⟩)⟩)
  · rcases z with (z | z) | z
    · exact Or.inl z
    · exact Or.inr ⟨z.1, by omega⟩
    · exact Or.inr ⟨z, by omega⟩
  · rcases z with z | z
    · exact Or.inl (Or.inl z)
    · exact Or.inr z.1
theorem yw_T_la {Fd : Nat → Prop} {i : Nat} (hi : i < 256) (h : ∀ k, k < i → tp_M (la k) k Fd) (hf : tp_S fd Fd) : ∀ k, k < i + 1 → tp_M (upd la i (fd i) k) k Fd := by
  intro k hk
  by_cases e : k = i
  · subst e; rw [pk_us]; exact hf k hi
  · rw [pk_un e]; exact h k (by omega)
theorem yw_tk_l {post : Int32 → SY → Prop} {A Fd : Nat → Prop} {fst0 : Nat → Int32} {m : Nat} (hm : m < 2 ^ 31) (hf : tp_S fd Fd)
    (hp : ∀ al' la' fi' any, yw_T A Fd fst0 m 256 al' la' fi' any → post any (sz, kn, en, ops, nums, lws, hgs, al', la', fd, ev, fi', tr)) :
    ∀ (e i n : Nat) (al la fi : Nat → Int32) (any : Int32), i + e = 256 → e < n → yw_T A Fd fst0 m i al la fi any → wY_take_4 post (nI m) sz kn en n any (nI i) ops nums lws hgs al la fd ev fi tr := by
  intro e
  induction e with
  | zero =>
    intro i n al la fi any hi hn hI
    obtain ⟨n, rfl⟩ : ∃ m, n = m + 1 := ⟨n - 1, by omega⟩
    have e : i = 256 := by omega
    subst e
    refine br_t (nI_le (a := 256) (b := 256) (by omega) (by omega)) ⟨?_, hp _ _ _ _ hI⟩
    rw [hI.2.2.2]
    by_cases z : ∃ s, s < 16 * 256 ∧ Fd s
    · rw [tp_b1 z]; rfl
    · rw [tp_b0 z]; rfl
  | succ e ih =>
    intro i n al la fi any hi hn hI
    obtain ⟨n, rfl⟩ : ∃ m, n = m + 1 := ⟨n - 1, by omega⟩
    have h256 : i < 256 := by omega
    have hcl : (nI i).toNatClampNeg = i := nI_clamp (by omega)
    have e1 : nI i / 16 = nI (i / 16) := pk_div (d := 16) (by omega) (by omega) (by omega)
    have hcl2 : (nI (i / 16)).toNatClampNeg = i / 16 := nI_clamp (by omega)
    have hin : vp_in (nI i) 256 := vp_in_nI h256 (by omega)
    have hin2 : vp_in (nI (i / 16)) 16 := vp_in_nI (by omega) (by omega)
    refine br_f (nI_ge (b := 256) h256 (by omega)) ?_
    rw [hcl, e1, hcl2]
    refine ⟨hin, hin, hin, nm_e ⟨hin, hin, nm_e ⟨hin, ?_⟩⟩⟩
    refine br_c (fun e0 => tp_n1 ?_) (fun n0 => ⟨by decide, hin2, br_c (fun e5 => ⟨by decide, hin2, nm_e (tp_n1 ?_)⟩) (fun n5 => tp_n1 ?_)⟩)
    · have hno := (tp_M_z (hf i h256)).mp e0
      refine ih (i + 1) n _ _ _ _ (by omega) (by omega) ⟨yw_T_al h256 hI.1 hf, yw_T_la h256 hI.2.1 hf, tp_YF_n hI.2.2.1 hno, ?_⟩
      rw [hI.2.2.2]
      refine congrArg nI (tp_be ⟨fun ⟨s, h1, h2⟩ => ⟨s, by omega, h2⟩, fun ⟨s, h1, h2⟩ => ⟨s, ?_, h2⟩⟩)
      rcases Nat.lt_or_ge s (16 * i) with z | z
      · exact z
      · have e : s = 16 * i + (s - 16 * i) := by omega
        rw [e] at h2
        exact absurd h2 (hno _ (by omega))
    · obtain ⟨j, hj, hFd⟩ : ∃ j, j < 16 ∧ Fd (16 * i + j) := Classical.byContradiction (fun z => n0 ((tp_M_z (hf i h256)).mpr (fun j hj hs => z ⟨j, hj, hs⟩)))
      refine ih (i + 1) n _ _ _ _ (by omega) (by omega) ⟨yw_T_al h256 hI.1 hf, yw_T_la h256 hI.2.1 hf, tp_YF_s hm hj hI.2.2.1 hFd e5, ?_⟩
      rw [tp_b1 ⟨16 * i + j, by omega, hFd⟩]; rfl
    · obtain ⟨j, hj, hFd⟩ : ∃ j, j < 16 ∧ Fd (16 * i + j) := Classical.byContradiction (fun z => n0 ((tp_M_z (hf i h256)).mpr (fun j hj hs => z ⟨j, hj, hs⟩)))
      refine ih (i + 1) n _ _ _ _ (by omega) (by omega) ⟨yw_T_al h256 hI.1 hf, yw_T_la h256 hI.2.1 hf, tp_YF_k hj hI.2.2.1 hFd n5, ?_⟩
      rw [tp_b1 ⟨16 * i + j, by omega, hFd⟩]; rfl
theorem yw_take {post : Int32 → SY → Prop} {A Fd : Nat → Prop} {m : Nat} (hm : m < 2 ^ 31) (hA : tp_S al A) (hf : tp_S fd Fd) (h4 : ∀ s, Fd s → s < 4096)
    (hp : ∀ al' la' fi', tp_S al' (fun s => A s ∨ Fd s) → tp_S la' Fd → tp_YF fi fi' Fd m 256 → post (nI (tp_b (∃ s, Fd s))) (sz, kn, en, ops, nums, lws, hgs, al', la', fd, ev, fi', tr)) : wpY_take post (sz, kn, en, ops, nums, lws, hgs, al, la, fd, ev, fi, tr) (nI m) := by
  refine ⟨257, yw_tk_l (A := A) (fst0 := fi) hm hf (fun al' la' fi' any hT => ?_) 256 0 257 al la fi 0 (by omega) (by omega) ⟨tp_S_e hA (fun s _ => ⟨Or.inl, fun z => z.elim id (fun y => absurd y.2 (Nat.not_lt_zero _))⟩), fun k hk => absurd hk (Nat.not_lt_zero _), tp_YF_0 _ _ _, ?_⟩⟩
  · have e : any = nI (tp_b (∃ s, Fd s)) := by
      rw [hT.2.2.2]
      exact congrArg nI (tp_be ⟨fun ⟨s, _, h2⟩ => ⟨s, h2⟩, fun ⟨s, h2⟩ => ⟨s, by have := h4 s h2; omega, h2⟩⟩)
    rw [e]
    refine hp al' la' fi' (tp_S_e hT.1 (fun s hs => ⟨fun z => z.elim Or.inl (fun y => Or.inr y.1), fun z => z.elim Or.inl (fun y => Or.inr ⟨y, by omega⟩)⟩)) (fun i hi => hT.2.1 i hi) hT.2.2.1
  · rw [tp_b0 (fun ⟨s, h1, _⟩ => by omega)]; rfl
end
