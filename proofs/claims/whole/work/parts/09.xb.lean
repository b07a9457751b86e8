/-! the component's exploring -/
section
variable {ln lx gx ly gy ex pc ec : Int32} {ops nums ord st fn nc go : Nat → Int32} {L : Nat}
/-- firstNext and nextCount are right below i -/
def xw_N (ops nums : Nat → Int32) (L : Nat) (fn nc : Nat → Int32) (i : Nat) : Prop := ∀ s, s < i → fn s = tp_F ops nums L s ∧ nc s = nI (tp_K ops nums L s)
theorem xw_N_s {i : Nat} (h : xw_N ops nums L fn nc i) {a b : Int32} (ha : a = tp_F ops nums L i) (hb : b = nI (tp_K ops nums L i)) : xw_N ops nums L (upd fn i a) (upd nc i b) (i + 1) := by
  intro s hs
  by_cases e : s = i
  · subst e; rw [pk_us, pk_us]; exact ⟨ha, hb⟩
  · rw [pk_un e, pk_un e]; exact h s (by omega)
theorem xw_fns_l {post : SX → Prop} (hL : L ≤ 16) : ∀ (d i n : Nat) (fn nc : Nat → Int32), i + d = 4096 → d < n → xw_N ops nums L fn nc i → (∀ fn' nc', xw_N ops nums L fn' nc' 4096 → post (nI L, lx, gx, ly, gy, ex, pc, ec, ops, nums, ord, st, fn', nc', go)) → wX_findNextStates_2 post (nI L) lx gx ly gy ex pc ec n (nI i) ops nums ord st fn nc go := by
  intro d
  induction d with
  | zero =>
    intro i n fn nc hi hn hI hp
    obtain ⟨n, rfl⟩ : ∃ m, n = m + 1 := ⟨n - 1, by omega⟩
    have e : i = 4096 := by omega
    subst e
    exact br_t (nI_le (a := 4096) (b := 4096) (by omega) (by omega)) (hp fn nc hI)
  | succ d ih =>
    intro i n fn nc hi hn hI hp
    obtain ⟨n, rfl⟩ : ∃ m, n = m + 1 := ⟨n - 1, by omega⟩
    have h4 : i < 4096 := by omega
    have hin : vp_in (nI i) 4096 := vp_in_nI h4 (by omega)
    refine br_f (nI_ge (b := 4096) h4 (by omega)) (xw_first hL h4 ⟨hin, tp_nu (by omega) ?_⟩)
    rcases tp_Fc (ops := ops) (nums := nums) hL i with ⟨hF, hK⟩ | ⟨hF, hK, -⟩ | ⟨hF, hq, hle, hk, -⟩
    · rw [hF]
      refine xw_state_n (by decide) (br_t rfl ⟨hin, tp_nu (by omega) (tp_n1 ?_)⟩)
      exact ih (i + 1) n _ _ (by omega) (by omega) (xw_N_s hI hF.symm (by rw [hK]; rfl)) hp
    · rw [hF]
      refine xw_state_n (by decide) (br_t rfl ⟨hin, tp_nu (by omega) (tp_n1 ?_)⟩)
      exact ih (i + 1) n _ _ (by omega) (by omega) (xw_N_s hI hF.symm (by rw [hK]; rfl)) hp
    · rw [hF]
      refine xw_state (by rcases hk with k | k <;> omega) (br_f (by decide) (xw_ch hL h4 (fun _ e9 => ⟨hin, tp_nu (by omega) (tp_n1 ?_)⟩) (fun n9 => ⟨hin, tp_nu (by omega) (tp_n1 ?_)⟩)))
      · refine ih (i + 1) n _ _ (by omega) (by omega) (xw_N_s hI hF.symm ?_) hp
        rcases hk with k | k
        · rw [k.2]; rfl
        · exact absurd e9 k.1
      · refine ih (i + 1) n _ _ (by omega) (by omega) (xw_N_s hI hF.symm ?_) hp
        rcases hk with k | k
        · exact absurd k.1 (n9 hq)
        · rw [k.2]; rfl
theorem xw_fns {post : SX → Prop} (hL : L ≤ 16) (hp : ∀ fn' nc', xw_N ops nums L fn' nc' 4096 → post (nI L, lx, gx, ly, gy, ex, pc, ec, ops, nums, ord, st, fn', nc', go)) : wpX_findNextStates post (nI L, lx, gx, ly, gy, ex, pc, ec, ops, nums, ord, st, fn, nc, go) :=
  ⟨4097, xw_fns_l hL 4096 0 4097 fn nc (by omega) (by omega) (fun s hs => absurd hs (Nat.not_lt_zero _)) hp⟩
theorem xw_fps_l {post : SX → Prop} : ∀ (d i n : Nat) (st : Nat → Int32), i + d = 4096 → d < n → (∀ s, s < i → st s = -5) → (∀ st', (∀ s, s < 4096 → st' s = -5) → post (ln, lx, gx, ly, gy, ex, pc, ec, ops, nums, ord, st', fn, nc, go)) → wX_forgetPossibleStates_7 post ln lx gx ly gy ex pc ec n (nI i) ops nums ord st fn nc go := by
  intro d
  induction d with
  | zero =>
    intro i n st hi hn hI hp
    obtain ⟨n, rfl⟩ : ∃ m, n = m + 1 := ⟨n - 1, by omega⟩
    have e : i = 4096 := by omega
    subst e
    exact br_t (nI_le (a := 4096) (b := 4096) (by omega) (by omega)) (hp st hI)
  | succ d ih =>
    intro i n st hi hn hI hp
    obtain ⟨n, rfl⟩ : ∃ m, n = m + 1 := ⟨n - 1, by omega⟩
    have h4 : i < 4096 := by omega
    refine br_f (nI_ge (b := 4096) h4 (by omega)) ⟨vp_in_nI h4 (by omega), tp_nu (by omega) (tp_n1 ?_)⟩
    refine ih (i + 1) n _ (by omega) (by omega) (fun s hs => ?_) hp
    by_cases e : s = i
    · subst e; rw [pk_us]
    · rw [pk_un e]; exact hI s (by omega)
theorem xw_fps {post : SX → Prop} (hp : ∀ st', (∀ s, s < 4096 → st' s = -5) → post (ln, lx, gx, ly, gy, ex, 0, ec, ops, nums, ord, st', fn, nc, go)) : wpX_forgetPossibleStates post (ln, lx, gx, ly, gy, ex, pc, ec, ops, nums, ord, st, fn, nc, go) :=
  ⟨4097, xw_fps_l 4096 0 4097 st (by omega) (by omega) (fun s hs => absurd hs (Nat.not_lt_zero _)) hp⟩
theorem xw_reach {post : SX → Prop} {B : Nat → Prop} {K f : Nat → Nat} {w : Nat → Option Nat} {o : Nat → Nat} {c s n : Nat} (h : tp_XQ B K f st ord w o c) (h4 : s < 4096) (hn : n ≤ c) (hr : tp_R B K f n s) (hb : ∀ j b, j < c → w (o j) = some b → b ≤ n)
    (hp : ∀ st' ord' w' o' c', tp_Rc B K f w o c s n st' ord' w' o' c' → post (ln, lx, gx, ly, gy, ex, nI c', ec, ops, nums, ord', st', fn, nc, go)) : wpX_reach post (ln, lx, gx, ly, gy, ex, nI c, ec, ops, nums, ord, st, fn, nc, go) (nI s) (nI n) := by
  unfold wpX_reach
  dsimp only
  refine xw_state h4 (br_f (by decide) (xw_poss h4 (fun hne => br_f (by decide) ?_) (fun he => br_t rfl ?_)))
  · exact hp _ _ _ _ _ (tp_Rc_old h (fun e => hne ((tp_XQ_m h h4).mpr e)) hb)
  · have hs : w s = none := (tp_XQ_m h h4).mp he
    have hc := tp_Qc h.1 hs h4
    refine br_f (nI_pos (by omega)) (br_t (nI_lt (b := 4096) hc (by omega)) ⟨vp_in_nI h4 (by omega), tp_nu (by omega) ⟨vp_in_nI hc (by omega), tp_nu (by omega) (tp_n1 ?_)⟩⟩)
    exact hp _ _ _ _ _ (tp_Rc_new h hs h4 hn hr hb)
/-- while the beginnings are taken -/
def xw_I0 (B : Nat → Prop) (K f : Nat → Nat) (st ord : Nat → Int32) (w : Nat → Option Nat) (o : Nat → Nat) (c cur : Nat) : Prop :=
  tp_XQ B K f st ord w o c ∧ (∀ j b, j < c → w (o j) = some b → b ≤ 0) ∧ ∀ s, B s → s < cur → w s = some 0
theorem xw_I0_k {B : Nat → Prop} {K f : Nat → Nat} {w : Nat → Option Nat} {o : Nat → Nat} {c cur : Nat} (h : xw_I0 B K f st ord w o c cur) (hB : ¬ B cur) : xw_I0 B K f st ord w o c (cur + 1) := by
  refine ⟨h.1, h.2.1, fun s hs hl => ?_⟩
  rcases Nat.lt_or_ge s cur with z | z
  · exact h.2.2 s hs z
  · have e : s = cur := by omega
    rw [e] at hs
    exact absurd hs hB
theorem xw_I0_s {B : Nat → Prop} {K f : Nat → Nat} {w w' : Nat → Option Nat} {o o' : Nat → Nat} {c c' cur : Nat} {st' ord' : Nat → Int32} (h : xw_I0 B K f st ord w o c cur) (hr : tp_Rc B K f w o c cur 0 st' ord' w' o' c') : xw_I0 B K f st' ord' w' o' c' (cur + 1) := by
  refine ⟨hr.1, hr.2.2.2, fun s hs hl => ?_⟩
  rcases Nat.lt_or_ge s cur with z | z
  · exact hr.2.1.2.1 s 0 (h.2.2 s hs z)
  · have e : s = cur := by omega
    obtain ⟨b, hb, hl⟩ := hr.2.2.1
    have e0 : b = 0 := by omega
    rw [e, hb, e0]
theorem xw_rb_in {post : SX → Prop} {J : Int32 → Int32 → Int32 → Int32 → Int32 → Int32 → Int32 → Int32 → Int32 → (Nat → Int32) → (Nat → Int32) → (Nat → Int32) → (Nat → Int32) → (Nat → Int32) → (Nat → Int32) → (Nat → Int32) → Prop} {a b c d x : Nat} {K f : Nat → Nat} (ha : a < 16) (hb : b < 16) (hc : c < 16) (hd : d < 16) (hx : x < 16) (hL0 : 0 < L)
    (hJ : ∀ st' ord' w' o' c', xw_I0 (tp_B L a b c d) K f st' ord' w' o' c' (16 * (x + 1)) → J (nI (x + 1)) ln (nI a) (nI b) (nI c) (nI d) ex (nI c') ec ops nums ord' st' fn nc go) :
    ∀ (e y n : Nat) (st ord : Nat → Int32) (w : Nat → Option Nat) (o : Nat → Nat) (k : Nat), y + e = 16 → e < n → xw_I0 (tp_B L a b c d) K f st ord w o k (16 * x + y) → wX_reachBeginnings_10 post J (nI x) n (nI y) ln (nI a) (nI b) (nI c) (nI d) ex (nI k) ec ops nums ord st fn nc go := by
  intro e
  induction e with
  | zero =>
    intro y n st ord w o k hy hn hI
    obtain ⟨n, rfl⟩ : ∃ m, n = m + 1 := ⟨n - 1, by omega⟩
    have e : y = 16 := by omega
    subst e
    exact br_t (nI_le (a := 16) (b := 16) (by omega) (by omega)) (tp_n1 (hJ st ord w o k hI))
  | succ e ih =>
    intro y n st ord w o k hy hn hI
    obtain ⟨n, rfl⟩ : ∃ m, n = m + 1 := ⟨n - 1, by omega⟩
    have hy' : y < 16 := by omega
    have ex' : (16 * x + y) / 16 = x := by omega
    have ey' : (16 * x + y) % 16 = y := by omega
    have hBi : tp_B L a b c d (16 * x + y) ↔ a ≤ x ∧ x ≤ b ∧ c ≤ y ∧ y ≤ d := by
      unfold tp_B
      rw [ex', ey']
      exact ⟨fun z => ⟨z.2.2.1, z.2.2.2.1, z.2.2.2.2.1, z.2.2.2.2.2⟩, fun z => ⟨hL0, by omega, z.1, z.2.1, z.2.2.1, z.2.2.2⟩⟩
    refine br_f (nI_ge (b := 16) hy' (by omega)) (xw_may ha hb hc hd hx hy' (fun hm => br_f (by decide) ?_) (fun hm => br_t rfl (tp_n1 ?_)))
    · refine xw_num (p := 0) ?_
      rw [show 256 * 0 + 16 * x + y = 16 * x + y by omega]
      refine xw_reach (n := 0) hI.1 (by omega) (Nat.zero_le _) (hBi.mpr hm) hI.2.1 (fun st' ord' w' o' c' hr => tp_n1 ?_)
      exact ih (y + 1) n st' ord' w' o' c' (by omega) (by omega) (xw_I0_s hI hr)
    · exact ih (y + 1) n st ord w o k (by omega) (by omega) (xw_I0_k hI (fun z => hm (hBi.mp z)))
theorem xw_rb_out {post : SX → Prop} {a b c d : Nat} {K f : Nat → Nat} (ha : a < 16) (hb : b < 16) (hc : c < 16) (hd : d < 16) (hL0 : 0 < L)
    (hp : ∀ st' ord' w' o' c', xw_I0 (tp_B L a b c d) K f st' ord' w' o' c' 256 → post (ln, nI a, nI b, nI c, nI d, ex, nI c', ec, ops, nums, ord', st', fn, nc, go)) :
    ∀ (e x n : Nat) (st ord : Nat → Int32) (w : Nat → Option Nat) (o : Nat → Nat) (k : Nat), x + e = 16 → e < n → xw_I0 (tp_B L a b c d) K f st ord w o k (16 * x) → wX_reachBeginnings_2 post n (nI x) ln (nI a) (nI b) (nI c) (nI d) ex (nI k) ec ops nums ord st fn nc go := by
  intro e
  induction e with
  | zero =>
    intro x n st ord w o k hx hn hI
    obtain ⟨n, rfl⟩ : ∃ m, n = m + 1 := ⟨n - 1, by omega⟩
    have e : x = 16 := by omega
    subst e
    exact br_t (nI_le (a := 16) (b := 16) (by omega) (by omega)) (hp st ord w o k hI)
  | succ e ih =>
    intro x n st ord w o k hx hn hI
    obtain ⟨n, rfl⟩ : ∃ m, n = m + 1 := ⟨n - 1, by omega⟩
    refine br_f (nI_ge (b := 16) (a := x) (by omega) (by omega)) ⟨17, ?_⟩
    exact xw_rb_in ha hb hc hd (by omega) hL0 (fun st' ord' w' o' c' hI' => ih (x + 1) n st' ord' w' o' c' (by omega) (by omega) hI') 16 0 17 st ord w o k (by omega) (by omega) hI
theorem xw_rb {post : SX → Prop} {a b c d : Nat} {K f : Nat → Nat} (ha : a < 16) (hb : b < 16) (hc : c < 16) (hd : d < 16) (hL0 : 0 < L) (h5 : ∀ s, s < 4096 → st s = -5)
    (hp : ∀ st' ord' w' o' c', xw_I0 (tp_B L a b c d) K f st' ord' w' o' c' 256 → post (ln, nI a, nI b, nI c, nI d, ex, nI c', ec, ops, nums, ord', st', fn, nc, go)) : wpX_reachBeginnings post (ln, nI a, nI b, nI c, nI d, ex, 0, ec, ops, nums, ord, st, fn, nc, go) := by
  refine ⟨17, xw_rb_out (K := K) (f := f) ha hb hc hd hL0 hp 16 0 17 st ord (fun _ => none) (fun _ => 0) 0 (by omega) (by omega) ⟨⟨tp_Q0 _ _ _ _, fun s hs => h5 s hs, fun j hj => absurd hj (Nat.not_lt_zero _)⟩, fun j _ hj => absurd hj (Nat.not_lt_zero _), fun s _ hs => absurd hs (Nat.not_lt_zero _)⟩⟩
end
