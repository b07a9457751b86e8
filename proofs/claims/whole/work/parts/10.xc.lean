/-! the component follows the runs -/
section
variable {ln lx gx ly gy ex pc ec : Int32} {ops nums ord st fn nc go : Nat → Int32} {L : Nat}
def xw_I1 (B : Nat → Prop) (K f : Nat → Nat) (st ord : Nat → Int32) (w : Nat → Option Nat) (o : Nat → Nat) (c i : Nat) : Prop :=
  tp_XQ B K f st ord w o c ∧ (∀ s, B s → w s = some 0) ∧ tp_Pr K f w o i ∧ i ≤ c ∧ ∀ j a b, i < c → j < c → w (o i) = some a → w (o j) = some b → b ≤ a + 1
/-- inside: state t of order i, its first k next states taken -/
def xw_I2 (B : Nat → Prop) (K f : Nat → Nat) (st ord : Nat → Int32) (w : Nat → Option Nat) (o : Nat → Nat) (c i t a k : Nat) : Prop :=
  tp_XQ B K f st ord w o c ∧ (∀ s, B s → w s = some 0) ∧ tp_Pr K f w o i ∧ (i < c ∧ o i = t ∧ w t = some a) ∧ (∀ j b, j < c → w (o j) = some b → b ≤ a + 1) ∧ ∀ k', k' < k → ∃ b, w (f t + k') = some b ∧ b ≤ a + 1
theorem xw_I2_s {B : Nat → Prop} {K f : Nat → Nat} {w w' : Nat → Option Nat} {o o' : Nat → Nat} {c c' i t a k : Nat} {st' ord' : Nat → Int32} (h : xw_I2 B K f st ord w o c i t a k) (hr : tp_Rc B K f w o c (f t + k) (a + 1) st' ord' w' o' c') : xw_I2 B K f st' ord' w' o' c' i t a (k + 1) := by
  obtain ⟨h1, h2, h3, ⟨h4, h5, h6⟩, h7, h8⟩ := h
  obtain ⟨r1, r2, r3, r4⟩ := hr
  refine ⟨r1, fun s hs => r2.2.1 s 0 (h2 s hs), tp_Pr_x h1.1 r2 (by omega) h3, ⟨Nat.lt_of_lt_of_le h4 r2.1, by rw [r2.2.2 i h4]; exact h5, r2.2.1 t a h6⟩, r4, fun k' hk' => ?_⟩
  rcases Nat.lt_or_ge k' k with z | z
  · obtain ⟨b, hb, hl⟩ := h8 k' z
    exact ⟨b, r2.2.1 _ _ hb, hl⟩
  · have e : k' = k := by omega
    subst e
    exact r3
theorem xw_I2_x {B : Nat → Prop} {K f : Nat → Nat} {w : Nat → Option Nat} {o : Nat → Nat} {c i t a k : Nat} (h : xw_I2 B K f st ord w o c i t a k) (hk : K t ≤ k) : xw_I1 B K f st ord w o c (i + 1) := by
  obtain ⟨h1, h2, h3, ⟨h4, h5, h6⟩, h7, h8⟩ := h
  refine ⟨h1, h2, fun j hj a' ha' k' hk' => ?_, by omega, fun j a' b hi hj ha' hb => ?_⟩
  · rcases Nat.lt_or_ge j i with z | z
    · exact h3 j z a' ha' k' hk'
    · have e : j = i := by omega
      subst e
      rw [h5] at ha' hk' ⊢
      rw [h6] at ha'
      injection ha' with e
      subst e
      exact h8 k' (by omega)
  · have m := h1.1.2.2.2 i (i + 1) a a' (by omega) hi (by rw [h5]; exact h6) ha'
    have := h7 j b hj hb
    omega
theorem xw_fr_in {post : SX → Prop} {J : Int32 → Int32 → Int32 → Int32 → Int32 → Int32 → Int32 → Int32 → Int32 → (Nat → Int32) → (Nat → Int32) → (Nat → Int32) → (Nat → Int32) → (Nat → Int32) → (Nat → Int32) → (Nat → Int32) → Prop} {B : Nat → Prop} {i t a : Nat} (hL : L ≤ 16) (hN : xw_N ops nums L fn nc 4096) (ht : t < 4096)
    (hJ : ∀ st' ord' w' o' c', xw_I1 B (tp_K ops nums L) (tp_f ops nums) st' ord' w' o' c' (i + 1) → J (nI (i + 1)) ln lx gx ly gy ex (nI c') ec ops nums ord' st' fn nc go) :
    ∀ (e k n : Nat) (st ord : Nat → Int32) (w : Nat → Option Nat) (o : Nat → Nat) (c : Nat), k + e = 16 → e < n → xw_I2 B (tp_K ops nums L) (tp_f ops nums) st ord w o c i t a k → wX_followRuns_44 post J (nI i) (nI t) (nI (a + 1)) n (nI k) ln lx gx ly gy ex (nI c) ec ops nums ord st fn nc go := by
  have hF := tp_Fc (ops := ops) (nums := nums) hL t
  have hK16 : tp_K ops nums L t ≤ 16 := by
    rcases hF with h | h | h
    · rw [h.2]; omega
    · rw [h.2.1]; omega
    · rcases h.2.2.2.1 with z | z <;> rw [z.2] <;> omega
  have hfn : ∀ k, k < tp_K ops nums L t → fn t = nI (tp_f ops nums t) ∧ tp_f ops nums t + k < 4096 := by
    intro k hk
    rcases hF with h | h | h
    · rw [h.2] at hk; omega
    · rw [h.2.1] at hk; omega
    · refine ⟨(hN t ht).1.trans h.1, ?_⟩
      have := h.2.2.1
      omega
  intro e
  induction e with
  | zero =>
    intro k n st ord w o c hk hn hI
    obtain ⟨n, rfl⟩ : ∃ m, n = m + 1 := ⟨n - 1, by omega⟩
    have e : k = 16 := by omega
    subst e
    exact br_t (nI_le (a := 16) (b := 16) (by omega) (by omega)) (tp_n1 (hJ st ord w o c (xw_I2_x hI hK16)))
  | succ e ih =>
    intro k n st ord w o c hk hn hI
    obtain ⟨n, rfl⟩ : ∃ m, n = m + 1 := ⟨n - 1, by omega⟩
    have hin : vp_in (nI t) 4096 := vp_in_nI ht (by omega)
    refine br_f (nI_ge (b := 16) (a := k) (by omega) (by omega)) ⟨hin, ?_⟩
    rw [nI_clamp (n := t) (by omega), (hN t ht).2]
    refine pk_le (tp_K ops nums L t) k (fun h => tp_n1 (hJ st ord w o c (xw_I2_x hI h))) (fun h => ⟨hin, ?_⟩)
    obtain ⟨e1, e2⟩ := hfn k h
    rw [e1, nI_add]
    have hI' := hI
    obtain ⟨h1, h2, h3, ⟨h4, h5, h6⟩, h7, h8⟩ := hI'
    obtain ⟨-, a', ha', hl⟩ := h1.1.2.1 i h4
    rw [h5, h6] at ha'
    injection ha' with ea
    refine xw_reach (n := a + 1) h1 e2 (by omega) ⟨t, (h1.1.2.2.1 t a h6).2, k, h, rfl⟩ h7 (fun st' ord' w' o' c' hr => tp_n1 ?_)
    exact ih (k + 1) n st' ord' w' o' c' (by omega) (by omega) (xw_I2_s hI hr)
theorem xw_fr_out {post : SX → Prop} {B : Nat → Prop} (hL : L ≤ 16) (hN : xw_N ops nums L fn nc 4096)
    (hp : ∀ st' ord' w' o' c', tp_XQ B (tp_K ops nums L) (tp_f ops nums) st' ord' w' o' c' → tp_Kn B (tp_K ops nums L) (tp_f ops nums) w' → post (ln, lx, gx, ly, gy, ex, nI c', ec, ops, nums, ord', st', fn, nc, go)) :
    ∀ (e i n : Nat) (st ord : Nat → Int32) (w : Nat → Option Nat) (o : Nat → Nat) (c : Nat), i + e = 4096 → e < n → xw_I1 B (tp_K ops nums L) (tp_f ops nums) st ord w o c i → wX_followRuns_2 post n (nI i) ln lx gx ly gy ex (nI c) ec ops nums ord st fn nc go := by
  intro e
  induction e with
  | zero =>
    intro i n st ord w o c hi hn hI
    obtain ⟨n, rfl⟩ : ∃ m, n = m + 1 := ⟨n - 1, by omega⟩
    have hc := tp_Qle hI.1.1
    have hic := hI.2.2.2.1
    have e : i = c := by omega
    subst e
    exact br_t (nI_le (a := 4096) (by omega) (by omega)) (hp st ord w o i hI.1 (tp_kn hI.1.1 hI.2.2.1 hI.2.1))
  | succ e ih =>
    intro i n st ord w o c hi hn hI
    obtain ⟨n, rfl⟩ : ∃ m, n = m + 1 := ⟨n - 1, by omega⟩
    have hc := tp_Qle hI.1.1
    have hic := hI.2.2.2.1
    refine br_f (nI_ge (b := 4096) (a := i) (by omega) (by omega)) (pk_le c i (fun h => ?_) (fun h => ⟨vp_in_nI (by omega) (by omega), ?_⟩))
    · have e : i = c := by omega
      subst e
      exact hp st ord w o i hI.1 (tp_kn hI.1.1 hI.2.2.1 hI.2.1)
    · rw [nI_clamp (by omega), hI.1.2.2 i h]
      obtain ⟨h4, a, ha, hl⟩ := hI.1.1.2.1 i h
      refine nm_e (xw_poss h4 (fun hne => br_f (by decide) ⟨vp_in_nI h4 (by omega), ?_⟩) (fun he => ?_))
      · have es : st (o i) = nI a := by rw [hI.1.2.1 _ h4, ha]; rfl
        rw [nI_clamp (by omega), es]
        refine tp_n1 ⟨17, ?_⟩
        exact xw_fr_in hL hN h4 (fun st' ord' w' o' c' hI' => ih (i + 1) n st' ord' w' o' c' (by omega) (by omega) hI') 16 0 17 st ord w o c (by omega) (by omega)
          ⟨hI.1, hI.2.1, hI.2.2.1, ⟨h, rfl, ha⟩, fun j b hj hb => hI.2.2.2.2 j a b h hj ha hb, fun k' hk' => absurd hk' (Nat.not_lt_zero _)⟩
      · have := (tp_XQ_m hI.1 h4).mp he
        rw [ha] at this
        simp at this
theorem xw_fr {post : SX → Prop} {B : Nat → Prop} {w : Nat → Option Nat} {o : Nat → Nat} {c : Nat} (hL : L ≤ 16) (hN : xw_N ops nums L fn nc 4096) (hQ : tp_XQ B (tp_K ops nums L) (tp_f ops nums) st ord w o c) (hB : ∀ s, B s → w s = some 0) (hb : ∀ j b, j < c → w (o j) = some b → b ≤ 0)
    (hp : ∀ st' ord' w' o' c', tp_XQ B (tp_K ops nums L) (tp_f ops nums) st' ord' w' o' c' → tp_Kn B (tp_K ops nums L) (tp_f ops nums) w' → post (ln, lx, gx, ly, gy, ex, nI c', ec, ops, nums, ord', st', fn, nc, go)) : wpX_followRuns post (ln, lx, gx, ly, gy, ex, nI c, ec, ops, nums, ord, st, fn, nc, go) := by
  refine ⟨4097, xw_fr_out hL hN hp 4096 0 4097 st ord w o c (by omega) (by omega) ⟨hQ, hB, fun j hj => absurd hj (Nat.not_lt_zero _), Nat.zero_le _, fun j a b _ hj _ h2 => ?_⟩⟩
  have := hb j b hj h2
  omega
/-! the component drops the states that must end -/
theorem tp_m1 (j : Nat) : nI j + (-1) = nI j - 1 := by
  cases j with
  | zero => decide
  | succ j => rw [pk_m1, nI_pred]
theorem xw_hn_l {post : Int32 → Prop} {g : Nat → Prop} {s : Nat} (hL : L ≤ 16) (hN : xw_N ops nums L fn nc 4096) (hs : s < 4096) (hg : ∀ t, t < 4096 → (go t = 0 ↔ ¬ g t)) (ht : tp_Cl (tp_K ops nums L) (tp_f ops nums) g s → post 1) (hf : ¬ tp_Cl (tp_K ops nums L) (tp_f ops nums) g s → post 0) :
    ∀ (e k n : Nat), k + e = 16 → e < n → (∀ k', k' < k → ¬ g (tp_f ops nums s + k')) → wX_hasNextThatGoesOn_11 post (nI s) ln lx gx ly gy ex pc ec ops nums ord st fn nc go n (nI k) := by
  have hF := tp_Fc (ops := ops) (nums := nums) hL s
  have hK16 : tp_K ops nums L s ≤ 16 := by
    rcases hF with h | h | h
    · rw [h.2]; omega
    · rw [h.2.1]; omega
    · rcases h.2.2.2.1 with z | z <;> rw [z.2] <;> omega
  have hfn : ∀ k, k < tp_K ops nums L s → fn s = nI (tp_f ops nums s) ∧ tp_f ops nums s + k < 4096 := by
    intro k hk
    rcases hF with h | h | h
    · rw [h.2] at hk; omega
    · rw [h.2.1] at hk; omega
    · refine ⟨(hN s hs).1.trans h.1, ?_⟩
      have := h.2.2.1
      omega
  intro e
  induction e with
  | zero =>
    intro k n hk hn hI
    obtain ⟨n, rfl⟩ : ∃ m, n = m + 1 := ⟨n - 1, by omega⟩
    have e : k = 16 := by omega
    subst e
    exact br_t (nI_le (a := 16) (b := 16) (by omega) (by omega)) (hf (fun ⟨k', h1, h2⟩ => hI k' (by omega) h2))
  | succ e ih =>
    intro k n hk hn hI
    obtain ⟨n, rfl⟩ : ∃ m, n = m + 1 := ⟨n - 1, by omega⟩
    have hin : vp_in (nI s) 4096 := vp_in_nI hs (by omega)
    refine br_f (nI_ge (b := 16) (a := k) (by omega) (by omega)) ⟨hin, ?_⟩
    rw [nI_clamp (n := s) (by omega), (hN s hs).2]
    refine pk_le (tp_K ops nums L s) k (fun h => hf (fun ⟨k', h1, h2⟩ => hI k' (by omega) h2)) (fun h => ⟨hin, ?_⟩)
    obtain ⟨e1, e2⟩ := hfn k h
    rw [e1, nI_add]
    refine xw_still e2 (fun hne => br_f (by decide) (ht ⟨k, h, ?_⟩)) (fun he => br_t rfl (tp_n1 (ih (k + 1) n (by omega) (by omega) (fun k' hk' => ?_))))
    · exact Classical.byContradiction (fun z => hne ((hg _ e2).mpr z))
    · rcases Nat.lt_or_ge k' k with z | z
      · exact hI k' z
      · have e : k' = k := by omega
        subst e
        exact (hg _ e2).mp he
theorem xw_hn {post : Int32 → Prop} {g : Nat → Prop} {s : Nat} (hL : L ≤ 16) (hN : xw_N ops nums L fn nc 4096) (hs : s < 4096) (hg : ∀ t, t < 4096 → (go t = 0 ↔ ¬ g t)) (ht : tp_Cl (tp_K ops nums L) (tp_f ops nums) g s → post 1) (hf : ¬ tp_Cl (tp_K ops nums L) (tp_f ops nums) g s → post 0) : wpX_hasNextThatGoesOn post (ln, lx, gx, ly, gy, ex, pc, ec, ops, nums, ord, st, fn, nc, go) (nI s) := by
  unfold wpX_hasNextThatGoesOn
  dsimp only
  exact xw_state hs (br_f (by decide) ⟨17, xw_hn_l hL hN hs hg ht hf 16 0 17 (by omega) (by omega) (fun k' hk' => absurd hk' (Nat.not_lt_zero _))⟩)
/-- in a round, positions from i on looked at -/
def xw_I3 (B : Nat → Prop) (K f : Nat → Nat) (o : Nat → Nat) (c : Nat) (go : Nat → Int32) (ec d : Int32) (g : Nat → Prop) (r i : Nat) : Prop :=
  tp_XG B K f go g ∧ ec = nI (tp_cn g 0 4096) ∧ tp_Dr K f g r d (fun s => ∃ j, i ≤ j ∧ j < c ∧ o j = s)
theorem xw_nb0 : vp_nar .boolean 0 = 0 := rfl
theorem xw_nb1 : vp_nar .boolean 1 = 1 := rfl
theorem xw_dr_in {post : SX → Prop} {J : Int32 → Int32 → Int32 → (Nat → Int32) → (Nat → Int32) → (Nat → Int32) → (Nat → Int32) → (Nat → Int32) → (Nat → Int32) → (Nat → Int32) → Prop} {B : Nat → Prop} {w : Nat → Option Nat} {o : Nat → Nat} {c r : Nat} (hL : L ≤ 16) (hN : xw_N ops nums L fn nc 4096) (hQ : tp_XQ B (tp_K ops nums L) (tp_f ops nums) st ord w o c)
    (hJ : ∀ go' ec' d' g', xw_I3 B (tp_K ops nums L) (tp_f ops nums) o c go' ec' d' g' r 0 → J d' (nI (r + 1)) ec' ops nums ord st fn nc go') :
    ∀ (i n : Nat) (go : Nat → Int32) (ec d : Int32) (g : Nat → Prop), i ≤ c → i < n → xw_I3 B (tp_K ops nums L) (tp_f ops nums) o c go ec d g r i → wX_dropStatesThatMustEnd_58 post J (nI r) ln lx gx ly gy ex pc n d (nI i - 1) ec ops nums ord st fn nc go := by
  have hc := tp_Qle hQ.1
  intro i
  induction i with
  | zero =>
    intro n go ec d g hi hn hI
    obtain ⟨n, rfl⟩ : ∃ m, n = m + 1 := ⟨n - 1, by omega⟩
    exact br_t (by decide) (tp_n1 (hJ go ec d g hI))
  | succ i ih =>
    intro n go ec d g hi hn hI
    obtain ⟨n, rfl⟩ : ∃ m, n = m + 1 := ⟨n - 1, by omega⟩
    rw [nI_pred]
    obtain ⟨h4, a, ha, -⟩ := hQ.1.2.1 i (by omega)
    refine br_f (nI_pos (by omega)) (br_f (nI_ge (b := 4096) (a := i) (by omega) (by omega)) ⟨vp_in_nI (by omega) (by omega), ?_⟩)
    rw [nI_clamp (by omega), hQ.2.2 i (by omega)]
    have keep : (g (o i) → tp_Cl (tp_K ops nums L) (tp_f ops nums) g (o i)) → xw_I3 B (tp_K ops nums L) (tp_f ops nums) o c go ec d g r i := by
      intro hc'
      refine ⟨hI.1, hI.2.1, tp_Dr_k hI.2.2 (fun s ⟨j, h1, h2, h3⟩ hgs => ?_)⟩
      rcases Nat.lt_or_ge i j with z | z
      · exact Or.inl ⟨j, by omega, h2, h3⟩
      · have e : j = i := by omega
        rw [e] at h3
        rw [← h3] at hgs ⊢
        exact Or.inr (hc' hgs)
    refine nm_e (xw_still h4 (fun hne => br_f (by decide) ?_) (fun he => br_t rfl (nm_r (tp_m1 i) ?_)))
    · have hgi : g (o i) := Classical.byContradiction (fun z => hne ((hI.1.2.2 _ h4).mpr z))
      refine xw_hn hL hN h4 hI.1.2.2 (fun hcl => br_f (by decide) (nm_r (tp_m1 i) ?_)) (fun hcl => br_t rfl ⟨vp_in_nI h4 (by omega), tp_nu (by omega) (nm_e (nm_r (tp_m1 i) ?_))⟩)
      · exact ih n go ec d g (by omega) (by omega) (keep (fun _ => hcl))
      · have hcn := tp_cn_d hgi h4
        refine ih n _ _ _ (fun t => g t ∧ t ≠ o i) (by omega) (by omega) ⟨?_, ?_, ?_⟩
        · rw [xw_nb0]; exact tp_XG_d hI.1 hcl
        · rw [hI.2.1, hcn, nI_pred]
        · exact tp_Dr_d _ hI.2.2 (by omega)
    · exact ih n go ec d g (by omega) (by omega) (keep (fun z => absurd z ((hI.1.2.2 _ h4).mp he)))
def xw_I4 (B : Nat → Prop) (K f : Nat → Nat) (go : Nat → Int32) (ec d : Int32) (g : Nat → Prop) (r : Nat) : Prop :=
  tp_XG B K f go g ∧ ec = nI (tp_cn g 0 4096) ∧ tp_Hd K f g r d
theorem xw_dr_out {post : SX → Prop} {B : Nat → Prop} {w : Nat → Option Nat} {o : Nat → Nat} {c : Nat} (hL : L ≤ 16) (hN : xw_N ops nums L fn nc 4096) (hQ : tp_XQ B (tp_K ops nums L) (tp_f ops nums) st ord w o c) (hK : tp_Kn B (tp_K ops nums L) (tp_f ops nums) w)
    (hp : ∀ go' ec', ec' = nI (tp_cn (tp_G B (tp_K ops nums L) (tp_f ops nums)) 0 4096) → post (ln, lx, gx, ly, gy, ex, nI c, ec', ops, nums, ord, st, fn, nc, go')) :
    ∀ (e r n : Nat) (go : Nat → Int32) (ec d : Int32) (g : Nat → Prop), r + e = 4097 → e < n → xw_I4 B (tp_K ops nums L) (tp_f ops nums) go ec d g r → wX_dropStatesThatMustEnd_38 post ln lx gx ly gy ex (nI c) n d (nI r) ec ops nums ord st fn nc go := by
  have fin : ∀ (go : Nat → Int32) (ec : Int32) (g : Nat → Prop), tp_XG B (tp_K ops nums L) (tp_f ops nums) go g → ec = nI (tp_cn g 0 4096) → (∀ s, g s → tp_Cl (tp_K ops nums L) (tp_f ops nums) g s) → post (ln, lx, gx, ly, gy, ex, nI c, ec, ops, nums, ord, st, fn, nc, go) := by
    intro go ec g h1 h2 h3
    refine hp go ec ?_
    rw [h2]
    exact congrArg nI (tp_cn_e (fun s _ _ => tp_XG_c h1 h3 s))
  intro e
  induction e with
  | zero =>
    intro r n go ec d g hr hn hI
    obtain ⟨n, rfl⟩ : ∃ m, n = m + 1 := ⟨n - 1, by omega⟩
    have e : r = 4097 := by omega
    subst e
    exact br_t (nI_lt (a := 4096) (by omega) (by omega)) (fin go ec g hI.1 hI.2.1 (tp_Hd_x hI.2.2))
  | succ e ih =>
    intro r n go ec d g hr hn hI
    obtain ⟨n, rfl⟩ : ∃ m, n = m + 1 := ⟨n - 1, by omega⟩
    refine br_f (Int32.not_lt.mpr (nI_le (a := r) (b := 4096) (by omega) (by omega))) (br_c (fun e0 => ?_) (fun n0 => nm_e ⟨c + 1, ?_⟩))
    · subst e0
      exact fin go ec g hI.1 hI.2.1 (tp_Hd_0 hI.2.2)
    · refine xw_dr_in hL hN hQ (fun go' ec' d' g' hI' => ih (r + 1) n go' ec' d' g' (by omega) (by omega) ⟨hI'.1, hI'.2.1, tp_Dr_e hI'.2.2 (fun s hs => ?_)⟩) c (c + 1) go ec 0 g (Nat.le_refl _) (by omega) ⟨hI.1, hI.2.1, Or.inl ⟨rfl, tp_Hd_1 hI.2.2 n0, fun s ⟨j, h1, h2, _⟩ => by omega⟩⟩
      have hP := hI'.1.1 s hs
      cases ew : w s with
      | none => exact absurd hP (hK.2 s ew)
      | some a =>
        obtain ⟨j, hj, ej⟩ := (hQ.1.2.2.1 s a ew).1
        exact ⟨j, Nat.zero_le _, hj, ej⟩
theorem xw_dr_first {post : SX → Prop} {B : Nat → Prop} {w : Nat → Option Nat} {o : Nat → Nat} {c : Nat} (hL : L ≤ 16) (hN : xw_N ops nums L fn nc 4096) (hQ : tp_XQ B (tp_K ops nums L) (tp_f ops nums) st ord w o c) (hK : tp_Kn B (tp_K ops nums L) (tp_f ops nums) w)
    (hp : ∀ go' ec', ec' = nI (tp_cn (tp_G B (tp_K ops nums L) (tp_f ops nums)) 0 4096) → post (ln, lx, gx, ly, gy, ex, nI c, ec', ops, nums, ord, st, fn, nc, go')) :
    ∀ (e i n : Nat) (go : Nat → Int32), i + e = 4096 → e < n → (∀ s, s < i → (go s = 0 ↔ ¬ tp_P B (tp_K ops nums L) (tp_f ops nums) s)) → wX_dropStatesThatMustEnd_2 post ln lx gx ly gy ex (nI c) ec n (nI i) ops nums ord st fn nc go := by
  intro e
  induction e with
  | zero =>
    intro i n go hi hn hI
    obtain ⟨n, rfl⟩ : ∃ m, n = m + 1 := ⟨n - 1, by omega⟩
    have e : i = 4096 := by omega
    subst e
    have ec : tp_cn (tp_P B (tp_K ops nums L) (tp_f ops nums)) 0 4096 = c := by
      rw [← hQ.1.1]
      exact tp_cn_e (fun s _ _ => (tp_Kn_P hK s).symm)
    refine br_t (nI_le (a := 4096) (b := 4096) (by omega) (by omega)) ⟨4098, ?_⟩
    refine xw_dr_out hL hN hQ hK hp 4097 0 4098 go (nI c) 1 (tp_P B (tp_K ops nums L) (tp_f ops nums)) (by omega) (by omega) ⟨⟨fun s h => h, fun s h => tp_G_P h, hI⟩, by rw [ec], Or.inl ⟨rfl, ?_⟩⟩
    exact tp_cn_le _ _ _
  | succ e ih =>
    intro i n go hi hn hI
    obtain ⟨n, rfl⟩ : ∃ m, n = m + 1 := ⟨n - 1, by omega⟩
    have h4 : i < 4096 := by omega
    have hm := tp_XQ_m hQ h4
    have hk := tp_Kn_P hK i
    refine br_f (nI_ge (b := 4096) h4 (by omega)) (xw_poss h4 (fun hne => ⟨vp_in_nI h4 (by omega), tp_nu (by omega) (tp_n1 ?_)⟩) (fun he => ⟨vp_in_nI h4 (by omega), tp_nu (by omega) (tp_n1 ?_)⟩))
    · refine ih (i + 1) n _ (by omega) (by omega) (fun s hs => ?_)
      by_cases e : s = i
      · subst e
        rw [pk_us, xw_nb1]
        exact ⟨fun z => absurd z (by decide), fun z => absurd (hk.mp (fun y => hne (hm.mpr y))) z⟩
      · rw [pk_un e]; exact hI s (by omega)
    · refine ih (i + 1) n _ (by omega) (by omega) (fun s hs => ?_)
      by_cases e : s = i
      · subst e
        rw [pk_us, xw_nb0]
        exact ⟨fun _ z => hk.mpr z (hm.mp he), fun _ => rfl⟩
      · rw [pk_un e]; exact hI s (by omega)
theorem xw_dr {post : SX → Prop} {B : Nat → Prop} {w : Nat → Option Nat} {o : Nat → Nat} {c : Nat} (hL : L ≤ 16) (hN : xw_N ops nums L fn nc 4096) (hQ : tp_XQ B (tp_K ops nums L) (tp_f ops nums) st ord w o c) (hK : tp_Kn B (tp_K ops nums L) (tp_f ops nums) w)
    (hp : ∀ go' ec', ec' = nI (tp_cn (tp_G B (tp_K ops nums L) (tp_f ops nums)) 0 4096) → post (ln, lx, gx, ly, gy, ex, nI c, ec', ops, nums, ord, st, fn, nc, go')) : wpX_dropStatesThatMustEnd post (ln, lx, gx, ly, gy, ex, nI c, ec, ops, nums, ord, st, fn, nc, go) :=
  ⟨4097, xw_dr_first hL hN hQ hK hp 4096 0 4097 go (by omega) (by omega) (fun s hs => absurd hs (Nat.not_lt_zero _))⟩
end
