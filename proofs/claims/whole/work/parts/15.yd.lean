/-! the reference's work -/
section
variable {sz kn en : Int32} {ops nums lws hgs al la fd ev fi tr : Nat → Int32} {L a b c d : Nat}
theorem yw_153 {post : SY → Prop} {B : Nat → Prop} (hL : L ≤ 16) (W : tp_Wf L B (tp_K ops nums L) (tp_f ops nums))
    (hp : ∀ en' al' la' fd' ev' fi' tr', tp_YK L B (tp_K ops nums L) (tp_f ops nums) (tp_F ops nums L) al' fi' tr' ev' en' → post (nI L, kn, en', ops, nums, lws, hgs, al', la', fd', ev', fi', tr')) :
    ∀ (e m n : Nat) (en more : Int32) (al la fd fi tr : Nat → Int32), m + e = 4097 → e < n → tp_YS B (tp_K ops nums L) (tp_f ops nums) (tp_F ops nums L) m al la fi tr en → more = nI (tp_b (∃ s, tp_D B (tp_K ops nums L) (tp_f ops nums) s m)) → ((∃ s, tp_D B (tp_K ops nums L) (tp_f ops nums) s m) → m + 1 ≤ tp_cn (tp_A B (tp_K ops nums L) (tp_f ops nums) m) 0 4096) → wY_workOut_153 post n more (nI (m + 1)) (nI L) kn en ops nums lws hgs al la fd ev fi tr := by
  have fin : ∀ (m : Nat) (en : Int32) (al la fd fi tr : Nat → Int32), tp_YS B (tp_K ops nums L) (tp_f ops nums) (tp_F ops nums L) m al la fi tr en → (∀ s, ¬ tp_D B (tp_K ops nums L) (tp_f ops nums) s m) → wY_workOut_180 post (nI L) kn en ops nums lws hgs al la fd ev fi tr := by
    intro m en al la fd fi tr h hn
    obtain ⟨x1, x2, x3, x4⟩ := tp_YS_x h hn
    unfold wY_workOut_180
    exact yw_fe hL W x1 (fun ev' hG => hp _ _ _ _ _ _ _ ⟨x1, x2, x3, hG, x4⟩)
  intro e
  induction e with
  | zero =>
    intro m n en more al la fd fi tr hm hn hS hmo hc
    obtain ⟨n, rfl⟩ : ∃ m, n = m + 1 := ⟨n - 1, by omega⟩
    have e : m = 4097 := by omega
    subst e
    refine br_t (nI_lt (a := 4097) (b := 4098) (by omega) (by omega)) (fin _ _ _ _ _ _ _ hS (fun s hs => ?_))
    have h1 := hc ⟨s, hs⟩
    have h2 := tp_cn_le (tp_A B (tp_K ops nums L) (tp_f ops nums) 4097) 0 4096
    omega
  | succ e ih =>
    intro m n en more al la fd fi tr hm hn hS hmo hc
    obtain ⟨n, rfl⟩ : ∃ m, n = m + 1 := ⟨n - 1, by omega⟩
    refine br_f (Int32.not_lt.mpr (nI_le (a := m + 1) (b := 4097) (by omega) (by omega))) (br_c (fun e0 => fin _ _ _ _ _ _ _ hS (fun s hs => ?_)) (fun n0 => ?_))
    · rw [tp_b1 ⟨s, hs⟩] at hmo
      rw [hmo] at e0
      exact absurd e0 (by decide)
    · have hD : ∃ s, tp_D B (tp_K ops nums L) (tp_f ops nums) s m := by
        refine Classical.byContradiction (fun z => n0 ?_)
        rw [hmo, tp_b0 z]
        rfl
      refine yw_round hL W hS (fun fd' tr' en' hz => ?_)
      refine yw_take (m := m + 1) (A := tp_A B (tp_K ops nums L) (tp_f ops nums) m) (by omega) hS.1 hz.1 (fun s hs => tp_D_lt hL W hs) (fun al' la' fi' a1 a2 a3 => tp_n1 ?_)
      exact ih (m + 1) n en' _ al' la' fd' fi' tr' (by omega) (by omega) (tp_YS_s hL W (by omega) hS hz a1 a2 a3) rfl (fun hD' => tp_cA_s hL W hD' (hc hD))
/-- beginnings found so far -/
def yw_Bx (B : Nat → Prop) (x y s : Nat) : Prop := B s ∧ (s / 16 < x ∨ (s / 16 = x ∧ s % 16 < y))
theorem yw_100 {post : SY → Prop} {J : Int32 → (Nat → Int32) → (Nat → Int32) → (Nat → Int32) → (Nat → Int32) → (Nat → Int32) → (Nat → Int32) → (Nat → Int32) → (Nat → Int32) → (Nat → Int32) → (Nat → Int32) → Prop} {x : Nat} (hL : L ≤ 16) (hb : b < 16) (hd : d < 16) (hax : a ≤ x) (hxb : x ≤ b) (h1 : hgs 1 = nI d)
    (hJ : ∀ fd', tp_S fd' (yw_Bx (tp_B L a b c d) (x + 1) 0) → J (nI (x + 1)) ops nums lws hgs al la fd' ev fi tr) :
    ∀ (e y n : Nat) (fd : Nat → Int32), y + e = d + 1 → e < n → c ≤ y → tp_S fd (yw_Bx (tp_B L a b c d) x y) → wY_workOut_100 post J (nI x) (nI L) kn en n (nI y) ops nums lws hgs al la fd ev fi tr := by
  intro e
  induction e with
  | zero =>
    intro y n fd hy hn hcy hI
    obtain ⟨n, rfl⟩ : ∃ m, n = m + 1 := ⟨n - 1, by omega⟩
    refine pk_lt d y (fun _ => tp_n1 (hJ fd (tp_S_e hI (fun s _ => ⟨fun ⟨z1, z2⟩ => ⟨z1, Or.inl (by omega)⟩, fun ⟨z1, z2⟩ => ⟨z1, ?_⟩⟩)))) (fun h => by omega) h1
    have h6 := z1.2.2.2.2.2
    omega
  | succ e ih =>
    intro y n fd hy hn hcy hI
    obtain ⟨n, rfl⟩ : ∃ m, n = m + 1 := ⟨n - 1, by omega⟩
    have hcl : (nI x).toNatClampNeg = x := nI_clamp (by omega)
    have hin : vp_in (nI x) 256 := vp_in_nI (by omega) (by omega)
    refine pk_lt d y (fun h => by omega) (fun _ => pk_le L 0 (fun hL0 => tp_n1 ?_) (fun hL0 => ?_)) h1
    · refine ih (y + 1) n fd (by omega) (by omega) (by omega) (tp_S_e hI (fun s _ => ⟨fun z => ?_, fun z => ?_⟩))
      · have := z.1.1; omega
      · have := z.1.1; omega
    · rw [hcl]
      refine ⟨hin, hin, nm_e (tp_n1 (ih (y + 1) n _ (by omega) (by omega) (by omega) ?_))⟩
      refine tp_S_u hI (by omega) (tp_M_e (tp_M_or (hI x (by omega)) (tp_M_1 (y := y) (by omega) x)) (fun j hj => ⟨fun z => ?_, fun z => ?_⟩)) (fun s hs => ⟨fun ⟨z1, z2⟩ => ⟨z1, by omega⟩, fun ⟨z1, z2⟩ => ⟨z1, by omega⟩⟩)
      · rcases z with ⟨z1, z2⟩ | z
        · exact ⟨z1, by omega⟩
        · refine ⟨⟨hL0, by omega, by omega, by omega, by omega, by omega⟩, by omega⟩
      · obtain ⟨z1, z2⟩ := z
        by_cases e : j = y
        · exact Or.inr (by omega)
        · exact Or.inl ⟨z1, by omega⟩
theorem yw_83 {post : SY → Prop} (hL : L ≤ 16) (hb : b < 16) (hcd : c ≤ d) (hd : d < 16) (h0 : hgs 0 = nI b) (h1 : hgs 1 = nI d) (l1 : lws 1 = nI c)
    (hal : ∀ i, i < 256 → al i = 0) (hfi : ∀ p, p < 16 → fi p = -5) (htr : ∀ p, p < 16 → tr p = 0)
    (hp : ∀ en' al' la' fd' ev' fi' tr', tp_YK L (tp_B L a b c d) (tp_K ops nums L) (tp_f ops nums) (tp_F ops nums L) al' fi' tr' ev' en' → post (nI L, kn, en', ops, nums, lws, hgs, al', la', fd', ev', fi', tr')) :
    ∀ (e x n : Nat) (fd : Nat → Int32), x + e = b + 1 → e < n → a ≤ x → tp_S fd (yw_Bx (tp_B L a b c d) x 0) → wY_workOut_83 post (nI L) kn 0 n (nI x) ops nums lws hgs al la fd ev fi tr := by
  have W : tp_Wf L (tp_B L a b c d) (tp_K ops nums L) (tp_f ops nums) := tp_wf hL
  intro e
  induction e with
  | zero =>
    intro x n fd hx hn hax hI
    obtain ⟨n, rfl⟩ : ∃ m, n = m + 1 := ⟨n - 1, by omega⟩
    have hf : tp_S fd (tp_B L a b c d) := tp_S_e hI (fun s _ => ⟨fun z => z.1, fun z => ⟨z, Or.inl (by have := z.2.2.2.1; omega)⟩⟩)
    refine pk_lt b x (fun _ => ?_) (fun h => by omega) h0
    refine yw_take (m := 0) (A := fun _ => False) (by omega) (fun i hi => by rw [hal i hi]; exact tp_M_0 (fun j _ z => z)) hf (fun s hs => by have := hs.2.1; omega) (fun al' la' fi' a1 a2 a3 => ⟨4099, ?_⟩)
    have hD : (∃ s, (tp_B L a b c d) s) ↔ ∃ s, tp_D (tp_B L a b c d) (tp_K ops nums L) (tp_f ops nums) s 0 := ⟨fun ⟨s, z⟩ => ⟨s, tp_D_0.mpr z⟩, fun ⟨s, z⟩ => ⟨s, tp_D_0.mp z⟩⟩
    exact yw_153 hL W hp 4097 0 4099 _ _ al' la' fd fi' tr (by omega) (by omega) (tp_YS_0 hL W htr rfl hfi (tp_S_e a1 (fun s _ => ⟨fun z => z.elim False.elim id, Or.inr⟩)) a2 a3) (congrArg nI (tp_be hD)) (fun z => tp_cA_0 hL W z)
  | succ e ih =>
    intro x n fd hx hn hax hI
    obtain ⟨n, rfl⟩ : ∃ m, n = m + 1 := ⟨n - 1, by omega⟩
    refine pk_lt b x (fun h => by omega) (fun _ => nm_r l1 ⟨18, ?_⟩) h0
    refine yw_100 hL hb hd hax (by omega) h1 (fun fd' hI' => ih (x + 1) n fd' (by omega) (by omega) (by omega) hI') (d + 1 - c) c 18 fd (by omega) (by omega) (by omega) (tp_S_e hI (fun s _ => ⟨fun ⟨z1, z2⟩ => ⟨z1, by omega⟩, fun ⟨z1, z2⟩ => ⟨z1, ?_⟩⟩))
    have h5 := z1.2.2.2.2.1
    omega
theorem yw_49 {post : SY → Prop} {x0 : Int32} (hx : lws 0 = x0) (hp : ∀ fi' tr', (∀ p, p < 16 → fi' p = -5) → (∀ p, p < 16 → tr' p = 0) → ∃ n, wY_workOut_83 post sz kn en n x0 ops nums lws hgs al la fd ev fi' tr') :
    ∀ (e i n : Nat) (fi tr : Nat → Int32), i + e = 16 → e < n → (∀ p, p < i → fi p = -5) → (∀ p, p < i → tr p = 0) → wY_workOut_49 post sz kn en n (nI i) ops nums lws hgs al la fd ev fi tr := by
  intro e
  induction e with
  | zero =>
    intro i n fi tr hi hn h1 h2
    obtain ⟨n, rfl⟩ : ∃ m, n = m + 1 := ⟨n - 1, by omega⟩
    have e : i = 16 := by omega
    subst e
    exact br_t (nI_le (a := 16) (b := 16) (by omega) (by omega)) (nm_r hx (hp fi tr h1 h2))
  | succ e ih =>
    intro i n fi tr hi hn h1 h2
    obtain ⟨n, rfl⟩ : ∃ m, n = m + 1 := ⟨n - 1, by omega⟩
    have hin : vp_in (nI i) 16 := vp_in_nI (by omega) (by omega)
    refine br_f (nI_ge (b := 16) (a := i) (by omega) (by omega)) ⟨hin, tp_nu (by omega) ⟨hin, tp_nu (by omega) (tp_n1 (ih (i + 1) n _ _ (by omega) (by omega) (fun k hk => ?_) (fun k hk => ?_)))⟩⟩
    · by_cases e : k = i
      · subst e; rw [pk_us]
      · rw [pk_un e]; exact h1 k (by omega)
    · by_cases e : k = i
      · subst e; rw [pk_us]
      · rw [pk_un e]; exact h2 k (by omega)
theorem yw_20 {post : SY → Prop} (hp : ∀ al' fd', (∀ i, i < 256 → al' i = 0) → (∀ i, i < 256 → fd' i = 0) → ∃ n, wY_workOut_49 post sz kn en n 0 ops nums lws hgs al' la fd' ev fi tr) :
    ∀ (e i n : Nat) (al fd : Nat → Int32), i + e = 256 → e < n → (∀ p, p < i → al p = 0) → (∀ p, p < i → fd p = 0) → wY_workOut_20 post sz kn en n (nI i) ops nums lws hgs al la fd ev fi tr := by
  intro e
  induction e with
  | zero =>
    intro i n al fd hi hn h1 h2
    obtain ⟨n, rfl⟩ : ∃ m, n = m + 1 := ⟨n - 1, by omega⟩
    have e : i = 256 := by omega
    subst e
    exact br_t (nI_le (a := 256) (b := 256) (by omega) (by omega)) (hp al fd h1 h2)
  | succ e ih =>
    intro i n al fd hi hn h1 h2
    obtain ⟨n, rfl⟩ : ∃ m, n = m + 1 := ⟨n - 1, by omega⟩
    have hin : vp_in (nI i) 256 := vp_in_nI (by omega) (by omega)
    refine br_f (nI_ge (b := 256) (a := i) (by omega) (by omega)) ⟨hin, tp_nu (by omega) ⟨hin, tp_nu (by omega) (tp_n1 (ih (i + 1) n _ _ (by omega) (by omega) (fun k hk => ?_) (fun k hk => ?_)))⟩⟩
    · by_cases e : k = i
      · subst e; rw [pk_us]
      · rw [pk_un e]; exact h1 k (by omega)
    · by_cases e : k = i
      · subst e; rw [pk_us]
      · rw [pk_un e]; exact h2 k (by omega)
theorem yw_work {post : SY → Prop} (hL : L ≤ 16) (hab : a ≤ b) (hb : b < 16) (hcd : c ≤ d) (hd : d < 16) (l0 : lws 0 = nI a) (h0 : hgs 0 = nI b) (l1 : lws 1 = nI c) (h1 : hgs 1 = nI d) (hk : kn = 0 ∨ tp_YK L (tp_B L a b c d) (tp_K ops nums L) (tp_f ops nums) (tp_F ops nums L) al fi tr ev en)
    (hp : ∀ kn' en' al' la' fd' ev' fi' tr', tp_YK L (tp_B L a b c d) (tp_K ops nums L) (tp_f ops nums) (tp_F ops nums L) al' fi' tr' ev' en' → post (nI L, kn', en', ops, nums, lws, hgs, al', la', fd', ev', fi', tr')) : wpY_workOut post (nI L, kn, en, ops, nums, lws, hgs, al, la, fd, ev, fi, tr) := by
  unfold wpY_workOut
  dsimp only
  refine br_c (fun e0 => ⟨257, yw_20 (fun al' fd' z1 z2 => ⟨17, ?_⟩) 256 0 257 al fd (by omega) (by omega) (fun p hp => absurd hp (Nat.not_lt_zero _)) (fun p hp => absurd hp (Nat.not_lt_zero _))⟩) (fun n0 => ?_)
  · refine yw_49 l0 (fun fi' tr' z3 z4 => ⟨18, ?_⟩) 16 0 17 fi tr (by omega) (by omega) (fun p hp => absurd hp (Nat.not_lt_zero _)) (fun p hp => absurd hp (Nat.not_lt_zero _))
    refine yw_83 (a := a) (b := b) (c := c) (d := d) hL hb hcd hd h0 h1 l1 z1 z3 z4 (fun en' al' la' fd' ev' fi' tr' h => hp _ _ _ _ _ _ _ _ h) (b + 1 - a) a 18 fd' (by omega) (by omega) (by omega) (fun i hi => ?_)
    rw [z2 i hi]
    refine tp_M_0 (fun j hj z => ?_)
    obtain ⟨z1, z2⟩ := z
    have := z1.2.2.1
    omega
  · rcases hk with h | h
    · exact absurd h n0
    · exact hp _ _ _ _ _ _ _ _ h
end
