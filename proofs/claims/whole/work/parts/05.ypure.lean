/-! the round of the reference: Z the states gone through, Fd those found -/
def tp_YZ (F : Nat → Int32) (Z Fd : Nat → Prop) (fd trp : Nat → Int32) (ends : Int32) : Prop :=
  tp_S fd Fd ∧ (∀ p, p < 16 → trp p = nI (tp_cn (fun s => Z s ∧ F s = -2) (256 * p) 256)) ∧ ends = nI (tp_b (∃ s, Z s ∧ F s = -1))
theorem tp_YZ_e {F : Nat → Int32} {Z Z' Fd Fd' : Nat → Prop} {fd trp : Nat → Int32} {ends : Int32} (h : tp_YZ F Z Fd fd trp ends) (hZ : ∀ s, Z s ↔ Z' s) (hF : ∀ s, s < 4096 → (Fd s ↔ Fd' s)) : tp_YZ F Z' Fd' fd trp ends := by
  have e : Z = Z' := funext (fun s => propext (hZ s))
  subst e
  exact ⟨tp_S_e h.1 hF, h.2⟩
theorem tp_YZ_end {F : Nat → Int32} {Z Fd : Nat → Prop} {fd trp : Nat → Int32} {ends : Int32} {t : Nat} (h : tp_YZ F Z Fd fd trp ends) (hF : F t = -1) : tp_YZ F (fun s => Z s ∨ s = t) Fd fd trp 1 := by
  refine ⟨h.1, fun p hp => ?_, ?_⟩
  · rw [h.2.1 p hp]
    refine congrArg nI (tp_cn_e (fun s _ _ => ⟨fun z => ⟨Or.inl z.1, z.2⟩, fun z => ⟨?_, z.2⟩⟩))
    rcases z.1 with y | y
    · exact y
    · have z2 := z.2
      rw [y, hF] at z2
      exact absurd z2 (by decide)
  · rw [tp_b1 ⟨t, Or.inr rfl, hF⟩]; rfl
theorem tp_YZ_no {F : Nat → Int32} {Z Fd : Nat → Prop} {fd trp : Nat → Int32} {ends : Int32} {t : Nat} (h : tp_YZ F Z Fd fd trp ends) (h1 : ¬ F t = -1) (h2 : ¬ F t = -2) : tp_YZ F (fun s => Z s ∨ s = t) Fd fd trp ends := by
  refine ⟨h.1, fun p hp => ?_, ?_⟩
  · rw [h.2.1 p hp]
    refine congrArg nI (tp_cn_e (fun s _ _ => ⟨fun z => ⟨Or.inl z.1, z.2⟩, fun z => ⟨?_, z.2⟩⟩))
    rcases z.1 with y | y
    · exact y
    · have z2 := z.2
      rw [y] at z2
      exact absurd z2 h2
  · rw [h.2.2]
    refine congrArg nI (tp_be ⟨fun ⟨s, z1, z2⟩ => ⟨s, Or.inl z1, z2⟩, fun ⟨s, z1, z2⟩ => ?_⟩)
    rcases z1 with y | y
    · exact ⟨s, y, z2⟩
    · rw [y] at z2
      exact absurd z2 h1
theorem tp_YZ_trap {F : Nat → Int32} {Z Fd : Nat → Prop} {fd trp : Nat → Int32} {ends : Int32} {t : Nat} (h : tp_YZ F Z Fd fd trp ends) (hF : F t = -2) (hZ : ¬ Z t) (ht : t < 4096) : tp_YZ F (fun s => Z s ∨ s = t) Fd fd (upd trp (t / 256) (trp (t / 256) + 1)) ends := by
  refine ⟨h.1, fun p hp => ?_, ?_⟩
  · by_cases e : p = t / 256
    · subst e
      rw [pk_us, h.2.1 _ hp, nI_1]
      refine congrArg nI (tp_cn_p (s := t) (fun z => hZ z.1) ⟨Or.inr rfl, hF⟩ (fun s hs => ⟨fun z => ⟨z.1.elim id (fun y => absurd y hs), z.2⟩, fun z => ⟨Or.inl z.1, z.2⟩⟩) (by omega) (by omega)).symm
    · rw [pk_un e, h.2.1 p hp]
      refine congrArg nI (tp_cn_e (fun s h1 h2 => ⟨fun z => ⟨Or.inl z.1, z.2⟩, fun z => ⟨?_, z.2⟩⟩))
      rcases z.1 with y | y
      · exact y
      · omega
  · rw [h.2.2]
    refine congrArg nI (tp_be ⟨fun ⟨s, z1, z2⟩ => ⟨s, Or.inl z1, z2⟩, fun ⟨s, z1, z2⟩ => ?_⟩)
    rcases z1 with y | y
    · exact ⟨s, y, z2⟩
    · rw [y, hF] at z2
      exact absurd z2 (by decide)
theorem tp_YZ_fd {F : Nat → Int32} {Z Fd A : Nat → Prop} {fd trp al : Nat → Int32} {ends : Int32} {s : Nat} (h : tp_YZ F Z Fd fd trp ends) (hA : tp_S al A) (hs : s < 4096) : tp_YZ F Z (fun q => Fd q ∨ (q = s ∧ ¬ A q)) (upd fd (s / 16) (fd (s / 16) ||| (((1 : Int32) <<< (nI (s % 16) &&& 31)) &&& (al (s / 16) ^^^ (-1))))) trp ends := by
  refine ⟨?_, h.2⟩
  have hi : s / 16 < 256 := by omega
  refine tp_S_u h.1 hi ?_ (fun q hq => ⟨Or.inl, fun z => z.elim id (fun y => absurd (by rw [y.1]) hq)⟩)
  refine tp_M_e (tp_M_or (h.1 _ hi) (tp_M_not (tp_M_1 (Nat.mod_lt s (by omega)) (s / 16)) (hA _ hi))) (fun j _ => ?_)
  have e : 16 * (s / 16) + s % 16 = s := by omega
  rw [e]
/-! taking what a round found -/
def tp_YF (fst0 fst : Nat → Int32) (Fd : Nat → Prop) (n i : Nat) : Prop := ∀ p, p < 16 →
  (¬ fst0 p = -5 → fst p = fst0 p) ∧ (fst0 p = -5 → (∃ s, s < 16 * i ∧ s / 256 = p ∧ Fd s) → fst p = nI n) ∧ (fst0 p = -5 → (¬ ∃ s, s < 16 * i ∧ s / 256 = p ∧ Fd s) → fst p = -5)
theorem tp_YF_0 (fst0 : Nat → Int32) (Fd : Nat → Prop) (n : Nat) : tp_YF fst0 fst0 Fd n 0 :=
  fun _ _ => ⟨fun _ => rfl, fun _ ⟨_, h, _⟩ => by omega, fun h _ => h⟩
/-- a row without a find -/
theorem tp_YF_n {fst0 fst : Nat → Int32} {Fd : Nat → Prop} {n i : Nat} (h : tp_YF fst0 fst Fd n i) (hf : ∀ j, j < 16 → ¬ Fd (16 * i + j)) : tp_YF fst0 fst Fd n (i + 1) := by
  have key : ∀ p, (∃ s, s < 16 * (i + 1) ∧ s / 256 = p ∧ Fd s) → ∃ s, s < 16 * i ∧ s / 256 = p ∧ Fd s := by
    intro p ⟨s, h1, h2, h3⟩
    rcases Nat.lt_or_ge s (16 * i) with z | z
    · exact ⟨s, z, h2, h3⟩
    · refine absurd h3 ?_
      have e : s = 16 * i + (s - 16 * i) := by omega
      rw [e]
      exact hf _ (by omega)
  intro p hp
  obtain ⟨a, b, c⟩ := h p hp
  exact ⟨a, fun z y => b z (key p y), fun z y => c z (fun ⟨s, h1, h2⟩ => y ⟨s, by omega, h2⟩)⟩
/-- a row with a find, the first time known or not -/
theorem tp_YF_s {fst0 fst : Nat → Int32} {Fd : Nat → Prop} {n i j : Nat} (hn : n < 2 ^ 31) (hj : j < 16) (h : tp_YF fst0 fst Fd n i) (hf : Fd (16 * i + j)) (hx : fst (i / 16) = -5) : tp_YF fst0 (upd fst (i / 16) (nI n)) Fd n (i + 1) := by
  intro p hp
  obtain ⟨a, b, c⟩ := h p hp
  by_cases e : p = i / 16
  · subst e
    rw [pk_us]
    have w : ∃ s, s < 16 * (i + 1) ∧ s / 256 = i / 16 ∧ Fd s := ⟨16 * i + j, by omega, by omega, hf⟩
    exact ⟨fun z => absurd ((a z).symm.trans hx) z, fun _ _ => rfl, fun _ y => absurd w y⟩
  · rw [pk_un e]
    have key : (∃ s, s < 16 * (i + 1) ∧ s / 256 = p ∧ Fd s) → ∃ s, s < 16 * i ∧ s / 256 = p ∧ Fd s := by
      intro ⟨s, h1, h2, h3⟩
      exact ⟨s, by omega, h2, h3⟩
    exact ⟨a, fun z y => b z (key y), fun z y => c z (fun ⟨s, h1, h2⟩ => y ⟨s, by omega, h2⟩)⟩
theorem tp_YF_k {fst0 fst : Nat → Int32} {Fd : Nat → Prop} {n i j : Nat} (hj : j < 16) (h : tp_YF fst0 fst Fd n i) (hf : Fd (16 * i + j)) (hx : ¬ fst (i / 16) = -5) : tp_YF fst0 fst Fd n (i + 1) := by
  intro p hp
  obtain ⟨a, b, c⟩ := h p hp
  by_cases e : p = i / 16
  · subst e
    refine ⟨a, fun z _ => ?_, fun z y => absurd ⟨16 * i + j, by omega, by omega, hf⟩ y⟩
    rcases Classical.em (∃ s, s < 16 * i ∧ s / 256 = i / 16 ∧ Fd s) with q | q
    · exact b z q
    · exact absurd (c z q) hx
  · have key : (∃ s, s < 16 * (i + 1) ∧ s / 256 = p ∧ Fd s) → ∃ s, s < 16 * i ∧ s / 256 = p ∧ Fd s := by
      intro ⟨s, h1, h2, h3⟩
      exact ⟨s, by omega, h2, h3⟩
    exact ⟨a, fun z y => b z (key y), fun z y => c z (fun ⟨s, h1, h2⟩ => y ⟨s, by omega, h2⟩)⟩
/-! a stage of the reference -/
def tp_Fs (B : Nat → Prop) (K f : Nat → Nat) (fst : Nat → Int32) (n : Nat) : Prop := ∀ p, p < 16 →
  (∀ m, tp_L B K f p m → m ≤ n → fst p = nI m) ∧ ((∀ m, m ≤ n → ¬ tp_H B K f p m) → fst p = -5)
theorem tp_Fs_0 {B : Nat → Prop} {K f : Nat → Nat} {fst0 fst : Nat → Int32} (hB : ∀ s, B s → s < 4096) (h0 : ∀ p, p < 16 → fst0 p = -5) (h : tp_YF fst0 fst B 0 256) : tp_Fs B K f fst 0 := by
  intro p hp
  obtain ⟨a, b, c⟩ := h p hp
  refine ⟨fun m hm hl => ?_, fun hn => c (h0 p hp) (fun ⟨s, h1, h2, h3⟩ => hn 0 (Nat.le_refl _) ⟨s, h2, h3⟩)⟩
  have e : m = 0 := by omega
  subst e
  obtain ⟨s, hs, hR⟩ := hm.1
  exact b (h0 p hp) ⟨s, hB s hR, hs, hR⟩
theorem tp_Fs_s {L : Nat} {B : Nat → Prop} {K f : Nat → Nat} {fst0 fst : Nat → Int32} {n : Nat} (hL : L ≤ 16) (W : tp_Wf L B K f) (hn : n < 2 ^ 30) (h0 : tp_Fs B K f fst0 n) (h : tp_YF fst0 fst (fun s => tp_D B K f s (n + 1)) (n + 1) 256) : tp_Fs B K f fst (n + 1) := by
  intro p hp
  obtain ⟨a, b, c⟩ := h p hp
  obtain ⟨a0, b0⟩ := h0 p hp
  have key : ∀ s, s / 256 = p → tp_D B K f s (n + 1) → ∃ s, s < 16 * 256 ∧ s / 256 = p ∧ tp_D B K f s (n + 1) := by
    intro s hs hD
    have := tp_R_lt W hD.1
    exact ⟨s, by omega, hs, hD⟩
  refine ⟨fun m hm hl => ?_, fun hno => ?_⟩
  · rcases Nat.lt_or_ge n m with z | z
    · have e : m = n + 1 := by omega
      subst e
      have x : fst0 p = -5 := b0 (fun m' hl' hH => by have := hm.2 m' hH; omega)
      obtain ⟨s, hs, hD⟩ := tp_L_D hm
      exact b x (key s hs hD)
    · have x := a0 m hm z
      rw [← x]
      refine a ?_
      rw [x]
      exact tp_code_ne (by omega)
  · refine c (b0 (fun m hl => hno m (by omega))) (fun ⟨s, h1, h2, h3⟩ => hno (n + 1) (Nat.le_refl _) ⟨s, h2, h3.1⟩)
theorem tp_Fs_e {B : Nat → Prop} {K f : Nat → Nat} {fst : Nat → Int32} {n : Nat} (hn : ∀ s, ¬ tp_D B K f s n) (h : tp_Fs B K f fst n) : ∀ p, p < 16 → ((∀ m, ¬ tp_H B K f p m) → fst p = -5) ∧ ∀ m, tp_L B K f p m → fst p = nI m := by
  intro p hp
  obtain ⟨a, b⟩ := h p hp
  refine ⟨fun z => b (fun m _ => z m), fun m hm => a m hm ?_⟩
  obtain ⟨s, hs, hD⟩ := tp_L_D hm
  obtain ⟨m', hl, hR⟩ := tp_A_e hn m s hD.1
  have := hD.2 m' hR
  omega
/-! dropping states, round by round: d whether one fell in this round -/
def tp_Dr (K f : Nat → Nat) (g : Nat → Prop) (r : Nat) (d : Int32) (Dn : Nat → Prop) : Prop :=
  (d = 0 ∧ tp_cn g 0 4096 + r ≤ 4096 ∧ ∀ s, Dn s → g s → tp_Cl K f g s) ∨ (d = 1 ∧ tp_cn g 0 4096 + r + 1 ≤ 4096)
def tp_Hd (K f : Nat → Nat) (g : Nat → Prop) (r : Nat) (d : Int32) : Prop :=
  (d = 1 ∧ tp_cn g 0 4096 + r ≤ 4096) ∨ (d = 0 ∧ ∀ s, g s → tp_Cl K f g s)
theorem tp_Hd_x {K f : Nat → Nat} {g : Nat → Prop} {d : Int32} (h : tp_Hd K f g 4097 d) : ∀ s, g s → tp_Cl K f g s := by
  rcases h with h | h
  · omega
  · exact h.2
theorem tp_Hd_0 {K f : Nat → Nat} {g : Nat → Prop} {r : Nat} (h : tp_Hd K f g r 0) : ∀ s, g s → tp_Cl K f g s := by
  rcases h with h | h
  · exact absurd h.1 (by decide)
  · exact h.2
theorem tp_Hd_1 {K f : Nat → Nat} {g : Nat → Prop} {r : Nat} {d : Int32} (h : tp_Hd K f g r d) (hd : ¬ d = 0) : tp_cn g 0 4096 + r ≤ 4096 := by
  rcases h with h | h
  · exact h.2
  · exact absurd h.1 hd
theorem tp_Dr_e {K f : Nat → Nat} {g Dn : Nat → Prop} {r : Nat} {d : Int32} (h : tp_Dr K f g r d Dn) (hD : ∀ s, g s → Dn s) : tp_Hd K f g (r + 1) d := by
  rcases h with h | h
  · exact Or.inr ⟨h.1, fun s hs => h.2.2 s (hD s hs) hs⟩
  · exact Or.inl ⟨h.1, by omega⟩
theorem tp_Dr_k {K f : Nat → Nat} {g Dn Dn' : Nat → Prop} {r : Nat} {d : Int32} (h : tp_Dr K f g r d Dn) (hD : ∀ s, Dn' s → g s → Dn s ∨ tp_Cl K f g s) : tp_Dr K f g r d Dn' := by
  rcases h with h | h
  · exact Or.inl ⟨h.1, h.2.1, fun s h1 h2 => (hD s h1 h2).elim (fun z => h.2.2 s z h2) id⟩
  · exact Or.inr h
theorem tp_Dr_d {K f : Nat → Nat} {g g' Dn : Nat → Prop} (Dn' : Nat → Prop) {r : Nat} {d : Int32} (h : tp_Dr K f g r d Dn) (hc : tp_cn g' 0 4096 < tp_cn g 0 4096) : tp_Dr K f g' r 1 Dn' := by
  refine Or.inr ⟨rfl, ?_⟩
  rcases h with h | h
  · have := h.2.1; omega
  · have := h.2; omega
/-! the reference's rows of states that go on -/
def tp_YG (B : Nat → Prop) (K f : Nat → Nat) (en : Nat → Int32) (g : Nat → Prop) : Prop :=
  (∀ s, g s → tp_P B K f s) ∧ (∀ s, tp_G B K f s → g s) ∧ tp_S en g
theorem tp_YG_k {B : Nat → Prop} {K f : Nat → Nat} {en : Nat → Int32} {g : Nat → Prop} {i : Nat} {k : Int32} (h : tp_YG B K f en g) (hi : i < 256) (hk : tp_M k i (fun s => g s ∧ tp_Cl K f g s)) (e : k = en i) : ∀ s, s / 16 = i → g s → tp_Cl K f g s := by
  intro s hs hg
  subst e
  have e : 16 * i + s % 16 = s := by omega
  have x := (h.2.2 i hi (s % 16) (by omega)).mpr ⟨by omega, by rw [e]; exact hg⟩
  have y := ((hk (s % 16) (by omega)).mp x).2
  rw [e] at y
  exact y.2
theorem tp_YG_d {B : Nat → Prop} {K f : Nat → Nat} {en : Nat → Int32} {g : Nat → Prop} {i : Nat} {k : Int32} (h : tp_YG B K f en g) (hi : i < 256) (hk : tp_M k i (fun s => g s ∧ tp_Cl K f g s)) (e : ¬ k = en i) : tp_YG B K f (upd en i k) (fun s => g s ∧ (s / 16 = i → tp_Cl K f g s)) ∧ tp_cn (fun s => g s ∧ (s / 16 = i → tp_Cl K f g s)) 0 4096 < tp_cn g 0 4096 := by
  refine ⟨⟨fun s hs => h.1 s hs.1, fun s hs => ⟨h.2.1 s hs, fun _ => tp_G_drop h.2.1 hs⟩, ?_⟩, ?_⟩
  · refine tp_S_u h.2.2 hi (tp_M_e hk (fun j hj => ⟨fun z => ⟨z.1, fun _ => z.2⟩, fun z => ⟨z.1, z.2 (by omega)⟩⟩)) (fun s hs => ⟨fun z => ⟨z, fun y => absurd y hs⟩, fun z => z.1⟩)
  · rcases Classical.em (∃ j, j < 16 ∧ g (16 * i + j) ∧ ¬ tp_Cl K f g (16 * i + j)) with z | z
    · obtain ⟨j, hj, hg, hc⟩ := z
      exact tp_cn_sub (s := 16 * i + j) (fun t _ _ q => q.1) (fun q => hc (q.2 (by omega))) hg (by omega) (by omega)
    · refine absurd (tp_M_u (tp_M_e hk (fun j hj => ⟨fun q => q.1, fun q => ⟨q, ?_⟩⟩)) (h.2.2 i hi)) e
      rcases Classical.em (tp_Cl K f g (16 * i + j)) with y | y
      · exact y
      · exact absurd ⟨j, hj, q, y⟩ z
