/-! the relation, and what is owed -/
def i_Rel (_ : Nat) (u : SX) (v : SY) : Prop := ∃ (L a b c d : Nat) (ops nums : Nat → Int32), tp_Bd L a b c d ∧ xR L a b c d ops nums u ∧ yR L a b c d ops nums v
theorem i_up {k : Nat} {u : SX} {v : SY} (h : i_Rel k u v) : i_Rel (k + 4) u v := h
theorem i_vc0 : wpX_init (fun u => wpY_init (fun v => i_Rel 0 u v)) := by
  unfold wpX_init wpY_init
  refine nm_e (nm_e ?_)
  exact ⟨0, 0, 15, 0, 15, fun _ => 0, fun _ => 0, ⟨by omega, by omega, by omega, by omega, by omega⟩, ⟨0, 0, 0, fun _ => 0, fun _ => 0, fun _ => 0, fun _ => 0, fun _ => 0, rfl, Or.inl rfl⟩, ⟨0, 0, fun _ => 0, _, fun _ => 0, fun _ => 0, fun _ => 0, fun _ => 0, fun _ => 0, fun _ => 0, rfl, ⟨rfl, rfl, rfl, rfl⟩, Or.inl rfl⟩⟩
theorem i_vc_emit {k : Nat} {u : SX} {v : SY} (I : i_Rel k u v) (hk : k + 4 ≤ 2048) (v1 : Int32) (v2 : Int32) : wpX_emit (fun r u' => wpY_emit (fun r' v' => r' = r ∧ i_Rel (k + 4) u' v') v v1 v2) u v1 v2 := by
  have I' := I
  obtain ⟨L, a, b, c, d, ops, nums, hB, hu, hv⟩ := I'
  obtain ⟨ex, pc, ec, ord, st, fn, nc, go, rfl, hx⟩ := hu
  obtain ⟨kn, en, lws, hgs, al, la, fd, ev, fi, tr, rfl, hr, hy⟩ := hv
  have hL := hB.1
  unfold wpX_emit wpY_emit
  dsimp only
  by_cases h0 : v1 < 0
  · exact br_t h0 (br_t h0 ⟨rfl, I⟩)
  · by_cases h14 : v1 ≤ 14
    · refine br_f h0 (br_t h14 ?_)
      refine xw_place (fun q hq e => br_f (by decide) ?_) (fun hn => br_t rfl ?_)
      · have hq' : L = q := (nI_eq (by omega) (by omega)).mp e
        subst hq'
        have hin : vp_in (nI L) 16 := vp_in_nI hq (by omega)
        have hcl : (nI L).toNatClampNeg = L := nI_clamp (by omega)
        have hne : ¬ nI L = 16 := fun z => by
          have := (nI_eq (a := L) (b := 16) (by omega) (by omega)).mp z
          omega
        rw [hcl]
        refine ⟨hin, nm_e ⟨hin, nm_e (tp_n1 ?_)⟩⟩
        refine br_f h0 (br_t h14 (br_f hne ⟨hin, nm_e ⟨hin, nm_e (tp_n1 ?_)⟩⟩))
        refine ⟨nI_pred L, L + 1, a, b, c, d, upd ops L v1, upd nums L v2, ⟨by omega, hB.2⟩, ⟨_, _, _, _, _, _, _, _, rfl, Or.inl rfl⟩, ⟨_, _, _, _, _, _, _, _, _, _, rfl, hr, Or.inl rfl⟩⟩
      · have e16 : L = 16 := by
          rcases Nat.lt_or_ge L 16 with z | z
          · exact absurd rfl (hn L z)
          · omega
        subst e16
        exact br_f h0 (br_t h14 (br_t rfl ⟨rfl, I⟩))
    · exact br_f h0 (br_f h14 (br_f h0 (br_f h14 ⟨rfl, I⟩)))
theorem i_vc_patch {k : Nat} {u : SX} {v : SY} (I : i_Rel k u v) (hk : k + 4 ≤ 2048) (v1 : Int32) (v2 : Int32) : wpX_patch (fun r u' => wpY_patch (fun r' v' => r' = r ∧ i_Rel (k + 4) u' v') v v1 v2) u v1 v2 := by
  have I' := I
  obtain ⟨L, a, b, c, d, ops, nums, hB, hu, hv⟩ := I'
  obtain ⟨ex, pc, ec, ord, st, fn, nc, go, rfl, hx⟩ := hu
  obtain ⟨kn, en, lws, hgs, al, la, fd, ev, fi, tr, rfl, hr, hy⟩ := hv
  have hL := hB.1
  unfold wpX_patch wpY_patch
  dsimp only
  refine xw_ins hL (fun q hq e => br_f (by decide) ?_) (fun hn => br_t rfl ?_)
  · subst e
    have hin : vp_in (nI q) 16 := vp_in_nI (by omega) (by omega)
    have hcl : (nI q).toNatClampNeg = q := nI_clamp (by omega)
    rw [hcl]
    refine ⟨hin, nm_e ⟨hin, nm_e ?_⟩⟩
    refine yw_bad hL (fun q' hq' e' => br_t rfl ?_) (fun hn => absurd rfl (hn q hq))
    refine ⟨hin, nm_e ⟨hin, nm_e ?_⟩⟩
    exact ⟨rfl, L, a, b, c, d, ops, upd nums q v2, hB, ⟨_, _, _, _, _, _, _, _, rfl, Or.inl rfl⟩, ⟨_, _, _, _, _, _, _, _, _, _, rfl, hr, Or.inl rfl⟩⟩
  · exact yw_bad hL (fun q hq e => absurd e (hn q hq)) (fun _ => br_f (by decide) ⟨rfl, I⟩)
theorem i_vc_begin {k : Nat} {u : SX} {v : SY} (I : i_Rel k u v) (hk : k + 4 ≤ 2048) (v1 : Int32) (v2 : Int32) (v3 : Int32) : wpX_begin (fun r u' => wpY_begin (fun r' v' => r' = r ∧ i_Rel (k + 4) u' v') v v1 v2 v3) u v1 v2 v3 := by
  have I' := I
  obtain ⟨L, a, b, c, d, ops, nums, hB, hu, hv⟩ := I'
  obtain ⟨ex, pc, ec, ord, st, fn, nc, go, rfl, hx⟩ := hu
  obtain ⟨kn, en, lws, hgs, al, la, fd, ev, fi, tr, rfl, hr, hy⟩ := hv
  have hL := hB.1
  unfold wpX_begin wpY_begin
  dsimp only
  refine xw_reg (fun h01 => br_f (by decide) ?_) (fun h01 => br_t rfl ?_)
  · have hn0 : ¬ v1 < 0 := by
      rcases h01 with z | z <;> rw [z] <;> decide
    have hn1 : ¬ 1 < v1 := by
      rcases h01 with z | z <;> rw [z] <;> decide
    by_cases h2 : v2 < 0
    · exact br_t h2 (br_f hn0 (br_f hn1 (br_t h2 ⟨rfl, I⟩)))
    by_cases h3 : v3 < v2
    · exact br_f h2 (br_t h3 (br_f hn0 (br_f hn1 (br_f h2 (br_t h3 ⟨rfl, I⟩)))))
    by_cases h15 : v3 ≤ 15
    · refine br_f h2 (br_f h3 (br_t h15 ?_))
      obtain ⟨i, hi, ei⟩ := nI_of (x := v2) h2
      have h30 : ¬ v3 < 0 := Int32.not_lt.mpr (Int32.le_trans (Int32.not_lt.mp h2) (Int32.not_lt.mp h3))
      obtain ⟨j, hj, ej⟩ := nI_of (x := v3) h30
      have hj15 : j ≤ 15 := by
        rw [ej] at h15
        exact (nI_leI (b := 15) hj (by omega)).mp h15
      have hij : i ≤ j := by
        have z := Int32.not_lt.mp h3
        rw [ei, ej] at z
        exact (nI_leI hi hj).mp z
      by_cases e0 : v1 = 0
      · subst e0
        refine br_t rfl ?_
        refine br_f hn0 (br_f hn1 (br_f h2 (br_f h3 (br_t h15 ⟨vp_in_iff.mpr (by decide), nm_e ⟨vp_in_iff.mpr (by decide), nm_e ?_⟩⟩))))
        subst ei
        subst ej
        exact ⟨rfl, L, i, j, c, d, ops, nums, ⟨hL, hij, by omega, hB.2.2.2⟩, ⟨_, _, _, _, _, _, _, _, rfl, Or.inl rfl⟩, ⟨_, _, _, _, _, _, _, _, _, _, rfl, ⟨rfl, rfl, hr.2.2.1, hr.2.2.2⟩, Or.inl rfl⟩⟩
      · have e1 : v1 = 1 := h01.elim (fun z => absurd z e0) id
        subst e1
        refine br_f e0 ?_
        refine br_f hn0 (br_f hn1 (br_f h2 (br_f h3 (br_t h15 ⟨vp_in_iff.mpr (by decide), nm_e ⟨vp_in_iff.mpr (by decide), nm_e ?_⟩⟩))))
        subst ei
        subst ej
        exact ⟨rfl, L, a, b, i, j, ops, nums, ⟨hL, hB.2.1, hB.2.2.1, hij, by omega⟩, ⟨_, _, _, _, _, _, _, _, rfl, Or.inl rfl⟩, ⟨_, _, _, _, _, _, _, _, _, _, rfl, ⟨hr.1, hr.2.1, rfl, rfl⟩, Or.inl rfl⟩⟩
    · exact br_f h2 (br_f h3 (br_f h15 (br_f hn0 (br_f hn1 (br_f h2 (br_f h3 (br_f h15 ⟨rfl, I⟩)))))))
  · by_cases hn0 : v1 < 0
    · exact br_t hn0 ⟨rfl, I⟩
    · refine br_f hn0 (br_t ?_ ⟨rfl, I⟩)
      obtain ⟨i, hi, ei⟩ := nI_of (x := v1) hn0
      have h2 : 2 ≤ i := by
        rcases Nat.lt_or_ge i 2 with z | z
        · have : i = 0 ∨ i = 1 := by omega
          rcases this with y | y
          · subst y; exact absurd (Or.inl ei) h01
          · subst y; exact absurd (Or.inr ei) h01
        · exact z
      rw [ei]
      exact nI_lt (a := 1) (b := i) (by omega) hi
theorem i_vc_clear {k : Nat} {u : SX} {v : SY} (I : i_Rel k u v) (hk : k + 4 ≤ 2048) : wpX_clear (fun u' => wpY_clear (fun v' => i_Rel (k + 4) u' v') v) u := by
  obtain ⟨L, a, b, c, d, ops, nums, hB, hu, hv⟩ := I
  obtain ⟨ex, pc, ec, ord, st, fn, nc, go, rfl, hx⟩ := hu
  obtain ⟨kn, en, lws, hgs, al, la, fd, ev, fi, tr, rfl, hr, hy⟩ := hv
  unfold wpX_clear wpY_clear
  exact ⟨0, a, b, c, d, ops, nums, ⟨by omega, hB.2⟩, ⟨_, _, _, _, _, _, _, _, rfl, Or.inl rfl⟩, ⟨_, _, _, _, _, _, _, _, _, _, rfl, hr, Or.inl rfl⟩⟩
theorem i_vc_states {k : Nat} {u : SX} {v : SY} (I : i_Rel k u v) (hk : k + 4 ≤ 2048) (v1 : Int32) : wpX_states (fun r u' => wpY_states (fun r' v' => r' = r ∧ i_Rel (k + 4) u' v') v v1) u v1 := by
  obtain ⟨L, a, b, c, d, ops, nums, hB, hu, hv⟩ := I
  have ⟨hL, hab, hb, hcd, hd⟩ := hB
  refine xq_states hL (by omega) hb (by omega) hd hu (fun hn => ?_) (fun q hq e u' hu' => ?_)
  · exact yq_states hB hv (fun _ => ⟨rfl, L, a, b, c, d, ops, nums, hB, hu, hv⟩) (fun q hq e => absurd e (hn q hq))
  · refine yq_states hB hv (fun hn => absurd e (hn q hq)) (fun q' hq' e' v' hv' => ⟨?_, L, a, b, c, d, ops, nums, hB, hu', hv'⟩)
    have := (nI_eq (by omega) (by omega)).mp (e.symm.trans e')
    rw [this]
theorem i_vc_possible {k : Nat} {u : SX} {v : SY} (I : i_Rel k u v) (hk : k + 4 ≤ 2048) (v1 : Int32) (v2 : Int32) (v3 : Int32) : wpX_possible (fun r u' => wpY_possible (fun r' v' => r' = r ∧ i_Rel (k + 4) u' v') v v1 v2 v3) u v1 v2 v3 := by
  obtain ⟨L, a, b, c, d, ops, nums, hB, hu, hv⟩ := I
  have ⟨hL, hab, hb, hcd, hd⟩ := hB
  refine xq_possible hL (by omega) hb (by omega) hd hu (fun hn => ?_) (fun q i j hq hi hj e ei ej u' hu' => ?_)
  · exact yq_possible hB hv (fun _ => ⟨rfl, L, a, b, c, d, ops, nums, hB, hu, hv⟩) (fun q i j hq hi hj e ei ej => absurd ⟨q, i, j, hq, hi, hj, e, ei, ej⟩ hn)
  · refine yq_possible hB hv (fun hn => absurd ⟨q, i, j, hq, hi, hj, e, ei, ej⟩ hn) (fun q' i' j' hq' hi' hj' e' ei' ej' v' hv' => ⟨?_, L, a, b, c, d, ops, nums, hB, hu', hv'⟩)
    have h1 := (nI_eq (by omega) (by omega)).mp (e.symm.trans e')
    have h2 := (nI_eq (by omega) (by omega)).mp (ei.symm.trans ei')
    have h3 := (nI_eq (by omega) (by omega)).mp (ej.symm.trans ej')
    rw [h1, h2, h3]
theorem i_vc_values {k : Nat} {u : SX} {v : SY} (I : i_Rel k u v) (hk : k + 4 ≤ 2048) (v1 : Int32) (v2 : Int32) : wpX_values (fun r u' => wpY_values (fun r' v' => r' = r ∧ i_Rel (k + 4) u' v') v v1 v2) u v1 v2 := by
  obtain ⟨L, a, b, c, d, ops, nums, hB, hu, hv⟩ := I
  have ⟨hL, hab, hb, hcd, hd⟩ := hB
  refine xq_values hL (by omega) hb (by omega) hd hu (fun hn => ?_) (fun q hq e hr => ?_) (fun q hq e hr u' r hu' hV => ?_) (fun q hq e hr u' r hu' hV => ?_)
  · exact yq_values hB hv (fun _ => ⟨rfl, L, a, b, c, d, ops, nums, hB, hu, hv⟩) (fun q hq e => absurd e (hn q hq)) (fun q hq e => absurd e (hn q hq)) (fun q hq e => absurd e (hn q hq))
  · exact yq_values hB hv (fun hn => absurd e (hn q hq)) (fun _ _ _ _ => ⟨rfl, L, a, b, c, d, ops, nums, hB, hu, hv⟩) (fun _ _ _ z => absurd (Or.inl z) hr) (fun _ _ _ z => absurd (Or.inr z) hr)
  · refine yq_values hB hv (fun hn => absurd e (hn q hq)) (fun _ _ _ z => absurd (Or.inl hr) z) (fun q' hq' e' _ v' r' hv' hV' => ⟨?_, L, a, b, c, d, ops, nums, hB, hu', hv'⟩) (fun _ _ _ z => absurd (hr.symm.trans z) (by decide))
    have := (nI_eq (by omega) (by omega)).mp (e.symm.trans e')
    subst this
    exact tp_V_u hV' hV (fun _ _ => Iff.rfl)
  · refine yq_values hB hv (fun hn => absurd e (hn q hq)) (fun _ _ _ z => absurd (Or.inr hr) z) (fun _ _ _ z => absurd (hr.symm.trans z) (by decide)) (fun q' hq' e' _ v' r' hv' hV' => ⟨?_, L, a, b, c, d, ops, nums, hB, hu', hv'⟩)
    have := (nI_eq (by omega) (by omega)).mp (e.symm.trans e')
    subst this
    exact tp_V_u hV' hV (fun _ _ => Iff.rfl)
theorem i_vc_traps {k : Nat} {u : SX} {v : SY} (I : i_Rel k u v) (hk : k + 4 ≤ 2048) (v1 : Int32) : wpX_traps (fun r u' => wpY_traps (fun r' v' => r' = r ∧ i_Rel (k + 4) u' v') v v1) u v1 := by
  obtain ⟨L, a, b, c, d, ops, nums, hB, hu, hv⟩ := I
  have ⟨hL, hab, hb, hcd, hd⟩ := hB
  refine xq_traps hL (by omega) hb (by omega) hd hu (fun hn => ?_) (fun q hq e u' hu' => ?_)
  · exact yq_traps hB hv (fun _ => ⟨rfl, L, a, b, c, d, ops, nums, hB, hu, hv⟩) (fun q hq e => absurd e (hn q hq))
  · refine yq_traps hB hv (fun hn => absurd e (hn q hq)) (fun q' hq' e' v' hv' => ⟨?_, L, a, b, c, d, ops, nums, hB, hu', hv'⟩)
    have := (nI_eq (by omega) (by omega)).mp (e.symm.trans e')
    rw [this]
theorem i_vc_safe {k : Nat} {u : SX} {v : SY} (I : i_Rel k u v) (hk : k + 4 ≤ 2048) : wpX_safe (fun r u' => wpY_safe (fun r' v' => r' = r ∧ i_Rel (k + 4) u' v') v) u := by
  obtain ⟨L, a, b, c, d, ops, nums, hB, hu, hv⟩ := I
  have ⟨hL, hab, hb, hcd, hd⟩ := hB
  exact xq_safe hL (by omega) hb (by omega) hd hu (fun u' hu' => yq_safe hB hv (fun v' hv' => ⟨rfl, L, a, b, c, d, ops, nums, hB, hu', hv'⟩))
theorem i_vc_soonest {k : Nat} {u : SX} {v : SY} (I : i_Rel k u v) (hk : k + 4 ≤ 2048) (v1 : Int32) : wpX_soonest (fun r u' => wpY_soonest (fun r' v' => r' = r ∧ i_Rel (k + 4) u' v') v v1) u v1 := by
  obtain ⟨L, a, b, c, d, ops, nums, hB, hu, hv⟩ := I
  have ⟨hL, hab, hb, hcd, hd⟩ := hB
  refine xq_soonest hL (by omega) hb (by omega) hd hu (fun hn => ?_) (fun q hq e u' r hu' hS => ?_)
  · exact yq_soonest hB hv (fun _ => ⟨rfl, L, a, b, c, d, ops, nums, hB, hu, hv⟩) (fun q hq e => absurd e (hn q hq))
  · refine yq_soonest hB hv (fun hn => absurd e (hn q hq)) (fun q' hq' e' v' r' hv' hS' => ⟨?_, L, a, b, c, d, ops, nums, hB, hu', hv'⟩)
    have := (nI_eq (by omega) (by omega)).mp (e.symm.trans e')
    subst this
    exact tp_Sv_u hS hS'
theorem i_vc_canEnd {k : Nat} {u : SX} {v : SY} (I : i_Rel k u v) (hk : k + 4 ≤ 2048) : wpX_canEnd (fun r u' => wpY_canEnd (fun r' v' => r' = r ∧ i_Rel (k + 4) u' v') v) u := by
  obtain ⟨L, a, b, c, d, ops, nums, hB, hu, hv⟩ := I
  have ⟨hL, hab, hb, hcd, hd⟩ := hB
  exact xq_canEnd hL (by omega) hb (by omega) hd hu (fun u' hu' => yq_canEnd hB hv (fun v' hv' => ⟨rfl, L, a, b, c, d, ops, nums, hB, hu', hv'⟩))
theorem i_vc_canRunForever {k : Nat} {u : SX} {v : SY} (I : i_Rel k u v) (hk : k + 4 ≤ 2048) : wpX_canRunForever (fun r u' => wpY_canRunForever (fun r' v' => r' = r ∧ i_Rel (k + 4) u' v') v) u := by
  obtain ⟨L, a, b, c, d, ops, nums, hB, hu, hv⟩ := I
  have ⟨hL, hab, hb, hcd, hd⟩ := hB
  exact xq_forever hL (by omega) hb (by omega) hd hu (fun u' hu' => yq_forever hB hv (fun v' hv' => ⟨rfl, L, a, b, c, d, ops, nums, hB, hu', hv'⟩))
theorem i_vc_endless {k : Nat} {u : SX} {v : SY} (I : i_Rel k u v) (hk : k + 4 ≤ 2048) : wpX_endless (fun r u' => wpY_endless (fun r' v' => r' = r ∧ i_Rel (k + 4) u' v') v) u := by
  obtain ⟨L, a, b, c, d, ops, nums, hB, hu, hv⟩ := I
  have ⟨hL, hab, hb, hcd, hd⟩ := hB
  exact xq_endless hL (by omega) hb (by omega) hd hu (fun u' hu' => yq_endless hB hv (fun v' hv' => ⟨rfl, L, a, b, c, d, ops, nums, hB, hu', hv'⟩))
