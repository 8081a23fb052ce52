/-! the relation and the owed statements -/
/-- the same dependencies, parts and cells; what the reference knows already is right; its scratch and the class's marks are free -/
def i_Rel (k : Nat) (u : SX) (v : SY) : Prop :=
  ∃ L R B n P pn ce rn mk st sy, n ≤ 10 ∧ pn ≤ 4 ∧ rn ≤ 6 ∧ u = xT L R B n P pn ce rn mk ∧ yO L R B n P pn ce rn st sy v
theorem i_mk {k : Nat} {L R : Nat → dd_S} {B : Nat → Bool} {n : Nat} {P : Nat → dd_S} {pn : Nat} {ce : Nat → Int32} {rn : Nat} {mk st sy : Nat → Int32} {v : SY} (hn : n ≤ 10) (hp : pn ≤ 4) (hr : rn ≤ 6) (hv : yO L R B n P pn ce rn st sy v) : i_Rel k (xT L R B n P pn ce rn mk) v :=
  ⟨L, R, B, n, P, pn, ce, rn, mk, st, sy, hn, hp, hr, rfl, hv⟩
theorem i_up {k : Nat} {u : SX} {v : SY} (h : i_Rel k u v) : i_Rel (k + 4) u v := h
theorem i_vc0 : wpX_init (fun u => wpY_init (fun v => i_Rel 0 u v)) :=
  ⟨fun _ => 0#6, fun _ => 0#6, fun _ => false, 0, fun _ => 0#6, 0, fun _ => 0, 0, fun _ => 0, fun _ => 0, fun _ => 0, by decide, by decide, by decide, rfl, 0, 0, fun _ => 0, fun _ => 0, fun _ => 0, yM_0 fun _ _ => rfl, rfl⟩
theorem i_vc_give {k : Nat} {u : SX} {v : SY} (I : i_Rel k u v) (hk : k + 4 ≤ 2048) (v1 : Int32) (v2 : Int32) (v3 : Int32) : wpX_give (fun r u' => wpY_give (fun r' v' => r' = r ∧ i_Rel (k + 4) u' v') v v1 v2 v3) u v1 v2 v3 := by
  obtain ⟨L, R, B, n, P, pn, ce, rn, mk, st, sy, hn, hp, hr, rfl, hv⟩ := I
  rcases dd_sets v1 with b1 | ⟨x, rfl⟩
  · obtain ⟨sm, md, kn, cs, tb, hM, rfl⟩ := hv
    unfold wpX_give
    refine x_isSetF b1 (br_t rfl ?_)
    unfold wpY_give
    exact y_isSetF b1 (br_t rfl ⟨rfl, i_mk hn hp hr ⟨sm, md, kn, cs, tb, hM, rfl⟩⟩)
  rcases dd_sets v2 with b2 | ⟨y, rfl⟩
  · obtain ⟨sm, md, kn, cs, tb, hM, rfl⟩ := hv
    unfold wpX_give
    refine x_isSet x (br_f (by decide) (x_isSetF b2 (br_t rfl ?_)))
    unfold wpY_give
    exact y_isSet x (br_f (by decide) (y_isSetF b2 (br_t rfl ⟨rfl, i_mk hn hp hr ⟨sm, md, kn, cs, tb, hM, rfl⟩⟩)))
  rcases Nat.lt_or_ge n 10 with z | z
  · exact x_give z x y v3 (y_give z x y v3 hv fun v' hv' => ⟨rfl, i_mk (by omega) hp hr hv'⟩)
  · obtain ⟨sm, md, kn, cs, tb, hM, rfl⟩ := hv
    have e : n = 10 := by omega
    subst e
    unfold wpX_give
    refine x_isSet x (br_f (by decide) (x_isSet y (br_f (by decide) (br_f (by decide) ?_))))
    unfold wpY_give
    exact y_isSet x (br_f (by decide) (y_isSet y (br_f (by decide) (br_t rfl ⟨rfl, i_mk hn hp hr ⟨sm, md, kn, cs, tb, hM, rfl⟩⟩))))
theorem i_vc_take {k : Nat} {u : SX} {v : SY} (I : i_Rel k u v) (hk : k + 4 ≤ 2048) : wpX_take (fun r u' => wpY_take (fun r' v' => r' = r ∧ i_Rel (k + 4) u' v') v) u := by
  obtain ⟨L, R, B, n, P, pn, ce, rn, mk, st, sy, hn, hp, hr, rfl, hv⟩ := I
  obtain ⟨sm, md, kn, cs, tb, hM, rfl⟩ := hv
  cases n with
  | zero => exact br_t rfl (br_t rfl ⟨rfl, i_mk hn hp hr ⟨sm, md, kn, cs, tb, hM, rfl⟩⟩)
  | succ n => exact br_f (nI_ne0 (by omega) (by omega)) (nm_r (nI_pred n) (br_f (nI_ne0 (by omega) (by omega)) (nm_r (nI_pred n) (y_forget fun kn' hk => ⟨rfl, i_mk (by omega) hp hr ⟨sm, md, kn', cs, tb, yM_0 hk, rfl⟩⟩))))
theorem i_vc_closure {k : Nat} {u : SX} {v : SY} (I : i_Rel k u v) (hk : k + 4 ≤ 2048) (v1 : Int32) : wpX_closure (fun r => wpY_closure (fun r' v' => r' = r ∧ i_Rel (k + 4) u v') v v1) u v1 := by
  obtain ⟨L, R, B, n, P, pn, ce, rn, mk, st, sy, hn, hp, hr, rfl, hv⟩ := I
  rcases dd_sets v1 with b1 | ⟨x, rfl⟩
  · obtain ⟨sm, md, kn, cs, tb, hM, rfl⟩ := hv
    unfold wpX_closure
    refine x_isSetF b1 (br_t rfl ?_)
    unfold wpY_closure
    exact y_isSetF b1 (br_t rfl ⟨rfl, i_mk hn hp hr ⟨sm, md, kn, cs, tb, hM, rfl⟩⟩)
  exact x_closure hn x (y_closure hn x hv fun v' hv' => ⟨rfl, i_mk hn hp hr hv'⟩)
theorem i_vc_follows {k : Nat} {u : SX} {v : SY} (I : i_Rel k u v) (hk : k + 4 ≤ 2048) (v1 : Int32) (v2 : Int32) : wpX_follows (fun r => wpY_follows (fun r' v' => r' = r ∧ i_Rel (k + 4) u v') v v1 v2) u v1 v2 := by
  obtain ⟨L, R, B, n, P, pn, ce, rn, mk, st, sy, hn, hp, hr, rfl, hv⟩ := I
  rcases dd_sets v1 with b1 | ⟨x, rfl⟩
  · obtain ⟨sm, md, kn, cs, tb, hM, rfl⟩ := hv
    unfold wpX_follows
    refine x_isSetF b1 (br_t rfl ?_)
    unfold wpY_follows
    exact y_isSetF b1 (br_t rfl ⟨rfl, i_mk hn hp hr ⟨sm, md, kn, cs, tb, hM, rfl⟩⟩)
  rcases dd_sets v2 with b2 | ⟨y, rfl⟩
  · obtain ⟨sm, md, kn, cs, tb, hM, rfl⟩ := hv
    unfold wpX_follows
    refine x_isSet x (br_f (by decide) (x_isSetF b2 (br_t rfl ?_)))
    unfold wpY_follows
    exact y_isSet x (br_f (by decide) (y_isSetF b2 (br_t rfl ⟨rfl, i_mk hn hp hr ⟨sm, md, kn, cs, tb, hM, rfl⟩⟩)))
  exact x_follows hn x y (y_follows hn x y hv fun v' hv' => ⟨rfl, i_mk hn hp hr hv'⟩)
theorem i_vc_bundles {k : Nat} {u : SX} {v : SY} (I : i_Rel k u v) (hk : k + 4 ≤ 2048) (v1 : Int32) (v2 : Int32) : wpX_bundles (fun r => wpY_bundles (fun r' v' => r' = r ∧ i_Rel (k + 4) u v') v v1 v2) u v1 v2 := by
  obtain ⟨L, R, B, n, P, pn, ce, rn, mk, st, sy, hn, hp, hr, rfl, hv⟩ := I
  rcases dd_sets v1 with b1 | ⟨x, rfl⟩
  · obtain ⟨sm, md, kn, cs, tb, hM, rfl⟩ := hv
    unfold wpX_bundles
    refine x_isSetF b1 (br_t rfl ?_)
    unfold wpY_bundles
    exact y_isSetF b1 (br_t rfl ⟨rfl, i_mk hn hp hr ⟨sm, md, kn, cs, tb, hM, rfl⟩⟩)
  rcases dd_sets v2 with b2 | ⟨y, rfl⟩
  · obtain ⟨sm, md, kn, cs, tb, hM, rfl⟩ := hv
    unfold wpX_bundles
    refine x_isSet x (br_f (by decide) (x_isSetF b2 (br_t rfl ?_)))
    unfold wpY_bundles
    exact y_isSet x (br_f (by decide) (y_isSetF b2 (br_t rfl ⟨rfl, i_mk hn hp hr ⟨sm, md, kn, cs, tb, hM, rfl⟩⟩)))
  exact x_bundles hn x y (y_bundles hn x y hv fun v' hv' => ⟨rfl, i_mk hn hp hr hv'⟩)
theorem i_vc_needs {k : Nat} {u : SX} {v : SY} (I : i_Rel k u v) (hk : k + 4 ≤ 2048) (v1 : Int32) (v2 : Int32) : wpX_needs (fun r => wpY_needs (fun r' v' => r' = r ∧ i_Rel (k + 4) u v') v v1 v2) u v1 v2 := by
  obtain ⟨L, R, B, n, P, pn, ce, rn, mk, st, sy, hn, hp, hr, rfl, hv⟩ := I
  rcases dd_sets v1 with b1 | ⟨x, rfl⟩
  · obtain ⟨sm, md, kn, cs, tb, hM, rfl⟩ := hv
    unfold wpX_needs
    refine x_isSetF b1 (br_t rfl ?_)
    unfold wpY_needs
    exact y_isSetF b1 (br_t rfl ⟨rfl, i_mk hn hp hr ⟨sm, md, kn, cs, tb, hM, rfl⟩⟩)
  rcases dd_sets v2 with b2 | ⟨y, rfl⟩
  · obtain ⟨sm, md, kn, cs, tb, hM, rfl⟩ := hv
    unfold wpX_needs
    refine x_isSet x (br_f (by decide) (x_isSetF b2 (br_t rfl ?_)))
    unfold wpY_needs
    exact y_isSet x (br_f (by decide) (y_isSetF b2 (br_t rfl ⟨rfl, i_mk hn hp hr ⟨sm, md, kn, cs, tb, hM, rfl⟩⟩)))
  exact x_needs hn x y (y_needs hn x y hv fun v' hv' => ⟨rfl, i_mk hn hp hr hv'⟩)
theorem i_vc_keys {k : Nat} {u : SX} {v : SY} (I : i_Rel k u v) (hk : k + 4 ≤ 2048) : wpX_keys (fun r => wpY_keys (fun r' v' => r' = r ∧ i_Rel (k + 4) u v') v) u := by
  obtain ⟨L, R, B, n, P, pn, ce, rn, mk, st, sy, hn, hp, hr, rfl, hv⟩ := I
  exact x_keys hn (y_keys hn hv fun v' hv' => ⟨rfl, i_mk hn hp hr hv'⟩)
theorem i_vc_key {k : Nat} {u : SX} {v : SY} (I : i_Rel k u v) (hk : k + 4 ≤ 2048) (v1 : Int32) : wpX_key (fun r => wpY_key (fun r' v' => r' = r ∧ i_Rel (k + 4) u v') v v1) u v1 := by
  obtain ⟨L, R, B, n, P, pn, ce, rn, mk, st, sy, hn, hp, hr, rfl, hv⟩ := I
  exact x_key hn v1 (y_key hn v1 hv fun v' hv' => ⟨rfl, i_mk hn hp hr hv'⟩)
theorem i_vc_closed {k : Nat} {u : SX} {v : SY} (I : i_Rel k u v) (hk : k + 4 ≤ 2048) : wpX_closed (fun r => wpY_closed (fun r' v' => r' = r ∧ i_Rel (k + 4) u v') v) u := by
  obtain ⟨L, R, B, n, P, pn, ce, rn, mk, st, sy, hn, hp, hr, rfl, hv⟩ := I
  exact x_closed hn (y_closed hn hv fun v' hv' => ⟨rfl, i_mk hn hp hr hv'⟩)
theorem i_vc_corners {k : Nat} {u : SX} {v : SY} (I : i_Rel k u v) (hk : k + 4 ≤ 2048) : wpX_corners (fun r => wpY_corners (fun r' v' => r' = r ∧ i_Rel (k + 4) u v') v) u := by
  obtain ⟨L, R, B, n, P, pn, ce, rn, mk, st, sy, hn, hp, hr, rfl, hv⟩ := I
  exact x_corners hn (y_corners hn hv fun v' hv' => ⟨rfl, i_mk hn hp hr hv'⟩)
theorem i_vc_stems {k : Nat} {u : SX} {v : SY} (I : i_Rel k u v) (hk : k + 4 ≤ 2048) : wpX_stems (fun r => wpY_stems (fun r' v' => r' = r ∧ i_Rel (k + 4) u v') v) u := by
  obtain ⟨L, R, B, n, P, pn, ce, rn, mk, st, sy, hn, hp, hr, rfl, hv⟩ := I
  exact x_stems hn (y_stems hn hv fun st' v' hv' => ⟨rfl, i_mk hn hp hr hv'⟩)
theorem i_vc_stem {k : Nat} {u : SX} {v : SY} (I : i_Rel k u v) (hk : k + 4 ≤ 2048) (v1 : Int32) : wpX_stem (fun r => wpY_stem (fun r' v' => r' = r ∧ i_Rel (k + 4) u v') v v1) u v1 := by
  obtain ⟨L, R, B, n, P, pn, ce, rn, mk, st, sy, hn, hp, hr, rfl, hv⟩ := I
  exact x_stem hn v1 (y_stem hn v1 hv fun st' v' hv' => ⟨rfl, i_mk hn hp hr hv'⟩)
theorem i_vc_third {k : Nat} {u : SX} {v : SY} (I : i_Rel k u v) (hk : k + 4 ≤ 2048) (v1 : Int32) : wpX_third (fun r => wpY_third (fun r' v' => r' = r ∧ i_Rel (k + 4) u v') v v1) u v1 := by
  obtain ⟨L, R, B, n, P, pn, ce, rn, mk, st, sy, hn, hp, hr, rfl, hv⟩ := I
  rcases dd_sets v1 with b1 | ⟨x, rfl⟩
  · obtain ⟨sm, md, kn, cs, tb, hM, rfl⟩ := hv
    unfold wpX_third
    refine x_isSetF b1 (br_t rfl ?_)
    unfold wpY_third
    exact y_isSetF b1 (br_t rfl ⟨rfl, i_mk hn hp hr ⟨sm, md, kn, cs, tb, hM, rfl⟩⟩)
  exact x_third hn x (y_third hn x hv fun v' hv' => ⟨rfl, i_mk hn hp hr hv'⟩)
theorem i_vc_boyce {k : Nat} {u : SX} {v : SY} (I : i_Rel k u v) (hk : k + 4 ≤ 2048) (v1 : Int32) : wpX_boyce (fun r => wpY_boyce (fun r' v' => r' = r ∧ i_Rel (k + 4) u v') v v1) u v1 := by
  obtain ⟨L, R, B, n, P, pn, ce, rn, mk, st, sy, hn, hp, hr, rfl, hv⟩ := I
  rcases dd_sets v1 with b1 | ⟨x, rfl⟩
  · obtain ⟨sm, md, kn, cs, tb, hM, rfl⟩ := hv
    unfold wpX_boyce
    refine x_isSetF b1 (br_t rfl ?_)
    unfold wpY_boyce
    exact y_isSetF b1 (br_t rfl ⟨rfl, i_mk hn hp hr ⟨sm, md, kn, cs, tb, hM, rfl⟩⟩)
  exact x_boyce hn x (y_boyce hn x hv fun v' hv' => ⟨rfl, i_mk hn hp hr hv'⟩)
theorem i_vc_fourth {k : Nat} {u : SX} {v : SY} (I : i_Rel k u v) (hk : k + 4 ≤ 2048) : wpX_fourth (fun r => wpY_fourth (fun r' v' => r' = r ∧ i_Rel (k + 4) u v') v) u := by
  obtain ⟨L, R, B, n, P, pn, ce, rn, mk, st, sy, hn, hp, hr, rfl, hv⟩ := I
  exact x_fourth hn (y_fourth hn hv fun v' hv' => ⟨rfl, i_mk hn hp hr hv'⟩)
theorem i_vc_part {k : Nat} {u : SX} {v : SY} (I : i_Rel k u v) (hk : k + 4 ≤ 2048) (v1 : Int32) : wpX_part (fun r u' => wpY_part (fun r' v' => r' = r ∧ i_Rel (k + 4) u' v') v v1) u v1 := by
  obtain ⟨L, R, B, n, P, pn, ce, rn, mk, st, sy, hn, hp, hr, rfl, hv⟩ := I
  obtain ⟨sm, md, kn, cs, tb, hM, rfl⟩ := hv
  rcases dd_sets v1 with b1 | ⟨x, rfl⟩
  · unfold wpX_part
    refine x_isSetF b1 (br_t rfl ?_)
    unfold wpY_part
    exact y_isSetF b1 (br_t rfl ⟨rfl, i_mk hn hp hr ⟨sm, md, kn, cs, tb, hM, rfl⟩⟩)
  rcases Nat.lt_or_ge pn 4 with z | z
  · have v : vp_in (nI pn) 4 := vp_in_nI z (by decide)
    unfold wpX_part
    refine x_isSet x (br_f (by decide) (br_t (nI_lt z (by decide)) ⟨v, nm_r (dd_updI P (by omega) x) (nm_r (nI_1 pn) ?_)⟩))
    unfold wpY_part
    exact y_isSet x (br_f (by decide) (pk_eq pn 4 (fun e => by omega) (fun _ => ⟨v, nm_r (dd_updI P (by omega) x) (nm_r (nI_1 pn) ⟨rfl, i_mk (P := fun d => if d = pn then x else P d) (pn := pn + 1) hn (by omega) hr ⟨sm, md, kn, cs, tb, hM, rfl⟩⟩)⟩)))
  · have e : pn = 4 := by omega
    subst e
    unfold wpX_part
    refine x_isSet x (br_f (by decide) (br_f (by decide) ?_))
    unfold wpY_part
    exact y_isSet x (br_f (by decide) (br_t rfl ⟨rfl, i_mk hn hp hr ⟨sm, md, kn, cs, tb, hM, rfl⟩⟩))
theorem i_vc_whole {k : Nat} {u : SX} {v : SY} (I : i_Rel k u v) (hk : k + 4 ≤ 2048) : wpX_whole (fun u' => wpY_whole (fun v' => i_Rel (k + 4) u' v') v) u := by
  obtain ⟨L, R, B, n, P, pn, ce, rn, mk, st, sy, hn, hp, hr, rfl, hv⟩ := I
  obtain ⟨sm, md, kn, cs, tb, hM, rfl⟩ := hv
  exact i_mk (k := k + 4) (pn := 0) hn (by omega) hr ⟨sm, md, kn, cs, tb, hM, rfl⟩
theorem i_vc_lossless {k : Nat} {u : SX} {v : SY} (I : i_Rel k u v) (hk : k + 4 ≤ 2048) : wpX_lossless (fun r u' => wpY_lossless (fun r' v' => r' = r ∧ i_Rel (k + 4) u' v') v) u := by
  obtain ⟨L, R, B, n, P, pn, ce, rn, mk, st, sy, hn, hp, hr, rfl, hv⟩ := I
  obtain ⟨sm, md, kn, cs, tb, hM, rfl⟩ := hv
  exact x_lossless hn hp fun g mk' h1 h2 => y_lossless hn hp fun g' sy' h3 h4 => ⟨congrArg dd_b (mk_jX fun i c hi hc => mk_end h3 h1 h4 h2 hi hc), i_mk hn hp hr ⟨sm, md, kn, cs, tb, hM, rfl⟩⟩
theorem i_vc_preserves {k : Nat} {u : SX} {v : SY} (I : i_Rel k u v) (hk : k + 4 ≤ 2048) : wpX_preserves (fun r => wpY_preserves (fun r' => r' = r ∧ i_Rel (k + 4) u v) v) u := by
  obtain ⟨L, R, B, n, P, pn, ce, rn, mk, st, sy, hn, hp, hr, rfl, hv⟩ := I
  obtain ⟨sm, md, kn, cs, tb, hM, rfl⟩ := hv
  exact x_preserves hn hp (y_preserves hn hp ⟨rfl, i_mk hn hp hr ⟨sm, md, kn, cs, tb, hM, rfl⟩⟩)
theorem i_vc_row {k : Nat} {u : SX} {v : SY} (I : i_Rel k u v) (hk : k + 4 ≤ 2048) : wpX_row (fun r u' => wpY_row (fun r' v' => r' = r ∧ i_Rel (k + 4) u' v') v) u := by
  obtain ⟨L, R, B, n, P, pn, ce, rn, mk, st, sy, hn, hp, hr, rfl, hv⟩ := I
  rcases Nat.lt_or_ge rn 6 with z | z
  · exact x_row z (y_row z hv fun v' hv' => ⟨rfl, i_mk hn hp (by omega) hv'⟩)
  · obtain ⟨sm, md, kn, cs, tb, hM, rfl⟩ := hv
    have e : rn = 6 := by omega
    subst e
    exact br_f (by decide) (br_t rfl ⟨rfl, i_mk hn hp hr ⟨sm, md, kn, cs, tb, hM, rfl⟩⟩)
theorem i_vc_write {k : Nat} {u : SX} {v : SY} (I : i_Rel k u v) (hk : k + 4 ≤ 2048) (v1 : Int32) (v2 : Int32) (v3 : Int32) : wpX_write (fun r u' => wpY_write (fun r' v' => r' = r ∧ i_Rel (k + 4) u' v') v v1 v2 v3) u v1 v2 v3 := by
  obtain ⟨L, R, B, n, P, pn, ce, rn, mk, st, sy, hn, hp, hr, rfl, hv⟩ := I
  obtain ⟨sm, md, kn, cs, tb, hM, rfl⟩ := hv
  have ok : i_Rel (k + 4) (xT L R B n P pn ce rn mk) (yT L R B n P pn ce rn sm md kn cs tb st sy) := i_mk hn hp hr ⟨sm, md, kn, cs, tb, hM, rfl⟩
  by_cases h1 : v1 < 0
  · exact br_t h1 (br_t h1 ⟨rfl, ok⟩)
  obtain ⟨r, hr1, rfl⟩ := nI_of h1
  rcases Nat.lt_or_ge r rn with z1 | z1
  · by_cases h2 : v2 < 0
    · exact br_f h1 (br_f (nI_ge z1 (by omega)) (br_t h2 (br_f h1 (br_f (nI_ge z1 (by omega)) (br_t h2 ⟨rfl, ok⟩)))))
    obtain ⟨c, hc1, rfl⟩ := nI_of h2
    rcases Nat.lt_or_ge c 6 with z2 | z2
    · have vX : vp_in (nI r * 6 + nI c) 36 := by rw [dd_ixX]; exact vp_in_nI (by omega) (by decide)
      have vY : vp_in (6 * nI r + nI c) 36 := by rw [dd_ixY]; exact vp_in_nI (by omega) (by decide)
      have eX : (nI r * 6 + nI c).toNatClampNeg = 6 * r + c := by rw [dd_ixX, nI_clamp (by omega)]
      have eY : (6 * nI r + nI c).toNatClampNeg = 6 * r + c := by rw [dd_ixY, nI_clamp (by omega)]
      exact br_f h1 (br_f (nI_ge z1 (by omega)) (br_f h2 (br_t (nI_lt z2 (by decide)) ⟨vX, nm_r (e' := ce (6 * r + c)) (by rw [eX]) ⟨vX, nm_r (e' := upd ce (6 * r + c) v3) (by rw [eX]) (br_f h1 (br_f (nI_ge z1 (by omega)) (br_f h2 (br_t (nI_le (b := 5) (by omega) (by decide)) ⟨vY, nm_r (e' := ce (6 * r + c)) (by rw [eY]) ⟨vY, nm_r (e' := upd ce (6 * r + c) v3) (by rw [eY]) ⟨rfl, i_mk (ce := upd ce (6 * r + c) v3) hn hp hr ⟨sm, md, kn, cs, tb, hM, rfl⟩⟩⟩⟩))))⟩⟩)))
    · exact br_f h1 (br_f (nI_ge z1 (by omega)) (br_f h2 (br_f (nI_nlt z2 hc1) (br_f h1 (br_f (nI_ge z1 (by omega)) (br_f h2 (br_f (nI_ge (a := 5) (by omega) hc1) ⟨rfl, ok⟩)))))))
  · exact br_f h1 (br_t (nI_le z1 hr1) (br_f h1 (br_t (nI_le z1 hr1) ⟨rfl, ok⟩)))
theorem i_vc_blank {k : Nat} {u : SX} {v : SY} (I : i_Rel k u v) (hk : k + 4 ≤ 2048) : wpX_blank (fun u' => wpY_blank (fun v' => i_Rel (k + 4) u' v') v) u := by
  obtain ⟨L, R, B, n, P, pn, ce, rn, mk, st, sy, hn, hp, hr, rfl, hv⟩ := I
  obtain ⟨sm, md, kn, cs, tb, hM, rfl⟩ := hv
  exact i_mk (k := k + 4) (rn := 0) hn hp (by omega) ⟨sm, md, kn, cs, tb, hM, rfl⟩
theorem i_vc_keeps {k : Nat} {u : SX} {v : SY} (I : i_Rel k u v) (hk : k + 4 ≤ 2048) (v1 : Int32) (v2 : Int32) : wpX_keeps (fun r => wpY_keeps (fun r' => r' = r ∧ i_Rel (k + 4) u v) v v1 v2) u v1 v2 := by
  obtain ⟨L, R, B, n, P, pn, ce, rn, mk, st, sy, hn, hp, hr, rfl, hv⟩ := I
  rcases dd_sets v1 with b1 | ⟨x, rfl⟩
  · obtain ⟨sm, md, kn, cs, tb, hM, rfl⟩ := hv
    unfold wpX_keeps
    refine x_isSetF b1 (br_t rfl ?_)
    unfold wpY_keeps
    exact y_isSetF b1 (br_t rfl ⟨rfl, i_mk hn hp hr ⟨sm, md, kn, cs, tb, hM, rfl⟩⟩)
  rcases dd_sets v2 with b2 | ⟨y, rfl⟩
  · obtain ⟨sm, md, kn, cs, tb, hM, rfl⟩ := hv
    unfold wpX_keeps
    refine x_isSet x (br_f (by decide) (x_isSetF b2 (br_t rfl ?_)))
    unfold wpY_keeps
    exact y_isSet x (br_f (by decide) (y_isSetF b2 (br_t rfl ⟨rfl, i_mk hn hp hr ⟨sm, md, kn, cs, tb, hM, rfl⟩⟩)))
  obtain ⟨sm, md, kn, cs, tb, hM, rfl⟩ := hv
  exact x_keeps hr x y (y_keeps hr x y ⟨rfl, i_mk hn hp hr ⟨sm, md, kn, cs, tb, hM, rfl⟩⟩)
theorem i_vc_keepsBundled {k : Nat} {u : SX} {v : SY} (I : i_Rel k u v) (hk : k + 4 ≤ 2048) (v1 : Int32) (v2 : Int32) : wpX_keepsBundled (fun r => wpY_keepsBundled (fun r' => r' = r ∧ i_Rel (k + 4) u v) v v1 v2) u v1 v2 := by
  obtain ⟨L, R, B, n, P, pn, ce, rn, mk, st, sy, hn, hp, hr, rfl, hv⟩ := I
  rcases dd_sets v1 with b1 | ⟨x, rfl⟩
  · obtain ⟨sm, md, kn, cs, tb, hM, rfl⟩ := hv
    unfold wpX_keepsBundled
    refine x_isSetF b1 (br_t rfl ?_)
    unfold wpY_keepsBundled
    exact y_isSetF b1 (br_t rfl ⟨rfl, i_mk hn hp hr ⟨sm, md, kn, cs, tb, hM, rfl⟩⟩)
  rcases dd_sets v2 with b2 | ⟨y, rfl⟩
  · obtain ⟨sm, md, kn, cs, tb, hM, rfl⟩ := hv
    unfold wpX_keepsBundled
    refine x_isSet x (br_f (by decide) (x_isSetF b2 (br_t rfl ?_)))
    unfold wpY_keepsBundled
    exact y_isSet x (br_f (by decide) (y_isSetF b2 (br_t rfl ⟨rfl, i_mk hn hp hr ⟨sm, md, kn, cs, tb, hM, rfl⟩⟩)))
  obtain ⟨sm, md, kn, cs, tb, hM, rfl⟩ := hv
  exact x_keepsBundled hr x y (y_keepsBundled hr x y ⟨rfl, i_mk hn hp hr ⟨sm, md, kn, cs, tb, hM, rfl⟩⟩)
theorem i_vc_discovered {k : Nat} {u : SX} {v : SY} (I : i_Rel k u v) (hk : k + 4 ≤ 2048) : wpX_discovered (fun r => wpY_discovered (fun r' => r' = r ∧ i_Rel (k + 4) u v) v) u := by
  obtain ⟨L, R, B, n, P, pn, ce, rn, mk, st, sy, hn, hp, hr, rfl, hv⟩ := I
  obtain ⟨sm, md, kn, cs, tb, hM, rfl⟩ := hv
  exact x_discovered hr (y_discovered hr ⟨rfl, i_mk hn hp hr ⟨sm, md, kn, cs, tb, hM, rfl⟩⟩)
theorem i_vc_agreements {k : Nat} {u : SX} {v : SY} (I : i_Rel k u v) (hk : k + 4 ≤ 2048) : wpX_agreements (fun r => wpY_agreements (fun r' => r' = r ∧ i_Rel (k + 4) u v) v) u := by
  obtain ⟨L, R, B, n, P, pn, ce, rn, mk, st, sy, hn, hp, hr, rfl, hv⟩ := I
  obtain ⟨sm, md, kn, cs, tb, hM, rfl⟩ := hv
  exact x_agreements hr (y_agreements hr ⟨rfl, i_mk hn hp hr ⟨sm, md, kn, cs, tb, hM, rfl⟩⟩)
theorem i_vc_exact {k : Nat} {u : SX} {v : SY} (I : i_Rel k u v) (hk : k + 4 ≤ 2048) : wpX_exact (fun r => wpY_exact (fun r' v' => r' = r ∧ i_Rel (k + 4) u v') v) u := by
  obtain ⟨L, R, B, n, P, pn, ce, rn, mk, st, sy, hn, hp, hr, rfl, hv⟩ := I
  exact x_exact hn hr (y_exact hn hr hv fun v' hv' => ⟨rfl, i_mk hn hp hr hv'⟩)
