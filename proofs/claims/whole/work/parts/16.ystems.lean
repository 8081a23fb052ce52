/-! the reference: stems, fourth form, needs, forget -/
theorem dd_vn0 : vp_nar .boolean 0 = dd_b false := rfl
theorem dd_vn1 : vp_nar .boolean 1 = dd_b true := rfl
theorem dd_addb (k : Nat) (b : Bool) : nI k + dd_b b = nI (if b = true then k + 1 else k) := by
  cases b
  · exact Int32.add_zero _
  · exact nI_1 k
section
variable {L R : Nat → dd_S} {B : Nat → Bool} {n : Nat} {P : Nat → dd_S} {pn : Nat} {ce : Nat → Int32} {rn : Nat} {st sy : Nat → Int32} {v : SY}
def dd_sf (cl : dd_S → dd_S) (i q : Nat) : Bool := !(dd_st cl i q && dd_sB (dd_n q) (dd_n i)) || dd_sB (cl (dd_n q)) (dd_n i)
theorem dd_stS (cl : dd_S → dd_S) (i q : Nat) : dd_st cl (i + 1) q = if q = i then (decide (cl (dd_n i) ≠ dd_n i) && dd_al (dd_sf cl i) i) else dd_st cl i q := rfl
def y_sI (L R : Nat → dd_S) (B : Nat → Bool) (n : Nat) (P : Nat → dd_S) (pn : Nat) (ce : Nat → Int32) (rn : Nat) (sy : Nat → Int32) (i : Nat) (b : Bool) (v : SY) : Prop :=
  ∃ st, (∀ q, q < i → st q = dd_b (dd_st (dd_cl (dd_V1 L R B n)) i q)) ∧ st i = dd_b b ∧ yO L R B n P pn ce rn st sy v
theorem y_fs30 {post : SY → Prop} {J : Int32 → Int32 → Int32 → Int32 → Int32 → Int64 → (Nat → Int32) → (Nat → Int32) → (Nat → Int32) → (Nat → Int32) → (Nat → Int32) → (Nat → Int32) → (Nat → Int32) → (Nat → Int64) → (Nat → Int32) → (Nat → Int32) → Prop}
    (hn : n ≤ 10) (i : Nat) (hi : i < 64) (A : Bool) (hv : y_sI L R B n P pn ce rn sy i A v)
    (hJ : ∀ v', y_sI L R B n P pn ce rn sy i (A && dd_al (dd_sf (dd_cl (dd_V1 L R B n)) i) i) v' → yc (J (nI (i + 1))) v') : ∃ m, yc (wY_findStems_30 post J (nI i) m 0) v := by
  refine pk_loop (fun m j v => yc (wY_findStems_30 post J (nI i) m (nI j)) v) (fun j v => y_sI L R B n P pn ce rn sy i (A && dd_al (dd_sf (dd_cl (dd_V1 L R B n)) i) j) v) i 0 v (Nat.zero_le i) (by rw [show (A && dd_al (dd_sf (dd_cl (dd_V1 L R B n)) i) 0) = A from Bool.and_true A]; exact hv) (fun m v hO => ?_) (fun m j v hj hO ih => ?_)
  · have w := hJ v hO
    obtain ⟨st, h1, h2, hO⟩ := hO
    obtain ⟨sm, md, kn, cs, tb, hM, rfl⟩ := hO
    exact br_t (nI_le (Nat.le_refl i) (by omega)) (nm_r (nI_1 i) w)
  · obtain ⟨st, h1, h2, hO⟩ := hO
    obtain ⟨sm, md, kn, cs, tb, hM, rfl⟩ := hO
    have ci : (nI i).toNatClampNeg = i := nI_clamp (by omega)
    have vi : vp_in (nI i) 64 := vp_in_nI hi (by decide)
    have go : ∀ z : Bool, z = (dd_st (dd_cl (dd_V1 L R B n)) i j && dd_sB (dd_n j) (dd_n i)) → wY_findStems_57 post J (wY_findStems_30 post J (nI i) m) (nI i) (nI j) (dd_b z) (nI n) (nI pn) (nI rn) sm md (fun d => dd_i (L d)) (fun d => dd_i (R d)) (fun d => dd_b (B d)) (fun d => dd_i (P d)) ce kn cs tb st sy := by
      intro z hz
      have fin : ∀ b sm' md' kn' cs' tb', yM (dd_V1 L R B n) kn' cs' tb' → b = (A && dd_al (dd_sf (dd_cl (dd_V1 L R B n)) i) (j + 1)) → yc (wY_findStems_30 post J (nI i) m (nI (j + 1))) (yT L R B n P pn ce rn sm' md' kn' cs' tb' (upd st i (dd_b b)) sy) := by
        intro b sm' md' kn' cs' tb' hM' e
        refine ih _ ⟨upd st i (dd_b b), fun q hq => ?_, ?_, sm', md', kn', cs', tb', hM', rfl⟩
        · rw [pk_un (by omega)]; exact h1 q hq
        · rw [pk_us, e]
      have eal : (A && dd_al (dd_sf (dd_cl (dd_V1 L R B n)) i) (j + 1)) = ((A && dd_al (dd_sf (dd_cl (dd_V1 L R B n)) i) j) && dd_sf (dd_cl (dd_V1 L R B n)) i j) := (Bool.and_assoc _ _ _).symm
      refine ⟨vi, ?_⟩
      rw [ci, h2]
      refine dd_br (fun g => ⟨vi, nm_r (e' := upd st i (dd_b false)) rfl (nm_r (nI_1 j) (fin false _ _ _ _ _ hM ?_))⟩) (fun g => dd_br (fun g2 => ⟨vi, nm_r (e' := upd st i (dd_b true)) rfl (nm_r (nI_1 j) (fin true _ _ _ _ _ hM ?_))⟩) (fun g2 => y_closureOf hn (dd_n j) ⟨sm, md, kn, cs, tb, hM, rfl⟩ (fun v' hv' => ?_) (dd_ni (by omega))))
      · rw [eal, g, Bool.false_and]
      · rw [eal, g, Bool.true_and]
        unfold dd_sf
        rw [← hz, g2]; rfl
      · obtain ⟨sm', md', kn', cs', tb', hM', rfl⟩ := hv'
        refine dd_brs _ (dd_n i) (fun g3 => ⟨vi, nm_r (e' := upd st i (dd_b true)) rfl (nm_r (nI_1 j) (fin true _ _ _ _ _ hM' ?_))⟩) (fun g3 => ⟨vi, nm_r (e' := upd st i (dd_b false)) rfl (nm_r (nI_1 j) (fin false _ _ _ _ _ hM' ?_))⟩) rfl (dd_ni hi)
        · rw [eal, g, Bool.true_and]
          unfold dd_sf
          rw [dd_sBt g3, Bool.or_true]
        · rw [eal, g, Bool.true_and]
          unfold dd_sf
          rw [← hz, g2, dd_sBf g3]; rfl
    refine br_f (nI_ge hj (by omega)) ⟨vp_in_nI (by omega) (by decide), ?_⟩
    refine dd_if (d := dd_st (dd_cl (dd_V1 L R B n)) i j = false) (show st (nI j).toNatClampNeg = 0 ↔ _ by rw [nI_clamp (by omega), h1 j hj, dd_b0]) (fun g => go false ?_) (fun g => dd_brs (dd_n j) (dd_n i) (fun g2 => go true ?_) (fun g2 => go false ?_) (dd_ni (by omega)) (dd_ni hi))
    · rw [g, Bool.false_and]
    · rw [ts_nf g, dd_sBt g2]; rfl
    · rw [dd_sBf g2, Bool.and_false]
theorem y_findStems {post : SY → Prop} (hn : n ≤ 10) (hv : yO L R B n P pn ce rn st sy v)
    (h : ∀ st' v', (∀ q, q < 64 → st' q = dd_b (dd_st (dd_cl (dd_V1 L R B n)) 64 q)) → yO L R B n P pn ce rn st' sy v' → post v') : wpY_findStems post v := by
  obtain ⟨sm, md, kn, cs, tb, hM, rfl⟩ := hv
  refine pk_loop (fun m i v => yc (wY_findStems_2 post m (nI i)) v) (fun i v => ∃ st, (∀ q, q < i → st q = dd_b (dd_st (dd_cl (dd_V1 L R B n)) i q)) ∧ yO L R B n P pn ce rn st sy v) 64 0 (yT L R B n P pn ce rn sm md kn cs tb st sy) (by decide) ⟨st, fun q hq => absurd hq (Nat.not_lt_zero q), ⟨sm, md, kn, cs, tb, hM, rfl⟩⟩ (fun m v hO => ?_) (fun m i v hi hO ih => ?_)
  · obtain ⟨st, h1, hO⟩ := hO
    obtain ⟨sm, md, kn, cs, tb, hM, rfl⟩ := hO
    exact br_t (nI_le (Nat.le_refl 64) (by decide)) (h st (yT L R B n P pn ce rn sm md kn cs tb st sy) h1 ⟨sm, md, kn, cs, tb, hM, rfl⟩)
  · obtain ⟨st, h1, hO⟩ := hO
    obtain ⟨sm, md, kn, cs, tb, hM, rfl⟩ := hO
    have ci : (nI i).toNatClampNeg = i := nI_clamp (by omega)
    have vi : vp_in (nI i) 64 := vp_in_nI hi (by decide)
    have nxt : ∀ v', y_sI L R B n P pn ce rn sy i (decide (dd_cl (dd_V1 L R B n) (dd_n i) ≠ dd_n i) && dd_al (dd_sf (dd_cl (dd_V1 L R B n)) i) i) v' → yc (wY_findStems_2 post m (nI (i + 1))) v' := by
      rintro v' ⟨st', h1', h2', hO'⟩
      refine ih v' ⟨st', fun q hq => ?_, hO'⟩
      rw [dd_stS]
      by_cases e : q = i
      · rw [if_pos e, e, h2']
      · rw [if_neg e]; exact h1' q (by omega)
    refine br_f (nI_ge hi (by decide)) (y_closureOf hn (dd_n i) ⟨sm, md, kn, cs, tb, hM, rfl⟩ (fun v' hv' => ?_) (dd_ni hi))
    obtain ⟨sm', md', kn', cs', tb', hM', rfl⟩ := hv'
    refine dd_bre _ (dd_n i) (fun g => ⟨vi, nm_r (e' := upd st i (dd_b false)) (by rw [ci]; rfl) ?_⟩) (fun g => ⟨vi, nm_r (e' := upd st i (dd_b true)) (by rw [ci]; rfl) ?_⟩) rfl (dd_ni hi)
    · exact y_fs30 (v := (yT L R B n P pn ce rn sm' md' kn' cs' tb' (upd st i (dd_b false)) sy)) hn i hi false ⟨upd st i (dd_b false), fun q hq => by rw [pk_un (by omega)]; exact h1 q hq, pk_us, sm', md', kn', cs', tb', hM', rfl⟩ (fun v' hv' => nxt v' (by rw [decide_eq_false (fun z => z g)]; exact hv'))
    · exact y_fs30 (v := (yT L R B n P pn ce rn sm' md' kn' cs' tb' (upd st i (dd_b true)) sy)) hn i hi true ⟨upd st i (dd_b true), fun q hq => by rw [pk_un (by omega)]; exact h1 q hq, pk_us, sm', md', kn', cs', tb', hM', rfl⟩ (fun v' hv' => nxt v' (by rw [decide_eq_true g]; exact hv'))
theorem y_stems {post : Int32 → SY → Prop} (hn : n ≤ 10) (hv : yO L R B n P pn ce rn st sy v)
    (h : ∀ st' v', yO L R B n P pn ce rn st' sy v' → post (nI (dd_cn (dd_st (dd_cl (dd_V1 L R B n)) 64) 64)) v') : wpY_stems post v := by
  obtain ⟨sm, md, kn, cs, tb, hM, rfl⟩ := hv
  unfold wpY_stems
  refine y_findStems hn ⟨sm, md, kn, cs, tb, hM, rfl⟩ fun st' v' hst hv' => ?_
  obtain ⟨sm', md', kn', cs', tb', hM', rfl⟩ := hv'
  have w := h st' _ ⟨sm', md', kn', cs', tb', hM', rfl⟩
  refine dd_lp (fun m i s => wY_stems_8 post (nI n) (nI pn) (nI rn) sm' md' (fun d => dd_i (L d)) (fun d => dd_i (R d)) (fun d => dd_b (B d)) (fun d => dd_i (P d)) ce kn' cs' tb' st' sy m (nI s) (nI i)) (dd_cn (dd_st (dd_cl (dd_V1 L R B n)) 64)) (fun _ => True) 64 0 (by decide) trivial (fun m _ => ?_) (fun m i _ hi _ ih => ?_)
  · exact br_t (nI_le (Nat.le_refl 64) (by decide)) w
  · refine br_f (nI_ge hi (by decide)) ⟨vp_in_nI hi (by decide), ?_⟩
    rw [show st' (nI i).toNatClampNeg = dd_b (dd_st (dd_cl (dd_V1 L R B n)) 64 i) by rw [nI_clamp (by omega)]; exact hst i hi]
    exact dd_br (fun g => nm_r (nI_1 i) (ih _ (dd_cnF g) trivial)) (fun g => nm_r (nI_1 _) (nm_r (nI_1 i) (ih _ (dd_cnT g) trivial)))
theorem y_stem {post : Int32 → SY → Prop} (hn : n ≤ 10) (a : Int32) (hv : yO L R B n P pn ce rn st sy v)
    (h : ∀ st' v', yO L R B n P pn ce rn st' sy v' → post (dd_at (dd_st (dd_cl (dd_V1 L R B n)) 64) a 64 0 0) v') : wpY_stem post v a := by
  obtain ⟨sm, md, kn, cs, tb, hM, rfl⟩ := hv
  unfold wpY_stem
  refine y_findStems hn ⟨sm, md, kn, cs, tb, hM, rfl⟩ fun st' v' hst hv' => ?_
  obtain ⟨sm', md', kn', cs', tb', hM', rfl⟩ := hv'
  have w := h st' _ ⟨sm', md', kn', cs', tb', hM', rfl⟩
  have key : ∀ d t b, d + t = 64 → post (dd_at (dd_st (dd_cl (dd_V1 L R B n)) 64) a d t b) (yT L R B n P pn ce rn sm' md' kn' cs' tb' st' sy) → wY_stem_8 post a (nI n) (nI pn) (nI rn) sm' md' (fun d => dd_i (L d)) (fun d => dd_i (R d)) (fun d => dd_b (B d)) (fun d => dd_i (P d)) ce kn' cs' tb' st' sy (d + 1) (nI b) (nI t) := by
    intro d
    induction d with
    | zero => exact fun t b e h => br_t (nI_le (a := 64) (by omega) (by omega)) h
    | succ d ih =>
      intro t b e h
      refine br_f (nI_ge (b := 64) (by omega) (by decide)) ⟨vp_in_nI (by omega) (by decide), ?_⟩
      rw [show st' (nI t).toNatClampNeg = dd_b (dd_st (dd_cl (dd_V1 L R B n)) 64 t) by rw [nI_clamp (by omega)]; exact hst t (by omega)]
      refine dd_br (fun g => nm_r (nI_1 t) (ih (t + 1) b (by omega) ?_)) (fun g => br_c (fun g2 => ?_) (fun g2 => nm_r (nI_1 b) (nm_r (nI_1 t) (ih (t + 1) (b + 1) (by omega) ?_))))
      · have e2 : dd_at (dd_st (dd_cl (dd_V1 L R B n)) 64) a (d + 1) t b = dd_at (dd_st (dd_cl (dd_V1 L R B n)) 64) a d (t + 1) b := if_neg fun z => by rw [g] at z; exact absurd z (by decide)
        rw [e2] at h; exact h
      · have e2 : dd_at (dd_st (dd_cl (dd_V1 L R B n)) 64) a (d + 1) t b = nI t := (if_pos g).trans (if_pos g2)
        rw [e2] at h; exact h
      · have e2 : dd_at (dd_st (dd_cl (dd_V1 L R B n)) 64) a (d + 1) t b = dd_at (dd_st (dd_cl (dd_V1 L R B n)) 64) a d (t + 1) (b + 1) := (if_pos g).trans (if_neg g2)
        rw [e2] at h; exact h
  exact ⟨65, key 64 0 0 rfl w⟩
def dd_g4 (p : Nat → Bool) (x y : dd_S) : Bool := !((!dd_sB y x && (!decide (x ||| y = 63#6) && !decide (dd_cl p x = 63#6))) && dd_aK p x y true)
theorem dd_f4g (p : Nat → Bool) (x : Nat) : dd_f4 p x = dd_al (fun y => dd_g4 p (dd_n x) (dd_n y)) 64 := by
  unfold dd_f4 dd_bm
  by_cases h : dd_cl p (dd_n x) = 63#6
  · rw [decide_eq_true h, (dd_alI.mpr fun d _ => by unfold dd_g4; rw [decide_eq_true h]; simp : dd_al (fun y => dd_g4 p (dd_n x) (dd_n y)) 64 = true)]; rfl
  · rw [decide_eq_false h, Bool.not_false, Bool.true_and, Bool.not_not]
    refine dd_alX fun d _ => ?_
    unfold dd_g4
    rw [decide_eq_false h, Bool.not_false, Bool.and_true, Bool.and_assoc]
theorem y_fourth {post : Int32 → SY → Prop} (hn : n ≤ 10) (hv : yO L R B n P pn ce rn st sy v)
    (h : ∀ v', yO L R B n P pn ce rn st sy v' → post (dd_b (dd_al (dd_f4 (dd_V1 L R B n)) 64)) v') : wpY_fourth post v := by
  obtain ⟨sm, md, kn, cs, tb, hM, rfl⟩ := hv
  refine yl (τ := Unit) (fun m i _ v => yc (wY_fourth_2 post m (nI i)) v) (fun _ => ()) (fun i => dd_al (dd_f4 (dd_V1 L R B n)) i = true) (yO L R B n P pn ce rn st sy) 64 (yT L R B n P pn ce rn sm md kn cs tb st sy) ⟨sm, md, kn, cs, tb, hM, rfl⟩ rfl (fun m v hO hJ => ?_) (fun m i v hi hO hJ ih => ?_)
  · obtain ⟨sm, md, kn, cs, tb, hM, rfl⟩ := hO
    have w := h (yT L R B n P pn ce rn sm md kn cs tb st sy) ⟨sm, md, kn, cs, tb, hM, rfl⟩
    rw [hJ] at w
    exact br_t (nI_le (Nat.le_refl 64) (by decide)) w
  · obtain ⟨sm, md, kn, cs, tb, hM, rfl⟩ := hO
    refine br_f (nI_ge hi (by decide)) ?_
    refine yl (τ := Unit) (fun m' j _ v => yc (wY_fourth_10 post (wY_fourth_2 post m) (nI i) m' (nI j)) v) (fun _ => ()) (fun j => dd_al (fun y => dd_g4 (dd_V1 L R B n) (dd_n i) (dd_n y)) j = true) (yO L R B n P pn ce rn st sy) 64 (yT L R B n P pn ce rn sm md kn cs tb st sy) ⟨sm, md, kn, cs, tb, hM, rfl⟩ rfl (fun m' v hO hJ2 => ?_) (fun m' j v hj hO hJ2 ih2 => ?_)
    · obtain ⟨sm, md, kn, cs, tb, hM, rfl⟩ := hO
      exact br_t (nI_le (Nat.le_refl 64) (by decide)) (nm_r (nI_1 i) (ih () (yT L R B n P pn ce rn sm md kn cs tb st sy) rfl ⟨sm, md, kn, cs, tb, hM, rfl⟩ (dd_alS hJ (by rw [dd_f4g]; exact hJ2))))
    · obtain ⟨sm, md, kn, cs, tb, hM, rfl⟩ := hO
      have bad : dd_g4 (dd_V1 L R B n) (dd_n i) (dd_n j) = false → dd_al (dd_f4 (dd_V1 L R B n)) 64 = false := fun z => dd_alF hi (by rw [dd_f4g]; exact dd_alF hj z)
      refine br_f (nI_ge hj (by decide)) (dd_brs (dd_n j) (dd_n i) (fun g => br_f (by decide) (nm_r (nI_1 j) (ih2 () (yT L R B n P pn ce rn sm md kn cs tb st sy) rfl ⟨sm, md, kn, cs, tb, hM, rfl⟩ (dd_alS hJ2 ?_)))) (fun g => dd_bre (dd_n i ||| dd_n j) 63#6 (fun g2 => br_f (by decide) (nm_r (nI_1 j) (ih2 () (yT L R B n P pn ce rn sm md kn cs tb st sy) rfl ⟨sm, md, kn, cs, tb, hM, rfl⟩ (dd_alS hJ2 ?_)))) (fun g2 => y_closureOf hn (dd_n i) ⟨sm, md, kn, cs, tb, hM, rfl⟩ (fun v' hv' => ?_) (dd_ni hi)) (by rw [dd_ni hi, dd_ni hj, dd_or])) (dd_ni hj) (dd_ni hi))
      · unfold dd_g4; rw [dd_sBt g]; simp
      · unfold dd_g4; rw [decide_eq_true g2]; simp
      · obtain ⟨sm', md', kn', cs', tb', hM', rfl⟩ := hv'
        refine dd_bre _ 63#6 (fun g3 => br_f (by decide) (nm_r (nI_1 j) (ih2 () (yT L R B n P pn ce rn sm' md' kn' cs' tb' st sy) rfl ⟨sm', md', kn', cs', tb', hM', rfl⟩ (dd_alS hJ2 ?_)))) (fun g3 => br_t rfl (y_isBundle hn (dd_n i) (dd_n j) ⟨sm', md', kn', cs', tb', hM', rfl⟩ (fun v' hv' => ?_) (dd_ni hi) (dd_ni hj)))
        · unfold dd_g4; rw [decide_eq_true g3]; simp
        · obtain ⟨sm, md, kn, cs, tb, hM, rfl⟩ := hv'
          refine dd_br (fun g4 => nm_r (nI_1 j) (ih2 () (yT L R B n P pn ce rn sm md kn cs tb st sy) rfl ⟨sm, md, kn, cs, tb, hM, rfl⟩ (dd_alS hJ2 ?_))) (fun g4 => ?_)
          · unfold dd_g4; rw [g4]; simp
          · have w := h (yT L R B n P pn ce rn sm md kn cs tb st sy) ⟨sm, md, kn, cs, tb, hM, rfl⟩
            rw [bad (by unfold dd_g4; rw [dd_sBf g, decide_eq_false g2, decide_eq_false g3, g4]; rfl)] at w
            exact w
theorem y_bits {post : Int32 → Prop} {p : Int32} (c : Nat) (hv : yO L R B n P pn ce rn st sy v) (h : post (nI (dd_cn (fun t => c.testBit t) 10))) (hp : p = nI c := by rfl) : wpY_bits post v p := by
  subst hp
  obtain ⟨sm, md, kn, cs, tb, hM, rfl⟩ := hv
  refine dd_lp (fun m i s => wY_bits_4 post (nI c) (nI n) (nI pn) (nI rn) sm md (fun d => dd_i (L d)) (fun d => dd_i (R d)) (fun d => dd_b (B d)) (fun d => dd_i (P d)) ce kn cs tb st sy m (nI s) (nI i)) (dd_cn (fun t => c.testBit t)) (fun _ => True) 10 0 (by decide) trivial (fun m _ => ?_) (fun m i _ hi _ ih => ?_)
  · exact br_t (nI_le (Nat.le_refl 10) (by decide)) h
  · exact br_f (nI_ge hi (by decide)) (nm_r (e' := nI (dd_cn (fun t => c.testBit t) (i + 1))) (by rw [dd_nbit c (by omega), dd_addb]; rfl) (nm_r (nI_1 i) (ih _ rfl trivial)))
theorem y_needs {post : Int32 → SY → Prop} (hn : n ≤ 10) (x y : dd_S) (hv : yO L R B n P pn ce rn st sy v)
    (h : ∀ v', yO L R B n P pn ce rn st sy v' → post (dd_lst (dd_nd (dd_ok L R B n x y) (2 ^ n))) v') : wpY_needs post v (dd_i x) (dd_i y) := by
  obtain ⟨sm, md, kn, cs, tb, hM, rfl⟩ := hv
  unfold wpY_needs
  have h2 := dd_2n1 n (by omega)
  refine y_isSet x (br_f (by decide) (y_isSet y (br_f (by decide) ?_)))
  refine yl (τ := Nat) (fun m i s v => yc (wY_needs_24 post (dd_i x) (dd_i y) m (nI s) (nI i)) v) (dd_nd (dd_ok L R B n x y)) (fun _ => True) (yO L R B n P pn ce rn st sy) (2 ^ n) (yT L R B n P pn ce rn sm md kn cs tb st sy) ⟨sm, md, kn, cs, tb, hM, rfl⟩ trivial (fun m v hO _ => ?_) (fun m i v hi hO _ ih => ?_)
  · obtain ⟨sm, md, kn, cs, tb, hM, rfl⟩ := hO
    have w := h (yT L R B n P pn ce rn sm md kn cs tb st sy) ⟨sm, md, kn, cs, tb, hM, rfl⟩
    have le11 := dd_ndle (dd_ok L R B n x y) (2 ^ n)
    refine pk_le (2 ^ n) (2 ^ n) (fun _ => pk_eq (dd_nd (dd_ok L R B n x y) (2 ^ n)) 11 (fun g => ?_) (fun g => ?_)) (fun z => absurd z (Nat.lt_irrefl _)) (dd_2n n (by omega)) rfl (by omega) (by omega)
    · rw [g] at w; exact w
    · have e : dd_lst (dd_nd (dd_ok L R B n x y) (2 ^ n)) = nI (dd_nd (dd_ok L R B n x y) (2 ^ n)) := if_neg g
      rw [e] at w; exact w
  · obtain ⟨sm, md, kn, cs, tb, hM, rfl⟩ := hO
    have le10 := dd_cnle (fun t => i.testBit t) 10
    have le11 := dd_ndle (dd_ok L R B n x y) i
    refine pk_le (2 ^ n) i (fun z => absurd hi (by omega)) (fun _ => y_bits i ⟨sm, md, kn, cs, tb, hM, rfl⟩ (pk_le (dd_nd (dd_ok L R B n x y) i) (dd_cn (fun t => i.testBit t) 10) (fun z => nm_r (nI_1 i) (ih _ (yT L R B n P pn ce rn sm md kn cs tb st sy) (if_neg fun w => absurd w.1 (by omega)).symm ⟨sm, md, kn, cs, tb, hM, rfl⟩ trivial)) (fun z => y_grow hn i x fun md' _ => ?_))) (dd_2n n (by omega)) rfl (by omega) (by omega)
    refine dd_brs y (dd_cl (dd_v L R B n (fun d => i.testBit d)) x) (fun g => nm_r (nI_1 i) (ih _ (yT L R B n P pn ce rn (dd_i (dd_cl (dd_v L R B n (fun d => i.testBit d)) x)) md' kn cs tb st sy) (if_pos ⟨z, dd_sBt g⟩).symm ⟨_, _, _, _, _, hM, rfl⟩ trivial)) (fun g => nm_r (nI_1 i) (ih _ (yT L R B n P pn ce rn (dd_i (dd_cl (dd_v L R B n (fun d => i.testBit d)) x)) md' kn cs tb st sy) (if_neg fun w => ?_).symm ⟨_, _, _, _, _, hM, rfl⟩ trivial))
    have w2 := w.2
    unfold dd_ok at w2
    rw [dd_sBf g] at w2
    exact absurd w2 (by decide)
theorem y_forget {post : SY → Prop} {sm : Int32} {md : Int64} {kn cs : Nat → Int32} {tb : Nat → Int64} (h : ∀ kn', (∀ q, q < 64 → kn' q = 0) → post (yT L R B n P pn ce rn sm md kn' cs tb st sy)) :
    wpY_forget post (yT L R B n P pn ce rn sm md kn cs tb st sy) := by
  refine pk_loop (fun m i kn => wY_forget_2 post (nI n) (nI pn) (nI rn) sm md m (nI i) (fun d => dd_i (L d)) (fun d => dd_i (R d)) (fun d => dd_b (B d)) (fun d => dd_i (P d)) ce kn cs tb st sy) (fun i kn => ∀ q, q < i → kn q = 0) 64 0 kn (by decide) (fun q hq => absurd hq (Nat.not_lt_zero q)) (fun m kn hI => ?_) (fun m i kn hi hI ih => ?_)
  · exact br_t (nI_le (Nat.le_refl 64) (by decide)) (h kn hI)
  · refine br_f (nI_ge hi (by decide)) ⟨vp_in_nI hi (by decide), nm_r (e' := upd kn i 0) (by rw [nI_clamp (by omega)]; rfl) (nm_r (nI_1 i) (ih _ fun q hq => ?_))⟩
    by_cases e : q = i
    · rw [e, pk_us]
    · rw [pk_un e]; exact hI q (by omega)
end
