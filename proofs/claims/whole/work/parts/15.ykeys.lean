/-! the reference's walks over its closures: keys, closed sets, corners, forms, needs -/
abbrev yc (f : Int32 → Int32 → Int32 → Int32 → Int64 → (Nat → Int32) → (Nat → Int32) → (Nat → Int32) → (Nat → Int32) → (Nat → Int32) → (Nat → Int32) → (Nat → Int32) → (Nat → Int64) → (Nat → Int32) → (Nat → Int32) → Prop) (v : SY) : Prop :=
  f v.1 v.2.1 v.2.2.1 v.2.2.2.1 v.2.2.2.2.1 v.2.2.2.2.2.1 v.2.2.2.2.2.2.1 v.2.2.2.2.2.2.2.1 v.2.2.2.2.2.2.2.2.1 v.2.2.2.2.2.2.2.2.2.1 v.2.2.2.2.2.2.2.2.2.2.1 v.2.2.2.2.2.2.2.2.2.2.2.1 v.2.2.2.2.2.2.2.2.2.2.2.2.1 v.2.2.2.2.2.2.2.2.2.2.2.2.2.1 v.2.2.2.2.2.2.2.2.2.2.2.2.2.2
theorem yl {τ : Type} (W : Nat → Nat → τ → SY → Prop) (sf : Nat → τ) (J : Nat → Prop) (O : SY → Prop) (e : Nat) (v : SY) (hv : O v) (h0 : J 0) (hx : ∀ m v, O v → J e → W (m + 1) e (sf e) v)
    (hs : ∀ m i v, i < e → O v → J i → (∀ s' v', s' = sf (i + 1) → O v' → J (i + 1) → W m (i + 1) s' v') → W (m + 1) i (sf i) v) : ∃ m, W m 0 (sf 0) v :=
  pk_loop (σ := τ × SY) (fun m i z => W m i z.1 z.2) (fun i z => z.1 = sf i ∧ O z.2 ∧ J i) e 0 (sf 0, v) (Nat.zero_le e) ⟨rfl, hv, h0⟩
    (fun m z h => by rw [h.1]; exact hx m z.2 h.2.1 h.2.2)
    (fun m i z hi h ih => by rw [h.1]; exact hs m i z.2 hi h.2.1 h.2.2 fun s' v' h1 h2 h3 => ih (s', v') ⟨h1, h2, h3⟩)
theorem dd_cnT {q : Nat → Bool} {i : Nat} (h : q i = true) : dd_cn q i + 1 = dd_cn q (i + 1) := (if_pos h).symm
theorem dd_cnF {q : Nat → Bool} {i : Nat} (h : q i = false) : dd_cn q i = dd_cn q (i + 1) := (if_neg (by rw [h]; decide)).symm
theorem dd_unT {q : Nat → Bool} {i : Nat} (h : q i = true) : dd_un q i ||| dd_n i = dd_un q (i + 1) := (if_pos h).symm
theorem dd_unF {q : Nat → Bool} {i : Nat} (h : q i = false) : dd_un q i = dd_un q (i + 1) := (if_neg (by rw [h]; decide)).symm
theorem dd_mtT {q : Nat → Bool} {i : Nat} (h : q i = true) : dd_mt q i &&& dd_n i = dd_mt q (i + 1) := (if_pos h).symm
theorem dd_mtF {q : Nat → Bool} {i : Nat} (h : q i = false) : dd_mt q i = dd_mt q (i + 1) := (if_neg (by rw [h]; decide)).symm
theorem dd_alS {q : Nat → Bool} {i : Nat} (hJ : dd_al q i = true) (h : q i = true) : dd_al q (i + 1) = true := by
  show (dd_al q i && q i) = true
  rw [hJ, h]; rfl
section
variable {L R : Nat → dd_S} {B : Nat → Bool} {n : Nat} {P : Nat → dd_S} {pn : Nat} {ce : Nat → Int32} {rn : Nat} {st sy : Nat → Int32} {v : SY}
theorem y_isKeyOf {post : Int32 → SY → Prop} {p q : Int32} (hn : n ≤ 10) (x s : dd_S) (hv : yO L R B n P pn ce rn st sy v)
    (h : ∀ v', yO L R B n P pn ce rn st sy v' → post (dd_b (dd_key (dd_V1 L R B n) s x)) v') (hp : p = dd_i x := by rfl) (hq : q = dd_i s := by rfl) : wpY_isKeyOf post v p q := by
  subst hp hq
  obtain ⟨sm, md, kn, cs, tb, hM, rfl⟩ := hv
  unfold wpY_isKeyOf
  refine dd_brs x s (fun g0 => y_closureOf hn x ⟨sm, md, kn, cs, tb, hM, rfl⟩ fun v' hv' => ?_) (fun g0 => ?_)
  · obtain ⟨sm', md', kn', cs', tb', hM', rfl⟩ := hv'
    refine dd_brs s (dd_cl (dd_V1 L R B n) x) (fun g1 => ?_) (fun g1 => ?_)
    · refine yl (τ := Unit) (fun m i _ v => yc (wY_isKeyOf_24 post (dd_i x) (dd_i s) m (nI i)) v) (fun _ => ()) (fun i => dd_al (fun c => !(x.getLsbD c && dd_sB s (dd_cl (dd_V1 L R B n) (x &&& ~~~dd_e c)))) i = true) (yO L R B n P pn ce rn st sy) 6 (yT L R B n P pn ce rn sm' md' kn' cs' tb' st sy) ⟨sm', md', kn', cs', tb', hM', rfl⟩ rfl (fun m v hO hJ => ?_) (fun m i v hi hO hJ ih => ?_)
      · obtain ⟨sm, md, kn, cs, tb, hM, rfl⟩ := hO
        have w := h (yT L R B n P pn ce rn sm md kn cs tb st sy) ⟨sm, md, kn, cs, tb, hM, rfl⟩
        unfold dd_key at w
        rw [dd_sBt g0, dd_sBt g1, hJ] at w
        exact br_t (nI_le (Nat.le_refl 6) (by decide)) w
      · obtain ⟨sm, md, kn, cs, tb, hM, rfl⟩ := hO
        refine br_f (nI_ge hi (by decide)) (nm_r (e' := dd_i (x &&& ~~~dd_e i)) (by rw [dd_1 i hi, dd_andn]) (dd_bre (x &&& ~~~dd_e i) x (fun g2 => nm_r (nI_1 i) (ih () (yT L R B n P pn ce rn sm md kn cs tb st sy) rfl ⟨sm, md, kn, cs, tb, hM, rfl⟩ (dd_alS hJ ?_))) (fun g2 => y_closureOf hn (x &&& ~~~dd_e i) ⟨sm, md, kn, cs, tb, hM, rfl⟩ fun v' hv' => ?_)))
        · rw [dd_less hi] at g2
          rw [g2]; rfl
        · obtain ⟨sm', md', kn', cs', tb', hM', rfl⟩ := hv'
          have g2' : x.getLsbD i = true := ts_nf fun z => g2 ((dd_less hi).mpr z)
          refine dd_brs s (dd_cl (dd_V1 L R B n) (x &&& ~~~dd_e i)) (fun g3 => ?_) (fun g3 => nm_r (nI_1 i) (ih () (yT L R B n P pn ce rn sm' md' kn' cs' tb' st sy) rfl ⟨sm', md', kn', cs', tb', hM', rfl⟩ (dd_alS hJ ?_)))
          · have w := h (yT L R B n P pn ce rn sm' md' kn' cs' tb' st sy) ⟨sm', md', kn', cs', tb', hM', rfl⟩
            unfold dd_key at w
            rw [dd_alF (q := fun c => !(x.getLsbD c && dd_sB s (dd_cl (dd_V1 L R B n) (x &&& ~~~dd_e c)))) hi (by rw [g2', dd_sBt g3]; rfl), Bool.and_false, Bool.and_false] at w
            exact w
          · rw [dd_sBf g3, Bool.and_false]; rfl
    · have w := h (yT L R B n P pn ce rn sm' md' kn' cs' tb' st sy) ⟨sm', md', kn', cs', tb', hM', rfl⟩
      unfold dd_key at w
      rw [dd_sBf g1, Bool.false_and, Bool.and_false] at w
      exact w
  · have w := h (yT L R B n P pn ce rn sm md kn cs tb st sy) ⟨sm, md, kn, cs, tb, hM, rfl⟩
    unfold dd_key at w
    rw [dd_sBf g0, Bool.false_and] at w
    exact w
theorem y_keys {post : Int32 → SY → Prop} (hn : n ≤ 10) (hv : yO L R B n P pn ce rn st sy v)
    (h : ∀ v', yO L R B n P pn ce rn st sy v' → post (nI (dd_cn (fun t => dd_key (dd_V1 L R B n) 63#6 (dd_n t)) 64)) v') : wpY_keys post v := by
  obtain ⟨sm, md, kn, cs, tb, hM, rfl⟩ := hv
  refine yl (τ := Nat) (fun m i s v => yc (wY_keys_4 post m (nI s) (nI i)) v) (dd_cn (fun t => dd_key (dd_V1 L R B n) 63#6 (dd_n t))) (fun _ => True) (yO L R B n P pn ce rn st sy) 64 (yT L R B n P pn ce rn sm md kn cs tb st sy) ⟨sm, md, kn, cs, tb, hM, rfl⟩ trivial (fun m v hO _ => ?_) (fun m i v hi hO _ ih => ?_)
  · obtain ⟨sm, md, kn, cs, tb, hM, rfl⟩ := hO
    exact br_t (nI_le (Nat.le_refl 64) (by decide)) (h (yT L R B n P pn ce rn sm md kn cs tb st sy) ⟨sm, md, kn, cs, tb, hM, rfl⟩)
  · obtain ⟨sm, md, kn, cs, tb, hM, rfl⟩ := hO
    refine br_f (nI_ge hi (by decide)) (y_isKeyOf hn (dd_n i) 63#6 ⟨sm, md, kn, cs, tb, hM, rfl⟩ (fun v' hv' => ?_) (dd_ni hi))
    obtain ⟨sm', md', kn', cs', tb', hM', rfl⟩ := hv'
    exact dd_br (fun g => nm_r (nI_1 i) (ih _ (yT L R B n P pn ce rn sm' md' kn' cs' tb' st sy) (dd_cnF g) ⟨sm', md', kn', cs', tb', hM', rfl⟩ trivial)) (fun g => nm_r (nI_1 _) (nm_r (nI_1 i) (ih _ (yT L R B n P pn ce rn sm' md' kn' cs' tb' st sy) (dd_cnT g) ⟨sm', md', kn', cs', tb', hM', rfl⟩ trivial)))
theorem y_key {post : Int32 → SY → Prop} (hn : n ≤ 10) (a : Int32) (hv : yO L R B n P pn ce rn st sy v)
    (h : ∀ v', yO L R B n P pn ce rn st sy v' → post (dd_at (fun t => dd_key (dd_V1 L R B n) 63#6 (dd_n t)) a 64 0 0) v') : wpY_key post v a := by
  obtain ⟨sm, md, kn, cs, tb, hM, rfl⟩ := hv
  have key : ∀ d t b v, d + t = 64 → yO L R B n P pn ce rn st sy v → (∀ v', yO L R B n P pn ce rn st sy v' → post (dd_at (fun t => dd_key (dd_V1 L R B n) 63#6 (dd_n t)) a d t b) v') → yc (wY_key_4 post a (d + 1) (nI b) (nI t)) v := by
    intro d
    induction d with
    | zero =>
      intro t b v e hO h
      obtain ⟨sm, md, kn, cs, tb, hM, rfl⟩ := hO
      exact br_t (nI_le (a := 64) (by omega) (by omega)) (h (yT L R B n P pn ce rn sm md kn cs tb st sy) ⟨sm, md, kn, cs, tb, hM, rfl⟩)
    | succ d ih =>
      intro t b v e hO h
      obtain ⟨sm, md, kn, cs, tb, hM, rfl⟩ := hO
      refine br_f (nI_ge (b := 64) (by omega) (by decide)) (y_isKeyOf hn (dd_n t) 63#6 ⟨sm, md, kn, cs, tb, hM, rfl⟩ (fun v' hv' => ?_) (dd_ni (by omega)))
      obtain ⟨sm', md', kn', cs', tb', hM', rfl⟩ := hv'
      refine dd_br (fun g => nm_r (nI_1 t) (ih (t + 1) b (yT L R B n P pn ce rn sm' md' kn' cs' tb' st sy) (by omega) ⟨sm', md', kn', cs', tb', hM', rfl⟩ fun v' hv' => ?_)) (fun g => br_c (fun g2 => ?_) (fun g2 => nm_r (nI_1 b) (nm_r (nI_1 t) (ih (t + 1) (b + 1) (yT L R B n P pn ce rn sm' md' kn' cs' tb' st sy) (by omega) ⟨sm', md', kn', cs', tb', hM', rfl⟩ fun v' hv' => ?_))))
      · have w := h v' hv'
        have e2 : dd_at (fun t => dd_key (dd_V1 L R B n) 63#6 (dd_n t)) a (d + 1) t b = dd_at (fun t => dd_key (dd_V1 L R B n) 63#6 (dd_n t)) a d (t + 1) b := if_neg fun z => by rw [show dd_key (dd_V1 L R B n) 63#6 (dd_n t) = true from z] at g; exact absurd g (by decide)
        rw [e2] at w; exact w
      · have w := h (yT L R B n P pn ce rn sm' md' kn' cs' tb' st sy) ⟨sm', md', kn', cs', tb', hM', rfl⟩
        have e2 : dd_at (fun t => dd_key (dd_V1 L R B n) 63#6 (dd_n t)) a (d + 1) t b = nI t := (if_pos g).trans (if_pos g2)
        rw [e2] at w; exact w
      · have w := h v' hv'
        have e2 : dd_at (fun t => dd_key (dd_V1 L R B n) 63#6 (dd_n t)) a (d + 1) t b = dd_at (fun t => dd_key (dd_V1 L R B n) 63#6 (dd_n t)) a d (t + 1) (b + 1) := (if_pos g).trans (if_neg g2)
        rw [e2] at w; exact w
  exact ⟨65, key 64 0 0 (yT L R B n P pn ce rn sm md kn cs tb st sy) rfl ⟨sm, md, kn, cs, tb, hM, rfl⟩ h⟩
theorem y_closed {post : Int32 → SY → Prop} (hn : n ≤ 10) (hv : yO L R B n P pn ce rn st sy v)
    (h : ∀ v', yO L R B n P pn ce rn st sy v' → post (nI (dd_cn (fun t => decide (dd_cl (dd_V1 L R B n) (dd_n t) = dd_n t)) 64)) v') : wpY_closed post v := by
  obtain ⟨sm, md, kn, cs, tb, hM, rfl⟩ := hv
  refine yl (τ := Nat) (fun m i s v => yc (wY_closed_4 post m (nI s) (nI i)) v) (dd_cn (fun t => decide (dd_cl (dd_V1 L R B n) (dd_n t) = dd_n t))) (fun _ => True) (yO L R B n P pn ce rn st sy) 64 (yT L R B n P pn ce rn sm md kn cs tb st sy) ⟨sm, md, kn, cs, tb, hM, rfl⟩ trivial (fun m v hO _ => ?_) (fun m i v hi hO _ ih => ?_)
  · obtain ⟨sm, md, kn, cs, tb, hM, rfl⟩ := hO
    exact br_t (nI_le (Nat.le_refl 64) (by decide)) (h (yT L R B n P pn ce rn sm md kn cs tb st sy) ⟨sm, md, kn, cs, tb, hM, rfl⟩)
  · obtain ⟨sm, md, kn, cs, tb, hM, rfl⟩ := hO
    refine br_f (nI_ge hi (by decide)) (y_closureOf hn (dd_n i) ⟨sm, md, kn, cs, tb, hM, rfl⟩ (fun v' hv' => ?_) (dd_ni hi))
    obtain ⟨sm', md', kn', cs', tb', hM', rfl⟩ := hv'
    exact dd_bre _ (dd_n i) (fun g => nm_r (nI_1 _) (nm_r (nI_1 i) (ih _ (yT L R B n P pn ce rn sm' md' kn' cs' tb' st sy) (dd_cnT (decide_eq_true g)) ⟨sm', md', kn', cs', tb', hM', rfl⟩ trivial))) (fun g => nm_r (nI_1 i) (ih _ (yT L R B n P pn ce rn sm' md' kn' cs' tb' st sy) (dd_cnF (decide_eq_false g)) ⟨sm', md', kn', cs', tb', hM', rfl⟩ trivial)) rfl (dd_ni hi)
theorem y_isCorner {post : Int32 → SY → Prop} {p : Int32} (hn : n ≤ 10) (t : Nat) (ht : t < 64) (hv : yO L R B n P pn ce rn st sy v)
    (h : ∀ v', yO L R B n P pn ce rn st sy v' → post (dd_b (dd_co (dd_cl (dd_V1 L R B n)) t)) v') (hp : p = nI t := by rfl) : wpY_isCorner post v p := by
  subst hp
  obtain ⟨sm, md, kn, cs, tb, hM, rfl⟩ := hv
  refine yl (τ := dd_S) (fun m i s v => yc (wY_isCorner_5 post (nI t) m (dd_i s) (nI i)) v) (dd_mt (fun y => decide (y ≠ t) && dd_lg (fun y => decide (dd_cl (dd_V1 L R B n) (dd_n y) = dd_n y)) t y)) (fun _ => True) (yO L R B n P pn ce rn st sy) 64 (yT L R B n P pn ce rn sm md kn cs tb st sy) ⟨sm, md, kn, cs, tb, hM, rfl⟩ trivial (fun m v hO _ => ?_) (fun m i v hi hO _ ih => ?_)
  · obtain ⟨sm, md, kn, cs, tb, hM, rfl⟩ := hO
    refine br_t (nI_le (Nat.le_refl 64) (by decide)) (y_closureOf hn (dd_n t) ⟨sm, md, kn, cs, tb, hM, rfl⟩ (fun v' hv' => ?_) (dd_ni ht))
    obtain ⟨sm', md', kn', cs', tb', hM', rfl⟩ := hv'
    have w := h (yT L R B n P pn ce rn sm' md' kn' cs' tb' st sy) ⟨sm', md', kn', cs', tb', hM', rfl⟩
    unfold dd_co at w
    refine dd_bre _ (dd_n t) (fun g => dd_bre _ (dd_n t) (fun g2 => ?_) (fun g2 => ?_) rfl (dd_ni ht)) (fun g => ?_) rfl (dd_ni ht)
    · rw [decide_eq_true g2, Bool.not_true, Bool.and_false] at w
      exact w
    · rw [decide_eq_true g, decide_eq_false g2] at w
      exact w
    · rw [decide_eq_false g, Bool.false_and] at w
      exact w
  · obtain ⟨sm, md, kn, cs, tb, hM, rfl⟩ := hO
    refine br_f (nI_ge hi (by decide)) (pk_eq i t (fun g => br_t rfl (nm_r (nI_1 i) (ih _ (yT L R B n P pn ce rn sm md kn cs tb st sy) (dd_mtF ?_) ⟨sm, md, kn, cs, tb, hM, rfl⟩ trivial))) (fun g => dd_brs (dd_n t) (dd_n i) (fun g2 => y_closureOf hn (dd_n i) ⟨sm, md, kn, cs, tb, hM, rfl⟩ (fun v' hv' => ?_) (dd_ni hi)) (fun g2 => br_t rfl (nm_r (nI_1 i) (ih _ (yT L R B n P pn ce rn sm md kn cs tb st sy) (dd_mtF ?_) ⟨sm, md, kn, cs, tb, hM, rfl⟩ trivial))) (dd_ni ht) (dd_ni hi)))
    · rw [decide_eq_false (fun z => z g)]; rfl
    · obtain ⟨sm', md', kn', cs', tb', hM', rfl⟩ := hv'
      refine dd_bre _ (dd_n i) (fun g3 => br_f (by decide) (nm_r (e' := dd_i (dd_mt (fun y => decide (y ≠ t) && dd_lg (fun y => decide (dd_cl (dd_V1 L R B n) (dd_n y) = dd_n y)) t y) i &&& dd_n i)) (by rw [dd_ni hi, dd_and]) (nm_r (nI_1 i) (ih _ (yT L R B n P pn ce rn sm' md' kn' cs' tb' st sy) (dd_mtT ?_) ⟨sm', md', kn', cs', tb', hM', rfl⟩ trivial)))) (fun g3 => br_t rfl (nm_r (nI_1 i) (ih _ (yT L R B n P pn ce rn sm' md' kn' cs' tb' st sy) (dd_mtF ?_) ⟨sm', md', kn', cs', tb', hM', rfl⟩ trivial))) rfl (dd_ni hi)
      · unfold dd_lg; dsimp only
        rw [decide_eq_true g, decide_eq_true g3, dd_sBt g2]; rfl
      · unfold dd_lg; dsimp only
        rw [decide_eq_false g3, Bool.false_and, Bool.and_false]
    · unfold dd_lg; dsimp only
      rw [dd_sBf g2, Bool.and_false, Bool.and_false]
theorem y_corners {post : Int32 → SY → Prop} (hn : n ≤ 10) (hv : yO L R B n P pn ce rn st sy v)
    (h : ∀ v', yO L R B n P pn ce rn st sy v' → post (nI (dd_cn (dd_co (dd_cl (dd_V1 L R B n))) 63)) v') : wpY_corners post v := by
  obtain ⟨sm, md, kn, cs, tb, hM, rfl⟩ := hv
  refine yl (τ := Nat) (fun m i s v => yc (wY_corners_4 post m (nI s) (nI i)) v) (dd_cn (dd_co (dd_cl (dd_V1 L R B n)))) (fun _ => True) (yO L R B n P pn ce rn st sy) 63 (yT L R B n P pn ce rn sm md kn cs tb st sy) ⟨sm, md, kn, cs, tb, hM, rfl⟩ trivial (fun m v hO _ => ?_) (fun m i v hi hO _ ih => ?_)
  · obtain ⟨sm, md, kn, cs, tb, hM, rfl⟩ := hO
    exact br_t (nI_le (Nat.le_refl 63) (by decide)) (h (yT L R B n P pn ce rn sm md kn cs tb st sy) ⟨sm, md, kn, cs, tb, hM, rfl⟩)
  · obtain ⟨sm, md, kn, cs, tb, hM, rfl⟩ := hO
    refine br_f (nI_ge hi (by decide)) (y_isCorner hn i (by omega) ⟨sm, md, kn, cs, tb, hM, rfl⟩ (fun v' hv' => ?_))
    obtain ⟨sm', md', kn', cs', tb', hM', rfl⟩ := hv'
    exact dd_br (fun g => nm_r (nI_1 i) (ih _ (yT L R B n P pn ce rn sm' md' kn' cs' tb' st sy) (dd_cnF g) ⟨sm', md', kn', cs', tb', hM', rfl⟩ trivial)) (fun g => nm_r (nI_1 _) (nm_r (nI_1 i) (ih _ (yT L R B n P pn ce rn sm' md' kn' cs' tb' st sy) (dd_cnT g) ⟨sm', md', kn', cs', tb', hM', rfl⟩ trivial)))
theorem y_inKeysOf {post : Int32 → SY → Prop} {p : Int32} (hn : n ≤ 10) (s : dd_S) (hv : yO L R B n P pn ce rn st sy v)
    (h : ∀ v', yO L R B n P pn ce rn st sy v' → post (dd_i (dd_un (fun t => dd_key (dd_V1 L R B n) s (dd_n t)) 64)) v') (hp : p = dd_i s := by rfl) : wpY_inKeysOf post v p := by
  subst hp
  obtain ⟨sm, md, kn, cs, tb, hM, rfl⟩ := hv
  refine yl (τ := dd_S) (fun m i z v => yc (wY_inKeysOf_4 post (dd_i s) m (dd_i z) (nI i)) v) (dd_un (fun t => dd_key (dd_V1 L R B n) s (dd_n t))) (fun _ => True) (yO L R B n P pn ce rn st sy) 64 (yT L R B n P pn ce rn sm md kn cs tb st sy) ⟨sm, md, kn, cs, tb, hM, rfl⟩ trivial (fun m v hO _ => ?_) (fun m i v hi hO _ ih => ?_)
  · obtain ⟨sm, md, kn, cs, tb, hM, rfl⟩ := hO
    exact br_t (nI_le (Nat.le_refl 64) (by decide)) (h (yT L R B n P pn ce rn sm md kn cs tb st sy) ⟨sm, md, kn, cs, tb, hM, rfl⟩)
  · obtain ⟨sm, md, kn, cs, tb, hM, rfl⟩ := hO
    refine br_f (nI_ge hi (by decide)) (y_isKeyOf hn (dd_n i) s ⟨sm, md, kn, cs, tb, hM, rfl⟩ (fun v' hv' => ?_) (dd_ni hi))
    obtain ⟨sm', md', kn', cs', tb', hM', rfl⟩ := hv'
    exact dd_br (fun g => nm_r (nI_1 i) (ih _ (yT L R B n P pn ce rn sm' md' kn' cs' tb' st sy) (dd_unF g) ⟨sm', md', kn', cs', tb', hM', rfl⟩ trivial)) (fun g => nm_r (e' := dd_i (dd_un (fun t => dd_key (dd_V1 L R B n) s (dd_n t)) i ||| dd_n i)) (by rw [dd_ni hi, dd_or]) (nm_r (nI_1 i) (ih _ (yT L R B n P pn ce rn sm' md' kn' cs' tb' st sy) (dd_unT g) ⟨sm', md', kn', cs', tb', hM', rfl⟩ trivial)))
theorem y_third {post : Int32 → SY → Prop} (hn : n ≤ 10) (s : dd_S) (hv : yO L R B n P pn ce rn st sy v)
    (h : ∀ v', yO L R B n P pn ce rn st sy v' → post (dd_b (dd_al (dd_t3 (dd_V1 L R B n) s) 64)) v') : wpY_third post v (dd_i s) := by
  obtain ⟨sm, md, kn, cs, tb, hM, rfl⟩ := hv
  unfold wpY_third
  refine y_isSet s (br_f (by decide) (y_inKeysOf hn s ⟨sm, md, kn, cs, tb, hM, rfl⟩ fun v' hv' => ?_))
  obtain ⟨sm', md', kn', cs', tb', hM', rfl⟩ := hv'
  refine yl (τ := Unit) (fun m i _ v => yc (wY_third_18 post (dd_i s) (dd_i (dd_un (fun t => dd_key (dd_V1 L R B n) s (dd_n t)) 64)) m (nI i)) v) (fun _ => ()) (fun i => dd_al (dd_t3 (dd_V1 L R B n) s) i = true) (yO L R B n P pn ce rn st sy) 64 (yT L R B n P pn ce rn sm' md' kn' cs' tb' st sy) ⟨sm', md', kn', cs', tb', hM', rfl⟩ rfl (fun m v hO hJ => ?_) (fun m i v hi hO hJ ih => ?_)
  · obtain ⟨sm, md, kn, cs, tb, hM, rfl⟩ := hO
    have w := h (yT L R B n P pn ce rn sm md kn cs tb st sy) ⟨sm, md, kn, cs, tb, hM, rfl⟩
    rw [hJ] at w
    exact br_t (nI_le (Nat.le_refl 64) (by decide)) w
  · obtain ⟨sm, md, kn, cs, tb, hM, rfl⟩ := hO
    refine br_f (nI_ge hi (by decide)) (y_closureOf hn (dd_n i) ⟨sm, md, kn, cs, tb, hM, rfl⟩ (fun v' hv' => ?_) (dd_ni hi))
    obtain ⟨sm', md', kn', cs', tb', hM', rfl⟩ := hv'
    refine nm_r (e' := dd_i ((dd_cl (dd_V1 L R B n) (dd_n i) &&& s) &&& ~~~dd_n i)) (by rw [dd_ni hi, dd_and, dd_andn]) (dd_brs (dd_n i) s (fun g => br_f (by decide) (y_closureOf hn (dd_n i) ⟨sm', md', kn', cs', tb', hM', rfl⟩ (fun v' hv' => ?_) (dd_ni hi))) (fun g => br_t rfl (nm_r (nI_1 i) (ih () (yT L R B n P pn ce rn sm' md' kn' cs' tb' st sy) rfl ⟨sm', md', kn', cs', tb', hM', rfl⟩ (dd_alS hJ ?_)))) (dd_ni hi))
    · obtain ⟨sm, md, kn, cs, tb, hM, rfl⟩ := hv'
      refine dd_brs s _ (fun g2 => nm_r (nI_1 i) (ih () (yT L R B n P pn ce rn sm md kn cs tb st sy) rfl ⟨sm, md, kn, cs, tb, hM, rfl⟩ (dd_alS hJ ?_))) (fun g2 => dd_brs ((dd_cl (dd_V1 L R B n) (dd_n i) &&& s) &&& ~~~dd_n i) (dd_un (fun t => dd_key (dd_V1 L R B n) s (dd_n t)) 64) (fun g3 => nm_r (nI_1 i) (ih () (yT L R B n P pn ce rn sm md kn cs tb st sy) rfl ⟨sm, md, kn, cs, tb, hM, rfl⟩ (dd_alS hJ ?_))) (fun g3 => ?_))
      · unfold dd_t3; rw [dd_sBt g2]; simp
      · unfold dd_t3; rw [dd_sBt g3]; simp
      · have w := h (yT L R B n P pn ce rn sm md kn cs tb st sy) ⟨sm, md, kn, cs, tb, hM, rfl⟩
        rw [dd_alF hi (by unfold dd_t3; rw [dd_sBt g, dd_sBf g2, dd_sBf g3]; rfl)] at w
        exact w
    · unfold dd_t3; rw [dd_sBf g]; rfl
theorem y_boyce {post : Int32 → SY → Prop} (hn : n ≤ 10) (s : dd_S) (hv : yO L R B n P pn ce rn st sy v)
    (h : ∀ v', yO L R B n P pn ce rn st sy v' → post (dd_b (dd_al (dd_bc (dd_V1 L R B n) s) 64)) v') : wpY_boyce post v (dd_i s) := by
  obtain ⟨sm, md, kn, cs, tb, hM, rfl⟩ := hv
  unfold wpY_boyce
  refine y_isSet s (br_f (by decide) ?_)
  refine yl (τ := Unit) (fun m i _ v => yc (wY_boyce_12 post (dd_i s) m (nI i)) v) (fun _ => ()) (fun i => dd_al (dd_bc (dd_V1 L R B n) s) i = true) (yO L R B n P pn ce rn st sy) 64 (yT L R B n P pn ce rn sm md kn cs tb st sy) ⟨sm, md, kn, cs, tb, hM, rfl⟩ rfl (fun m v hO hJ => ?_) (fun m i v hi hO hJ ih => ?_)
  · obtain ⟨sm, md, kn, cs, tb, hM, rfl⟩ := hO
    have w := h (yT L R B n P pn ce rn sm md kn cs tb st sy) ⟨sm, md, kn, cs, tb, hM, rfl⟩
    rw [hJ] at w
    exact br_t (nI_le (Nat.le_refl 64) (by decide)) w
  · obtain ⟨sm, md, kn, cs, tb, hM, rfl⟩ := hO
    refine br_f (nI_ge hi (by decide)) (y_closureOf hn (dd_n i) ⟨sm, md, kn, cs, tb, hM, rfl⟩ (fun v' hv' => ?_) (dd_ni hi))
    obtain ⟨sm', md', kn', cs', tb', hM', rfl⟩ := hv'
    refine nm_r (e' := dd_i ((dd_cl (dd_V1 L R B n) (dd_n i) &&& s) &&& ~~~dd_n i)) (by rw [dd_ni hi, dd_and, dd_andn]) (dd_brs (dd_n i) s (fun g => br_f (by decide) (dd_bre ((dd_cl (dd_V1 L R B n) (dd_n i) &&& s) &&& ~~~dd_n i) 0#6 (fun g2 => nm_r (nI_1 i) (ih () (yT L R B n P pn ce rn sm' md' kn' cs' tb' st sy) rfl ⟨sm', md', kn', cs', tb', hM', rfl⟩ (dd_alS hJ ?_))) (fun g2 => y_closureOf hn (dd_n i) ⟨sm', md', kn', cs', tb', hM', rfl⟩ (fun v' hv' => ?_) (dd_ni hi)))) (fun g => br_t rfl (nm_r (nI_1 i) (ih () (yT L R B n P pn ce rn sm' md' kn' cs' tb' st sy) rfl ⟨sm', md', kn', cs', tb', hM', rfl⟩ (dd_alS hJ ?_)))) (dd_ni hi))
    · unfold dd_bc; rw [decide_eq_true g2]; simp
    · obtain ⟨sm, md, kn, cs, tb, hM, rfl⟩ := hv'
      refine dd_brs s _ (fun g3 => nm_r (nI_1 i) (ih () (yT L R B n P pn ce rn sm md kn cs tb st sy) rfl ⟨sm, md, kn, cs, tb, hM, rfl⟩ (dd_alS hJ ?_))) (fun g3 => ?_)
      · unfold dd_bc; rw [dd_sBt g3]; simp
      · have w := h (yT L R B n P pn ce rn sm md kn cs tb st sy) ⟨sm, md, kn, cs, tb, hM, rfl⟩
        rw [dd_alF hi (by unfold dd_bc; rw [dd_sBt g, decide_eq_false g2, dd_sBf g3]; rfl)] at w
        exact w
    · unfold dd_bc; rw [dd_sBf g]; rfl
end
