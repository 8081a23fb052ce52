/-! the class over the given dependencies -/
abbrev xT (L R : Nat → dd_S) (B : Nat → Bool) (n : Nat) (P : Nat → dd_S) (pn : Nat) (ce : Nat → Int32) (rn : Nat) (mk : Nat → Int32) : SX :=
  (nI n, nI pn, nI rn, (fun d => dd_i (L d)), (fun d => dd_i (R d)), (fun d => dd_b (B d)), (fun d => dd_i (P d)), ce, mk)
abbrev dd_V1 (L R : Nat → dd_S) (B : Nat → Bool) (n : Nat) : Nat → Bool := dd_v L R B n (fun d => Nat.testBit 1023 d)
theorem dd_ix {α : Type} (g : Nat → α) {i : Nat} (hi : i < 2 ^ 31) : g (nI i).toNatClampNeg = g i := by rw [nI_clamp hi]
theorem dd_2n : ∀ n, n < 11 → (1 : Int32) <<< (nI n &&& 31) = nI (2 ^ n) := by decide +kernel
theorem dd_2n1 : ∀ n, n < 11 → 2 ^ n < 1025 := by decide
theorem dd_clE {p q : Nat → Bool} (h : ∀ t, t < 64 → p t = q t) : dd_cl p = dd_cl q := funext fun _ => dd_clX h
theorem dd_aKX {p q : Nat → Bool} {x y : dd_S} {b : Bool} (h : ∀ t, t < 64 → p t = q t) : dd_aK p x y b = dd_aK q x y b :=
  dd_alX fun t ht => by rw [h t ht]
theorem dd_keyX {p q : Nat → Bool} {s x : dd_S} (h : ∀ t, t < 64 → p t = q t) : dd_key p s x = dd_key q s x := by
  unfold dd_key; rw [dd_clE h]
section
variable {L R : Nat → dd_S} {B : Nat → Bool} {n : Nat} {P : Nat → dd_S} {pn : Nat} {ce : Nat → Int32} {rn : Nat} {mk : Nat → Int32}
theorem x_pairKeepsChosen {post : Int32 → Prop} {p q : Int32} (hn : n ≤ 10) (T : dd_S) (c : Nat) (hc : c < 2 ^ 31)
    (h : post (dd_b (dd_al (fun d => !c.testBit d || dd_pk T (L d) (R d) (B d)) n))) (hp : p = dd_i T := by rfl) (hq : q = nI c := by rfl) :
    wpX_pairKeepsChosen post (xT L R B n P pn ce rn mk) p q := by
  subst hp hq
  refine dd_lp (σ := Unit) (fun m i _ => wX_pairKeepsChosen_2 post (dd_i T) (nI c) (nI n) (nI pn) (nI rn) (fun d => dd_i (L d)) (fun d => dd_i (R d)) (fun d => dd_b (B d)) (fun d => dd_i (P d)) ce mk m (nI i)) (fun _ => ())
    (fun i => dd_al (fun d => !c.testBit d || dd_pk T (L d) (R d) (B d)) i = true) n 0 (Nat.zero_le n) rfl (fun m hJ => ?_) (fun m i _ hi hJ ih => ?_)
  · rw [hJ] at h
    exact br_t (nI_le (Nat.le_refl n) (by omega)) h
  · have v : vp_in (nI i) 10 := vp_in_nI (by omega) (by decide)
    refine br_f (nI_ge hi (by omega)) (x_isIn i (by omega) (dd_br (fun g => nm_r (nI_1 i) (ih () rfl ?_)) (fun g => ⟨v, v, v, x_pairKeeps T (L i) (R i) (B i) (dd_br (fun g2 => ?_) (fun g2 => nm_r (nI_1 i) (ih () rfl ?_)))
      rfl (dd_ix (fun d => dd_i (L d)) (by omega)) (dd_ix (fun d => dd_i (R d)) (by omega)) (dd_ix (fun d => dd_b (B d)) (by omega))⟩)))
    · rw [dd_mi hc (by omega)] at g
      show (_ && _) = true
      dsimp only
      rw [hJ, g]; rfl
    · rw [dd_mi hc (by omega)] at g
      rw [dd_alF (q := fun d => !c.testBit d || dd_pk T (L d) (R d) (B d)) hi (by rw [g, g2]; rfl)] at h
      exact h
    · show (_ && _) = true
      dsimp only
      rw [hJ, g2, Bool.or_true]; rfl
theorem x_pairsKeeping {post : Int64 → Prop} {q : Int32} (hn : n ≤ 10) (c : Nat) (hc : c < 2 ^ 31)
    (h : ∀ f, (∀ t, t < 64 → dd_m f t = dd_v L R B n (fun d => c.testBit d) t) → post f) (hq : q = nI c := by rfl) :
    wpX_pairsKeeping post (xT L R B n P pn ce rn mk) q := by
  subst hq
  refine pk_loop (fun m i g => wX_pairsKeeping_5 post (nI c) (nI n) (nI pn) (nI rn) (fun d => dd_i (L d)) (fun d => dd_i (R d)) (fun d => dd_b (B d)) (fun d => dd_i (P d)) ce mk m g (nI i)) (fun i g => dd_fam i (dd_v L R B n (fun d => c.testBit d)) g) 64 0 0 (by decide) (dd_fam0 _) (fun m g hI => ?_) (fun m i g hi hI ih => ?_)
  · exact br_t (nI_le (Nat.le_refl 64) (by decide)) (h g (dd_famE hI))
  · exact br_f (nI_ge hi (by decide)) (x_pairKeepsChosen hn (dd_n i) c hc (dd_br (fun g1 => nm_r (nI_1 i) (ih _ (dd_famN hI g1))) (fun g1 => nm_e (nm_r (nI_1 i) (ih _ (dd_famA hI g1 fun t ht => dd_set g hi t))))) (dd_ni hi))
theorem x_pairsAll {post : Int64 → Prop} (hn : n ≤ 10) (h : ∀ f, (∀ t, t < 64 → dd_m f t = dd_V1 L R B n t) → post f) :
    wpX_pairsKeeping post (xT L R B n P pn ce rn mk) 1023 := x_pairsKeeping hn 1023 (by decide) h
theorem x_closure {post : Int32 → Prop} (hn : n ≤ 10) (x : dd_S) (h : post (dd_i (dd_cl (dd_V1 L R B n) x))) : wpX_closure post (xT L R B n P pn ce rn mk) (dd_i x) := by
  unfold wpX_closure
  refine x_isSet x (br_f (by decide) (x_pairsAll hn fun f hf => x_closureIn x ?_))
  rw [dd_clE hf]; exact h
theorem x_follows {post : Int32 → Prop} (hn : n ≤ 10) (x y : dd_S) (h : post (dd_b (dd_sB y (dd_cl (dd_V1 L R B n) x)))) : wpX_follows post (xT L R B n P pn ce rn mk) (dd_i x) (dd_i y) := by
  unfold wpX_follows
  refine x_isSet x (br_f (by decide) (x_isSet y (br_f (by decide) (x_pairsAll hn fun f hf => x_allKeep x y false ⟨dd_bn _, ?_⟩))))
  rw [dd_aKc, dd_clE hf]; exact h
theorem x_bundles {post : Int32 → Prop} (hn : n ≤ 10) (x y : dd_S) (h : post (dd_b (dd_aK (dd_V1 L R B n) x y true))) : wpX_bundles post (xT L R B n P pn ce rn mk) (dd_i x) (dd_i y) := by
  unfold wpX_bundles
  refine x_isSet x (br_f (by decide) (x_isSet y (br_f (by decide) (x_pairsAll hn fun f hf => x_allKeep x y true ⟨dd_bn _, ?_⟩))))
  rw [dd_aKX hf]; exact h
theorem x_keys {post : Int32 → Prop} (hn : n ≤ 10) (h : post (nI (dd_cn (fun t => dd_key (dd_V1 L R B n) 63#6 (dd_n t)) 64))) : wpX_keys post (xT L R B n P pn ce rn mk) := by
  unfold wpX_keys
  refine x_pairsAll hn fun f hf => x_keysOf 63#6 fun g hg => x_sizeOf ?_
  rw [dd_cnX fun t ht => (hg t ht).trans (dd_keyX hf)]; exact h
theorem x_key {post : Int32 → Prop} (hn : n ≤ 10) (i : Int32) (h : post (dd_at (fun t => dd_key (dd_V1 L R B n) 63#6 (dd_n t)) i 64 0 0)) : wpX_key post (xT L R B n P pn ce rn mk) i := by
  unfold wpX_key
  refine x_pairsAll hn fun f hf => x_keysOf 63#6 fun g hg => x_memberAt ?_
  rw [dd_atX i (fun t ht => (hg t ht).trans (dd_keyX hf)) 64 0 0 rfl]; exact h
theorem x_closed {post : Int32 → Prop} (hn : n ≤ 10) (h : post (nI (dd_cn (fun t => decide (dd_cl (dd_V1 L R B n) (dd_n t) = dd_n t)) 64))) : wpX_closed post (xT L R B n P pn ce rn mk) := by
  unfold wpX_closed
  refine x_pairsAll hn fun f hf => x_closedSets fun g hg => x_sizeOf ?_
  rw [dd_cnX fun t ht => (hg t ht).trans (by rw [dd_clE hf])]; exact h
theorem x_stems {post : Int32 → Prop} (hn : n ≤ 10) (h : post (nI (dd_cn (dd_st (dd_cl (dd_V1 L R B n)) 64) 64))) : wpX_stems post (xT L R B n P pn ce rn mk) := by
  unfold wpX_stems
  refine x_pairsAll hn fun f hf => x_stemSets fun g hg => x_sizeOf ?_
  rw [dd_cnX fun t ht => (hg t ht).trans (by rw [dd_clE hf])]; exact h
theorem x_stem {post : Int32 → Prop} (hn : n ≤ 10) (i : Int32) (h : post (dd_at (dd_st (dd_cl (dd_V1 L R B n)) 64) i 64 0 0)) : wpX_stem post (xT L R B n P pn ce rn mk) i := by
  unfold wpX_stem
  refine x_pairsAll hn fun f hf => x_stemSets fun g hg => x_memberAt ?_
  rw [dd_atX i (fun t ht => (hg t ht).trans (by rw [dd_clE hf])) 64 0 0 rfl]; exact h
/-- a corner, as the class asks it -/
def dd_co (cl : dd_S → dd_S) (t : Nat) : Bool := decide (cl (dd_n t) = dd_n t) && !decide (dd_mt (fun y => decide (y ≠ t) && dd_lg (fun y => decide (cl (dd_n y) = dd_n y)) t y) 64 = dd_n t)
theorem x_corners {post : Int32 → Prop} (hn : n ≤ 10) (h : post (nI (dd_cn (dd_co (dd_cl (dd_V1 L R B n))) 63))) : wpX_corners post (xT L R B n P pn ce rn mk) := by
  unfold wpX_corners
  refine x_pairsAll hn fun f hf => x_closedSets fun g hg => ?_
  rw [dd_clE hf] at hg
  have eg : ∀ i, i < 64 → dd_mt (fun y => decide (i < y) && dd_lg (dd_m g) i y) 64 = dd_mt (fun y => decide (y ≠ i) && dd_lg (fun y => decide (dd_cl (dd_V1 L R B n) (dd_n y) = dd_n y)) i y) 64 := fun i hi => by
    rw [dd_corner hi]
    exact dd_mtX fun y hy => by unfold dd_lg; rw [hg y hy]
  refine dd_lp (fun m i s => wX_corners_19 post g (nI n) (nI pn) (nI rn) (fun d => dd_i (L d)) (fun d => dd_i (R d)) (fun d => dd_b (B d)) (fun d => dd_i (P d)) ce mk m (nI s) (nI i)) (dd_cn (dd_co (dd_cl (dd_V1 L R B n)))) (fun _ => True) 63 0 (by decide) trivial (fun m _ => ?_) (fun m i _ hi _ ih => ?_)
  · exact br_t (nI_le (Nat.le_refl 63) (by decide)) h
  · refine br_f (nI_ge hi (by decide)) (x_isIn i (by omega) (dd_br (fun g1 => nm_r (nI_1 i) (ih _ ?_ trivial)) (fun g1 => x_meetOfLarger i (by omega) (dd_bre _ (dd_n i) (fun g2 => nm_r (nI_1 i) (ih _ ?_ trivial)) (fun g2 => nm_r (nI_1 _) (nm_r (nI_1 i) (ih _ ?_ trivial))) rfl (dd_ni (by omega))))))
    · rw [hg i (by omega)] at g1
      exact (if_neg fun z => by unfold dd_co at z; rw [g1] at z; simp at z).symm
    · rw [eg i (by omega)] at g2
      exact (if_neg fun z => by unfold dd_co at z; rw [decide_eq_true g2] at z; simp at z).symm
    · rw [hg i (by omega)] at g1
      rw [eg i (by omega)] at g2
      exact (if_pos (by unfold dd_co; rw [g1, decide_eq_false g2]; rfl)).symm
/-- third form, asked at one left side -/
def dd_t3 (p : Nat → Bool) (s : dd_S) (x : Nat) : Bool := !(dd_sB (dd_n x) s && (!dd_sB s (dd_cl p (dd_n x)) && !dd_sB ((dd_cl p (dd_n x) &&& s) &&& ~~~dd_n x) (dd_un (fun t => dd_key p s (dd_n t)) 64)))
theorem x_third {post : Int32 → Prop} (hn : n ≤ 10) (s : dd_S) (h : post (dd_b (dd_al (dd_t3 (dd_V1 L R B n) s) 64))) : wpX_third post (xT L R B n P pn ce rn mk) (dd_i s) := by
  unfold wpX_third
  refine x_isSet s (br_f (by decide) (x_pairsAll hn fun f hf => x_keysOf s fun g hg => x_unionOf ?_))
  rw [dd_unX fun t ht => (hg t ht).trans (dd_keyX hf)]
  refine dd_lp (σ := Unit) (fun m i _ => wX_third_34 post (dd_i s) f (dd_i (dd_un (fun t => dd_key (dd_V1 L R B n) s (dd_n t)) 64)) (nI n) (nI pn) (nI rn) (fun d => dd_i (L d)) (fun d => dd_i (R d)) (fun d => dd_b (B d)) (fun d => dd_i (P d)) ce mk m (nI i)) (fun _ => ()) (fun i => dd_al (dd_t3 (dd_V1 L R B n) s) i = true) 64 0 (by decide) rfl (fun m hJ => ?_) (fun m i _ hi hJ ih => ?_)
  · rw [hJ] at h
    exact br_t (nI_le (Nat.le_refl 64) (by decide)) h
  · refine br_f (nI_ge hi (by decide)) (x_isWithin (dd_n i) s (dd_br (fun g1 => nm_r (nI_1 i) (ih () rfl ?_)) (fun g1 => x_closureIn (dd_n i) (nm_r (dd_and _ _) (dd_bre _ s (fun g2 => nm_r (nI_1 i) (ih () rfl ?_)) (fun g2 => x_isWithin _ (dd_n i ||| dd_un (fun t => dd_key (dd_V1 L R B n) s (dd_n t)) 64) (dd_br (fun g3 => ?_) (fun g3 => nm_r (nI_1 i) (ih () rfl ?_))) rfl (by rw [dd_ni hi, dd_or])))) (dd_ni hi))) (dd_ni hi))
    · show (_ && _) = true
      rw [hJ]; unfold dd_t3; rw [g1]; rfl
    · rw [dd_clE hf, dd_ands] at g2
      show (_ && _) = true
      rw [hJ]; unfold dd_t3; rw [dd_sBt g2]; simp
    · rw [dd_clE hf, dd_ands] at g2
      rw [dd_clE hf] at g3
      have g3' := fun z => of_decide_eq_false g3 (dd_tform.mpr z)
      rw [dd_alF hi (by unfold dd_t3; rw [g1, dd_sBf g2, dd_sBf g3']; rfl)] at h
      exact h
    · rw [dd_clE hf] at g3
      show (_ && _) = true
      rw [hJ]; unfold dd_t3; rw [dd_sBt (dd_tform.mp (of_decide_eq_true g3))]; simp
def dd_bc (p : Nat → Bool) (s : dd_S) (x : Nat) : Bool := !(dd_sB (dd_n x) s && (!decide ((dd_cl p (dd_n x) &&& s) &&& ~~~dd_n x = 0#6) && !dd_sB s (dd_cl p (dd_n x))))
theorem x_boyce {post : Int32 → Prop} (hn : n ≤ 10) (s : dd_S) (h : post (dd_b (dd_al (dd_bc (dd_V1 L R B n) s) 64))) : wpX_boyce post (xT L R B n P pn ce rn mk) (dd_i s) := by
  unfold wpX_boyce
  refine x_isSet s (br_f (by decide) (x_pairsAll hn fun f hf => ?_))
  refine dd_lp (σ := Unit) (fun m i _ => wX_boyce_20 post (dd_i s) f (nI n) (nI pn) (nI rn) (fun d => dd_i (L d)) (fun d => dd_i (R d)) (fun d => dd_b (B d)) (fun d => dd_i (P d)) ce mk m (nI i)) (fun _ => ()) (fun i => dd_al (dd_bc (dd_V1 L R B n) s) i = true) 64 0 (by decide) rfl (fun m hJ => ?_) (fun m i _ hi hJ ih => ?_)
  · rw [hJ] at h
    exact br_t (nI_le (Nat.le_refl 64) (by decide)) h
  · refine br_f (nI_ge hi (by decide)) (x_isWithin (dd_n i) s (dd_br (fun g1 => nm_r (nI_1 i) (ih () rfl ?_)) (fun g1 => x_closureIn (dd_n i) (nm_r (dd_and _ _) (dd_bre _ s (fun g2 => nm_r (nI_1 i) (ih () rfl ?_)) (fun g2 => dd_bre _ (dd_n i) (fun g3 => nm_r (nI_1 i) (ih () rfl ?_)) (fun g3 => ?_) rfl (dd_ni hi)))) (dd_ni hi))) (dd_ni hi))
    · show (_ && _) = true
      rw [hJ]; unfold dd_bc; rw [g1]; rfl
    · rw [dd_clE hf, dd_ands] at g2
      show (_ && _) = true
      rw [hJ]; unfold dd_bc; rw [dd_sBt g2]; simp
    · rw [dd_clE hf, dd_bform (of_decide_eq_true g1) (dd_clx _ _)] at g3
      show (_ && _) = true
      rw [hJ]; unfold dd_bc; rw [decide_eq_true g3]; simp
    · rw [dd_clE hf, dd_ands] at g2
      rw [dd_clE hf, dd_bform (of_decide_eq_true g1) (dd_clx _ _)] at g3
      rw [dd_alF hi (by unfold dd_bc; rw [g1, decide_eq_false g3, dd_sBf g2]; rfl)] at h
      exact h
def dd_f4 (p : Nat → Bool) (x : Nat) : Bool := !(!decide (dd_cl p (dd_n x) = 63#6) && dd_bm p (dd_n x))
theorem dd_bmX {p q : Nat → Bool} {x : dd_S} (h : ∀ t, t < 64 → p t = q t) : dd_bm p x = dd_bm q x := by
  unfold dd_bm
  rw [dd_alX (n := 64) fun d hd => by rw [dd_aKX h]]
theorem x_fourth {post : Int32 → Prop} (hn : n ≤ 10) (h : post (dd_b (dd_al (dd_f4 (dd_V1 L R B n)) 64))) : wpX_fourth post (xT L R B n P pn ce rn mk) := by
  unfold wpX_fourth
  refine x_pairsAll hn fun f hf => ?_
  refine dd_lp (σ := Unit) (fun m i _ => wX_fourth_10 post f (nI n) (nI pn) (nI rn) (fun d => dd_i (L d)) (fun d => dd_i (R d)) (fun d => dd_b (B d)) (fun d => dd_i (P d)) ce mk m (nI i)) (fun _ => ()) (fun i => dd_al (dd_f4 (dd_V1 L R B n)) i = true) 64 0 (by decide) rfl (fun m hJ => ?_) (fun m i _ hi hJ ih => ?_)
  · rw [hJ] at h
    exact br_t (nI_le (Nat.le_refl 64) (by decide)) h
  · refine br_f (nI_ge hi (by decide)) (x_closureIn (dd_n i) (dd_bre _ 63#6 (fun g1 => nm_r (nI_1 i) (ih () rfl ?_)) (fun g1 => x_bundlesMore (dd_n i) (dd_br (fun g2 => nm_r (nI_1 i) (ih () rfl ?_)) (fun g2 => ?_)) (dd_ni hi))) (dd_ni hi))
    · rw [dd_clE hf] at g1
      show (_ && _) = true
      rw [hJ]; unfold dd_f4; rw [decide_eq_true g1]; rfl
    · rw [dd_bmX hf] at g2
      show (_ && _) = true
      rw [hJ]; unfold dd_f4; rw [g2]; simp
    · rw [dd_clE hf] at g1
      rw [dd_bmX hf] at g2
      rw [dd_alF hi (by unfold dd_f4; rw [decide_eq_false g1, g2]; rfl)] at h
      exact h
/-- needs: the choices one after another -/
def dd_ok (L R : Nat → dd_S) (B : Nat → Bool) (n : Nat) (x y : dd_S) (c : Nat) : Bool := dd_sB y (dd_cl (dd_v L R B n (fun d => c.testBit d)) x)
def dd_lst (k : Nat) : Int32 := if k = 11 then -3 else nI k
theorem dd_lst0 : ∀ k, k < 11 → ¬ dd_lst k = -3 := by decide +kernel
theorem x_needs {post : Int32 → Prop} (hn : n ≤ 10) (x y : dd_S) (h : post (dd_lst (dd_nd (dd_ok L R B n x y) (2 ^ n)))) : wpX_needs post (xT L R B n P pn ce rn mk) (dd_i x) (dd_i y) := by
  unfold wpX_needs
  refine x_isSet x (br_f (by decide) (x_isSet y (br_f (by decide) ?_)))
  refine dd_lp (fun m i s => wX_needs_22 post (dd_i x) (dd_i y) (nI n) (nI pn) (nI rn) (fun d => dd_i (L d)) (fun d => dd_i (R d)) (fun d => dd_b (B d)) (fun d => dd_i (P d)) ce mk m (dd_lst s) (nI i)) (dd_nd (dd_ok L R B n x y)) (fun _ => True) (2 ^ n) 0 (Nat.zero_le _) trivial (fun m _ => ?_) (fun m i _ hi _ ih => ?_)
  · exact pk_le (2 ^ n) (2 ^ n) (fun _ => h) (fun z => absurd z (Nat.lt_irrefl _)) (dd_2n n (by omega)) rfl (by have := dd_2n1 n (by omega); omega) (by have := dd_2n1 n (by omega); omega)
  · have h2 := dd_2n1 n (by omega)
    have hi2 : i < 1024 := by omega
    have es : dd_cn (dd_m (nI i).toInt64) 64 = dd_cn (fun t => i.testBit t) 10 := by
      rw [dd_cnX fun t ht => dd_mi (by omega) ht]; exact dd_bits hi2
    have le10 := dd_cnle (fun t => i.testBit t) 10
    have le11 := dd_ndle (dd_ok L R B n x y) i
    have go : dd_cn (fun t => i.testBit t) 10 < dd_nd (dd_ok L R B n x y) i → wX_needs_53 post (wX_needs_22 post (dd_i x) (dd_i y) (nI n) (nI pn) (nI rn) (fun d => dd_i (L d)) (fun d => dd_i (R d)) (fun d => dd_b (B d)) (fun d => dd_i (P d)) ce mk m) (dd_i x) (dd_i y) (dd_lst (dd_nd (dd_ok L R B n x y) i)) (nI i) (nI (dd_cn (fun t => i.testBit t) 10)) (nI n) (nI pn) (nI rn) (fun d => dd_i (L d)) (fun d => dd_i (R d)) (fun d => dd_b (B d)) (fun d => dd_i (P d)) ce mk := by
      intro hlt
      refine x_pairsKeeping hn i (by omega) fun f hf => x_allKeep x y false (dd_br (fun g => nm_r (nI_1 i) (ih _ ?_ trivial)) (fun g => nm_r (nI_1 i) ?_))
      · rw [dd_aKc, dd_clE hf] at g
        exact (if_neg fun z => by have z2 := z.2; unfold dd_ok at z2; rw [g] at z2; exact absurd z2 (by decide)).symm
      · rw [dd_aKc, dd_clE hf] at g
        have w := ih (dd_cn (fun t => i.testBit t) 10) (if_pos ⟨hlt, g⟩).symm trivial
        have e : dd_lst (dd_cn (fun t => i.testBit t) 10) = nI (dd_cn (fun t => i.testBit t) 10) := if_neg (by omega)
        rw [e] at w; exact w
    refine pk_le (2 ^ n) i (fun z => absurd hi (by omega)) (fun _ => x_sizeOf ?_) (dd_2n n (by omega)) rfl (by omega) (by omega)
    rw [es]
    by_cases h11 : dd_nd (dd_ok L R B n x y) i = 11
    · exact br_t (by rw [h11]; rfl) (go (by omega))
    · have e : dd_lst (dd_nd (dd_ok L R B n x y) i) = nI (dd_nd (dd_ok L R B n x y) i) := if_neg h11
      refine br_f (dd_lst0 _ (by omega)) (pk_le _ _ (fun z => nm_r (nI_1 i) (ih _ (if_neg fun w => absurd w.1 (by omega)).symm trivial)) (fun z => go z) e rfl (by omega) (by omega))
end
