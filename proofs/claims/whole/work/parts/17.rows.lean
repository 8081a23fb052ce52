/-! the table at hand, on both sides -/
theorem dd_ixX (r c : Nat) : nI r * 6 + nI c = nI (6 * r + c) := by
  show nI r * nI 6 + nI c = _
  rw [pk_mul, nI_add, Nat.mul_comm]
theorem dd_ixY (r c : Nat) : 6 * nI r + nI c = nI (6 * r + c) := by
  show nI 6 * nI r + nI c = _
  rw [pk_mul, nI_add]
theorem dd_ofT {q : Nat → Bool} {i : Nat} (h : q i = true) : dd_of q i ||| dd_e i = dd_of q (i + 1) := (if_pos h).symm
theorem dd_ofF {q : Nat → Bool} {i : Nat} (h : q i = false) : dd_of q i = dd_of q (i + 1) := (if_neg (by rw [h]; decide)).symm
/-- where rows r and s agree -/
def dd_ag (ce : Nat → Int32) (r s : Nat) : dd_S := dd_of (fun c => decide (ce (6 * r + c) = ce (6 * s + c))) 6
/-- the sets in which two rows agree, the pairs before (r, s) -/
def dd_ags (ce : Nat → Int32) (r s : Nat) (T : dd_S) : Prop := ∃ r' s', s' < r' ∧ (r' < r ∨ (r' = r ∧ s' < s)) ∧ dd_ag ce r' s' = T
theorem dd_ags1 {ce : Nat → Int32} {r s : Nat} {T : dd_S} (hs : s < r) : dd_ags ce r (s + 1) T ↔ dd_ags ce r s T ∨ dd_ag ce r s = T := by
  constructor
  · rintro ⟨r', s', h1, h2, h3⟩
    rcases h2 with h2 | ⟨h2, h4⟩
    · exact Or.inl ⟨r', s', h1, Or.inl h2, h3⟩
    · rcases Nat.lt_or_ge s' s with z | z
      · exact Or.inl ⟨r', s', h1, Or.inr ⟨h2, z⟩, h3⟩
      · rw [h2, show s' = s by omega] at h3
        exact Or.inr h3
  · rintro (⟨r', s', h1, h2, h3⟩ | h)
    · refine ⟨r', s', h1, ?_, h3⟩
      rcases h2 with h2 | ⟨h2, h4⟩
      · exact Or.inl h2
      · exact Or.inr ⟨h2, by omega⟩
    · exact ⟨r, s, hs, Or.inr ⟨rfl, by omega⟩, h⟩
theorem dd_ags2 {ce : Nat → Int32} {r : Nat} {T : dd_S} : dd_ags ce (r + 1) 0 T ↔ dd_ags ce r r T := by
  constructor
  · rintro ⟨r', s', h1, h2, h3⟩
    refine ⟨r', s', h1, ?_, h3⟩
    rcases Nat.lt_or_ge r' r with z | z
    · exact Or.inl z
    · exact Or.inr ⟨by omega, by omega⟩
  · rintro ⟨r', s', h1, h2, h3⟩
    exact ⟨r', s', h1, Or.inl (by omega), h3⟩
theorem dd_ags0 {ce : Nat → Int32} {r : Nat} (hr : r ≤ 1) {T : dd_S} : ¬ dd_ags ce r 0 T := by
  rintro ⟨r', s', h1, h2, h3⟩
  omega
noncomputable def dd_agf (ce : Nat → Int32) (rn : Nat) (t : Nat) : Bool := @decide (dd_ags ce rn 0 (dd_n t)) (Classical.propDecidable _)
theorem dd_agfI {ce : Nat → Int32} {rn t : Nat} : dd_agf ce rn t = true ↔ dd_ags ce rn 0 (dd_n t) := by
  unfold dd_agf; exact @decide_eq_true_iff _ (Classical.propDecidable _)
/-- z is the meet of the sets before (r, s) that hold x -/
def dd_kp (ce : Nat → Int32) (r s : Nat) (x z : dd_S) : Prop := ∀ c, c < 6 → (z.getLsbD c = true ↔ ∀ T, dd_ags ce r s T → dd_sub x T → T.getLsbD c = true)
theorem dd_kpE {ce : Nat → Int32} {rn : Nat} {x z : dd_S} (h : dd_kp ce rn 0 x z) : z = dd_cl (dd_agf ce rn) x := dd_clU fun c hc => by
  rw [h c hc]
  refine ⟨fun g T h1 h2 => g T ?_ h2, fun g T h1 h2 => g T ?_ h2⟩
  · have := dd_agfI.mp h1
    rwa [dd_nn] at this
  · rw [dd_agfI, dd_nn]; exact h1
def dd_mx (ce : Nat → Int32) (rn r s : Nat) (z : dd_S) : Bool := !dd_al (fun t => !(dd_sB z (dd_ag ce t r) && dd_sB (~~~z) (dd_ag ce t s))) rn
def dd_kb (ce : Nat → Int32) (rn : Nat) (x y : dd_S) (r s : Nat) : Bool := !(dd_sB x (dd_ag ce r s) && !dd_mx ce rn r s (x ||| y))
def dd_sum (f : Nat → Nat) : Nat → Nat
  | 0 => 0
  | n + 1 => dd_sum f n + f n
section
variable {L R : Nat → dd_S} {B : Nat → Bool} {n : Nat} {P : Nat → dd_S} {pn : Nat} {ce : Nat → Int32} {rn : Nat} {mk : Nat → Int32}
theorem x_agreedBy {post : Int32 → Prop} {p q : Int32} (r s : Nat) (hr : r < 6) (hs : s < 6) (h : post (dd_i (dd_ag ce r s))) (hp : p = nI r := by rfl) (hq : q = nI s := by rfl) : wpX_agreedBy post (xT L R B n P pn ce rn mk) p q := by
  subst hp hq
  refine dd_lp (fun m i z => wX_agreedBy_5 post (nI r) (nI s) (nI n) (nI pn) (nI rn) (fun d => dd_i (L d)) (fun d => dd_i (R d)) (fun d => dd_b (B d)) (fun d => dd_i (P d)) ce mk m (dd_i z) (nI i)) (dd_of (fun c => decide (ce (6 * r + c) = ce (6 * s + c)))) (fun _ => True) 6 0 (by decide) trivial (fun m _ => ?_) (fun m i _ hi _ ih => ?_)
  · exact br_t (nI_le (Nat.le_refl 6) (by decide)) h
  · refine br_f (nI_ge hi (by decide)) ⟨by rw [dd_ixX]; exact vp_in_nI (by omega) (by decide), by rw [dd_ixX]; exact vp_in_nI (by omega) (by decide),
      dd_if (d := ce (6 * r + i) = ce (6 * s + i)) (by rw [dd_ixX, dd_ixX, nI_clamp (by omega), nI_clamp (by omega)]) (fun g => nm_r (e' := dd_i (dd_of (fun c => decide (ce (6 * r + c) = ce (6 * s + c))) i ||| dd_e i)) (by rw [dd_1 i hi, dd_or]) (nm_r (nI_1 i) (ih _ (dd_ofT (decide_eq_true g)) trivial))) (fun g => nm_r (nI_1 i) (ih _ (dd_ofF (decide_eq_false g)) trivial))⟩
theorem x_agreedSets {post : Int64 → Prop} (hr : rn ≤ 6) (h : ∀ f, (∀ t, t < 64 → dd_m f t = dd_agf ce rn t) → post f) : wpX_agreedSets post (xT L R B n P pn ce rn mk) := by
  have key : ∃ m, wX_agreedSets_4 post (nI n) (nI pn) (nI rn) (fun d => dd_i (L d)) (fun d => dd_i (R d)) (fun d => dd_b (B d)) (fun d => dd_i (P d)) ce mk m 0 (nI 1) := by
    rcases Nat.lt_or_ge rn 1 with z | z
    · refine ⟨1, br_t (nI_le (by omega) (by decide)) (h 0 fun t _ => ?_)⟩
      rw [dd_mz]
      exact (ts_nt fun w => dd_ags0 (by omega) (dd_agfI.mp w)).symm
    · refine pk_loop (fun m i f => wX_agreedSets_4 post (nI n) (nI pn) (nI rn) (fun d => dd_i (L d)) (fun d => dd_i (R d)) (fun d => dd_b (B d)) (fun d => dd_i (P d)) ce mk m f (nI i)) (fun i f => ∀ T : dd_S, dd_P f T ↔ dd_ags ce i 0 T) rn 1 0 z (fun T => ⟨fun w => by unfold dd_P at w; rw [dd_mz] at w; exact absurd w (by decide), fun w => absurd w (dd_ags0 (Nat.le_refl 1))⟩) (fun m f hI => ?_) (fun m i f hi hI ih => ?_)
      · refine br_t (nI_le (Nat.le_refl rn) (by omega)) (h f fun t ht => Bool.eq_iff_iff.mpr ?_)
        rw [dd_agfI, ← hI]; unfold dd_P; rw [dd_nt ht]
      · refine br_f (nI_ge hi (by omega)) ?_
        refine pk_loop (fun m' j f => wX_agreedSets_15 post (wX_agreedSets_4 post (nI n) (nI pn) (nI rn) (fun d => dd_i (L d)) (fun d => dd_i (R d)) (fun d => dd_b (B d)) (fun d => dd_i (P d)) ce mk m) (nI i) (nI n) (nI pn) (nI rn) (fun d => dd_i (L d)) (fun d => dd_i (R d)) (fun d => dd_b (B d)) (fun d => dd_i (P d)) ce mk m' f (nI j)) (fun j f => ∀ T : dd_S, dd_P f T ↔ dd_ags ce i j T) i 0 f (Nat.zero_le i) hI (fun m' f hI2 => ?_) (fun m' j f hj hI2 ih2 => ?_)
        · exact br_t (nI_le (Nat.le_refl i) (by omega)) (nm_r (nI_1 i) (ih f fun T => (hI2 T).trans dd_ags2.symm))
        · refine br_f (nI_ge hj (by omega)) (x_agreedBy i j (by omega) (by omega) (nm_e (nm_r (nI_1 j) (ih2 _ fun T => ?_))))
          have e : dd_m (f ||| ((1 : Int64) <<< ((dd_i (dd_ag ce i j)).toInt64 &&& 63))) T.toNat = (dd_m f T.toNat || decide ((dd_ag ce i j).toNat = T.toNat)) := dd_set f (dd_nlt _) _
          rw [dd_ags1 hj, ← hI2]
          unfold dd_P
          rw [e, Bool.or_eq_true, decide_eq_true_eq]
          exact ⟨fun w => w.imp id BitVec.eq_of_toNat_eq, fun w => w.imp id fun w => by rw [w]⟩
  exact key
theorem x_keeps {post : Int32 → Prop} (hr : rn ≤ 6) (x y : dd_S) (h : post (dd_b (dd_sB y (dd_cl (dd_agf ce rn) x)))) : wpX_keeps post (xT L R B n P pn ce rn mk) (dd_i x) (dd_i y) := by
  unfold wpX_keeps
  refine x_isSet x (br_f (by decide) (x_isSet y (br_f (by decide) (x_agreedSets hr fun f hf => x_allKeep x y false ⟨dd_bn _, ?_⟩))))
  rw [dd_aKc, dd_clE hf]; exact h
theorem x_hasMixedRow {post : Int32 → Prop} {p q w : Int32} (hr : rn ≤ 6) (r s : Nat) (hr1 : r < 6) (hs1 : s < 6) (z : dd_S) (h : post (dd_b (dd_mx ce rn r s z))) (hp : p = nI r := by rfl) (hq : q = nI s := by rfl) (hw : w = dd_i z := by rfl) : wpX_hasMixedRow post (xT L R B n P pn ce rn mk) p q w := by
  subst hp hq hw
  unfold dd_mx at h
  refine dd_lp (σ := Unit) (fun m i _ => wX_hasMixedRow_3 post (nI r) (nI s) (dd_i z) (nI n) (nI pn) (nI rn) (fun d => dd_i (L d)) (fun d => dd_i (R d)) (fun d => dd_b (B d)) (fun d => dd_i (P d)) ce mk m (nI i)) (fun _ => ()) (fun i => dd_al (fun t => !(dd_sB z (dd_ag ce t r) && dd_sB (~~~z) (dd_ag ce t s))) i = true) rn 0 (Nat.zero_le rn) rfl (fun m hJ => ?_) (fun m i _ hi hJ ih => ?_)
  · rw [hJ] at h
    exact br_t (nI_le (Nat.le_refl rn) (by omega)) h
  · refine br_f (nI_ge hi (by omega)) (x_agreedBy i r (by omega) hr1 (x_agreedBy i s (by omega) hs1 (x_isWithin z (dd_ag ce i r) (dd_br (fun g => nm_r (nI_1 i) (ih () rfl (dd_alS hJ ?_))) (fun g => x_isWithin (~~~z) (dd_ag ce i s) (dd_br (fun g2 => nm_r (nI_1 i) (ih () rfl (dd_alS hJ ?_))) (fun g2 => ?_)) (dd_63n z))))))
    · rw [g]; rfl
    · rw [g2, Bool.and_false]; rfl
    · rw [dd_alF (q := fun t => !(dd_sB z (dd_ag ce t r) && dd_sB (~~~z) (dd_ag ce t s))) hi (by rw [g, g2]; rfl)] at h
      exact h
theorem x_keepsBundled {post : Int32 → Prop} (hr : rn ≤ 6) (x y : dd_S) (h : post (dd_b (dd_al (fun r => dd_al (dd_kb ce rn x y r) rn) rn))) : wpX_keepsBundled post (xT L R B n P pn ce rn mk) (dd_i x) (dd_i y) := by
  unfold wpX_keepsBundled
  refine x_isSet x (br_f (by decide) (x_isSet y (br_f (by decide) ?_)))
  refine dd_lp (σ := Unit) (fun m i _ => wX_keepsBundled_18 post (dd_i x) (dd_i y) (nI n) (nI pn) (nI rn) (fun d => dd_i (L d)) (fun d => dd_i (R d)) (fun d => dd_b (B d)) (fun d => dd_i (P d)) ce mk m (nI i)) (fun _ => ()) (fun i => dd_al (fun r => dd_al (dd_kb ce rn x y r) rn) i = true) rn 0 (Nat.zero_le rn) rfl (fun m hJ => ?_) (fun m i _ hi hJ ih => ?_)
  · rw [hJ] at h
    exact br_t (nI_le (Nat.le_refl rn) (by omega)) h
  · refine br_f (nI_ge hi (by omega)) ?_
    refine dd_lp (σ := Unit) (fun m' j _ => wX_keepsBundled_29 post (wX_keepsBundled_18 post (dd_i x) (dd_i y) (nI n) (nI pn) (nI rn) (fun d => dd_i (L d)) (fun d => dd_i (R d)) (fun d => dd_b (B d)) (fun d => dd_i (P d)) ce mk m) (dd_i x) (dd_i y) (nI i) (nI n) (nI pn) (nI rn) (fun d => dd_i (L d)) (fun d => dd_i (R d)) (fun d => dd_b (B d)) (fun d => dd_i (P d)) ce mk m' (nI j)) (fun _ => ()) (fun j => dd_al (dd_kb ce rn x y i) j = true) rn 0 (Nat.zero_le rn) rfl (fun m' hJ2 => ?_) (fun m' j _ hj hJ2 ih2 => ?_)
    · exact br_t (nI_le (Nat.le_refl rn) (by omega)) (nm_r (nI_1 i) (ih () rfl (dd_alS hJ hJ2)))
    · refine br_f (nI_ge hj (by omega)) (x_agreedBy i j (by omega) (by omega) (x_isWithin x (dd_ag ce i j) (dd_br (fun g => nm_r (nI_1 j) (ih2 () rfl (dd_alS hJ2 ?_))) (fun g => x_hasMixedRow hr i j (by omega) (by omega) (x ||| y) (dd_br (fun g2 => ?_) (fun g2 => nm_r (nI_1 j) (ih2 () rfl (dd_alS hJ2 ?_)))) rfl rfl (dd_or x y)))))
      · unfold dd_kb; rw [g]; rfl
      · rw [dd_alF (q := fun r => dd_al (dd_kb ce rn x y r) rn) hi (dd_alF hj (by unfold dd_kb; rw [g, g2]; rfl))] at h
        exact h
      · unfold dd_kb; rw [g2]; simp
theorem x_discovered {post : Int32 → Prop} (hr : rn ≤ 6) (h : post (nI (dd_sum (fun x => dd_cn (dd_ds (dd_cl (dd_agf ce rn)) (dd_n x)) 6) 64))) : wpX_discovered post (xT L R B n P pn ce rn mk) := by
  unfold wpX_discovered
  refine x_agreedSets hr fun f hf => ?_
  refine dd_lp (fun m i s => wX_discovered_10 post f (nI n) (nI pn) (nI rn) (fun d => dd_i (L d)) (fun d => dd_i (R d)) (fun d => dd_b (B d)) (fun d => dd_i (P d)) ce mk m (nI s) (nI i)) (dd_sum (fun x => dd_cn (dd_ds (dd_cl (dd_agf ce rn)) (dd_n x)) 6)) (fun _ => True) 64 0 (by decide) trivial (fun m _ => ?_) (fun m i _ hi _ ih => ?_)
  · exact br_t (nI_le (Nat.le_refl 64) (by decide)) h
  · refine br_f (nI_ge hi (by decide)) (x_closureIn (dd_n i) (nm_r (e' := dd_i (dd_cl (dd_m f) (dd_n i) &&& ~~~dd_n i)) (by rw [dd_ni hi, dd_andn]) (x_reachedFromLess (dd_n i) (x_sizeOf ?_) (dd_ni hi))) (dd_ni hi))
    rw [dd_andn, dd_cnX fun t ht => dd_mS _ ht, dd_dsc, dd_clE hf]
    exact nm_r (nI_add _ _) (nm_r (nI_1 i) (ih _ rfl trivial))
theorem x_agreements {post : Int32 → Prop} (hr : rn ≤ 6) (h : post (nI (dd_cn (dd_agf ce rn) 64))) : wpX_agreements post (xT L R B n P pn ce rn mk) := by
  unfold wpX_agreements
  refine x_agreedSets hr fun f hf => x_sizeOf ?_
  rw [dd_cnX hf]; exact h
theorem x_exact {post : Int32 → Prop} (hn : n ≤ 10) (hr : rn ≤ 6) (h : post (dd_b (dd_al (fun x => decide (dd_cl (dd_V1 L R B n) (dd_n x) = dd_cl (dd_agf ce rn) (dd_n x))) 64))) : wpX_exact post (xT L R B n P pn ce rn mk) := by
  unfold wpX_exact
  refine x_pairsAll hn fun f hf => x_agreedSets hr fun g hg => ?_
  refine dd_lp (σ := Unit) (fun m i _ => wX_exact_16 post f g (nI n) (nI pn) (nI rn) (fun d => dd_i (L d)) (fun d => dd_i (R d)) (fun d => dd_b (B d)) (fun d => dd_i (P d)) ce mk m (nI i)) (fun _ => ()) (fun i => dd_al (fun x => decide (dd_cl (dd_V1 L R B n) (dd_n x) = dd_cl (dd_agf ce rn) (dd_n x))) i = true) 64 0 (by decide) rfl (fun m hJ => ?_) (fun m i _ hi hJ ih => ?_)
  · rw [hJ] at h
    exact br_t (nI_le (Nat.le_refl 64) (by decide)) h
  · refine br_f (nI_ge hi (by decide)) (x_closureIn (dd_n i) (x_closureIn (dd_n i) (dd_bre _ _ (fun g1 => nm_r (nI_1 i) (ih () rfl (dd_alS hJ ?_))) (fun g1 => ?_)) (dd_ni hi)) (dd_ni hi))
    · rw [dd_clE hf, dd_clE hg] at g1
      exact decide_eq_true g1
    · rw [dd_clE hf, dd_clE hg] at g1
      rw [dd_alF (q := fun x => decide (dd_cl (dd_V1 L R B n) (dd_n x) = dd_cl (dd_agf ce rn) (dd_n x))) hi (decide_eq_false g1)] at h
      exact h
end
section
variable {L R : Nat → dd_S} {B : Nat → Bool} {n : Nat} {P : Nat → dd_S} {pn : Nat} {ce : Nat → Int32} {rn : Nat} {sm : Int32} {md : Int64} {kn cs : Nat → Int32} {tb : Nat → Int64} {st sy : Nat → Int32}
theorem y_agreement {post : Int32 → Prop} {p q : Int32} (r s : Nat) (hr : r < 6) (hs : s < 6) (h : post (dd_i (dd_ag ce r s))) (hp : p = nI r := by rfl) (hq : q = nI s := by rfl) : wpY_agreement post (yT L R B n P pn ce rn sm md kn cs tb st sy) p q := by
  subst hp hq
  refine dd_lp (fun m i z => wY_agreement_5 post (nI r) (nI s) (nI n) (nI pn) (nI rn) sm md (fun d => dd_i (L d)) (fun d => dd_i (R d)) (fun d => dd_b (B d)) (fun d => dd_i (P d)) ce kn cs tb st sy m (dd_i z) (nI i)) (dd_of (fun c => decide (ce (6 * r + c) = ce (6 * s + c)))) (fun _ => True) 6 0 (by decide) trivial (fun m _ => ?_) (fun m i _ hi _ ih => ?_)
  · exact br_t (nI_le (Nat.le_refl 6) (by decide)) h
  · refine br_f (nI_ge hi (by decide)) ⟨by rw [dd_ixY]; exact vp_in_nI (by omega) (by decide), by rw [dd_ixY]; exact vp_in_nI (by omega) (by decide),
      dd_if (d := ce (6 * r + i) = ce (6 * s + i)) (by rw [dd_ixY, dd_ixY, nI_clamp (by omega), nI_clamp (by omega)]) (fun g => nm_r (e' := dd_i (dd_of (fun c => decide (ce (6 * r + c) = ce (6 * s + c))) i ||| dd_e i)) (by rw [dd_1 i hi, dd_or]) (nm_r (nI_1 i) (ih _ (dd_ofT (decide_eq_true g)) trivial))) (fun g => nm_r (nI_1 i) (ih _ (dd_ofF (decide_eq_false g)) trivial))⟩
theorem y_keptBy {post : Int32 → Prop} {p : Int32} (hr : rn ≤ 6) (x : dd_S) (h : post (dd_i (dd_cl (dd_agf ce rn) x))) (hp : p = dd_i x := by rfl) : wpY_keptBy post (yT L R B n P pn ce rn sm md kn cs tb st sy) p := by
  subst hp
  refine pk_loop (fun m i z => wY_keptBy_5 post (dd_i x) (nI n) (nI pn) (nI rn) sm md (fun d => dd_i (L d)) (fun d => dd_i (R d)) (fun d => dd_b (B d)) (fun d => dd_i (P d)) ce kn cs tb st sy m (dd_i z) (nI i)) (fun i z => dd_kp ce i 0 x z) rn 0 63#6 (Nat.zero_le rn) (fun c hc => ⟨fun _ T hT => absurd hT (dd_ags0 (Nat.zero_le 1)), fun _ => (by decide : ∀ c, c < 6 → (63#6).getLsbD c = true) c hc⟩) (fun m z hI => ?_) (fun m i z hi hI ih => ?_)
  · rw [← dd_kpE hI] at h
    exact br_t (nI_le (Nat.le_refl rn) (by omega)) h
  · refine br_f (nI_ge hi (by omega)) ?_
    refine pk_loop (fun m' j z => wY_keptBy_16 post (wY_keptBy_5 post (dd_i x) (nI n) (nI pn) (nI rn) sm md (fun d => dd_i (L d)) (fun d => dd_i (R d)) (fun d => dd_b (B d)) (fun d => dd_i (P d)) ce kn cs tb st sy m) (dd_i x) (nI i) (nI n) (nI pn) (nI rn) sm md (fun d => dd_i (L d)) (fun d => dd_i (R d)) (fun d => dd_b (B d)) (fun d => dd_i (P d)) ce kn cs tb st sy m' (dd_i z) (nI j)) (fun j z => dd_kp ce i j x z) i 0 z (Nat.zero_le i) hI (fun m' z hI2 => ?_) (fun m' j z hj hI2 ih2 => ?_)
    · exact br_t (nI_le (Nat.le_refl i) (by omega)) (nm_r (nI_1 i) (ih z fun c hc => (hI2 c hc).trans ⟨fun g T hT => g T (dd_ags2.mp hT), fun g T hT => g T (dd_ags2.mpr hT)⟩))
    · refine br_f (nI_ge hj (by omega)) (y_agreement i j (by omega) (by omega) (dd_brs x (dd_ag ce i j) (fun g => nm_r (dd_and _ _) (nm_r (nI_1 j) (ih2 _ fun c hc => ?_))) (fun g => nm_r (nI_1 j) (ih2 _ fun c hc => ?_))))
      · rw [BitVec.getLsbD_and, Bool.and_eq_true, hI2 c hc]
        constructor
        · rintro ⟨h1, h2⟩ T hT hx
          rcases (dd_ags1 hj).mp hT with w | w
          · exact h1 T w hx
          · rw [← w]; exact h2
        · exact fun h => ⟨fun T hT hx => h T ((dd_ags1 hj).mpr (Or.inl hT)) hx, h _ ((dd_ags1 hj).mpr (Or.inr rfl)) g⟩
      · rw [hI2 c hc]
        constructor
        · intro h1 T hT hx
          rcases (dd_ags1 hj).mp hT with w | w
          · exact h1 T w hx
          · rw [w] at g; exact absurd hx g
        · exact fun h T hT hx => h T ((dd_ags1 hj).mpr (Or.inl hT)) hx
theorem y_keeps {post : Int32 → Prop} (hr : rn ≤ 6) (x y : dd_S) (h : post (dd_b (dd_sB y (dd_cl (dd_agf ce rn) x)))) : wpY_keeps post (yT L R B n P pn ce rn sm md kn cs tb st sy) (dd_i x) (dd_i y) := by
  unfold wpY_keeps
  exact y_isSet x (br_f (by decide) (y_isSet y (br_f (by decide) (y_keptBy hr x (dd_brs y _ (fun g => by rw [dd_sBt g] at h; exact h) (fun g => by rw [dd_sBf g] at h; exact h))))))
theorem y_hasMixed {post : Int32 → Prop} {p q w w2 : Int32} (hr : rn ≤ 6) (r s : Nat) (hr1 : r < 6) (hs1 : s < 6) (x y : dd_S) (h : post (dd_b (dd_mx ce rn r s (x ||| y)))) (hp : p = nI r := by rfl) (hq : q = nI s := by rfl) (hw : w = dd_i x := by rfl) (hw2 : w2 = dd_i y := by rfl) : wpY_hasMixed post (yT L R B n P pn ce rn sm md kn cs tb st sy) p q w w2 := by
  subst hp hq hw hw2
  unfold dd_mx at h
  refine dd_lp (σ := Unit) (fun m i _ => wY_hasMixed_3 post (nI r) (nI s) (dd_i x) (dd_i y) (nI n) (nI pn) (nI rn) sm md (fun d => dd_i (L d)) (fun d => dd_i (R d)) (fun d => dd_b (B d)) (fun d => dd_i (P d)) ce kn cs tb st sy m (nI i)) (fun _ => ()) (fun i => dd_al (fun t => !(dd_sB (x ||| y) (dd_ag ce t r) && dd_sB (~~~(x ||| y)) (dd_ag ce t s))) i = true) rn 0 (Nat.zero_le rn) rfl (fun m hJ => ?_) (fun m i _ hi hJ ih => ?_)
  · rw [hJ] at h
    exact br_t (nI_le (Nat.le_refl rn) (by omega)) h
  · refine br_f (nI_ge hi (by omega)) (y_agreement i r (by omega) hr1 (dd_brs (x ||| y) (dd_ag ce i r) (fun g => y_agreement i s (by omega) hs1 (dd_brs (~~~(x ||| y)) (dd_ag ce i s) (fun g2 => br_f (by decide) (br_f (by decide) ?_)) (fun g2 => br_f (by decide) (br_t rfl (nm_r (nI_1 i) (ih () rfl (dd_alS hJ ?_))))) (by rw [dd_or, dd_63n]))) (fun g => y_agreement i s (by omega) hs1 (br_c (fun g2 => br_t rfl (nm_r (nI_1 i) (ih () rfl (dd_alS hJ ?_)))) (fun g2 => br_t rfl (nm_r (nI_1 i) (ih () rfl (dd_alS hJ ?_)))))) (dd_or x y)))
    · rw [dd_alF (q := fun t => !(dd_sB (x ||| y) (dd_ag ce t r) && dd_sB (~~~(x ||| y)) (dd_ag ce t s))) hi (by rw [dd_sBt g, dd_sBt g2]; rfl)] at h
      exact h
    · rw [dd_sBf g2, Bool.and_false]; rfl
    · rw [dd_sBf g]; rfl
    · rw [dd_sBf g]; rfl
theorem y_keepsBundled {post : Int32 → Prop} (hr : rn ≤ 6) (x y : dd_S) (h : post (dd_b (dd_al (fun r => dd_al (dd_kb ce rn x y r) rn) rn))) : wpY_keepsBundled post (yT L R B n P pn ce rn sm md kn cs tb st sy) (dd_i x) (dd_i y) := by
  unfold wpY_keepsBundled
  refine y_isSet x (br_f (by decide) (y_isSet y (br_f (by decide) ?_)))
  refine dd_lp (σ := Unit) (fun m i _ => wY_keepsBundled_20 post (dd_i x) (dd_i y) (nI n) (nI pn) (nI rn) sm md (fun d => dd_i (L d)) (fun d => dd_i (R d)) (fun d => dd_b (B d)) (fun d => dd_i (P d)) ce kn cs tb st sy m (nI i)) (fun _ => ()) (fun i => dd_al (fun r => dd_al (dd_kb ce rn x y r) rn) i = true) rn 0 (Nat.zero_le rn) rfl (fun m hJ => ?_) (fun m i _ hi hJ ih => ?_)
  · rw [hJ] at h
    exact br_t (nI_le (Nat.le_refl rn) (by omega)) h
  · refine br_f (nI_ge hi (by omega)) ?_
    refine dd_lp (σ := Unit) (fun m' j _ => wY_keepsBundled_31 post (wY_keepsBundled_20 post (dd_i x) (dd_i y) (nI n) (nI pn) (nI rn) sm md (fun d => dd_i (L d)) (fun d => dd_i (R d)) (fun d => dd_b (B d)) (fun d => dd_i (P d)) ce kn cs tb st sy m) (dd_i x) (dd_i y) (nI i) (nI n) (nI pn) (nI rn) sm md (fun d => dd_i (L d)) (fun d => dd_i (R d)) (fun d => dd_b (B d)) (fun d => dd_i (P d)) ce kn cs tb st sy m' (nI j)) (fun _ => ()) (fun j => dd_al (dd_kb ce rn x y i) j = true) rn 0 (Nat.zero_le rn) rfl (fun m' hJ2 => ?_) (fun m' j _ hj hJ2 ih2 => ?_)
    · exact br_t (nI_le (Nat.le_refl rn) (by omega)) (nm_r (nI_1 i) (ih () rfl (dd_alS hJ hJ2)))
    · refine br_f (nI_ge hj (by omega)) (y_agreement i j (by omega) (by omega) (dd_brs x (dd_ag ce i j) (fun g => y_hasMixed hr i j (by omega) (by omega) x y (dd_br (fun g2 => ?_) (fun g2 => nm_r (nI_1 j) (ih2 () rfl (dd_alS hJ2 ?_))))) (fun g => nm_r (nI_1 j) (ih2 () rfl (dd_alS hJ2 ?_)))))
      · rw [dd_alF (q := fun r => dd_al (dd_kb ce rn x y r) rn) hi (dd_alF hj (by unfold dd_kb; rw [dd_sBt g, g2]; rfl))] at h
        exact h
      · unfold dd_kb; rw [g2]; simp
      · unfold dd_kb; rw [dd_sBf g]; rfl
theorem y_isLeast {post : Int32 → Prop} {p q : Int32} (hr : rn ≤ 6) (x : dd_S) (c : Nat) (hc : c < 6) (h : post (dd_b (dd_al (fun k => !(x.getLsbD k && (dd_cl (dd_agf ce rn) (x &&& ~~~dd_e k)).getLsbD c)) 6))) (hp : p = dd_i x := by rfl) (hq : q = nI c := by rfl) : wpY_isLeast post (yT L R B n P pn ce rn sm md kn cs tb st sy) p q := by
  subst hp hq
  refine dd_lp (σ := Unit) (fun m i _ => wY_isLeast_2 post (dd_i x) (nI c) (nI n) (nI pn) (nI rn) sm md (fun d => dd_i (L d)) (fun d => dd_i (R d)) (fun d => dd_b (B d)) (fun d => dd_i (P d)) ce kn cs tb st sy m (nI i)) (fun _ => ()) (fun i => dd_al (fun k => !(x.getLsbD k && (dd_cl (dd_agf ce rn) (x &&& ~~~dd_e k)).getLsbD c)) i = true) 6 0 (by decide) rfl (fun m hJ => ?_) (fun m i _ hi hJ ih => ?_)
  · rw [hJ] at h
    exact br_t (nI_le (Nat.le_refl 6) (by decide)) h
  · refine br_f (nI_ge hi (by decide)) (nm_r (e' := dd_i (x &&& ~~~dd_e i)) (by rw [dd_1 i hi, dd_andn]) (dd_bre _ x (fun g => nm_r (nI_1 i) (ih () rfl (dd_alS hJ ?_))) (fun g => y_keptBy hr (x &&& ~~~dd_e i) (dd_brb _ c (by omega) (fun g2 => ?_) (fun g2 => nm_r (nI_1 i) (ih () rfl (dd_alS hJ ?_)))))))
    · rw [dd_less hi] at g
      rw [g]; rfl
    · have g' : x.getLsbD i = true := ts_nf fun z => g ((dd_less hi).mpr z)
      rw [dd_alF (q := fun k => !(x.getLsbD k && (dd_cl (dd_agf ce rn) (x &&& ~~~dd_e k)).getLsbD c)) hi (by rw [g', g2]; rfl)] at h
      exact h
    · rw [g2, Bool.and_false]; rfl
theorem y_discovered {post : Int32 → Prop} (hr : rn ≤ 6) (h : post (nI (dd_sum (fun x => dd_cn (dd_ds (dd_cl (dd_agf ce rn)) (dd_n x)) 6) 64))) : wpY_discovered post (yT L R B n P pn ce rn sm md kn cs tb st sy) := by
  refine dd_lp (fun m i s => wY_discovered_4 post (nI n) (nI pn) (nI rn) sm md (fun d => dd_i (L d)) (fun d => dd_i (R d)) (fun d => dd_b (B d)) (fun d => dd_i (P d)) ce kn cs tb st sy m (nI s) (nI i)) (dd_sum (fun x => dd_cn (dd_ds (dd_cl (dd_agf ce rn)) (dd_n x)) 6)) (fun _ => True) 64 0 (by decide) trivial (fun m _ => ?_) (fun m i _ hi _ ih => ?_)
  · exact br_t (nI_le (Nat.le_refl 64) (by decide)) h
  · refine br_f (nI_ge hi (by decide)) ?_
    refine dd_lp (fun m' c s => wY_discovered_12 post (wY_discovered_4 post (nI n) (nI pn) (nI rn) sm md (fun d => dd_i (L d)) (fun d => dd_i (R d)) (fun d => dd_b (B d)) (fun d => dd_i (P d)) ce kn cs tb st sy m) (nI i) (nI n) (nI pn) (nI rn) sm md (fun d => dd_i (L d)) (fun d => dd_i (R d)) (fun d => dd_b (B d)) (fun d => dd_i (P d)) ce kn cs tb st sy m' (nI s) (nI c)) (fun c => dd_sum (fun x => dd_cn (dd_ds (dd_cl (dd_agf ce rn)) (dd_n x)) 6) i + dd_cn (dd_ds (dd_cl (dd_agf ce rn)) (dd_n i)) c) (fun _ => True) 6 0 (by decide) trivial (fun m' _ => ?_) (fun m' c _ hc _ ih2 => ?_)
    · exact br_t (nI_le (Nat.le_refl 6) (by decide)) (nm_r (nI_1 i) (ih _ rfl trivial))
    · have no : dd_ds (dd_cl (dd_agf ce rn)) (dd_n i) c = false → wY_discovered_12 post (wY_discovered_4 post (nI n) (nI pn) (nI rn) sm md (fun d => dd_i (L d)) (fun d => dd_i (R d)) (fun d => dd_b (B d)) (fun d => dd_i (P d)) ce kn cs tb st sy m) (nI i) (nI n) (nI pn) (nI rn) sm md (fun d => dd_i (L d)) (fun d => dd_i (R d)) (fun d => dd_b (B d)) (fun d => dd_i (P d)) ce kn cs tb st sy m' (nI (dd_sum (fun x => dd_cn (dd_ds (dd_cl (dd_agf ce rn)) (dd_n x)) 6) i + dd_cn (dd_ds (dd_cl (dd_agf ce rn)) (dd_n i)) c)) (nI (c + 1)) := fun z => ih2 _ (by rw [dd_cnF z]) trivial
      refine br_f (nI_ge hc (by decide)) (dd_if (d := (dd_n i).getLsbD c = false) (by rw [dd_ni hi, dd_bit _ (by omega), dd_b0]) (fun g => y_keptBy hr (dd_n i) (dd_brb _ c (by omega) (fun g2 => br_f (by decide) (y_isLeast hr (dd_n i) c hc (dd_br (fun g3 => nm_r (nI_1 c) (no ?_)) (fun g3 => nm_r (nI_1 _) (nm_r (nI_1 c) (ih2 _ ?_ trivial)))) (dd_ni hi))) (fun g2 => br_t rfl (nm_r (nI_1 c) (no ?_)))) (dd_ni hi)) (fun g => br_t rfl (nm_r (nI_1 c) (no ?_))))
      · unfold dd_ds; rw [g3, Bool.and_false]
      · have e : dd_ds (dd_cl (dd_agf ce rn)) (dd_n i) c = true := by unfold dd_ds; rw [g, g2, g3]; rfl
        rw [← dd_cnT e, Nat.add_assoc]
      · unfold dd_ds; rw [g2, Bool.and_false, Bool.false_and]
      · unfold dd_ds; rw [ts_nf g]; rfl
theorem y_agreements {post : Int32 → Prop} (hr : rn ≤ 6) (h : post (nI (dd_cn (dd_agf ce rn) 64))) : wpY_agreements post (yT L R B n P pn ce rn sm md kn cs tb st sy) := by
  refine pk_loop (fun m i f => wY_agreements_4 post (nI n) (nI pn) (nI rn) sm md (fun d => dd_i (L d)) (fun d => dd_i (R d)) (fun d => dd_b (B d)) (fun d => dd_i (P d)) ce kn cs tb st sy m f (nI i)) (fun i f => ∀ T : dd_S, dd_P f T ↔ dd_ags ce i 0 T) rn 0 0 (Nat.zero_le rn) (fun T => ⟨fun w => by unfold dd_P at w; rw [dd_mz] at w; exact absurd w (by decide), fun w => absurd w (dd_ags0 (Nat.zero_le 1))⟩) (fun m f hI => ?_) (fun m i f hi hI ih => ?_)
  · refine br_t (nI_le (Nat.le_refl rn) (by omega)) ?_
    have hf : ∀ t, t < 64 → dd_m f t = dd_agf ce rn t := fun t ht => Bool.eq_iff_iff.mpr (by rw [dd_agfI, ← hI]; unfold dd_P; rw [dd_nt ht])
    rw [← dd_cnX hf] at h
    refine dd_lp (fun m i s => wY_agreements_50 post f (nI n) (nI pn) (nI rn) sm md (fun d => dd_i (L d)) (fun d => dd_i (R d)) (fun d => dd_b (B d)) (fun d => dd_i (P d)) ce kn cs tb st sy m (nI s) (nI i)) (dd_cn (dd_m f)) (fun _ => True) 64 0 (by decide) trivial (fun m _ => ?_) (fun m i _ hi _ ih => ?_)
    · exact br_t (nI_le (Nat.le_refl 64) (by decide)) h
    · exact br_f (nI_ge hi (by decide)) (nm_r (e' := nI (dd_cn (dd_m f) (i + 1))) (by rw [dd_mI f hi, dd_addb]; rfl) (nm_r (nI_1 i) (ih _ rfl trivial)))
  · refine br_f (nI_ge hi (by omega)) ?_
    refine pk_loop (fun m' j f => wY_agreements_15 post (wY_agreements_4 post (nI n) (nI pn) (nI rn) sm md (fun d => dd_i (L d)) (fun d => dd_i (R d)) (fun d => dd_b (B d)) (fun d => dd_i (P d)) ce kn cs tb st sy m) (nI i) (nI n) (nI pn) (nI rn) sm md (fun d => dd_i (L d)) (fun d => dd_i (R d)) (fun d => dd_b (B d)) (fun d => dd_i (P d)) ce kn cs tb st sy m' f (nI j)) (fun j f => ∀ T : dd_S, dd_P f T ↔ dd_ags ce i j T) i 0 f (Nat.zero_le i) hI (fun m' f hI2 => ?_) (fun m' j f hj hI2 ih2 => ?_)
    · exact br_t (nI_le (Nat.le_refl i) (by omega)) (nm_r (nI_1 i) (ih f fun T => (hI2 T).trans dd_ags2.symm))
    · refine br_f (nI_ge hj (by omega)) (y_agreement i j (by omega) (by omega) (nm_e (nm_r (nI_1 j) (ih2 _ fun T => ?_))))
      have e : dd_m (f ||| ((1 : Int64) <<< ((dd_i (dd_ag ce i j)).toInt64 &&& 63))) T.toNat = (dd_m f T.toNat || decide ((dd_ag ce i j).toNat = T.toNat)) := dd_set f (dd_nlt _) _
      rw [dd_ags1 hj, ← hI2]
      unfold dd_P
      rw [e, Bool.or_eq_true, decide_eq_true_eq]
      exact ⟨fun w => w.imp id BitVec.eq_of_toNat_eq, fun w => w.imp id fun w => by rw [w]⟩
theorem y_exact {post : Int32 → SY → Prop} {v : SY} (hn : n ≤ 10) (hr : rn ≤ 6) (hv : yO L R B n P pn ce rn st sy v)
    (h : ∀ v', yO L R B n P pn ce rn st sy v' → post (dd_b (dd_al (fun x => decide (dd_cl (dd_V1 L R B n) (dd_n x) = dd_cl (dd_agf ce rn) (dd_n x))) 64)) v') : wpY_exact post v := by
  obtain ⟨sm, md, kn, cs, tb, hM, rfl⟩ := hv
  refine yl (τ := Unit) (fun m i _ v => yc (wY_exact_2 post m (nI i)) v) (fun _ => ()) (fun i => dd_al (fun x => decide (dd_cl (dd_V1 L R B n) (dd_n x) = dd_cl (dd_agf ce rn) (dd_n x))) i = true) (yO L R B n P pn ce rn st sy) 64 (yT L R B n P pn ce rn sm md kn cs tb st sy) ⟨sm, md, kn, cs, tb, hM, rfl⟩ rfl (fun m v hO hJ => ?_) (fun m i v hi hO hJ ih => ?_)
  · obtain ⟨sm, md, kn, cs, tb, hM, rfl⟩ := hO
    have w := h (yT L R B n P pn ce rn sm md kn cs tb st sy) ⟨sm, md, kn, cs, tb, hM, rfl⟩
    rw [hJ] at w
    exact br_t (nI_le (Nat.le_refl 64) (by decide)) w
  · obtain ⟨sm, md, kn, cs, tb, hM, rfl⟩ := hO
    refine br_f (nI_ge hi (by decide)) (y_closureOf hn (dd_n i) ⟨sm, md, kn, cs, tb, hM, rfl⟩ (fun v' hv' => ?_) (dd_ni hi))
    obtain ⟨sm', md', kn', cs', tb', hM', rfl⟩ := hv'
    refine y_keptBy hr (dd_n i) (dd_bre _ _ (fun g1 => nm_r (nI_1 i) (ih () (yT L R B n P pn ce rn sm' md' kn' cs' tb' st sy) rfl ⟨sm', md', kn', cs', tb', hM', rfl⟩ (dd_alS hJ (decide_eq_true g1)))) (fun g1 => ?_)) (dd_ni hi)
    have w := h (yT L R B n P pn ce rn sm' md' kn' cs' tb' st sy) ⟨sm', md', kn', cs', tb', hM', rfl⟩
    rw [dd_alF (q := fun x => decide (dd_cl (dd_V1 L R B n) (dd_n x) = dd_cl (dd_agf ce rn) (dd_n x))) hi (decide_eq_false g1)] at w
    exact w
end
