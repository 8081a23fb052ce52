/-! the class's families: keys, closed sets, stems; what x bundles; what less reaches -/
def dd_fam (i : Nat) (q : Nat → Bool) (g : Int64) : Prop := ∀ t, t < 64 → dd_m g t = (decide (t < i) && q t)
theorem dd_fam0 (q : Nat → Bool) : dd_fam 0 q 0 := fun t _ => by rw [dd_mz]; simp
theorem dd_famN {i : Nat} {q : Nat → Bool} {g : Int64} (h : dd_fam i q g) (hq : q i = false) : dd_fam (i + 1) q g := fun t ht => by
  rw [h t ht]
  by_cases e : t = i
  · subst e; rw [hq]; simp
  · by_cases z : t < i
    · rw [decide_eq_true z, decide_eq_true (show t < i + 1 by omega)]
    · rw [decide_eq_false z, decide_eq_false (show ¬ t < i + 1 by omega)]
theorem dd_famA {i : Nat} {q : Nat → Bool} {g g' : Int64} (h : dd_fam i q g) (hq : q i = true) (hg : ∀ t, t < 64 → dd_m g' t = (dd_m g t || decide (i = t))) : dd_fam (i + 1) q g' := fun t ht => by
  rw [hg t ht, h t ht]
  by_cases e : i = t
  · subst e; rw [hq]; simp
  · rw [decide_eq_false e, Bool.or_false]
    by_cases z : t < i
    · rw [decide_eq_true z, decide_eq_true (show t < i + 1 by omega)]
    · rw [decide_eq_false z, decide_eq_false (show ¬ t < i + 1 by omega)]
theorem dd_famE {q : Nat → Bool} {g : Int64} (h : dd_fam 64 q g) : ∀ t, t < 64 → dd_m g t = q t := fun t ht => by rw [h t ht, decide_eq_true ht, Bool.true_and]
theorem x_isKeyOf {post : Int32 → Prop} {f : Int64} {p q : Int32} (x s : dd_S)
    (h : post (dd_b (dd_sB s (dd_cl (dd_m f) x) && dd_al (fun c => !(x.getLsbD c && dd_sB s (dd_cl (dd_m f) (x &&& ~~~dd_e c)))) 6)))
    (hp : p = dd_i x := by rfl) (hq : q = dd_i s := by rfl) : wpX_isKeyOf post f p q := by
  subst hp hq
  refine x_closureIn x (dd_if (d := dd_sub s (dd_cl (dd_m f) x)) (by rw [dd_and, dd_iinj, dd_ands]) (fun g => ?_) (fun g => ?_))
  · rw [dd_sBt g, Bool.true_and] at h
    refine dd_lp (σ := Unit) (fun n i _ => wX_isKeyOf_16 post f (dd_i x) (dd_i s) n (nI i)) (fun _ => ()) (fun i => dd_al (fun c => !(x.getLsbD c && dd_sB s (dd_cl (dd_m f) (x &&& ~~~dd_e c)))) i = true) 6 0 (by decide) rfl (fun n hJ => ?_) (fun n i _ hi hJ ih => ?_)
    · rw [hJ] at h
      exact br_t (nI_le (Nat.le_refl 6) (by decide)) h
    · refine br_f (nI_ge hi (by decide)) (x_isInS x i (by omega) (dd_br (fun g1 => nm_r (nI_1 i) (ih () rfl ?_)) (fun g1 => x_closureIn (x &&& ~~~dd_e i) (dd_if (d := dd_sub s (dd_cl (dd_m f) (x &&& ~~~dd_e i))) (by rw [dd_and, dd_iinj, dd_ands]) (fun g2 => ?_) (fun g2 => nm_r (nI_1 i) (ih () rfl ?_))) (by rw [dd_1 i hi, dd_andn]))))
      · show (_ && _) = true
        dsimp only
        rw [hJ, g1]; rfl
      · rw [dd_alF (q := fun c => !(x.getLsbD c && dd_sB s (dd_cl (dd_m f) (x &&& ~~~dd_e c)))) hi (by rw [g1, dd_sBt g2]; rfl)] at h
        exact h
      · show (_ && _) = true
        dsimp only
        rw [hJ, g1, dd_sBf g2]; rfl
  · rw [dd_sBf g] at h; exact h
theorem x_keysOf {post : Int64 → Prop} {f : Int64} {p : Int32} (s : dd_S) (h : ∀ g, (∀ t, t < 64 → dd_m g t = dd_key (dd_m f) s (dd_n t)) → post g) (hp : p = dd_i s := by rfl) : wpX_keysOf post f p := by
  subst hp
  refine pk_loop (fun n i g => wX_keysOf_5 post f (dd_i s) n g (nI i)) (fun i g => dd_fam i (fun t => dd_key (dd_m f) s (dd_n t)) g) 64 0 0 (by decide) (dd_fam0 _) (fun n g hI => ?_) (fun n i g hi hI ih => ?_)
  · exact br_t (nI_le (Nat.le_refl 64) (by decide)) (h g (dd_famE hI))
  · refine br_f (nI_ge hi (by decide)) (x_isWithin (dd_n i) s (dd_br (fun g1 => nm_r (nI_1 i) (ih _ (dd_famN hI ?_))) (fun g1 => x_isKeyOf (dd_n i) s (dd_br (fun g2 => nm_r (nI_1 i) (ih _ (dd_famN hI ?_))) (fun g2 => nm_e (nm_r (nI_1 i) (ih _ (dd_famA hI ?_ fun t ht => dd_set g hi t))))) (dd_ni hi))) (dd_ni hi))
    · unfold dd_key; rw [g1]; rfl
    · unfold dd_key; rw [g1, g2]; rfl
    · unfold dd_key; rw [g1, g2]; rfl
theorem x_closedSets {post : Int64 → Prop} {f : Int64} (h : ∀ g, (∀ t, t < 64 → dd_m g t = decide (dd_cl (dd_m f) (dd_n t) = dd_n t)) → post g) : wpX_closedSets post f := by
  refine pk_loop (fun n i g => wX_closedSets_5 post f n g (nI i)) (fun i g => dd_fam i (fun t => decide (dd_cl (dd_m f) (dd_n t) = dd_n t)) g) 64 0 0 (by decide) (dd_fam0 _) (fun n g hI => ?_) (fun n i g hi hI ih => ?_)
  · exact br_t (nI_le (Nat.le_refl 64) (by decide)) (h g (dd_famE hI))
  · exact br_f (nI_ge hi (by decide)) (x_closureIn (dd_n i) (dd_bre (dd_cl (dd_m f) (dd_n i)) (dd_n i) (fun g1 => nm_e (nm_r (nI_1 i) (ih _ (dd_famA hI (decide_eq_true g1) fun t ht => dd_set g hi t)))) (fun g1 => nm_r (nI_1 i) (ih _ (dd_famN hI (decide_eq_false g1)))) rfl (dd_ni hi)) (dd_ni hi))
theorem x_hasClosuresOfStems {post : Int32 → Prop} {f g : Int64} {q : Int32} (p : Nat) (hp : p < 64)
    (h : post (dd_b (dd_al (fun q => !(dd_m g q && dd_sB (dd_n q) (dd_n p)) || dd_sB (dd_cl (dd_m f) (dd_n q)) (dd_n p)) p))) (hq : q = nI p := by rfl) : wpX_hasClosuresOfStems post f g q := by
  subst hq
  refine dd_lp (σ := Unit) (fun n i _ => wX_hasClosuresOfStems_3 post f g (nI p) n (nI i)) (fun _ => ()) (fun i => dd_al (fun q => !(dd_m g q && dd_sB (dd_n q) (dd_n p)) || dd_sB (dd_cl (dd_m f) (dd_n q)) (dd_n p)) i = true) p 0 (Nat.zero_le p) rfl (fun n hJ => ?_) (fun n i _ hi hJ ih => ?_)
  · rw [hJ] at h
    exact br_t (nI_le (Nat.le_refl p) (by omega)) h
  · have hi64 : i < 64 := by omega
    refine br_f (nI_ge hi (by omega)) (x_isIn i hi64 (dd_br (fun g1 => nm_r (nI_1 i) (ih () rfl ?_)) (fun g1 => x_isWithin (dd_n i) (dd_n p) (dd_br (fun g2 => nm_r (nI_1 i) (ih () rfl ?_)) (fun g2 => x_closureIn (dd_n i) (x_isWithin (dd_cl (dd_m f) (dd_n i)) (dd_n p) (dd_br (fun g3 => ?_) (fun g3 => nm_r (nI_1 i) (ih () rfl ?_))) rfl (dd_ni hp)) (dd_ni hi64))) (dd_ni hi64) (dd_ni hp))))
    · show (_ && _) = true
      dsimp only
      rw [hJ, g1]; rfl
    · show (_ && _) = true
      dsimp only
      rw [hJ, g1, g2]; rfl
    · rw [dd_alF (q := fun q => !(dd_m g q && dd_sB (dd_n q) (dd_n p)) || dd_sB (dd_cl (dd_m f) (dd_n q)) (dd_n p)) hi (by rw [g1, g2, g3]; rfl)] at h
      exact h
    · show (_ && _) = true
      dsimp only
      rw [hJ, g1, g2, g3]; rfl
theorem dd_stge (cl : dd_S → dd_S) {i t : Nat} (h : i ≤ t) : dd_st cl i t = false := by
  induction i with
  | zero => rfl
  | succ i ih =>
    show (if t = i then _ else dd_st cl i t) = false
    rw [if_neg (by omega)]; exact ih (by omega)
theorem x_stemSets {post : Int64 → Prop} {f : Int64} (h : ∀ g, (∀ t, t < 64 → dd_m g t = dd_st (dd_cl (dd_m f)) 64 t) → post g) : wpX_stemSets post f := by
  refine pk_loop (fun n i g => wX_stemSets_5 post f n g (nI i)) (fun i g => ∀ t, t < 64 → dd_m g t = dd_st (dd_cl (dd_m f)) i t) 64 0 0 (by decide) (fun t _ => dd_mz t) (fun n g hI => ?_) (fun n i g hi hI ih => ?_)
  · exact br_t (nI_le (Nat.le_refl 64) (by decide)) (h g hI)
  · have val : ∀ t, dd_st (dd_cl (dd_m f)) (i + 1) t = if t = i then (decide (dd_cl (dd_m f) (dd_n i) ≠ dd_n i) && dd_al (fun q => !(dd_m g q && dd_sB (dd_n q) (dd_n i)) || dd_sB (dd_cl (dd_m f) (dd_n q)) (dd_n i)) i) else dd_st (dd_cl (dd_m f)) i t := fun t => by
      show (if t = i then (decide (dd_cl (dd_m f) (dd_n i) ≠ dd_n i) && dd_al (fun q => !(dd_st (dd_cl (dd_m f)) i q && dd_sB (dd_n q) (dd_n i)) || dd_sB (dd_cl (dd_m f) (dd_n q)) (dd_n i)) i) else dd_st (dd_cl (dd_m f)) i t) = _
      rw [dd_alX (n := i) fun d hd => by rw [← hI d (by omega)]]
    have no : (decide (dd_cl (dd_m f) (dd_n i) ≠ dd_n i) && dd_al (fun q => !(dd_m g q && dd_sB (dd_n q) (dd_n i)) || dd_sB (dd_cl (dd_m f) (dd_n q)) (dd_n i)) i) = false → ∀ t, t < 64 → dd_m g t = dd_st (dd_cl (dd_m f)) (i + 1) t := fun z t ht => by
      rw [val t, z, hI t ht]
      split
      · rename_i e; rw [e]; exact dd_stge _ (Nat.le_refl i)
      · rfl
    refine br_f (nI_ge hi (by decide)) (x_closureIn (dd_n i) (dd_bre (dd_cl (dd_m f) (dd_n i)) (dd_n i) (fun g1 => nm_r (nI_1 i) (ih _ (no ?_))) (fun g1 => x_hasClosuresOfStems i hi (dd_br (fun g2 => nm_r (nI_1 i) (ih _ (no ?_))) (fun g2 => nm_e (nm_r (nI_1 i) (ih _ fun t ht => ?_))))) rfl (dd_ni hi)) (dd_ni hi))
    · rw [decide_eq_false (fun z => z g1)]; rfl
    · rw [g2]; exact Bool.and_false _
    · rw [val t, dd_set g hi t, hI t ht]
      by_cases e : t = i
      · rw [if_pos e, decide_eq_true g1, g2, decide_eq_true e.symm]; simp
      · rw [if_neg e, decide_eq_false (fun z => e z.symm), Bool.or_false]
def dd_bm (p : Nat → Bool) (x : dd_S) : Bool := !dd_al (fun y => !(!dd_sB (dd_n y) x && (!decide (x ||| dd_n y = 63#6) && dd_aK p x (dd_n y) true))) 64
theorem x_bundlesMore {post : Int32 → Prop} {f : Int64} {p : Int32} (x : dd_S) (h : post (dd_b (dd_bm (dd_m f) x))) (hp : p = dd_i x := by rfl) : wpX_bundlesMore post f p := by
  subst hp
  unfold dd_bm at h
  refine dd_lp (σ := Unit) (fun n i _ => wX_bundlesMore_2 post f (dd_i x) n (nI i)) (fun _ => ()) (fun i => dd_al (fun y => !(!dd_sB (dd_n y) x && (!decide (x ||| dd_n y = 63#6) && dd_aK (dd_m f) x (dd_n y) true))) i = true) 64 0 (by decide) rfl (fun n hJ => ?_) (fun n i _ hi hJ ih => ?_)
  · rw [hJ] at h
    exact br_t (nI_le (Nat.le_refl 64) (by decide)) h
  · refine br_f (nI_ge hi (by decide)) (x_isWithin (dd_n i) x (dd_br (fun g1 => dd_bre (x ||| dd_n i) 63#6 (fun g2 => nm_r (nI_1 i) (ih () rfl ?_)) (fun g2 => x_allKeep x (dd_n i) true (dd_br (fun g3 => nm_r (nI_1 i) (ih () rfl ?_)) (fun g3 => ?_)) rfl (dd_ni hi)) (by rw [dd_ni hi, dd_or])) (fun g1 => nm_r (nI_1 i) (ih () rfl ?_))) (dd_ni hi))
    · show (_ && _) = true
      dsimp only
      rw [hJ, decide_eq_true g2]; simp
    · show (_ && _) = true
      dsimp only
      rw [hJ, g3]; simp
    · rw [dd_alF (q := fun y => !(!dd_sB (dd_n y) x && (!decide (x ||| dd_n y = 63#6) && dd_aK (dd_m f) x (dd_n y) true))) hi (by rw [g1, decide_eq_false g2, g3]; rfl)] at h
      exact h
    · show (_ && _) = true
      dsimp only
      rw [hJ, g1]; rfl
theorem x_reachedFromLess {post : Int32 → Prop} {f : Int64} {p : Int32} (x : dd_S) (h : post (dd_i (dd_fl (dd_cl (dd_m f)) x 6))) (hp : p = dd_i x := by rfl) : wpX_reachedFromLess post f p := by
  subst hp
  refine dd_lp (fun n i s => wX_reachedFromLess_5 post f (dd_i x) n (dd_i s) (nI i)) (dd_fl (dd_cl (dd_m f)) x) (fun _ => True) 6 0 (by decide) trivial (fun n _ => ?_) (fun n i _ hi _ ih => ?_)
  · exact br_t (nI_le (Nat.le_refl 6) (by decide)) h
  · refine br_f (nI_ge hi (by decide)) (x_isInS x i (by omega) (dd_br (fun g => nm_r (nI_1 i) (ih _ ?_ trivial)) (fun g => x_closureIn (x &&& ~~~dd_e i) (nm_r (dd_or _ _) (nm_r (nI_1 i) (ih _ ?_ trivial))) (by rw [dd_1 i hi, dd_andn]))))
    · exact (if_neg fun z => by rw [g] at z; exact absurd z (by decide)).symm
    · exact (if_pos g).symm
