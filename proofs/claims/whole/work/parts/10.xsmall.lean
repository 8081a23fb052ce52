/-! the class's methods on sets and families alone -/
theorem x_isSet {post : Int32 → Prop} {p : Int32} (x : dd_S) (h : post 1) (hp : p = dd_i x := by rfl) : wpX_isSet post p := by
  subst hp
  exact br_f (nI_pos (dd_nlt31 x)) (br_f (nI_nlt (a := 63) (b := x.toNat) (by have := dd_nlt x; omega) (by decide)) h)
theorem x_isSetF {post : Int32 → Prop} {p : Int32} (hp : dd_bad p) (h : post 0) : wpX_isSet post p := by
  rcases hp with hp | ⟨h0, hp⟩
  · exact br_t hp h
  · exact br_f h0 (br_t hp h)
theorem x_isWithin {post : Int32 → Prop} {p q : Int32} (a b : dd_S) (h : post (dd_b (dd_sB a b))) (hp : p = dd_i a := by rfl) (hq : q = dd_i b := by rfl) : wpX_isWithin post p q :=
  dd_brs a b (fun z => by rw [dd_sBt z] at h; exact h) (fun z => by rw [dd_sBf z] at h; exact h) hp hq
theorem x_isIn {post : Int32 → Prop} {f : Int64} {q : Int32} (t : Nat) (ht : t < 64) (h : post (dd_b (dd_m f t))) (hq : q = nI t := by rfl) : wpX_isIn post f q := by
  subst hq
  exact dd_if (dd_m0 f ht) (fun z => by rw [z] at h; exact h) (fun z => by rw [ts_nf z] at h; exact h)
theorem x_isInS {post : Int32 → Prop} {f : Int64} {q : Int32} (x : dd_S) (c : Nat) (hc : c < 64) (h : post (dd_b (x.getLsbD c))) (hf : f = (dd_i x).toInt64 := by rfl) (hq : q = nI c := by rfl) : wpX_isIn post f q := by
  subst hf
  exact x_isIn c hc (by rw [dd_mS x hc]; exact h) hq
theorem x_pairKeeps {post : Int32 → Prop} {p0 p1 p2 p3 : Int32} (T x y : dd_S) (b : Bool) (h : post (dd_b (dd_pk T x y b)))
    (h0 : p0 = dd_i T := by rfl) (h1 : p1 = dd_i x := by rfl) (h2 : p2 = dd_i y := by rfl) (h3 : p3 = dd_b b := by rfl) : wpX_pairKeeps post p0 p1 p2 p3 := by
  subst h0 h1 h2 h3
  refine x_isWithin x T (dd_br (fun g1 => ?_) (fun g1 => x_isWithin y T (dd_br (fun g2 => dd_br (fun g3 => ?_) (fun g3 => x_isWithin (~~~(x ||| y)) T (dd_br (fun g4 => ?_) (fun g4 => ?_)) (by rw [dd_or, dd_63n]))) (fun g2 => ?_))))
  · unfold dd_pk at h; rw [g1] at h; exact h
  · unfold dd_pk at h; rw [g1, g2, g3] at h; exact h
  · unfold dd_pk at h; rw [g1, g2, g3, g4] at h; exact h
  · unfold dd_pk at h; rw [g1, g2, g3, g4] at h; exact h
  · unfold dd_pk at h; rw [g1, g2] at h; exact h
theorem x_allKeep {post : Int32 → Prop} {f : Int64} {p1 p2 p3 : Int32} (x y : dd_S) (b : Bool) (h : post (dd_b (dd_aK (dd_m f) x y b)))
    (h1 : p1 = dd_i x := by rfl) (h2 : p2 = dd_i y := by rfl) (h3 : p3 = dd_b b := by rfl) : wpX_allKeep post f p1 p2 p3 := by
  subst h1 h2 h3
  refine dd_lp (σ := Unit) (fun n i _ => wX_allKeep_3 post f (dd_i x) (dd_i y) (dd_b b) n (nI i)) (fun _ => ()) (fun i => dd_al (fun t => !dd_m f t || dd_pk (dd_n t) x y b) i = true) 64 0 (by decide) rfl (fun n hJ => ?_) (fun n i _ hi hJ ih => ?_)
  · unfold dd_aK at h
    rw [hJ] at h
    exact br_t (nI_le (Nat.le_refl 64) (by decide)) h
  · refine br_f (nI_ge hi (by decide)) (x_isIn i hi (dd_br (fun g => nm_r (nI_1 i) (ih () rfl ?_)) (fun g => x_pairKeeps (dd_n i) x y b (dd_br (fun g2 => ?_) (fun g2 => nm_r (nI_1 i) (ih () rfl ?_))) (dd_ni hi))))
    · show (_ && _) = true
      dsimp only
      rw [hJ, g]; rfl
    · have e : dd_aK (dd_m f) x y b = false := dd_alF hi (by rw [g, g2]; rfl)
      rw [e] at h; exact h
    · show (_ && _) = true
      dsimp only
      rw [hJ, g, g2]; rfl
theorem x_closureIn {post : Int32 → Prop} {f : Int64} {p : Int32} (x : dd_S) (h : post (dd_i (dd_cl (dd_m f) x))) (hp : p = dd_i x := by rfl) : wpX_closureIn post f p := by
  subst hp
  refine dd_lp (fun n i s => wX_closureIn_6 post f (dd_i x) n (dd_i s) (nI i)) (dd_clN (dd_m f) x) (fun _ => True) 64 0 (by decide) trivial (fun n _ => ?_) (fun n i _ hi _ ih => ?_)
  · exact br_t (nI_le (Nat.le_refl 64) (by decide)) h
  · refine br_f (nI_ge hi (by decide)) (x_isIn i hi (dd_br (fun g => nm_r (nI_1 i) (ih _ ?_ trivial)) (fun g => x_isWithin x (dd_n i) (dd_br (fun g2 => nm_r (nI_1 i) (ih _ ?_ trivial)) (fun g2 => nm_r (by rw [dd_ni hi, dd_and]) (nm_r (nI_1 i) (ih _ ?_ trivial)))) rfl (dd_ni hi))))
    · exact (if_neg fun z => by rw [g] at z; exact absurd z.1 (by decide)).symm
    · exact (if_neg fun z => of_decide_eq_false g2 z.2).symm
    · exact (if_pos ⟨g, of_decide_eq_true g2⟩).symm
theorem x_sizeOf {post : Int32 → Prop} {f : Int64} (h : post (nI (dd_cn (dd_m f) 64))) : wpX_sizeOf post f := by
  refine dd_lp (fun n i s => wX_sizeOf_4 post f n (nI s) (nI i)) (dd_cn (dd_m f)) (fun _ => True) 64 0 (by decide) trivial (fun n _ => ?_) (fun n i _ hi _ ih => ?_)
  · exact br_t (nI_le (Nat.le_refl 64) (by decide)) h
  · refine br_f (nI_ge hi (by decide)) (x_isIn i hi (dd_br (fun g => nm_r (nI_1 i) (ih _ ?_ trivial)) (fun g => nm_r (nI_1 _) (nm_r (nI_1 i) (ih _ ?_ trivial)))))
    · exact (if_neg fun z => by rw [g] at z; exact absurd z (by decide)).symm
    · exact (if_pos g).symm
theorem x_memberAt {post : Int32 → Prop} {f : Int64} {i : Int32} (h : post (dd_at (dd_m f) i 64 0 0)) : wpX_memberAt post f i := by
  have key : ∀ d t b, d + t = 64 → post (dd_at (dd_m f) i d t b) → wX_memberAt_5 post f i (d + 1) (nI b) (nI t) := by
    intro d
    induction d with
    | zero => exact fun t b e h => br_t (nI_le (a := 64) (by omega) (by omega)) h
    | succ d ih =>
      intro t b e h
      refine br_f (nI_ge (b := 64) (by omega) (by decide)) (x_isIn t (by omega) (dd_br (fun g => nm_r (nI_1 t) (ih (t + 1) b (by omega) ?_)) (fun g => br_c (fun g2 => ?_) (fun g2 => nm_r (nI_1 b) (nm_r (nI_1 t) (ih (t + 1) (b + 1) (by omega) ?_))))))
      · have e2 : dd_at (dd_m f) i (d + 1) t b = dd_at (dd_m f) i d (t + 1) b := if_neg fun z => by rw [g] at z; exact absurd z (by decide)
        rw [e2] at h; exact h
      · have e2 : dd_at (dd_m f) i (d + 1) t b = nI t := (if_pos g).trans (if_pos g2)
        rw [e2] at h; exact h
      · have e2 : dd_at (dd_m f) i (d + 1) t b = dd_at (dd_m f) i d (t + 1) (b + 1) := (if_pos g).trans (if_neg g2)
        rw [e2] at h; exact h
  exact ⟨65, key 64 0 0 rfl h⟩
theorem x_unionOf {post : Int32 → Prop} {f : Int64} (h : post (dd_i (dd_un (dd_m f) 64))) : wpX_unionOf post f := by
  refine dd_lp (fun n i s => wX_unionOf_4 post f n (dd_i s) (nI i)) (dd_un (dd_m f)) (fun _ => True) 64 0 (by decide) trivial (fun n _ => ?_) (fun n i _ hi _ ih => ?_)
  · exact br_t (nI_le (Nat.le_refl 64) (by decide)) h
  · refine br_f (nI_ge hi (by decide)) (x_isIn i hi (dd_br (fun g => nm_r (nI_1 i) (ih _ ?_ trivial)) (fun g => nm_r (by rw [dd_ni hi, dd_or]) (nm_r (nI_1 i) (ih _ ?_ trivial)))))
    · exact (if_neg fun z => by rw [g] at z; exact absurd z (by decide)).symm
    · exact (if_pos g).symm
theorem x_meetOfLarger {post : Int32 → Prop} {f : Int64} {p : Int32} (t : Nat) (ht : t < 64) (h : post (dd_i (dd_mt (fun y => decide (t < y) && dd_lg (dd_m f) t y) 64))) (hp : p = nI t := by rfl) : wpX_meetOfLarger post f p := by
  subst hp
  refine nm_r (nI_1 t) ?_
  have e : dd_mt (fun y => decide (t < y) && dd_lg (dd_m f) t y) (t + 1) = 63#6 := dd_mt63 fun d hd => by rw [decide_eq_false (by omega)]; rfl
  have w := dd_lp (fun n i s => wX_meetOfLarger_8 post f (nI t) n (dd_i s) (nI i)) (dd_mt (fun y => decide (t < y) && dd_lg (dd_m f) t y)) (fun _ => True) 64 (t + 1) (by omega) trivial
    (fun n _ => br_t (nI_le (Nat.le_refl 64) (by decide)) h) (fun n i h1 hi _ ih => ?_)
  · rw [e] at w; exact w
  · refine br_f (nI_ge hi (by decide)) (x_isIn i hi (dd_br (fun g => nm_r (nI_1 i) (ih _ ?_ trivial)) (fun g => x_isWithin (dd_n t) (dd_n i) (dd_br (fun g2 => nm_r (nI_1 i) (ih _ ?_ trivial)) (fun g2 => nm_r (by rw [dd_ni hi, dd_and]) (nm_r (nI_1 i) (ih _ ?_ trivial)))) (dd_ni ht) (dd_ni hi))))
    · exact (if_neg fun z => by unfold dd_lg at z; dsimp only at z; rw [g] at z; simp at z).symm
    · exact (if_neg fun z => by unfold dd_lg at z; dsimp only at z; rw [g2] at z; simp at z).symm
    · exact (if_pos (by unfold dd_lg; dsimp only; rw [g, g2, decide_eq_true (show t < i by omega)]; rfl)).symm
