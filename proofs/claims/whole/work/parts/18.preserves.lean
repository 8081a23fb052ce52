/-! preserves, on both sides -/
theorem dd_nor (a b : Nat) : nI a ||| nI b = nI (a ||| b) := b_ext fun i hi => by
  rw [b_or, dd_nb, dd_nb, dd_nb, Nat.testBit_or, decide_eq_true hi]; rfl
def dd_so (B : Nat → Bool) : Nat → Nat
  | 0 => 0
  | i + 1 => if B i = false then dd_so B i ||| 2 ^ i else dd_so B i
theorem dd_solt (B : Nat → Bool) (i : Nat) : dd_so B i < 2 ^ i := by
  induction i with
  | zero => exact Nat.zero_lt_one
  | succ i ih =>
    have e : 2 ^ (i + 1) = 2 ^ i + 2 ^ i := by rw [Nat.pow_succ]; omega
    show (if B i = false then dd_so B i ||| 2 ^ i else dd_so B i) < _
    split
    · exact Nat.or_lt_two_pow (by omega) (by have := Nat.two_pow_pos i; omega)
    · omega
theorem dd_sob (B : Nat → Bool) (i d : Nat) : (dd_so B i).testBit d = (decide (d < i) && !B d) := by
  induction i with
  | zero => show Nat.testBit 0 d = _; simp
  | succ i ih =>
    show (if B i = false then dd_so B i ||| 2 ^ i else dd_so B i).testBit d = _
    by_cases e : i = d
    · subst e
      split
      · rename_i h
        rw [Nat.testBit_or, Nat.testBit_two_pow, ih, h]; simp
      · rename_i h
        rw [ih, ts_nf h]; simp
    · have e2 : decide (d < i + 1) = decide (d < i) := by
        by_cases z : d < i
        · rw [decide_eq_true z, decide_eq_true (show d < i + 1 by omega)]
        · rw [decide_eq_false z, decide_eq_false (show ¬ d < i + 1 by omega)]
      rw [e2]
      split
      · rw [Nat.testBit_or, Nat.testBit_two_pow, ih, decide_eq_false e, Bool.or_false]
      · exact ih
theorem dd_vX {L R : Nat → dd_S} {B : Nat → Bool} {n : Nat} {c c' : Nat → Bool} (h : ∀ d, d < n → c d = c' d) (t : Nat) : dd_v L R B n c t = dd_v L R B n c' t :=
  dd_alX fun d hd => by rw [h d hd]
abbrev dd_C1 (L R : Nat → dd_S) (B : Nat → Bool) (n : Nat) : dd_S → dd_S := dd_cl (dd_v L R B n (fun d => !B d))
def dd_pv (L R : Nat → dd_S) (B : Nat → Bool) (n : Nat) (P : Nat → dd_S) (pn : Nat) (d : Nat) : Bool := B d || dd_sB (R d) (dd_it (fun z => dd_stp (dd_ps (dd_C1 L R B n) P) z pn) 6 (L d))
section
variable {L R : Nat → dd_S} {B : Nat → Bool} {n : Nat} {P : Nat → dd_S} {pn : Nat} {ce : Nat → Int32} {rn : Nat} {mk : Nat → Int32}
theorem x_singleOnes {post : Int32 → Prop} (hn : n ≤ 10) (h : ∀ c, c < 2 ^ 31 → (∀ d, d < n → c.testBit d = !B d) → post (nI c)) : wpX_singleOnes post (xT L R B n P pn ce rn mk) := by
  refine dd_lp (fun m i s => wX_singleOnes_4 post (nI n) (nI pn) (nI rn) (fun d => dd_i (L d)) (fun d => dd_i (R d)) (fun d => dd_b (B d)) (fun d => dd_i (P d)) ce mk m (nI s) (nI i)) (dd_so B) (fun _ => True) n 0 (Nat.zero_le n) trivial (fun m _ => ?_) (fun m i _ hi _ ih => ?_)
  · refine br_t (nI_le (Nat.le_refl n) (by omega)) (h _ ?_ fun d hd => ?_)
    · exact Nat.lt_of_lt_of_le (dd_solt B n) (Nat.pow_le_pow_right (by decide) (by omega))
    · rw [dd_sob, decide_eq_true hd, Bool.true_and]
  · refine br_f (nI_ge hi (by omega)) ⟨vp_in_nI (by omega) (by decide), dd_if (d := B i = false) (show dd_b (B (nI i).toNatClampNeg) = 0 ↔ _ by rw [nI_clamp (by omega), dd_b0]) (fun g => nm_r (e' := nI (dd_so B i ||| 2 ^ i)) (by rw [dd_2n i (by omega), dd_nor]) (nm_r (nI_1 i) (ih _ (if_pos g).symm trivial))) (fun g => nm_r (nI_1 i) (ih _ (if_neg g).symm trivial))⟩
theorem x_singles {post : Int64 → Prop} (hn : n ≤ 10) (h : ∀ f, (∀ t, t < 64 → dd_m f t = dd_v L R B n (fun d => !B d) t) → post f) :
    wpX_singleOnes (fun r => wpX_pairsKeeping post (xT L R B n P pn ce rn mk) r) (xT L R B n P pn ce rn mk) :=
  x_singleOnes hn fun c hc hb => x_pairsKeeping hn c hc fun f hf => h f fun t ht => (hf t ht).trans (dd_vX hb t)
theorem x_reached {post : Int32 → Prop} {f : Int64} {p : Int32} (hp4 : pn ≤ 4) (x : dd_S) (h : post (dd_i (dd_it (fun z => dd_stp (dd_ps (dd_cl (dd_m f)) P) z pn) 6 x))) (hp : p = dd_i x := by rfl) : wpX_reachedWithinParts post (xT L R B n P pn ce rn mk) f p := by
  subst hp
  refine dd_lp (fun m i s => wX_reachedWithinParts_6 post f (nI n) (nI pn) (nI rn) (fun d => dd_i (L d)) (fun d => dd_i (R d)) (fun d => dd_b (B d)) (fun d => dd_i (P d)) ce mk m (dd_i s) (nI i)) (fun i => dd_it (fun z => dd_stp (dd_ps (dd_cl (dd_m f)) P) z pn) i x) (fun _ => True) 6 0 (by decide) trivial (fun m _ => ?_) (fun m i _ hi _ ih => ?_)
  · exact br_t (nI_le (Nat.le_refl 6) (by decide)) h
  · refine br_f (nI_ge hi (by decide)) ?_
    refine dd_lp (fun m' j s => wX_reachedWithinParts_16 post (wX_reachedWithinParts_6 post f (nI n) (nI pn) (nI rn) (fun d => dd_i (L d)) (fun d => dd_i (R d)) (fun d => dd_b (B d)) (fun d => dd_i (P d)) ce mk m) f (nI i) (nI n) (nI pn) (nI rn) (fun d => dd_i (L d)) (fun d => dd_i (R d)) (fun d => dd_b (B d)) (fun d => dd_i (P d)) ce mk m' (dd_i s) (nI j)) (fun j => dd_stp (dd_ps (dd_cl (dd_m f)) P) (dd_it (fun z => dd_stp (dd_ps (dd_cl (dd_m f)) P) z pn) i x) j) (fun _ => True) pn 0 (Nat.zero_le pn) trivial (fun m' _ => ?_) (fun m' j _ hj _ ih2 => ?_)
    · exact br_t (nI_le (Nat.le_refl pn) (by omega)) (nm_r (nI_1 i) (ih _ rfl trivial))
    · have v : vp_in (nI j) 4 := vp_in_nI (by omega) (by decide)
      have eP : (fun d => dd_i (P d)) (nI j).toNatClampNeg = dd_i (P j) := dd_ix (fun d => dd_i (P d)) (by omega)
      exact br_f (nI_ge hj (by omega)) ⟨v, x_closureIn _ ⟨v, nm_r (e' := dd_i (dd_ps (dd_cl (dd_m f)) P j (dd_stp (dd_ps (dd_cl (dd_m f)) P) (dd_it (fun z => dd_stp (dd_ps (dd_cl (dd_m f)) P) z pn) i x) j))) (by rw [eP, dd_and, dd_or]; rfl) (nm_r (nI_1 j) (ih2 _ rfl trivial))⟩ (by rw [eP, dd_and])⟩
theorem x_preserves {post : Int32 → Prop} (hn : n ≤ 10) (hp4 : pn ≤ 4) (h : post (dd_b (dd_al (dd_pv L R B n P pn) n))) : wpX_preserves post (xT L R B n P pn ce rn mk) := by
  unfold wpX_preserves
  refine x_singles hn fun f hf => ?_
  refine dd_lp (σ := Unit) (fun m i _ => wX_preserves_14 post f (nI n) (nI pn) (nI rn) (fun d => dd_i (L d)) (fun d => dd_i (R d)) (fun d => dd_b (B d)) (fun d => dd_i (P d)) ce mk m (nI i)) (fun _ => ()) (fun i => dd_al (dd_pv L R B n P pn) i = true) n 0 (Nat.zero_le n) rfl (fun m hJ => ?_) (fun m i _ hi hJ ih => ?_)
  · rw [hJ] at h
    exact br_t (nI_le (Nat.le_refl n) (by omega)) h
  · have v : vp_in (nI i) 10 := vp_in_nI (by omega) (by decide)
    refine br_f (nI_ge hi (by omega)) ⟨v, dd_if (d := B i = false) (show dd_b (B (nI i).toNatClampNeg) = 0 ↔ _ by rw [nI_clamp (by omega), dd_b0]) (fun g => ⟨v, x_reached hp4 (L i) ⟨v, x_isWithin (R i) _ (dd_br (fun g2 => ?_) (fun g2 => nm_r (nI_1 i) (ih () rfl (dd_alS hJ ?_)))) (dd_ix (fun d => dd_i (R d)) (by omega))⟩ (dd_ix (fun d => dd_i (L d)) (by omega))⟩) (fun g => nm_r (nI_1 i) (ih () rfl (dd_alS hJ ?_)))⟩
    · rw [dd_clE hf] at g2
      rw [dd_alF hi (by unfold dd_pv; rw [g, g2]; rfl)] at h
      exact h
    · rw [dd_clE hf] at g2
      unfold dd_pv; rw [g2, Bool.or_true]
    · unfold dd_pv; rw [ts_nf g]; rfl
end
section
variable {L R : Nat → dd_S} {B : Nat → Bool} {n : Nat} {P : Nat → dd_S} {pn : Nat} {ce : Nat → Int32} {rn : Nat} {sm : Int32} {md : Int64} {kn cs : Nat → Int32} {tb : Nat → Int64} {st sy : Nat → Int32}
theorem y_singleClosure {post : Int32 → Prop} {p : Int32} (hn : n ≤ 10) (x : dd_S) (h : post (dd_i (dd_C1 L R B n x))) (hp : p = dd_i x := by rfl) : wpY_singleClosure post (yT L R B n P pn ce rn sm md kn cs tb st sy) p := by
  subst hp
  have e0 : dd_C1 L R B n x = dd_stp (fun k => dd_sg L R B n (k % 10)) x 100 := (dd_single L R B hn x).symm
  rw [e0] at h
  refine dd_lp (fun m i s => wY_singleClosure_4 post (nI n) (nI pn) (nI rn) sm md (fun d => dd_i (L d)) (fun d => dd_i (R d)) (fun d => dd_b (B d)) (fun d => dd_i (P d)) ce kn cs tb st sy m (dd_i s) (nI i)) (dd_stp (fun k => dd_sg L R B n (k % 10)) x) (fun _ => True) 100 0 (by decide) trivial (fun m _ => ?_) (fun m i _ hi _ ih => ?_)
  · exact br_t (nI_le (Nat.le_refl 100) (by decide)) h
  · have hk : i % 10 < 10 := Nat.mod_lt _ (by decide)
    have v : vp_in (nI (i % 10)) 10 := vp_in_nI hk (by decide)
    have eS : dd_stp (fun k => dd_sg L R B n (k % 10)) x (i + 1) = dd_sg L R B n (i % 10) (dd_stp (fun k => dd_sg L R B n (k % 10)) x i) := rfl
    have no : ¬ (i % 10 < n ∧ B (i % 10) = false ∧ dd_sub (L (i % 10)) (dd_stp (fun k => dd_sg L R B n (k % 10)) x i)) → wY_singleClosure_4 post (nI n) (nI pn) (nI rn) sm md (fun d => dd_i (L d)) (fun d => dd_i (R d)) (fun d => dd_b (B d)) (fun d => dd_i (P d)) ce kn cs tb st sy m (dd_i (dd_stp (fun k => dd_sg L R B n (k % 10)) x i)) (nI (i + 1)) := fun z => ih _ (by rw [eS]; exact (if_neg z).symm) trivial
    refine br_f (nI_ge hi (by decide)) ⟨by decide, nm_r (show nI i - nI i / 10 * 10 = nI (i % 10) from pk_rem (by omega) (by decide) (by decide)) (pk_le n (i % 10) (fun z => br_t rfl (nm_r (nI_1 i) (no fun w => by omega))) (fun z => ⟨v, dd_if (d := B (i % 10) = false) (show dd_b (B (nI (i % 10)).toNatClampNeg) = 0 ↔ _ by rw [nI_clamp (by omega), dd_b0]) (fun g => ⟨v, dd_brs (L (i % 10)) _ (fun g2 => br_f (by decide) ⟨v, nm_r (e' := dd_i (dd_stp (fun k => dd_sg L R B n (k % 10)) x i ||| R (i % 10))) ?_ (nm_r (nI_1 i) (ih _ ?_ trivial))⟩) (fun g2 => br_t rfl (nm_r (nI_1 i) (no fun w => g2 w.2.2))) (dd_ix (fun d => dd_i (L d)) (by omega))⟩) (fun g => br_t rfl (nm_r (nI_1 i) (no fun w => g w.2.1)))⟩))⟩
    · show dd_i _ ||| dd_i (R (nI (i % 10)).toNatClampNeg) = _
      rw [nI_clamp (by omega), dd_or]
    · rw [eS]; exact (if_pos ⟨z, g, g2⟩).symm
theorem y_preserves {post : Int32 → Prop} (hn : n ≤ 10) (hp4 : pn ≤ 4) (h : post (dd_b (dd_al (dd_pv L R B n P pn) n))) : wpY_preserves post (yT L R B n P pn ce rn sm md kn cs tb st sy) := by
  refine dd_lp (σ := Unit) (fun m i _ => wY_preserves_2 post (nI n) (nI pn) (nI rn) sm md (fun d => dd_i (L d)) (fun d => dd_i (R d)) (fun d => dd_b (B d)) (fun d => dd_i (P d)) ce kn cs tb st sy m (nI i)) (fun _ => ()) (fun i => dd_al (dd_pv L R B n P pn) i = true) n 0 (Nat.zero_le n) rfl (fun m hJ => ?_) (fun m i _ hi hJ ih => ?_)
  · rw [hJ] at h
    exact br_t (nI_le (Nat.le_refl n) (by omega)) h
  · have v : vp_in (nI i) 10 := vp_in_nI (by omega) (by decide)
    refine br_f (nI_ge hi (by omega)) ⟨v, nm_r (e' := dd_i (L i)) (dd_ix (fun d => dd_i (L d)) (by omega)) ?_⟩
    refine dd_lp (fun m' j s => wY_preserves_19 post (wY_preserves_2 post (nI n) (nI pn) (nI rn) sm md (fun d => dd_i (L d)) (fun d => dd_i (R d)) (fun d => dd_b (B d)) (fun d => dd_i (P d)) ce kn cs tb st sy m) (nI i) (nI n) (nI pn) (nI rn) sm md (fun d => dd_i (L d)) (fun d => dd_i (R d)) (fun d => dd_b (B d)) (fun d => dd_i (P d)) ce kn cs tb st sy m' (dd_i s) (nI j)) (dd_stp (fun k => dd_ps (dd_C1 L R B n) (fun k => if k < pn then P k else 0#6) (k % 4)) (L i)) (fun _ => True) 32 0 (by decide) trivial (fun m' _ => ?_) (fun m' j _ hj _ ih2 => ?_)
    · have e := dd_parts (dd_C1 L R B n) P hp4 (L i)
      refine br_t (nI_le (Nat.le_refl 32) (by decide)) ⟨v, dd_if (d := B i = false) (show dd_b (B (nI i).toNatClampNeg) = 0 ↔ _ by rw [nI_clamp (by omega), dd_b0]) (fun g => ⟨v, dd_brs (R i) _ (fun g2 => nm_r (nI_1 i) (ih () rfl (dd_alS hJ ?_))) (fun g2 => ?_) (dd_ix (fun d => dd_i (R d)) (by omega))⟩) (fun g => nm_r (nI_1 i) (ih () rfl (dd_alS hJ ?_)))⟩
      · rw [e] at g2
        unfold dd_pv; rw [dd_sBt g2, Bool.or_true]
      · rw [e] at g2
        rw [dd_alF hi (by unfold dd_pv; rw [g, dd_sBf g2]; rfl)] at h
        exact h
      · unfold dd_pv; rw [ts_nf g]; rfl
    · have hk : j % 4 < 4 := Nat.mod_lt _ (by decide)
      have em : nI j - nI j / 4 * 4 = nI (j % 4) := pk_rem (by omega) (by decide) (by decide)
      have go : ∀ (z0 : Int32), z0 = dd_i (if j % 4 < pn then P (j % 4) else 0#6) → wY_preserves_47 post (wY_preserves_2 post (nI n) (nI pn) (nI rn) sm md (fun d => dd_i (L d)) (fun d => dd_i (R d)) (fun d => dd_b (B d)) (fun d => dd_i (P d)) ce kn cs tb st sy m) (wY_preserves_19 post (wY_preserves_2 post (nI n) (nI pn) (nI rn) sm md (fun d => dd_i (L d)) (fun d => dd_i (R d)) (fun d => dd_b (B d)) (fun d => dd_i (P d)) ce kn cs tb st sy m) (nI i) (nI n) (nI pn) (nI rn) sm md (fun d => dd_i (L d)) (fun d => dd_i (R d)) (fun d => dd_b (B d)) (fun d => dd_i (P d)) ce kn cs tb st sy m') (nI i) (dd_i (dd_stp (fun k => dd_ps (dd_C1 L R B n) (fun k => if k < pn then P k else 0#6) (k % 4)) (L i) j)) (nI j) z0 (nI n) (nI pn) (nI rn) sm md (fun d => dd_i (L d)) (fun d => dd_i (R d)) (fun d => dd_b (B d)) (fun d => dd_i (P d)) ce kn cs tb st sy := by
        rintro z0 rfl
        exact y_singleClosure hn _ (nm_r (e' := dd_i (dd_ps (dd_C1 L R B n) (fun k => if k < pn then P k else 0#6) (j % 4) (dd_stp (fun k => dd_ps (dd_C1 L R B n) (fun k => if k < pn then P k else 0#6) (k % 4)) (L i) j))) (by rw [dd_and, dd_or]; rfl) (nm_r (nI_1 j) (ih2 _ rfl trivial))) (dd_and _ _)
      refine br_f (nI_ge hj (by decide)) ⟨by decide, pk_le pn (j % 4) (fun z => go 0 ?_) (fun z => ⟨by decide, ?_, go _ ?_⟩) rfl em⟩
      · rw [if_neg (by omega)]; rfl
      · rw [em]; exact vp_in_nI hk (by decide)
      · rw [if_pos z]
        show dd_i (P (nI j - nI j / 4 * 4).toNatClampNeg) = _
        rw [em, nI_clamp (by omega)]
end
