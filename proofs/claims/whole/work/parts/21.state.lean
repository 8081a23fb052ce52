/-! what the calls do to the state, on both sides -/
theorem dd_updI (L : Nat → dd_S) {i : Nat} (hi : i < 2 ^ 31) (x : dd_S) : upd (fun d => dd_i (L d)) (nI i).toNatClampNeg (dd_i x) = fun d => dd_i (if d = i then x else L d) := by
  rw [nI_clamp hi]
  funext d
  unfold upd
  split <;> rfl
theorem dd_updB (B : Nat → Bool) {i : Nat} (hi : i < 2 ^ 31) (b : Bool) : upd (fun d => dd_b (B d)) (nI i).toNatClampNeg (dd_b b) = fun d => dd_b (if d = i then b else B d) := by
  rw [nI_clamp hi]
  funext d
  unfold upd
  split <;> rfl
def dd_rz (ce : Nat → Int32) (rn : Nat) : Nat → Nat → Int32
  | 0 => ce
  | c + 1 => upd (dd_rz ce rn c) (6 * rn + c) 0
section
variable {L R : Nat → dd_S} {B : Nat → Bool} {n : Nat} {P : Nat → dd_S} {pn : Nat} {ce : Nat → Int32} {rn : Nat} {mk : Nat → Int32}
theorem x_give {post : Int32 → SX → Prop} (hn : n < 10) (x y : dd_S) (p : Int32)
    (h : post (nI n) (xT (fun d => if d = n then x else L d) (fun d => if d = n then y else R d) (fun d => if d = n then !decide (p = 0) else B d) (n + 1) P pn ce rn mk)) : wpX_give post (xT L R B n P pn ce rn mk) (dd_i x) (dd_i y) p := by
  unfold wpX_give
  have v : vp_in (nI n) 10 := vp_in_nI hn (by decide)
  have fin : ∀ b : Bool, b = !decide (p = 0) → wX_give_65 post (dd_b b) (nI n) (nI n) (nI pn) (nI rn) (fun d => dd_i (if d = n then x else L d)) (fun d => dd_i (if d = n then y else R d)) (fun d => dd_b (B d)) (fun d => dd_i (P d)) ce mk := by
    rintro b rfl
    refine ⟨v, nm_r (e' := fun d => dd_b (if d = n then !decide (p = 0) else B d)) (by rw [dd_bv]; exact dd_updB B (by omega) _) (nm_r (nI_1 n) ?_)⟩
    rw [nI_pred]; exact h
  refine x_isSet x (br_f (by decide) (x_isSet y (br_f (by decide) (br_t (nI_lt hn (by decide)) ⟨v, nm_r (dd_updI L (by omega) x) ⟨v, nm_r (dd_updI R (by omega) y) (br_c (fun z => fin false ?_) (fun z => fin true ?_))⟩⟩))))
  · rw [decide_eq_true z]; rfl
  · rw [decide_eq_false z]; rfl
theorem x_row {post : Int32 → SX → Prop} (hr : rn < 6) (h : post (nI rn) (xT L R B n P pn (dd_rz ce rn 6) (rn + 1) mk)) : wpX_row post (xT L R B n P pn ce rn mk) := by
  refine br_t (nI_lt hr (by decide)) ?_
  refine dd_lp (fun m i a => wX_row_14 post (nI n) (nI pn) (nI rn) m (nI i) (fun d => dd_i (L d)) (fun d => dd_i (R d)) (fun d => dd_b (B d)) (fun d => dd_i (P d)) a mk) (dd_rz ce rn) (fun _ => True) 6 0 (by decide) trivial (fun m _ => ?_) (fun m i _ hi _ ih => ?_)
  · refine br_t (nI_le (Nat.le_refl 6) (by decide)) (nm_r (nI_1 rn) ?_)
    rw [nI_pred]; exact h
  · exact br_f (nI_ge hi (by decide)) ⟨by rw [dd_ixX]; exact vp_in_nI (by omega) (by decide), nm_r (e' := upd (dd_rz ce rn i) (6 * rn + i) 0) (by rw [dd_ixX, nI_clamp (by omega)]) (nm_r (nI_1 i) (ih _ rfl trivial))⟩
end
section
variable {L R : Nat → dd_S} {B : Nat → Bool} {n : Nat} {P : Nat → dd_S} {pn : Nat} {ce : Nat → Int32} {rn : Nat} {st sy : Nat → Int32} {v : SY}
theorem yM_0 {p : Nat → Bool} {kn cs : Nat → Int32} {tb : Nat → Int64} (h : ∀ q, q < 64 → kn q = 0) : yM p kn cs tb := fun x hx => absurd (h _ (dd_nlt x)) hx
theorem y_give {post : Int32 → SY → Prop} (hn : n < 10) (x y : dd_S) (p : Int32) (hv : yO L R B n P pn ce rn st sy v)
    (h : ∀ v', yO (fun d => if d = n then x else L d) (fun d => if d = n then y else R d) (fun d => if d = n then !decide (p = 0) else B d) (n + 1) P pn ce rn st sy v' → post (nI n) v') : wpY_give post v (dd_i x) (dd_i y) p := by
  obtain ⟨sm, md, kn, cs, tb, hM, rfl⟩ := hv
  unfold wpY_give
  have v : vp_in (nI n) 10 := vp_in_nI hn (by decide)
  have fin : ∀ b : Bool, b = !decide (p = 0) → wY_give_67 post (dd_b b) (nI n) (nI n) (nI pn) (nI rn) sm md (fun d => dd_i (if d = n then x else L d)) (fun d => dd_i (if d = n then y else R d)) (fun d => dd_b (B d)) (fun d => dd_i (P d)) ce kn cs tb st sy := by
    rintro b rfl
    refine ⟨v, nm_r (e' := fun d => dd_b (if d = n then !decide (p = 0) else B d)) (by rw [dd_bv]; exact dd_updB B (by omega) _) (nm_r (nI_1 n) (y_forget (n := n + 1) (L := fun d => if d = n then x else L d) (R := fun d => if d = n then y else R d) (B := fun d => if d = n then !decide (p = 0) else B d) fun kn' hk => ?_))⟩
    have w := h _ ⟨sm, md, kn', cs, tb, yM_0 hk, rfl⟩
    show post (nI (n + 1) - 1) _
    rw [nI_pred]; exact w
  refine y_isSet x (br_f (by decide) (y_isSet y (br_f (by decide) (pk_eq n 10 (fun z => by omega) (fun _ => ⟨v, nm_r (dd_updI L (by omega) x) ⟨v, nm_r (dd_updI R (by omega) y) (br_c (fun z => fin false ?_) (fun z => fin true ?_))⟩⟩)))))
  · rw [decide_eq_true z]; rfl
  · rw [decide_eq_false z]; rfl
theorem y_row {post : Int32 → SY → Prop} (hr : rn < 6) (hv : yO L R B n P pn ce rn st sy v)
    (h : ∀ v', yO L R B n P pn (dd_rz ce rn 6) (rn + 1) st sy v' → post (nI rn) v') : wpY_row post v := by
  obtain ⟨sm, md, kn, cs, tb, hM, rfl⟩ := hv
  refine pk_eq rn 6 (fun z => by omega) (fun _ => ?_)
  refine dd_lp (fun m i a => wY_row_14 post (nI n) (nI pn) (nI rn) sm md m (nI i) (fun d => dd_i (L d)) (fun d => dd_i (R d)) (fun d => dd_b (B d)) (fun d => dd_i (P d)) a kn cs tb st sy) (dd_rz ce rn) (fun _ => True) 6 0 (by decide) trivial (fun m _ => ?_) (fun m i _ hi _ ih => ?_)
  · refine br_t (nI_le (Nat.le_refl 6) (by decide)) (nm_r (nI_1 rn) ?_)
    rw [nI_pred]; exact h _ ⟨sm, md, kn, cs, tb, hM, rfl⟩
  · exact br_f (nI_ge hi (by decide)) ⟨by rw [dd_ixY]; exact vp_in_nI (by omega) (by decide), nm_r (e' := upd (dd_rz ce rn i) (6 * rn + i) 0) (by rw [dd_ixY, nI_clamp (by omega)]) (nm_r (nI_1 i) (ih _ rfl trivial))⟩
theorem y_closure {post : Int32 → SY → Prop} (hn : n ≤ 10) (x : dd_S) (hv : yO L R B n P pn ce rn st sy v)
    (h : ∀ v', yO L R B n P pn ce rn st sy v' → post (dd_i (dd_cl (dd_V1 L R B n) x)) v') : wpY_closure post v (dd_i x) := by
  obtain ⟨sm, md, kn, cs, tb, hM, rfl⟩ := hv
  unfold wpY_closure
  refine y_isSet x (br_f (by decide) (y_closureOf hn x ⟨sm, md, kn, cs, tb, hM, rfl⟩ fun v' hv' => ?_))
  obtain ⟨sm', md', kn', cs', tb', hM', rfl⟩ := hv'
  exact h _ ⟨sm', md', kn', cs', tb', hM', rfl⟩
theorem y_follows {post : Int32 → SY → Prop} (hn : n ≤ 10) (x y : dd_S) (hv : yO L R B n P pn ce rn st sy v)
    (h : ∀ v', yO L R B n P pn ce rn st sy v' → post (dd_b (dd_sB y (dd_cl (dd_V1 L R B n) x))) v') : wpY_follows post v (dd_i x) (dd_i y) := by
  obtain ⟨sm, md, kn, cs, tb, hM, rfl⟩ := hv
  unfold wpY_follows
  refine y_isSet x (br_f (by decide) (y_isSet y (br_f (by decide) (y_closureOf hn x ⟨sm, md, kn, cs, tb, hM, rfl⟩ fun v' hv' => ?_))))
  obtain ⟨sm', md', kn', cs', tb', hM', rfl⟩ := hv'
  have w := h _ ⟨sm', md', kn', cs', tb', hM', rfl⟩
  exact dd_brs y _ (fun g => by rw [dd_sBt g] at w; exact w) (fun g => by rw [dd_sBf g] at w; exact w)
theorem y_bundles {post : Int32 → SY → Prop} (hn : n ≤ 10) (x y : dd_S) (hv : yO L R B n P pn ce rn st sy v)
    (h : ∀ v', yO L R B n P pn ce rn st sy v' → post (dd_b (dd_aK (dd_V1 L R B n) x y true)) v') : wpY_bundles post v (dd_i x) (dd_i y) := by
  obtain ⟨sm, md, kn, cs, tb, hM, rfl⟩ := hv
  unfold wpY_bundles
  refine y_isSet x (br_f (by decide) (y_isSet y (br_f (by decide) (y_isBundle hn x y ⟨sm, md, kn, cs, tb, hM, rfl⟩ fun v' hv' => ?_))))
  obtain ⟨sm', md', kn', cs', tb', hM', rfl⟩ := hv'
  have w := h _ ⟨sm', md', kn', cs', tb', hM', rfl⟩
  exact dd_br (fun g => by rw [g] at w; exact w) (fun g => by rw [g] at w; exact w)
end
