/-! the reference's memo: grow, find, closureOf, isBundle -/
theorem dd_ft {Q : Prop} (z : false = true) : Q := absurd z (by decide)
theorem dd_tf {Q : Prop} (z : true = false) : Q := absurd z (by decide)
theorem dd_b1n : ¬ dd_b true = 0 := by decide
section
variable {L R : Nat → dd_S} {B : Nat → Bool} {n : Nat} {P : Nat → dd_S} {pn : Nat} {ce : Nat → Int32} {rn : Nat} {sm : Int32} {md : Int64} {kn cs : Nat → Int32} {tb : Nat → Int64} {st sy : Nat → Int32}
theorem y_grow30 {post : SY → Prop} {J : Int32 → Int32 → Int32 → Int32 → Int32 → Int64 → (Nat → Int32) → (Nat → Int32) → (Nat → Int32) → (Nat → Int32) → (Nat → Int32) → (Nat → Int32) → (Nat → Int32) → (Nat → Int64) → (Nat → Int32) → (Nat → Int32) → Prop}
    (hn : n ≤ 10) (c : Nat) {x S0 : dd_S} {md0 : Int64}
    (hJ : ∀ b S md, dd_I (dd_F L R B n (fun d => c.testBit d) false) (dd_F L R B n (fun d => c.testBit d) true) x S (dd_P md) → (b = false → S = S0 ∧ md = md0 ∧ ∀ k, k < n → c.testBit k = true → dd_cK S0 (L k) (R k) (B k) md0) → (b = true → dd_mu S md < dd_mu S0 md0) → J (dd_b b) (nI n) (nI pn) (nI rn) (dd_i S) md (fun d => dd_i (L d)) (fun d => dd_i (R d)) (fun d => dd_b (B d)) (fun d => dd_i (P d)) ce kn cs tb st sy)
    (I : dd_I (dd_F L R B n (fun d => c.testBit d) false) (dd_F L R B n (fun d => c.testBit d) true) x S0 (dd_P md0)) :
    ∃ m, wY_grow_30 post J (nI c) m 0 0 (nI n) (nI pn) (nI rn) (dd_i S0) md0 (fun d => dd_i (L d)) (fun d => dd_i (R d)) (fun d => dd_b (B d)) (fun d => dd_i (P d)) ce kn cs tb st sy := by
  refine pk_loop (σ := Bool × dd_S × Int64) (fun m k z => wY_grow_30 post J (nI c) m (dd_b z.1) (nI k) (nI n) (nI pn) (nI rn) (dd_i z.2.1) z.2.2 (fun d => dd_i (L d)) (fun d => dd_i (R d)) (fun d => dd_b (B d)) (fun d => dd_i (P d)) ce kn cs tb st sy)
    (fun k z => dd_I (dd_F L R B n (fun d => c.testBit d) false) (dd_F L R B n (fun d => c.testBit d) true) x z.2.1 (dd_P z.2.2) ∧ (z.1 = false → z.2.1 = S0 ∧ z.2.2 = md0 ∧ ∀ k', k' < k → c.testBit k' = true → dd_cK S0 (L k') (R k') (B k') md0) ∧ (z.1 = true → dd_mu z.2.1 z.2.2 < dd_mu S0 md0))
    n 0 (false, S0, md0) (Nat.zero_le n) ⟨I, fun _ => ⟨rfl, rfl, fun k' hk' => absurd hk' (Nat.not_lt_zero k')⟩, fun z => dd_ft z⟩ (fun m z hI => ?_) (fun m i z hi hI ih => ?_)
  · obtain ⟨mo, S, md⟩ := z
    exact br_t (nI_le (Nat.le_refl n) (by omega)) (hJ mo S md hI.1 hI.2.1 hI.2.2)
  · obtain ⟨mo, S, md⟩ := z
    obtain ⟨h1, h2, h3⟩ := hI
    have h1' : dd_I (dd_F L R B n (fun d => c.testBit d) false) (dd_F L R B n (fun d => c.testBit d) true) x S (dd_P md) := h1
    have h2' : mo = false → S = S0 ∧ md = md0 ∧ ∀ k', k' < i → c.testBit k' = true → dd_cK S0 (L k') (R k') (B k') md0 := h2
    have h3' : mo = true → dd_mu S md < dd_mu S0 md0 := h3
    have same : (c.testBit i = true → dd_cK S (L i) (R i) (B i) md) → wY_grow_58 post J (wY_grow_30 post J (nI c) m) (nI c) (dd_b mo) (nI i) (nI n) (nI pn) (nI rn) (dd_i S) md (fun d => dd_i (L d)) (fun d => dd_i (R d)) (fun d => dd_b (B d)) (fun d => dd_i (P d)) ce kn cs tb st sy := fun hc => by
      refine dd_br (fun e => nm_r (nI_1 i) (ih (false, S, md) ⟨h1', fun _ => ?_, fun z => dd_ft z⟩)) (fun e => nm_r (nI_1 i) (ih (true, S, md) ⟨h1', fun z => dd_tf z, fun _ => h3' e⟩))
      obtain ⟨a1, a2, a3⟩ := h2' e
      refine ⟨a1, a2, fun k' hk' hb => ?_⟩
      rcases Nat.lt_or_ge k' i with z | z
      · exact a3 k' z hb
      · have e2 : k' = i := by omega
        subst e2
        have := hc hb
        rw [a1, a2] at this; exact this
    refine br_f (nI_ge hi (by omega)) (dd_if (d := c.testBit i = true) (by rw [dd_nbit c (by omega), dd_b1I]) (fun g => ?_) (fun g => same fun z => absurd z g))
    refine y_use (k := i) (by omega) (fun hb => ⟨i, hi, g, hb, rfl, rfl⟩) (fun hb => ⟨i, hi, g, hb, rfl, rfl⟩) h1' fun S' md' b I' k0 k1 => ?_
    refine dd_br (fun e => ?_) (fun e => nm_r (nI_1 i) (ih (true, S', md') ⟨I', fun z => dd_tf z, fun _ => ?_⟩))
    · obtain ⟨rfl, rfl, hc⟩ := k0 e
      exact same fun _ => hc
    · have m1 : dd_mu S' md' < dd_mu S md := k1 e
      show dd_mu S' md' < dd_mu S0 md0
      cases mo with
      | false => obtain ⟨a1, a2, _⟩ := h2' rfl; rw [a1, a2] at m1; exact m1
      | true => have := h3' rfl; omega
theorem y_grow {post : SY → Prop} (hn : n ≤ 10) (c : Nat) (x : dd_S)
    (h : ∀ md', (∀ y, dd_m md' (~~~(x ||| y) &&& ~~~(dd_cl (dd_v L R B n (fun d => c.testBit d)) x)).toNat = dd_aK (dd_v L R B n (fun d => c.testBit d)) x y true) →
      post (yT L R B n P pn ce rn (dd_i (dd_cl (dd_v L R B n (fun d => c.testBit d)) x)) md' kn cs tb st sy)) :
    wpY_grow post (yT L R B n P pn ce rn sm md kn cs tb st sy) (dd_i x) (nI c) := by
  refine nm_r (e' := (1 : Int64) ||| ((1 : Int64) <<< ((dd_i (~~~x)).toInt64 &&& 63))) (by rw [dd_63n]) ?_
  have hst : ∀ r, dd_P ((1 : Int64) ||| ((1 : Int64) <<< ((dd_i (~~~x)).toInt64 &&& 63))) r ↔ r = 0#6 ∨ r = ~~~x := fun r => by
    unfold dd_P
    have e := dd_set (1 : Int64) (dd_nlt (~~~x)) r.toNat
    have e2 : dd_m ((1 : Int64) ||| ((1 : Int64) <<< ((dd_i (~~~x)).toInt64 &&& 63))) r.toNat = (dd_m (1 : Int64) r.toNat || decide ((~~~x).toNat = r.toNat)) := e
    have e3 : dd_m (1 : Int64) r.toNat = Nat.testBit 1 r.toNat := dd_mN 1 (dd_nlt r)
    rw [e2, e3, Bool.or_eq_true, decide_eq_true_eq]
    refine ⟨fun h => h.imp (fun z => ?_) (fun z => (BitVec.eq_of_toNat_eq z).symm), fun h => h.imp (fun z => by rw [z]; rfl) (fun z => by rw [z])⟩
    have : r.toNat = 0 := by
      cases q : r.toNat with
      | zero => rfl
      | succ k => rw [q, Nat.testBit_succ] at z; simp at z
    exact BitVec.eq_of_toNat_eq this
  refine loop_m (σ := Bool × dd_S × Int64) (fun m z => wY_grow_21 post (nI c) m (dd_b z.1) (nI n) (nI pn) (nI rn) (dd_i z.2.1) z.2.2 (fun d => dd_i (L d)) (fun d => dd_i (R d)) (fun d => dd_b (B d)) (fun d => dd_i (P d)) ce kn cs tb st sy)
    (fun z => dd_I (dd_F L R B n (fun d => c.testBit d) false) (dd_F L R B n (fun d => c.testBit d) true) x z.2.1 (dd_P z.2.2) ∧ (z.1 = false → ∀ k, k < n → c.testBit k = true → dd_cK z.2.1 (L k) (R k) (B k) z.2.2))
    (fun z => (if z.1 = true then 1 else 0) + dd_mu z.2.1 z.2.2) (fun m z hI ih => ?_) (true, x, (1 : Int64) ||| ((1 : Int64) <<< ((dd_i (~~~x)).toInt64 &&& 63))) ⟨dd_Istart hst, fun z => dd_tf z⟩
  obtain ⟨mo, S, md⟩ := z
  have hI' : dd_I (dd_F L R B n (fun d => c.testBit d) false) (dd_F L R B n (fun d => c.testBit d) true) x S (dd_P md) := hI.1
  cases mo with
  | false =>
    have hc : ∀ k, k < n → c.testBit k = true → dd_cK S (L k) (R k) (B k) md := hI.2 rfl
    have hMc : dd_Cl (dd_F L R B n (fun d => c.testBit d) true) (dd_P md) := by
      rintro l r ⟨d, hd, hb, hB, rfl, rfl⟩ a b ha hb' e
      exact (hc d hd hb).1 hB a b ha hb' e
    have hFc : ∀ l r, dd_F L R B n (fun d => c.testBit d) false l r → ∀ a b, dd_P md a → dd_P md b → (a ^^^ b) &&& l = 0#6 → (a ^^^ b) &&& r = 0#6 := by
      rintro l r ⟨d, hd, hb, hB, rfl, rfl⟩ a b ha hb' e
      exact (hc d hd hb).2 hB a b ha hb' e
    have eS : S = dd_cl (dd_v L R B n (fun d => c.testBit d)) x := dd_clU fun i hi => by
      rw [(dd_Iend hI' hMc hFc).1 i hi]
      exact ⟨fun h T h1 h2 => h T (dd_vI.mp h1) h2, fun h T h1 h2 => h T (dd_vI.mpr h1) h2⟩
    subst eS
    refine br_t rfl (h md fun y => Bool.eq_iff_iff.mpr ?_)
    have := dd_Ibun hI' hMc hFc y
    unfold dd_P at this
    rw [this, dd_aKI]
    exact ⟨fun h T h1 => h T (dd_vI.mp h1), fun h T h1 => h T (dd_vI.mpr h1)⟩
  | true =>
    refine br_f dd_b1n (y_grow30 hn c (fun b S' md' I' k0 k1 => ih (b, S', md') ⟨I', fun e => ?_⟩ ?_) hI')
    · obtain ⟨rfl, rfl, hc⟩ := k0 e
      exact hc
    · show (if b = true then 1 else 0) + dd_mu S' md' < (if true = true then 1 else 0) + dd_mu S md
      cases b with
      | false => obtain ⟨rfl, rfl, _⟩ := k0 rfl; simp
      | true => have := k1 rfl; simp; exact this
/-- what is known is right -/
def yM (p : Nat → Bool) (kn cs : Nat → Int32) (tb : Nat → Int64) : Prop :=
  ∀ x : dd_S, ¬ kn x.toNat = 0 → cs x.toNat = dd_i (dd_cl p x) ∧ ∀ y, dd_m (tb x.toNat) (~~~(x ||| y) &&& ~~~(dd_cl p x)).toNat = dd_aK p x y true
def yO (L R : Nat → dd_S) (B : Nat → Bool) (n : Nat) (P : Nat → dd_S) (pn : Nat) (ce : Nat → Int32) (rn : Nat) (st sy : Nat → Int32) (v : SY) : Prop :=
  ∃ sm md kn cs tb, yM (dd_V1 L R B n) kn cs tb ∧ v = yT L R B n P pn ce rn sm md kn cs tb st sy
theorem y_find {post : SY → Prop} {p : Int32} (hn : n ≤ 10) (x : dd_S) (hM : yM (dd_V1 L R B n) kn cs tb)
    (h : ∀ sm' md' kn' cs' tb', yM (dd_V1 L R B n) kn' cs' tb' → ¬ kn' x.toNat = 0 → post (yT L R B n P pn ce rn sm' md' kn' cs' tb' st sy)) (hp : p = dd_i x := by rfl) :
    wpY_find post (yT L R B n P pn ce rn sm md kn cs tb st sy) p := by
  subst hp
  refine ⟨dd_ilt x, ?_⟩
  rw [dd_icl]
  refine br_c (fun g => ?_) (fun g => h _ _ _ _ _ hM g)
  refine y_grow hn 1023 x fun md' hmd => ?_
  refine ⟨dd_ilt x, nm_e ⟨dd_ilt x, nm_e ⟨dd_ilt x, nm_e (h _ _ _ _ _ ?_ ?_)⟩⟩⟩
  · intro z hz
    by_cases e : z = x
    · subst e
      rw [pk_us, pk_uLs]
      exact ⟨rfl, hmd⟩
    · have e2 : z.toNat ≠ x.toNat := fun w => e (BitVec.eq_of_toNat_eq w)
      rw [pk_un e2] at hz ⊢
      rw [pk_uLn e2]
      exact hM z hz
  · rw [pk_us]
    exact by decide
theorem y_closureOf {post : Int32 → SY → Prop} {p : Int32} {v : SY} (hn : n ≤ 10) (x : dd_S) (hv : yO L R B n P pn ce rn st sy v)
    (h : ∀ v', yO L R B n P pn ce rn st sy v' → post (dd_i (dd_cl (dd_V1 L R B n) x)) v') (hp : p = dd_i x := by rfl) : wpY_closureOf post v p := by
  subst hp
  obtain ⟨sm, md, kn, cs, tb, hM, rfl⟩ := hv
  unfold wpY_closureOf
  refine y_find hn x hM fun sm' md' kn' cs' tb' hM' hk => ⟨dd_ilt x, ?_⟩
  have w := h _ ⟨sm', md', kn', cs', tb', hM', rfl⟩
  rw [← (hM' x hk).1] at w
  rw [dd_icl]
  exact w
theorem y_isBundle {post : Int32 → SY → Prop} {p q : Int32} {v : SY} (hn : n ≤ 10) (x y : dd_S) (hv : yO L R B n P pn ce rn st sy v)
    (h : ∀ v', yO L R B n P pn ce rn st sy v' → post (dd_b (dd_aK (dd_V1 L R B n) x y true)) v') (hp : p = dd_i x := by rfl) (hq : q = dd_i y := by rfl) : wpY_isBundle post v p q := by
  subst hp hq
  obtain ⟨sm, md, kn, cs, tb, hM, rfl⟩ := hv
  unfold wpY_isBundle
  refine y_find hn x hM fun sm' md' kn' cs' tb' hM' hk => ⟨dd_ilt x, ?_⟩
  have w := h _ ⟨sm', md', kn', cs', tb', hM', rfl⟩
  obtain ⟨h1, h2⟩ := hM' x hk
  rw [← h2 y] at w
  refine nm_r (e' := dd_i (~~~(x ||| y) &&& ~~~(dd_cl (dd_V1 L R B n) x))) (by rw [dd_icl, h1, dd_or, dd_63n, dd_andn]) ⟨dd_ilt x, ?_⟩
  rw [dd_icl]
  exact dd_brm (~~~(x ||| y) &&& ~~~(dd_cl (dd_V1 L R B n) x)).toNat (dd_nlt _) (fun g => by rw [g] at w; exact w) (fun g => by rw [g] at w; exact w)
end
