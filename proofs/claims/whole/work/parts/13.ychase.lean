/-! the reference's chase -/
abbrev yT (L R : Nat → dd_S) (B : Nat → Bool) (n : Nat) (P : Nat → dd_S) (pn : Nat) (ce : Nat → Int32) (rn : Nat) (sm : Int32) (md : Int64) (kn cs : Nat → Int32) (tb : Nat → Int64) (st sy : Nat → Int32) : SY :=
  (nI n, nI pn, nI rn, sm, md, (fun d => dd_i (L d)), (fun d => dd_i (R d)), (fun d => dd_b (B d)), (fun d => dd_i (P d)), ce, kn, cs, tb, st, sy)
section
variable {L R : Nat → dd_S} {B : Nat → Bool} {n : Nat} {P : Nat → dd_S} {pn : Nat} {ce : Nat → Int32} {rn : Nat} {sm : Int32} {md : Int64} {kn cs : Nat → Int32} {tb : Nat → Int64} {st sy : Nat → Int32}
theorem y_isSet {post : Int32 → Prop} {p : Int32} (x : dd_S) (h : post 1) (hp : p = dd_i x := by rfl) : wpY_isSet post (yT L R B n P pn ce rn sm md kn cs tb st sy) p := by
  subst hp
  exact br_f (nI_pos (dd_nlt31 x)) (br_f (nI_nlt (a := 63) (b := x.toNat) (by have := dd_nlt x; omega) (by decide)) h)
theorem y_isSetF {post : Int32 → Prop} {p : Int32} (hp : dd_bad p) (h : post 0) : wpY_isSet post (yT L R B n P pn ce rn sm md kn cs tb st sy) p := by
  rcases hp with hp | ⟨h0, hp⟩
  · exact br_t hp h
  · exact br_f h0 (br_t hp h)
theorem y_has {post : Int32 → Prop} {q : Int32} (t : Nat) (ht : t < 64) (h : post (dd_b (dd_m md t))) (hq : q = nI t := by rfl) : wpY_has post (yT L R B n P pn ce rn sm md kn cs tb st sy) q :=
  dd_brm t ht (fun z => by rw [z] at h; exact h) (fun z => by rw [z] at h; exact h) hq
theorem y_equate {post : SY → Prop} (S c : dd_S)
    (h : ∀ md', (∀ r, dd_P md' r ↔ ∃ s, dd_P md s ∧ s &&& ~~~(S ||| c) = r) → post (yT L R B n P pn ce rn (dd_i (S ||| c)) md' kn cs tb st sy)) :
    wpY_equate post (yT L R B n P pn ce rn (dd_i S) md kn cs tb st sy) (dd_i c) := by
  refine nm_r (dd_or S c) ?_
  refine pk_loop (fun m i g => wY_equate_23 post md (nI n) (nI pn) (nI rn) (dd_i (S ||| c)) (fun d => dd_i (L d)) (fun d => dd_i (R d)) (fun d => dd_b (B d)) (fun d => dd_i (P d)) ce kn cs tb st sy m (nI i) g)
    (fun i g => ∀ t, t < 64 → (dd_m g t = true ↔ ∃ s, s < i ∧ dd_m md s = true ∧ (dd_n s &&& ~~~(S ||| c)).toNat = t)) 64 0 0 (by decide)
    (fun t _ => by rw [dd_mz]; exact ⟨fun z => absurd z (by decide), fun ⟨s, hs, _⟩ => absurd hs (Nat.not_lt_zero s)⟩) (fun m g hI => ?_) (fun m i g hi hI ih => ?_)
  · refine br_t (nI_le (Nat.le_refl 64) (by decide)) (h g fun r => ?_)
    unfold dd_P
    rw [hI _ (dd_nlt r)]
    constructor
    · rintro ⟨s, hs, h1, h2⟩
      exact ⟨dd_n s, by rw [dd_nt hs]; exact h1, BitVec.eq_of_toNat_eq h2⟩
    · rintro ⟨s, h1, h2⟩
      exact ⟨s.toNat, dd_nlt s, h1, by rw [dd_nn, h2]⟩
  · refine br_f (nI_ge hi (by decide)) (dd_brm i hi (fun g1 => nm_r (by rw [dd_ni hi, dd_andn]) (nm_r (nI_1 i) (ih (g ||| ((1 : Int64) <<< ((dd_i (dd_n i &&& ~~~(S ||| c))).toInt64 &&& 63))) fun t ht => ?_))) (fun g1 => nm_r (nI_1 i) (ih g fun t ht => ?_)))
    · have e := dd_set g (dd_nlt (dd_n i &&& ~~~(S ||| c))) t
      have e2 : dd_m (g ||| ((1 : Int64) <<< ((dd_i (dd_n i &&& ~~~(S ||| c))).toInt64 &&& 63))) t = (dd_m g t || decide ((dd_n i &&& ~~~(S ||| c)).toNat = t)) := e
      rw [e2, Bool.or_eq_true, decide_eq_true_eq, hI t ht]
      constructor
      · rintro (⟨s, h1, h2⟩ | h1)
        · exact ⟨s, by omega, h2⟩
        · exact ⟨i, by omega, g1, h1⟩
      · rintro ⟨s, h1, h2, h3⟩
        rcases Nat.lt_or_ge s i with z | z
        · exact Or.inl ⟨s, z, h2, h3⟩
        · rw [show s = i by omega] at h3
          exact Or.inr h3
    · rw [hI t ht]
      constructor
      · rintro ⟨s, h1, h2⟩
        exact ⟨s, by omega, h2⟩
      · rintro ⟨s, h1, h2, h3⟩
        rcases Nat.lt_or_ge s i with z | z
        · exact ⟨s, z, h2, h3⟩
        · rw [show s = i by omega, g1] at h2
          exact absurd h2 (by decide)
variable {F M : dd_S → dd_S → Prop} {x S l r : dd_S} {bd : Bool} {bf : Int64}
theorem y_use39 {post : Int32 → SY → Prop} {J : Int32 → Int32 → Int64 → Prop} {k Rr : Nat} (hk : k < 10) (hR : Rr < 64) (hb : B k = bd) (hF : bd = false → F l r) (hM : bd = true → M l r) (eq : dd_S) (md : Int64)
    (hJ : ∀ eq md, dd_U F M x S l r bd bf (dd_pr (Rr + 1) 0) md eq → J (dd_i eq) (nI (Rr + 1)) md) (U : dd_U F M x S l r bd bf (dd_pr Rr 0) md eq) :
    ∃ m, wY_use_39 post J (nI k) (dd_i l) (dd_i r) bf (nI Rr) (nI n) (nI pn) (nI rn) (dd_i S) (fun d => dd_i (L d)) (fun d => dd_i (R d)) (fun d => dd_b (B d)) (fun d => dd_i (P d)) ce kn cs tb st sy m (dd_i eq) 0 md := by
  refine pk_loop (σ := dd_S × Int64) (fun m i z => wY_use_39 post J (nI k) (dd_i l) (dd_i r) bf (nI Rr) (nI n) (nI pn) (nI rn) (dd_i S) (fun d => dd_i (L d)) (fun d => dd_i (R d)) (fun d => dd_b (B d)) (fun d => dd_i (P d)) ce kn cs tb st sy m (dd_i z.1) (nI i) z.2)
    (fun i z => dd_U F M x S l r bd bf (dd_pr Rr i) z.2 z.1) 64 0 (eq, md) (by decide) U (fun m z hU => ?_) (fun m i z hi hU ih => ?_)
  · exact br_t (nI_le (Nat.le_refl 64) (by decide)) (nm_r (nI_1 Rr) (hJ z.1 z.2 (dd_Uskip hU fun a b hp => Or.inl (dd_pr2 hp))))
  · obtain ⟨eq, md⟩ := z
    have hU' : dd_U F M x S l r bd bf (dd_pr Rr i) md eq := hU
    have v : vp_in (nI k) 10 := vp_in_nI hk (by decide)
    have eB : (fun d => dd_b (B d)) (nI k).toNatClampNeg = dd_b bd := (dd_ix (fun d => dd_b (B d)) (i := k) (by omega)).trans (congrArg dd_b hb)
    refine br_f (nI_ge hi (by decide)) (y_has Rr hR (dd_br (fun g1 => nm_r (nI_1 Rr) (hJ eq md (dd_Uskip hU' fun a b hp => ?_))) (fun g1 => y_has i hi (dd_br (fun g2 => nm_r (nI_1 i) (ih (eq, md) (dd_Uskip hU' fun a b hp => ?_))) (fun g2 => ?_)))))
    · rcases dd_pr2 hp with z | ⟨z1, z2⟩
      · exact Or.inl (Or.inl z)
      · refine Or.inr fun w => ?_
        have := hU'.2.1 _ (dd_nlt a) w.1
        rw [z1, g1] at this
        exact absurd this (by decide)
    · rcases dd_pr1 hp with z | ⟨z1, z2⟩
      · exact Or.inl z
      · refine Or.inr fun w => ?_
        have := hU'.2.1 _ (dd_nlt b) w.2.1
        rw [z2, dd_nt hi, g2] at this
        exact absurd this (by decide)
    · refine dd_if (d := (dd_n Rr ^^^ dd_n i) &&& l = 0#6) (by rw [dd_ni hR, dd_ni hi, dd_xor, dd_and, dd_iz]) (fun g3 => ?_) (fun g3 => nm_r (nI_1 i) (ih (eq, md) (dd_Uskip hU' fun a b hp => ?_)))
      · have hPa : dd_P md (dd_n Rr) := by unfold dd_P; rw [dd_nt hR]; exact g1
        have hPb : dd_P md (dd_n i) := by unfold dd_P; rw [dd_nt hi]; exact g2
        refine nm_r (e' := dd_i (dd_mix (l ||| r) (dd_n Rr) (dd_n i))) (by rw [dd_ni hR, dd_ni hi, dd_or, dd_and, dd_andn, dd_or]; rfl) ⟨v, ?_⟩
        rw [eB]
        cases bd with
        | false =>
          refine br_t rfl ⟨v, ?_⟩
          rw [eB]
          refine br_t rfl (nm_r (e' := dd_i (eq ||| ((dd_n Rr ^^^ dd_n i) &&& r))) (by rw [dd_ni hR, dd_ni hi, dd_xor, dd_and, dd_or]) (nm_r (nI_1 i) (ih (eq ||| ((dd_n Rr ^^^ dd_n i) &&& r), md) ?_)))
          exact dd_UF hU' (hF rfl) hPa hPb g3 fun a b hp => dd_pr1 hp
        | true =>
          refine br_f (by decide) ⟨v, ?_⟩
          rw [eB]
          refine br_f (by decide) (nm_r (nI_1 i) (ih (eq, md ||| ((1 : Int64) <<< ((dd_i (dd_mix (l ||| r) (dd_n Rr) (dd_n i))).toInt64 &&& 63))) ?_))
          exact dd_UM hU' (hM rfl) hPa hPb g3 (fun a b hp => dd_pr1 hp) fun t ht => dd_set md (dd_nlt (dd_mix (l ||| r) (dd_n Rr) (dd_n i))) t
      · rcases dd_pr1 hp with z | ⟨z1, z2⟩
        · exact Or.inl z
        · exact Or.inr fun w => g3 (by rw [← z1, ← z2]; exact w.2.2)
theorem y_use {post : Int32 → SY → Prop} {k : Nat} (hk : k < 10) (hF : B k = false → F (L k) (R k)) (hM : B k = true → M (L k) (R k)) (I : dd_I F M x S (dd_P md))
    (h : ∀ S' md' b, dd_I F M x S' (dd_P md') → (b = false → S' = S ∧ md' = md ∧ dd_cK S (L k) (R k) (B k) md) → (b = true → dd_mu S' md' < dd_mu S md) → post (dd_b b) (yT L R B n P pn ce rn (dd_i S') md' kn cs tb st sy)) :
    wpY_use post (yT L R B n P pn ce rn (dd_i S) md kn cs tb st sy) (nI k) := by
  have v : vp_in (nI k) 10 := vp_in_nI hk (by decide)
  refine ⟨v, nm_r (dd_ix (fun d => dd_i (L d)) (by omega)) ⟨v, nm_r (dd_ix (fun d => dd_i (R d)) (by omega)) ?_⟩⟩
  refine pk_loop (σ := dd_S × Int64) (fun m i z => wY_use_29 post (nI k) (dd_i (L k)) (dd_i (R k)) md (nI n) (nI pn) (nI rn) (dd_i S) (fun d => dd_i (L d)) (fun d => dd_i (R d)) (fun d => dd_b (B d)) (fun d => dd_i (P d)) ce kn cs tb st sy m (dd_i z.1) (nI i) z.2)
    (fun i z => dd_U F M x S (L k) (R k) (B k) md (dd_pr i 0) z.2 z.1) 64 0 (S, md) (by decide) (dd_Ustart I) (fun m z hU => ?_) (fun m i z hi hU ih => ?_)
  · obtain ⟨eq, md1⟩ := z
    have hU' : dd_U F M x S (L k) (R k) (B k) md (dd_pr 64 0) md1 eq := hU
    refine br_t (nI_le (Nat.le_refl 64) (by decide)) (dd_bre eq S (fun g1 => ?_) (fun g1 => y_equate S eq fun md2 hm2 => ?_))
    · refine br_c (fun g2 => h S md1 false hU'.1 (fun _ => ⟨rfl, g2, dd_Uend hU' g1 g2⟩) (fun z => absurd z (by decide))) (fun g2 => h S md1 true hU'.1 (fun z => absurd z (by decide)) (fun _ => dd_mu2 (dd_mlt hU'.2.1 fun z => g2 z.symm)))
    · have hbd : B k = false := by
        cases hb : B k with
        | false => rfl
        | true => exact absurd (hU'.2.2.2.2.1 hb) g1
      have hmd : md1 = md := hU'.2.2.2.2.2.1 hbd
      have hSe : dd_sub S eq := hU'.2.2.1
      have eS : S ||| eq = eq := dd_anti (dd_orle hSe (dd_refl eq)) (dd_orr S eq)
      rw [eS] at hm2 ⊢
      have I2 : dd_I F M x eq (dd_P md2) := dd_Ieq hU'.1 hSe hU'.2.2.2.1 hm2
      have ne : ¬ md2 = md := fun z => by
        obtain ⟨q, hq1, hq2⟩ := dd_Ine hU'.1 hSe (fun z => g1 z.symm)
        rw [hmd, ← z] at hq1
        exact hq2 (I2.2.2.2.2.2 q hq1)
      exact br_f ne (h eq md2 true I2 (fun z => absurd z (by decide)) (fun _ => dd_mu1 (dd_slt hSe fun z => g1 z.symm)))
  · obtain ⟨eq, md1⟩ := z
    have hU' : dd_U F M x S (L k) (R k) (B k) md (dd_pr i 0) md1 eq := hU
    exact br_f (nI_ge hi (by decide)) (y_use39 hk hi rfl hF hM eq md1 (fun eq md h => ih (eq, md) h) hU')
end
