/-! lossless, the reference's side -/
section
variable {L R : Nat → dd_S} {B : Nat → Bool} {n : Nat} {P : Nat → dd_S} {pn : Nat} {ce : Nat → Int32} {rn : Nat} {sm : Int32} {md : Int64} {kn cs : Nat → Int32} {tb : Nat → Int64} {st sy : Nat → Int32}
theorem y_likeOn {post : Int32 → Prop} {a b w : Int32} (hp : pn ≤ 4) {g : Nat → Nat → Nat} (hR : mk_R sy pn g) (hb : ∀ i c, i < pn → c < 6 → g i c ≤ 4) (p q : Nat) (hpp : p < pn) (hq : q < pn) (x : dd_S)
    (h : post (dd_b (dd_al (fun c => !x.getLsbD c || decide (g p c = g q c)) 6))) (h1 : a = nI p := by rfl) (h2 : b = nI q := by rfl) (h3 : w = dd_i x := by rfl) : wpY_likeOn post (yT L R B n P pn ce rn sm md kn cs tb st sy) a b w := by
  subst h1 h2 h3
  refine dd_lp (σ := Unit) (fun m c _ => wY_likeOn_3 post (nI p) (nI q) (dd_i x) (nI n) (nI pn) (nI rn) sm md (fun d => dd_i (L d)) (fun d => dd_i (R d)) (fun d => dd_b (B d)) (fun d => dd_i (P d)) ce kn cs tb st sy m (nI c)) (fun _ => ()) (fun i => dd_al (fun c => !x.getLsbD c || decide (g p c = g q c)) i = true) 6 0 (by decide) rfl (fun m hJ => ?_) (fun m c _ hc hJ ih => ?_)
  · rw [hJ] at h
    exact br_t (nI_le (Nat.le_refl 6) (by decide)) h
  · have b1 := hb p c hpp hc
    have b2 := hb q c hq hc
    refine br_f (nI_ge hc (by decide)) (dd_brb x c (by omega) (fun g1 => ⟨by rw [dd_ixY]; exact vp_in_nI (by omega) (by decide), by rw [dd_ixY]; exact vp_in_nI (by omega) (by decide), dd_if (d := g p c = g q c) (by rw [dd_ixY, dd_ixY, nI_clamp (by omega), nI_clamp (by omega), hR p c hpp hc, hR q c hq hc, nI_eq (by omega) (by omega)]) (fun z => nm_r (nI_1 c) (ih () rfl (dd_alS hJ ?_))) (fun z => ?_)⟩) (fun g1 => nm_r (nI_1 c) (ih () rfl (dd_alS hJ ?_))))
    · rw [decide_eq_true z, Bool.or_true]
    · rw [dd_alF (q := fun c => !x.getLsbD c || decide (g p c = g q c)) hc (by rw [g1, decide_eq_false z]; rfl)] at h
      exact h
    · rw [g1]; rfl
/-- one column merged -/
theorem y_merge64 {post : Int32 → SY → Prop} {J : Int32 → Int32 → (Nat → Int32) → (Nat → Int32) → (Nat → Int32) → (Nat → Int32) → (Nat → Int32) → (Nat → Int32) → (Nat → Int32) → (Nat → Int64) → (Nat → Int32) → (Nat → Int32) → Prop} {x1 x2 x3 x4 : Int32}
    (hp : pn ≤ 4) {g : Nat → Nat → Nat} (hR : mk_R sy pn g) (hb : ∀ i c, i < pn → c < 6 → g i c ≤ 4) (c : Nat) (hc : c < 6) (a1 b1 : Nat) (ha : a1 ≤ 4) (hb1 : b1 ≤ 4)
    (hJ : ∀ sy', mk_R sy' pn (mk_mg g c a1 b1) → J x4 (nI (c + 1)) (fun d => dd_i (L d)) (fun d => dd_i (R d)) (fun d => dd_b (B d)) (fun d => dd_i (P d)) ce kn cs tb st sy') :
    ∃ m, wY_merge_64 post J x1 x2 x3 x4 (nI c) (nI a1) (nI b1) (nI n) (nI pn) (nI rn) sm md m 0 (fun d => dd_i (L d)) (fun d => dd_i (R d)) (fun d => dd_b (B d)) (fun d => dd_i (P d)) ce kn cs tb st sy := by
  refine pk_loop (fun m i a => wY_merge_64 post J x1 x2 x3 x4 (nI c) (nI a1) (nI b1) (nI n) (nI pn) (nI rn) sm md m (nI i) (fun d => dd_i (L d)) (fun d => dd_i (R d)) (fun d => dd_b (B d)) (fun d => dd_i (P d)) ce kn cs tb st a) (fun i a => ∀ r d, r < pn → d < 6 → a (6 * r + d) = nI (if r < i then mk_mg g c a1 b1 r d else g r d)) pn 0 sy (Nat.zero_le pn) (fun r d hr hd => by rw [if_neg (Nat.not_lt_zero r)]; exact hR r d hr hd) (fun m a hI => ?_) (fun m i a hi hI ih => ?_)
  · refine br_t (nI_le (Nat.le_refl pn) (by omega)) (nm_r (nI_1 c) (hJ a fun r d hr hd => ?_))
    rw [hI r d hr hd, if_pos hr]
  · have vi : vp_in (6 * nI i + nI c) 24 := by rw [dd_ixY]; exact vp_in_nI (by omega) (by decide)
    have ei : a (6 * i + c) = nI (g i c) := by rw [hI i c hi hc, if_neg (Nat.lt_irrefl i)]
    have hgi := hb i c hi hc
    have fin : ∀ x : Nat, x = mk_mg g c a1 b1 i c → ∀ r d, r < pn → d < 6 → upd a (6 * i + c) (nI x) (6 * r + d) = nI (if r < i + 1 then mk_mg g c a1 b1 r d else g r d) := by
      rintro x rfl r d hr hd
      by_cases e : r = i ∧ d = c
      · rw [e.1, e.2, pk_us, if_pos (Nat.lt_succ_self i)]
      · rw [pk_un (by omega), hI r d hr hd]
        by_cases e2 : r < i
        · rw [if_pos e2, if_pos (by omega)]
        · by_cases e3 : r = i
          · rw [if_neg e2, if_pos (by omega)]
            unfold mk_mg
            rw [if_neg fun z => e ⟨e3, z.1⟩]
          · rw [if_neg e2, if_neg (by omega)]
    have put : (g i c = a1 ∨ g i c = b1) → wY_merge_109 post J (wY_merge_64 post J x1 x2 x3 x4 (nI c) (nI a1) (nI b1) (nI n) (nI pn) (nI rn) sm md m) x1 x2 x3 x4 (nI c) (nI a1) (nI b1) (nI i) (nI n) (nI pn) (nI rn) sm md (fun d => dd_i (L d)) (fun d => dd_i (R d)) (fun d => dd_b (B d)) (fun d => dd_i (P d)) ce kn cs tb st a := by
      intro hh
      have em : mk_mg g c a1 b1 i c = min a1 b1 := by unfold mk_mg; rw [if_pos ⟨rfl, hh⟩]
      refine br_f (by decide) (pk_le b1 a1 (fun z => ⟨vi, nm_r (e' := upd a (6 * i + c) (nI b1)) (by rw [dd_ixY, nI_clamp (by omega)]) (nm_r (nI_1 i) (ih _ (fin b1 ?_)))⟩) (fun z => ⟨vi, nm_r (e' := upd a (6 * i + c) (nI a1)) (by rw [dd_ixY, nI_clamp (by omega)]) (nm_r (nI_1 i) (ih _ (fin a1 ?_)))⟩))
      · rw [em, Nat.min_eq_right z]
      · rw [em, Nat.min_eq_left (by omega)]
    refine br_f (nI_ge hi (by omega)) ⟨vi, dd_if (d := g i c = a1) (by rw [dd_ixY, nI_clamp (by omega), ei, nI_eq (by omega) (by omega)]) (fun z => put (Or.inl z)) (fun z => ⟨vi, dd_if (d := g i c = b1) (by rw [dd_ixY, nI_clamp (by omega), ei, nI_eq (by omega) (by omega)]) (fun z2 => put (Or.inr z2)) (fun z2 => br_t rfl ⟨vi, vi, nm_r (e' := upd a (6 * i + c) (nI (g i c))) (by rw [dd_ixY, nI_clamp (by omega), ei]) (nm_r (nI_1 i) (ih _ (fin (g i c) ?_)))⟩)⟩)⟩
    unfold mk_mg
    rw [if_neg fun w => by rcases w.2 with y | y <;> omega]
theorem y_merge {post : Int32 → SY → Prop} {a b w : Int32} (hp : pn ≤ 4) {F : dd_S → dd_S → Prop} {g : Nat → Nat → Nat} (hR : mk_R sy pn g) (I : mk_I F pn (mk_h P) g) (p q : Nat) (hpp : p < pn) (hq : q < pn) (y : dd_S)
    (hg : ∀ c, y.getLsbD c = true → ∀ g', mk_C F pn (mk_h P) g' → g' p c = g' q c)
    (h : ∀ mo sy' g', mk_R sy' pn g' → mk_I F pn (mk_h P) g' → (mo = true → mk_w pn g' < mk_w pn g) → (mo = false → g' = g ∧ ∀ c, c < 6 → y.getLsbD c = true → g p c = g q c) → post (dd_b mo) (yT L R B n P pn ce rn sm md kn cs tb st sy'))
    (h1 : a = nI p := by rfl) (h2 : b = nI q := by rfl) (h3 : w = dd_i y := by rfl) : wpY_merge post (yT L R B n P pn ce rn sm md kn cs tb st sy) a b w := by
  subst h1 h2 h3
  refine pk_loop (σ := Bool × (Nat → Int32)) (fun m c z => wY_merge_6 post (nI p) (nI q) (dd_i y) (nI n) (nI pn) (nI rn) sm md m (dd_b z.1) (nI c) (fun d => dd_i (L d)) (fun d => dd_i (R d)) (fun d => dd_b (B d)) (fun d => dd_i (P d)) ce kn cs tb st z.2)
    (fun c z => ∃ g', mk_R z.2 pn g' ∧ mk_I F pn (mk_h P) g' ∧ (z.1 = true → mk_w pn g' < mk_w pn g) ∧ (z.1 = false → g' = g ∧ ∀ c', c' < c → y.getLsbD c' = true → g p c' = g q c'))
    6 0 (false, sy) (by decide) ⟨g, hR, I, fun z => dd_ft z, fun _ => ⟨rfl, fun c' hc' => absurd hc' (Nat.not_lt_zero c')⟩⟩ (fun m z hI => ?_) (fun m c z hc hI ih => ?_)
  · obtain ⟨mo, a⟩ := z
    obtain ⟨g', k1, k2, k3, k4⟩ := hI
    exact br_t (nI_le (Nat.le_refl 6) (by decide)) ⟨dd_bn mo, h mo a g' k1 k2 k3 k4⟩
  · obtain ⟨mo, a⟩ := z
    obtain ⟨g', k1, k2, k3, k4⟩ := hI
    have k1' : mk_R a pn g' := k1
    have k3' : mo = true → mk_w pn g' < mk_w pn g := k3
    have k4' : mo = false → g' = g ∧ ∀ c', c' < c → y.getLsbD c' = true → g p c' = g q c' := k4
    have b1 := mk_le4 k2 hp hpp hc
    have b2 := mk_le4 k2 hp hq hc
    refine br_f (nI_ge hc (by decide)) ⟨by rw [dd_ixY]; exact vp_in_nI (by omega) (by decide), nm_r (e' := nI (g' p c)) (by rw [dd_ixY, nI_clamp (by omega)]; exact k1' p c hpp hc) ⟨by rw [dd_ixY]; exact vp_in_nI (by omega) (by decide), nm_r (e' := nI (g' q c)) (by rw [dd_ixY, nI_clamp (by omega)]; exact k1' q c hq hc) (dd_brb y c (by omega) (fun g1 => pk_eq (g' p c) (g' q c) (fun z => nm_r (nI_1 c) (ih (mo, a) ⟨g', k1', k2, k3', fun e => ?_⟩)) (fun z => ?_)) (fun g1 => nm_r (nI_1 c) (ih (mo, a) ⟨g', k1', k2, k3', fun e => ?_⟩)))⟩⟩
    · obtain ⟨e1, e2⟩ := k4' e
      refine ⟨e1, fun c' hc' hb => ?_⟩
      rcases Nat.lt_or_ge c' c with y1 | y1
      · exact e2 c' y1 hb
      · rw [show c' = c by omega, ← e1]; exact z
    · have hgc := hg c g1
      refine y_merge64 hp k1' (fun _ _ z1 z2 => mk_le4 k2 hp z1 z2) c hc (g' p c) (g' q c) b1 b2 fun sy' hsy' => ih (true, sy') ⟨_, hsy', mk_step k2 hpp hq hc hgc, fun _ => ?_, fun z => dd_tf z⟩
      have w := mk_wlt k2 hpp hq hc z
      cases mo with
      | true => have := k3' rfl; omega
      | false => rw [(k4' rfl).1] at w ⊢; exact w
    · obtain ⟨e1, e2⟩ := k4' e
      refine ⟨e1, fun c' hc' hb => ?_⟩
      rcases Nat.lt_or_ge c' c with y1 | y1
      · exact e2 c' y1 hb
      · rw [show c' = c by omega, g1] at hb
        exact absurd hb (by decide)
/-- one dependency has nothing more to merge -/
def mk_ck (L R : Nat → dd_S) (B : Nat → Bool) (pn : Nat) (g : Nat → Nat → Nat) (k : Nat) : Prop :=
  B k = false → ∀ p q, p < q → q < pn → (∀ c, (L k).getLsbD c = true → g p c = g q c) → ∀ c, (R k).getLsbD c = true → g p c = g q c
theorem mk_closedY {g : Nat → Nat → Nat} (h : ∀ k, k < n → mk_ck L R B pn g k) : mk_closed (mk_F L R B n) pn g := by
  rintro l r ⟨d, hd, _, hb, rfl, rfl⟩ i j hi hj hl c hr
  rcases Nat.lt_trichotomy i j with z | z | z
  · exact h d hd hb i j z hj hl c hr
  · rw [z]
  · exact (h d hd hb j i z hi (fun c hc => (hl c hc).symm) c hr).symm
/-- a state whose symbols are the table g -/
def y_L (L R : Nat → dd_S) (B : Nat → Bool) (n : Nat) (P : Nat → dd_S) (pn : Nat) (ce : Nat → Int32) (rn : Nat) (sm : Int32) (md : Int64) (kn cs : Nat → Int32) (tb : Nat → Int64) (st : Nat → Int32) (g : Nat → Nat → Nat) (v : SY) : Prop :=
  ∃ sy, mk_R sy pn g ∧ v = (yT L R B n P pn ce rn sm md kn cs tb st sy)
theorem y_mergeBy {post : Int32 → SY → Prop} {w : Int32} {v : SY} (hn : n ≤ 10) (hp : pn ≤ 4) (k : Nat) (hk : k < n) {g : Nat → Nat → Nat} (hv : y_L L R B n P pn ce rn sm md kn cs tb st g v) (I : mk_I (mk_F L R B n) pn (mk_h P) g)
    (h : ∀ mo v' g', y_L L R B n P pn ce rn sm md kn cs tb st g' v' → mk_I (mk_F L R B n) pn (mk_h P) g' → (mo = true → mk_w pn g' < mk_w pn g) → (mo = false → g' = g ∧ mk_ck L R B pn g k) → post (dd_b mo) v')
    (h1 : w = nI k := by rfl) : wpY_mergeBy post v w := by
  subst h1
  obtain ⟨sy, hR, rfl⟩ := hv
  refine pk_loop (σ := Bool × SY) (fun m i z => yc (wY_mergeBy_4 post (nI k) m (dd_b z.1) (nI i)) z.2)
    (fun i z => ∃ g', y_L L R B n P pn ce rn sm md kn cs tb st g' z.2 ∧ mk_I (mk_F L R B n) pn (mk_h P) g' ∧ (z.1 = true → mk_w pn g' < mk_w pn g) ∧ (z.1 = false → g' = g ∧ (B k = false → ∀ p q, p < q → q < pn → 4 * p + q < i → (∀ c, (L k).getLsbD c = true → g p c = g q c) → ∀ c, (R k).getLsbD c = true → g p c = g q c)))
    16 0 (false, (yT L R B n P pn ce rn sm md kn cs tb st sy)) (by decide) ⟨g, ⟨sy, hR, rfl⟩, I, fun z => dd_ft z, fun _ => ⟨rfl, fun _ p q _ _ z => absurd z (Nat.not_lt_zero _)⟩⟩ (fun m z hI => ?_) (fun m i z hi hI ih => ?_)
  · obtain ⟨mo, v⟩ := z
    obtain ⟨g', k1, k2, k3, k4⟩ := hI
    have k4' : mo = false → g' = g ∧ (B k = false → ∀ p q, p < q → q < pn → 4 * p + q < 16 → (∀ c, (L k).getLsbD c = true → g p c = g q c) → ∀ c, (R k).getLsbD c = true → g p c = g q c) := k4
    have w := h mo v g' k1 k2 k3 fun e => ⟨(k4' e).1, fun hb p q z1 z2 => (k4' e).2 hb p q z1 z2 (by omega)⟩
    obtain ⟨sy', hR', rfl⟩ := k1
    exact br_t (nI_le (Nat.le_refl 16) (by decide)) ⟨dd_bn mo, w⟩
  · obtain ⟨mo, v⟩ := z
    obtain ⟨g', k1, k2, k3, k4⟩ := hI
    obtain ⟨sy', hR', rfl⟩ := k1
    have k3' : mo = true → mk_w pn g' < mk_w pn g := k3
    have k4' : mo = false → g' = g ∧ (B k = false → ∀ p q, p < q → q < pn → 4 * p + q < i → (∀ c, (L k).getLsbD c = true → g p c = g q c) → ∀ c, (R k).getLsbD c = true → g p c = g q c) := k4
    have v10 : vp_in (nI k) 10 := vp_in_nI (by omega) (by decide)
    have e4 : nI i / 4 = nI (i / 4) := pk_div (by omega) (by decide) (by decide)
    have e5 : nI i - nI i / 4 * 4 = nI (i % 4) := pk_rem (by omega) (by decide) (by decide)
    have skip : (B k = false → i / 4 < i % 4 → i % 4 < pn → (∀ c, (L k).getLsbD c = true → g' (i / 4) c = g' (i % 4) c) → ∀ c, (R k).getLsbD c = true → g' (i / 4) c = g' (i % 4) c) → yc (wY_mergeBy_4 post (nI k) m (dd_b mo) (nI (i + 1))) (yT L R B n P pn ce rn sm md kn cs tb st sy') := by
      intro hs
      refine ih (mo, _) ⟨g', ⟨sy', hR', rfl⟩, k2, k3', fun e => ?_⟩
      obtain ⟨e1, e2⟩ := k4' e
      refine ⟨e1, fun hb p q z1 z2 z3 => ?_⟩
      rcases Nat.lt_or_ge (4 * p + q) i with z | z
      · exact e2 hb p q z1 z2 z
      · have ep : p = i / 4 := by omega
        have eq : q = i % 4 := by omega
        rw [e1] at hs
        rw [ep, eq] at z1
        rw [eq] at z2
        rw [ep, eq]
        exact hs hb z1 z2
    refine br_f (nI_ge hi (by decide)) ⟨by decide, nm_r e4 ⟨by decide, nm_r e5 (pk_le (i % 4) (i / 4) (fun z => nm_r (nI_1 i) (skip fun _ y => by omega)) (fun z => pk_le pn (i % 4) (fun z2 => nm_r (nI_1 i) (skip fun _ _ y => by omega)) (fun z2 => ⟨v10, dd_if (d := B k = false) (show dd_b (B (nI k).toNatClampNeg) = 0 ↔ _ by rw [nI_clamp (by omega), dd_b0]) (fun hb => ⟨v10, y_likeOn hp hR' (fun _ _ q1 q2 => mk_le4 k2 hp q1 q2) (i / 4) (i % 4) (by omega) z2 (L k) (dd_br (fun g1 => nm_r (nI_1 i) (skip fun _ _ _ y => ?_)) (fun g1 => ⟨v10, ?_⟩)) rfl rfl (dd_ix (fun d => dd_i (L d)) (by omega))⟩) (fun hb => nm_r (nI_1 i) (skip fun y => absurd y hb))⟩)))⟩⟩
    · exfalso
      have : dd_al (fun c => !(L k).getLsbD c || decide (g' (i / 4) c = g' (i % 4) c)) 6 = true := dd_alI.mpr fun c hc => by
        cases hl : (L k).getLsbD c with
        | false => rfl
        | true => rw [decide_eq_true (y c hl)]; rfl
      rw [this] at g1
      exact absurd g1 (by decide)
    · have like : ∀ c, (L k).getLsbD c = true → g' (i / 4) c = g' (i % 4) c := fun c hc => by
        have := dd_alI.mp g1 c (dd_lt hc)
        rw [hc] at this
        simpa using this
      refine y_merge hp hR' k2 (i / 4) (i % 4) (by omega) z2 (R k) (fun c hc g2 hC => ?_) (fun mo2 sy2 g2 w1 w2 w3 w4 => ?_) rfl rfl (dd_ix (fun d => dd_i (R d)) (by omega))
      · exact hC.1 (L k) (R k) ⟨k, hk, by show (!B k) = true; rw [hb]; rfl, hb, rfl, rfl⟩ (i / 4) (i % 4) (by omega) z2 (fun c hc => (k2.1 g2 hC).2 _ _ c (by omega) z2 (dd_lt hc) (like c hc)) c hc
      · refine dd_br (fun e => ?_) (fun e => nm_r (nI_1 i) (ih (true, _) ⟨g2, ⟨sy2, w1, rfl⟩, w2, fun _ => ?_, fun z => dd_tf z⟩))
        · obtain ⟨e1, e2⟩ := w4 e
          subst e1
          have nx : ∀ b, b = mo → yc (wY_mergeBy_4 post (nI k) m (dd_b b) (nI (i + 1))) (yT L R B n P pn ce rn sm md kn cs tb st sy2) := by
            rintro b rfl
            refine ih (b, _) ⟨g2, ⟨sy2, w1, rfl⟩, w2, k3', fun e => ?_⟩
            obtain ⟨e1, e3⟩ := k4' e
            refine ⟨e1, fun hb p q z1 z2 z3 => ?_⟩
            rcases Nat.lt_or_ge (4 * p + q) i with z | z
            · exact e3 hb p q z1 z2 z
            · have ep : p = i / 4 := by omega
              have eq : q = i % 4 := by omega
              intro _ c hc
              rw [ep, eq, ← e1]
              exact e2 c (dd_lt hc) hc
          exact dd_br (fun e => nm_r (nI_1 i) (nx false e.symm)) (fun e => nm_r (nI_1 i) (nx true e.symm))
        · have w := w3 e
          show mk_w pn g2 < mk_w pn g
          cases mo with
          | true => have := k3' rfl; omega
          | false => rw [(k4' rfl).1] at w; exact w
theorem y_l108 {post : Int32 → SY → Prop} (hp : pn ≤ 4) {g : Nat → Nat → Nat} (hR : mk_R sy pn g) (hb : ∀ i c, i < pn → c < 6 → g i c ≤ 4) (h : post (dd_b (mk_j pn g)) (yT L R B n P pn ce rn sm md kn cs tb st sy)) : ∃ m, wY_lossless_108 post (nI n) (nI pn) (nI rn) sm md (fun d => dd_i (L d)) (fun d => dd_i (R d)) (fun d => dd_b (B d)) (fun d => dd_i (P d)) ce kn cs tb st sy m 0 := by
  unfold mk_j at h
  refine dd_lp (σ := Unit) (fun m i _ => wY_lossless_108 post (nI n) (nI pn) (nI rn) sm md (fun d => dd_i (L d)) (fun d => dd_i (R d)) (fun d => dd_b (B d)) (fun d => dd_i (P d)) ce kn cs tb st sy m (nI i)) (fun _ => ()) (fun i => dd_al (fun i => !dd_al (fun c => decide (g i c = 0)) 6) i = true) pn 0 (Nat.zero_le pn) rfl (fun m hJ => ?_) (fun m i _ hi hJ ih => ?_)
  · rw [hJ] at h
    exact br_t (nI_le (Nat.le_refl pn) (by omega)) h
  · refine br_f (nI_ge hi (by omega)) ?_
    refine pk_loop (fun m' c (s : Nat) => wY_lossless_121 post (wY_lossless_108 post (nI n) (nI pn) (nI rn) sm md (fun d => dd_i (L d)) (fun d => dd_i (R d)) (fun d => dd_b (B d)) (fun d => dd_i (P d)) ce kn cs tb st sy m) (nI i) (nI n) (nI pn) (nI rn) sm md (fun d => dd_i (L d)) (fun d => dd_i (R d)) (fun d => dd_b (B d)) (fun d => dd_i (P d)) ce kn cs tb st sy m' (nI s) (nI c)) (fun c s => s ≤ 4 * c ∧ (s = 0 ↔ dd_al (fun c => decide (g i c = 0)) c = true)) 6 0 0 (by decide) ⟨Nat.le_refl _, fun _ => rfl, fun _ => rfl⟩ (fun m' s hI => ?_) (fun m' c s hc hI ih2 => ?_)
    · refine br_t (nI_le (Nat.le_refl 6) (by decide)) (pk_eq s 0 (fun z => ?_) (fun z => nm_r (nI_1 i) (ih () rfl (dd_alS hJ ?_))) rfl rfl (by omega))
      · rw [dd_alF (q := fun i => !dd_al (fun c => decide (g i c = 0)) 6) hi (by rw [hI.2.mp z]; rfl)] at h
        exact h
      · rw [ts_nt fun w => z (hI.2.mpr w)]; rfl
    · have b1 := hb i c hi hc
      refine br_f (nI_ge hc (by decide)) ⟨by rw [dd_ixY]; exact vp_in_nI (by omega) (by decide), nm_r (e' := nI (s + g i c)) (by rw [dd_ixY, nI_clamp (by omega), hR i c hi hc, nI_add]) (nm_r (nI_1 c) (ih2 _ ⟨by omega, ?_⟩))⟩
      show s + g i c = 0 ↔ (dd_al (fun c => decide (g i c = 0)) c && decide (g i c = 0)) = true
      rw [Bool.and_eq_true, decide_eq_true_eq, ← hI.2]
      omega
theorem y_lossless {post : Int32 → SY → Prop} (hn : n ≤ 10) (hp : pn ≤ 4)
    (h : ∀ g sy', mk_I (mk_F L R B n) pn (mk_h P) g → mk_closed (mk_F L R B n) pn g → post (dd_b (mk_j pn g)) (yT L R B n P pn ce rn sm md kn cs tb st sy')) : wpY_lossless post (yT L R B n P pn ce rn sm md kn cs tb st sy) := by
  refine pk_loop (fun m i a => wY_lossless_2 post (nI n) (nI pn) (nI rn) sm md m (nI i) (fun d => dd_i (L d)) (fun d => dd_i (R d)) (fun d => dd_b (B d)) (fun d => dd_i (P d)) ce kn cs tb st a) (fun i a => ∀ p c, p < pn → c < 6 → 6 * p + c < i → a (6 * p + c) = nI (mk_h P p c)) 24 0 sy (by decide) (fun _ _ _ _ z => absurd z (Nat.not_lt_zero _)) (fun m a hI => ?_) (fun m i a hi hI ih => ?_)
  · refine br_t (nI_le (Nat.le_refl 24) (by decide)) ?_
    have hR : mk_R a pn (mk_h P) := fun p c h1 h2 => hI p c h1 h2 (by omega)
    refine loop_m (σ := Bool × (Nat → Nat → Nat) × (Nat → Int32)) (fun m z => wY_lossless_63 post m (dd_b z.1) (nI n) (nI pn) (nI rn) sm md (fun d => dd_i (L d)) (fun d => dd_i (R d)) (fun d => dd_b (B d)) (fun d => dd_i (P d)) ce kn cs tb st z.2.2)
      (fun z => mk_R z.2.2 pn z.2.1 ∧ mk_I (mk_F L R B n) pn (mk_h P) z.2.1 ∧ (z.1 = false → mk_closed (mk_F L R B n) pn z.2.1))
      (fun z => (if z.1 = true then 1 else 0) + mk_w pn z.2.1) (fun m z hI ih => ?_) (true, mk_h P, a) ⟨hR, mk_start fun i c _ _ => mk_ho P i c, fun z => dd_tf z⟩
    obtain ⟨mo, g, sy⟩ := z
    obtain ⟨k1, k2, k3⟩ := hI
    have k1' : mk_R sy pn g := k1
    have k2' : mk_I (mk_F L R B n) pn (mk_h P) g := k2
    cases mo with
    | false => exact br_t rfl (y_l108 hp k1' (fun _ _ q1 q2 => mk_le4 k2' hp q1 q2) (h g sy k2' (k3 rfl)))
    | true =>
      refine br_f dd_b1n ?_
      refine pk_loop (σ := Bool × SY) (fun m' k z => yc (wY_lossless_71 post (wY_lossless_63 post m) m' (dd_b z.1) (nI k)) z.2)
        (fun k z => ∃ g', y_L L R B n P pn ce rn sm md kn cs tb st g' z.2 ∧ mk_I (mk_F L R B n) pn (mk_h P) g' ∧ (z.1 = true → mk_w pn g' < mk_w pn g) ∧ (z.1 = false → g' = g ∧ ∀ k', k' < k → mk_ck L R B pn g k'))
        n 0 (false, yT L R B n P pn ce rn sm md kn cs tb st sy) (Nat.zero_le n) ⟨g, ⟨sy, k1', rfl⟩, k2', fun z => dd_ft z, fun _ => ⟨rfl, fun k' hk' => absurd hk' (Nat.not_lt_zero k')⟩⟩ (fun m' z hI => ?_) (fun m' k z hk hI ih2 => ?_)
      · obtain ⟨b, v⟩ := z
        obtain ⟨g', q1, q2, q3, q4⟩ := hI
        obtain ⟨sy', hR', rfl⟩ := q1
        refine br_t (nI_le (Nat.le_refl n) (by omega)) (ih (b, g', sy') ⟨hR', q2, fun e => ?_⟩ ?_)
        · obtain ⟨e1, e2⟩ := q4 e
          show mk_closed (mk_F L R B n) pn g'
          rw [e1]; exact mk_closedY e2
        · show (if b = true then 1 else 0) + mk_w pn g' < (if true = true then 1 else 0) + mk_w pn g
          cases b with
          | false => rw [(q4 rfl).1]; simp
          | true =>
            have w : mk_w pn g' < mk_w pn g := q3 rfl
            simp; exact w
      · obtain ⟨b, v⟩ := z
        obtain ⟨g', q1, q2, q3, q4⟩ := hI
        have q3' : b = true → mk_w pn g' < mk_w pn g := q3
        have q4' : b = false → g' = g ∧ ∀ k', k' < k → mk_ck L R B pn g k' := q4
        obtain ⟨sy', hR', rfl⟩ := q1
        refine br_f (nI_ge hk (by omega)) (y_mergeBy hn hp k hk ⟨sy', hR', rfl⟩ q2 fun mo2 v2 g2 w1 w2 w3 w4 => ?_)
        have nx : ∀ b2, (b2 = true → mk_w pn g2 < mk_w pn g) → (b2 = false → g2 = g ∧ ∀ k', k' < k + 1 → mk_ck L R B pn g k') → yc (wY_lossless_71 post (wY_lossless_63 post m) m' (dd_b b2) (nI (k + 1))) v2 :=
          fun b2 r1 r2 => ih2 (b2, v2) ⟨g2, w1, w2, r1, r2⟩
        obtain ⟨sy2, hR2, rfl⟩ := w1
        refine dd_br (fun e => ?_) (fun e => nm_r (nI_1 k) (nx true (fun _ => ?_) fun z => dd_tf z))
        · obtain ⟨e1, e2⟩ := w4 e
          subst e1
          refine dd_br (fun e => nm_r (nI_1 k) (nx false (fun z => dd_ft z) fun _ => ?_)) (fun e => nm_r (nI_1 k) (nx true (fun _ => q3' e) fun z => dd_tf z))
          obtain ⟨e3, e4⟩ := q4' e
          refine ⟨e3, fun k' hk' => ?_⟩
          rcases Nat.lt_or_ge k' k with z | z
          · exact e4 k' z
          · rw [show k' = k by omega, ← e3]; exact e2
        · have w := w3 e
          cases b with
          | true => have := q3' rfl; omega
          | false => rw [(q4' rfl).1] at w; exact w
  · have e6 : nI i / 6 = nI (i / 6) := pk_div (by omega) (by decide) (by decide)
    have r6 : nI i - nI i / 6 * 6 = nI (i % 6) := pk_rem (by omega) (by decide) (by decide)
    have vi : vp_in (nI i) 24 := vp_in_nI hi (by decide)
    have fin : ∀ x : Nat, (i / 6 < pn → x = mk_h P (i / 6) (i % 6)) → ∀ p c, p < pn → c < 6 → 6 * p + c < i + 1 → upd a i (nI x) (6 * p + c) = nI (mk_h P p c) := by
      intro x hx p c h1 h2 h3
      by_cases e : 6 * p + c = i
      · have ep : p = i / 6 := by omega
        have ec : c = i % 6 := by omega
        rw [e, pk_us, ep, ec, hx (by omega)]
      · rw [pk_un e]; exact hI p c h1 h2 (by omega)
    have put : (i / 6 < pn → i / 6 + 1 = mk_h P (i / 6) (i % 6)) → wY_lossless_48 post (wY_lossless_2 post (nI n) (nI pn) (nI rn) sm md m) (nI i) (nI i) (nI n) (nI pn) (nI rn) sm md (fun d => dd_i (L d)) (fun d => dd_i (R d)) (fun d => dd_b (B d)) (fun d => dd_i (P d)) ce kn cs tb st a := fun hx =>
      ⟨by decide, vi, nm_r (e' := upd a i (nI (i / 6 + 1))) (by rw [e6, nI_1, nI_clamp (by omega)]) (nm_r (nI_1 i) (ih _ (fin _ hx)))⟩
    refine br_f (nI_ge hi (by decide)) ⟨by decide, pk_le pn (i / 6) (fun z => put fun y => by omega) (fun z => ⟨by decide, by rw [e6]; exact vp_in_nI (by omega) (by decide), by decide, dd_brb (P (i / 6)) (i % 6) (by omega) (fun g1 => ⟨vi, nm_r (e' := upd a i (nI 0)) (by rw [nI_clamp (by omega), nI_0]) (nm_r (nI_1 i) (ih _ (fin 0 fun _ => ?_)))⟩) (fun g1 => put fun _ => ?_) ?_ r6⟩) rfl e6⟩
    · exact (if_pos g1).symm
    · exact (if_neg (by rw [g1]; decide)).symm
    · show dd_i (P (nI i / 6).toNatClampNeg) = _
      rw [e6, nI_clamp (by omega)]
end
