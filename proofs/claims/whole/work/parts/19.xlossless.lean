/-! lossless: tables of marks, and the class's walk over them -/
def mk_R (a : Nat → Int32) (n : Nat) (g : Nat → Nat → Nat) : Prop := ∀ i c, i < n → c < 6 → a (6 * i + c) = nI (g i c)
def mk_h (P : Nat → dd_S) (i c : Nat) : Nat := if (P i).getLsbD c = true then 0 else i + 1
theorem mk_ho (P : Nat → dd_S) (i c : Nat) : mk_h P i c = 0 ∨ mk_h P i c = i + 1 := by
  unfold mk_h; split
  · exact Or.inl rfl
  · exact Or.inr rfl
abbrev mk_F (L R : Nat → dd_S) (B : Nat → Bool) (n : Nat) : dd_S → dd_S → Prop := dd_F L R B n (fun d => !B d) false
theorem mk_le4 {F : dd_S → dd_S → Prop} {P : Nat → dd_S} {n : Nat} {g : Nat → Nat → Nat} (I : mk_I F n (mk_h P) g) (hn : n ≤ 4) {i c : Nat} (hi : i < n) (hc : c < 6) : g i c ≤ 4 := by
  have := I.2.1 i c hi hc
  rcases mk_ho P i c with z | z <;> omega
theorem mk_stepW {F : dd_S → dd_S → Prop} {n : Nat} {h m : Nat → Nat → Nat} (I : mk_I F n h m) {i j c : Nat} (hi : i < n) (hj : j < n) (hc : c < 6)
    (hg : ∀ g, mk_C F n h g → g i c = g j c) : mk_I F n h (mk_mg m c (m i c) (m j c)) ∧ (mk_w n (mk_mg m c (m i c) (m j c)) < mk_w n m ∨ (mk_mg m c (m i c) (m j c) = m ∧ m i c = m j c)) := by
  refine ⟨mk_step I hi hj hc hg, ?_⟩
  by_cases e : m i c = m j c
  · right
    refine ⟨?_, e⟩
    rw [e]; exact mk_same m c (m j c)
  · exact Or.inl (mk_wlt I hi hj hc e)
/-- a joined row -/
def mk_j (n : Nat) (g : Nat → Nat → Nat) : Bool := !dd_al (fun i => !dd_al (fun c => decide (g i c = 0)) 6) n
theorem mk_jX {n : Nat} {g g' : Nat → Nat → Nat} (h : ∀ i c, i < n → c < 6 → g i c = g' i c) : mk_j n g = mk_j n g' := by
  unfold mk_j
  rw [dd_alX (n := n) fun i hi => by rw [dd_alX (n := 6) fun c hc => by rw [h i c hi hc]]]
section
variable {L R : Nat → dd_S} {B : Nat → Bool} {n : Nat} {P : Nat → dd_S} {pn : Nat} {ce : Nat → Int32} {rn : Nat} {mk : Nat → Int32}
theorem x_markParts {post : SX → Prop} (hp : pn ≤ 4) (h : ∀ mk', mk_R mk' pn (mk_h P) → post (xT L R B n P pn ce rn mk')) : wpX_markParts post (xT L R B n P pn ce rn mk) := by
  refine pk_loop (fun m i a => wX_markParts_2 post (nI n) (nI pn) (nI rn) m (nI i) (fun d => dd_i (L d)) (fun d => dd_i (R d)) (fun d => dd_b (B d)) (fun d => dd_i (P d)) ce a) (fun i a => ∀ i' c', i' < i → c' < 6 → a (6 * i' + c') = nI (mk_h P i' c')) pn 0 mk (Nat.zero_le pn) (fun i' _ hi' => absurd hi' (Nat.not_lt_zero i')) (fun m a hI => ?_) (fun m i a hi hI ih => ?_)
  · exact br_t (nI_le (Nat.le_refl pn) (by omega)) (h a hI)
  · refine br_f (nI_ge hi (by omega)) ?_
    refine pk_loop (fun m' c a => wX_markParts_12 post (wX_markParts_2 post (nI n) (nI pn) (nI rn) m) (nI i) (nI n) (nI pn) (nI rn) m' (nI c) (fun d => dd_i (L d)) (fun d => dd_i (R d)) (fun d => dd_b (B d)) (fun d => dd_i (P d)) ce a) (fun c a => (∀ i' c', i' < i → c' < 6 → a (6 * i' + c') = nI (mk_h P i' c')) ∧ ∀ c', c' < c → a (6 * i + c') = nI (mk_h P i c')) 6 0 a (by decide) ⟨hI, fun c' hc' => absurd hc' (Nat.not_lt_zero c')⟩ (fun m' a hI2 => ?_) (fun m' c a hc hI2 ih2 => ?_)
    · refine br_t (nI_le (Nat.le_refl 6) (by decide)) (nm_r (nI_1 i) (ih a fun i' c' h1 h2 => ?_))
      rcases Nat.lt_or_ge i' i with z | z
      · exact hI2.1 i' c' z h2
      · rw [show i' = i by omega]; exact hI2.2 c' h2
    · have nxt : ∀ x : Nat, x = mk_h P i c → (∀ i' c', i' < i → c' < 6 → upd a (6 * i + c) (nI x) (6 * i' + c') = nI (mk_h P i' c')) ∧ ∀ c', c' < c + 1 → upd a (6 * i + c) (nI x) (6 * i + c') = nI (mk_h P i c') := by
        rintro x rfl
        refine ⟨fun i' c' h1 h2 => ?_, fun c' h1 => ?_⟩
        · rw [pk_un (by omega)]; exact hI2.1 i' c' h1 h2
        · by_cases e : c' = c
          · rw [e, pk_us]
          · rw [pk_un (by omega)]; exact hI2.2 c' (by omega)
      have vi : vp_in (nI i * 6 + nI c) 24 := by rw [dd_ixX]; exact vp_in_nI (by omega) (by decide)
      refine br_f (nI_ge hc (by decide)) ⟨vp_in_nI (by omega) (by decide), x_isInS (P i) c (by omega) (dd_br (fun g => ⟨vi, nm_r (e' := upd a (6 * i + c) (nI (i + 1))) (by rw [dd_ixX, nI_clamp (by omega), nI_1]) (nm_r (nI_1 c) (ih2 _ (nxt _ ?_)))⟩) (fun g => ⟨vi, nm_r (e' := upd a (6 * i + c) (nI 0)) (by rw [dd_ixX, nI_clamp (by omega), nI_0]) (nm_r (nI_1 c) (ih2 _ (nxt _ ?_)))⟩)) (congrArg Int32.toInt64 (dd_ix (fun d => dd_i (P d)) (by omega)))⟩
      · exact (if_neg (by rw [g]; decide)).symm
      · exact (if_pos g).symm
theorem x_mergeMarks {post : SX → Prop} {p q w : Int32} (hp : pn ≤ 4) {g : Nat → Nat → Nat} (hR : mk_R mk pn g) (hb : ∀ i c, i < pn → c < 6 → g i c ≤ 4) (c : Nat) (hc : c < 6) (a1 b1 : Nat) (ha : a1 ≤ 4) (hb1 : b1 ≤ 4)
    (h : ∀ mk', mk_R mk' pn (mk_mg g c a1 b1) → post (xT L R B n P pn ce rn mk')) (hp0 : p = nI c := by rfl) (hp1 : q = nI a1 := by rfl) (hp2 : w = nI b1 := by rfl) : wpX_mergeMarks post (xT L R B n P pn ce rn mk) p q w := by
  subst hp0 hp1 hp2
  have key : ∀ s : Int32, s = nI (min a1 b1) → ∃ m, wX_mergeMarks_15 post (nI c) (nI a1) (nI b1) s (nI n) (nI pn) (nI rn) m 0 (fun d => dd_i (L d)) (fun d => dd_i (R d)) (fun d => dd_b (B d)) (fun d => dd_i (P d)) ce mk := by
    rintro s rfl
    refine pk_loop (fun m i a => wX_mergeMarks_15 post (nI c) (nI a1) (nI b1) (nI (min a1 b1)) (nI n) (nI pn) (nI rn) m (nI i) (fun d => dd_i (L d)) (fun d => dd_i (R d)) (fun d => dd_b (B d)) (fun d => dd_i (P d)) ce a) (fun i a => ∀ r d, r < pn → d < 6 → a (6 * r + d) = nI (if r < i then mk_mg g c a1 b1 r d else g r d)) pn 0 mk (Nat.zero_le pn) (fun r d hr hd => by rw [if_neg (Nat.not_lt_zero r)]; exact hR r d hr hd) (fun m a hI => ?_) (fun m i a hi hI ih => ?_)
    · refine br_t (nI_le (Nat.le_refl pn) (by omega)) (h a fun r d hr hd => ?_)
      rw [hI r d hr hd, if_pos hr]
    · have vi : vp_in (nI i * 6 + nI c) 24 := by rw [dd_ixX]; exact vp_in_nI (by omega) (by decide)
      have ei : a (6 * i + c) = nI (g i c) := by rw [hI i c hi hc, if_neg (Nat.lt_irrefl i)]
      have hgi := hb i c hi hc
      have put : (g i c = a1 ∨ g i c = b1) → wX_mergeMarks_50 post (wX_mergeMarks_15 post (nI c) (nI a1) (nI b1) (nI (min a1 b1)) (nI n) (nI pn) (nI rn) m) (nI c) (nI a1) (nI b1) (nI (min a1 b1)) (nI i) (nI n) (nI pn) (nI rn) (fun d => dd_i (L d)) (fun d => dd_i (R d)) (fun d => dd_b (B d)) (fun d => dd_i (P d)) ce a := by
        intro hh
        refine ⟨vi, nm_r (e' := upd a (6 * i + c) (nI (min a1 b1))) (by rw [dd_ixX, nI_clamp (by omega)]) (nm_r (nI_1 i) (ih _ fun r d hr hd => ?_))⟩
        by_cases e : r = i ∧ d = c
        · rw [e.1, e.2, pk_us, if_pos (Nat.lt_succ_self i)]
          unfold mk_mg
          rw [if_pos ⟨rfl, hh⟩]
        · rw [pk_un (by omega), hI r d hr hd]
          by_cases e2 : r < i
          · rw [if_pos e2, if_pos (by omega)]
          · by_cases e3 : r = i
            · rw [if_neg e2, if_pos (by omega)]
              unfold mk_mg
              rw [if_neg fun z => e ⟨e3, z.1⟩]
            · rw [if_neg e2, if_neg (by omega)]
      refine br_f (nI_ge hi (by omega)) ⟨vi, nm_r (e' := nI (g i c)) (by rw [dd_ixX, nI_clamp (by omega), ei]) (pk_eq (g i c) a1 (fun z => put (Or.inl z)) (fun z => pk_eq (g i c) b1 (fun z2 => put (Or.inr z2)) (fun z2 => nm_r (nI_1 i) (ih a fun r d hr hd => ?_))))⟩
      rw [hI r d hr hd]
      by_cases e2 : r < i
      · rw [if_pos e2, if_pos (by omega)]
      · by_cases e3 : r = i
        · rw [if_neg e2, if_pos (by omega), e3]
          unfold mk_mg
          rw [if_neg fun w => by rcases w with ⟨w1, w2⟩; rw [w1] at w2; omega]
        · rw [if_neg e2, if_neg (by omega)]
  exact pk_le b1 a1 (fun z => key _ (by rw [Nat.min_eq_right z])) (fun z => key _ (by rw [Nat.min_eq_left (by omega)]))
/-- two parts made the same where the dependencies ask it: the table has fewer own marks, or nothing was to do -/
theorem x_equateMarks {post : SX → Prop} {f : Int64} {p q : Int32} (hp : pn ≤ 4) (hf : ∀ t, t < 64 → dd_m f t = dd_v L R B n (fun d => !B d) t) {g : Nat → Nat → Nat} (hR : mk_R mk pn g) (I : mk_I (mk_F L R B n) pn (mk_h P) g) (i j : Nat) (hi : i < pn) (hj : j < pn)
    (h : ∀ mk' g', mk_R mk' pn g' → mk_I (mk_F L R B n) pn (mk_h P) g' → (mk_w pn g' < mk_w pn g ∨ (g' = g ∧ ∀ c, c < 6 → (dd_C1 L R B n (mk_agr g i j)).getLsbD c = true → g i c = g j c)) → (mk_closed (mk_F L R B n) pn g → g' = g) → post (xT L R B n P pn ce rn mk'))
    (hp1 : p = nI i := by rfl) (hp2 : q = nI j := by rfl) : wpX_equateMarks post (xT L R B n P pn ce rn mk) f p q := by
  subst hp1 hp2
  refine dd_lp (fun m c s => wX_equateMarks_6 post f (nI i) (nI j) (nI n) (nI pn) (nI rn) (fun d => dd_i (L d)) (fun d => dd_i (R d)) (fun d => dd_b (B d)) (fun d => dd_i (P d)) ce mk m (dd_i s) (nI c)) (dd_of (fun c => decide (g i c = g j c))) (fun _ => True) 6 0 (by decide) trivial (fun m _ => ?_) (fun m c _ hc _ ih => ?_)
  · refine br_t (nI_le (Nat.le_refl 6) (by decide)) (x_closureIn (mk_agr g i j) ?_)
    rw [dd_clE hf]
    refine pk_loop (fun m c a => wX_equateMarks_67 post (nI i) (nI j) (dd_i (dd_C1 L R B n (mk_agr g i j))) m (nI c) (nI n) (nI pn) (nI rn) (fun d => dd_i (L d)) (fun d => dd_i (R d)) (fun d => dd_b (B d)) (fun d => dd_i (P d)) ce a)
      (fun c a => ∃ g', mk_R a pn g' ∧ mk_I (mk_F L R B n) pn (mk_h P) g' ∧ (mk_w pn g' < mk_w pn g ∨ (g' = g ∧ ∀ c', c' < c → (dd_C1 L R B n (mk_agr g i j)).getLsbD c' = true → g i c' = g j c')) ∧ (mk_closed (mk_F L R B n) pn g → g' = g))
      6 0 mk (by decide) ⟨g, hR, I, Or.inr ⟨rfl, fun c' hc' => absurd hc' (Nat.not_lt_zero c')⟩, fun _ => rfl⟩ (fun m a hI => ?_) (fun m c a hc hI ih => ?_)
    · obtain ⟨g', h1, h2, h3, h4⟩ := hI
      exact br_t (nI_le (Nat.le_refl 6) (by decide)) (h a g' h1 h2 h3 h4)
    · obtain ⟨g', h1, h2, h3, h4⟩ := hI
      have v1 : vp_in (nI i * 6 + nI c) 24 := by rw [dd_ixX]; exact vp_in_nI (by omega) (by decide)
      have v2 : vp_in (nI j * 6 + nI c) 24 := by rw [dd_ixX]; exact vp_in_nI (by omega) (by decide)
      refine br_f (nI_ge hc (by decide)) (x_isInS (dd_C1 L R B n (mk_agr g i j)) c (by omega) (dd_br (fun g1 => nm_r (nI_1 c) (ih a ⟨g', h1, h2, ?_, h4⟩)) (fun g1 => ⟨v1, v2, x_mergeMarks hp h1 (fun _ _ z1 z2 => mk_le4 h2 hp z1 z2) c hc (g' i c) (g' j c) (mk_le4 h2 hp hi hc) (mk_le4 h2 hp hj hc) (fun mk' hmk' => ?_) rfl (by rw [dd_ixX, nI_clamp (by omega)]; exact h1 i c hi hc) (by rw [dd_ixX, nI_clamp (by omega)]; exact h1 j c hj hc)⟩)))
      · rcases h3 with h3 | ⟨e, h3⟩
        · exact Or.inl h3
        · refine Or.inr ⟨e, fun c' hc' hb => ?_⟩
          rcases Nat.lt_or_ge c' c with z | z
          · exact h3 c' z hb
          · rw [show c' = c by omega, g1] at hb
            exact absurd hb (by decide)
      · have hg := mk_reach I hi hj g1
        have sw := mk_stepW h2 hi hj hc hg
        refine nm_r (nI_1 c) (ih mk' ⟨_, hmk', sw.1, ?_, fun hcl => ?_⟩)
        · rcases h3 with h3 | ⟨e, h3⟩
          · left
            rcases sw.2 with s | ⟨s, _⟩
            · omega
            · rw [s]; exact h3
          · rcases sw.2 with s | ⟨s, s2⟩
            · left; rw [e] at s ⊢; exact s
            · right
              refine ⟨s.trans e, fun c' hc' hb => ?_⟩
              rcases Nat.lt_or_ge c' c with z | z
              · exact h3 c' z hb
              · rw [show c' = c by omega, ← e]; exact s2
        · have e := h4 hcl
          have same : g' i c = g' j c := by
            rw [e]; exact hg g ⟨hcl, I.2.1, I.2.2.1⟩
          rw [same, mk_same]; exact e
  · have v1 : vp_in (nI i * 6 + nI c) 24 := by rw [dd_ixX]; exact vp_in_nI (by omega) (by decide)
    have v2 : vp_in (nI j * 6 + nI c) 24 := by rw [dd_ixX]; exact vp_in_nI (by omega) (by decide)
    have b1 := mk_le4 I hp hi hc
    have b2 := mk_le4 I hp hj hc
    exact br_f (nI_ge hc (by decide)) ⟨v1, v2, dd_if (d := g i c = g j c) (by rw [dd_ixX, dd_ixX, nI_clamp (by omega), nI_clamp (by omega), hR i c hi hc, hR j c hj hc, nI_eq (by omega) (by omega)]) (fun z => nm_r (e' := dd_i (dd_of (fun c => decide (g i c = g j c)) c ||| dd_e c)) (by rw [dd_1 c hc, dd_or]) (nm_r (nI_1 c) (ih _ (dd_ofT (decide_eq_true z)) trivial))) (fun z => nm_r (nI_1 c) (ih _ (dd_ofF (decide_eq_false z)) trivial))⟩
theorem x_hasJoinedRow {post : Int32 → Prop} (hp : pn ≤ 4) {g : Nat → Nat → Nat} (hR : mk_R mk pn g) (hb : ∀ i c, i < pn → c < 6 → g i c ≤ 4) (h : post (dd_b (mk_j pn g))) : wpX_hasJoinedRow post (xT L R B n P pn ce rn mk) := by
  unfold mk_j at h
  refine dd_lp (σ := Unit) (fun m i _ => wX_hasJoinedRow_2 post (nI n) (nI pn) (nI rn) (fun d => dd_i (L d)) (fun d => dd_i (R d)) (fun d => dd_b (B d)) (fun d => dd_i (P d)) ce mk m (nI i)) (fun _ => ()) (fun i => dd_al (fun i => !dd_al (fun c => decide (g i c = 0)) 6) i = true) pn 0 (Nat.zero_le pn) rfl (fun m hJ => ?_) (fun m i _ hi hJ ih => ?_)
  · rw [hJ] at h
    exact br_t (nI_le (Nat.le_refl pn) (by omega)) h
  · refine br_f (nI_ge hi (by omega)) ?_
    refine dd_lp (fun m' c s => wX_hasJoinedRow_14 post (wX_hasJoinedRow_2 post (nI n) (nI pn) (nI rn) (fun d => dd_i (L d)) (fun d => dd_i (R d)) (fun d => dd_b (B d)) (fun d => dd_i (P d)) ce mk m) (nI i) (nI n) (nI pn) (nI rn) (fun d => dd_i (L d)) (fun d => dd_i (R d)) (fun d => dd_b (B d)) (fun d => dd_i (P d)) ce mk m' (dd_i s) (nI c)) (dd_of (fun c => decide (g i c = 0))) (fun _ => True) 6 0 (by decide) trivial (fun m' _ => ?_) (fun m' c _ hc _ ih2 => ?_)
    · refine br_t (nI_le (Nat.le_refl 6) (by decide)) (dd_bre _ 63#6 (fun z => ?_) (fun z => nm_r (nI_1 i) (ih () rfl (dd_alS hJ ?_))))
      · have e : dd_al (fun c => decide (g i c = 0)) 6 = true := dd_alI.mpr fun c hc => by
          have := congrArg (fun s => BitVec.getLsbD s c) z
          simp only [dd_of6 _ hc] at this
          rw [this]
          exact (by decide : ∀ c, c < 6 → (63#6).getLsbD c = true) c hc
        rw [dd_alF (q := fun i => !dd_al (fun c => decide (g i c = 0)) 6) hi (by rw [e]; rfl)] at h
        exact h
      · have e : dd_al (fun c => decide (g i c = 0)) 6 = false := ts_nt fun w => z (dd_ext fun c hc => by
          rw [dd_of6 _ hc, (by decide : ∀ c, c < 6 → (63#6).getLsbD c = true) c hc]
          exact dd_alI.mp w c hc)
        rw [e]; rfl
    · have b1 := hb i c hi hc
      exact br_f (nI_ge hc (by decide)) ⟨by rw [dd_ixX]; exact vp_in_nI (by omega) (by decide), dd_if (d := g i c = 0) (by rw [dd_ixX, nI_clamp (by omega), hR i c hi hc, ← nI_0, nI_eq (by omega) (by omega)]) (fun z => nm_r (e' := dd_i (dd_of (fun c => decide (g i c = 0)) c ||| dd_e c)) (by rw [dd_1 c hc, dd_or]) (nm_r (nI_1 c) (ih2 _ (dd_ofT (decide_eq_true z)) trivial))) (fun z => nm_r (nI_1 c) (ih2 _ (dd_ofF (decide_eq_false z)) trivial))⟩
/-- what one round keeps: up to the pair (i, j) -/
def mk_rd (L R : Nat → dd_S) (B : Nat → Bool) (n : Nat) (P : Nat → dd_S) (pn : Nat) (g0 : Nat → Nat → Nat) (i j : Nat) (a : Nat → Int32) : Prop :=
  ∃ g, mk_R a pn g ∧ mk_I (mk_F L R B n) pn (mk_h P) g ∧ (mk_w pn g < mk_w pn g0 ∨ (g = g0 ∧ ∀ i' j', j' < i' → i' < pn → (i' < i ∨ (i' = i ∧ j' < j)) → ∀ c, c < 6 → (dd_C1 L R B n (mk_agr g0 i' j')).getLsbD c = true → g0 i' c = g0 j' c)) ∧ (mk_closed (mk_F L R B n) pn g0 → g = g0)
theorem x_lossless {post : Int32 → SX → Prop} (hn : n ≤ 10) (hp : pn ≤ 4) (h : ∀ g mk', mk_I (mk_F L R B n) pn (mk_h P) g → mk_closed (mk_F L R B n) pn g → post (dd_b (mk_j pn g)) (xT L R B n P pn ce rn mk')) : wpX_lossless post (xT L R B n P pn ce rn mk) := by
  unfold wpX_lossless
  refine x_singles hn fun f hf => x_markParts hp fun mk0 hmk0 => ?_
  refine pk_loop (fun m k a => wX_lossless_18 post f m (nI k) (nI n) (nI pn) (nI rn) (fun d => dd_i (L d)) (fun d => dd_i (R d)) (fun d => dd_b (B d)) (fun d => dd_i (P d)) ce a) (fun k a => ∃ g, mk_R a pn g ∧ mk_I (mk_F L R B n) pn (mk_h P) g ∧ (mk_closed (mk_F L R B n) pn g ∨ mk_w pn g + k ≤ 24)) 24 0 mk0 (by decide) ⟨mk_h P, hmk0, mk_start fun i c _ _ => mk_ho P i c, Or.inr (by have := mk_wle pn (mk_h P); omega)⟩ (fun m a hI => ?_) (fun m k a hk hI ih => ?_)
  · obtain ⟨g, h1, h2, h3⟩ := hI
    have hcl : mk_closed (mk_F L R B n) pn g := by
      rcases h3 with h3 | h3
      · exact h3
      · exact mk_zero h2 (by omega)
    exact br_t (nI_le (Nat.le_refl 24) (by decide)) (x_hasJoinedRow hp h1 (fun _ _ z1 z2 => mk_le4 h2 hp z1 z2) ⟨dd_bn _, h g a h2 hcl⟩)
  · obtain ⟨g0, h1, h2, h3⟩ := hI
    refine br_f (nI_ge hk (by decide)) ?_
    have nxt : ∀ a', mk_rd L R B n P pn g0 pn 0 a' → wX_lossless_18 post f m (nI (k + 1)) (nI n) (nI pn) (nI rn) (fun d => dd_i (L d)) (fun d => dd_i (R d)) (fun d => dd_b (B d)) (fun d => dd_i (P d)) ce a' := by
      rintro a' ⟨g, k1, k2, k3, k4⟩
      refine ih a' ⟨g, k1, k2, ?_⟩
      rcases k3 with k3 | ⟨e, k3⟩
      · rcases h3 with h3 | h3
        · left; rw [k4 h3]; exact h3
        · right; omega
      · left
        rw [e]
        exact mk_closedX fun i j hj hi c hc => k3 i j hj hi (Or.inl hi) c (dd_lt hc) hc
    have rounds : ∃ m', wX_lossless_28 post (wX_lossless_18 post f m) f (nI k) m' (nI 1) (nI n) (nI pn) (nI rn) (fun d => dd_i (L d)) (fun d => dd_i (R d)) (fun d => dd_b (B d)) (fun d => dd_i (P d)) ce a := by
      rcases Nat.lt_or_ge pn 1 with z | z
      · refine ⟨1, br_t (nI_le (by omega) (by decide)) (nm_r (nI_1 k) (nxt a ⟨g0, h1, h2, Or.inr ⟨rfl, fun i' j' q1 q2 => by omega⟩, fun _ => rfl⟩))⟩
      · refine pk_loop (fun m' i a => wX_lossless_28 post (wX_lossless_18 post f m) f (nI k) m' (nI i) (nI n) (nI pn) (nI rn) (fun d => dd_i (L d)) (fun d => dd_i (R d)) (fun d => dd_b (B d)) (fun d => dd_i (P d)) ce a) (fun i a => mk_rd L R B n P pn g0 i 0 a) pn 1 a z ⟨g0, h1, h2, Or.inr ⟨rfl, fun i' j' q1 q2 q3 => by omega⟩, fun _ => rfl⟩ (fun m' a hI => ?_) (fun m' i a hi hI ih2 => ?_)
        · exact br_t (nI_le (Nat.le_refl pn) (by omega)) (nm_r (nI_1 k) (nxt a hI))
        · refine br_f (nI_ge hi (by omega)) ?_
          refine pk_loop (fun m'' j a => wX_lossless_40 post (wX_lossless_18 post f m) (wX_lossless_28 post (wX_lossless_18 post f m) f (nI k) m') f (nI k) (nI i) m'' (nI j) (nI n) (nI pn) (nI rn) (fun d => dd_i (L d)) (fun d => dd_i (R d)) (fun d => dd_b (B d)) (fun d => dd_i (P d)) ce a) (fun j a => mk_rd L R B n P pn g0 i j a) i 0 a (Nat.zero_le i) hI (fun m'' a hI2 => ?_) (fun m'' j a hj hI2 ih3 => ?_)
          · refine br_t (nI_le (Nat.le_refl i) (by omega)) (nm_r (nI_1 i) (ih2 a ?_))
            obtain ⟨g, k1, k2, k3, k4⟩ := hI2
            refine ⟨g, k1, k2, k3.imp id fun ⟨e, k3⟩ => ⟨e, fun i' j' q1 q2 q3 => k3 i' j' q1 q2 (by omega)⟩, k4⟩
          · obtain ⟨g, k1, k2, k3, k4⟩ := hI2
            refine br_f (nI_ge hj (by omega)) (x_equateMarks hp hf k1 k2 i j hi (by omega) fun mk' g' w1 w2 w3 w4 => nm_r (nI_1 j) (ih3 mk' ⟨g', w1, w2, ?_, fun hcl => ?_⟩))
            · rcases w3 with w3 | ⟨e', w3⟩
              · left
                rcases k3 with k3 | ⟨e, _⟩
                · omega
                · rw [e] at w3; exact w3
              · rw [e']
                refine k3.imp id fun ⟨e, k3⟩ => ⟨e, fun i' j' q1 q2 q3 c hc hb => ?_⟩
                by_cases z : i' = i ∧ j' = j
                · rw [e] at w3
                  rw [z.1, z.2] at hb ⊢
                  exact w3 c hc hb
                · exact k3 i' j' q1 q2 (by omega) c hc hb
            · have e := k4 hcl
              rw [w4 (by rw [e]; exact hcl)]; exact e
    exact rounds
end
