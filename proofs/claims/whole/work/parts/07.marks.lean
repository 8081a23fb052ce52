/-! merging marks, the lesser stays (no printed name is used).
  A table is g : Nat → Nat → Nat (part, column); n parts; E is 'columns c, d: ..' given as a closure property of agreement -/
def mk_ag (g : Nat → Nat → Nat) (i j : Nat) (c : Nat) : Prop := g i c = g j c
/-- closed: where two parts agree on the left they agree on the right -/
def mk_closed (F : dd_S → dd_S → Prop) (n : Nat) (g : Nat → Nat → Nat) : Prop :=
  ∀ l r, F l r → ∀ i j, i < n → j < n → (∀ c, l.getLsbD c = true → g i c = g j c) → ∀ c, r.getLsbD c = true → g i c = g j c
def mk_C (F : dd_S → dd_S → Prop) (n : Nat) (h g : Nat → Nat → Nat) : Prop :=
  mk_closed F n g ∧ (∀ i c, i < n → c < 6 → g i c ≤ h i c) ∧ (∀ i j c, i < n → j < n → c < 6 → h i c = h j c → g i c = g j c)
/-- what merging keeps: below every member of C none, and the own marks -/
def mk_I (F : dd_S → dd_S → Prop) (n : Nat) (h m : Nat → Nat → Nat) : Prop :=
  (∀ g, mk_C F n h g → (∀ i c, i < n → c < 6 → g i c ≤ m i c) ∧ (∀ i j c, i < n → j < n → c < 6 → m i c = m j c → g i c = g j c))
  ∧ (∀ i c, i < n → c < 6 → m i c ≤ h i c) ∧ (∀ i j c, i < n → j < n → c < 6 → h i c = h j c → m i c = m j c)
  ∧ (∀ i c, i < n → c < 6 → m i c = 0 ∨ ∃ k, k < n ∧ m i c = k + 1 ∧ m k c = k + 1)
def mk_mg (m : Nat → Nat → Nat) (c a b : Nat) : Nat → Nat → Nat :=
  fun r d => if d = c ∧ (m r d = a ∨ m r d = b) then min a b else m r d
theorem mk_start {F : dd_S → dd_S → Prop} {n : Nat} {h : Nat → Nat → Nat} (ho : ∀ i c, i < n → c < 6 → h i c = 0 ∨ h i c = i + 1) : mk_I F n h h :=
  ⟨fun _ hg => ⟨hg.2.1, hg.2.2⟩, fun _ _ _ _ => Nat.le_refl _, fun _ _ _ _ _ _ e => e,
   fun i c hi hc => (ho i c hi hc).imp id fun e => ⟨i, hi, e, e⟩⟩
theorem mk_end {F : dd_S → dd_S → Prop} {n : Nat} {h m m' : Nat → Nat → Nat} (hm : mk_I F n h m) (hm' : mk_I F n h m')
    (hc : mk_closed F n m) (hc' : mk_closed F n m') {i c : Nat} (hi : i < n) (hcc : c < 6) : m i c = m' i c :=
  Nat.le_antisymm ((hm'.1 m ⟨hc, hm.2.1, hm.2.2.1⟩).1 i c hi hcc) ((hm.1 m' ⟨hc', hm'.2.1, hm'.2.2.1⟩).1 i c hi hcc)
theorem mk_step {F : dd_S → dd_S → Prop} {n : Nat} {h m : Nat → Nat → Nat} (I : mk_I F n h m) {i j c : Nat} (hi : i < n) (hj : j < n) (hc : c < 6)
    (hg : ∀ g, mk_C F n h g → g i c = g j c) : mk_I F n h (mk_mg m c (m i c) (m j c)) := by
  obtain ⟨I1, I2, I3, I4⟩ := I
  refine ⟨fun g hC => ?_, ?_, ?_, ?_⟩
  · obtain ⟨A, B⟩ := I1 g hC
    have hij := hg g hC
    have hmin : ∀ r, r < n → (m r c = m i c ∨ m r c = m j c) → g r c = g i c := fun r hr e => by
      rcases e with e | e
      · exact B r i c hr hi hc e
      · rw [hij]; exact B r j c hr hj hc e
    have hle : g i c ≤ min (m i c) (m j c) := Nat.le_min.mpr ⟨A i c hi hc, by rw [hij]; exact A j c hj hc⟩
    have own : min (m i c) (m j c) = m i c ∨ min (m i c) (m j c) = m j c := by omega
    refine ⟨fun r d hr hd => ?_, fun r s d hr hs hd e => ?_⟩
    · unfold mk_mg
      split
      · rename_i hh
        obtain ⟨rfl, hh⟩ := hh
        rw [hmin r hr hh]; exact hle
      · exact A r d hr hd
    · unfold mk_mg at e
      split at e
      · rename_i h1
        obtain ⟨rfl, h1⟩ := h1
        split at e
        · rename_i h2
          rw [hmin r hr h1, hmin s hs h2.2]
        · rename_i h2
          exact absurd ⟨rfl, by rcases own with o | o <;> rw [← e, o] <;> simp⟩ h2
      · rename_i h1
        split at e
        · rename_i h2
          obtain ⟨rfl, h2⟩ := h2
          exact absurd ⟨rfl, by rcases own with o | o <;> rw [e, o] <;> simp⟩ h1
        · exact B r s d hr hs hd e
  · intro r d hr hd
    unfold mk_mg
    split
    · rename_i hh
      obtain ⟨rfl, hh⟩ := hh
      have := I2 r d hr hd
      omega
    · exact I2 r d hr hd
  · intro r s d hr hs hd e
    have := I3 r s d hr hs hd e
    unfold mk_mg
    rw [this]
  · intro r d hr hd
    unfold mk_mg
    split
    · rename_i hh
      obtain ⟨rfl, hh⟩ := hh
      have own : min (m i d) (m j d) = m i d ∨ min (m i d) (m j d) = m j d := by omega
      rcases own with o | o
      · rw [o]
        rcases I4 i d hi hd with z | ⟨k, hk, z, y⟩
        · exact Or.inl z
        · refine Or.inr ⟨k, hk, z, ?_⟩
          rw [if_pos ⟨rfl, Or.inl (by rw [y, z])⟩, z]
      · rw [o]
        rcases I4 j d hj hd with z | ⟨k, hk, z, y⟩
        · exact Or.inl z
        · refine Or.inr ⟨k, hk, z, ?_⟩
          rw [if_pos ⟨rfl, Or.inr (by rw [y, z])⟩, z]
    · rename_i hh
      rcases I4 r d hr hd with z | ⟨k, hk, z, y⟩
      · exact Or.inl z
      · refine Or.inr ⟨k, hk, z, ?_⟩
        rw [if_neg fun q => hh ⟨q.1, by rw [z, ← y]; exact q.2⟩, y]
theorem mk_same (m : Nat → Nat → Nat) (c a : Nat) : mk_mg m c a a = m := funext fun r => funext fun d => by
  unfold mk_mg
  split
  · rename_i h
    rcases h.2 with z | z <;> rw [z] <;> exact Nat.min_self a
  · rfl
/-- the cells that still have their own mark -/
def mk_w (n : Nat) (g : Nat → Nat → Nat) : Nat := dd_cn (fun k => decide (g (k / 6) (k % 6) = k / 6 + 1)) (6 * n)
theorem mk_wle (n : Nat) (g : Nat → Nat → Nat) : mk_w n g ≤ 6 * n := dd_cnle _ _
theorem mk_wlt {F : dd_S → dd_S → Prop} {n : Nat} {h m : Nat → Nat → Nat} (I : mk_I F n h m) {i j c : Nat} (hi : i < n) (hj : j < n) (hc : c < 6)
    (hne : m i c ≠ m j c) : mk_w n (mk_mg m c (m i c) (m j c)) < mk_w n m := by
  have I4 := I.2.2.2
  have big : ∃ k, k < n ∧ m k c = k + 1 ∧ (k + 1 = m i c ∨ k + 1 = m j c) ∧ min (m i c) (m j c) < k + 1 := by
    rcases Nat.lt_or_ge (m i c) (m j c) with z | z
    · rcases I4 j c hj hc with y | ⟨k, hk, y, y2⟩
      · omega
      · exact ⟨k, hk, y2, Or.inr y.symm, by omega⟩
    · rcases I4 i c hi hc with y | ⟨k, hk, y, y2⟩
      · omega
      · exact ⟨k, hk, y2, Or.inl y.symm, by omega⟩
  obtain ⟨k, hk, h1, h2, h3⟩ := big
  have hd : (6 * k + c) / 6 = k := by omega
  have hm : (6 * k + c) % 6 = c := by omega
  unfold mk_w
  refine dd_cnlt (d0 := 6 * k + c) (fun d hdn hq => ?_) (by omega) ?_ ?_
  · rw [decide_eq_true_eq] at hq ⊢
    have hr : d / 6 < n := by omega
    generalize d / 6 = r at hq hr ⊢
    generalize d % 6 = e at hq ⊢
    unfold mk_mg at hq
    split at hq
    · rename_i hh
      obtain ⟨he, hh⟩ := hh
      subst he
      have own : min (m i e) (m j e) = m i e ∨ min (m i e) (m j e) = m j e := by omega
      rcases own with o | o
      · rw [o] at hq
        rcases I4 i e hi hc with y | ⟨k', hk', y, y2⟩
        · omega
        · have : k' = r := by omega
          rw [← this]; exact y2
      · rw [o] at hq
        rcases I4 j e hj hc with y | ⟨k', hk', y, y2⟩
        · omega
        · have : k' = r := by omega
          rw [← this]; exact y2
    · exact hq
  · rw [decide_eq_false_iff_not, hd, hm]
    unfold mk_mg
    rw [if_pos ⟨rfl, by rw [h1]; exact h2⟩]
    omega
  · rw [decide_eq_true_eq, hd, hm]; exact h1
theorem mk_w0 {F : dd_S → dd_S → Prop} {n : Nat} {h m : Nat → Nat → Nat} (I : mk_I F n h m) (hw : mk_w n m = 0) {i c : Nat} (hi : i < n) (hc : c < 6) : m i c = 0 := by
  rcases I.2.2.2 i c hi hc with y | ⟨k, hk, y, y2⟩
  · exact y
  · exfalso
    have := dd_cn0 hw (6 * k + c) (by omega)
    rw [decide_eq_false_iff_not, show (6 * k + c) / 6 = k by omega, show (6 * k + c) % 6 = c by omega] at this
    exact this y2
theorem mk_zero {F : dd_S → dd_S → Prop} {n : Nat} {h m : Nat → Nat → Nat} (I : mk_I F n h m) (hw : mk_w n m = 0) : mk_closed F n m :=
  fun _ _ _ i j hi hj _ c hr => by rw [mk_w0 I hw hi (dd_lt hr), mk_w0 I hw hj (dd_lt hr)]
/-- where two parts have the same marks -/
def mk_agr (g : Nat → Nat → Nat) (i j : Nat) : dd_S := dd_of (fun c => decide (g i c = g j c)) 6
theorem mk_agB {g : Nat → Nat → Nat} {i j c : Nat} (hc : c < 6) : (mk_agr g i j).getLsbD c = true ↔ g i c = g j c := by
  unfold mk_agr; rw [dd_of6 _ hc, decide_eq_true_eq]
section
variable {L R : Nat → dd_S} {B : Nat → Bool} {gn : Nat} {n : Nat} {h m : Nat → Nat → Nat}
theorem mk_valid {g : Nat → Nat → Nat} (hg : mk_closed (dd_F L R B gn (fun d => !B d) false) n g) {i j : Nat} (hi : i < n) (hj : j < n) :
    dd_v L R B gn (fun d => !B d) (mk_agr g i j).toNat = true := by
  refine dd_vI.mpr ⟨?_, ?_⟩
  · intro l r hF hl
    refine dd_subI.mpr fun c hr => (mk_agB (dd_lt hr)).mpr ?_
    exact hg l r hF i j hi hj (fun c hc => (mk_agB (dd_lt hc)).mp (dd_subI.mp hl c hc)) c hr
  · rintro l r ⟨d, _, hc, hb, _, _⟩ _
    have hc' : (!B d) = true := hc
    rw [hb] at hc'
    exact absurd hc' (by decide)
theorem mk_reach (I : mk_I (dd_F L R B gn (fun d => !B d) false) n h m) {i j c : Nat} (hi : i < n) (hj : j < n)
    (hc : (dd_cl (dd_v L R B gn (fun d => !B d)) (mk_agr m i j)).getLsbD c = true) : ∀ g, mk_C (dd_F L R B gn (fun d => !B d) false) n h g → g i c = g j c := by
  intro g hg
  have hv := mk_valid hg.1 hi hj
  have hs : dd_sub (mk_agr m i j) (mk_agr g i j) := dd_subI.mpr fun d hd => (mk_agB (dd_lt hd)).mpr ((I.1 g hg).2 i j d hi hj (dd_lt hd) ((mk_agB (dd_lt hd)).mp hd))
  exact (mk_agB (dd_lt hc)).mp (dd_subI.mp (dd_clle hv hs) c hc)
theorem mk_closedX (hc : ∀ i j, j < i → i < n → ∀ c, (dd_cl (dd_v L R B gn (fun d => !B d)) (mk_agr m i j)).getLsbD c = true → m i c = m j c) :
    mk_closed (dd_F L R B gn (fun d => !B d) false) n m := by
  have key : ∀ l r, dd_F L R B gn (fun d => !B d) false l r → ∀ i j, j < i → i < n → (∀ c, l.getLsbD c = true → m i c = m j c) → ∀ c, r.getLsbD c = true → m i c = m j c := by
    intro l r hF i j hj hi hl c hr
    refine hc i j hj hi c ((dd_clB (dd_lt hr)).mpr fun T hT hs => ?_)
    have hlT : dd_sub l T := dd_subI.mpr fun d hd => dd_subI.mp hs d ((mk_agB (dd_lt hd)).mpr (hl d hd))
    exact dd_subI.mp ((dd_vI.mp hT).1 l r hF hlT) c hr
  intro l r hF i j hi hj hl c hr
  rcases Nat.lt_trichotomy i j with z | z | z
  · exact (key l r hF j i z hj (fun c hc => (hl c hc).symm) c hr).symm
  · rw [z]
  · exact key l r hF i j z hi hl c hr
end
