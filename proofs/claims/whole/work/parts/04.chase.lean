/-! the chase on two rows: what it keeps, and what it says when it stands still (no printed name is used) -/
theorem dd_refl (a : dd_S) : dd_sub a a := dd_subI.mpr fun _ h => h
theorem dd_trans {a b c : dd_S} (h1 : dd_sub a b) (h2 : dd_sub b c) : dd_sub a c := dd_subI.mpr fun i h => dd_subI.mp h2 i (dd_subI.mp h1 i h)
theorem dd_anti {a b : dd_S} (h1 : dd_sub a b) (h2 : dd_sub b a) : a = b := dd_ext fun i _ => Bool.eq_iff_iff.mpr ⟨dd_subI.mp h1 i, dd_subI.mp h2 i⟩
theorem dd_nm {S S' : dd_S} (hs : dd_sub S S') : ~~~S &&& ~~~S' = ~~~S' := dd_ext fun i hi => by
  rw [BitVec.getLsbD_and, dd_not hi, dd_not hi]
  have := dd_subI.mp hs i
  cases hS : S.getLsbD i <;> cases hS' : S'.getLsbD i <;> simp_all
theorem dd_0a (a : dd_S) : 0#6 &&& a = 0#6 := dd_ext fun i hi => by simp
theorem dd_zn {r S : dd_S} (h : r &&& S = 0#6) : r &&& ~~~S = r := dd_ext fun i hi => by
  rw [BitVec.getLsbD_and, dd_not hi]
  have := dd_zI.mp h i
  cases hS : S.getLsbD i <;> cases hT : r.getLsbD i <;> simp_all
def dd_I (F M : dd_S → dd_S → Prop) (x S : dd_S) (md : dd_S → Prop) : Prop :=
  dd_sub x S ∧ (∀ T, dd_V F M T → dd_sub x T → dd_sub S T)
  ∧ (∀ S', dd_sub S S' → ∀ r, md r → dd_D M S' (r &&& ~~~S'))
  ∧ md 0#6 ∧ md (~~~S) ∧ (∀ r, md r → r &&& S = 0#6)
section
variable {F M : dd_S → dd_S → Prop} {x S : dd_S} {md : dd_S → Prop}
theorem dd_Icong {md' : dd_S → Prop} (h : ∀ r, md' r ↔ md r) (I : dd_I F M x S md) : dd_I F M x S md' := by
  have e : md' = md := funext fun r => propext (h r)
  rw [e]; exact I
theorem dd_Istart (h : ∀ r, md r ↔ r = 0#6 ∨ r = ~~~x) : dd_I F M x x md := by
  refine ⟨dd_refl x, fun _ _ h => h, fun S' hs r hr => ?_, (h _).mpr (Or.inl rfl), (h _).mpr (Or.inr rfl), fun r hr => ?_⟩
  · rcases (h r).mp hr with rfl | rfl
    · rw [dd_0a]; exact dd_D0
    · rw [dd_nm hs]; exact dd_DU
  · rcases (h r).mp hr with rfl | rfl
    · exact dd_0a x
    · exact dd_zI.mpr fun i h1 h2 => by rw [dd_not (dd_lt h2), h2] at h1; exact absurd h1 (by decide)
theorem dd_mixm (m a b s : dd_S) : dd_mix m a b &&& s = dd_mix m (a &&& s) (b &&& s) := dd_ext fun i hi => by
  rw [BitVec.getLsbD_and, dd_mixB _ _ _ hi, dd_mixB _ _ _ hi, BitVec.getLsbD_and, BitVec.getLsbD_and]
  split <;> rfl
theorem dd_xzm {a b l : dd_S} (s : dd_S) (e : (a ^^^ b) &&& l = 0#6) : ((a &&& s) ^^^ (b &&& s)) &&& l = 0#6 := dd_xz.mpr fun i hl => by
  rw [BitVec.getLsbD_and, BitVec.getLsbD_and, dd_xz.mp e i hl]
/-- a row more by a bundled one -/
theorem dd_IM (I : dd_I F M x S md) {l r a b : dd_S} (hM : M l r) (ha : md a) (hb : md b) (e : (a ^^^ b) &&& l = 0#6) : dd_I F M x S (fun t => md t ∨ dd_mix (l ||| r) a b = t) := by
  obtain ⟨i1, i2, i3, i4, i5, i6⟩ := I
  refine ⟨i1, i2, fun S' hs t ht => ?_, Or.inl i4, Or.inl i5, fun t ht => ?_⟩
  · rcases ht with ht | rfl
    · exact i3 S' hs t ht
    · rw [dd_mixm]
      exact dd_DC l r hM _ _ (i3 S' hs a ha) (i3 S' hs b hb) (dd_xzm _ e)
  · rcases ht with ht | rfl
    · exact i6 t ht
    · refine dd_zI.mpr fun i h h2 => ?_
      rw [dd_mixB _ _ _ (dd_lt h2)] at h
      split at h
      · exact dd_zI.mp (i6 a ha) i h h2
      · exact dd_zI.mp (i6 b hb) i h h2
/-- what a single one makes the same, every pair of rows that keeps all has the same -/
theorem dd_IF (I : dd_I F M x S md) {l r a b : dd_S} (hF : F l r) (ha : md a) (hb : md b) (e : (a ^^^ b) &&& l = 0#6) : ∀ T, dd_V F M T → dd_sub x T → dd_sub ((a ^^^ b) &&& r) T := by
  intro T hT hx
  obtain ⟨i1, i2, i3, i4, i5, i6⟩ := I
  have hS := i2 T hT hx
  have da := dd_two hT (i3 T hS a ha)
  have db := dd_two hT (i3 T hS b hb)
  have ba : ∀ j, j < 6 → T.getLsbD j = false → (a &&& ~~~T).getLsbD j = a.getLsbD j := fun j hj h => by rw [BitVec.getLsbD_and, dd_not hj, h]; simp
  have bb : ∀ j, j < 6 → T.getLsbD j = false → (b &&& ~~~T).getLsbD j = b.getLsbD j := fun j hj h => by rw [BitVec.getLsbD_and, dd_not hj, h]; simp
  refine dd_subI.mpr fun i hi => ?_
  have h6 := dd_lt hi
  rw [BitVec.getLsbD_and, BitVec.getLsbD_xor, Bool.and_eq_true] at hi
  cases hTi : T.getLsbD i with
  | true => rfl
  | false =>
    exfalso
    have ne : a &&& ~~~T ≠ b &&& ~~~T := fun z => by
      have := congrArg (fun z => BitVec.getLsbD z i) z
      rw [ba i h6 hTi, bb i h6 hTi] at this
      rw [this] at hi
      simp at hi
    have hl : dd_sub l T := dd_subI.mpr fun j hj => by
      have h6j := dd_lt hj
      cases hTj : T.getLsbD j with
      | true => rfl
      | false =>
        exfalso
        have q := dd_xz.mp e j hj
        rw [← ba j h6j hTj, ← bb j h6j hTj] at q
        rcases da with da | da <;> rcases db with db | db <;> rw [da, db] at ne q
        · exact ne rfl
        · rw [dd_not h6j, hTj] at q; simp at q
        · rw [dd_not h6j, hTj] at q; simp at q
        · exact ne rfl
    have := dd_subI.mp (hT.1 l r hF hl) i hi.2
    rw [hTi] at this
    exact absurd this (by decide)
theorem dd_Ieq (I : dd_I F M x S md) {S2 : dd_S} (h1 : dd_sub S S2) (h2 : ∀ T, dd_V F M T → dd_sub x T → dd_sub S2 T) {md' : dd_S → Prop} (hm : ∀ r, md' r ↔ ∃ s, md s ∧ s &&& ~~~S2 = r) : dd_I F M x S2 md' := by
  obtain ⟨i1, i2, i3, i4, i5, i6⟩ := I
  refine ⟨dd_trans i1 h1, h2, fun S' hs r hr => ?_, (hm _).mpr ⟨_, i4, dd_0a _⟩, (hm _).mpr ⟨_, i5, dd_nm h1⟩, fun r hr => ?_⟩
  · obtain ⟨s, h, rfl⟩ := (hm r).mp hr
    rw [show s &&& ~~~S2 &&& ~~~S' = s &&& ~~~S' from dd_ext fun i hi => by
      rw [BitVec.getLsbD_and, BitVec.getLsbD_and, BitVec.getLsbD_and, dd_not hi, dd_not hi]
      have := dd_subI.mp hs i
      cases hS : S2.getLsbD i <;> cases hS' : S'.getLsbD i <;> simp_all]
    exact i3 S' (dd_trans h1 hs) s h
  · obtain ⟨s, h, rfl⟩ := (hm r).mp hr
    refine dd_zI.mpr fun i h h2 => ?_
    rw [BitVec.getLsbD_and, dd_not (dd_lt h2), h2] at h
    simp at h
/-- more of the same columns: the rows have changed -/
theorem dd_Ine (I : dd_I F M x S md) {S2 : dd_S} (h1 : dd_sub S S2) (hn : S ≠ S2) : ∃ r, md r ∧ ¬ r &&& S2 = 0#6 := by
  refine ⟨~~~S, I.2.2.2.2.1, fun z => hn (dd_anti h1 (dd_subI.mpr fun i hi => ?_))⟩
  have := dd_zI.mp z i
  rw [dd_not (dd_lt hi)] at this
  cases h : S.getLsbD i with
  | true => rfl
  | false => rw [h] at this; exact (this rfl hi).elim
theorem dd_Iend (I : dd_I F M x S md) (hM : dd_Cl M md)
    (hF : ∀ l r, F l r → ∀ a b, md a → md b → (a ^^^ b) &&& l = 0#6 → (a ^^^ b) &&& r = 0#6) :
    (∀ c, c < 6 → (S.getLsbD c = true ↔ ∀ T, dd_V F M T → dd_sub x T → T.getLsbD c = true)) ∧
    ∀ r, r &&& S = 0#6 → (md r ↔ ∀ T, dd_V F M T → dd_sub x T → r &&& ~~~T = 0#6 ∨ r &&& ~~~T = ~~~T) := by
  obtain ⟨i1, i2, i3, i4, i5, i6⟩ := I
  have e : ∀ r, md r ↔ dd_D M S r := fun r => ⟨fun h => by
    have := i3 S (dd_refl S) r h
    rwa [dd_zn (i6 r h)] at this, fun h => h md i4 i5 hM⟩
  have hF' : ∀ l r, F l r → ∀ a b, dd_D M S a → dd_D M S b → (a ^^^ b) &&& l = 0#6 → (a ^^^ b) &&& r = 0#6 :=
    fun l r h a b ha hb => hF l r h a b ((e a).mpr ha) ((e b).mpr hb)
  exact ⟨fun c hc => dd_col hF' i1 i2 hc, fun r hr => (e r).trans (dd_row hF' i1 i2 hr)⟩
/-- the row that tells x ->> y -/
theorem dd_Ibun (I : dd_I F M x S md) (hM : dd_Cl M md)
    (hF : ∀ l r, F l r → ∀ a b, md a → md b → (a ^^^ b) &&& l = 0#6 → (a ^^^ b) &&& r = 0#6) (y : dd_S) :
    md (~~~(x ||| y) &&& ~~~S) ↔ ∀ T, dd_V F M T → dd_pk T x y true = true := by
  have hz : ~~~(x ||| y) &&& ~~~S &&& S = 0#6 := dd_zI.mpr fun i h h2 => by
    rw [BitVec.getLsbD_and, dd_not (a := S) (dd_lt h2), h2] at h
    simp at h
  rw [(dd_Iend I hM hF).2 _ hz]
  have key : ∀ T, dd_V F M T → dd_sub x T → ((~~~(x ||| y) &&& ~~~S &&& ~~~T = 0#6 ∨ ~~~(x ||| y) &&& ~~~S &&& ~~~T = ~~~T) ↔ dd_sub y T ∨ (true = true ∧ dd_sub (~~~(x ||| y)) T)) := by
    intro T hT hx
    have hS := dd_subI.mp (I.2.1 T hT hx)
    have hx' := dd_subI.mp hx
    rw [dd_subI, dd_subI]
    constructor
    · rintro (h | h)
      · refine Or.inr ⟨rfl, fun i hi => ?_⟩
        have h6 := dd_lt hi
        have := congrArg (fun z => BitVec.getLsbD z i) h
        simp only [BitVec.getLsbD_and, dd_not h6] at this
        rw [dd_not h6] at hi
        have := hS i
        cases hTi : T.getLsbD i <;> cases hSi : S.getLsbD i <;> simp_all
      · refine Or.inl fun i hi => ?_
        have h6 := dd_lt hi
        have := congrArg (fun z => BitVec.getLsbD z i) h
        simp only [BitVec.getLsbD_and, dd_not h6, BitVec.getLsbD_or] at this
        cases hTi : T.getLsbD i <;> simp_all
    · rintro (h | ⟨_, h⟩)
      · refine Or.inr (dd_ext fun i hi => ?_)
        simp only [BitVec.getLsbD_and, dd_not hi, BitVec.getLsbD_or]
        have a1 := h i
        have a2 := hS i
        have a3 := hx' i
        cases hTi : T.getLsbD i <;> cases hSi : S.getLsbD i <;> cases hyi : y.getLsbD i <;> cases hxi : x.getLsbD i <;> simp_all
      · refine Or.inl (dd_ext fun i hi => ?_)
        have a1 := h i
        rw [dd_not hi] at a1
        simp only [BitVec.getLsbD_and, dd_not hi]
        cases hTi : T.getLsbD i <;> cases hq : (x ||| y).getLsbD i <;> simp_all
  constructor
  · intro h T hT
    exact dd_pkI.mpr fun hx => (key T hT hx).mp (h T hT hx)
  · intro h T hT hx
    exact (key T hT hx).mpr (dd_pkI.mp (h T hT) hx)
end
