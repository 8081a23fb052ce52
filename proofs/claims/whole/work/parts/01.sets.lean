/-! sets of columns as BitVec 6; what a closed tableau says of pairs of rows (no printed name is used) -/
abbrev dd_S : Type := BitVec 6
abbrev dd_sub (a b : dd_S) : Prop := a &&& ~~~b = 0#6
theorem dd_ext {a b : dd_S} (h : ∀ i, i < 6 → a.getLsbD i = b.getLsbD i) : a = b := BitVec.eq_of_getLsbD_eq h
theorem dd_lt {a : dd_S} {i : Nat} (h : a.getLsbD i = true) : i < 6 := by
  rcases Nat.lt_or_ge i 6 with h6 | h6
  · exact h6
  · rw [BitVec.getLsbD_of_ge a i h6] at h; exact absurd h (by decide)
theorem dd_subI {a b : dd_S} : dd_sub a b ↔ ∀ i, a.getLsbD i = true → b.getLsbD i = true := by
  constructor
  · intro h i ha
    have hi := dd_lt ha
    have e := congrArg (fun z => BitVec.getLsbD z i) h
    rw [BitVec.getLsbD_and, BitVec.getLsbD_not, ha] at e
    simpa [hi] using e
  · intro h
    refine dd_ext fun i hi => ?_
    rw [BitVec.getLsbD_and, BitVec.getLsbD_not]
    cases ha : a.getLsbD i with
    | false => simp
    | true => rw [h i ha]; simp
theorem dd_zI {a b : dd_S} : a &&& b = 0#6 ↔ ∀ i, a.getLsbD i = true → b.getLsbD i = true → False := by
  constructor
  · intro h i ha hb
    have e := congrArg (fun z => BitVec.getLsbD z i) h
    rw [BitVec.getLsbD_and, ha, hb] at e
    simp at e
  · intro h
    refine dd_ext fun i hi => ?_
    rw [BitVec.getLsbD_and]
    cases ha : a.getLsbD i with
    | false => simp
    | true =>
      cases hb : b.getLsbD i with
      | false => simp
      | true => exact (h i ha hb).elim
theorem dd_not {a : dd_S} {i : Nat} (hi : i < 6) : (~~~a).getLsbD i = !a.getLsbD i := by
  rw [BitVec.getLsbD_not]; simp [hi]
/-- r on the columns of m, s elsewhere -/
def dd_mix (m a b : dd_S) : dd_S := (a &&& m) ||| (b &&& ~~~m)
theorem dd_mixB (m a b : dd_S) {i : Nat} (hi : i < 6) : (dd_mix m a b).getLsbD i = if m.getLsbD i then a.getLsbD i else b.getLsbD i := by
  unfold dd_mix
  rw [BitVec.getLsbD_or, BitVec.getLsbD_and, BitVec.getLsbD_and, dd_not hi]
  cases m.getLsbD i <;> simp
def dd_Cl (M : dd_S → dd_S → Prop) (P : dd_S → Prop) : Prop :=
  ∀ l r, M l r → ∀ a b, P a → P b → (a ^^^ b) &&& l = 0#6 → P (dd_mix (l ||| r) a b)
/-- the least family with 0 and the columns outside S that the bundled ones leave closed -/
def dd_D (M : dd_S → dd_S → Prop) (S r : dd_S) : Prop :=
  ∀ P : dd_S → Prop, P 0#6 → P (~~~S) → dd_Cl M P → P r
section
variable {M : dd_S → dd_S → Prop} {S : dd_S}
theorem dd_D0 : dd_D M S 0#6 := fun _ h _ _ => h
theorem dd_DU : dd_D M S (~~~S) := fun _ _ h _ => h
theorem dd_DC : dd_Cl M (dd_D M S) := fun l r h a b ha hb e P h0 hU hC => hC l r h a b (ha P h0 hU hC) (hb P h0 hU hC) e
theorem dd_xz {a b l : dd_S} : (a ^^^ b) &&& l = 0#6 ↔ ∀ i, l.getLsbD i = true → a.getLsbD i = b.getLsbD i := by
  rw [dd_zI]
  constructor
  · intro h i hl
    have := h i
    rw [BitVec.getLsbD_xor] at this
    cases ha : a.getLsbD i <;> cases hb : b.getLsbD i <;> simp_all
  · intro h i hx hl
    rw [BitVec.getLsbD_xor, h i hl] at hx
    simp at hx
theorem dd_Dz {r : dd_S} (h : dd_D M S r) : r &&& S = 0#6 := by
  refine h (fun r => r &&& S = 0#6) ?_ ?_ ?_
  · exact dd_zI.mpr fun i h _ => by simp at h
  · exact dd_zI.mpr fun i h h2 => by rw [dd_not (dd_lt h2), h2] at h; simp at h
  · intro l r _ a b ha hb _
    refine dd_zI.mpr fun i h h2 => ?_
    rw [dd_mixB _ _ _ (dd_lt h2)] at h
    split at h
    · exact dd_zI.mp ha i h h2
    · exact dd_zI.mp hb i h h2
theorem dd_Dmask {S' r : dd_S} (hs : dd_sub S S') (h : dd_D M S r) : dd_D M S' (r &&& ~~~S') := by
  refine h (fun r => dd_D M S' (r &&& ~~~S')) ?_ ?_ ?_
  · rw [show (0#6 &&& ~~~S' : dd_S) = 0#6 from dd_ext fun i hi => by simp]; exact dd_D0
  · rw [show (~~~S &&& ~~~S' : dd_S) = ~~~S' from dd_ext fun i hi => by
      rw [BitVec.getLsbD_and, dd_not hi, dd_not hi]
      have := dd_subI.mp hs i
      cases hS : S.getLsbD i <;> cases hS' : S'.getLsbD i <;> simp_all]
    exact dd_DU
  · intro l r hM a b ha hb e
    rw [show dd_mix (l ||| r) a b &&& ~~~S' = dd_mix (l ||| r) (a &&& ~~~S') (b &&& ~~~S') from dd_ext fun i hi => by
      rw [BitVec.getLsbD_and, dd_mixB _ _ _ hi, dd_mixB _ _ _ hi, BitVec.getLsbD_and, BitVec.getLsbD_and]
      split <;> rfl]
    refine dd_DC l r hM _ _ ha hb (dd_xz.mpr fun i hl => ?_)
    rw [BitVec.getLsbD_and, BitVec.getLsbD_and, dd_xz.mp e i hl]
theorem dd_Dand {r t : dd_S} (h : dd_D M S r) (ht : dd_D M S t) : dd_D M S (r &&& t) := by
  refine h (fun r => dd_D M S (r &&& t)) ?_ ?_ ?_
  · rw [show (0#6 &&& t : dd_S) = 0#6 from dd_ext fun i hi => by simp]; exact dd_D0
  · rw [show (~~~S &&& t : dd_S) = t from dd_ext fun i hi => by
      rw [BitVec.getLsbD_and, dd_not hi]
      have := dd_zI.mp (dd_Dz ht) i
      cases hS : S.getLsbD i <;> cases hT : t.getLsbD i <;> simp_all]
    exact ht
  · intro l r hM a b ha hb e
    rw [show dd_mix (l ||| r) a b &&& t = dd_mix (l ||| r) (a &&& t) (b &&& t) from dd_ext fun i hi => by
      rw [BitVec.getLsbD_and, dd_mixB _ _ _ hi, dd_mixB _ _ _ hi, BitVec.getLsbD_and, BitVec.getLsbD_and]
      split <;> rfl]
    refine dd_DC l r hM _ _ ha hb (dd_xz.mpr fun i hl => ?_)
    rw [BitVec.getLsbD_and, BitVec.getLsbD_and, dd_xz.mp e i hl]
theorem dd_Dnot {r : dd_S} (h : dd_D M S r) : dd_D M S (~~~S &&& ~~~r) := by
  refine h (fun r => dd_D M S (~~~S &&& ~~~r)) ?_ ?_ ?_
  · rw [show (~~~S &&& ~~~0#6 : dd_S) = ~~~S from dd_ext fun i hi => by
      rw [BitVec.getLsbD_and, dd_not hi, dd_not hi]; simp]
    exact dd_DU
  · rw [show (~~~S &&& ~~~(~~~S) : dd_S) = 0#6 from dd_ext fun i hi => by
      rw [BitVec.getLsbD_and, dd_not hi, dd_not hi, dd_not hi]; simp]
    exact dd_D0
  · intro l r hM a b ha hb e
    rw [show ~~~S &&& ~~~(dd_mix (l ||| r) a b) = dd_mix (l ||| r) (~~~S &&& ~~~a) (~~~S &&& ~~~b) from dd_ext fun i hi => by
      rw [BitVec.getLsbD_and, dd_not hi, dd_not hi, dd_mixB _ _ _ hi, dd_mixB _ _ _ hi, BitVec.getLsbD_and, BitVec.getLsbD_and, dd_not hi, dd_not hi, dd_not hi]
      split <;> rfl]
    refine dd_DC l r hM _ _ ha hb (dd_xz.mpr fun i hl => ?_)
    have hi := dd_lt hl
    rw [BitVec.getLsbD_and, BitVec.getLsbD_and, dd_not hi, dd_not hi, dd_not hi, dd_xz.mp e i hl]
theorem dd_Dor {r t : dd_S} (h : dd_D M S r) (ht : dd_D M S t) : dd_D M S (r ||| t) := by
  have := dd_Dnot (dd_Dand (dd_Dnot h) (dd_Dnot ht))
  rwa [show ~~~S &&& ~~~((~~~S &&& ~~~r) &&& (~~~S &&& ~~~t)) = r ||| t from dd_ext fun i hi => by
    have h1 := dd_zI.mp (dd_Dz h) i
    have h2 := dd_zI.mp (dd_Dz ht) i
    simp only [BitVec.getLsbD_and, BitVec.getLsbD_or, dd_not hi]
    cases hS : S.getLsbD i <;> cases hr : r.getLsbD i <;> cases hT : t.getLsbD i <;> simp_all] at this
end
/-- two rows that agree on exactly T keep all the single (F) and all the bundled ones (M) -/
def dd_V (F M : dd_S → dd_S → Prop) (T : dd_S) : Prop :=
  (∀ l r, F l r → dd_sub l T → dd_sub r T) ∧ (∀ l r, M l r → dd_sub l T → dd_sub r T ∨ dd_sub (~~~(l ||| r)) T)
theorem dd_leW (P : dd_S → Prop) (h : ∃ W, P W) : ∃ W, P W ∧ ∀ A, P (W &&& A) → W &&& A = W := by
  have key : ∀ n : Nat, ∀ W : dd_S, W.toNat = n → P W → ∃ W, P W ∧ ∀ A, P (W &&& A) → W &&& A = W := by
    intro n
    induction n using Nat.strongRecOn with
    | _ n ih =>
      intro W hn hW
      by_cases hA : ∀ A, P (W &&& A) → W &&& A = W
      · exact ⟨W, hW, hA⟩
      · obtain ⟨A, hA⟩ := Classical.not_forall.mp hA
        obtain ⟨h1, h2⟩ := Classical.not_imp.mp hA
        refine ih (W &&& A).toNat ?_ (W &&& A) rfl h1
        have hle : (W &&& A).toNat ≤ W.toNat := by rw [BitVec.toNat_and]; exact Nat.and_le_left
        have hne : (W &&& A).toNat ≠ W.toNat := fun e => h2 (BitVec.eq_of_toNat_eq e)
        omega
  obtain ⟨W, hW⟩ := h
  exact key _ W rfl hW
section
variable {F M : dd_S → dd_S → Prop} {S : dd_S}
theorem dd_prime (hF : ∀ l r, F l r → ∀ a b, dd_D M S a → dd_D M S b → (a ^^^ b) &&& l = 0#6 → (a ^^^ b) &&& r = 0#6)
    (Q : dd_S → Prop) (hU : Q (~~~S)) (hQ : ∀ W A, dd_D M S (W &&& A) → dd_D M S (W &&& ~~~A) → Q W → Q (W &&& A) ∨ Q (W &&& ~~~A)) :
    ∃ W, dd_D M S W ∧ Q W ∧ dd_V F M (~~~W) := by
  obtain ⟨W, ⟨hD, hq⟩, hm⟩ := dd_leW (fun W => dd_D M S W ∧ Q W) ⟨_, dd_DU, hU⟩
  refine ⟨W, hD, hq, fun l r hf hl => ?_, fun l r hM hl => ?_⟩
  · have e := hF l r hf 0#6 W dd_D0 hD (dd_xz.mpr fun i h => by
      have := dd_subI.mp hl i h
      rw [dd_not (dd_lt h)] at this
      cases hw : W.getLsbD i <;> simp_all)
    refine dd_subI.mpr fun i h => ?_
    have := dd_xz.mp e i h
    rw [dd_not (dd_lt h), ← this]; simp
  · have hlW : ∀ i, l.getLsbD i = true → W.getLsbD i = false := fun i h => by
      have := dd_subI.mp hl i h
      rw [dd_not (dd_lt h)] at this
      cases hw : W.getLsbD i <;> simp_all
    have e1 := dd_DC (M := M) (S := S) l r hM W 0#6 hD dd_D0 (dd_xz.mpr fun i h => by rw [hlW i h]; simp)
    have e2 := dd_DC (M := M) (S := S) l r hM 0#6 W dd_D0 hD (dd_xz.mpr fun i h => by rw [hlW i h]; simp)
    rw [show dd_mix (l ||| r) W 0#6 = W &&& r from dd_ext fun i hi => by
      rw [dd_mixB _ _ _ hi, BitVec.getLsbD_or, BitVec.getLsbD_and]
      have := hlW i
      cases hl : l.getLsbD i <;> cases hr : r.getLsbD i <;> simp_all] at e1
    rw [show dd_mix (l ||| r) 0#6 W = W &&& ~~~r from dd_ext fun i hi => by
      rw [dd_mixB _ _ _ hi, BitVec.getLsbD_or, BitVec.getLsbD_and, dd_not hi]
      have := hlW i
      cases hl : l.getLsbD i <;> cases hr : r.getLsbD i <;> simp_all] at e2
    rcases hQ W r e1 e2 hq with h | h
    · have e := hm r ⟨e1, h⟩
      refine Or.inr (dd_subI.mpr fun i h => ?_)
      have hi := dd_lt h
      have := congrArg (fun z => BitVec.getLsbD z i) e
      rw [BitVec.getLsbD_and] at this
      rw [dd_not hi, BitVec.getLsbD_or] at h
      rw [dd_not hi]
      cases hw : W.getLsbD i <;> simp_all
    · have e := hm (~~~r) ⟨e2, h⟩
      refine Or.inl (dd_subI.mpr fun i h => ?_)
      have hi := dd_lt h
      have := congrArg (fun z => BitVec.getLsbD z i) e
      rw [BitVec.getLsbD_and, dd_not hi, h] at this
      rw [dd_not hi]
      cases hw : W.getLsbD i <;> simp_all
/-- what a closed tableau says of one column -/
theorem dd_col {x : dd_S} (hF : ∀ l r, F l r → ∀ a b, dd_D M S a → dd_D M S b → (a ^^^ b) &&& l = 0#6 → (a ^^^ b) &&& r = 0#6)
    (hx : dd_sub x S) (hS : ∀ T, dd_V F M T → dd_sub x T → dd_sub S T) {c : Nat} (hc : c < 6) :
    S.getLsbD c = true ↔ ∀ T, dd_V F M T → dd_sub x T → T.getLsbD c = true := by
  constructor
  · exact fun h T hT hxT => dd_subI.mp (hS T hT hxT) c h
  · intro h
    cases hs : S.getLsbD c with
    | true => rfl
    | false =>
      obtain ⟨W, hD, hq, hV⟩ := dd_prime hF (fun W => W.getLsbD c = true) (by rw [dd_not hc, hs]; rfl)
        (fun W A _ _ hq => by
          rw [BitVec.getLsbD_and, BitVec.getLsbD_and, dd_not hc, hq]
          cases A.getLsbD c <;> simp)
      have := h _ hV (dd_subI.mpr fun i hi => by
        have h1 := dd_subI.mp hx i hi
        have h2 := dd_zI.mp (dd_Dz hD) i
        rw [dd_not (dd_lt hi)]
        cases hw : W.getLsbD i <;> simp_all)
      rw [dd_not hc, hq] at this
      exact absurd this (by decide)
theorem dd_two {T r : dd_S} (hT : dd_V F M T) (h : dd_D M T r) : r = 0#6 ∨ r = ~~~T := by
  refine h (fun r => r = 0#6 ∨ r = ~~~T) (Or.inl rfl) (Or.inr rfl) ?_
  have same : ∀ m a : dd_S, dd_mix m a a = a := fun m a => dd_ext fun i hi => by rw [dd_mixB _ _ _ hi]; split <;> rfl
  intro l r hM a b ha hb e
  have hz : ∀ A B : dd_S, (A = 0#6 ∧ B = ~~~T) ∨ (A = ~~~T ∧ B = 0#6) → (A ^^^ B) &&& l = 0#6 → dd_sub l T := by
    intro A B hAB e
    refine dd_subI.mpr fun i hl => ?_
    have := dd_xz.mp e i hl
    have hi := dd_lt hl
    rcases hAB with ⟨rfl, rfl⟩ | ⟨rfl, rfl⟩
    · rw [dd_not hi] at this
      cases hT : T.getLsbD i <;> simp_all
    · rw [dd_not hi] at this
      cases hT : T.getLsbD i <;> simp_all
  rcases ha with rfl | rfl <;> rcases hb with rfl | rfl
  · exact Or.inl (same _ _)
  · have hl := hz _ _ (Or.inl ⟨rfl, rfl⟩) e
    rcases hT.2 l r hM hl with h | h
    · refine Or.inr (dd_ext fun i hi => ?_)
      rw [dd_mixB _ _ _ hi, BitVec.getLsbD_or, dd_not hi]
      have h1 := dd_subI.mp hl i
      have h2 := dd_subI.mp h i
      cases hT : T.getLsbD i <;> cases hl' : l.getLsbD i <;> cases hr' : r.getLsbD i <;> simp_all
    · refine Or.inl (dd_ext fun i hi => ?_)
      rw [dd_mixB _ _ _ hi, BitVec.getLsbD_or, dd_not hi]
      have h2 := dd_subI.mp h i
      rw [dd_not hi, BitVec.getLsbD_or] at h2
      cases hT : T.getLsbD i <;> cases hl' : l.getLsbD i <;> cases hr' : r.getLsbD i <;> simp_all
  · have hl := hz _ _ (Or.inr ⟨rfl, rfl⟩) e
    rcases hT.2 l r hM hl with h | h
    · refine Or.inl (dd_ext fun i hi => ?_)
      rw [dd_mixB _ _ _ hi, BitVec.getLsbD_or, dd_not hi]
      have h1 := dd_subI.mp hl i
      have h2 := dd_subI.mp h i
      cases hT : T.getLsbD i <;> cases hl' : l.getLsbD i <;> cases hr' : r.getLsbD i <;> simp_all
    · refine Or.inr (dd_ext fun i hi => ?_)
      rw [dd_mixB _ _ _ hi, BitVec.getLsbD_or, dd_not hi]
      have h2 := dd_subI.mp h i
      rw [dd_not hi, BitVec.getLsbD_or] at h2
      cases hT : T.getLsbD i <;> cases hl' : l.getLsbD i <;> cases hr' : r.getLsbD i <;> simp_all
  · exact Or.inr (same _ _)
/-- what a closed tableau says of its rows -/
theorem dd_row {x r : dd_S} (hF : ∀ l r, F l r → ∀ a b, dd_D M S a → dd_D M S b → (a ^^^ b) &&& l = 0#6 → (a ^^^ b) &&& r = 0#6)
    (hx : dd_sub x S) (hS : ∀ T, dd_V F M T → dd_sub x T → dd_sub S T) (hr : r &&& S = 0#6) :
    dd_D M S r ↔ ∀ T, dd_V F M T → dd_sub x T → r &&& ~~~T = 0#6 ∨ r &&& ~~~T = ~~~T := by
  constructor
  · exact fun h T hT hxT => dd_two hT (dd_Dmask (hS T hT hxT) h)
  · intro h
    apply Classical.byContradiction
    intro hn
    obtain ⟨W, hD, hq, hV⟩ := dd_prime hF (fun W => ¬ dd_D M S (W &&& r))
      (by rwa [show ~~~S &&& r = r from dd_ext fun i hi => by
        rw [BitVec.getLsbD_and, dd_not hi]
        have := dd_zI.mp hr i
        cases hS : S.getLsbD i <;> cases hT : r.getLsbD i <;> simp_all])
      (fun W A h1 h2 hq => by
        apply Classical.byContradiction
        intro hc
        obtain ⟨hc1, hc2⟩ := not_or.mp hc
        refine hq ?_
        have := dd_Dor (Classical.not_not.mp hc1) (Classical.not_not.mp hc2)
        rwa [show (W &&& A &&& r) ||| (W &&& ~~~A &&& r) = W &&& r from dd_ext fun i hi => by
          simp only [BitVec.getLsbD_and, BitVec.getLsbD_or, dd_not hi]
          cases A.getLsbD i <;> simp] at this)
    have hW : ~~~(~~~W) = W := dd_ext fun i hi => by rw [dd_not hi, dd_not hi]; simp
    have hcomm : r &&& W = W &&& r := dd_ext fun i hi => by rw [BitVec.getLsbD_and, BitVec.getLsbD_and, Bool.and_comm]
    have := h _ hV (dd_subI.mpr fun i hi => by
      have h1 := dd_subI.mp hx i hi
      have h2 := dd_zI.mp (dd_Dz hD) i
      rw [dd_not (dd_lt hi)]
      cases hw : W.getLsbD i <;> simp_all)
    rw [hW, hcomm] at this
    rcases this with e | e
    · exact hq (by rw [e]; exact dd_D0)
    · exact hq (by rw [e]; exact hD)
end
