/-! repeated passes over six columns (no printed name is used) -/
def dd_stp (g : Nat → dd_S → dd_S) (s : dd_S) : Nat → dd_S
  | 0 => s
  | n + 1 => g n (dd_stp g s n)
def dd_it (f : dd_S → dd_S) : Nat → dd_S → dd_S
  | 0, s => s
  | n + 1, s => f (dd_it f n s)
theorem dd_stpX {g h : Nat → dd_S → dd_S} {s : dd_S} {n : Nat} (e : ∀ k, k < n → ∀ z, g k z = h k z) : dd_stp g s n = dd_stp h s n := by
  induction n with
  | zero => rfl
  | succ n ih =>
    show g n (dd_stp g s n) = h n (dd_stp h s n)
    rw [ih fun k hk => e k (by omega), e n (by omega)]
theorem dd_stpm (g : Nat → dd_S → dd_S) (m : Nat) (hm : 0 < m) (s : dd_S) (k j : Nat) (hj : j ≤ m) :
    dd_stp (fun n => g (n % m)) s (m * k + j) = dd_stp g (dd_stp (fun n => g (n % m)) s (m * k)) j := by
  induction j with
  | zero => rfl
  | succ j ih =>
    show g ((m * k + j) % m) (dd_stp (fun n => g (n % m)) s (m * k + j)) = g j _
    rw [ih (by omega), Nat.mul_add_mod, Nat.mod_eq_of_lt (by omega)]
theorem dd_stpi (g : Nat → dd_S → dd_S) (m : Nat) (hm : 0 < m) (s : dd_S) (k : Nat) :
    dd_stp (fun n => g (n % m)) s (m * k) = dd_it (fun z => dd_stp g z m) k s := by
  induction k with
  | zero => rfl
  | succ k ih =>
    rw [show m * (k + 1) = m * k + m from Nat.mul_succ m k, dd_stpm g m hm s k m (Nat.le_refl m), ih]
    rfl
theorem dd_stpsub {g : Nat → dd_S → dd_S} (h : ∀ k z, dd_sub z (g k z)) (s : dd_S) (n : Nat) : dd_sub s (dd_stp g s n) := by
  induction n with
  | zero => exact dd_refl s
  | succ n ih => exact dd_trans ih (h n _)
/-- if the whole pass stands still, so does each step -/
theorem dd_stpfix {g : Nat → dd_S → dd_S} (h : ∀ k z, dd_sub z (g k z)) {s : dd_S} {n : Nat} (e : dd_stp g s n = s) : ∀ k, k < n → g k s = s := by
  have mono : ∀ m k, k ≤ m → dd_sub (dd_stp g s k) (dd_stp g s m) := by
    intro m
    induction m with
    | zero => intro k hk; rw [show k = 0 by omega]; exact dd_refl _
    | succ m ih =>
      intro k hk
      rcases Nat.lt_or_ge k (m + 1) with z | z
      · exact dd_trans (ih k (by omega)) (h m _)
      · rw [show k = m + 1 by omega]; exact dd_refl _
  have all : ∀ k, k ≤ n → dd_stp g s k = s := fun k hk => dd_anti (by
    have := mono n k hk
    rwa [e] at this) (dd_stpsub h s k)
  intro k hk
  have := all (k + 1) (by omega)
  have e2 : dd_stp g s (k + 1) = g k (dd_stp g s k) := rfl
  rw [e2, all k (by omega)] at this
  exact this
def dd_card (s : dd_S) : Nat := dd_cn (fun c => s.getLsbD c) 6
theorem dd_cnlt {q r : Nat → Bool} {n : Nat} (h : ∀ d, d < n → q d = true → r d = true) {d0 : Nat} (h0 : d0 < n) (hq : q d0 = false) (hr : r d0 = true) : dd_cn q n < dd_cn r n := by
  have le : ∀ m, m ≤ n → dd_cn q m ≤ dd_cn r m := by
    intro m
    induction m with
    | zero => exact fun _ => Nat.le_refl _
    | succ m ih =>
      intro hm
      have i := ih (by omega)
      have z := h m (by omega)
      show (if q m = true then dd_cn q m + 1 else dd_cn q m) ≤ (if r m = true then dd_cn r m + 1 else dd_cn r m)
      by_cases e : q m = true
      · rw [if_pos e, if_pos (z e)]; omega
      · rw [if_neg e]; split <;> omega
  have lt : ∀ m, d0 < m → m ≤ n → dd_cn q m < dd_cn r m := by
    intro m
    induction m with
    | zero => exact fun z => absurd z (Nat.not_lt_zero _)
    | succ m ih =>
      intro h1 h2
      show (if q m = true then dd_cn q m + 1 else dd_cn q m) < (if r m = true then dd_cn r m + 1 else dd_cn r m)
      rcases Nat.lt_or_ge d0 m with z | z
      · have i := ih z (by omega)
        have y := h m (by omega)
        by_cases e : q m = true
        · rw [if_pos e, if_pos (y e)]; omega
        · rw [if_neg e]; split <;> omega
      · have e : d0 = m := by omega
        subst e
        rw [hq, hr, if_neg (by decide), if_pos rfl]
        have := le d0 (by omega)
        omega
  exact lt n h0 (Nat.le_refl n)
theorem dd_cardlt {a b : dd_S} (h : dd_sub a b) (hn : a ≠ b) : dd_card a < dd_card b := by
  have : ∃ i, i < 6 ∧ a.getLsbD i = false ∧ b.getLsbD i = true := by
    apply Classical.byContradiction
    intro hc
    refine hn (dd_ext fun i hi => ?_)
    have h1 := dd_subI.mp h i
    cases ha : a.getLsbD i with
    | true => exact (h1 ha).symm
    | false =>
      cases hb : b.getLsbD i with
      | false => rfl
      | true => exact (hc ⟨i, hi, ha, hb⟩).elim
  obtain ⟨i, hi, ha, hb⟩ := this
  exact dd_cnlt (fun d _ => dd_subI.mp h d) hi ha hb
theorem dd_it6 {f : dd_S → dd_S} (h : ∀ z, dd_sub z (f z)) (s : dd_S) : f (dd_it f 6 s) = dd_it f 6 s := by
  have key : ∀ k, f (dd_it f k s) = dd_it f k s ∨ k ≤ dd_card (dd_it f k s) := by
    intro k
    induction k with
    | zero => exact Or.inr (Nat.zero_le _)
    | succ k ih =>
      show f (f (dd_it f k s)) = f (dd_it f k s) ∨ k + 1 ≤ dd_card (f (dd_it f k s))
      by_cases e : f (dd_it f k s) = dd_it f k s
      · left; rw [e, e]
      · right
        have c := dd_cardlt (h (dd_it f k s)) (fun z => e z.symm)
        rcases ih with i | i
        · exact absurd i e
        · omega
  rcases key 6 with i | i
  · exact i
  · refine Classical.byContradiction fun e => ?_
    have c := dd_cardlt (h (dd_it f 6 s)) (fun z => e z.symm)
    have b : dd_card (f (dd_it f 6 s)) ≤ 6 := dd_cnle _ 6
    omega
theorem dd_itge {f : dd_S → dd_S} (h : ∀ z, dd_sub z (f z)) (s : dd_S) (k : Nat) : dd_it f (6 + k) s = dd_it f 6 s := by
  induction k with
  | zero => rfl
  | succ k ih =>
    show f (dd_it f (6 + k) s) = _
    rw [ih]; exact dd_it6 h s
/-- the closure by the single ones, as the reference reckons it -/
def dd_sg (L R : Nat → dd_S) (B : Nat → Bool) (n : Nat) (k : Nat) (z : dd_S) : dd_S :=
  if k < n ∧ B k = false ∧ dd_sub (L k) z then z ||| R k else z
theorem dd_orl (a b : dd_S) : dd_sub a (a ||| b) := dd_subI.mpr fun i h => by rw [BitVec.getLsbD_or, h]; rfl
theorem dd_orr (a b : dd_S) : dd_sub b (a ||| b) := dd_subI.mpr fun i h => by rw [BitVec.getLsbD_or, h, Bool.or_true]
theorem dd_orle {a b c : dd_S} (h1 : dd_sub a c) (h2 : dd_sub b c) : dd_sub (a ||| b) c := dd_subI.mpr fun i h => by
  rw [BitVec.getLsbD_or, Bool.or_eq_true] at h
  rcases h with h | h
  · exact dd_subI.mp h1 i h
  · exact dd_subI.mp h2 i h
theorem dd_andle (a b : dd_S) : dd_sub (a &&& b) a := dd_subI.mpr fun i h => by
  rw [BitVec.getLsbD_and, Bool.and_eq_true] at h; exact h.1
theorem dd_sgsub (L R : Nat → dd_S) (B : Nat → Bool) (n k : Nat) (z : dd_S) : dd_sub z (dd_sg L R B n k z) := by
  unfold dd_sg; split
  · exact dd_orl _ _
  · exact dd_refl _
theorem dd_single (L R : Nat → dd_S) (B : Nat → Bool) {n : Nat} (hn : n ≤ 10) (x : dd_S) :
    dd_stp (fun k => dd_sg L R B n (k % 10)) x 100 = dd_cl (dd_v L R B n (fun d => !B d)) x := by
  rw [show (100 : Nat) = 10 * 10 from rfl, dd_stpi (dd_sg L R B n) 10 (by decide) x 10, show (10 : Nat) = 6 + 4 from rfl,
    dd_itge (fun z => dd_stpsub (dd_sgsub L R B n) z _) x 4]
  have fx := dd_it6 (f := fun z => dd_stp (dd_sg L R B n) z (6 + 4)) (fun z => dd_stpsub (dd_sgsub L R B n) z _) x
  have hx : ∀ k, dd_sub x (dd_it (fun z => dd_stp (dd_sg L R B n) z (6 + 4)) k x) := by
    intro k
    induction k with
    | zero => exact dd_refl x
    | succ k ih => exact dd_trans ih (dd_stpsub (dd_sgsub L R B n) _ _)
  have hT : ∀ T : dd_S, dd_v L R B n (fun d => !B d) T.toNat = true → dd_sub x T → ∀ k, dd_sub (dd_it (fun z => dd_stp (dd_sg L R B n) z (6 + 4)) k x) T := by
    intro T hv hxT
    have hv' := dd_vI.mp hv
    have one : ∀ z, dd_sub z T → ∀ m, dd_sub (dd_stp (dd_sg L R B n) z m) T := by
      intro z hz m
      induction m with
      | zero => exact hz
      | succ m ih =>
        show dd_sub (dd_sg L R B n m (dd_stp (dd_sg L R B n) z m)) T
        unfold dd_sg
        split
        · rename_i h
          exact dd_orle ih (hv'.1 _ _ ⟨m, h.1, by show (!B m) = true; rw [h.2.1]; rfl, h.2.1, rfl, rfl⟩ (dd_trans h.2.2 ih))
        · exact ih
    intro k
    induction k with
    | zero => exact hxT
    | succ k ih => exact one _ ih _
  have st := dd_stpfix (dd_sgsub L R B n) fx
  have zv : dd_v L R B n (fun d => !B d) (dd_it (fun z => dd_stp (dd_sg L R B n) z (6 + 4)) 6 x).toNat = true := by
    refine dd_vI.mpr ⟨?_, ?_⟩
    · rintro l r ⟨d, hd, _, hb, rfl, rfl⟩ hl
      have q := st d (by omega)
      unfold dd_sg at q
      rw [if_pos ⟨hd, hb, hl⟩] at q
      have := dd_orr (dd_it (fun z => dd_stp (dd_sg L R B n) z (6 + 4)) 6 x) (R d)
      unfold dd_sg at this
      rw [q] at this
      exact this
    · rintro l r ⟨d, hd, hc, hb, _, _⟩ _
      have hc' : (!B d) = true := hc
      rw [hb] at hc'
      exact absurd hc' (by decide)
  refine dd_anti (dd_subI.mpr fun i hi => (dd_clB (dd_lt hi)).mpr fun T h1 h2 => dd_subI.mp (hT T h1 h2 6) i hi) (dd_clle zv (hx 6))
theorem dd_stpcut {g : Nat → dd_S → dd_S} {p : Nat} (h : ∀ k, p ≤ k → ∀ z, g k z = z) (s : dd_S) {m : Nat} (hm : p ≤ m) : dd_stp g s m = dd_stp g s p := by
  induction m with
  | zero => rw [show p = 0 by omega]
  | succ m ih =>
    rcases Nat.lt_or_ge p (m + 1) with z | z
    · show g m (dd_stp g s m) = _
      rw [h m (by omega), ih (by omega)]
    · rw [show p = m + 1 by omega]
/-- one part more: what the closure inside it reaches -/
def dd_ps (cl : dd_S → dd_S) (P : Nat → dd_S) (k : Nat) (z : dd_S) : dd_S := z ||| (cl (z &&& P k) &&& P k)
theorem dd_pssub (cl : dd_S → dd_S) (P : Nat → dd_S) (k : Nat) (z : dd_S) : dd_sub z (dd_ps cl P k z) := dd_orl _ _
theorem dd_or0 (z a : dd_S) : z ||| (a &&& 0#6) = z := dd_ext fun i hi => by
  rw [BitVec.getLsbD_or, BitVec.getLsbD_and]; simp
theorem dd_parts (cl : dd_S → dd_S) (P : Nat → dd_S) {p : Nat} (hp : p ≤ 4) (s : dd_S) :
    dd_stp (fun n => dd_ps cl (fun k => if k < p then P k else 0#6) (n % 4)) s 32 = dd_it (fun z => dd_stp (dd_ps cl P) z p) 6 s := by
  rw [show (32 : Nat) = 4 * 8 from rfl, dd_stpi (dd_ps cl (fun k => if k < p then P k else 0#6)) 4 (by decide) s 8]
  have e : (fun z => dd_stp (dd_ps cl (fun k => if k < p then P k else 0#6)) z 4) = fun z => dd_stp (dd_ps cl P) z p := funext fun z => by
    rw [dd_stpcut (p := p) (fun k hk z => by unfold dd_ps; dsimp only; rw [if_neg (by omega), dd_or0]) z hp]
    exact dd_stpX fun k hk z => by unfold dd_ps; dsimp only; rw [if_pos hk]
  rw [e]
  exact dd_itge (fun z => dd_stpsub (dd_pssub cl P) z p) s 2
