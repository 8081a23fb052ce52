/-! where the two reckon the same answer by other words (no printed name is used) -/
theorem dd_tform {a s x u : dd_S} : dd_sub (a &&& s) (x ||| u) ↔ dd_sub ((a &&& s) &&& ~~~x) u := by
  rw [dd_subI, dd_subI]
  constructor
  · intro h i hi
    have h6 := dd_lt hi
    rw [BitVec.getLsbD_and, dd_not h6, Bool.and_eq_true] at hi
    have := h i hi.1
    rw [BitVec.getLsbD_or, Bool.or_eq_true] at this
    rcases this with z | z
    · rw [z] at hi; exact absurd hi.2 (by decide)
    · exact z
  · intro h i hi
    have h6 := dd_lt hi
    rw [BitVec.getLsbD_or, Bool.or_eq_true]
    cases hx : x.getLsbD i with
    | true => exact Or.inl rfl
    | false => exact Or.inr (h i (by rw [BitVec.getLsbD_and, dd_not h6, hi, hx]; rfl))
theorem dd_bform {a s x : dd_S} (h1 : dd_sub x s) (h2 : dd_sub x a) : a &&& s = x ↔ (a &&& s) &&& ~~~x = 0#6 := by
  constructor
  · intro h
    rw [h]
    exact dd_refl x
  · intro h
    refine dd_anti h (dd_subI.mpr fun i hi => ?_)
    rw [BitVec.getLsbD_and, dd_subI.mp h1 i hi, dd_subI.mp h2 i hi]; rfl
/-- the meet of those that q has -/
def dd_mt (q : Nat → Bool) : Nat → dd_S
  | 0 => 63#6
  | n + 1 => if q n = true then dd_mt q n &&& dd_n n else dd_mt q n
theorem dd_mtX {q r : Nat → Bool} {n : Nat} (h : ∀ d, d < n → q d = r d) : dd_mt q n = dd_mt r n := by
  induction n with
  | zero => rfl
  | succ n ih =>
    show (if q n = true then dd_mt q n &&& dd_n n else dd_mt q n) = (if r n = true then dd_mt r n &&& dd_n n else dd_mt r n)
    rw [ih fun d hd => h d (by omega), h n (by omega)]
theorem dd_mt63 {q : Nat → Bool} {n : Nat} (h : ∀ d, d < n → q d = false) : dd_mt q n = 63#6 := by
  induction n with
  | zero => rfl
  | succ n ih =>
    show (if q n = true then dd_mt q n &&& dd_n n else dd_mt q n) = _
    rw [h n (by omega), if_neg (by decide), ih fun d hd => h d (by omega)]
theorem dd_clmt (p : Nat → Bool) (x : dd_S) (n : Nat) : dd_clN p x n = dd_mt (fun t => p t && dd_sB x (dd_n t)) n := by
  induction n with
  | zero => rfl
  | succ n ih =>
    show (if p n = true ∧ dd_sub x (dd_n n) then dd_clN p x n &&& dd_n n else dd_clN p x n) = (if (p n && dd_sB x (dd_n n)) = true then dd_mt _ n &&& dd_n n else dd_mt _ n)
    rw [ih]
    by_cases h : p n = true ∧ dd_sub x (dd_n n)
    · rw [if_pos h, if_pos (by rw [h.1, dd_sBt h.2]; rfl)]
    · rw [if_neg h, if_neg (fun z => h (by rw [Bool.and_eq_true, decide_eq_true_eq] at z; exact z))]
/-- a corner: the larger ones by number, or the others -/
def dd_lg (q : Nat → Bool) (t y : Nat) : Bool := q y && dd_sB (dd_n t) (dd_n y)
theorem dd_corner {q : Nat → Bool} {t : Nat} (ht : t < 64) : dd_mt (fun y => decide (t < y) && dd_lg q t y) 64 = dd_mt (fun y => decide (y ≠ t) && dd_lg q t y) 64 := by
  refine dd_mtX fun y hy => ?_
  unfold dd_lg
  by_cases e : y = t
  · subst e; simp
  · by_cases hs : dd_sub (dd_n t) (dd_n y)
    · have := dd_slt hs (fun z => e (by have := congrArg BitVec.toNat z; rw [dd_nt ht, dd_nt hy] at this; exact this.symm))
      rw [dd_nt ht, dd_nt hy] at this
      rw [decide_eq_true this, decide_eq_true e]
    · rw [dd_sBf hs]; simp
/-- what less than x reaches -/
def dd_fl (cl : dd_S → dd_S) (x : dd_S) : Nat → dd_S
  | 0 => 0#6
  | c + 1 => if x.getLsbD c = true then dd_fl cl x c ||| cl (x &&& ~~~dd_e c) else dd_fl cl x c
theorem dd_flB {cl : dd_S → dd_S} {x : dd_S} {n i : Nat} : (dd_fl cl x n).getLsbD i = !dd_al (fun k => !(x.getLsbD k && (cl (x &&& ~~~dd_e k)).getLsbD i)) n := by
  induction n with
  | zero => show (0#6).getLsbD i = !true; simp
  | succ n ih =>
    show (if x.getLsbD n = true then dd_fl cl x n ||| cl (x &&& ~~~dd_e n) else dd_fl cl x n).getLsbD i = !(dd_al _ n && !(x.getLsbD n && (cl (x &&& ~~~dd_e n)).getLsbD i))
    by_cases h : x.getLsbD n = true
    · rw [if_pos h, BitVec.getLsbD_or, ih, h]
      simp
    · rw [if_neg h, ih]
      have : x.getLsbD n = false := by cases z : x.getLsbD n <;> simp_all
      rw [this]; simp
/-- what x alone reaches, counted -/
def dd_ds (cl : dd_S → dd_S) (x : dd_S) (c : Nat) : Bool :=
  (!x.getLsbD c && (cl x).getLsbD c) && dd_al (fun k => !(x.getLsbD k && (cl (x &&& ~~~dd_e k)).getLsbD c)) 6
theorem dd_dsc (cl : dd_S → dd_S) (x : dd_S) : dd_cn (fun t => ((cl x &&& ~~~x) &&& ~~~dd_fl cl x 6).getLsbD t) 64 = dd_cn (dd_ds cl x) 6 := by
  rw [dd_cnz (m := 6) (by decide) fun d hd _ => BitVec.getLsbD_of_ge _ _ hd]
  refine dd_cnX fun c hc => ?_
  rw [BitVec.getLsbD_and, BitVec.getLsbD_and, dd_not hc, dd_not hc, dd_flB]
  unfold dd_ds
  rw [Bool.not_not, Bool.and_comm ((cl x).getLsbD c)]
/-- how many of the given ones are needed: 11 where no choice does -/
def dd_nd (ok : Nat → Bool) : Nat → Nat
  | 0 => 11
  | c + 1 => if dd_cn (fun t => c.testBit t) 10 < dd_nd ok c ∧ ok c = true then dd_cn (fun t => c.testBit t) 10 else dd_nd ok c
theorem dd_ndle (ok : Nat → Bool) (n : Nat) : dd_nd ok n ≤ 11 := by
  induction n with
  | zero => exact Nat.le_refl _
  | succ n ih =>
    show (if dd_cn (fun t => n.testBit t) 10 < dd_nd ok n ∧ ok n = true then dd_cn (fun t => n.testBit t) 10 else dd_nd ok n) ≤ 11
    split <;> omega
theorem dd_bits {c : Nat} (hc : c < 1024) : dd_cn (fun t => c.testBit t) 64 = dd_cn (fun t => c.testBit t) 10 :=
  dd_cnz (by decide) fun d hd _ => Nat.testBit_lt_two_pow (Nat.lt_of_lt_of_le hc (Nat.pow_le_pow_right (n := 2) (by decide) hd : 2 ^ 10 ≤ 2 ^ d))
