/-! a set by its six bits; counting -/
def dd_of (q : Nat → Bool) : Nat → dd_S
  | 0 => 0#6
  | n + 1 => if q n = true then dd_of q n ||| dd_e n else dd_of q n
theorem dd_ofB {q : Nat → Bool} {n : Nat} (hn : n ≤ 6) (c : Nat) : (dd_of q n).getLsbD c = (decide (c < n) && q c) := by
  induction n with
  | zero => show (0#6).getLsbD c = _; simp
  | succ n ih =>
    show (if q n = true then dd_of q n ||| dd_e n else dd_of q n).getLsbD c = _
    have i := ih (by omega)
    by_cases h : q n = true
    · rw [if_pos h, BitVec.getLsbD_or, i, dd_eB (by omega)]
      by_cases e : n = c
      · subst e; simp [h]
      · rcases Nat.lt_or_ge c n with z | z
        · simp [z, e, show c < n + 1 by omega]
        · simp [e, show ¬ c < n by omega, show ¬ c < n + 1 by omega]
    · rw [if_neg h, i]
      rcases Nat.lt_or_ge c n with z | z
      · simp [z, show c < n + 1 by omega]
      · by_cases e : n = c
        · subst e; simp [h]
        · simp [show ¬ c < n by omega, show ¬ c < n + 1 by omega]
theorem dd_of6 (q : Nat → Bool) {c : Nat} (hc : c < 6) : (dd_of q 6).getLsbD c = q c := by
  rw [dd_ofB (Nat.le_refl 6)]; simp [hc]
theorem dd_ofX {q r : Nat → Bool} {n : Nat} (h : ∀ d, d < n → q d = r d) : dd_of q n = dd_of r n := by
  induction n with
  | zero => rfl
  | succ n ih =>
    show (if q n = true then dd_of q n ||| dd_e n else dd_of q n) = (if r n = true then dd_of r n ||| dd_e n else dd_of r n)
    rw [ih fun d hd => h d (by omega), h n (by omega)]
theorem dd_cn0 {q : Nat → Bool} {n : Nat} (h : dd_cn q n = 0) : ∀ d, d < n → q d = false := by
  induction n with
  | zero => exact fun d hd => absurd hd (Nat.not_lt_zero d)
  | succ n ih =>
    have e : (if q n = true then dd_cn q n + 1 else dd_cn q n) = 0 := h
    by_cases z : q n = true
    · rw [if_pos z] at e; omega
    · rw [if_neg z] at e
      intro d hd
      rcases Nat.lt_or_ge d n with y | y
      · exact ih e d y
      · rw [show d = n by omega]
        cases g : q n
        · rfl
        · exact absurd g z
theorem dd_eqn {a b : dd_S} (h : ∀ c, c < 6 → (a.getLsbD c = true ↔ b.getLsbD c = true)) : a = b := dd_ext fun c hc => Bool.eq_iff_iff.mpr (h c hc)
