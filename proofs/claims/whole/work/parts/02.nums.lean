/-! numbers: sets of columns and families of sets as the printed ints and longs -/
def dd_i (b : dd_S) : Int32 := nI b.toNat
def dd_b (b : Bool) : Int32 := if b then 1 else 0
def dd_m (f : Int64) (t : Nat) : Bool := f.toBitVec.getLsbD t
def dd_n (n : Nat) : dd_S := BitVec.ofNat 6 n
def dd_e (c : Nat) : dd_S := BitVec.twoPow 6 c
theorem dd_nlt (a : dd_S) : a.toNat < 64 := a.isLt
theorem dd_nlt31 (a : dd_S) : a.toNat < 2 ^ 31 := Nat.lt_trans a.isLt (by decide)
theorem dd_nt {n : Nat} (h : n < 64) : (dd_n n).toNat = n := by
  unfold dd_n; rw [BitVec.toNat_ofNat]; exact Nat.mod_eq_of_lt h
theorem dd_nn (a : dd_S) : dd_n a.toNat = a := BitVec.eq_of_toNat_eq (dd_nt (dd_nlt a))
theorem dd_ni {n : Nat} (h : n < 64) : nI n = dd_i (dd_n n) := by unfold dd_i; rw [dd_nt h]
theorem dd_ilt (a : dd_S) : vp_in (dd_i a) 64 := vp_in_nI (dd_nlt a) (by omega)
theorem dd_icl (a : dd_S) : (dd_i a).toNatClampNeg = a.toNat := nI_clamp (dd_nlt31 a)
theorem dd_iinj {a b : dd_S} : dd_i a = dd_i b ↔ a = b := by
  unfold dd_i
  rw [nI_eq (dd_nlt31 a) (dd_nlt31 b)]
  exact ⟨fun h => BitVec.eq_of_toNat_eq h, fun h => by rw [h]⟩
theorem dd_i0 : dd_i 0#6 = 0 := rfl
theorem dd_i63 : dd_i 63#6 = 63 := rfl
theorem dd_iz {a : dd_S} : dd_i a = 0 ↔ a = 0#6 := by rw [← dd_i0, dd_iinj]
theorem dd_nb (n i : Nat) : bt (nI n) i = (decide (i < 32) && n.testBit i) := by
  show (BitVec.ofNat 32 n).getLsbD i = _
  rw [BitVec.getLsbD_ofNat]
theorem dd_bt (a : dd_S) (i : Nat) : bt (dd_i a) i = a.getLsbD i := by
  unfold dd_i
  rw [dd_nb, BitVec.testBit_toNat]
  rcases Nat.lt_or_ge i 32 with h | h
  · simp [h]
  · rw [BitVec.getLsbD_of_ge a i (by omega)]; simp
theorem dd_and (a b : dd_S) : dd_i a &&& dd_i b = dd_i (a &&& b) := b_ext fun i _ => by
  rw [b_and, dd_bt, dd_bt, dd_bt, BitVec.getLsbD_and]
theorem dd_or (a b : dd_S) : dd_i a ||| dd_i b = dd_i (a ||| b) := b_ext fun i _ => by
  rw [b_or, dd_bt, dd_bt, dd_bt, BitVec.getLsbD_or]
theorem dd_xor (a b : dd_S) : dd_i a ^^^ dd_i b = dd_i (a ^^^ b) := b_ext fun i _ => by
  rw [b_xor, dd_bt, dd_bt, dd_bt, BitVec.getLsbD_xor]
theorem dd_andn (a b : dd_S) : dd_i a &&& (dd_i b ^^^ (-1)) = dd_i (a &&& ~~~b) := b_ext fun i hi => by
  rw [b_and, b_xor, b_m1 i hi, dd_bt, dd_bt, dd_bt, BitVec.getLsbD_and, BitVec.getLsbD_not]
  rcases Nat.lt_or_ge i 6 with h | h
  · simp [h]
  · rw [BitVec.getLsbD_of_ge a i h]; simp
theorem dd_sb (a b : dd_S) : (dd_i a &&& (dd_i b ^^^ (-1))) = 0 ↔ dd_sub a b := by
  rw [dd_andn, dd_iz]
theorem dd_63 (a : dd_S) : 63#6 &&& a = a := dd_ext fun i hi => by
  rw [BitVec.getLsbD_and, (by decide : ∀ c, c < 6 → (63#6).getLsbD c = true) i hi, Bool.true_and]
theorem dd_63n (a : dd_S) : (63 : Int32) &&& (dd_i a ^^^ (-1)) = dd_i (~~~a) := by
  rw [← dd_i63, dd_andn, dd_63]
theorem dd_1 : ∀ c, c < 6 → (1 : Int32) <<< (nI c &&& 31) = dd_i (dd_e c) := by decide +kernel
theorem dd_eB {c i : Nat} (hc : c < 6) : (dd_e c).getLsbD i = decide (c = i) := by
  unfold dd_e; rw [BitVec.getLsbD_twoPow]; simp [hc]
theorem dd_b1 : ∀ i, i < 32 → bt 1 i = decide (i = 0) := by decide +kernel
theorem dd_bb (v : Bool) (i : Nat) (hi : i < 32) : bt (dd_b v) i = (decide (i = 0) && v) := by
  cases v
  · show bt 0 i = _
    rw [b_0]; simp
  · show bt 1 i = _
    rw [dd_b1 i hi]; simp
theorem dd_nbit (n : Nat) {c : Nat} (hc : c < 32) : (nI n >>> (nI c &&& 31)) &&& 1 = dd_b (n.testBit c) := b_ext fun i hi => by
  rw [b_and, b_sshr c hc _ hi, dd_b1 i hi, dd_bb _ i hi, dd_nb, dd_nb]
  by_cases h : i = 0
  · subst h; simp [hc]
  · simp [h]
theorem dd_bit (x : dd_S) {c : Nat} (hc : c < 32) : (dd_i x >>> (nI c &&& 31)) &&& 1 = dd_b (x.getLsbD c) := by
  unfold dd_i; rw [dd_nbit _ hc, BitVec.testBit_toNat]
theorem dd_b0 (v : Bool) : dd_b v = 0 ↔ v = false := by cases v <;> decide
theorem dd_b1I (v : Bool) : dd_b v = 1 ↔ v = true := by cases v <;> decide
theorem dd_bI {v w : Bool} : dd_b v = dd_b w ↔ v = w := by cases v <;> cases w <;> decide
theorem dd_bt1 : dd_b true = 1 := rfl
theorem dd_bf0 : dd_b false = 0 := rfl
theorem dd_bn (v : Bool) : narrow .boolean (.int (dd_b v)) = .int (dd_b v) := by cases v <;> rfl
theorem dd_bv (v : Bool) : vp_nar .boolean (dd_b v) = dd_b v := by cases v <;> rfl
/-! longs as families -/
theorem dd_mN (n : Nat) {t : Nat} (ht : t < 64) : dd_m (lN n) t = n.testBit t := by
  unfold dd_m; rw [wb_tb, BitVec.getLsbD_ofNat]; simp [ht]
theorem dd_mi {n : Nat} (hn : n < 2 ^ 31) {t : Nat} (ht : t < 64) : dd_m (nI n).toInt64 t = n.testBit t := by
  rw [nI_l hn, dd_mN n ht]
theorem dd_mS (x : dd_S) {t : Nat} (ht : t < 64) : dd_m (dd_i x).toInt64 t = x.getLsbD t := by
  unfold dd_i; rw [dd_mi (dd_nlt31 x) ht, BitVec.testBit_toNat]
theorem dd_mge (f : Int64) {t : Nat} (ht : 64 ≤ t) : dd_m f t = false := BitVec.getLsbD_of_ge _ _ ht
theorem dd_mext {f g : Int64} (h : ∀ t, t < 64 → dd_m f t = dd_m g t) : f = g := wb_inj (BitVec.eq_of_getLsbD_eq h)
theorem dd_mv (f : Int64) {t : Nat} (ht : t < 64) : ((f.toUInt64 >>> ((nI t).toInt64.toUInt64 &&& Int64.toUInt64 63)).toInt64 &&& 1) = if dd_m f t then 1 else 0 := by
  obtain ⟨n, hn, rfl⟩ := wb_of f
  rw [wb_bit hn ht, dd_mN n ht, Nat.testBit_eq_decide_div_mod_eq]
  rcases Nat.mod_two_eq_zero_or_one (n / 2 ^ t) with h | h
  · rw [h]; rfl
  · rw [h]; rfl
theorem dd_m0 (f : Int64) {t : Nat} (ht : t < 64) : ((f.toUInt64 >>> ((nI t).toInt64.toUInt64 &&& Int64.toUInt64 63)).toInt64 &&& 1) = 0 ↔ dd_m f t = false := by
  rw [dd_mv f ht]; cases dd_m f t <;> decide
theorem dd_m1 (f : Int64) {t : Nat} (ht : t < 64) : ((f.toUInt64 >>> ((nI t).toInt64.toUInt64 &&& Int64.toUInt64 63)).toInt64 &&& 1) = 1 ↔ dd_m f t = true := by
  rw [dd_mv f ht]; cases dd_m f t <;> decide
theorem dd_mI (f : Int64) {t : Nat} (ht : t < 64) : ((f.toUInt64 >>> ((nI t).toInt64.toUInt64 &&& Int64.toUInt64 63)).toInt64 &&& 1).toInt32 = dd_b (dd_m f t) := by
  rw [dd_mv f ht]; cases dd_m f t <;> decide
theorem dd_set1 {t : Nat} (ht : t < 64) (s : Nat) : dd_m ((1 : Int64) <<< ((nI t).toInt64 &&& 63)) s = decide (t = s) := by
  have e : (1 : Int64) <<< ((nI t).toInt64 &&& 63) = lN (1 * 2 ^ t) := wb_shl 1 ht
  rw [e, Nat.one_mul]
  rcases Nat.lt_or_ge s 64 with h | h
  · rw [dd_mN _ h, Nat.testBit_two_pow]
  · rw [dd_mge _ h, decide_eq_false (by omega)]
theorem dd_mor (f g : Int64) (s : Nat) : dd_m (f ||| g) s = (dd_m f s || dd_m g s) := by
  unfold dd_m; rw [Int64.toBitVec_or, BitVec.getLsbD_or]
theorem dd_set (f : Int64) {t : Nat} (ht : t < 64) (s : Nat) : dd_m (f ||| ((1 : Int64) <<< ((nI t).toInt64 &&& 63))) s = (dd_m f s || decide (t = s)) := by
  rw [dd_mor, dd_set1 ht]
theorem dd_mz (s : Nat) : dd_m 0 s = false := BitVec.getLsbD_zero
/-- more sets, a greater number -/
theorem dd_mlt {f g : Int64} (h : ∀ t, t < 64 → dd_m f t = true → dd_m g t = true) (hn : f ≠ g) : f.toBitVec.toNat < g.toBitVec.toNat := by
  have e : f.toBitVec = f.toBitVec &&& g.toBitVec := BitVec.eq_of_getLsbD_eq fun i hi => by
    rw [BitVec.getLsbD_and]
    have := h i hi
    unfold dd_m at this
    cases hf : f.toBitVec.getLsbD i
    · simp
    · rw [this hf]; rfl
  have h1 : f.toBitVec.toNat ≤ g.toBitVec.toNat := by
    rw [e, BitVec.toNat_and]; exact Nat.and_le_right
  have h2 : f.toBitVec.toNat ≠ g.toBitVec.toNat := fun z => hn (wb_inj (BitVec.eq_of_toNat_eq z))
  omega
theorem dd_slt {a b : dd_S} (h : dd_sub a b) (hn : a ≠ b) : a.toNat < b.toNat := by
  have e : a = a &&& b := dd_ext fun i hi => by
    rw [BitVec.getLsbD_and]
    have := dd_subI.mp h i
    cases hf : a.getLsbD i
    · simp
    · rw [this hf]; rfl
  have h1 : a.toNat ≤ b.toNat := by
    rw [e, BitVec.toNat_and]; exact Nat.and_le_right
  have h2 : a.toNat ≠ b.toNat := fun z => hn (BitVec.eq_of_toNat_eq z)
  omega
