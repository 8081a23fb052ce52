section
/-! rows pasted from kit/rows (BITS, PURE-ROWS) -/
/-! ===== Int32 by its bits: bt x i ===== -/
def bt (x : Int32) (i : Nat) : Bool := x.toBitVec.getLsbD i
theorem b_ext {x y : Int32} (h : ∀ i, i < 32 → bt x i = bt y i) : x = y := Int32.toBitVec_inj.mp (BitVec.eq_of_getLsbD_eq (fun i hi => h i hi))
theorem b_or (x y : Int32) (i : Nat) : bt (x ||| y) i = (bt x i || bt y i) := by unfold bt; rw [Int32.toBitVec_or, BitVec.getLsbD_or]
theorem b_and (x y : Int32) (i : Nat) : bt (x &&& y) i = (bt x i && bt y i) := by unfold bt; rw [Int32.toBitVec_and, BitVec.getLsbD_and]
theorem b_xor (x y : Int32) (i : Nat) : bt (x ^^^ y) i = (bt x i ^^ bt y i) := by unfold bt; rw [Int32.toBitVec_xor, BitVec.getLsbD_xor]
theorem b_big {x : Int32} {i : Nat} (h : 32 ≤ i) : bt x i = false := BitVec.getLsbD_of_ge _ _ h
theorem b_m1 : ∀ i, i < 32 → bt (-1) i = true := by decide +kernel
theorem b_0 (i : Nat) : bt 0 i = false := BitVec.getLsbD_zero
theorem s_l : ∀ n, n < 32 → ((nI n &&& 31).toBitVec.smod 32).toNat = n := by decide +kernel
theorem s_u : ∀ n, n < 32 → (((nI n).toUInt32 &&& Int32.toUInt32 31).toBitVec % 32).toNat = n := by decide +kernel
theorem b_shl (n : Nat) (hn : n < 32) (x : Int32) {i : Nat} (hi : i < 32) : bt (x <<< (nI n &&& 31)) i = (decide (n ≤ i) && bt x (i - n)) := by
  unfold bt
  rw [Int32.toBitVec_shiftLeft]
  show (x.toBitVec <<< ((nI n &&& 31).toBitVec.smod 32).toNat).getLsbD i = _
  rw [s_l n hn, BitVec.getLsbD_shiftLeft]
  rcases Nat.lt_or_ge i n with h | h
  · simp [h, Nat.not_le.mpr h]
  · simp [hi, h, Nat.not_lt.mpr h]
theorem b_ushr (n : Nat) (hn : n < 32) (x : Int32) (i : Nat) : bt ((x.toUInt32 >>> ((nI n).toUInt32 &&& Int32.toUInt32 31)).toInt32) i = bt x (n + i) := by
  show (x.toUInt32 >>> ((nI n).toUInt32 &&& Int32.toUInt32 31)).toBitVec.getLsbD i = x.toUInt32.toBitVec.getLsbD (n + i)
  rw [UInt32.toBitVec_shiftRight]
  show (x.toUInt32.toBitVec >>> (((nI n).toUInt32 &&& Int32.toUInt32 31).toBitVec % 32).toNat).getLsbD i = _
  rw [s_u n hn, BitVec.getLsbD_ushiftRight]
theorem b_sshr (n : Nat) (hn : n < 32) (x : Int32) {i : Nat} (hi : i < 32) : bt (x >>> (nI n &&& 31)) i = if n + i < 32 then bt x (n + i) else bt x 31 := by
  unfold bt
  rw [Int32.toBitVec_shiftRight]
  show (x.toBitVec.sshiftRight ((nI n &&& 31).toBitVec.smod 32).toNat).getLsbD i = _
  rw [s_l n hn, BitVec.getLsbD_sshiftRight, BitVec.msb_eq_getLsbD_last]
  simp [hi]
theorem nx_and (a b : Nat) : nI a &&& nI b = nI (a &&& b) := by
  apply Int32.toBitVec_inj.1
  show BitVec.ofNat 32 a &&& BitVec.ofNat 32 b = BitVec.ofNat 32 (a &&& b)
  apply BitVec.eq_of_getLsbD_eq
  intro i hi
  simp [hi]
theorem nx_xor (a b : Nat) : nI a ^^^ nI b = nI (a ^^^ b) := by
  apply Int32.toBitVec_inj.1
  show BitVec.ofNat 32 a ^^^ BitVec.ofNat 32 b = BitVec.ofNat 32 (a ^^^ b)
  apply BitVec.eq_of_getLsbD_eq
  intro i hi
  simp [hi]
/-! ===== Int64 as a set of bits: test, set, clear ===== -/
theorem ts_nf {x : Bool} (h : ¬ x = false) : x = true := by cases x <;> first | rfl | exact absurd rfl h
theorem ts_nt {x : Bool} (h : ¬ x = true) : x = false := by cases x <;> first | rfl | exact absurd rfl h
theorem ts_bit {w : Int64} {s : UInt64} {j : Nat} (hj : j < 64) (hs : s.toNat = j) : ((w.toUInt64 >>> s).toInt64 &&& 1) = 0 ↔ w.toBitVec.getLsbD j = false := by
  have e : (w.toUInt64 >>> s).toInt64.toBitVec = w.toBitVec >>> j := by
    apply BitVec.eq_of_toNat_eq
    show (w.toUInt64 >>> s).toNat = _
    rw [UInt64.toNat_shiftRight, hs, Nat.mod_eq_of_lt hj, BitVec.toNat_ushiftRight]
    rfl
  rw [← Int64.toBitVec_inj, Int64.toBitVec_and, e]
  show w.toBitVec >>> j &&& 1#64 = 0#64 ↔ _
  constructor
  · intro h
    have t := congrArg (fun x => x.getLsbD 0) h
    simpa using t
  · intro h
    apply BitVec.eq_of_getLsbD_eq
    intro i hi
    cases i with
    | zero => simp [h]
    | succ i => simp
theorem ts_or {w m : Int64} {j : Nat} (hj : j < 64) (hm : m.toBitVec = BitVec.twoPow 64 j) : (w ||| m) = w ↔ w.toBitVec.getLsbD j = true := by
  rw [← Int64.toBitVec_inj, Int64.toBitVec_or, hm]
  constructor
  · intro h
    have t := congrArg (fun x => x.getLsbD j) h
    simp only [BitVec.getLsbD_or, BitVec.getLsbD_twoPow] at t
    simpa [hj] using t.symm
  · intro h
    apply BitVec.eq_of_getLsbD_eq
    intro i hi
    rw [BitVec.getLsbD_or, BitVec.getLsbD_twoPow]
    by_cases e : j = i
    · subst e; rw [h, Bool.true_or]
    · simp [e]
theorem ts_and {w m : Int64} {j : Nat} (hj : j < 64) (hm : m.toBitVec = BitVec.twoPow 64 j) : (w &&& (m ^^^ (-1))) = w ↔ w.toBitVec.getLsbD j = false := by
  have ha : (-1 : Int64).toBitVec = BitVec.allOnes 64 := by decide
  rw [← Int64.toBitVec_inj, Int64.toBitVec_and, Int64.toBitVec_xor, hm, ha]
  constructor
  · intro h
    have t := congrArg (fun x => x.getLsbD j) h
    simp only [BitVec.getLsbD_and, BitVec.getLsbD_xor, BitVec.getLsbD_twoPow, BitVec.getLsbD_allOnes] at t
    simpa [hj] using t.symm
  · intro h
    apply BitVec.eq_of_getLsbD_eq
    intro i hi
    rw [BitVec.getLsbD_and, BitVec.getLsbD_xor, BitVec.getLsbD_twoPow, BitVec.getLsbD_allOnes]
    by_cases e : j = i
    · subst e; rw [h, Bool.false_and]
    · simp [e, hi]
/-! ===== lN n to 2^64: shifts, and, or, masks, one bit ===== -/
theorem wb_tb (n : Nat) : (lN n).toBitVec = BitVec.ofNat 64 n := rfl
theorem wb_inj {a b : Int64} (h : a.toBitVec = b.toBitVec) : a = b := Int64.toBitVec_inj.mp h
theorem wb_tn {n : Nat} (h : n < 2 ^ 64) : (lN n).toBitVec.toNat = n := by rw [wb_tb, BitVec.toNat_ofNat, Nat.mod_eq_of_lt h]
theorem wb_of (x : Int64) : ∃ n, n < 2 ^ 64 ∧ x = lN n := ⟨x.toBitVec.toNat, x.toBitVec.isLt, wb_inj (by rw [wb_tb]; simp)⟩
theorem wb_of32 (x : Int32) : ∃ n, n < 2 ^ 32 ∧ x = nI n := ⟨x.toBitVec.toNat, x.toBitVec.isLt, Int32.toBitVec_inj.mp (by show _ = BitVec.ofNat 32 _; simp)⟩
theorem wb_c : ∀ k, k < 64 → ((nI k).toInt64 &&& 63) = lN k := by decide +kernel
theorem wb_cu : ∀ k, k < 64 → ((nI k).toInt64.toUInt64 &&& Int64.toUInt64 63) = UInt64.ofNat k := by decide +kernel
theorem wb_sm : ∀ k, k < 64 → (BitVec.ofNat 64 k).smod 64 = BitVec.ofNat 64 k := by decide +kernel
theorem wb_pw {a b : Nat} (h : a ≤ b) : 2 ^ b = 2 ^ a * 2 ^ (b - a) := by rw [← Nat.pow_add]; congr 1; omega
theorem wb_lt2 {a b : Nat} (h : a < b) : 2 ^ a < 2 ^ b := Nat.pow_lt_pow_right (by decide) h
theorem wb_mod (n : Nat) : lN n = lN (n % 2 ^ 64) := wb_inj (by rw [wb_tb, wb_tb]; apply BitVec.eq_of_toNat_eq; rw [BitVec.toNat_ofNat, BitVec.toNat_ofNat, Nat.mod_mod])
theorem wb_shr {n k : Nat} (hn : n < 2 ^ 64) (hk : k < 64) : ((lN n).toUInt64 >>> ((nI k).toInt64.toUInt64 &&& Int64.toUInt64 63)).toInt64 = lN (n / 2 ^ k) := by
  rw [wb_cu k hk]
  apply wb_inj
  apply BitVec.eq_of_toNat_eq
  show ((lN n).toUInt64 >>> UInt64.ofNat k).toNat = (BitVec.ofNat 64 _).toNat
  have h1 : (UInt64.ofNat k).toNat = k := by
    show (BitVec.ofNat 64 k).toNat = k
    rw [BitVec.toNat_ofNat, Nat.mod_eq_of_lt (by omega)]
  have h2 : (lN n).toUInt64.toNat = n := wb_tn hn
  rw [UInt64.toNat_shiftRight, h1, h2, Nat.mod_eq_of_lt hk, Nat.shiftRight_eq_div_pow, BitVec.toNat_ofNat, Nat.mod_eq_of_lt (Nat.lt_of_le_of_lt (Nat.div_le_self _ _) hn)]
theorem wb_shl (n : Nat) {k : Nat} (hk : k < 64) : lN n <<< ((nI k).toInt64 &&& 63) = lN (n * 2 ^ k) := by
  rw [wb_c k hk]
  apply wb_inj
  rw [Int64.toBitVec_shiftLeft, wb_tb, wb_tb, wb_tb, wb_sm k hk]
  apply BitVec.eq_of_toNat_eq
  rw [BitVec.shiftLeft_eq', BitVec.toNat_shiftLeft, BitVec.toNat_ofNat, BitVec.toNat_ofNat, BitVec.toNat_ofNat, Nat.mod_eq_of_lt (show k < 2 ^ 64 by omega), Nat.shiftLeft_eq, Nat.mul_mod, Nat.mod_mod, ← Nat.mul_mod]
theorem wb_and {a b : Nat} (ha : a < 2 ^ 64) (hb : b < 2 ^ 64) : lN a &&& lN b = lN (a &&& b) := by
  apply wb_inj
  rw [Int64.toBitVec_and, wb_tb, wb_tb, wb_tb]
  apply BitVec.eq_of_toNat_eq
  rw [BitVec.toNat_and, BitVec.toNat_ofNat, BitVec.toNat_ofNat, BitVec.toNat_ofNat, Nat.mod_eq_of_lt ha, Nat.mod_eq_of_lt hb, Nat.mod_eq_of_lt (Nat.and_lt_two_pow _ hb)]
theorem wb_or {a b : Nat} (ha : a < 2 ^ 64) (hb : b < 2 ^ 64) : lN a ||| lN b = lN (a ||| b) := by
  apply wb_inj
  rw [Int64.toBitVec_or, wb_tb, wb_tb, wb_tb]
  apply BitVec.eq_of_toNat_eq
  rw [BitVec.toNat_or, BitVec.toNat_ofNat, BitVec.toNat_ofNat, BitVec.toNat_ofNat, Nat.mod_eq_of_lt ha, Nat.mod_eq_of_lt hb, Nat.mod_eq_of_lt (Nat.or_lt_two_pow ha hb)]
theorem wb_mask {n k : Nat} (hn : n < 2 ^ 64) (hk : k < 64) : lN n &&& lN (2 ^ k - 1) = lN (n % 2 ^ k) := by
  rw [wb_and hn (by have := wb_lt2 hk; omega), Nat.and_two_pow_sub_one_eq_mod]
theorem wb_a1 {n : Nat} (hn : n < 2 ^ 64) : lN n &&& 1 = lN (n % 2) := wb_mask (k := 1) hn (by decide)
theorem wb_bit {n k : Nat} (hn : n < 2 ^ 64) (hk : k < 64) : ((lN n).toUInt64 >>> ((nI k).toInt64.toUInt64 &&& Int64.toUInt64 63)).toInt64 &&& 1 = lN (n / 2 ^ k % 2) := by
  rw [wb_shr hn hk, wb_a1 (Nat.lt_of_le_of_lt (Nat.div_le_self _ _) hn)]
theorem pk_us {f : Nat → Int32} {k : Nat} {x : Int32} : upd f k x k = x := if_pos rfl
theorem pk_un {f : Nat → Int32} {k j : Nat} {x : Int32} (h : j ≠ k) : upd f k x j = f j := if_neg h
theorem pk_uLs {f : Nat → Int64} {k : Nat} {x : Int64} : vp_updL f k x k = x := if_pos rfl
theorem pk_uLn {f : Nat → Int64} {k j : Nat} {x : Int64} (h : j ≠ k) : vp_updL f k x j = f j := if_neg h
theorem pk_sub {a b : Nat} (h : b ≤ a) : nI a - nI b = nI (a - b) := by
  obtain ⟨c, rfl⟩ : ∃ c, a = c + b := ⟨a - b, by omega⟩
  rw [← nI_add, Int32.add_sub_cancel, Nat.add_sub_cancel]
theorem pk_m1 (n : Nat) : nI (n + 1) + (-1) = nI n := by
  rw [← nI_1, Int32.add_assoc, show (1 : Int32) + (-1) = 0 from rfl, Int32.add_zero]
theorem pk_mul (a b : Nat) : nI a * nI b = nI (a * b) := (Int32.ofNat_mul a b).symm
theorem pk_div {a d : Nat} (ha : a < 2 ^ 31) (h0 : 0 < d) (hd : d < 2 ^ 31) : nI a / nI d = nI (a / d) := by
  apply Int32.toInt_inj.mp
  rw [lg_idiv_nonneg (by rw [nI_toInt ha]; omega) (by rw [nI_toInt hd]; omega), nI_toInt ha, nI_toInt hd, nI_toInt (Nat.lt_of_le_of_lt (Nat.div_le_self a d) ha)]
  first | rfl | exact (Int.natCast_ediv _ _).symm
theorem pk_rem {a d : Nat} (ha : a < 2 ^ 31) (h0 : 0 < d) (hd : d < 2 ^ 31) : nI a - nI a / nI d * nI d = nI (a % d) := by
  rw [pk_div ha h0 hd, pk_mul, pk_sub (Nat.div_mul_le_self a d)]
  exact congrArg nI (by have := Nat.div_add_mod' a d; omega)
theorem pk_sub_toInt {a b : Nat} (ha : a < 2 ^ 30) (hb : b < 2 ^ 30) : (nI a - nI b).toInt = (a : Int) - b := by
  rw [Int32.toInt_sub, nI_toInt (by omega), nI_toInt (by omega)]
  exact Int.bmod_eq_of_le (by omega) (by omega)
theorem pk_sneg {a b : Nat} (hb : b < 2 ^ 30) (h : a < b) : nI a - nI b < 0 := by
  rw [Int32.lt_iff_toInt_lt, pk_sub_toInt (by omega) hb, show (0 : Int32).toInt = 0 from by decide]
  omega
theorem pk_ix (x : Int32) {n : Nat} (hn : n < 2 ^ 31) : x < 0 ∨ nI n ≤ x ∨ ∃ j : Nat, j < n ∧ x = nI j := by
  by_cases h : x < 0
  · exact Or.inl h
  · obtain ⟨j, hj, rfl⟩ := nI_of h
    by_cases h2 : j < n
    · exact Or.inr (Or.inr ⟨j, h2, rfl⟩)
    · exact Or.inr (Or.inl (nI_le (by omega) hj))
theorem pk_le {x y : Int32} {A B : Prop} (a b : Nat) (f : a ≤ b → A) (g : b < a → B) (hx : x = nI a := by rfl) (hy : y = nI b := by rfl) (ha : a < 2 ^ 31 := by omega) (hb : b < 2 ^ 31 := by omega) : (x ≤ y → A) ∧ (¬ x ≤ y → B) := by
  subst hx hy
  rw [nI_leI ha hb]
  exact ⟨f, fun z => g (by omega)⟩
theorem pk_lt {x y : Int32} {A B : Prop} (a b : Nat) (f : a < b → A) (g : b ≤ a → B) (hx : x = nI a := by rfl) (hy : y = nI b := by rfl) (ha : a < 2 ^ 31 := by omega) (hb : b < 2 ^ 31 := by omega) : (x < y → A) ∧ (¬ x < y → B) := by
  subst hx hy
  rw [nI_ltI ha hb]
  exact ⟨f, fun z => g (by omega)⟩
theorem pk_eq {x y : Int32} {A B : Prop} (a b : Nat) (f : a = b → A) (g : a ≠ b → B) (hx : x = nI a := by rfl) (hy : y = nI b := by rfl) (ha : a < 2 ^ 31 := by omega) (hb : b < 2 ^ 31 := by omega) : (x = y → A) ∧ (¬ x = y → B) := by
  subst hx hy
  rw [nI_eq ha hb]
  exact ⟨f, g⟩
theorem pk_in {x : Int32} (n N : Nat) (h : n < N) (hx : x = nI n := by rfl) (hN : N < 2 ^ 31 := by omega) : vp_in x N := by
  subst hx
  exact vp_in_nI h hN
theorem pk_cl {x : Int32} (n : Nat) (hx : x = nI n := by rfl) (h : n < 2 ^ 31 := by omega) : x.toNatClampNeg = n := by
  subst hx
  exact nI_clamp h
theorem pk_tn {n : Nat} (h : n < 2 ^ 32) : (nI n).toBitVec.toNat = n := Nat.mod_eq_of_lt h
theorem pk_and (x : Int32) {m : Int32} (k : Nat) (hm : m.toBitVec.toNat = 2 ^ k - 1) : x &&& m = nI (x.toBitVec.toNat % 2 ^ k) := by
  apply Int32.toBitVec_inj.mp
  apply BitVec.eq_of_toNat_eq
  rw [Int32.toBitVec_and, BitVec.toNat_and, hm, Nat.and_two_pow_sub_one_eq_mod]
  show _ = (BitVec.ofNat 32 _).toNat
  rw [BitVec.toNat_ofNat]
  exact (Nat.mod_eq_of_lt (Nat.lt_of_le_of_lt (Nat.mod_le _ _) x.toBitVec.isLt)).symm
theorem pk_andN {n : Nat} (h : n < 2 ^ 32) {m : Int32} (k : Nat) (hm : m.toBitVec.toNat = 2 ^ k - 1) : nI n &&& m = nI (n % 2 ^ k) := by
  rw [pk_and _ k hm, pk_tn h]
theorem pk_andE (x : Int32) {m : Int32} (k : Nat) (hm : m.toBitVec.toNat = 2 ^ k - 1) : ∃ j : Nat, j < 2 ^ k ∧ x &&& m = nI j := ⟨_, Nat.mod_lt _ (Nat.two_pow_pos k), pk_and x k hm⟩
theorem pk_andIn (x : Int32) {m : Int32} (k : Nat) (hm : m.toBitVec.toNat = 2 ^ k - 1) (hk : k ≤ 30) : vp_in (x &&& m) (2 ^ k) := by
  obtain ⟨j, hj, e⟩ := pk_andE x k hm
  rw [e]
  exact vp_in_nI hj (Nat.lt_of_le_of_lt (Nat.pow_le_pow_right (by decide) hk) (by decide))
theorem pk_shl (a s : Int32) (k : Nat) (hs : (s.toBitVec.smod 32).toNat = k) : (a <<< s).toBitVec.toNat = a.toBitVec.toNat * 2 ^ k % 2 ^ 32 := by
  show (a.toBitVec <<< (s.toBitVec.smod 32).toNat).toNat = _
  rw [hs, BitVec.toNat_shiftLeft, Nat.shiftLeft_eq]
theorem pk_shlN {n : Nat} (s : Int32) (k : Nat) (hs : (s.toBitVec.smod 32).toNat = k) (h : n * 2 ^ k < 2 ^ 32) : nI n <<< s = nI (n * 2 ^ k) := by
  apply Int32.toBitVec_inj.mp
  apply BitVec.eq_of_toNat_eq
  have hn : n < 2 ^ 32 := Nat.lt_of_le_of_lt (Nat.le_mul_of_pos_right n (Nat.two_pow_pos k)) h
  rw [pk_shl _ _ k hs, pk_tn hn, pk_tn h, Nat.mod_eq_of_lt h]
theorem pk_shr (a s : Int32) (k : Nat) (hs : (s.toBitVec.smod 32).toNat = k) : (a >>> s).toInt = a.toInt >>> k := by
  show (a.toBitVec.sshiftRight (s.toBitVec.smod 32).toNat).toInt = _
  rw [hs, BitVec.toInt_sshiftRight]
  rfl
theorem pk_shrN {n : Nat} (h : n < 2 ^ 31) (s : Int32) (k : Nat) (hs : (s.toBitVec.smod 32).toNat = k) : nI n >>> s = nI (n / 2 ^ k) := by
  apply Int32.toInt_inj.mp
  have h2 : n / 2 ^ k ≤ n := Nat.div_le_self _ _
  rw [pk_shr _ _ k hs, nI_toInt h, nI_toInt (by omega), Int.shiftRight_eq_div_pow]
  rfl
theorem pk_loop {σ : Type} (W : Nat → Nat → σ → Prop) (I : Nat → σ → Prop) (e i0 : Nat) (s : σ) (hi : i0 ≤ e) (h0 : I i0 s) (hx : ∀ n s, I e s → W (n + 1) e s)
    (hs : ∀ n i s, i < e → I i s → (∀ s', I (i + 1) s' → W n (i + 1) s') → W (n + 1) i s) : ∃ n, W n i0 s :=
  ⟨e + 1, loop_i W I e hx hs (e + 1) i0 s hi (by omega) h0⟩
theorem lp1 {A1 : Type} (W : Nat → A1 → Prop) (I : A1 → Prop) (μ : A1 → Nat) (hs : ∀ (n : Nat) (a1 : A1), I a1 → (∀ (b1 : A1), I b1 → μ b1 < μ a1 → W n b1) → W (n + 1) a1) (a1 : A1) (h : I a1) : ∃ n, W n a1 :=
  loop_m (σ := A1) (fun n s => W n s) (fun s => I s) (fun s => μ s) (fun n s hI hk => hs n s hI (fun b1 h9 hm => hk b1 h9 hm)) a1 h
theorem lp2 {A1 A2 : Type} (W : Nat → A1 → A2 → Prop) (I : A1 → A2 → Prop) (μ : A1 → A2 → Nat) (hs : ∀ (n : Nat) (a1 : A1) (a2 : A2), I a1 a2 → (∀ (b1 : A1) (b2 : A2), I b1 b2 → μ b1 b2 < μ a1 a2 → W n b1 b2) → W (n + 1) a1 a2) (a1 : A1) (a2 : A2) (h : I a1 a2) : ∃ n, W n a1 a2 :=
  loop_m (σ := A1 × A2) (fun n s => W n s.1 s.2) (fun s => I s.1 s.2) (fun s => μ s.1 s.2) (fun n s hI hk => hs n s.1 s.2 hI (fun b1 b2 h9 hm => hk (b1, b2) h9 hm)) (a1, a2) h
theorem lp3 {A1 A2 A3 : Type} (W : Nat → A1 → A2 → A3 → Prop) (I : A1 → A2 → A3 → Prop) (μ : A1 → A2 → A3 → Nat) (hs : ∀ (n : Nat) (a1 : A1) (a2 : A2) (a3 : A3), I a1 a2 a3 → (∀ (b1 : A1) (b2 : A2) (b3 : A3), I b1 b2 b3 → μ b1 b2 b3 < μ a1 a2 a3 → W n b1 b2 b3) → W (n + 1) a1 a2 a3) (a1 : A1) (a2 : A2) (a3 : A3) (h : I a1 a2 a3) : ∃ n, W n a1 a2 a3 :=
  loop_m (σ := A1 × A2 × A3) (fun n s => W n s.1 s.2.1 s.2.2) (fun s => I s.1 s.2.1 s.2.2) (fun s => μ s.1 s.2.1 s.2.2) (fun n s hI hk => hs n s.1 s.2.1 s.2.2 hI (fun b1 b2 b3 h9 hm => hk (b1, b2, b3) h9 hm)) (a1, a2, a3) h
theorem lp4 {A1 A2 A3 A4 : Type} (W : Nat → A1 → A2 → A3 → A4 → Prop) (I : A1 → A2 → A3 → A4 → Prop) (μ : A1 → A2 → A3 → A4 → Nat) (hs : ∀ (n : Nat) (a1 : A1) (a2 : A2) (a3 : A3) (a4 : A4), I a1 a2 a3 a4 → (∀ (b1 : A1) (b2 : A2) (b3 : A3) (b4 : A4), I b1 b2 b3 b4 → μ b1 b2 b3 b4 < μ a1 a2 a3 a4 → W n b1 b2 b3 b4) → W (n + 1) a1 a2 a3 a4) (a1 : A1) (a2 : A2) (a3 : A3) (a4 : A4) (h : I a1 a2 a3 a4) : ∃ n, W n a1 a2 a3 a4 :=
  loop_m (σ := A1 × A2 × A3 × A4) (fun n s => W n s.1 s.2.1 s.2.2.1 s.2.2.2) (fun s => I s.1 s.2.1 s.2.2.1 s.2.2.2) (fun s => μ s.1 s.2.1 s.2.2.1 s.2.2.2) (fun n s hI hk => hs n s.1 s.2.1 s.2.2.1 s.2.2.2 hI (fun b1 b2 b3 b4 h9 hm => hk (b1, b2, b3, b4) h9 hm)) (a1, a2, a3, a4) h
theorem lp5 {A1 A2 A3 A4 A5 : Type} (W : Nat → A1 → A2 → A3 → A4 → A5 → Prop) (I : A1 → A2 → A3 → A4 → A5 → Prop) (μ : A1 → A2 → A3 → A4 → A5 → Nat) (hs : ∀ (n : Nat) (a1 : A1) (a2 : A2) (a3 : A3) (a4 : A4) (a5 : A5), I a1 a2 a3 a4 a5 → (∀ (b1 : A1) (b2 : A2) (b3 : A3) (b4 : A4) (b5 : A5), I b1 b2 b3 b4 b5 → μ b1 b2 b3 b4 b5 < μ a1 a2 a3 a4 a5 → W n b1 b2 b3 b4 b5) → W (n + 1) a1 a2 a3 a4 a5) (a1 : A1) (a2 : A2) (a3 : A3) (a4 : A4) (a5 : A5) (h : I a1 a2 a3 a4 a5) : ∃ n, W n a1 a2 a3 a4 a5 :=
  loop_m (σ := A1 × A2 × A3 × A4 × A5) (fun n s => W n s.1 s.2.1 s.2.2.1 s.2.2.2.1 s.2.2.2.2) (fun s => I s.1 s.2.1 s.2.2.1 s.2.2.2.1 s.2.2.2.2) (fun s => μ s.1 s.2.1 s.2.2.1 s.2.2.2.1 s.2.2.2.2) (fun n s hI hk => hs n s.1 s.2.1 s.2.2.1 s.2.2.2.1 s.2.2.2.2 hI (fun b1 b2 b3 b4 b5 h9 hm => hk (b1, b2, b3, b4, b5) h9 hm)) (a1, a2, a3, a4, a5) h
theorem lp6 {A1 A2 A3 A4 A5 A6 : Type} (W : Nat → A1 → A2 → A3 → A4 → A5 → A6 → Prop) (I : A1 → A2 → A3 → A4 → A5 → A6 → Prop) (μ : A1 → A2 → A3 → A4 → A5 → A6 → Nat) (hs : ∀ (n : Nat) (a1 : A1) (a2 : A2) (a3 : A3) (a4 : A4) (a5 : A5) (a6 : A6), I a1 a2 a3 a4 a5 a6 → (∀ (b1 : A1) (b2 : A2) (b3 : A3) (b4 : A4) (b5 : A5) (b6 : A6), I b1 b2 b3 b4 b5 b6 → μ b1 b2 b3 b4 b5 b6 < μ a1 a2 a3 a4 a5 a6 → W n b1 b2 b3 b4 b5 b6) → W (n + 1) a1 a2 a3 a4 a5 a6) (a1 : A1) (a2 : A2) (a3 : A3) (a4 : A4) (a5 : A5) (a6 : A6) (h : I a1 a2 a3 a4 a5 a6) : ∃ n, W n a1 a2 a3 a4 a5 a6 :=
  loop_m (σ := A1 × A2 × A3 × A4 × A5 × A6) (fun n s => W n s.1 s.2.1 s.2.2.1 s.2.2.2.1 s.2.2.2.2.1 s.2.2.2.2.2) (fun s => I s.1 s.2.1 s.2.2.1 s.2.2.2.1 s.2.2.2.2.1 s.2.2.2.2.2) (fun s => μ s.1 s.2.1 s.2.2.1 s.2.2.2.1 s.2.2.2.2.1 s.2.2.2.2.2) (fun n s hI hk => hs n s.1 s.2.1 s.2.2.1 s.2.2.2.1 s.2.2.2.2.1 s.2.2.2.2.2 hI (fun b1 b2 b3 b4 b5 b6 h9 hm => hk (b1, b2, b3, b4, b5, b6) h9 hm)) (a1, a2, a3, a4, a5, a6) h
theorem lp7 {A1 A2 A3 A4 A5 A6 A7 : Type} (W : Nat → A1 → A2 → A3 → A4 → A5 → A6 → A7 → Prop) (I : A1 → A2 → A3 → A4 → A5 → A6 → A7 → Prop) (μ : A1 → A2 → A3 → A4 → A5 → A6 → A7 → Nat) (hs : ∀ (n : Nat) (a1 : A1) (a2 : A2) (a3 : A3) (a4 : A4) (a5 : A5) (a6 : A6) (a7 : A7), I a1 a2 a3 a4 a5 a6 a7 → (∀ (b1 : A1) (b2 : A2) (b3 : A3) (b4 : A4) (b5 : A5) (b6 : A6) (b7 : A7), I b1 b2 b3 b4 b5 b6 b7 → μ b1 b2 b3 b4 b5 b6 b7 < μ a1 a2 a3 a4 a5 a6 a7 → W n b1 b2 b3 b4 b5 b6 b7) → W (n + 1) a1 a2 a3 a4 a5 a6 a7) (a1 : A1) (a2 : A2) (a3 : A3) (a4 : A4) (a5 : A5) (a6 : A6) (a7 : A7) (h : I a1 a2 a3 a4 a5 a6 a7) : ∃ n, W n a1 a2 a3 a4 a5 a6 a7 :=
  loop_m (σ := A1 × A2 × A3 × A4 × A5 × A6 × A7) (fun n s => W n s.1 s.2.1 s.2.2.1 s.2.2.2.1 s.2.2.2.2.1 s.2.2.2.2.2.1 s.2.2.2.2.2.2) (fun s => I s.1 s.2.1 s.2.2.1 s.2.2.2.1 s.2.2.2.2.1 s.2.2.2.2.2.1 s.2.2.2.2.2.2) (fun s => μ s.1 s.2.1 s.2.2.1 s.2.2.2.1 s.2.2.2.2.1 s.2.2.2.2.2.1 s.2.2.2.2.2.2) (fun n s hI hk => hs n s.1 s.2.1 s.2.2.1 s.2.2.2.1 s.2.2.2.2.1 s.2.2.2.2.2.1 s.2.2.2.2.2.2 hI (fun b1 b2 b3 b4 b5 b6 b7 h9 hm => hk (b1, b2, b3, b4, b5, b6, b7) h9 hm)) (a1, a2, a3, a4, a5, a6, a7) h
theorem lp8 {A1 A2 A3 A4 A5 A6 A7 A8 : Type} (W : Nat → A1 → A2 → A3 → A4 → A5 → A6 → A7 → A8 → Prop) (I : A1 → A2 → A3 → A4 → A5 → A6 → A7 → A8 → Prop) (μ : A1 → A2 → A3 → A4 → A5 → A6 → A7 → A8 → Nat) (hs : ∀ (n : Nat) (a1 : A1) (a2 : A2) (a3 : A3) (a4 : A4) (a5 : A5) (a6 : A6) (a7 : A7) (a8 : A8), I a1 a2 a3 a4 a5 a6 a7 a8 → (∀ (b1 : A1) (b2 : A2) (b3 : A3) (b4 : A4) (b5 : A5) (b6 : A6) (b7 : A7) (b8 : A8), I b1 b2 b3 b4 b5 b6 b7 b8 → μ b1 b2 b3 b4 b5 b6 b7 b8 < μ a1 a2 a3 a4 a5 a6 a7 a8 → W n b1 b2 b3 b4 b5 b6 b7 b8) → W (n + 1) a1 a2 a3 a4 a5 a6 a7 a8) (a1 : A1) (a2 : A2) (a3 : A3) (a4 : A4) (a5 : A5) (a6 : A6) (a7 : A7) (a8 : A8) (h : I a1 a2 a3 a4 a5 a6 a7 a8) : ∃ n, W n a1 a2 a3 a4 a5 a6 a7 a8 :=
  loop_m (σ := A1 × A2 × A3 × A4 × A5 × A6 × A7 × A8) (fun n s => W n s.1 s.2.1 s.2.2.1 s.2.2.2.1 s.2.2.2.2.1 s.2.2.2.2.2.1 s.2.2.2.2.2.2.1 s.2.2.2.2.2.2.2) (fun s => I s.1 s.2.1 s.2.2.1 s.2.2.2.1 s.2.2.2.2.1 s.2.2.2.2.2.1 s.2.2.2.2.2.2.1 s.2.2.2.2.2.2.2) (fun s => μ s.1 s.2.1 s.2.2.1 s.2.2.2.1 s.2.2.2.2.1 s.2.2.2.2.2.1 s.2.2.2.2.2.2.1 s.2.2.2.2.2.2.2) (fun n s hI hk => hs n s.1 s.2.1 s.2.2.1 s.2.2.2.1 s.2.2.2.2.1 s.2.2.2.2.2.1 s.2.2.2.2.2.2.1 s.2.2.2.2.2.2.2 hI (fun b1 b2 b3 b4 b5 b6 b7 b8 h9 hm => hk (b1, b2, b3, b4, b5, b6, b7, b8) h9 hm)) (a1, a2, a3, a4, a5, a6, a7, a8) h
theorem lp9 {A1 A2 A3 A4 A5 A6 A7 A8 A9 : Type} (W : Nat → A1 → A2 → A3 → A4 → A5 → A6 → A7 → A8 → A9 → Prop) (I : A1 → A2 → A3 → A4 → A5 → A6 → A7 → A8 → A9 → Prop) (μ : A1 → A2 → A3 → A4 → A5 → A6 → A7 → A8 → A9 → Nat) (hs : ∀ (n : Nat) (a1 : A1) (a2 : A2) (a3 : A3) (a4 : A4) (a5 : A5) (a6 : A6) (a7 : A7) (a8 : A8) (a9 : A9), I a1 a2 a3 a4 a5 a6 a7 a8 a9 → (∀ (b1 : A1) (b2 : A2) (b3 : A3) (b4 : A4) (b5 : A5) (b6 : A6) (b7 : A7) (b8 : A8) (b9 : A9), I b1 b2 b3 b4 b5 b6 b7 b8 b9 → μ b1 b2 b3 b4 b5 b6 b7 b8 b9 < μ a1 a2 a3 a4 a5 a6 a7 a8 a9 → W n b1 b2 b3 b4 b5 b6 b7 b8 b9) → W (n + 1) a1 a2 a3 a4 a5 a6 a7 a8 a9) (a1 : A1) (a2 : A2) (a3 : A3) (a4 : A4) (a5 : A5) (a6 : A6) (a7 : A7) (a8 : A8) (a9 : A9) (h : I a1 a2 a3 a4 a5 a6 a7 a8 a9) : ∃ n, W n a1 a2 a3 a4 a5 a6 a7 a8 a9 :=
  loop_m (σ := A1 × A2 × A3 × A4 × A5 × A6 × A7 × A8 × A9) (fun n s => W n s.1 s.2.1 s.2.2.1 s.2.2.2.1 s.2.2.2.2.1 s.2.2.2.2.2.1 s.2.2.2.2.2.2.1 s.2.2.2.2.2.2.2.1 s.2.2.2.2.2.2.2.2) (fun s => I s.1 s.2.1 s.2.2.1 s.2.2.2.1 s.2.2.2.2.1 s.2.2.2.2.2.1 s.2.2.2.2.2.2.1 s.2.2.2.2.2.2.2.1 s.2.2.2.2.2.2.2.2) (fun s => μ s.1 s.2.1 s.2.2.1 s.2.2.2.1 s.2.2.2.2.1 s.2.2.2.2.2.1 s.2.2.2.2.2.2.1 s.2.2.2.2.2.2.2.1 s.2.2.2.2.2.2.2.2) (fun n s hI hk => hs n s.1 s.2.1 s.2.2.1 s.2.2.2.1 s.2.2.2.2.1 s.2.2.2.2.2.1 s.2.2.2.2.2.2.1 s.2.2.2.2.2.2.2.1 s.2.2.2.2.2.2.2.2 hI (fun b1 b2 b3 b4 b5 b6 b7 b8 b9 h9 hm => hk (b1, b2, b3, b4, b5, b6, b7, b8, b9) h9 hm)) (a1, a2, a3, a4, a5, a6, a7, a8, a9) h
end
section
/-! sets of columns as BitVec 6; what a closed tableau says of pairs of rows (no printed name is used) -/
abbrev dd_S : Type := BitVec 6
abbrev dd_sub (a b : dd_S) : Prop := a &&& ~~~b = 0#6
theorem dd_ext {a b : dd_S} (h : ∀ i, i < 6 → a.getLsbD i = b.getLsbD i) : a = b := BitVec.eq_of_getLsbD_eq h
theorem dd_lt {a : dd_S} {i : Nat} (h : a.getLsbD i = true) : i < 6 := by
  rcases Nat.lt_or_ge i 6 with h6 | h6
  · exact h6
  · rw [BitVec.getLsbD_of_ge a i h6] at h; exact absurd h (by decide)
theorem dd_subI {a b : dd_S} : dd_sub a b ↔ ∀ i, a.getLsbD i = true → b.getLsbD i = true := by
  constructor
  · intro h i ha
    have hi := dd_lt ha
    have e := congrArg (fun z => BitVec.getLsbD z i) h
    rw [BitVec.getLsbD_and, BitVec.getLsbD_not, ha] at e
    simpa [hi] using e
  · intro h
    refine dd_ext fun i hi => ?_
    rw [BitVec.getLsbD_and, BitVec.getLsbD_not]
    cases ha : a.getLsbD i with
    | false => simp
    | true => rw [h i ha]; simp
theorem dd_zI {a b : dd_S} : a &&& b = 0#6 ↔ ∀ i, a.getLsbD i = true → b.getLsbD i = true → False := by
  constructor
  · intro h i ha hb
    have e := congrArg (fun z => BitVec.getLsbD z i) h
    rw [BitVec.getLsbD_and, ha, hb] at e
    simp at e
  · intro h
    refine dd_ext fun i hi => ?_
    rw [BitVec.getLsbD_and]
    cases ha : a.getLsbD i with
    | false => simp
    | true =>
      cases hb : b.getLsbD i with
      | false => simp
      | true => exact (h i ha hb).elim
theorem dd_not {a : dd_S} {i : Nat} (hi : i < 6) : (~~~a).getLsbD i = !a.getLsbD i := by
  rw [BitVec.getLsbD_not]; simp [hi]
/-- r on the columns of m, s elsewhere -/
def dd_mix (m a b : dd_S) : dd_S := (a &&& m) ||| (b &&& ~~~m)
theorem dd_mixB (m a b : dd_S) {i : Nat} (hi : i < 6) : (dd_mix m a b).getLsbD i = if m.getLsbD i then a.getLsbD i else b.getLsbD i := by
  unfold dd_mix
  rw [BitVec.getLsbD_or, BitVec.getLsbD_and, BitVec.getLsbD_and, dd_not hi]
  cases m.getLsbD i <;> simp
def dd_Cl (M : dd_S → dd_S → Prop) (P : dd_S → Prop) : Prop :=
  ∀ l r, M l r → ∀ a b, P a → P b → (a ^^^ b) &&& l = 0#6 → P (dd_mix (l ||| r) a b)
/-- the least family with 0 and the columns outside S that the bundled ones leave closed -/
def dd_D (M : dd_S → dd_S → Prop) (S r : dd_S) : Prop :=
  ∀ P : dd_S → Prop, P 0#6 → P (~~~S) → dd_Cl M P → P r
section
variable {M : dd_S → dd_S → Prop} {S : dd_S}
theorem dd_D0 : dd_D M S 0#6 := fun _ h _ _ => h
theorem dd_DU : dd_D M S (~~~S) := fun _ _ h _ => h
theorem dd_DC : dd_Cl M (dd_D M S) := fun l r h a b ha hb e P h0 hU hC => hC l r h a b (ha P h0 hU hC) (hb P h0 hU hC) e
theorem dd_xz {a b l : dd_S} : (a ^^^ b) &&& l = 0#6 ↔ ∀ i, l.getLsbD i = true → a.getLsbD i = b.getLsbD i := by
  rw [dd_zI]
  constructor
  · intro h i hl
    have := h i
    rw [BitVec.getLsbD_xor] at this
    cases ha : a.getLsbD i <;> cases hb : b.getLsbD i <;> simp_all
  · intro h i hx hl
    rw [BitVec.getLsbD_xor, h i hl] at hx
    simp at hx
theorem dd_Dz {r : dd_S} (h : dd_D M S r) : r &&& S = 0#6 := by
  refine h (fun r => r &&& S = 0#6) ?_ ?_ ?_
  · exact dd_zI.mpr fun i h _ => by simp at h
  · exact dd_zI.mpr fun i h h2 => by rw [dd_not (dd_lt h2), h2] at h; simp at h
  · intro l r _ a b ha hb _
    refine dd_zI.mpr fun i h h2 => ?_
    rw [dd_mixB _ _ _ (dd_lt h2)] at h
    split at h
    · exact dd_zI.mp ha i h h2
    · exact dd_zI.mp hb i h h2
theorem dd_Dmask {S' r : dd_S} (hs : dd_sub S S') (h : dd_D M S r) : dd_D M S' (r &&& ~~~S') := by
  refine h (fun r => dd_D M S' (r &&& ~~~S')) ?_ ?_ ?_
  · rw [show (0#6 &&& ~~~S' : dd_S) = 0#6 from dd_ext fun i hi => by simp]; exact dd_D0
  · rw [show (~~~S &&& ~~~S' : dd_S) = ~~~S' from dd_ext fun i hi => by
      rw [BitVec.getLsbD_and, dd_not hi, dd_not hi]
      have := dd_subI.mp hs i
      cases hS : S.getLsbD i <;> cases hS' : S'.getLsbD i <;> simp_all]
    exact dd_DU
  · intro l r hM a b ha hb e
    rw [show dd_mix (l ||| r) a b &&& ~~~S' = dd_mix (l ||| r) (a &&& ~~~S') (b &&& ~~~S') from dd_ext fun i hi => by
      rw [BitVec.getLsbD_and, dd_mixB _ _ _ hi, dd_mixB _ _ _ hi, BitVec.getLsbD_and, BitVec.getLsbD_and]
      split <;> rfl]
    refine dd_DC l r hM _ _ ha hb (dd_xz.mpr fun i hl => ?_)
    rw [BitVec.getLsbD_and, BitVec.getLsbD_and, dd_xz.mp e i hl]
theorem dd_Dand {r t : dd_S} (h : dd_D M S r) (ht : dd_D M S t) : dd_D M S (r &&& t) := by
  refine h (fun r => dd_D M S (r &&& t)) ?_ ?_ ?_
  · rw [show (0#6 &&& t : dd_S) = 0#6 from dd_ext fun i hi => by simp]; exact dd_D0
  · rw [show (~~~S &&& t : dd_S) = t from dd_ext fun i hi => by
      rw [BitVec.getLsbD_and, dd_not hi]
      have := dd_zI.mp (dd_Dz ht) i
      cases hS : S.getLsbD i <;> cases hT : t.getLsbD i <;> simp_all]
    exact ht
  · intro l r hM a b ha hb e
    rw [show dd_mix (l ||| r) a b &&& t = dd_mix (l ||| r) (a &&& t) (b &&& t) from dd_ext fun i hi => by
      rw [BitVec.getLsbD_and, dd_mixB _ _ _ hi, dd_mixB _ _ _ hi, BitVec.getLsbD_and, BitVec.getLsbD_and]
      split <;> rfl]
    refine dd_DC l r hM _ _ ha hb (dd_xz.mpr fun i hl => ?_)
    rw [BitVec.getLsbD_and, BitVec.getLsbD_and, dd_xz.mp e i hl]
theorem dd_Dnot {r : dd_S} (h : dd_D M S r) : dd_D M S (~~~S &&& ~~~r) := by
  refine h (fun r => dd_D M S (~~~S &&& ~~~r)) ?_ ?_ ?_
  · rw [show (~~~S &&& ~~~0#6 : dd_S) = ~~~S from dd_ext fun i hi => by
      rw [BitVec.getLsbD_and, dd_not hi, dd_not hi]; simp]
    exact dd_DU
  · rw [show (~~~S &&& ~~~(~~~S) : dd_S) = 0#6 from dd_ext fun i hi => by
      rw [BitVec.getLsbD_and, dd_not hi, dd_not hi, dd_not hi]; simp]
    exact dd_D0
  · intro l r hM a b ha hb e
    rw [show ~~~S &&& ~~~(dd_mix (l ||| r) a b) = dd_mix (l ||| r) (~~~S &&& ~~~a) (~~~S &&& ~~~b) from dd_ext fun i hi => by
      rw [BitVec.getLsbD_and, dd_not hi, dd_not hi, dd_mixB _ _ _ hi, dd_mixB _ _ _ hi, BitVec.getLsbD_and, BitVec.getLsbD_and, dd_not hi, dd_not hi, dd_not hi]
      split <;> rfl]
    refine dd_DC l r hM _ _ ha hb (dd_xz.mpr fun i hl => ?_)
    have hi := dd_lt hl
    rw [BitVec.getLsbD_and, BitVec.getLsbD_and, dd_not hi, dd_not hi, dd_not hi, dd_xz.mp e i hl]
theorem dd_Dor {r t : dd_S} (h : dd_D M S r) (ht : dd_D M S t) : dd_D M S (r ||| t) := by
  have := dd_Dnot (dd_Dand (dd_Dnot h) (dd_Dnot ht))
  rwa [show ~~~S &&& ~~~((~~~S &&& ~~~r) &&& (~~~S &&& ~~~t)) = r ||| t from dd_ext fun i hi => by
    have h1 := dd_zI.mp (dd_Dz h) i
    have h2 := dd_zI.mp (dd_Dz ht) i
    simp only [BitVec.getLsbD_and, BitVec.getLsbD_or, dd_not hi]
    cases hS : S.getLsbD i <;> cases hr : r.getLsbD i <;> cases hT : t.getLsbD i <;> simp_all] at this
end
/-- two rows that agree on exactly T keep all the single (F) and all the bundled ones (M) -/
def dd_V (F M : dd_S → dd_S → Prop) (T : dd_S) : Prop :=
  (∀ l r, F l r → dd_sub l T → dd_sub r T) ∧ (∀ l r, M l r → dd_sub l T → dd_sub r T ∨ dd_sub (~~~(l ||| r)) T)
theorem dd_leW (P : dd_S → Prop) (h : ∃ W, P W) : ∃ W, P W ∧ ∀ A, P (W &&& A) → W &&& A = W := by
  have key : ∀ n : Nat, ∀ W : dd_S, W.toNat = n → P W → ∃ W, P W ∧ ∀ A, P (W &&& A) → W &&& A = W := by
    intro n
    induction n using Nat.strongRecOn with
    | _ n ih =>
      intro W hn hW
      by_cases hA : ∀ A, P (W &&& A) → W &&& A = W
      · exact ⟨W, hW, hA⟩
      · obtain ⟨A, hA⟩ := Classical.not_forall.mp hA
        obtain ⟨h1, h2⟩ := Classical.not_imp.mp hA
        refine ih (W &&& A).toNat ?_ (W &&& A) rfl h1
        have hle : (W &&& A).toNat ≤ W.toNat := by rw [BitVec.toNat_and]; exact Nat.and_le_left
        have hne : (W &&& A).toNat ≠ W.toNat := fun e => h2 (BitVec.eq_of_toNat_eq e)
        omega
  obtain ⟨W, hW⟩ := h
  exact key _ W rfl hW
section
variable {F M : dd_S → dd_S → Prop} {S : dd_S}
theorem dd_prime (hF : ∀ l r, F l r → ∀ a b, dd_D M S a → dd_D M S b → (a ^^^ b) &&& l = 0#6 → (a ^^^ b) &&& r = 0#6)
    (Q : dd_S → Prop) (hU : Q (~~~S)) (hQ : ∀ W A, dd_D M S (W &&& A) → dd_D M S (W &&& ~~~A) → Q W → Q (W &&& A) ∨ Q (W &&& ~~~A)) :
    ∃ W, dd_D M S W ∧ Q W ∧ dd_V F M (~~~W) := by
  obtain ⟨W, ⟨hD, hq⟩, hm⟩ := dd_leW (fun W => dd_D M S W ∧ Q W) ⟨_, dd_DU, hU⟩
  refine ⟨W, hD, hq, fun l r hf hl => ?_, fun l r hM hl => ?_⟩
  · have e := hF l r hf 0#6 W dd_D0 hD (dd_xz.mpr fun i h => by
      have := dd_subI.mp hl i h
      rw [dd_not (dd_lt h)] at this
      cases hw : W.getLsbD i <;> simp_all)
    refine dd_subI.mpr fun i h => ?_
    have := dd_xz.mp e i h
    rw [dd_not (dd_lt h), ← this]; simp
  · have hlW : ∀ i, l.getLsbD i = true → W.getLsbD i = false := fun i h => by
      have := dd_subI.mp hl i h
      rw [dd_not (dd_lt h)] at this
      cases hw : W.getLsbD i <;> simp_all
    have e1 := dd_DC (M := M) (S := S) l r hM W 0#6 hD dd_D0 (dd_xz.mpr fun i h => by rw [hlW i h]; simp)
    have e2 := dd_DC (M := M) (S := S) l r hM 0#6 W dd_D0 hD (dd_xz.mpr fun i h => by rw [hlW i h]; simp)
    rw [show dd_mix (l ||| r) W 0#6 = W &&& r from dd_ext fun i hi => by
      rw [dd_mixB _ _ _ hi, BitVec.getLsbD_or, BitVec.getLsbD_and]
      have := hlW i
      cases hl : l.getLsbD i <;> cases hr : r.getLsbD i <;> simp_all] at e1
    rw [show dd_mix (l ||| r) 0#6 W = W &&& ~~~r from dd_ext fun i hi => by
      rw [dd_mixB _ _ _ hi, BitVec.getLsbD_or, BitVec.getLsbD_and, dd_not hi]
      have := hlW i
      cases hl : l.getLsbD i <;> cases hr : r.getLsbD i <;> simp_all] at e2
    rcases hQ W r e1 e2 hq with h | h
    · have e := hm r ⟨e1, h⟩
      refine Or.inr (dd_subI.mpr fun i h => ?_)
      have hi := dd_lt h
      have := congrArg (fun z => BitVec.getLsbD z i) e
      rw [BitVec.getLsbD_and] at this
      rw [dd_not hi, BitVec.getLsbD_or] at h
      rw [dd_not hi]
      cases hw : W.getLsbD i <;> simp_all
    · have e := hm (~~~r) ⟨e2, h⟩
      refine Or.inl (dd_subI.mpr fun i h => ?_)
      have hi := dd_lt h
      have := congrArg (fun z => BitVec.getLsbD z i) e
      rw [BitVec.getLsbD_and, dd_not hi, h] at this
      rw [dd_not hi]
      cases hw : W.getLsbD i <;> simp_all
/-- what a closed tableau says of one column -/
theorem dd_col {x : dd_S} (hF : ∀ l r, F l r → ∀ a b, dd_D M S a → dd_D M S b → (a ^^^ b) &&& l = 0#6 → (a ^^^ b) &&& r = 0#6)
    (hx : dd_sub x S) (hS : ∀ T, dd_V F M T → dd_sub x T → dd_sub S T) {c : Nat} (hc : c < 6) :
    S.getLsbD c = true ↔ ∀ T, dd_V F M T → dd_sub x T → T.getLsbD c = true := by
  constructor
  · exact fun h T hT hxT => dd_subI.mp (hS T hT hxT) c h
  · intro h
    cases hs : S.getLsbD c with
    | true => rfl
    | false =>
      obtain ⟨W, hD, hq, hV⟩ := dd_prime hF (fun W => W.getLsbD c = true) (by rw [dd_not hc, hs]; rfl)
        (fun W A _ _ hq => by
          rw [BitVec.getLsbD_and, BitVec.getLsbD_and, dd_not hc, hq]
          cases A.getLsbD c <;> simp)
      have := h _ hV (dd_subI.mpr fun i hi => by
        have h1 := dd_subI.mp hx i hi
        have h2 := dd_zI.mp (dd_Dz hD) i
        rw [dd_not (dd_lt hi)]
        cases hw : W.getLsbD i <;> simp_all)
      rw [dd_not hc, hq] at this
      exact absurd this (by decide)
theorem dd_two {T r : dd_S} (hT : dd_V F M T) (h : dd_D M T r) : r = 0#6 ∨ r = ~~~T := by
  refine h (fun r => r = 0#6 ∨ r = ~~~T) (Or.inl rfl) (Or.inr rfl) ?_
  have same : ∀ m a : dd_S, dd_mix m a a = a := fun m a => dd_ext fun i hi => by rw [dd_mixB _ _ _ hi]; split <;> rfl
  intro l r hM a b ha hb e
  have hz : ∀ A B : dd_S, (A = 0#6 ∧ B = ~~~T) ∨ (A = ~~~T ∧ B = 0#6) → (A ^^^ B) &&& l = 0#6 → dd_sub l T := by
    intro A B hAB e
    refine dd_subI.mpr fun i hl => ?_
    have := dd_xz.mp e i hl
    have hi := dd_lt hl
    rcases hAB with ⟨rfl, rfl⟩ | ⟨rfl, rfl⟩
    · rw [dd_not hi] at this
      cases hT : T.getLsbD i <;> simp_all
    · rw [dd_not hi] at this
      cases hT : T.getLsbD i <;> simp_all
  rcases ha with rfl | rfl <;> rcases hb with rfl | rfl
  · exact Or.inl (same _ _)
  · have hl := hz _ _ (Or.inl ⟨rfl, rfl⟩) e
    rcases hT.2 l r hM hl with h | h
    · refine Or.inr (dd_ext fun i hi => ?_)
      rw [dd_mixB _ _ _ hi, BitVec.getLsbD_or, dd_not hi]
      have h1 := dd_subI.mp hl i
      have h2 := dd_subI.mp h i
      cases hT : T.getLsbD i <;> cases hl' : l.getLsbD i <;> cases hr' : r.getLsbD i <;> simp_all
    · refine Or.inl (dd_ext fun i hi => ?_)
      rw [dd_mixB _ _ _ hi, BitVec.getLsbD_or, dd_not hi]
      have h2 := dd_subI.mp h i
      rw [dd_not hi, BitVec.getLsbD_or] at h2
      cases hT : T.getLsbD i <;> cases hl' : l.getLsbD i <;> cases hr' : r.getLsbD i <;> simp_all
  · have hl := hz _ _ (Or.inr ⟨rfl, rfl⟩) e
    rcases hT.2 l r hM hl with h | h
    · refine Or.inl (dd_ext fun i hi => ?_)
      rw [dd_mixB _ _ _ hi, BitVec.getLsbD_or, dd_not hi]
      have h1 := dd_subI.mp hl i
      have h2 := dd_subI.mp h i
      cases hT : T.getLsbD i <;> cases hl' : l.getLsbD i <;> cases hr' : r.getLsbD i <;> simp_all
    · refine Or.inr (dd_ext fun i hi => ?_)
      rw [dd_mixB _ _ _ hi, BitVec.getLsbD_or, dd_not hi]
      have h2 := dd_subI.mp h i
      rw [dd_not hi, BitVec.getLsbD_or] at h2
      cases hT : T.getLsbD i <;> cases hl' : l.getLsbD i <;> cases hr' : r.getLsbD i <;> simp_all
  · exact Or.inr (same _ _)
/-- what a closed tableau says of its rows -/
theorem dd_row {x r : dd_S} (hF : ∀ l r, F l r → ∀ a b, dd_D M S a → dd_D M S b → (a ^^^ b) &&& l = 0#6 → (a ^^^ b) &&& r = 0#6)
    (hx : dd_sub x S) (hS : ∀ T, dd_V F M T → dd_sub x T → dd_sub S T) (hr : r &&& S = 0#6) :
    dd_D M S r ↔ ∀ T, dd_V F M T → dd_sub x T → r &&& ~~~T = 0#6 ∨ r &&& ~~~T = ~~~T := by
  constructor
  · exact fun h T hT hxT => dd_two hT (dd_Dmask (hS T hT hxT) h)
  · intro h
    apply Classical.byContradiction
    intro hn
    obtain ⟨W, hD, hq, hV⟩ := dd_prime hF (fun W => ¬ dd_D M S (W &&& r))
      (by rwa [show ~~~S &&& r = r from dd_ext fun i hi => by
        rw [BitVec.getLsbD_and, dd_not hi]
        have := dd_zI.mp hr i
        cases hS : S.getLsbD i <;> cases hT : r.getLsbD i <;> simp_all])
      (fun W A h1 h2 hq => by
        apply Classical.byContradiction
        intro hc
        obtain ⟨hc1, hc2⟩ := not_or.mp hc
        refine hq ?_
        have := dd_Dor (Classical.not_not.mp hc1) (Classical.not_not.mp hc2)
        rwa [show (W &&& A &&& r) ||| (W &&& ~~~A &&& r) = W &&& r from dd_ext fun i hi => by
          simp only [BitVec.getLsbD_and, BitVec.getLsbD_or, dd_not hi]
          cases A.getLsbD i <;> simp] at this)
    have hW : ~~~(~~~W) = W := dd_ext fun i hi => by rw [dd_not hi, dd_not hi]; simp
    have hcomm : r &&& W = W &&& r := dd_ext fun i hi => by rw [BitVec.getLsbD_and, BitVec.getLsbD_and, Bool.and_comm]
    have := h _ hV (dd_subI.mpr fun i hi => by
      have h1 := dd_subI.mp hx i hi
      have h2 := dd_zI.mp (dd_Dz hD) i
      rw [dd_not (dd_lt hi)]
      cases hw : W.getLsbD i <;> simp_all)
    rw [hW, hcomm] at this
    rcases this with e | e
    · exact hq (by rw [e]; exact dd_D0)
    · exact hq (by rw [e]; exact hD)
end
end
section
/-! numbers: sets of columns and families of sets as the printed ints and longs -/
def dd_i (b : dd_S) : Int32 := nI b.toNat
def dd_b (b : Bool) : Int32 := if b then 1 else 0
def dd_m (f : Int64) (t : Nat) : Bool := f.toBitVec.getLsbD t
def dd_n (n : Nat) : dd_S := BitVec.ofNat 6 n
def dd_e (c : Nat) : dd_S := BitVec.twoPow 6 c
theorem dd_nlt (a : dd_S) : a.toNat < 64 := a.isLt
theorem dd_nlt31 (a : dd_S) : a.toNat < 2 ^ 31 := Nat.lt_trans a.isLt (by decide)
theorem dd_nt {n : Nat} (h : n < 64) : (dd_n n).toNat = n := by
  unfold dd_n; rw [BitVec.toNat_ofNat]; exact Nat.mod_eq_of_lt h
theorem dd_nn (a : dd_S) : dd_n a.toNat = a := BitVec.eq_of_toNat_eq (dd_nt (dd_nlt a))
theorem dd_ni {n : Nat} (h : n < 64) : nI n = dd_i (dd_n n) := by unfold dd_i; rw [dd_nt h]
theorem dd_ilt (a : dd_S) : vp_in (dd_i a) 64 := vp_in_nI (dd_nlt a) (by omega)
theorem dd_icl (a : dd_S) : (dd_i a).toNatClampNeg = a.toNat := nI_clamp (dd_nlt31 a)
theorem dd_iinj {a b : dd_S} : dd_i a = dd_i b ↔ a = b := by
  unfold dd_i
  rw [nI_eq (dd_nlt31 a) (dd_nlt31 b)]
  exact ⟨fun h => BitVec.eq_of_toNat_eq h, fun h => by rw [h]⟩
theorem dd_i0 : dd_i 0#6 = 0 := rfl
theorem dd_i63 : dd_i 63#6 = 63 := rfl
theorem dd_iz {a : dd_S} : dd_i a = 0 ↔ a = 0#6 := by rw [← dd_i0, dd_iinj]
theorem dd_nb (n i : Nat) : bt (nI n) i = (decide (i < 32) && n.testBit i) := by
  show (BitVec.ofNat 32 n).getLsbD i = _
  rw [BitVec.getLsbD_ofNat]
theorem dd_bt (a : dd_S) (i : Nat) : bt (dd_i a) i = a.getLsbD i := by
  unfold dd_i
  rw [dd_nb, BitVec.testBit_toNat]
  rcases Nat.lt_or_ge i 32 with h | h
  · simp [h]
  · rw [BitVec.getLsbD_of_ge a i (by omega)]; simp
theorem dd_and (a b : dd_S) : dd_i a &&& dd_i b = dd_i (a &&& b) := b_ext fun i _ => by
  rw [b_and, dd_bt, dd_bt, dd_bt, BitVec.getLsbD_and]
theorem dd_or (a b : dd_S) : dd_i a ||| dd_i b = dd_i (a ||| b) := b_ext fun i _ => by
  rw [b_or, dd_bt, dd_bt, dd_bt, BitVec.getLsbD_or]
theorem dd_xor (a b : dd_S) : dd_i a ^^^ dd_i b = dd_i (a ^^^ b) := b_ext fun i _ => by
  rw [b_xor, dd_bt, dd_bt, dd_bt, BitVec.getLsbD_xor]
theorem dd_andn (a b : dd_S) : dd_i a &&& (dd_i b ^^^ (-1)) = dd_i (a &&& ~~~b) := b_ext fun i hi => by
  rw [b_and, b_xor, b_m1 i hi, dd_bt, dd_bt, dd_bt, BitVec.getLsbD_and, BitVec.getLsbD_not]
  rcases Nat.lt_or_ge i 6 with h | h
  · simp [h]
  · rw [BitVec.getLsbD_of_ge a i h]; simp
theorem dd_sb (a b : dd_S) : (dd_i a &&& (dd_i b ^^^ (-1))) = 0 ↔ dd_sub a b := by
  rw [dd_andn, dd_iz]
theorem dd_63 (a : dd_S) : 63#6 &&& a = a := dd_ext fun i hi => by
  rw [BitVec.getLsbD_and, (by decide : ∀ c, c < 6 → (63#6).getLsbD c = true) i hi, Bool.true_and]
theorem dd_63n (a : dd_S) : (63 : Int32) &&& (dd_i a ^^^ (-1)) = dd_i (~~~a) := by
  rw [← dd_i63, dd_andn, dd_63]
theorem dd_1 : ∀ c, c < 6 → (1 : Int32) <<< (nI c &&& 31) = dd_i (dd_e c) := by decide +kernel
theorem dd_eB {c i : Nat} (hc : c < 6) : (dd_e c).getLsbD i = decide (c = i) := by
  unfold dd_e; rw [BitVec.getLsbD_twoPow]; simp [hc]
theorem dd_b1 : ∀ i, i < 32 → bt 1 i = decide (i = 0) := by decide +kernel
theorem dd_bb (v : Bool) (i : Nat) (hi : i < 32) : bt (dd_b v) i = (decide (i = 0) && v) := by
  cases v
  · show bt 0 i = _
    rw [b_0]; simp
  · show bt 1 i = _
    rw [dd_b1 i hi]; simp
theorem dd_nbit (n : Nat) {c : Nat} (hc : c < 32) : (nI n >>> (nI c &&& 31)) &&& 1 = dd_b (n.testBit c) := b_ext fun i hi => by
  rw [b_and, b_sshr c hc _ hi, dd_b1 i hi, dd_bb _ i hi, dd_nb, dd_nb]
  by_cases h : i = 0
  · subst h; simp [hc]
  · simp [h]
theorem dd_bit (x : dd_S) {c : Nat} (hc : c < 32) : (dd_i x >>> (nI c &&& 31)) &&& 1 = dd_b (x.getLsbD c) := by
  unfold dd_i; rw [dd_nbit _ hc, BitVec.testBit_toNat]
theorem dd_b0 (v : Bool) : dd_b v = 0 ↔ v = false := by cases v <;> decide
theorem dd_b1I (v : Bool) : dd_b v = 1 ↔ v = true := by cases v <;> decide
theorem dd_bI {v w : Bool} : dd_b v = dd_b w ↔ v = w := by cases v <;> cases w <;> decide
theorem dd_bt1 : dd_b true = 1 := rfl
theorem dd_bf0 : dd_b false = 0 := rfl
theorem dd_bn (v : Bool) : narrow .boolean (.int (dd_b v)) = .int (dd_b v) := by cases v <;> rfl
theorem dd_bv (v : Bool) : vp_nar .boolean (dd_b v) = dd_b v := by cases v <;> rfl
/-! longs as families -/
theorem dd_mN (n : Nat) {t : Nat} (ht : t < 64) : dd_m (lN n) t = n.testBit t := by
  unfold dd_m; rw [wb_tb, BitVec.getLsbD_ofNat]; simp [ht]
theorem dd_mi {n : Nat} (hn : n < 2 ^ 31) {t : Nat} (ht : t < 64) : dd_m (nI n).toInt64 t = n.testBit t := by
  rw [nI_l hn, dd_mN n ht]
theorem dd_mS (x : dd_S) {t : Nat} (ht : t < 64) : dd_m (dd_i x).toInt64 t = x.getLsbD t := by
  unfold dd_i; rw [dd_mi (dd_nlt31 x) ht, BitVec.testBit_toNat]
theorem dd_mge (f : Int64) {t : Nat} (ht : 64 ≤ t) : dd_m f t = false := BitVec.getLsbD_of_ge _ _ ht
theorem dd_mext {f g : Int64} (h : ∀ t, t < 64 → dd_m f t = dd_m g t) : f = g := wb_inj (BitVec.eq_of_getLsbD_eq h)
theorem dd_mv (f : Int64) {t : Nat} (ht : t < 64) : ((f.toUInt64 >>> ((nI t).toInt64.toUInt64 &&& Int64.toUInt64 63)).toInt64 &&& 1) = if dd_m f t then 1 else 0 := by
  obtain ⟨n, hn, rfl⟩ := wb_of f
  rw [wb_bit hn ht, dd_mN n ht, Nat.testBit_eq_decide_div_mod_eq]
  rcases Nat.mod_two_eq_zero_or_one (n / 2 ^ t) with h | h
  · rw [h]; rfl
  · rw [h]; rfl
theorem dd_m0 (f : Int64) {t : Nat} (ht : t < 64) : ((f.toUInt64 >>> ((nI t).toInt64.toUInt64 &&& Int64.toUInt64 63)).toInt64 &&& 1) = 0 ↔ dd_m f t = false := by
  rw [dd_mv f ht]; cases dd_m f t <;> decide
theorem dd_m1 (f : Int64) {t : Nat} (ht : t < 64) : ((f.toUInt64 >>> ((nI t).toInt64.toUInt64 &&& Int64.toUInt64 63)).toInt64 &&& 1) = 1 ↔ dd_m f t = true := by
  rw [dd_mv f ht]; cases dd_m f t <;> decide
theorem dd_mI (f : Int64) {t : Nat} (ht : t < 64) : ((f.toUInt64 >>> ((nI t).toInt64.toUInt64 &&& Int64.toUInt64 63)).toInt64 &&& 1).toInt32 = dd_b (dd_m f t) := by
  rw [dd_mv f ht]; cases dd_m f t <;> decide
theorem dd_set1 {t : Nat} (ht : t < 64) (s : Nat) : dd_m ((1 : Int64) <<< ((nI t).toInt64 &&& 63)) s = decide (t = s) := by
  have e : (1 : Int64) <<< ((nI t).toInt64 &&& 63) = lN (1 * 2 ^ t) := wb_shl 1 ht
  rw [e, Nat.one_mul]
  rcases Nat.lt_or_ge s 64 with h | h
  · rw [dd_mN _ h, Nat.testBit_two_pow]
  · rw [dd_mge _ h, decide_eq_false (by omega)]
theorem dd_mor (f g : Int64) (s : Nat) : dd_m (f ||| g) s = (dd_m f s || dd_m g s) := by
  unfold dd_m; rw [Int64.toBitVec_or, BitVec.getLsbD_or]
theorem dd_set (f : Int64) {t : Nat} (ht : t < 64) (s : Nat) : dd_m (f ||| ((1 : Int64) <<< ((nI t).toInt64 &&& 63))) s = (dd_m f s || decide (t = s)) := by
  rw [dd_mor, dd_set1 ht]
theorem dd_mz (s : Nat) : dd_m 0 s = false := BitVec.getLsbD_zero
/-- more sets, a greater number -/
theorem dd_mlt {f g : Int64} (h : ∀ t, t < 64 → dd_m f t = true → dd_m g t = true) (hn : f ≠ g) : f.toBitVec.toNat < g.toBitVec.toNat := by
  have e : f.toBitVec = f.toBitVec &&& g.toBitVec := BitVec.eq_of_getLsbD_eq fun i hi => by
    rw [BitVec.getLsbD_and]
    have := h i hi
    unfold dd_m at this
    cases hf : f.toBitVec.getLsbD i
    · simp
    · rw [this hf]; rfl
  have h1 : f.toBitVec.toNat ≤ g.toBitVec.toNat := by
    rw [e, BitVec.toNat_and]; exact Nat.and_le_right
  have h2 : f.toBitVec.toNat ≠ g.toBitVec.toNat := fun z => hn (wb_inj (BitVec.eq_of_toNat_eq z))
  omega
theorem dd_slt {a b : dd_S} (h : dd_sub a b) (hn : a ≠ b) : a.toNat < b.toNat := by
  have e : a = a &&& b := dd_ext fun i hi => by
    rw [BitVec.getLsbD_and]
    have := dd_subI.mp h i
    cases hf : a.getLsbD i
    · simp
    · rw [this hf]; rfl
  have h1 : a.toNat ≤ b.toNat := by
    rw [e, BitVec.toNat_and]; exact Nat.and_le_right
  have h2 : a.toNat ≠ b.toNat := fun z => hn (BitVec.eq_of_toNat_eq z)
  omega
end
section
/-! the pure functions that both walks are held against -/
def dd_al (q : Nat → Bool) : Nat → Bool
  | 0 => true
  | n + 1 => dd_al q n && q n
theorem dd_alI {q : Nat → Bool} {n : Nat} : dd_al q n = true ↔ ∀ d, d < n → q d = true := by
  induction n with
  | zero => exact ⟨fun _ d hd => absurd hd (Nat.not_lt_zero d), fun _ => rfl⟩
  | succ n ih =>
    show (dd_al q n && q n) = true ↔ _
    rw [Bool.and_eq_true, ih]
    refine ⟨fun h d hd => ?_, fun h => ⟨fun d hd => h d (by omega), h n (by omega)⟩⟩
    rcases Nat.lt_or_ge d n with z | z
    · exact h.1 d z
    · rw [show d = n by omega]; exact h.2
theorem dd_alF {q : Nat → Bool} {n d : Nat} (hd : d < n) (h : q d = false) : dd_al q n = false := by
  cases e : dd_al q n
  · rfl
  · rw [dd_alI.mp e d hd] at h; exact absurd h (by decide)
theorem dd_alX {q r : Nat → Bool} {n : Nat} (h : ∀ d, d < n → q d = r d) : dd_al q n = dd_al r n := by
  induction n with
  | zero => rfl
  | succ n ih =>
    show (dd_al q n && q n) = (dd_al r n && r n)
    rw [ih fun d hd => h d (by omega), h n (by omega)]
def dd_cn (q : Nat → Bool) : Nat → Nat
  | 0 => 0
  | n + 1 => if q n = true then dd_cn q n + 1 else dd_cn q n
theorem dd_cnX {q r : Nat → Bool} {n : Nat} (h : ∀ d, d < n → q d = r d) : dd_cn q n = dd_cn r n := by
  induction n with
  | zero => rfl
  | succ n ih =>
    show (if q n = true then dd_cn q n + 1 else dd_cn q n) = (if r n = true then dd_cn r n + 1 else dd_cn r n)
    rw [ih fun d hd => h d (by omega), h n (by omega)]
theorem dd_cnle (q : Nat → Bool) (n : Nat) : dd_cn q n ≤ n := by
  induction n with
  | zero => exact Nat.le_refl _
  | succ n ih =>
    show (if q n = true then dd_cn q n + 1 else dd_cn q n) ≤ _
    split <;> omega
/-- nothing counts from m on -/
theorem dd_cnz {q : Nat → Bool} {m n : Nat} (hm : m ≤ n) (h : ∀ d, m ≤ d → d < n → q d = false) : dd_cn q n = dd_cn q m := by
  induction n with
  | zero => rw [show m = 0 by omega]
  | succ n ih =>
    rcases Nat.lt_or_ge n m with z | z
    · rw [show m = n + 1 by omega]
    · show (if q n = true then dd_cn q n + 1 else dd_cn q n) = _
      rw [h n z (by omega), if_neg (by decide), ih z fun d h1 h2 => h d h1 (by omega)]
/-- the i-th of those that q has -/
def dd_at (q : Nat → Bool) (i : Int32) : Nat → Nat → Nat → Int32
  | 0, _, _ => -3
  | d + 1, t, b => if q t = true then (if nI b = i then nI t else dd_at q i d (t + 1) (b + 1)) else dd_at q i d (t + 1) b
theorem dd_atX {q r : Nat → Bool} (i : Int32) {n : Nat} (h : ∀ d, d < n → q d = r d) : ∀ d t b, d + t = n → dd_at q i d t b = dd_at r i d t b := by
  intro d
  induction d with
  | zero => exact fun _ _ _ => rfl
  | succ d ih =>
    intro t b e
    show (if q t = true then (if nI b = i then nI t else dd_at q i d (t + 1) (b + 1)) else dd_at q i d (t + 1) b) = (if r t = true then (if nI b = i then nI t else dd_at r i d (t + 1) (b + 1)) else dd_at r i d (t + 1) b)
    rw [h t (by omega), ih (t + 1) (b + 1) (by omega), ih (t + 1) b (by omega)]
abbrev dd_sB (a b : dd_S) : Bool := decide (dd_sub a b)
theorem dd_sBt {a b : dd_S} (h : dd_sub a b) : dd_sB a b = true := decide_eq_true h
theorem dd_sBf {a b : dd_S} (h : ¬ dd_sub a b) : dd_sB a b = false := decide_eq_false h
/-- two rows that agree on T keep x -> y (b: x ->> y) -/
def dd_pk (T x y : dd_S) (b : Bool) : Bool := !dd_sB x T || dd_sB y T || (b && dd_sB (~~~(x ||| y)) T)
theorem dd_pkI {T x y : dd_S} {b : Bool} : dd_pk T x y b = true ↔ (dd_sub x T → dd_sub y T ∨ (b = true ∧ dd_sub (~~~(x ||| y)) T)) := by
  unfold dd_pk
  rw [Bool.or_eq_true, Bool.or_eq_true, Bool.and_eq_true, Bool.not_eq_true', decide_eq_false_iff_not, decide_eq_true_eq, decide_eq_true_eq]
  constructor
  · rintro ((h | h) | h) hx
    · exact absurd hx h
    · exact Or.inl h
    · exact Or.inr h
  · intro h
    by_cases hx : dd_sub x T
    · rcases h hx with z | z
      · exact Or.inl (Or.inr z)
      · exact Or.inr z
    · exact Or.inl (Or.inl hx)
def dd_clN (p : Nat → Bool) (x : dd_S) : Nat → dd_S
  | 0 => 63#6
  | n + 1 => if p n = true ∧ dd_sub x (dd_n n) then dd_clN p x n &&& dd_n n else dd_clN p x n
def dd_cl (p : Nat → Bool) (x : dd_S) : dd_S := dd_clN p x 64
theorem dd_clNB {p : Nat → Bool} {x : dd_S} {n c : Nat} (hc : c < 6) : (dd_clN p x n).getLsbD c = true ↔ ∀ t, t < n → p t = true → dd_sub x (dd_n t) → (dd_n t).getLsbD c = true := by
  induction n with
  | zero => exact ⟨fun _ d hd => absurd hd (Nat.not_lt_zero d), fun _ => (by decide : ∀ c, c < 6 → (63#6).getLsbD c = true) c hc⟩
  | succ n ih =>
    show (if p n = true ∧ dd_sub x (dd_n n) then dd_clN p x n &&& dd_n n else dd_clN p x n).getLsbD c = true ↔ _
    by_cases h : p n = true ∧ dd_sub x (dd_n n)
    · rw [if_pos h, BitVec.getLsbD_and, Bool.and_eq_true, ih]
      refine ⟨fun g t ht h1 h2 => ?_, fun g => ⟨fun t ht => g t (by omega), g n (by omega) h.1 h.2⟩⟩
      rcases Nat.lt_or_ge t n with z | z
      · exact g.1 t z h1 h2
      · rw [show t = n by omega]; exact g.2
    · rw [if_neg h, ih]
      refine ⟨fun g t ht h1 h2 => ?_, fun g t ht => g t (by omega)⟩
      rcases Nat.lt_or_ge t n with z | z
      · exact g t z h1 h2
      · rw [show t = n by omega] at h1 h2
        exact absurd ⟨h1, h2⟩ h
theorem dd_clB {p : Nat → Bool} {x : dd_S} {c : Nat} (hc : c < 6) : (dd_cl p x).getLsbD c = true ↔ ∀ T : dd_S, p T.toNat = true → dd_sub x T → T.getLsbD c = true := by
  unfold dd_cl
  rw [dd_clNB hc]
  constructor
  · intro h T h1 h2
    have := h T.toNat (dd_nlt T) h1
    rw [dd_nn] at this
    exact this h2
  · intro h t ht h1 h2
    refine h (dd_n t) ?_ h2
    rw [dd_nt ht]; exact h1
/-- the closure is what its bits say -/
theorem dd_clU {p : Nat → Bool} {x S : dd_S} (h : ∀ c, c < 6 → (S.getLsbD c = true ↔ ∀ T : dd_S, p T.toNat = true → dd_sub x T → T.getLsbD c = true)) : S = dd_cl p x :=
  dd_ext fun c hc => Bool.eq_iff_iff.mpr ((h c hc).trans (dd_clB hc).symm)
theorem dd_clX {p q : Nat → Bool} {x : dd_S} (h : ∀ t, t < 64 → p t = q t) : dd_cl p x = dd_cl q x :=
  dd_clU fun c hc => by
    rw [dd_clB hc]
    exact ⟨fun g T h1 h2 => g T (by rw [h _ (dd_nlt T)]; exact h1) h2, fun g T h1 h2 => g T (by rw [← h _ (dd_nlt T)]; exact h1) h2⟩
theorem dd_clx (p : Nat → Bool) (x : dd_S) : dd_sub x (dd_cl p x) :=
  dd_subI.mpr fun c hx => (dd_clB (dd_lt hx)).mpr fun _ _ h => dd_subI.mp h c hx
theorem dd_clle {p : Nat → Bool} {x T : dd_S} (h1 : p T.toNat = true) (h2 : dd_sub x T) : dd_sub (dd_cl p x) T :=
  dd_subI.mpr fun _ hx => (dd_clB (dd_lt hx)).mp hx T h1 h2
/-- a set follows exactly if all keep it -/
theorem dd_clk {p : Nat → Bool} {x y : dd_S} : dd_sub y (dd_cl p x) ↔ ∀ T : dd_S, p T.toNat = true → dd_pk T x y false = true := by
  constructor
  · intro h T hT
    refine dd_pkI.mpr fun hx => Or.inl (dd_subI.mpr fun i hi => ?_)
    exact (dd_clB (dd_lt hi)).mp (dd_subI.mp h i hi) T hT hx
  · intro h
    refine dd_subI.mpr fun i hi => (dd_clB (dd_lt hi)).mpr fun T hT hx => ?_
    rcases dd_pkI.mp (h T hT) hx with z | z
    · exact dd_subI.mp z i hi
    · exact absurd z.1 (by decide)
def dd_aK (p : Nat → Bool) (x y : dd_S) (b : Bool) : Bool := dd_al (fun t => !p t || dd_pk (dd_n t) x y b) 64
theorem dd_aKI {p : Nat → Bool} {x y : dd_S} {b : Bool} : dd_aK p x y b = true ↔ ∀ T : dd_S, p T.toNat = true → dd_pk T x y b = true := by
  unfold dd_aK
  rw [dd_alI]
  constructor
  · intro h T hT
    have := h T.toNat (dd_nlt T)
    rw [hT, dd_nn] at this
    simpa using this
  · intro h t ht
    cases e : p t
    · rfl
    · have := h (dd_n t) (by rw [dd_nt ht]; exact e)
      rw [this]; rfl
theorem dd_aKc {p : Nat → Bool} {x y : dd_S} : dd_aK p x y false = dd_sB y (dd_cl p x) :=
  Bool.eq_iff_iff.mpr (by rw [dd_aKI, decide_eq_true_eq, dd_clk])
/-- the pairs that keep the chosen ones of n given -/
def dd_v (L R : Nat → dd_S) (B : Nat → Bool) (n : Nat) (ch : Nat → Bool) (t : Nat) : Bool :=
  dd_al (fun d => !ch d || dd_pk (dd_n t) (L d) (R d) (B d)) n
def dd_F (L R : Nat → dd_S) (B : Nat → Bool) (n : Nat) (ch : Nat → Bool) (b : Bool) (l r : dd_S) : Prop :=
  ∃ d, d < n ∧ ch d = true ∧ B d = b ∧ L d = l ∧ R d = r
theorem dd_vI {L R : Nat → dd_S} {B : Nat → Bool} {n : Nat} {ch : Nat → Bool} {T : dd_S} : dd_v L R B n ch T.toNat = true ↔ dd_V (dd_F L R B n ch false) (dd_F L R B n ch true) T := by
  unfold dd_v dd_V
  rw [dd_alI, dd_nn]
  constructor
  · intro h
    refine ⟨?_, ?_⟩
    · rintro l r ⟨d, hd, hc, hb, rfl, rfl⟩ hl
      have := h d hd
      rw [hc, Bool.not_true, Bool.false_or, hb] at this
      rcases dd_pkI.mp this hl with z | z
      · exact z
      · exact absurd z.1 (by decide)
    · rintro l r ⟨d, hd, hc, hb, rfl, rfl⟩ hl
      have := h d hd
      rw [hc, Bool.not_true, Bool.false_or, hb] at this
      rcases dd_pkI.mp this hl with z | z
      · exact Or.inl z
      · exact Or.inr z.2
  · intro h d hd
    cases hc : ch d
    · rfl
    · rw [Bool.not_true, Bool.false_or]
      refine dd_pkI.mpr fun hl => ?_
      cases hb : B d
      · exact Or.inl (h.1 _ _ ⟨d, hd, hc, hb, rfl, rfl⟩ hl)
      · rcases h.2 _ _ ⟨d, hd, hc, hb, rfl, rfl⟩ hl with z | z
        · exact Or.inl z
        · exact Or.inr ⟨rfl, z⟩
def dd_un (p : Nat → Bool) : Nat → dd_S
  | 0 => 0#6
  | n + 1 => if p n = true then dd_un p n ||| dd_n n else dd_un p n
theorem dd_unX {q r : Nat → Bool} {n : Nat} (h : ∀ d, d < n → q d = r d) : dd_un q n = dd_un r n := by
  induction n with
  | zero => rfl
  | succ n ih =>
    show (if q n = true then dd_un q n ||| dd_n n else dd_un q n) = (if r n = true then dd_un r n ||| dd_n n else dd_un r n)
    rw [ih fun d hd => h d (by omega), h n (by omega)]
/-- x is a key of s -/
def dd_key (p : Nat → Bool) (s x : dd_S) : Bool :=
  dd_sB x s && (dd_sB s (dd_cl p x) && dd_al (fun c => !(x.getLsbD c && dd_sB s (dd_cl p (x &&& ~~~dd_e c)))) 6)
theorem dd_less {x : dd_S} {c : Nat} (hc : c < 6) : x &&& ~~~dd_e c = x ↔ x.getLsbD c = false := by
  constructor
  · intro h
    have := congrArg (fun z => BitVec.getLsbD z c) h
    simp only [BitVec.getLsbD_and, dd_not hc, dd_eB hc] at this
    simpa using this.symm
  · intro h
    refine dd_ext fun i hi => ?_
    rw [BitVec.getLsbD_and, dd_not hi, dd_eB hc]
    by_cases e : c = i
    · rw [← e, h]; rfl
    · simp [e]
theorem dd_ands {a s : dd_S} : a &&& s = s ↔ dd_sub s a := by
  rw [dd_subI]
  constructor
  · intro h i hi
    have := congrArg (fun z => BitVec.getLsbD z i) h
    simp only [BitVec.getLsbD_and] at this
    rw [hi] at this
    simpa using this
  · intro h
    refine dd_ext fun i _ => ?_
    rw [BitVec.getLsbD_and]
    have := h i
    cases hs : s.getLsbD i
    · simp
    · rw [this hs]; rfl
/-- stems below n, by their own numbers -/
def dd_st (cl : dd_S → dd_S) : Nat → Nat → Bool
  | 0 => fun _ => false
  | n + 1 => fun q => if q = n then (decide (cl (dd_n n) ≠ dd_n n) && dd_al (fun q => !(dd_st cl n q && dd_sB (dd_n q) (dd_n n)) || dd_sB (cl (dd_n q)) (dd_n n)) n) else dd_st cl n q
end
section
/-! the chase on two rows: what it keeps, and what it says when it stands still (no printed name is used) -/
theorem dd_refl (a : dd_S) : dd_sub a a := dd_subI.mpr fun _ h => h
theorem dd_trans {a b c : dd_S} (h1 : dd_sub a b) (h2 : dd_sub b c) : dd_sub a c := dd_subI.mpr fun i h => dd_subI.mp h2 i (dd_subI.mp h1 i h)
theorem dd_anti {a b : dd_S} (h1 : dd_sub a b) (h2 : dd_sub b a) : a = b := dd_ext fun i _ => Bool.eq_iff_iff.mpr ⟨dd_subI.mp h1 i, dd_subI.mp h2 i⟩
theorem dd_nm {S S' : dd_S} (hs : dd_sub S S') : ~~~S &&& ~~~S' = ~~~S' := dd_ext fun i hi => by
  rw [BitVec.getLsbD_and, dd_not hi, dd_not hi]
  have := dd_subI.mp hs i
  cases hS : S.getLsbD i <;> cases hS' : S'.getLsbD i <;> simp_all
theorem dd_0a (a : dd_S) : 0#6 &&& a = 0#6 := dd_ext fun i hi => by simp
theorem dd_zn {r S : dd_S} (h : r &&& S = 0#6) : r &&& ~~~S = r := dd_ext fun i hi => by
  rw [BitVec.getLsbD_and, dd_not hi]
  have := dd_zI.mp h i
  cases hS : S.getLsbD i <;> cases hT : r.getLsbD i <;> simp_all
def dd_I (F M : dd_S → dd_S → Prop) (x S : dd_S) (md : dd_S → Prop) : Prop :=
  dd_sub x S ∧ (∀ T, dd_V F M T → dd_sub x T → dd_sub S T)
  ∧ (∀ S', dd_sub S S' → ∀ r, md r → dd_D M S' (r &&& ~~~S'))
  ∧ md 0#6 ∧ md (~~~S) ∧ (∀ r, md r → r &&& S = 0#6)
section
variable {F M : dd_S → dd_S → Prop} {x S : dd_S} {md : dd_S → Prop}
theorem dd_Icong {md' : dd_S → Prop} (h : ∀ r, md' r ↔ md r) (I : dd_I F M x S md) : dd_I F M x S md' := by
  have e : md' = md := funext fun r => propext (h r)
  rw [e]; exact I
theorem dd_Istart (h : ∀ r, md r ↔ r = 0#6 ∨ r = ~~~x) : dd_I F M x x md := by
  refine ⟨dd_refl x, fun _ _ h => h, fun S' hs r hr => ?_, (h _).mpr (Or.inl rfl), (h _).mpr (Or.inr rfl), fun r hr => ?_⟩
  · rcases (h r).mp hr with rfl | rfl
    · rw [dd_0a]; exact dd_D0
    · rw [dd_nm hs]; exact dd_DU
  · rcases (h r).mp hr with rfl | rfl
    · exact dd_0a x
    · exact dd_zI.mpr fun i h1 h2 => by rw [dd_not (dd_lt h2), h2] at h1; exact absurd h1 (by decide)
theorem dd_mixm (m a b s : dd_S) : dd_mix m a b &&& s = dd_mix m (a &&& s) (b &&& s) := dd_ext fun i hi => by
  rw [BitVec.getLsbD_and, dd_mixB _ _ _ hi, dd_mixB _ _ _ hi, BitVec.getLsbD_and, BitVec.getLsbD_and]
  split <;> rfl
theorem dd_xzm {a b l : dd_S} (s : dd_S) (e : (a ^^^ b) &&& l = 0#6) : ((a &&& s) ^^^ (b &&& s)) &&& l = 0#6 := dd_xz.mpr fun i hl => by
  rw [BitVec.getLsbD_and, BitVec.getLsbD_and, dd_xz.mp e i hl]
/-- a row more by a bundled one -/
theorem dd_IM (I : dd_I F M x S md) {l r a b : dd_S} (hM : M l r) (ha : md a) (hb : md b) (e : (a ^^^ b) &&& l = 0#6) : dd_I F M x S (fun t => md t ∨ dd_mix (l ||| r) a b = t) := by
  obtain ⟨i1, i2, i3, i4, i5, i6⟩ := I
  refine ⟨i1, i2, fun S' hs t ht => ?_, Or.inl i4, Or.inl i5, fun t ht => ?_⟩
  · rcases ht with ht | rfl
    · exact i3 S' hs t ht
    · rw [dd_mixm]
      exact dd_DC l r hM _ _ (i3 S' hs a ha) (i3 S' hs b hb) (dd_xzm _ e)
  · rcases ht with ht | rfl
    · exact i6 t ht
    · refine dd_zI.mpr fun i h h2 => ?_
      rw [dd_mixB _ _ _ (dd_lt h2)] at h
      split at h
      · exact dd_zI.mp (i6 a ha) i h h2
      · exact dd_zI.mp (i6 b hb) i h h2
/-- what a single one makes the same, every pair of rows that keeps all has the same -/
theorem dd_IF (I : dd_I F M x S md) {l r a b : dd_S} (hF : F l r) (ha : md a) (hb : md b) (e : (a ^^^ b) &&& l = 0#6) : ∀ T, dd_V F M T → dd_sub x T → dd_sub ((a ^^^ b) &&& r) T := by
  intro T hT hx
  obtain ⟨i1, i2, i3, i4, i5, i6⟩ := I
  have hS := i2 T hT hx
  have da := dd_two hT (i3 T hS a ha)
  have db := dd_two hT (i3 T hS b hb)
  have ba : ∀ j, j < 6 → T.getLsbD j = false → (a &&& ~~~T).getLsbD j = a.getLsbD j := fun j hj h => by rw [BitVec.getLsbD_and, dd_not hj, h]; simp
  have bb : ∀ j, j < 6 → T.getLsbD j = false → (b &&& ~~~T).getLsbD j = b.getLsbD j := fun j hj h => by rw [BitVec.getLsbD_and, dd_not hj, h]; simp
  refine dd_subI.mpr fun i hi => ?_
  have h6 := dd_lt hi
  rw [BitVec.getLsbD_and, BitVec.getLsbD_xor, Bool.and_eq_true] at hi
  cases hTi : T.getLsbD i with
  | true => rfl
  | false =>
    exfalso
    have ne : a &&& ~~~T ≠ b &&& ~~~T := fun z => by
      have := congrArg (fun z => BitVec.getLsbD z i) z
      rw [ba i h6 hTi, bb i h6 hTi] at this
      rw [this] at hi
      simp at hi
    have hl : dd_sub l T := dd_subI.mpr fun j hj => by
      have h6j := dd_lt hj
      cases hTj : T.getLsbD j with
      | true => rfl
      | false =>
        exfalso
        have q := dd_xz.mp e j hj
        rw [← ba j h6j hTj, ← bb j h6j hTj] at q
        rcases da with da | da <;> rcases db with db | db <;> rw [da, db] at ne q
        · exact ne rfl
        · rw [dd_not h6j, hTj] at q; simp at q
        · rw [dd_not h6j, hTj] at q; simp at q
        · exact ne rfl
    have := dd_subI.mp (hT.1 l r hF hl) i hi.2
    rw [hTi] at this
    exact absurd this (by decide)
theorem dd_Ieq (I : dd_I F M x S md) {S2 : dd_S} (h1 : dd_sub S S2) (h2 : ∀ T, dd_V F M T → dd_sub x T → dd_sub S2 T) {md' : dd_S → Prop} (hm : ∀ r, md' r ↔ ∃ s, md s ∧ s &&& ~~~S2 = r) : dd_I F M x S2 md' := by
  obtain ⟨i1, i2, i3, i4, i5, i6⟩ := I
  refine ⟨dd_trans i1 h1, h2, fun S' hs r hr => ?_, (hm _).mpr ⟨_, i4, dd_0a _⟩, (hm _).mpr ⟨_, i5, dd_nm h1⟩, fun r hr => ?_⟩
  · obtain ⟨s, h, rfl⟩ := (hm r).mp hr
    rw [show s &&& ~~~S2 &&& ~~~S' = s &&& ~~~S' from dd_ext fun i hi => by
      rw [BitVec.getLsbD_and, BitVec.getLsbD_and, BitVec.getLsbD_and, dd_not hi, dd_not hi]
      have := dd_subI.mp hs i
      cases hS : S2.getLsbD i <;> cases hS' : S'.getLsbD i <;> simp_all]
    exact i3 S' (dd_trans h1 hs) s h
  · obtain ⟨s, h, rfl⟩ := (hm r).mp hr
    refine dd_zI.mpr fun i h h2 => ?_
    rw [BitVec.getLsbD_and, dd_not (dd_lt h2), h2] at h
    simp at h
/-- more of the same columns: the rows have changed -/
theorem dd_Ine (I : dd_I F M x S md) {S2 : dd_S} (h1 : dd_sub S S2) (hn : S ≠ S2) : ∃ r, md r ∧ ¬ r &&& S2 = 0#6 := by
  refine ⟨~~~S, I.2.2.2.2.1, fun z => hn (dd_anti h1 (dd_subI.mpr fun i hi => ?_))⟩
  have := dd_zI.mp z i
  rw [dd_not (dd_lt hi)] at this
  cases h : S.getLsbD i with
  | true => rfl
  | false => rw [h] at this; exact (this rfl hi).elim
theorem dd_Iend (I : dd_I F M x S md) (hM : dd_Cl M md)
    (hF : ∀ l r, F l r → ∀ a b, md a → md b → (a ^^^ b) &&& l = 0#6 → (a ^^^ b) &&& r = 0#6) :
    (∀ c, c < 6 → (S.getLsbD c = true ↔ ∀ T, dd_V F M T → dd_sub x T → T.getLsbD c = true)) ∧
    ∀ r, r &&& S = 0#6 → (md r ↔ ∀ T, dd_V F M T → dd_sub x T → r &&& ~~~T = 0#6 ∨ r &&& ~~~T = ~~~T) := by
  obtain ⟨i1, i2, i3, i4, i5, i6⟩ := I
  have e : ∀ r, md r ↔ dd_D M S r := fun r => ⟨fun h => by
    have := i3 S (dd_refl S) r h
    rwa [dd_zn (i6 r h)] at this, fun h => h md i4 i5 hM⟩
  have hF' : ∀ l r, F l r → ∀ a b, dd_D M S a → dd_D M S b → (a ^^^ b) &&& l = 0#6 → (a ^^^ b) &&& r = 0#6 :=
    fun l r h a b ha hb => hF l r h a b ((e a).mpr ha) ((e b).mpr hb)
  exact ⟨fun c hc => dd_col hF' i1 i2 hc, fun r hr => (e r).trans (dd_row hF' i1 i2 hr)⟩
/-- the row that tells x ->> y -/
theorem dd_Ibun (I : dd_I F M x S md) (hM : dd_Cl M md)
    (hF : ∀ l r, F l r → ∀ a b, md a → md b → (a ^^^ b) &&& l = 0#6 → (a ^^^ b) &&& r = 0#6) (y : dd_S) :
    md (~~~(x ||| y) &&& ~~~S) ↔ ∀ T, dd_V F M T → dd_pk T x y true = true := by
  have hz : ~~~(x ||| y) &&& ~~~S &&& S = 0#6 := dd_zI.mpr fun i h h2 => by
    rw [BitVec.getLsbD_and, dd_not (a := S) (dd_lt h2), h2] at h
    simp at h
  rw [(dd_Iend I hM hF).2 _ hz]
  have key : ∀ T, dd_V F M T → dd_sub x T → ((~~~(x ||| y) &&& ~~~S &&& ~~~T = 0#6 ∨ ~~~(x ||| y) &&& ~~~S &&& ~~~T = ~~~T) ↔ dd_sub y T ∨ (true = true ∧ dd_sub (~~~(x ||| y)) T)) := by
    intro T hT hx
    have hS := dd_subI.mp (I.2.1 T hT hx)
    have hx' := dd_subI.mp hx
    rw [dd_subI, dd_subI]
    constructor
    · rintro (h | h)
      · refine Or.inr ⟨rfl, fun i hi => ?_⟩
        have h6 := dd_lt hi
        have := congrArg (fun z => BitVec.getLsbD z i) h
        simp only [BitVec.getLsbD_and, dd_not h6] at this
        rw [dd_not h6] at hi
        have := hS i
        cases hTi : T.getLsbD i <;> cases hSi : S.getLsbD i <;> simp_all
      · refine Or.inl fun i hi => ?_
        have h6 := dd_lt hi
        have := congrArg (fun z => BitVec.getLsbD z i) h
        simp only [BitVec.getLsbD_and, dd_not h6, BitVec.getLsbD_or] at this
        cases hTi : T.getLsbD i <;> simp_all
    · rintro (h | ⟨_, h⟩)
      · refine Or.inr (dd_ext fun i hi => ?_)
        simp only [BitVec.getLsbD_and, dd_not hi, BitVec.getLsbD_or]
        have a1 := h i
        have a2 := hS i
        have a3 := hx' i
        cases hTi : T.getLsbD i <;> cases hSi : S.getLsbD i <;> cases hyi : y.getLsbD i <;> cases hxi : x.getLsbD i <;> simp_all
      · refine Or.inl (dd_ext fun i hi => ?_)
        have a1 := h i
        rw [dd_not hi] at a1
        simp only [BitVec.getLsbD_and, dd_not hi]
        cases hTi : T.getLsbD i <;> cases hq : (x ||| y).getLsbD i <;> simp_all
  constructor
  · intro h T hT
    exact dd_pkI.mpr fun hx => (key T hT hx).mp (h T hT hx)
  · intro h T hT hx
    exact (key T hT hx).mpr (dd_pkI.mp (h T hT) hx)
end
end
section
/-! a set by its six bits; counting -/
def dd_of (q : Nat → Bool) : Nat → dd_S
  | 0 => 0#6
  | n + 1 => if q n = true then dd_of q n ||| dd_e n else dd_of q n
theorem dd_ofB {q : Nat → Bool} {n : Nat} (hn : n ≤ 6) (c : Nat) : (dd_of q n).getLsbD c = (decide (c < n) && q c) := by
  induction n with
  | zero => show (0#6).getLsbD c = _; simp
  | succ n ih =>
    show (if q n = true then dd_of q n ||| dd_e n else dd_of q n).getLsbD c = _
    have i := ih (by omega)
    by_cases h : q n = true
    · rw [if_pos h, BitVec.getLsbD_or, i, dd_eB (by omega)]
      by_cases e : n = c
      · subst e; simp [h]
      · rcases Nat.lt_or_ge c n with z | z
        · simp [z, e, show c < n + 1 by omega]
        · simp [e, show ¬ c < n by omega, show ¬ c < n + 1 by omega]
    · rw [if_neg h, i]
      rcases Nat.lt_or_ge c n with z | z
      · simp [z, show c < n + 1 by omega]
      · by_cases e : n = c
        · subst e; simp [h]
        · simp [show ¬ c < n by omega, show ¬ c < n + 1 by omega]
theorem dd_of6 (q : Nat → Bool) {c : Nat} (hc : c < 6) : (dd_of q 6).getLsbD c = q c := by
  rw [dd_ofB (Nat.le_refl 6)]; simp [hc]
theorem dd_ofX {q r : Nat → Bool} {n : Nat} (h : ∀ d, d < n → q d = r d) : dd_of q n = dd_of r n := by
  induction n with
  | zero => rfl
  | succ n ih =>
    show (if q n = true then dd_of q n ||| dd_e n else dd_of q n) = (if r n = true then dd_of r n ||| dd_e n else dd_of r n)
    rw [ih fun d hd => h d (by omega), h n (by omega)]
theorem dd_cn0 {q : Nat → Bool} {n : Nat} (h : dd_cn q n = 0) : ∀ d, d < n → q d = false := by
  induction n with
  | zero => exact fun d hd => absurd hd (Nat.not_lt_zero d)
  | succ n ih =>
    have e : (if q n = true then dd_cn q n + 1 else dd_cn q n) = 0 := h
    by_cases z : q n = true
    · rw [if_pos z] at e; omega
    · rw [if_neg z] at e
      intro d hd
      rcases Nat.lt_or_ge d n with y | y
      · exact ih e d y
      · rw [show d = n by omega]
        cases g : q n
        · rfl
        · exact absurd g z
theorem dd_eqn {a b : dd_S} (h : ∀ c, c < 6 → (a.getLsbD c = true ↔ b.getLsbD c = true)) : a = b := dd_ext fun c hc => Bool.eq_iff_iff.mpr (h c hc)
end
section
/-! repeated passes over six columns (no printed name is used) -/
def dd_stp (g : Nat → dd_S → dd_S) (s : dd_S) : Nat → dd_S
  | 0 => s
  | n + 1 => g n (dd_stp g s n)
def dd_it (f : dd_S → dd_S) : Nat → dd_S → dd_S
  | 0, s => s
  | n + 1, s => f (dd_it f n s)
theorem dd_stpX {g h : Nat → dd_S → dd_S} {s : dd_S} {n : Nat} (e : ∀ k, k < n → ∀ z, g k z = h k z) : dd_stp g s n = dd_stp h s n := by
  induction n with
  | zero => rfl
  | succ n ih =>
    show g n (dd_stp g s n) = h n (dd_stp h s n)
    rw [ih fun k hk => e k (by omega), e n (by omega)]
theorem dd_stpm (g : Nat → dd_S → dd_S) (m : Nat) (hm : 0 < m) (s : dd_S) (k j : Nat) (hj : j ≤ m) :
    dd_stp (fun n => g (n % m)) s (m * k + j) = dd_stp g (dd_stp (fun n => g (n % m)) s (m * k)) j := by
  induction j with
  | zero => rfl
  | succ j ih =>
    show g ((m * k + j) % m) (dd_stp (fun n => g (n % m)) s (m * k + j)) = g j _
    rw [ih (by omega), Nat.mul_add_mod, Nat.mod_eq_of_lt (by omega)]
theorem dd_stpi (g : Nat → dd_S → dd_S) (m : Nat) (hm : 0 < m) (s : dd_S) (k : Nat) :
    dd_stp (fun n => g (n % m)) s (m * k) = dd_it (fun z => dd_stp g z m) k s := by
  induction k with
  | zero => rfl
  | succ k ih =>
    rw [show m * (k + 1) = m * k + m from Nat.mul_succ m k, dd_stpm g m hm s k m (Nat.le_refl m), ih]
    rfl
theorem dd_stpsub {g : Nat → dd_S → dd_S} (h : ∀ k z, dd_sub z (g k z)) (s : dd_S) (n : Nat) : dd_sub s (dd_stp g s n) := by
  induction n with
  | zero => exact dd_refl s
  | succ n ih => exact dd_trans ih (h n _)
/-- if the whole pass stands still, so does each step -/
theorem dd_stpfix {g : Nat → dd_S → dd_S} (h : ∀ k z, dd_sub z (g k z)) {s : dd_S} {n : Nat} (e : dd_stp g s n = s) : ∀ k, k < n → g k s = s := by
  have mono : ∀ m k, k ≤ m → dd_sub (dd_stp g s k) (dd_stp g s m) := by
    intro m
    induction m with
    | zero => intro k hk; rw [show k = 0 by omega]; exact dd_refl _
    | succ m ih =>
      intro k hk
      rcases Nat.lt_or_ge k (m + 1) with z | z
      · exact dd_trans (ih k (by omega)) (h m _)
      · rw [show k = m + 1 by omega]; exact dd_refl _
  have all : ∀ k, k ≤ n → dd_stp g s k = s := fun k hk => dd_anti (by
    have := mono n k hk
    rwa [e] at this) (dd_stpsub h s k)
  intro k hk
  have := all (k + 1) (by omega)
  have e2 : dd_stp g s (k + 1) = g k (dd_stp g s k) := rfl
  rw [e2, all k (by omega)] at this
  exact this
def dd_card (s : dd_S) : Nat := dd_cn (fun c => s.getLsbD c) 6
theorem dd_cnlt {q r : Nat → Bool} {n : Nat} (h : ∀ d, d < n → q d = true → r d = true) {d0 : Nat} (h0 : d0 < n) (hq : q d0 = false) (hr : r d0 = true) : dd_cn q n < dd_cn r n := by
  have le : ∀ m, m ≤ n → dd_cn q m ≤ dd_cn r m := by
    intro m
    induction m with
    | zero => exact fun _ => Nat.le_refl _
    | succ m ih =>
      intro hm
      have i := ih (by omega)
      have z := h m (by omega)
      show (if q m = true then dd_cn q m + 1 else dd_cn q m) ≤ (if r m = true then dd_cn r m + 1 else dd_cn r m)
      by_cases e : q m = true
      · rw [if_pos e, if_pos (z e)]; omega
      · rw [if_neg e]; split <;> omega
  have lt : ∀ m, d0 < m → m ≤ n → dd_cn q m < dd_cn r m := by
    intro m
    induction m with
    | zero => exact fun z => absurd z (Nat.not_lt_zero _)
    | succ m ih =>
      intro h1 h2
      show (if q m = true then dd_cn q m + 1 else dd_cn q m) < (if r m = true then dd_cn r m + 1 else dd_cn r m)
      rcases Nat.lt_or_ge d0 m with z | z
      · have i := ih z (by omega)
        have y := h m (by omega)
        by_cases e : q m = true
        · rw [if_pos e, if_pos (y e)]; omega
        · rw [if_neg e]; split <;> omega
      · have e : d0 = m := by omega
        subst e
        rw [hq, hr, if_neg (by decide), if_pos rfl]
        have := le d0 (by omega)
        omega
  exact lt n h0 (Nat.le_refl n)
theorem dd_cardlt {a b : dd_S} (h : dd_sub a b) (hn : a ≠ b) : dd_card a < dd_card b := by
  have : ∃ i, i < 6 ∧ a.getLsbD i = false ∧ b.getLsbD i = true := by
    apply Classical.byContradiction
    intro hc
    refine hn (dd_ext fun i hi => ?_)
    have h1 := dd_subI.mp h i
    cases ha : a.getLsbD i with
    | true => exact (h1 ha).symm
    | false =>
      cases hb : b.getLsbD i with
      | false => rfl
      | true => exact (hc ⟨i, hi, ha, hb⟩).elim
  obtain ⟨i, hi, ha, hb⟩ := this
  exact dd_cnlt (fun d _ => dd_subI.mp h d) hi ha hb
theorem dd_it6 {f : dd_S → dd_S} (h : ∀ z, dd_sub z (f z)) (s : dd_S) : f (dd_it f 6 s) = dd_it f 6 s := by
  have key : ∀ k, f (dd_it f k s) = dd_it f k s ∨ k ≤ dd_card (dd_it f k s) := by
    intro k
    induction k with
    | zero => exact Or.inr (Nat.zero_le _)
    | succ k ih =>
      show f (f (dd_it f k s)) = f (dd_it f k s) ∨ k + 1 ≤ dd_card (f (dd_it f k s))
      by_cases e : f (dd_it f k s) = dd_it f k s
      · left; rw [e, e]
      · right
        have c := dd_cardlt (h (dd_it f k s)) (fun z => e z.symm)
        rcases ih with i | i
        · exact absurd i e
        · omega
  rcases key 6 with i | i
  · exact i
  · refine Classical.byContradiction fun e => ?_
    have c := dd_cardlt (h (dd_it f 6 s)) (fun z => e z.symm)
    have b : dd_card (f (dd_it f 6 s)) ≤ 6 := dd_cnle _ 6
    omega
theorem dd_itge {f : dd_S → dd_S} (h : ∀ z, dd_sub z (f z)) (s : dd_S) (k : Nat) : dd_it f (6 + k) s = dd_it f 6 s := by
  induction k with
  | zero => rfl
  | succ k ih =>
    show f (dd_it f (6 + k) s) = _
    rw [ih]; exact dd_it6 h s
/-- the closure by the single ones, as the reference reckons it -/
def dd_sg (L R : Nat → dd_S) (B : Nat → Bool) (n : Nat) (k : Nat) (z : dd_S) : dd_S :=
  if k < n ∧ B k = false ∧ dd_sub (L k) z then z ||| R k else z
theorem dd_orl (a b : dd_S) : dd_sub a (a ||| b) := dd_subI.mpr fun i h => by rw [BitVec.getLsbD_or, h]; rfl
theorem dd_orr (a b : dd_S) : dd_sub b (a ||| b) := dd_subI.mpr fun i h => by rw [BitVec.getLsbD_or, h, Bool.or_true]
theorem dd_orle {a b c : dd_S} (h1 : dd_sub a c) (h2 : dd_sub b c) : dd_sub (a ||| b) c := dd_subI.mpr fun i h => by
  rw [BitVec.getLsbD_or, Bool.or_eq_true] at h
  rcases h with h | h
  · exact dd_subI.mp h1 i h
  · exact dd_subI.mp h2 i h
theorem dd_andle (a b : dd_S) : dd_sub (a &&& b) a := dd_subI.mpr fun i h => by
  rw [BitVec.getLsbD_and, Bool.and_eq_true] at h; exact h.1
theorem dd_sgsub (L R : Nat → dd_S) (B : Nat → Bool) (n k : Nat) (z : dd_S) : dd_sub z (dd_sg L R B n k z) := by
  unfold dd_sg; split
  · exact dd_orl _ _
  · exact dd_refl _
theorem dd_single (L R : Nat → dd_S) (B : Nat → Bool) {n : Nat} (hn : n ≤ 10) (x : dd_S) :
    dd_stp (fun k => dd_sg L R B n (k % 10)) x 100 = dd_cl (dd_v L R B n (fun d => !B d)) x := by
  rw [show (100 : Nat) = 10 * 10 from rfl, dd_stpi (dd_sg L R B n) 10 (by decide) x 10, show (10 : Nat) = 6 + 4 from rfl,
    dd_itge (fun z => dd_stpsub (dd_sgsub L R B n) z _) x 4]
  have fx := dd_it6 (f := fun z => dd_stp (dd_sg L R B n) z (6 + 4)) (fun z => dd_stpsub (dd_sgsub L R B n) z _) x
  have hx : ∀ k, dd_sub x (dd_it (fun z => dd_stp (dd_sg L R B n) z (6 + 4)) k x) := by
    intro k
    induction k with
    | zero => exact dd_refl x
    | succ k ih => exact dd_trans ih (dd_stpsub (dd_sgsub L R B n) _ _)
  have hT : ∀ T : dd_S, dd_v L R B n (fun d => !B d) T.toNat = true → dd_sub x T → ∀ k, dd_sub (dd_it (fun z => dd_stp (dd_sg L R B n) z (6 + 4)) k x) T := by
    intro T hv hxT
    have hv' := dd_vI.mp hv
    have one : ∀ z, dd_sub z T → ∀ m, dd_sub (dd_stp (dd_sg L R B n) z m) T := by
      intro z hz m
      induction m with
      | zero => exact hz
      | succ m ih =>
        show dd_sub (dd_sg L R B n m (dd_stp (dd_sg L R B n) z m)) T
        unfold dd_sg
        split
        · rename_i h
          exact dd_orle ih (hv'.1 _ _ ⟨m, h.1, by show (!B m) = true; rw [h.2.1]; rfl, h.2.1, rfl, rfl⟩ (dd_trans h.2.2 ih))
        · exact ih
    intro k
    induction k with
    | zero => exact hxT
    | succ k ih => exact one _ ih _
  have st := dd_stpfix (dd_sgsub L R B n) fx
  have zv : dd_v L R B n (fun d => !B d) (dd_it (fun z => dd_stp (dd_sg L R B n) z (6 + 4)) 6 x).toNat = true := by
    refine dd_vI.mpr ⟨?_, ?_⟩
    · rintro l r ⟨d, hd, _, hb, rfl, rfl⟩ hl
      have q := st d (by omega)
      unfold dd_sg at q
      rw [if_pos ⟨hd, hb, hl⟩] at q
      have := dd_orr (dd_it (fun z => dd_stp (dd_sg L R B n) z (6 + 4)) 6 x) (R d)
      unfold dd_sg at this
      rw [q] at this
      exact this
    · rintro l r ⟨d, hd, hc, hb, _, _⟩ _
      have hc' : (!B d) = true := hc
      rw [hb] at hc'
      exact absurd hc' (by decide)
  refine dd_anti (dd_subI.mpr fun i hi => (dd_clB (dd_lt hi)).mpr fun T h1 h2 => dd_subI.mp (hT T h1 h2 6) i hi) (dd_clle zv (hx 6))
theorem dd_stpcut {g : Nat → dd_S → dd_S} {p : Nat} (h : ∀ k, p ≤ k → ∀ z, g k z = z) (s : dd_S) {m : Nat} (hm : p ≤ m) : dd_stp g s m = dd_stp g s p := by
  induction m with
  | zero => rw [show p = 0 by omega]
  | succ m ih =>
    rcases Nat.lt_or_ge p (m + 1) with z | z
    · show g m (dd_stp g s m) = _
      rw [h m (by omega), ih (by omega)]
    · rw [show p = m + 1 by omega]
/-- one part more: what the closure inside it reaches -/
def dd_ps (cl : dd_S → dd_S) (P : Nat → dd_S) (k : Nat) (z : dd_S) : dd_S := z ||| (cl (z &&& P k) &&& P k)
theorem dd_pssub (cl : dd_S → dd_S) (P : Nat → dd_S) (k : Nat) (z : dd_S) : dd_sub z (dd_ps cl P k z) := dd_orl _ _
theorem dd_or0 (z a : dd_S) : z ||| (a &&& 0#6) = z := dd_ext fun i hi => by
  rw [BitVec.getLsbD_or, BitVec.getLsbD_and]; simp
theorem dd_parts (cl : dd_S → dd_S) (P : Nat → dd_S) {p : Nat} (hp : p ≤ 4) (s : dd_S) :
    dd_stp (fun n => dd_ps cl (fun k => if k < p then P k else 0#6) (n % 4)) s 32 = dd_it (fun z => dd_stp (dd_ps cl P) z p) 6 s := by
  rw [show (32 : Nat) = 4 * 8 from rfl, dd_stpi (dd_ps cl (fun k => if k < p then P k else 0#6)) 4 (by decide) s 8]
  have e : (fun z => dd_stp (dd_ps cl (fun k => if k < p then P k else 0#6)) z 4) = fun z => dd_stp (dd_ps cl P) z p := funext fun z => by
    rw [dd_stpcut (p := p) (fun k hk z => by unfold dd_ps; dsimp only; rw [if_neg (by omega), dd_or0]) z hp]
    exact dd_stpX fun k hk z => by unfold dd_ps; dsimp only; rw [if_pos hk]
  rw [e]
  exact dd_itge (fun z => dd_stpsub (dd_pssub cl P) z p) s 2
end
section
/-! merging marks, the lesser stays (no printed name is used).
  A table is g : Nat → Nat → Nat (part, column); n parts; E is 'columns c, d: ..' given as a closure property of agreement -/
def mk_ag (g : Nat → Nat → Nat) (i j : Nat) (c : Nat) : Prop := g i c = g j c
/-- closed: where two parts agree on the left they agree on the right -/
def mk_closed (F : dd_S → dd_S → Prop) (n : Nat) (g : Nat → Nat → Nat) : Prop :=
  ∀ l r, F l r → ∀ i j, i < n → j < n → (∀ c, l.getLsbD c = true → g i c = g j c) → ∀ c, r.getLsbD c = true → g i c = g j c
def mk_C (F : dd_S → dd_S → Prop) (n : Nat) (h g : Nat → Nat → Nat) : Prop :=
  mk_closed F n g ∧ (∀ i c, i < n → c < 6 → g i c ≤ h i c) ∧ (∀ i j c, i < n → j < n → c < 6 → h i c = h j c → g i c = g j c)
/-- what merging keeps: below every member of C none, and the own marks -/
def mk_I (F : dd_S → dd_S → Prop) (n : Nat) (h m : Nat → Nat → Nat) : Prop :=
  (∀ g, mk_C F n h g → (∀ i c, i < n → c < 6 → g i c ≤ m i c) ∧ (∀ i j c, i < n → j < n → c < 6 → m i c = m j c → g i c = g j c))
  ∧ (∀ i c, i < n → c < 6 → m i c ≤ h i c) ∧ (∀ i j c, i < n → j < n → c < 6 → h i c = h j c → m i c = m j c)
  ∧ (∀ i c, i < n → c < 6 → m i c = 0 ∨ ∃ k, k < n ∧ m i c = k + 1 ∧ m k c = k + 1)
def mk_mg (m : Nat → Nat → Nat) (c a b : Nat) : Nat → Nat → Nat :=
  fun r d => if d = c ∧ (m r d = a ∨ m r d = b) then min a b else m r d
theorem mk_start {F : dd_S → dd_S → Prop} {n : Nat} {h : Nat → Nat → Nat} (ho : ∀ i c, i < n → c < 6 → h i c = 0 ∨ h i c = i + 1) : mk_I F n h h :=
  ⟨fun _ hg => ⟨hg.2.1, hg.2.2⟩, fun _ _ _ _ => Nat.le_refl _, fun _ _ _ _ _ _ e => e,
   fun i c hi hc => (ho i c hi hc).imp id fun e => ⟨i, hi, e, e⟩⟩
theorem mk_end {F : dd_S → dd_S → Prop} {n : Nat} {h m m' : Nat → Nat → Nat} (hm : mk_I F n h m) (hm' : mk_I F n h m')
    (hc : mk_closed F n m) (hc' : mk_closed F n m') {i c : Nat} (hi : i < n) (hcc : c < 6) : m i c = m' i c :=
  Nat.le_antisymm ((hm'.1 m ⟨hc, hm.2.1, hm.2.2.1⟩).1 i c hi hcc) ((hm.1 m' ⟨hc', hm'.2.1, hm'.2.2.1⟩).1 i c hi hcc)
theorem mk_step {F : dd_S → dd_S → Prop} {n : Nat} {h m : Nat → Nat → Nat} (I : mk_I F n h m) {i j c : Nat} (hi : i < n) (hj : j < n) (hc : c < 6)
    (hg : ∀ g, mk_C F n h g → g i c = g j c) : mk_I F n h (mk_mg m c (m i c) (m j c)) := by
  obtain ⟨I1, I2, I3, I4⟩ := I
  refine ⟨fun g hC => ?_, ?_, ?_, ?_⟩
  · obtain ⟨A, B⟩ := I1 g hC
    have hij := hg g hC
    have hmin : ∀ r, r < n → (m r c = m i c ∨ m r c = m j c) → g r c = g i c := fun r hr e => by
      rcases e with e | e
      · exact B r i c hr hi hc e
      · rw [hij]; exact B r j c hr hj hc e
    have hle : g i c ≤ min (m i c) (m j c) := Nat.le_min.mpr ⟨A i c hi hc, by rw [hij]; exact A j c hj hc⟩
    have own : min (m i c) (m j c) = m i c ∨ min (m i c) (m j c) = m j c := by omega
    refine ⟨fun r d hr hd => ?_, fun r s d hr hs hd e => ?_⟩
    · unfold mk_mg
      split
      · rename_i hh
        obtain ⟨rfl, hh⟩ := hh
        rw [hmin r hr hh]; exact hle
      · exact A r d hr hd
    · unfold mk_mg at e
      split at e
      · rename_i h1
        obtain ⟨rfl, h1⟩ := h1
        split at e
        · rename_i h2
          rw [hmin r hr h1, hmin s hs h2.2]
        · rename_i h2
          exact absurd ⟨rfl, by rcases own with o | o <;> rw [← e, o] <;> simp⟩ h2
      · rename_i h1
        split at e
        · rename_i h2
          obtain ⟨rfl, h2⟩ := h2
          exact absurd ⟨rfl, by rcases own with o | o <;> rw [e, o] <;> simp⟩ h1
        · exact B r s d hr hs hd e
  · intro r d hr hd
    unfold mk_mg
    split
    · rename_i hh
      obtain ⟨rfl, hh⟩ := hh
      have := I2 r d hr hd
      omega
    · exact I2 r d hr hd
  · intro r s d hr hs hd e
    have := I3 r s d hr hs hd e
    unfold mk_mg
    rw [this]
  · intro r d hr hd
    unfold mk_mg
    split
    · rename_i hh
      obtain ⟨rfl, hh⟩ := hh
      have own : min (m i d) (m j d) = m i d ∨ min (m i d) (m j d) = m j d := by omega
      rcases own with o | o
      · rw [o]
        rcases I4 i d hi hd with z | ⟨k, hk, z, y⟩
        · exact Or.inl z
        · refine Or.inr ⟨k, hk, z, ?_⟩
          rw [if_pos ⟨rfl, Or.inl (by rw [y, z])⟩, z]
      · rw [o]
        rcases I4 j d hj hd with z | ⟨k, hk, z, y⟩
        · exact Or.inl z
        · refine Or.inr ⟨k, hk, z, ?_⟩
          rw [if_pos ⟨rfl, Or.inr (by rw [y, z])⟩, z]
    · rename_i hh
      rcases I4 r d hr hd with z | ⟨k, hk, z, y⟩
      · exact Or.inl z
      · refine Or.inr ⟨k, hk, z, ?_⟩
        rw [if_neg fun q => hh ⟨q.1, by rw [z, ← y]; exact q.2⟩, y]
theorem mk_same (m : Nat → Nat → Nat) (c a : Nat) : mk_mg m c a a = m := funext fun r => funext fun d => by
  unfold mk_mg
  split
  · rename_i h
    rcases h.2 with z | z <;> rw [z] <;> exact Nat.min_self a
  · rfl
/-- the cells that still have their own mark -/
def mk_w (n : Nat) (g : Nat → Nat → Nat) : Nat := dd_cn (fun k => decide (g (k / 6) (k % 6) = k / 6 + 1)) (6 * n)
theorem mk_wle (n : Nat) (g : Nat → Nat → Nat) : mk_w n g ≤ 6 * n := dd_cnle _ _
theorem mk_wlt {F : dd_S → dd_S → Prop} {n : Nat} {h m : Nat → Nat → Nat} (I : mk_I F n h m) {i j c : Nat} (hi : i < n) (hj : j < n) (hc : c < 6)
    (hne : m i c ≠ m j c) : mk_w n (mk_mg m c (m i c) (m j c)) < mk_w n m := by
  have I4 := I.2.2.2
  have big : ∃ k, k < n ∧ m k c = k + 1 ∧ (k + 1 = m i c ∨ k + 1 = m j c) ∧ min (m i c) (m j c) < k + 1 := by
    rcases Nat.lt_or_ge (m i c) (m j c) with z | z
    · rcases I4 j c hj hc with y | ⟨k, hk, y, y2⟩
      · omega
      · exact ⟨k, hk, y2, Or.inr y.symm, by omega⟩
    · rcases I4 i c hi hc with y | ⟨k, hk, y, y2⟩
      · omega
      · exact ⟨k, hk, y2, Or.inl y.symm, by omega⟩
  obtain ⟨k, hk, h1, h2, h3⟩ := big
  have hd : (6 * k + c) / 6 = k := by omega
  have hm : (6 * k + c) % 6 = c := by omega
  unfold mk_w
  refine dd_cnlt (d0 := 6 * k + c) (fun d hdn hq => ?_) (by omega) ?_ ?_
  · rw [decide_eq_true_eq] at hq ⊢
    have hr : d / 6 < n := by omega
    generalize d / 6 = r at hq hr ⊢
    generalize d % 6 = e at hq ⊢
    unfold mk_mg at hq
    split at hq
    · rename_i hh
      obtain ⟨he, hh⟩ := hh
      subst he
      have own : min (m i e) (m j e) = m i e ∨ min (m i e) (m j e) = m j e := by omega
      rcases own with o | o
      · rw [o] at hq
        rcases I4 i e hi hc with y | ⟨k', hk', y, y2⟩
        · omega
        · have : k' = r := by omega
          rw [← this]; exact y2
      · rw [o] at hq
        rcases I4 j e hj hc with y | ⟨k', hk', y, y2⟩
        · omega
        · have : k' = r := by omega
          rw [← this]; exact y2
    · exact hq
  · rw [decide_eq_false_iff_not, hd, hm]
    unfold mk_mg
    rw [if_pos ⟨rfl, by rw [h1]; exact h2⟩]
    omega
  · rw [decide_eq_true_eq, hd, hm]; exact h1
theorem mk_w0 {F : dd_S → dd_S → Prop} {n : Nat} {h m : Nat → Nat → Nat} (I : mk_I F n h m) (hw : mk_w n m = 0) {i c : Nat} (hi : i < n) (hc : c < 6) : m i c = 0 := by
  rcases I.2.2.2 i c hi hc with y | ⟨k, hk, y, y2⟩
  · exact y
  · exfalso
    have := dd_cn0 hw (6 * k + c) (by omega)
    rw [decide_eq_false_iff_not, show (6 * k + c) / 6 = k by omega, show (6 * k + c) % 6 = c by omega] at this
    exact this y2
theorem mk_zero {F : dd_S → dd_S → Prop} {n : Nat} {h m : Nat → Nat → Nat} (I : mk_I F n h m) (hw : mk_w n m = 0) : mk_closed F n m :=
  fun _ _ _ i j hi hj _ c hr => by rw [mk_w0 I hw hi (dd_lt hr), mk_w0 I hw hj (dd_lt hr)]
/-- where two parts have the same marks -/
def mk_agr (g : Nat → Nat → Nat) (i j : Nat) : dd_S := dd_of (fun c => decide (g i c = g j c)) 6
theorem mk_agB {g : Nat → Nat → Nat} {i j c : Nat} (hc : c < 6) : (mk_agr g i j).getLsbD c = true ↔ g i c = g j c := by
  unfold mk_agr; rw [dd_of6 _ hc, decide_eq_true_eq]
section
variable {L R : Nat → dd_S} {B : Nat → Bool} {gn : Nat} {n : Nat} {h m : Nat → Nat → Nat}
theorem mk_valid {g : Nat → Nat → Nat} (hg : mk_closed (dd_F L R B gn (fun d => !B d) false) n g) {i j : Nat} (hi : i < n) (hj : j < n) :
    dd_v L R B gn (fun d => !B d) (mk_agr g i j).toNat = true := by
  refine dd_vI.mpr ⟨?_, ?_⟩
  · intro l r hF hl
    refine dd_subI.mpr fun c hr => (mk_agB (dd_lt hr)).mpr ?_
    exact hg l r hF i j hi hj (fun c hc => (mk_agB (dd_lt hc)).mp (dd_subI.mp hl c hc)) c hr
  · rintro l r ⟨d, _, hc, hb, _, _⟩ _
    have hc' : (!B d) = true := hc
    rw [hb] at hc'
    exact absurd hc' (by decide)
theorem mk_reach (I : mk_I (dd_F L R B gn (fun d => !B d) false) n h m) {i j c : Nat} (hi : i < n) (hj : j < n)
    (hc : (dd_cl (dd_v L R B gn (fun d => !B d)) (mk_agr m i j)).getLsbD c = true) : ∀ g, mk_C (dd_F L R B gn (fun d => !B d) false) n h g → g i c = g j c := by
  intro g hg
  have hv := mk_valid hg.1 hi hj
  have hs : dd_sub (mk_agr m i j) (mk_agr g i j) := dd_subI.mpr fun d hd => (mk_agB (dd_lt hd)).mpr ((I.1 g hg).2 i j d hi hj (dd_lt hd) ((mk_agB (dd_lt hd)).mp hd))
  exact (mk_agB (dd_lt hc)).mp (dd_subI.mp (dd_clle hv hs) c hc)
theorem mk_closedX (hc : ∀ i j, j < i → i < n → ∀ c, (dd_cl (dd_v L R B gn (fun d => !B d)) (mk_agr m i j)).getLsbD c = true → m i c = m j c) :
    mk_closed (dd_F L R B gn (fun d => !B d) false) n m := by
  have key : ∀ l r, dd_F L R B gn (fun d => !B d) false l r → ∀ i j, j < i → i < n → (∀ c, l.getLsbD c = true → m i c = m j c) → ∀ c, r.getLsbD c = true → m i c = m j c := by
    intro l r hF i j hj hi hl c hr
    refine hc i j hj hi c ((dd_clB (dd_lt hr)).mpr fun T hT hs => ?_)
    have hlT : dd_sub l T := dd_subI.mpr fun d hd => dd_subI.mp hs d ((mk_agB (dd_lt hd)).mpr (hl d hd))
    exact dd_subI.mp ((dd_vI.mp hT).1 l r hF hlT) c hr
  intro l r hF i j hi hj hl c hr
  rcases Nat.lt_trichotomy i j with z | z | z
  · exact (key l r hF j i z hj (fun c hc => (hl c hc).symm) c hr).symm
  · rw [z]
  · exact key l r hF i j z hi hl c hr
end
end
section
/-! where the two reckon the same answer by other words (no printed name is used) -/
theorem dd_tform {a s x u : dd_S} : dd_sub (a &&& s) (x ||| u) ↔ dd_sub ((a &&& s) &&& ~~~x) u := by
  rw [dd_subI, dd_subI]
  constructor
  · intro h i hi
    have h6 := dd_lt hi
    rw [BitVec.getLsbD_and, dd_not h6, Bool.and_eq_true] at hi
    have := h i hi.1
    rw [BitVec.getLsbD_or, Bool.or_eq_true] at this
    rcases this with z | z
    · rw [z] at hi; exact absurd hi.2 (by decide)
    · exact z
  · intro h i hi
    have h6 := dd_lt hi
    rw [BitVec.getLsbD_or, Bool.or_eq_true]
    cases hx : x.getLsbD i with
    | true => exact Or.inl rfl
    | false => exact Or.inr (h i (by rw [BitVec.getLsbD_and, dd_not h6, hi, hx]; rfl))
theorem dd_bform {a s x : dd_S} (h1 : dd_sub x s) (h2 : dd_sub x a) : a &&& s = x ↔ (a &&& s) &&& ~~~x = 0#6 := by
  constructor
  · intro h
    rw [h]
    exact dd_refl x
  · intro h
    refine dd_anti h (dd_subI.mpr fun i hi => ?_)
    rw [BitVec.getLsbD_and, dd_subI.mp h1 i hi, dd_subI.mp h2 i hi]; rfl
/-- the meet of those that q has -/
def dd_mt (q : Nat → Bool) : Nat → dd_S
  | 0 => 63#6
  | n + 1 => if q n = true then dd_mt q n &&& dd_n n else dd_mt q n
theorem dd_mtX {q r : Nat → Bool} {n : Nat} (h : ∀ d, d < n → q d = r d) : dd_mt q n = dd_mt r n := by
  induction n with
  | zero => rfl
  | succ n ih =>
    show (if q n = true then dd_mt q n &&& dd_n n else dd_mt q n) = (if r n = true then dd_mt r n &&& dd_n n else dd_mt r n)
    rw [ih fun d hd => h d (by omega), h n (by omega)]
theorem dd_mt63 {q : Nat → Bool} {n : Nat} (h : ∀ d, d < n → q d = false) : dd_mt q n = 63#6 := by
  induction n with
  | zero => rfl
  | succ n ih =>
    show (if q n = true then dd_mt q n &&& dd_n n else dd_mt q n) = _
    rw [h n (by omega), if_neg (by decide), ih fun d hd => h d (by omega)]
theorem dd_clmt (p : Nat → Bool) (x : dd_S) (n : Nat) : dd_clN p x n = dd_mt (fun t => p t && dd_sB x (dd_n t)) n := by
  induction n with
  | zero => rfl
  | succ n ih =>
    show (if p n = true ∧ dd_sub x (dd_n n) then dd_clN p x n &&& dd_n n else dd_clN p x n) = (if (p n && dd_sB x (dd_n n)) = true then dd_mt _ n &&& dd_n n else dd_mt _ n)
    rw [ih]
    by_cases h : p n = true ∧ dd_sub x (dd_n n)
    · rw [if_pos h, if_pos (by rw [h.1, dd_sBt h.2]; rfl)]
    · rw [if_neg h, if_neg (fun z => h (by rw [Bool.and_eq_true, decide_eq_true_eq] at z; exact z))]
/-- a corner: the larger ones by number, or the others -/
def dd_lg (q : Nat → Bool) (t y : Nat) : Bool := q y && dd_sB (dd_n t) (dd_n y)
theorem dd_corner {q : Nat → Bool} {t : Nat} (ht : t < 64) : dd_mt (fun y => decide (t < y) && dd_lg q t y) 64 = dd_mt (fun y => decide (y ≠ t) && dd_lg q t y) 64 := by
  refine dd_mtX fun y hy => ?_
  unfold dd_lg
  by_cases e : y = t
  · subst e; simp
  · by_cases hs : dd_sub (dd_n t) (dd_n y)
    · have := dd_slt hs (fun z => e (by have := congrArg BitVec.toNat z; rw [dd_nt ht, dd_nt hy] at this; exact this.symm))
      rw [dd_nt ht, dd_nt hy] at this
      rw [decide_eq_true this, decide_eq_true e]
    · rw [dd_sBf hs]; simp
/-- what less than x reaches -/
def dd_fl (cl : dd_S → dd_S) (x : dd_S) : Nat → dd_S
  | 0 => 0#6
  | c + 1 => if x.getLsbD c = true then dd_fl cl x c ||| cl (x &&& ~~~dd_e c) else dd_fl cl x c
theorem dd_flB {cl : dd_S → dd_S} {x : dd_S} {n i : Nat} : (dd_fl cl x n).getLsbD i = !dd_al (fun k => !(x.getLsbD k && (cl (x &&& ~~~dd_e k)).getLsbD i)) n := by
  induction n with
  | zero => show (0#6).getLsbD i = !true; simp
  | succ n ih =>
    show (if x.getLsbD n = true then dd_fl cl x n ||| cl (x &&& ~~~dd_e n) else dd_fl cl x n).getLsbD i = !(dd_al _ n && !(x.getLsbD n && (cl (x &&& ~~~dd_e n)).getLsbD i))
    by_cases h : x.getLsbD n = true
    · rw [if_pos h, BitVec.getLsbD_or, ih, h]
      simp
    · rw [if_neg h, ih]
      have : x.getLsbD n = false := by cases z : x.getLsbD n <;> simp_all
      rw [this]; simp
/-- what x alone reaches, counted -/
def dd_ds (cl : dd_S → dd_S) (x : dd_S) (c : Nat) : Bool :=
  (!x.getLsbD c && (cl x).getLsbD c) && dd_al (fun k => !(x.getLsbD k && (cl (x &&& ~~~dd_e k)).getLsbD c)) 6
theorem dd_dsc (cl : dd_S → dd_S) (x : dd_S) : dd_cn (fun t => ((cl x &&& ~~~x) &&& ~~~dd_fl cl x 6).getLsbD t) 64 = dd_cn (dd_ds cl x) 6 := by
  rw [dd_cnz (m := 6) (by decide) fun d hd _ => BitVec.getLsbD_of_ge _ _ hd]
  refine dd_cnX fun c hc => ?_
  rw [BitVec.getLsbD_and, BitVec.getLsbD_and, dd_not hc, dd_not hc, dd_flB]
  unfold dd_ds
  rw [Bool.not_not, Bool.and_comm ((cl x).getLsbD c)]
/-- how many of the given ones are needed: 11 where no choice does -/
def dd_nd (ok : Nat → Bool) : Nat → Nat
  | 0 => 11
  | c + 1 => if dd_cn (fun t => c.testBit t) 10 < dd_nd ok c ∧ ok c = true then dd_cn (fun t => c.testBit t) 10 else dd_nd ok c
theorem dd_ndle (ok : Nat → Bool) (n : Nat) : dd_nd ok n ≤ 11 := by
  induction n with
  | zero => exact Nat.le_refl _
  | succ n ih =>
    show (if dd_cn (fun t => n.testBit t) 10 < dd_nd ok n ∧ ok n = true then dd_cn (fun t => n.testBit t) 10 else dd_nd ok n) ≤ 11
    split <;> omega
theorem dd_bits {c : Nat} (hc : c < 1024) : dd_cn (fun t => c.testBit t) 64 = dd_cn (fun t => c.testBit t) 10 :=
  dd_cnz (by decide) fun d hd _ => Nat.testBit_lt_two_pow (Nat.lt_of_lt_of_le hc (Nat.pow_le_pow_right (n := 2) (by decide) hd : 2 ^ 10 ≤ 2 ^ d))
end
section
/-! one dependency used on the two rows: what its two loops keep -/
def dd_P (f : Int64) (a : dd_S) : Prop := dd_m f a.toNat = true
def dd_pr (R s : Nat) (a b : dd_S) : Prop := a.toNat < R ∨ (a.toNat = R ∧ b.toNat < s)
theorem dd_pr1 {R s : Nat} {a b : dd_S} (h : dd_pr R (s + 1) a b) : dd_pr R s a b ∨ (a = dd_n R ∧ b = dd_n s) := by
  rcases h with h | ⟨h1, h2⟩
  · exact Or.inl (Or.inl h)
  · rcases Nat.lt_or_ge b.toNat s with z | z
    · exact Or.inl (Or.inr ⟨h1, z⟩)
    · exact Or.inr ⟨by rw [← h1, dd_nn], by rw [show s = b.toNat by omega, dd_nn]⟩
theorem dd_pr2 {R : Nat} {a b : dd_S} (h : dd_pr (R + 1) 0 a b) : dd_pr R 64 a b := by
  rcases h with h | ⟨h1, h2⟩
  · rcases Nat.lt_or_ge a.toNat R with z | z
    · exact Or.inl z
    · exact Or.inr ⟨by omega, dd_nlt b⟩
  · exact absurd h2 (Nat.not_lt_zero _)
def dd_U (F M : dd_S → dd_S → Prop) (x S l r : dd_S) (bd : Bool) (bf : Int64) (pr : dd_S → dd_S → Prop) (md : Int64) (eq : dd_S) : Prop :=
  dd_I F M x S (dd_P md) ∧ (∀ t, t < 64 → dd_m bf t = true → dd_m md t = true) ∧ dd_sub S eq ∧ (∀ T, dd_V F M T → dd_sub x T → dd_sub eq T)
  ∧ (bd = true → eq = S) ∧ (bd = false → md = bf)
  ∧ (∀ a b, pr a b → dd_P bf a → dd_P bf b → (a ^^^ b) &&& l = 0#6 → (bd = true → md = bf → dd_P bf (dd_mix (l ||| r) a b)) ∧ (bd = false → dd_sub ((a ^^^ b) &&& r) eq))
section
variable {F M : dd_S → dd_S → Prop} {x S l r : dd_S} {bd : Bool} {bf md : Int64} {eq : dd_S} {pr pr' : dd_S → dd_S → Prop}
theorem dd_Ustart (I : dd_I F M x S (dd_P bf)) : dd_U F M x S l r bd bf (dd_pr 0 0) bf S :=
  ⟨I, fun _ _ h => h, dd_refl S, I.2.1, fun _ => rfl, fun _ => rfl, fun a b h => by
    rcases h with h | h
    · exact absurd h (Nat.not_lt_zero _)
    · exact absurd h.2 (Nat.not_lt_zero _)⟩
theorem dd_Uskip (U : dd_U F M x S l r bd bf pr md eq) (h : ∀ a b, pr' a b → pr a b ∨ ¬ (dd_P bf a ∧ dd_P bf b ∧ (a ^^^ b) &&& l = 0#6)) : dd_U F M x S l r bd bf pr' md eq := by
  obtain ⟨u1, u2, u3, u4, u5, u6, u7⟩ := U
  refine ⟨u1, u2, u3, u4, u5, u6, fun a b hp ha hb e => ?_⟩
  rcases h a b hp with z | z
  · exact u7 a b z ha hb e
  · exact absurd ⟨ha, hb, e⟩ z
theorem dd_UM (U : dd_U F M x S l r true bf pr md eq) (hM : M l r) {a b : dd_S} (ha : dd_P md a) (hb : dd_P md b) (e : (a ^^^ b) &&& l = 0#6)
    (h : ∀ a' b', pr' a' b' → pr a' b' ∨ (a' = a ∧ b' = b)) {md' : Int64} (hmd : ∀ t, t < 64 → dd_m md' t = (dd_m md t || decide ((dd_mix (l ||| r) a b).toNat = t))) :
    dd_U F M x S l r true bf pr' md' eq := by
  obtain ⟨u1, u2, u3, u4, u5, u6, u7⟩ := U
  have hP : ∀ t, dd_P md' t ↔ dd_P md t ∨ dd_mix (l ||| r) a b = t := fun t => by
    unfold dd_P
    rw [hmd _ (dd_nlt t), Bool.or_eq_true, decide_eq_true_eq]
    exact ⟨fun h => h.imp id fun z => BitVec.eq_of_toNat_eq z, fun h => h.imp id fun z => by rw [z]⟩
  have grow : ∀ t, t < 64 → dd_m md t = true → dd_m md' t = true := fun t ht h => by rw [hmd t ht, h]; rfl
  refine ⟨dd_Icong hP (dd_IM u1 hM ha hb e), fun t ht h => grow t ht (u2 t ht h), u3, u4, u5, fun z => absurd z (by decide), fun a' b' hp ha' hb' e' => ⟨fun _ hm => ?_, fun z => absurd z (by decide)⟩⟩
  have hmb : md = bf := dd_mext fun t ht => by
    have g1 := u2 t ht
    have g2 := grow t ht
    rw [hm] at g2
    exact Bool.eq_iff_iff.mpr ⟨g2, g1⟩
  rcases h a' b' hp with z | ⟨z1, z2⟩
  · exact (u7 a' b' z ha' hb' e').1 rfl hmb
  · have := (hP (dd_mix (l ||| r) a b)).mpr (Or.inr rfl)
    rw [hm] at this
    rw [z1, z2]; exact this
theorem dd_UF (U : dd_U F M x S l r false bf pr md eq) (hF : F l r) {a b : dd_S} (ha : dd_P md a) (hb : dd_P md b) (e : (a ^^^ b) &&& l = 0#6)
    (h : ∀ a' b', pr' a' b' → pr a' b' ∨ (a' = a ∧ b' = b)) : dd_U F M x S l r false bf pr' md (eq ||| ((a ^^^ b) &&& r)) := by
  obtain ⟨u1, u2, u3, u4, u5, u6, u7⟩ := U
  refine ⟨u1, u2, dd_trans u3 (dd_orl _ _), fun T hT hx => dd_orle (u4 T hT hx) (dd_IF u1 hF ha hb e T hT hx), fun z => absurd z (by decide), u6, fun a' b' hp ha' hb' e' => ⟨fun z => absurd z (by decide), fun _ => ?_⟩⟩
  rcases h a' b' hp with z | ⟨z1, z2⟩
  · exact dd_trans ((u7 a' b' z ha' hb' e').2 rfl) (dd_orl _ _)
  · rw [z1, z2]; exact dd_orr _ _
/-- the dependency has nothing more to do on these rows -/
def dd_cK (S l r : dd_S) (bd : Bool) (md : Int64) : Prop :=
  (bd = true → ∀ a b, dd_P md a → dd_P md b → (a ^^^ b) &&& l = 0#6 → dd_P md (dd_mix (l ||| r) a b)) ∧
  (bd = false → ∀ a b, dd_P md a → dd_P md b → (a ^^^ b) &&& l = 0#6 → (a ^^^ b) &&& r = 0#6)
theorem dd_Uend (U : dd_U F M x S l r bd bf (dd_pr 64 0) md eq) (he : eq = S) (hm : md = bf) : dd_cK S l r bd bf := by
  obtain ⟨u1, u2, u3, u4, u5, u6, u7⟩ := U
  subst hm
  refine ⟨fun hb a b h1 h2 e => ((u7 a b (Or.inl (dd_nlt a)) h1 h2 e).1 hb rfl), fun hb a b h1 h2 e => ?_⟩
  have := (u7 a b (Or.inl (dd_nlt a)) h1 h2 e).2 hb
  rw [he] at this
  refine dd_zI.mpr fun i hx hr => ?_
  have hS := dd_subI.mp this i (by rw [BitVec.getLsbD_and, hx, hr]; rfl)
  have za := dd_zI.mp (u1.2.2.2.2.2 a h1) i
  have zb := dd_zI.mp (u1.2.2.2.2.2 b h2) i
  rw [BitVec.getLsbD_xor] at hx
  cases ga : a.getLsbD i <;> cases gb : b.getLsbD i <;> simp_all
end
/-- rows and columns left: falls with every use that changes anything -/
def dd_mu (S : dd_S) (md : Int64) : Nat := (64 - S.toNat) * 18446744073709551616 + (18446744073709551616 - md.toBitVec.toNat)
theorem dd_mu1 {S S' : dd_S} {md md' : Int64} (h : S.toNat < S'.toNat) : dd_mu S' md' < dd_mu S md := by
  unfold dd_mu
  have h1 := dd_nlt S
  have h2 := dd_nlt S'
  have h3 : md.toBitVec.toNat < 18446744073709551616 := md.toBitVec.isLt
  have h4 : md'.toBitVec.toNat < 18446744073709551616 := md'.toBitVec.isLt
  omega
theorem dd_mu2 {S : dd_S} {md md' : Int64} (h : md.toBitVec.toNat < md'.toBitVec.toNat) : dd_mu S md' < dd_mu S md := by
  unfold dd_mu
  have h4 : md'.toBitVec.toNat < 18446744073709551616 := md'.toBitVec.isLt
  omega
/-! loops whose state is a function of the counter; branches -/
theorem dd_lp {σ : Type} (W : Nat → Nat → σ → Prop) (st : Nat → σ) (J : Nat → Prop) (e i0 : Nat) (hi : i0 ≤ e) (h0 : J i0) (hx : ∀ n, J e → W (n + 1) e (st e))
    (hs : ∀ n i, i0 ≤ i → i < e → J i → (∀ s', s' = st (i + 1) → J (i + 1) → W n (i + 1) s') → W (n + 1) i (st i)) : ∃ n, W n i0 (st i0) :=
  pk_loop W (fun i s => i0 ≤ i ∧ J i ∧ s = st i) e i0 (st i0) hi ⟨Nat.le_refl _, h0, rfl⟩ (fun n s h => by rw [h.2.2]; exact hx n h.2.1)
    (fun n i s hlt h hn => by rw [h.2.2]; exact hs n i h.1 hlt h.2.1 fun s' e' hJ => hn s' ⟨Nat.le_succ_of_le h.1, hJ, e'⟩)
theorem dd_if {c d A B : Prop} (e : c ↔ d) (f : d → A) (g : ¬ d → B) : (c → A) ∧ (¬ c → B) := ⟨fun h => f (e.mp h), fun h => g fun z => h (e.mpr z)⟩
theorem dd_br {v : Bool} {A B : Prop} (f : v = false → A) (g : v = true → B) : (dd_b v = 0 → A) ∧ (¬ dd_b v = 0 → B) :=
  dd_if (dd_b0 v) f (fun h => g (ts_nf h))
theorem dd_br1 {v : Bool} {A B : Prop} (f : v = true → A) (g : v = false → B) : (dd_b v = 1 → A) ∧ (¬ dd_b v = 1 → B) :=
  dd_if (dd_b1I v) f (fun h => g (ts_nt h))
theorem dd_brs {p q : Int32} {A B : Prop} (a b : dd_S) (f : dd_sub a b → A) (g : ¬ dd_sub a b → B) (hp : p = dd_i a := by rfl) (hq : q = dd_i b := by rfl) :
    ((p &&& (q ^^^ (-1))) = 0 → A) ∧ (¬ (p &&& (q ^^^ (-1))) = 0 → B) := by
  subst hp hq
  exact dd_if (dd_sb a b) f g
theorem dd_bre {p q : Int32} {A B : Prop} (a b : dd_S) (f : a = b → A) (g : ¬ a = b → B) (hp : p = dd_i a := by rfl) (hq : q = dd_i b := by rfl) :
    (p = q → A) ∧ (¬ p = q → B) := by
  subst hp hq
  exact dd_if dd_iinj f g
theorem dd_brm {f : Int64} {q : Int32} {A B : Prop} (t : Nat) (ht : t < 64) (g1 : dd_m f t = true → A) (g0 : dd_m f t = false → B) (hq : q = nI t := by rfl) :
    ((((f.toUInt64 >>> (q.toInt64.toUInt64 &&& Int64.toUInt64 63)).toInt64) &&& 1) = 1 → A) ∧ (¬ (((f.toUInt64 >>> (q.toInt64.toUInt64 &&& Int64.toUInt64 63)).toInt64) &&& 1) = 1 → B) := by
  subst hq
  exact dd_if (dd_m1 f ht) g1 (fun h => g0 (ts_nt h))
theorem dd_brb {p q : Int32} {A B : Prop} (x : dd_S) (c : Nat) (hc : c < 32) (g1 : x.getLsbD c = true → A) (g0 : x.getLsbD c = false → B) (hp : p = dd_i x := by rfl) (hq : q = nI c := by rfl) :
    (((p >>> (q &&& 31)) &&& 1) = 1 → A) ∧ (¬ ((p >>> (q &&& 31)) &&& 1) = 1 → B) := by
  subst hp hq
  rw [dd_bit x hc]
  exact dd_br1 g1 g0
/-- a number is no set, or it is one -/
def dd_bad (p : Int32) : Prop := p < 0 ∨ (¬ p < 0 ∧ 63 < p)
theorem dd_sets (p : Int32) : dd_bad p ∨ ∃ x : dd_S, p = dd_i x := by
  rcases pk_ix p (n := 64) (by decide) with h | h | ⟨j, hj, rfl⟩
  · exact Or.inl (Or.inl h)
  · obtain ⟨k, hk, rfl⟩ | h0 : (∃ k, k < 2 ^ 31 ∧ p = nI k) ∨ p < 0 := by
      by_cases h0 : p < 0
      · exact Or.inr h0
      · exact Or.inl (nI_of h0)
    · rw [nI_leI (by decide) hk] at h
      exact Or.inl (Or.inr ⟨nI_pos hk, nI_lt (a := 63) (by omega) hk⟩)
    · exact Or.inl (Or.inl h0)
  · exact Or.inr ⟨dd_n j, dd_ni hj⟩
end
section
/-! the class's methods on sets and families alone -/
theorem x_isSet {post : Int32 → Prop} {p : Int32} (x : dd_S) (h : post 1) (hp : p = dd_i x := by rfl) : wpX_isSet post p := by
  subst hp
  exact br_f (nI_pos (dd_nlt31 x)) (br_f (nI_nlt (a := 63) (b := x.toNat) (by have := dd_nlt x; omega) (by decide)) h)
theorem x_isSetF {post : Int32 → Prop} {p : Int32} (hp : dd_bad p) (h : post 0) : wpX_isSet post p := by
  rcases hp with hp | ⟨h0, hp⟩
  · exact br_t hp h
  · exact br_f h0 (br_t hp h)
theorem x_isWithin {post : Int32 → Prop} {p q : Int32} (a b : dd_S) (h : post (dd_b (dd_sB a b))) (hp : p = dd_i a := by rfl) (hq : q = dd_i b := by rfl) : wpX_isWithin post p q :=
  dd_brs a b (fun z => by rw [dd_sBt z] at h; exact h) (fun z => by rw [dd_sBf z] at h; exact h) hp hq
theorem x_isIn {post : Int32 → Prop} {f : Int64} {q : Int32} (t : Nat) (ht : t < 64) (h : post (dd_b (dd_m f t))) (hq : q = nI t := by rfl) : wpX_isIn post f q := by
  subst hq
  exact dd_if (dd_m0 f ht) (fun z => by rw [z] at h; exact h) (fun z => by rw [ts_nf z] at h; exact h)
theorem x_isInS {post : Int32 → Prop} {f : Int64} {q : Int32} (x : dd_S) (c : Nat) (hc : c < 64) (h : post (dd_b (x.getLsbD c))) (hf : f = (dd_i x).toInt64 := by rfl) (hq : q = nI c := by rfl) : wpX_isIn post f q := by
  subst hf
  exact x_isIn c hc (by rw [dd_mS x hc]; exact h) hq
theorem x_pairKeeps {post : Int32 → Prop} {p0 p1 p2 p3 : Int32} (T x y : dd_S) (b : Bool) (h : post (dd_b (dd_pk T x y b)))
    (h0 : p0 = dd_i T := by rfl) (h1 : p1 = dd_i x := by rfl) (h2 : p2 = dd_i y := by rfl) (h3 : p3 = dd_b b := by rfl) : wpX_pairKeeps post p0 p1 p2 p3 := by
  subst h0 h1 h2 h3
  refine x_isWithin x T (dd_br (fun g1 => ?_) (fun g1 => x_isWithin y T (dd_br (fun g2 => dd_br (fun g3 => ?_) (fun g3 => x_isWithin (~~~(x ||| y)) T (dd_br (fun g4 => ?_) (fun g4 => ?_)) (by rw [dd_or, dd_63n]))) (fun g2 => ?_))))
  · unfold dd_pk at h; rw [g1] at h; exact h
  · unfold dd_pk at h; rw [g1, g2, g3] at h; exact h
  · unfold dd_pk at h; rw [g1, g2, g3, g4] at h; exact h
  · unfold dd_pk at h; rw [g1, g2, g3, g4] at h; exact h
  · unfold dd_pk at h; rw [g1, g2] at h; exact h
theorem x_allKeep {post : Int32 → Prop} {f : Int64} {p1 p2 p3 : Int32} (x y : dd_S) (b : Bool) (h : post (dd_b (dd_aK (dd_m f) x y b)))
    (h1 : p1 = dd_i x := by rfl) (h2 : p2 = dd_i y := by rfl) (h3 : p3 = dd_b b := by rfl) : wpX_allKeep post f p1 p2 p3 := by
  subst h1 h2 h3
  refine dd_lp (σ := Unit) (fun n i _ => wX_allKeep_3 post f (dd_i x) (dd_i y) (dd_b b) n (nI i)) (fun _ => ()) (fun i => dd_al (fun t => !dd_m f t || dd_pk (dd_n t) x y b) i = true) 64 0 (by decide) rfl (fun n hJ => ?_) (fun n i _ hi hJ ih => ?_)
  · unfold dd_aK at h
    rw [hJ] at h
    exact br_t (nI_le (Nat.le_refl 64) (by decide)) h
  · refine br_f (nI_ge hi (by decide)) (x_isIn i hi (dd_br (fun g => nm_r (nI_1 i) (ih () rfl ?_)) (fun g => x_pairKeeps (dd_n i) x y b (dd_br (fun g2 => ?_) (fun g2 => nm_r (nI_1 i) (ih () rfl ?_))) (dd_ni hi))))
    · show (_ && _) = true
      dsimp only
      rw [hJ, g]; rfl
    · have e : dd_aK (dd_m f) x y b = false := dd_alF hi (by rw [g, g2]; rfl)
      rw [e] at h; exact h
    · show (_ && _) = true
      dsimp only
      rw [hJ, g, g2]; rfl
theorem x_closureIn {post : Int32 → Prop} {f : Int64} {p : Int32} (x : dd_S) (h : post (dd_i (dd_cl (dd_m f) x))) (hp : p = dd_i x := by rfl) : wpX_closureIn post f p := by
  subst hp
  refine dd_lp (fun n i s => wX_closureIn_6 post f (dd_i x) n (dd_i s) (nI i)) (dd_clN (dd_m f) x) (fun _ => True) 64 0 (by decide) trivial (fun n _ => ?_) (fun n i _ hi _ ih => ?_)
  · exact br_t (nI_le (Nat.le_refl 64) (by decide)) h
  · refine br_f (nI_ge hi (by decide)) (x_isIn i hi (dd_br (fun g => nm_r (nI_1 i) (ih _ ?_ trivial)) (fun g => x_isWithin x (dd_n i) (dd_br (fun g2 => nm_r (nI_1 i) (ih _ ?_ trivial)) (fun g2 => nm_r (by rw [dd_ni hi, dd_and]) (nm_r (nI_1 i) (ih _ ?_ trivial)))) rfl (dd_ni hi))))
    · exact (if_neg fun z => by rw [g] at z; exact absurd z.1 (by decide)).symm
    · exact (if_neg fun z => of_decide_eq_false g2 z.2).symm
    · exact (if_pos ⟨g, of_decide_eq_true g2⟩).symm
theorem x_sizeOf {post : Int32 → Prop} {f : Int64} (h : post (nI (dd_cn (dd_m f) 64))) : wpX_sizeOf post f := by
  refine dd_lp (fun n i s => wX_sizeOf_4 post f n (nI s) (nI i)) (dd_cn (dd_m f)) (fun _ => True) 64 0 (by decide) trivial (fun n _ => ?_) (fun n i _ hi _ ih => ?_)
  · exact br_t (nI_le (Nat.le_refl 64) (by decide)) h
  · refine br_f (nI_ge hi (by decide)) (x_isIn i hi (dd_br (fun g => nm_r (nI_1 i) (ih _ ?_ trivial)) (fun g => nm_r (nI_1 _) (nm_r (nI_1 i) (ih _ ?_ trivial)))))
    · exact (if_neg fun z => by rw [g] at z; exact absurd z (by decide)).symm
    · exact (if_pos g).symm
theorem x_memberAt {post : Int32 → Prop} {f : Int64} {i : Int32} (h : post (dd_at (dd_m f) i 64 0 0)) : wpX_memberAt post f i := by
  have key : ∀ d t b, d + t = 64 → post (dd_at (dd_m f) i d t b) → wX_memberAt_5 post f i (d + 1) (nI b) (nI t) := by
    intro d
    induction d with
    | zero => exact fun t b e h => br_t (nI_le (a := 64) (by omega) (by omega)) h
    | succ d ih =>
      intro t b e h
      refine br_f (nI_ge (b := 64) (by omega) (by decide)) (x_isIn t (by omega) (dd_br (fun g => nm_r (nI_1 t) (ih (t + 1) b (by omega) ?_)) (fun g => br_c (fun g2 => ?_) (fun g2 => nm_r (nI_1 b) (nm_r (nI_1 t) (ih (t + 1) (b + 1) (by omega) ?_))))))
      · have e2 : dd_at (dd_m f) i (d + 1) t b = dd_at (dd_m f) i d (t + 1) b := if_neg fun z => by rw [g] at z; exact absurd z (by decide)
        rw [e2] at h; exact h
      · have e2 : dd_at (dd_m f) i (d + 1) t b = nI t := (if_pos g).trans (if_pos g2)
        rw [e2] at h; exact h
      · have e2 : dd_at (dd_m f) i (d + 1) t b = dd_at (dd_m f) i d (t + 1) (b + 1) := (if_pos g).trans (if_neg g2)
        rw [e2] at h; exact h
  exact ⟨65, key 64 0 0 rfl h⟩
theorem x_unionOf {post : Int32 → Prop} {f : Int64} (h : post (dd_i (dd_un (dd_m f) 64))) : wpX_unionOf post f := by
  refine dd_lp (fun n i s => wX_unionOf_4 post f n (dd_i s) (nI i)) (dd_un (dd_m f)) (fun _ => True) 64 0 (by decide) trivial (fun n _ => ?_) (fun n i _ hi _ ih => ?_)
  · exact br_t (nI_le (Nat.le_refl 64) (by decide)) h
  · refine br_f (nI_ge hi (by decide)) (x_isIn i hi (dd_br (fun g => nm_r (nI_1 i) (ih _ ?_ trivial)) (fun g => nm_r (by rw [dd_ni hi, dd_or]) (nm_r (nI_1 i) (ih _ ?_ trivial)))))
    · exact (if_neg fun z => by rw [g] at z; exact absurd z (by decide)).symm
    · exact (if_pos g).symm
theorem x_meetOfLarger {post : Int32 → Prop} {f : Int64} {p : Int32} (t : Nat) (ht : t < 64) (h : post (dd_i (dd_mt (fun y => decide (t < y) && dd_lg (dd_m f) t y) 64))) (hp : p = nI t := by rfl) : wpX_meetOfLarger post f p := by
  subst hp
  refine nm_r (nI_1 t) ?_
  have e : dd_mt (fun y => decide (t < y) && dd_lg (dd_m f) t y) (t + 1) = 63#6 := dd_mt63 fun d hd => by rw [decide_eq_false (by omega)]; rfl
  have w := dd_lp (fun n i s => wX_meetOfLarger_8 post f (nI t) n (dd_i s) (nI i)) (dd_mt (fun y => decide (t < y) && dd_lg (dd_m f) t y)) (fun _ => True) 64 (t + 1) (by omega) trivial
    (fun n _ => br_t (nI_le (Nat.le_refl 64) (by decide)) h) (fun n i h1 hi _ ih => ?_)
  · rw [e] at w; exact w
  · refine br_f (nI_ge hi (by decide)) (x_isIn i hi (dd_br (fun g => nm_r (nI_1 i) (ih _ ?_ trivial)) (fun g => x_isWithin (dd_n t) (dd_n i) (dd_br (fun g2 => nm_r (nI_1 i) (ih _ ?_ trivial)) (fun g2 => nm_r (by rw [dd_ni hi, dd_and]) (nm_r (nI_1 i) (ih _ ?_ trivial)))) (dd_ni ht) (dd_ni hi))))
    · exact (if_neg fun z => by unfold dd_lg at z; dsimp only at z; rw [g] at z; simp at z).symm
    · exact (if_neg fun z => by unfold dd_lg at z; dsimp only at z; rw [g2] at z; simp at z).symm
    · exact (if_pos (by unfold dd_lg; dsimp only; rw [g, g2, decide_eq_true (show t < i by omega)]; rfl)).symm
end
section
/-! the class's families: keys, closed sets, stems; what x bundles; what less reaches -/
def dd_fam (i : Nat) (q : Nat → Bool) (g : Int64) : Prop := ∀ t, t < 64 → dd_m g t = (decide (t < i) && q t)
theorem dd_fam0 (q : Nat → Bool) : dd_fam 0 q 0 := fun t _ => by rw [dd_mz]; simp
theorem dd_famN {i : Nat} {q : Nat → Bool} {g : Int64} (h : dd_fam i q g) (hq : q i = false) : dd_fam (i + 1) q g := fun t ht => by
  rw [h t ht]
  by_cases e : t = i
  · subst e; rw [hq]; simp
  · by_cases z : t < i
    · rw [decide_eq_true z, decide_eq_true (show t < i + 1 by omega)]
    · rw [decide_eq_false z, decide_eq_false (show ¬ t < i + 1 by omega)]
theorem dd_famA {i : Nat} {q : Nat → Bool} {g g' : Int64} (h : dd_fam i q g) (hq : q i = true) (hg : ∀ t, t < 64 → dd_m g' t = (dd_m g t || decide (i = t))) : dd_fam (i + 1) q g' := fun t ht => by
  rw [hg t ht, h t ht]
  by_cases e : i = t
  · subst e; rw [hq]; simp
  · rw [decide_eq_false e, Bool.or_false]
    by_cases z : t < i
    · rw [decide_eq_true z, decide_eq_true (show t < i + 1 by omega)]
    · rw [decide_eq_false z, decide_eq_false (show ¬ t < i + 1 by omega)]
theorem dd_famE {q : Nat → Bool} {g : Int64} (h : dd_fam 64 q g) : ∀ t, t < 64 → dd_m g t = q t := fun t ht => by rw [h t ht, decide_eq_true ht, Bool.true_and]
theorem x_isKeyOf {post : Int32 → Prop} {f : Int64} {p q : Int32} (x s : dd_S)
    (h : post (dd_b (dd_sB s (dd_cl (dd_m f) x) && dd_al (fun c => !(x.getLsbD c && dd_sB s (dd_cl (dd_m f) (x &&& ~~~dd_e c)))) 6)))
    (hp : p = dd_i x := by rfl) (hq : q = dd_i s := by rfl) : wpX_isKeyOf post f p q := by
  subst hp hq
  refine x_closureIn x (dd_if (d := dd_sub s (dd_cl (dd_m f) x)) (by rw [dd_and, dd_iinj, dd_ands]) (fun g => ?_) (fun g => ?_))
  · rw [dd_sBt g, Bool.true_and] at h
    refine dd_lp (σ := Unit) (fun n i _ => wX_isKeyOf_16 post f (dd_i x) (dd_i s) n (nI i)) (fun _ => ()) (fun i => dd_al (fun c => !(x.getLsbD c && dd_sB s (dd_cl (dd_m f) (x &&& ~~~dd_e c)))) i = true) 6 0 (by decide) rfl (fun n hJ => ?_) (fun n i _ hi hJ ih => ?_)
    · rw [hJ] at h
      exact br_t (nI_le (Nat.le_refl 6) (by decide)) h
    · refine br_f (nI_ge hi (by decide)) (x_isInS x i (by omega) (dd_br (fun g1 => nm_r (nI_1 i) (ih () rfl ?_)) (fun g1 => x_closureIn (x &&& ~~~dd_e i) (dd_if (d := dd_sub s (dd_cl (dd_m f) (x &&& ~~~dd_e i))) (by rw [dd_and, dd_iinj, dd_ands]) (fun g2 => ?_) (fun g2 => nm_r (nI_1 i) (ih () rfl ?_))) (by rw [dd_1 i hi, dd_andn]))))
      · show (_ && _) = true
        dsimp only
        rw [hJ, g1]; rfl
      · rw [dd_alF (q := fun c => !(x.getLsbD c && dd_sB s (dd_cl (dd_m f) (x &&& ~~~dd_e c)))) hi (by rw [g1, dd_sBt g2]; rfl)] at h
        exact h
      · show (_ && _) = true
        dsimp only
        rw [hJ, g1, dd_sBf g2]; rfl
  · rw [dd_sBf g] at h; exact h
theorem x_keysOf {post : Int64 → Prop} {f : Int64} {p : Int32} (s : dd_S) (h : ∀ g, (∀ t, t < 64 → dd_m g t = dd_key (dd_m f) s (dd_n t)) → post g) (hp : p = dd_i s := by rfl) : wpX_keysOf post f p := by
  subst hp
  refine pk_loop (fun n i g => wX_keysOf_5 post f (dd_i s) n g (nI i)) (fun i g => dd_fam i (fun t => dd_key (dd_m f) s (dd_n t)) g) 64 0 0 (by decide) (dd_fam0 _) (fun n g hI => ?_) (fun n i g hi hI ih => ?_)
  · exact br_t (nI_le (Nat.le_refl 64) (by decide)) (h g (dd_famE hI))
  · refine br_f (nI_ge hi (by decide)) (x_isWithin (dd_n i) s (dd_br (fun g1 => nm_r (nI_1 i) (ih _ (dd_famN hI ?_))) (fun g1 => x_isKeyOf (dd_n i) s (dd_br (fun g2 => nm_r (nI_1 i) (ih _ (dd_famN hI ?_))) (fun g2 => nm_e (nm_r (nI_1 i) (ih _ (dd_famA hI ?_ fun t ht => dd_set g hi t))))) (dd_ni hi))) (dd_ni hi))
    · unfold dd_key; rw [g1]; rfl
    · unfold dd_key; rw [g1, g2]; rfl
    · unfold dd_key; rw [g1, g2]; rfl
theorem x_closedSets {post : Int64 → Prop} {f : Int64} (h : ∀ g, (∀ t, t < 64 → dd_m g t = decide (dd_cl (dd_m f) (dd_n t) = dd_n t)) → post g) : wpX_closedSets post f := by
  refine pk_loop (fun n i g => wX_closedSets_5 post f n g (nI i)) (fun i g => dd_fam i (fun t => decide (dd_cl (dd_m f) (dd_n t) = dd_n t)) g) 64 0 0 (by decide) (dd_fam0 _) (fun n g hI => ?_) (fun n i g hi hI ih => ?_)
  · exact br_t (nI_le (Nat.le_refl 64) (by decide)) (h g (dd_famE hI))
  · exact br_f (nI_ge hi (by decide)) (x_closureIn (dd_n i) (dd_bre (dd_cl (dd_m f) (dd_n i)) (dd_n i) (fun g1 => nm_e (nm_r (nI_1 i) (ih _ (dd_famA hI (decide_eq_true g1) fun t ht => dd_set g hi t)))) (fun g1 => nm_r (nI_1 i) (ih _ (dd_famN hI (decide_eq_false g1)))) rfl (dd_ni hi)) (dd_ni hi))
theorem x_hasClosuresOfStems {post : Int32 → Prop} {f g : Int64} {q : Int32} (p : Nat) (hp : p < 64)
    (h : post (dd_b (dd_al (fun q => !(dd_m g q && dd_sB (dd_n q) (dd_n p)) || dd_sB (dd_cl (dd_m f) (dd_n q)) (dd_n p)) p))) (hq : q = nI p := by rfl) : wpX_hasClosuresOfStems post f g q := by
  subst hq
  refine dd_lp (σ := Unit) (fun n i _ => wX_hasClosuresOfStems_3 post f g (nI p) n (nI i)) (fun _ => ()) (fun i => dd_al (fun q => !(dd_m g q && dd_sB (dd_n q) (dd_n p)) || dd_sB (dd_cl (dd_m f) (dd_n q)) (dd_n p)) i = true) p 0 (Nat.zero_le p) rfl (fun n hJ => ?_) (fun n i _ hi hJ ih => ?_)
  · rw [hJ] at h
    exact br_t (nI_le (Nat.le_refl p) (by omega)) h
  · have hi64 : i < 64 := by omega
    refine br_f (nI_ge hi (by omega)) (x_isIn i hi64 (dd_br (fun g1 => nm_r (nI_1 i) (ih () rfl ?_)) (fun g1 => x_isWithin (dd_n i) (dd_n p) (dd_br (fun g2 => nm_r (nI_1 i) (ih () rfl ?_)) (fun g2 => x_closureIn (dd_n i) (x_isWithin (dd_cl (dd_m f) (dd_n i)) (dd_n p) (dd_br (fun g3 => ?_) (fun g3 => nm_r (nI_1 i) (ih () rfl ?_))) rfl (dd_ni hp)) (dd_ni hi64))) (dd_ni hi64) (dd_ni hp))))
    · show (_ && _) = true
      dsimp only
      rw [hJ, g1]; rfl
    · show (_ && _) = true
      dsimp only
      rw [hJ, g1, g2]; rfl
    · rw [dd_alF (q := fun q => !(dd_m g q && dd_sB (dd_n q) (dd_n p)) || dd_sB (dd_cl (dd_m f) (dd_n q)) (dd_n p)) hi (by rw [g1, g2, g3]; rfl)] at h
      exact h
    · show (_ && _) = true
      dsimp only
      rw [hJ, g1, g2, g3]; rfl
theorem dd_stge (cl : dd_S → dd_S) {i t : Nat} (h : i ≤ t) : dd_st cl i t = false := by
  induction i with
  | zero => rfl
  | succ i ih =>
    show (if t = i then _ else dd_st cl i t) = false
    rw [if_neg (by omega)]; exact ih (by omega)
theorem x_stemSets {post : Int64 → Prop} {f : Int64} (h : ∀ g, (∀ t, t < 64 → dd_m g t = dd_st (dd_cl (dd_m f)) 64 t) → post g) : wpX_stemSets post f := by
  refine pk_loop (fun n i g => wX_stemSets_5 post f n g (nI i)) (fun i g => ∀ t, t < 64 → dd_m g t = dd_st (dd_cl (dd_m f)) i t) 64 0 0 (by decide) (fun t _ => dd_mz t) (fun n g hI => ?_) (fun n i g hi hI ih => ?_)
  · exact br_t (nI_le (Nat.le_refl 64) (by decide)) (h g hI)
  · have val : ∀ t, dd_st (dd_cl (dd_m f)) (i + 1) t = if t = i then (decide (dd_cl (dd_m f) (dd_n i) ≠ dd_n i) && dd_al (fun q => !(dd_m g q && dd_sB (dd_n q) (dd_n i)) || dd_sB (dd_cl (dd_m f) (dd_n q)) (dd_n i)) i) else dd_st (dd_cl (dd_m f)) i t := fun t => by
      show (if t = i then (decide (dd_cl (dd_m f) (dd_n i) ≠ dd_n i) && dd_al (fun q => !(dd_st (dd_cl (dd_m f)) i q && dd_sB (dd_n q) (dd_n i)) || dd_sB (dd_cl (dd_m f) (dd_n q)) (dd_n i)) i) else dd_st (dd_cl (dd_m f)) i t) = _
      rw [dd_alX (n := i) fun d hd => by rw [← hI d (by omega)]]
    have no : (decide (dd_cl (dd_m f) (dd_n i) ≠ dd_n i) && dd_al (fun q => !(dd_m g q && dd_sB (dd_n q) (dd_n i)) || dd_sB (dd_cl (dd_m f) (dd_n q)) (dd_n i)) i) = false → ∀ t, t < 64 → dd_m g t = dd_st (dd_cl (dd_m f)) (i + 1) t := fun z t ht => by
      rw [val t, z, hI t ht]
      split
      · rename_i e; rw [e]; exact dd_stge _ (Nat.le_refl i)
      · rfl
    refine br_f (nI_ge hi (by decide)) (x_closureIn (dd_n i) (dd_bre (dd_cl (dd_m f) (dd_n i)) (dd_n i) (fun g1 => nm_r (nI_1 i) (ih _ (no ?_))) (fun g1 => x_hasClosuresOfStems i hi (dd_br (fun g2 => nm_r (nI_1 i) (ih _ (no ?_))) (fun g2 => nm_e (nm_r (nI_1 i) (ih _ fun t ht => ?_))))) rfl (dd_ni hi)) (dd_ni hi))
    · rw [decide_eq_false (fun z => z g1)]; rfl
    · rw [g2]; exact Bool.and_false _
    · rw [val t, dd_set g hi t, hI t ht]
      by_cases e : t = i
      · rw [if_pos e, decide_eq_true g1, g2, decide_eq_true e.symm]; simp
      · rw [if_neg e, decide_eq_false (fun z => e z.symm), Bool.or_false]
def dd_bm (p : Nat → Bool) (x : dd_S) : Bool := !dd_al (fun y => !(!dd_sB (dd_n y) x && (!decide (x ||| dd_n y = 63#6) && dd_aK p x (dd_n y) true))) 64
theorem x_bundlesMore {post : Int32 → Prop} {f : Int64} {p : Int32} (x : dd_S) (h : post (dd_b (dd_bm (dd_m f) x))) (hp : p = dd_i x := by rfl) : wpX_bundlesMore post f p := by
  subst hp
  unfold dd_bm at h
  refine dd_lp (σ := Unit) (fun n i _ => wX_bundlesMore_2 post f (dd_i x) n (nI i)) (fun _ => ()) (fun i => dd_al (fun y => !(!dd_sB (dd_n y) x && (!decide (x ||| dd_n y = 63#6) && dd_aK (dd_m f) x (dd_n y) true))) i = true) 64 0 (by decide) rfl (fun n hJ => ?_) (fun n i _ hi hJ ih => ?_)
  · rw [hJ] at h
    exact br_t (nI_le (Nat.le_refl 64) (by decide)) h
  · refine br_f (nI_ge hi (by decide)) (x_isWithin (dd_n i) x (dd_br (fun g1 => dd_bre (x ||| dd_n i) 63#6 (fun g2 => nm_r (nI_1 i) (ih () rfl ?_)) (fun g2 => x_allKeep x (dd_n i) true (dd_br (fun g3 => nm_r (nI_1 i) (ih () rfl ?_)) (fun g3 => ?_)) rfl (dd_ni hi)) (by rw [dd_ni hi, dd_or])) (fun g1 => nm_r (nI_1 i) (ih () rfl ?_))) (dd_ni hi))
    · show (_ && _) = true
      dsimp only
      rw [hJ, decide_eq_true g2]; simp
    · show (_ && _) = true
      dsimp only
      rw [hJ, g3]; simp
    · rw [dd_alF (q := fun y => !(!dd_sB (dd_n y) x && (!decide (x ||| dd_n y = 63#6) && dd_aK (dd_m f) x (dd_n y) true))) hi (by rw [g1, decide_eq_false g2, g3]; rfl)] at h
      exact h
    · show (_ && _) = true
      dsimp only
      rw [hJ, g1]; rfl
theorem x_reachedFromLess {post : Int32 → Prop} {f : Int64} {p : Int32} (x : dd_S) (h : post (dd_i (dd_fl (dd_cl (dd_m f)) x 6))) (hp : p = dd_i x := by rfl) : wpX_reachedFromLess post f p := by
  subst hp
  refine dd_lp (fun n i s => wX_reachedFromLess_5 post f (dd_i x) n (dd_i s) (nI i)) (dd_fl (dd_cl (dd_m f)) x) (fun _ => True) 6 0 (by decide) trivial (fun n _ => ?_) (fun n i _ hi _ ih => ?_)
  · exact br_t (nI_le (Nat.le_refl 6) (by decide)) h
  · refine br_f (nI_ge hi (by decide)) (x_isInS x i (by omega) (dd_br (fun g => nm_r (nI_1 i) (ih _ ?_ trivial)) (fun g => x_closureIn (x &&& ~~~dd_e i) (nm_r (dd_or _ _) (nm_r (nI_1 i) (ih _ ?_ trivial))) (by rw [dd_1 i hi, dd_andn]))))
    · exact (if_neg fun z => by rw [g] at z; exact absurd z (by decide)).symm
    · exact (if_pos g).symm
end
section
/-! the class over the given dependencies -/
abbrev xT (L R : Nat → dd_S) (B : Nat → Bool) (n : Nat) (P : Nat → dd_S) (pn : Nat) (ce : Nat → Int32) (rn : Nat) (mk : Nat → Int32) : SX :=
  (nI n, nI pn, nI rn, (fun d => dd_i (L d)), (fun d => dd_i (R d)), (fun d => dd_b (B d)), (fun d => dd_i (P d)), ce, mk)
abbrev dd_V1 (L R : Nat → dd_S) (B : Nat → Bool) (n : Nat) : Nat → Bool := dd_v L R B n (fun d => Nat.testBit 1023 d)
theorem dd_ix {α : Type} (g : Nat → α) {i : Nat} (hi : i < 2 ^ 31) : g (nI i).toNatClampNeg = g i := by rw [nI_clamp hi]
theorem dd_2n : ∀ n, n < 11 → (1 : Int32) <<< (nI n &&& 31) = nI (2 ^ n) := by decide +kernel
theorem dd_2n1 : ∀ n, n < 11 → 2 ^ n < 1025 := by decide
theorem dd_clE {p q : Nat → Bool} (h : ∀ t, t < 64 → p t = q t) : dd_cl p = dd_cl q := funext fun _ => dd_clX h
theorem dd_aKX {p q : Nat → Bool} {x y : dd_S} {b : Bool} (h : ∀ t, t < 64 → p t = q t) : dd_aK p x y b = dd_aK q x y b :=
  dd_alX fun t ht => by rw [h t ht]
theorem dd_keyX {p q : Nat → Bool} {s x : dd_S} (h : ∀ t, t < 64 → p t = q t) : dd_key p s x = dd_key q s x := by
  unfold dd_key; rw [dd_clE h]
section
variable {L R : Nat → dd_S} {B : Nat → Bool} {n : Nat} {P : Nat → dd_S} {pn : Nat} {ce : Nat → Int32} {rn : Nat} {mk : Nat → Int32}
theorem x_pairKeepsChosen {post : Int32 → Prop} {p q : Int32} (hn : n ≤ 10) (T : dd_S) (c : Nat) (hc : c < 2 ^ 31)
    (h : post (dd_b (dd_al (fun d => !c.testBit d || dd_pk T (L d) (R d) (B d)) n))) (hp : p = dd_i T := by rfl) (hq : q = nI c := by rfl) :
    wpX_pairKeepsChosen post (xT L R B n P pn ce rn mk) p q := by
  subst hp hq
  refine dd_lp (σ := Unit) (fun m i _ => wX_pairKeepsChosen_2 post (dd_i T) (nI c) (nI n) (nI pn) (nI rn) (fun d => dd_i (L d)) (fun d => dd_i (R d)) (fun d => dd_b (B d)) (fun d => dd_i (P d)) ce mk m (nI i)) (fun _ => ())
    (fun i => dd_al (fun d => !c.testBit d || dd_pk T (L d) (R d) (B d)) i = true) n 0 (Nat.zero_le n) rfl (fun m hJ => ?_) (fun m i _ hi hJ ih => ?_)
  · rw [hJ] at h
    exact br_t (nI_le (Nat.le_refl n) (by omega)) h
  · have v : vp_in (nI i) 10 := vp_in_nI (by omega) (by decide)
    refine br_f (nI_ge hi (by omega)) (x_isIn i (by omega) (dd_br (fun g => nm_r (nI_1 i) (ih () rfl ?_)) (fun g => ⟨v, v, v, x_pairKeeps T (L i) (R i) (B i) (dd_br (fun g2 => ?_) (fun g2 => nm_r (nI_1 i) (ih () rfl ?_)))
      rfl (dd_ix (fun d => dd_i (L d)) (by omega)) (dd_ix (fun d => dd_i (R d)) (by omega)) (dd_ix (fun d => dd_b (B d)) (by omega))⟩)))
    · rw [dd_mi hc (by omega)] at g
      show (_ && _) = true
      dsimp only
      rw [hJ, g]; rfl
    · rw [dd_mi hc (by omega)] at g
      rw [dd_alF (q := fun d => !c.testBit d || dd_pk T (L d) (R d) (B d)) hi (by rw [g, g2]; rfl)] at h
      exact h
    · show (_ && _) = true
      dsimp only
      rw [hJ, g2, Bool.or_true]; rfl
theorem x_pairsKeeping {post : Int64 → Prop} {q : Int32} (hn : n ≤ 10) (c : Nat) (hc : c < 2 ^ 31)
    (h : ∀ f, (∀ t, t < 64 → dd_m f t = dd_v L R B n (fun d => c.testBit d) t) → post f) (hq : q = nI c := by rfl) :
    wpX_pairsKeeping post (xT L R B n P pn ce rn mk) q := by
  subst hq
  refine pk_loop (fun m i g => wX_pairsKeeping_5 post (nI c) (nI n) (nI pn) (nI rn) (fun d => dd_i (L d)) (fun d => dd_i (R d)) (fun d => dd_b (B d)) (fun d => dd_i (P d)) ce mk m g (nI i)) (fun i g => dd_fam i (dd_v L R B n (fun d => c.testBit d)) g) 64 0 0 (by decide) (dd_fam0 _) (fun m g hI => ?_) (fun m i g hi hI ih => ?_)
  · exact br_t (nI_le (Nat.le_refl 64) (by decide)) (h g (dd_famE hI))
  · exact br_f (nI_ge hi (by decide)) (x_pairKeepsChosen hn (dd_n i) c hc (dd_br (fun g1 => nm_r (nI_1 i) (ih _ (dd_famN hI g1))) (fun g1 => nm_e (nm_r (nI_1 i) (ih _ (dd_famA hI g1 fun t ht => dd_set g hi t))))) (dd_ni hi))
theorem x_pairsAll {post : Int64 → Prop} (hn : n ≤ 10) (h : ∀ f, (∀ t, t < 64 → dd_m f t = dd_V1 L R B n t) → post f) :
    wpX_pairsKeeping post (xT L R B n P pn ce rn mk) 1023 := x_pairsKeeping hn 1023 (by decide) h
theorem x_closure {post : Int32 → Prop} (hn : n ≤ 10) (x : dd_S) (h : post (dd_i (dd_cl (dd_V1 L R B n) x))) : wpX_closure post (xT L R B n P pn ce rn mk) (dd_i x) := by
  unfold wpX_closure
  refine x_isSet x (br_f (by decide) (x_pairsAll hn fun f hf => x_closureIn x ?_))
  rw [dd_clE hf]; exact h
theorem x_follows {post : Int32 → Prop} (hn : n ≤ 10) (x y : dd_S) (h : post (dd_b (dd_sB y (dd_cl (dd_V1 L R B n) x)))) : wpX_follows post (xT L R B n P pn ce rn mk) (dd_i x) (dd_i y) := by
  unfold wpX_follows
  refine x_isSet x (br_f (by decide) (x_isSet y (br_f (by decide) (x_pairsAll hn fun f hf => x_allKeep x y false ⟨dd_bn _, ?_⟩))))
  rw [dd_aKc, dd_clE hf]; exact h
theorem x_bundles {post : Int32 → Prop} (hn : n ≤ 10) (x y : dd_S) (h : post (dd_b (dd_aK (dd_V1 L R B n) x y true))) : wpX_bundles post (xT L R B n P pn ce rn mk) (dd_i x) (dd_i y) := by
  unfold wpX_bundles
  refine x_isSet x (br_f (by decide) (x_isSet y (br_f (by decide) (x_pairsAll hn fun f hf => x_allKeep x y true ⟨dd_bn _, ?_⟩))))
  rw [dd_aKX hf]; exact h
theorem x_keys {post : Int32 → Prop} (hn : n ≤ 10) (h : post (nI (dd_cn (fun t => dd_key (dd_V1 L R B n) 63#6 (dd_n t)) 64))) : wpX_keys post (xT L R B n P pn ce rn mk) := by
  unfold wpX_keys
  refine x_pairsAll hn fun f hf => x_keysOf 63#6 fun g hg => x_sizeOf ?_
  rw [dd_cnX fun t ht => (hg t ht).trans (dd_keyX hf)]; exact h
theorem x_key {post : Int32 → Prop} (hn : n ≤ 10) (i : Int32) (h : post (dd_at (fun t => dd_key (dd_V1 L R B n) 63#6 (dd_n t)) i 64 0 0)) : wpX_key post (xT L R B n P pn ce rn mk) i := by
  unfold wpX_key
  refine x_pairsAll hn fun f hf => x_keysOf 63#6 fun g hg => x_memberAt ?_
  rw [dd_atX i (fun t ht => (hg t ht).trans (dd_keyX hf)) 64 0 0 rfl]; exact h
theorem x_closed {post : Int32 → Prop} (hn : n ≤ 10) (h : post (nI (dd_cn (fun t => decide (dd_cl (dd_V1 L R B n) (dd_n t) = dd_n t)) 64))) : wpX_closed post (xT L R B n P pn ce rn mk) := by
  unfold wpX_closed
  refine x_pairsAll hn fun f hf => x_closedSets fun g hg => x_sizeOf ?_
  rw [dd_cnX fun t ht => (hg t ht).trans (by rw [dd_clE hf])]; exact h
theorem x_stems {post : Int32 → Prop} (hn : n ≤ 10) (h : post (nI (dd_cn (dd_st (dd_cl (dd_V1 L R B n)) 64) 64))) : wpX_stems post (xT L R B n P pn ce rn mk) := by
  unfold wpX_stems
  refine x_pairsAll hn fun f hf => x_stemSets fun g hg => x_sizeOf ?_
  rw [dd_cnX fun t ht => (hg t ht).trans (by rw [dd_clE hf])]; exact h
theorem x_stem {post : Int32 → Prop} (hn : n ≤ 10) (i : Int32) (h : post (dd_at (dd_st (dd_cl (dd_V1 L R B n)) 64) i 64 0 0)) : wpX_stem post (xT L R B n P pn ce rn mk) i := by
  unfold wpX_stem
  refine x_pairsAll hn fun f hf => x_stemSets fun g hg => x_memberAt ?_
  rw [dd_atX i (fun t ht => (hg t ht).trans (by rw [dd_clE hf])) 64 0 0 rfl]; exact h
/-- a corner, as the class asks it -/
def dd_co (cl : dd_S → dd_S) (t : Nat) : Bool := decide (cl (dd_n t) = dd_n t) && !decide (dd_mt (fun y => decide (y ≠ t) && dd_lg (fun y => decide (cl (dd_n y) = dd_n y)) t y) 64 = dd_n t)
theorem x_corners {post : Int32 → Prop} (hn : n ≤ 10) (h : post (nI (dd_cn (dd_co (dd_cl (dd_V1 L R B n))) 63))) : wpX_corners post (xT L R B n P pn ce rn mk) := by
  unfold wpX_corners
  refine x_pairsAll hn fun f hf => x_closedSets fun g hg => ?_
  rw [dd_clE hf] at hg
  have eg : ∀ i, i < 64 → dd_mt (fun y => decide (i < y) && dd_lg (dd_m g) i y) 64 = dd_mt (fun y => decide (y ≠ i) && dd_lg (fun y => decide (dd_cl (dd_V1 L R B n) (dd_n y) = dd_n y)) i y) 64 := fun i hi => by
    rw [dd_corner hi]
    exact dd_mtX fun y hy => by unfold dd_lg; rw [hg y hy]
  refine dd_lp (fun m i s => wX_corners_19 post g (nI n) (nI pn) (nI rn) (fun d => dd_i (L d)) (fun d => dd_i (R d)) (fun d => dd_b (B d)) (fun d => dd_i (P d)) ce mk m (nI s) (nI i)) (dd_cn (dd_co (dd_cl (dd_V1 L R B n)))) (fun _ => True) 63 0 (by decide) trivial (fun m _ => ?_) (fun m i _ hi _ ih => ?_)
  · exact br_t (nI_le (Nat.le_refl 63) (by decide)) h
  · refine br_f (nI_ge hi (by decide)) (x_isIn i (by omega) (dd_br (fun g1 => nm_r (nI_1 i) (ih _ ?_ trivial)) (fun g1 => x_meetOfLarger i (by omega) (dd_bre _ (dd_n i) (fun g2 => nm_r (nI_1 i) (ih _ ?_ trivial)) (fun g2 => nm_r (nI_1 _) (nm_r (nI_1 i) (ih _ ?_ trivial))) rfl (dd_ni (by omega))))))
    · rw [hg i (by omega)] at g1
      exact (if_neg fun z => by unfold dd_co at z; rw [g1] at z; simp at z).symm
    · rw [eg i (by omega)] at g2
      exact (if_neg fun z => by unfold dd_co at z; rw [decide_eq_true g2] at z; simp at z).symm
    · rw [hg i (by omega)] at g1
      rw [eg i (by omega)] at g2
      exact (if_pos (by unfold dd_co; rw [g1, decide_eq_false g2]; rfl)).symm
/-- third form, asked at one left side -/
def dd_t3 (p : Nat → Bool) (s : dd_S) (x : Nat) : Bool := !(dd_sB (dd_n x) s && (!dd_sB s (dd_cl p (dd_n x)) && !dd_sB ((dd_cl p (dd_n x) &&& s) &&& ~~~dd_n x) (dd_un (fun t => dd_key p s (dd_n t)) 64)))
theorem x_third {post : Int32 → Prop} (hn : n ≤ 10) (s : dd_S) (h : post (dd_b (dd_al (dd_t3 (dd_V1 L R B n) s) 64))) : wpX_third post (xT L R B n P pn ce rn mk) (dd_i s) := by
  unfold wpX_third
  refine x_isSet s (br_f (by decide) (x_pairsAll hn fun f hf => x_keysOf s fun g hg => x_unionOf ?_))
  rw [dd_unX fun t ht => (hg t ht).trans (dd_keyX hf)]
  refine dd_lp (σ := Unit) (fun m i _ => wX_third_34 post (dd_i s) f (dd_i (dd_un (fun t => dd_key (dd_V1 L R B n) s (dd_n t)) 64)) (nI n) (nI pn) (nI rn) (fun d => dd_i (L d)) (fun d => dd_i (R d)) (fun d => dd_b (B d)) (fun d => dd_i (P d)) ce mk m (nI i)) (fun _ => ()) (fun i => dd_al (dd_t3 (dd_V1 L R B n) s) i = true) 64 0 (by decide) rfl (fun m hJ => ?_) (fun m i _ hi hJ ih => ?_)
  · rw [hJ] at h
    exact br_t (nI_le (Nat.le_refl 64) (by decide)) h
  · refine br_f (nI_ge hi (by decide)) (x_isWithin (dd_n i) s (dd_br (fun g1 => nm_r (nI_1 i) (ih () rfl ?_)) (fun g1 => x_closureIn (dd_n i) (nm_r (dd_and _ _) (dd_bre _ s (fun g2 => nm_r (nI_1 i) (ih () rfl ?_)) (fun g2 => x_isWithin _ (dd_n i ||| dd_un (fun t => dd_key (dd_V1 L R B n) s (dd_n t)) 64) (dd_br (fun g3 => ?_) (fun g3 => nm_r (nI_1 i) (ih () rfl ?_))) rfl (by rw [dd_ni hi, dd_or])))) (dd_ni hi))) (dd_ni hi))
    · show (_ && _) = true
      rw [hJ]; unfold dd_t3; rw [g1]; rfl
    · rw [dd_clE hf, dd_ands] at g2
      show (_ && _) = true
      rw [hJ]; unfold dd_t3; rw [dd_sBt g2]; simp
    · rw [dd_clE hf, dd_ands] at g2
      rw [dd_clE hf] at g3
      have g3' := fun z => of_decide_eq_false g3 (dd_tform.mpr z)
      rw [dd_alF hi (by unfold dd_t3; rw [g1, dd_sBf g2, dd_sBf g3']; rfl)] at h
      exact h
    · rw [dd_clE hf] at g3
      show (_ && _) = true
      rw [hJ]; unfold dd_t3; rw [dd_sBt (dd_tform.mp (of_decide_eq_true g3))]; simp
def dd_bc (p : Nat → Bool) (s : dd_S) (x : Nat) : Bool := !(dd_sB (dd_n x) s && (!decide ((dd_cl p (dd_n x) &&& s) &&& ~~~dd_n x = 0#6) && !dd_sB s (dd_cl p (dd_n x))))
theorem x_boyce {post : Int32 → Prop} (hn : n ≤ 10) (s : dd_S) (h : post (dd_b (dd_al (dd_bc (dd_V1 L R B n) s) 64))) : wpX_boyce post (xT L R B n P pn ce rn mk) (dd_i s) := by
  unfold wpX_boyce
  refine x_isSet s (br_f (by decide) (x_pairsAll hn fun f hf => ?_))
  refine dd_lp (σ := Unit) (fun m i _ => wX_boyce_20 post (dd_i s) f (nI n) (nI pn) (nI rn) (fun d => dd_i (L d)) (fun d => dd_i (R d)) (fun d => dd_b (B d)) (fun d => dd_i (P d)) ce mk m (nI i)) (fun _ => ()) (fun i => dd_al (dd_bc (dd_V1 L R B n) s) i = true) 64 0 (by decide) rfl (fun m hJ => ?_) (fun m i _ hi hJ ih => ?_)
  · rw [hJ] at h
    exact br_t (nI_le (Nat.le_refl 64) (by decide)) h
  · refine br_f (nI_ge hi (by decide)) (x_isWithin (dd_n i) s (dd_br (fun g1 => nm_r (nI_1 i) (ih () rfl ?_)) (fun g1 => x_closureIn (dd_n i) (nm_r (dd_and _ _) (dd_bre _ s (fun g2 => nm_r (nI_1 i) (ih () rfl ?_)) (fun g2 => dd_bre _ (dd_n i) (fun g3 => nm_r (nI_1 i) (ih () rfl ?_)) (fun g3 => ?_) rfl (dd_ni hi)))) (dd_ni hi))) (dd_ni hi))
    · show (_ && _) = true
      rw [hJ]; unfold dd_bc; rw [g1]; rfl
    · rw [dd_clE hf, dd_ands] at g2
      show (_ && _) = true
      rw [hJ]; unfold dd_bc; rw [dd_sBt g2]; simp
    · rw [dd_clE hf, dd_bform (of_decide_eq_true g1) (dd_clx _ _)] at g3
      show (_ && _) = true
      rw [hJ]; unfold dd_bc; rw [decide_eq_true g3]; simp
    · rw [dd_clE hf, dd_ands] at g2
      rw [dd_clE hf, dd_bform (of_decide_eq_true g1) (dd_clx _ _)] at g3
      rw [dd_alF hi (by unfold dd_bc; rw [g1, decide_eq_false g3, dd_sBf g2]; rfl)] at h
      exact h
def dd_f4 (p : Nat → Bool) (x : Nat) : Bool := !(!decide (dd_cl p (dd_n x) = 63#6) && dd_bm p (dd_n x))
theorem dd_bmX {p q : Nat → Bool} {x : dd_S} (h : ∀ t, t < 64 → p t = q t) : dd_bm p x = dd_bm q x := by
  unfold dd_bm
  rw [dd_alX (n := 64) fun d hd => by rw [dd_aKX h]]
theorem x_fourth {post : Int32 → Prop} (hn : n ≤ 10) (h : post (dd_b (dd_al (dd_f4 (dd_V1 L R B n)) 64))) : wpX_fourth post (xT L R B n P pn ce rn mk) := by
  unfold wpX_fourth
  refine x_pairsAll hn fun f hf => ?_
  refine dd_lp (σ := Unit) (fun m i _ => wX_fourth_10 post f (nI n) (nI pn) (nI rn) (fun d => dd_i (L d)) (fun d => dd_i (R d)) (fun d => dd_b (B d)) (fun d => dd_i (P d)) ce mk m (nI i)) (fun _ => ()) (fun i => dd_al (dd_f4 (dd_V1 L R B n)) i = true) 64 0 (by decide) rfl (fun m hJ => ?_) (fun m i _ hi hJ ih => ?_)
  · rw [hJ] at h
    exact br_t (nI_le (Nat.le_refl 64) (by decide)) h
  · refine br_f (nI_ge hi (by decide)) (x_closureIn (dd_n i) (dd_bre _ 63#6 (fun g1 => nm_r (nI_1 i) (ih () rfl ?_)) (fun g1 => x_bundlesMore (dd_n i) (dd_br (fun g2 => nm_r (nI_1 i) (ih () rfl ?_)) (fun g2 => ?_)) (dd_ni hi))) (dd_ni hi))
    · rw [dd_clE hf] at g1
      show (_ && _) = true
      rw [hJ]; unfold dd_f4; rw [decide_eq_true g1]; rfl
    · rw [dd_bmX hf] at g2
      show (_ && _) = true
      rw [hJ]; unfold dd_f4; rw [g2]; simp
    · rw [dd_clE hf] at g1
      rw [dd_bmX hf] at g2
      rw [dd_alF hi (by unfold dd_f4; rw [decide_eq_false g1, g2]; rfl)] at h
      exact h
/-- needs: the choices one after another -/
def dd_ok (L R : Nat → dd_S) (B : Nat → Bool) (n : Nat) (x y : dd_S) (c : Nat) : Bool := dd_sB y (dd_cl (dd_v L R B n (fun d => c.testBit d)) x)
def dd_lst (k : Nat) : Int32 := if k = 11 then -3 else nI k
theorem dd_lst0 : ∀ k, k < 11 → ¬ dd_lst k = -3 := by decide +kernel
theorem x_needs {post : Int32 → Prop} (hn : n ≤ 10) (x y : dd_S) (h : post (dd_lst (dd_nd (dd_ok L R B n x y) (2 ^ n)))) : wpX_needs post (xT L R B n P pn ce rn mk) (dd_i x) (dd_i y) := by
  unfold wpX_needs
  refine x_isSet x (br_f (by decide) (x_isSet y (br_f (by decide) ?_)))
  refine dd_lp (fun m i s => wX_needs_22 post (dd_i x) (dd_i y) (nI n) (nI pn) (nI rn) (fun d => dd_i (L d)) (fun d => dd_i (R d)) (fun d => dd_b (B d)) (fun d => dd_i (P d)) ce mk m (dd_lst s) (nI i)) (dd_nd (dd_ok L R B n x y)) (fun _ => True) (2 ^ n) 0 (Nat.zero_le _) trivial (fun m _ => ?_) (fun m i _ hi _ ih => ?_)
  · exact pk_le (2 ^ n) (2 ^ n) (fun _ => h) (fun z => absurd z (Nat.lt_irrefl _)) (dd_2n n (by omega)) rfl (by have := dd_2n1 n (by omega); omega) (by have := dd_2n1 n (by omega); omega)
  · have h2 := dd_2n1 n (by omega)
    have hi2 : i < 1024 := by omega
    have es : dd_cn (dd_m (nI i).toInt64) 64 = dd_cn (fun t => i.testBit t) 10 := by
      rw [dd_cnX fun t ht => dd_mi (by omega) ht]; exact dd_bits hi2
    have le10 := dd_cnle (fun t => i.testBit t) 10
    have le11 := dd_ndle (dd_ok L R B n x y) i
    have go : dd_cn (fun t => i.testBit t) 10 < dd_nd (dd_ok L R B n x y) i → wX_needs_53 post (wX_needs_22 post (dd_i x) (dd_i y) (nI n) (nI pn) (nI rn) (fun d => dd_i (L d)) (fun d => dd_i (R d)) (fun d => dd_b (B d)) (fun d => dd_i (P d)) ce mk m) (dd_i x) (dd_i y) (dd_lst (dd_nd (dd_ok L R B n x y) i)) (nI i) (nI (dd_cn (fun t => i.testBit t) 10)) (nI n) (nI pn) (nI rn) (fun d => dd_i (L d)) (fun d => dd_i (R d)) (fun d => dd_b (B d)) (fun d => dd_i (P d)) ce mk := by
      intro hlt
      refine x_pairsKeeping hn i (by omega) fun f hf => x_allKeep x y false (dd_br (fun g => nm_r (nI_1 i) (ih _ ?_ trivial)) (fun g => nm_r (nI_1 i) ?_))
      · rw [dd_aKc, dd_clE hf] at g
        exact (if_neg fun z => by have z2 := z.2; unfold dd_ok at z2; rw [g] at z2; exact absurd z2 (by decide)).symm
      · rw [dd_aKc, dd_clE hf] at g
        have w := ih (dd_cn (fun t => i.testBit t) 10) (if_pos ⟨hlt, g⟩).symm trivial
        have e : dd_lst (dd_cn (fun t => i.testBit t) 10) = nI (dd_cn (fun t => i.testBit t) 10) := if_neg (by omega)
        rw [e] at w; exact w
    refine pk_le (2 ^ n) i (fun z => absurd hi (by omega)) (fun _ => x_sizeOf ?_) (dd_2n n (by omega)) rfl (by omega) (by omega)
    rw [es]
    by_cases h11 : dd_nd (dd_ok L R B n x y) i = 11
    · exact br_t (by rw [h11]; rfl) (go (by omega))
    · have e : dd_lst (dd_nd (dd_ok L R B n x y) i) = nI (dd_nd (dd_ok L R B n x y) i) := if_neg h11
      refine br_f (dd_lst0 _ (by omega)) (pk_le _ _ (fun z => nm_r (nI_1 i) (ih _ (if_neg fun w => absurd w.1 (by omega)).symm trivial)) (fun z => go z) e rfl (by omega) (by omega))
end
end
section
/-! the reference's chase -/
abbrev yT (L R : Nat → dd_S) (B : Nat → Bool) (n : Nat) (P : Nat → dd_S) (pn : Nat) (ce : Nat → Int32) (rn : Nat) (sm : Int32) (md : Int64) (kn cs : Nat → Int32) (tb : Nat → Int64) (st sy : Nat → Int32) : SY :=
  (nI n, nI pn, nI rn, sm, md, (fun d => dd_i (L d)), (fun d => dd_i (R d)), (fun d => dd_b (B d)), (fun d => dd_i (P d)), ce, kn, cs, tb, st, sy)
section
variable {L R : Nat → dd_S} {B : Nat → Bool} {n : Nat} {P : Nat → dd_S} {pn : Nat} {ce : Nat → Int32} {rn : Nat} {sm : Int32} {md : Int64} {kn cs : Nat → Int32} {tb : Nat → Int64} {st sy : Nat → Int32}
theorem y_isSet {post : Int32 → Prop} {p : Int32} (x : dd_S) (h : post 1) (hp : p = dd_i x := by rfl) : wpY_isSet post (yT L R B n P pn ce rn sm md kn cs tb st sy) p := by
  subst hp
  exact br_f (nI_pos (dd_nlt31 x)) (br_f (nI_nlt (a := 63) (b := x.toNat) (by have := dd_nlt x; omega) (by decide)) h)
theorem y_isSetF {post : Int32 → Prop} {p : Int32} (hp : dd_bad p) (h : post 0) : wpY_isSet post (yT L R B n P pn ce rn sm md kn cs tb st sy) p := by
  rcases hp with hp | ⟨h0, hp⟩
  · exact br_t hp h
  · exact br_f h0 (br_t hp h)
theorem y_has {post : Int32 → Prop} {q : Int32} (t : Nat) (ht : t < 64) (h : post (dd_b (dd_m md t))) (hq : q = nI t := by rfl) : wpY_has post (yT L R B n P pn ce rn sm md kn cs tb st sy) q :=
  dd_brm t ht (fun z => by rw [z] at h; exact h) (fun z => by rw [z] at h; exact h) hq
theorem y_equate {post : SY → Prop} (S c : dd_S)
    (h : ∀ md', (∀ r, dd_P md' r ↔ ∃ s, dd_P md s ∧ s &&& ~~~(S ||| c) = r) → post (yT L R B n P pn ce rn (dd_i (S ||| c)) md' kn cs tb st sy)) :
    wpY_equate post (yT L R B n P pn ce rn (dd_i S) md kn cs tb st sy) (dd_i c) := by
  refine nm_r (dd_or S c) ?_
  refine pk_loop (fun m i g => wY_equate_23 post md (nI n) (nI pn) (nI rn) (dd_i (S ||| c)) (fun d => dd_i (L d)) (fun d => dd_i (R d)) (fun d => dd_b (B d)) (fun d => dd_i (P d)) ce kn cs tb st sy m (nI i) g)
    (fun i g => ∀ t, t < 64 → (dd_m g t = true ↔ ∃ s, s < i ∧ dd_m md s = true ∧ (dd_n s &&& ~~~(S ||| c)).toNat = t)) 64 0 0 (by decide)
    (fun t _ => by rw [dd_mz]; exact ⟨fun z => absurd z (by decide), fun ⟨s, hs, _⟩ => absurd hs (Nat.not_lt_zero s)⟩) (fun m g hI => ?_) (fun m i g hi hI ih => ?_)
  · refine br_t (nI_le (Nat.le_refl 64) (by decide)) (h g fun r => ?_)
    unfold dd_P
    rw [hI _ (dd_nlt r)]
    constructor
    · rintro ⟨s, hs, h1, h2⟩
      exact ⟨dd_n s, by rw [dd_nt hs]; exact h1, BitVec.eq_of_toNat_eq h2⟩
    · rintro ⟨s, h1, h2⟩
      exact ⟨s.toNat, dd_nlt s, h1, by rw [dd_nn, h2]⟩
  · refine br_f (nI_ge hi (by decide)) (dd_brm i hi (fun g1 => nm_r (by rw [dd_ni hi, dd_andn]) (nm_r (nI_1 i) (ih (g ||| ((1 : Int64) <<< ((dd_i (dd_n i &&& ~~~(S ||| c))).toInt64 &&& 63))) fun t ht => ?_))) (fun g1 => nm_r (nI_1 i) (ih g fun t ht => ?_)))
    · have e := dd_set g (dd_nlt (dd_n i &&& ~~~(S ||| c))) t
      have e2 : dd_m (g ||| ((1 : Int64) <<< ((dd_i (dd_n i &&& ~~~(S ||| c))).toInt64 &&& 63))) t = (dd_m g t || decide ((dd_n i &&& ~~~(S ||| c)).toNat = t)) := e
      rw [e2, Bool.or_eq_true, decide_eq_true_eq, hI t ht]
      constructor
      · rintro (⟨s, h1, h2⟩ | h1)
        · exact ⟨s, by omega, h2⟩
        · exact ⟨i, by omega, g1, h1⟩
      · rintro ⟨s, h1, h2, h3⟩
        rcases Nat.lt_or_ge s i with z | z
        · exact Or.inl ⟨s, z, h2, h3⟩
        · rw [show s = i by omega] at h3
          exact Or.inr h3
    · rw [hI t ht]
      constructor
      · rintro ⟨s, h1, h2⟩
        exact ⟨s, by omega, h2⟩
      · rintro ⟨s, h1, h2, h3⟩
        rcases Nat.lt_or_ge s i with z | z
        · exact ⟨s, z, h2, h3⟩
        · rw [show s = i by omega, g1] at h2
          exact absurd h2 (by decide)
variable {F M : dd_S → dd_S → Prop} {x S l r : dd_S} {bd : Bool} {bf : Int64}
theorem y_use39 {post : Int32 → SY → Prop} {J : Int32 → Int32 → Int64 → Prop} {k Rr : Nat} (hk : k < 10) (hR : Rr < 64) (hb : B k = bd) (hF : bd = false → F l r) (hM : bd = true → M l r) (eq : dd_S) (md : Int64)
    (hJ : ∀ eq md, dd_U F M x S l r bd bf (dd_pr (Rr + 1) 0) md eq → J (dd_i eq) (nI (Rr + 1)) md) (U : dd_U F M x S l r bd bf (dd_pr Rr 0) md eq) :
    ∃ m, wY_use_39 post J (nI k) (dd_i l) (dd_i r) bf (nI Rr) (nI n) (nI pn) (nI rn) (dd_i S) (fun d => dd_i (L d)) (fun d => dd_i (R d)) (fun d => dd_b (B d)) (fun d => dd_i (P d)) ce kn cs tb st sy m (dd_i eq) 0 md := by
  refine pk_loop (σ := dd_S × Int64) (fun m i z => wY_use_39 post J (nI k) (dd_i l) (dd_i r) bf (nI Rr) (nI n) (nI pn) (nI rn) (dd_i S) (fun d => dd_i (L d)) (fun d => dd_i (R d)) (fun d => dd_b (B d)) (fun d => dd_i (P d)) ce kn cs tb st sy m (dd_i z.1) (nI i) z.2)
    (fun i z => dd_U F M x S l r bd bf (dd_pr Rr i) z.2 z.1) 64 0 (eq, md) (by decide) U (fun m z hU => ?_) (fun m i z hi hU ih => ?_)
  · exact br_t (nI_le (Nat.le_refl 64) (by decide)) (nm_r (nI_1 Rr) (hJ z.1 z.2 (dd_Uskip hU fun a b hp => Or.inl (dd_pr2 hp))))
  · obtain ⟨eq, md⟩ := z
    have hU' : dd_U F M x S l r bd bf (dd_pr Rr i) md eq := hU
    have v : vp_in (nI k) 10 := vp_in_nI hk (by decide)
    have eB : (fun d => dd_b (B d)) (nI k).toNatClampNeg = dd_b bd := (dd_ix (fun d => dd_b (B d)) (i := k) (by omega)).trans (congrArg dd_b hb)
    refine br_f (nI_ge hi (by decide)) (y_has Rr hR (dd_br (fun g1 => nm_r (nI_1 Rr) (hJ eq md (dd_Uskip hU' fun a b hp => ?_))) (fun g1 => y_has i hi (dd_br (fun g2 => nm_r (nI_1 i) (ih (eq, md) (dd_Uskip hU' fun a b hp => ?_))) (fun g2 => ?_)))))
    · rcases dd_pr2 hp with z | ⟨z1, z2⟩
      · exact Or.inl (Or.inl z)
      · refine Or.inr fun w => ?_
        have := hU'.2.1 _ (dd_nlt a) w.1
        rw [z1, g1] at this
        exact absurd this (by decide)
    · rcases dd_pr1 hp with z | ⟨z1, z2⟩
      · exact Or.inl z
      · refine Or.inr fun w => ?_
        have := hU'.2.1 _ (dd_nlt b) w.2.1
        rw [z2, dd_nt hi, g2] at this
        exact absurd this (by decide)
    · refine dd_if (d := (dd_n Rr ^^^ dd_n i) &&& l = 0#6) (by rw [dd_ni hR, dd_ni hi, dd_xor, dd_and, dd_iz]) (fun g3 => ?_) (fun g3 => nm_r (nI_1 i) (ih (eq, md) (dd_Uskip hU' fun a b hp => ?_)))
      · have hPa : dd_P md (dd_n Rr) := by unfold dd_P; rw [dd_nt hR]; exact g1
        have hPb : dd_P md (dd_n i) := by unfold dd_P; rw [dd_nt hi]; exact g2
        refine nm_r (e' := dd_i (dd_mix (l ||| r) (dd_n Rr) (dd_n i))) (by rw [dd_ni hR, dd_ni hi, dd_or, dd_and, dd_andn, dd_or]; rfl) ⟨v, ?_⟩
        rw [eB]
        cases bd with
        | false =>
          refine br_t rfl ⟨v, ?_⟩
          rw [eB]
          refine br_t rfl (nm_r (e' := dd_i (eq ||| ((dd_n Rr ^^^ dd_n i) &&& r))) (by rw [dd_ni hR, dd_ni hi, dd_xor, dd_and, dd_or]) (nm_r (nI_1 i) (ih (eq ||| ((dd_n Rr ^^^ dd_n i) &&& r), md) ?_)))
          exact dd_UF hU' (hF rfl) hPa hPb g3 fun a b hp => dd_pr1 hp
        | true =>
          refine br_f (by decide) ⟨v, ?_⟩
          rw [eB]
          refine br_f (by decide) (nm_r (nI_1 i) (ih (eq, md ||| ((1 : Int64) <<< ((dd_i (dd_mix (l ||| r) (dd_n Rr) (dd_n i))).toInt64 &&& 63))) ?_))
          exact dd_UM hU' (hM rfl) hPa hPb g3 (fun a b hp => dd_pr1 hp) fun t ht => dd_set md (dd_nlt (dd_mix (l ||| r) (dd_n Rr) (dd_n i))) t
      · rcases dd_pr1 hp with z | ⟨z1, z2⟩
        · exact Or.inl z
        · exact Or.inr fun w => g3 (by rw [← z1, ← z2]; exact w.2.2)
theorem y_use {post : Int32 → SY → Prop} {k : Nat} (hk : k < 10) (hF : B k = false → F (L k) (R k)) (hM : B k = true → M (L k) (R k)) (I : dd_I F M x S (dd_P md))
    (h : ∀ S' md' b, dd_I F M x S' (dd_P md') → (b = false → S' = S ∧ md' = md ∧ dd_cK S (L k) (R k) (B k) md) → (b = true → dd_mu S' md' < dd_mu S md) → post (dd_b b) (yT L R B n P pn ce rn (dd_i S') md' kn cs tb st sy)) :
    wpY_use post (yT L R B n P pn ce rn (dd_i S) md kn cs tb st sy) (nI k) := by
  have v : vp_in (nI k) 10 := vp_in_nI hk (by decide)
  refine ⟨v, nm_r (dd_ix (fun d => dd_i (L d)) (by omega)) ⟨v, nm_r (dd_ix (fun d => dd_i (R d)) (by omega)) ?_⟩⟩
  refine pk_loop (σ := dd_S × Int64) (fun m i z => wY_use_29 post (nI k) (dd_i (L k)) (dd_i (R k)) md (nI n) (nI pn) (nI rn) (dd_i S) (fun d => dd_i (L d)) (fun d => dd_i (R d)) (fun d => dd_b (B d)) (fun d => dd_i (P d)) ce kn cs tb st sy m (dd_i z.1) (nI i) z.2)
    (fun i z => dd_U F M x S (L k) (R k) (B k) md (dd_pr i 0) z.2 z.1) 64 0 (S, md) (by decide) (dd_Ustart I) (fun m z hU => ?_) (fun m i z hi hU ih => ?_)
  · obtain ⟨eq, md1⟩ := z
    have hU' : dd_U F M x S (L k) (R k) (B k) md (dd_pr 64 0) md1 eq := hU
    refine br_t (nI_le (Nat.le_refl 64) (by decide)) (dd_bre eq S (fun g1 => ?_) (fun g1 => y_equate S eq fun md2 hm2 => ?_))
    · refine br_c (fun g2 => h S md1 false hU'.1 (fun _ => ⟨rfl, g2, dd_Uend hU' g1 g2⟩) (fun z => absurd z (by decide))) (fun g2 => h S md1 true hU'.1 (fun z => absurd z (by decide)) (fun _ => dd_mu2 (dd_mlt hU'.2.1 fun z => g2 z.symm)))
    · have hbd : B k = false := by
        cases hb : B k with
        | false => rfl
        | true => exact absurd (hU'.2.2.2.2.1 hb) g1
      have hmd : md1 = md := hU'.2.2.2.2.2.1 hbd
      have hSe : dd_sub S eq := hU'.2.2.1
      have eS : S ||| eq = eq := dd_anti (dd_orle hSe (dd_refl eq)) (dd_orr S eq)
      rw [eS] at hm2 ⊢
      have I2 : dd_I F M x eq (dd_P md2) := dd_Ieq hU'.1 hSe hU'.2.2.2.1 hm2
      have ne : ¬ md2 = md := fun z => by
        obtain ⟨q, hq1, hq2⟩ := dd_Ine hU'.1 hSe (fun z => g1 z.symm)
        rw [hmd, ← z] at hq1
        exact hq2 (I2.2.2.2.2.2 q hq1)
      exact br_f ne (h eq md2 true I2 (fun z => absurd z (by decide)) (fun _ => dd_mu1 (dd_slt hSe fun z => g1 z.symm)))
  · obtain ⟨eq, md1⟩ := z
    have hU' : dd_U F M x S (L k) (R k) (B k) md (dd_pr i 0) md1 eq := hU
    exact br_f (nI_ge hi (by decide)) (y_use39 hk hi rfl hF hM eq md1 (fun eq md h => ih (eq, md) h) hU')
end
end
section
/-! the reference's memo: grow, find, closureOf, isBundle -/
theorem dd_ft {Q : Prop} (z : false = true) : Q := absurd z (by decide)
theorem dd_tf {Q : Prop} (z : true = false) : Q := absurd z (by decide)
theorem dd_b1n : ¬ dd_b true = 0 := by decide
section
variable {L R : Nat → dd_S} {B : Nat → Bool} {n : Nat} {P : Nat → dd_S} {pn : Nat} {ce : Nat → Int32} {rn : Nat} {sm : Int32} {md : Int64} {kn cs : Nat → Int32} {tb : Nat → Int64} {st sy : Nat → Int32}
theorem y_grow30 {post : SY → Prop} {J : Int32 → Int32 → Int32 → Int32 → Int32 → Int64 → (Nat → Int32) → (Nat → Int32) → (Nat → Int32) → (Nat → Int32) → (Nat → Int32) → (Nat → Int32) → (Nat → Int32) → (Nat → Int64) → (Nat → Int32) → (Nat → Int32) → Prop}
    (hn : n ≤ 10) (c : Nat) {x S0 : dd_S} {md0 : Int64}
    (hJ : ∀ b S md, dd_I (dd_F L R B n (fun d => c.testBit d) false) (dd_F L R B n (fun d => c.testBit d) true) x S (dd_P md) → (b = false → S = S0 ∧ md = md0 ∧ ∀ k, k < n → c.testBit k = true → dd_cK S0 (L k) (R k) (B k) md0) → (b = true → dd_mu S md < dd_mu S0 md0) → J (dd_b b) (nI n) (nI pn) (nI rn) (dd_i S) md (fun d => dd_i (L d)) (fun d => dd_i (R d)) (fun d => dd_b (B d)) (fun d => dd_i (P d)) ce kn cs tb st sy)
    (I : dd_I (dd_F L R B n (fun d => c.testBit d) false) (dd_F L R B n (fun d => c.testBit d) true) x S0 (dd_P md0)) :
    ∃ m, wY_grow_30 post J (nI c) m 0 0 (nI n) (nI pn) (nI rn) (dd_i S0) md0 (fun d => dd_i (L d)) (fun d => dd_i (R d)) (fun d => dd_b (B d)) (fun d => dd_i (P d)) ce kn cs tb st sy := by
  refine pk_loop (σ := Bool × dd_S × Int64) (fun m k z => wY_grow_30 post J (nI c) m (dd_b z.1) (nI k) (nI n) (nI pn) (nI rn) (dd_i z.2.1) z.2.2 (fun d => dd_i (L d)) (fun d => dd_i (R d)) (fun d => dd_b (B d)) (fun d => dd_i (P d)) ce kn cs tb st sy)
    (fun k z => dd_I (dd_F L R B n (fun d => c.testBit d) false) (dd_F L R B n (fun d => c.testBit d) true) x z.2.1 (dd_P z.2.2) ∧ (z.1 = false → z.2.1 = S0 ∧ z.2.2 = md0 ∧ ∀ k', k' < k → c.testBit k' = true → dd_cK S0 (L k') (R k') (B k') md0) ∧ (z.1 = true → dd_mu z.2.1 z.2.2 < dd_mu S0 md0))
    n 0 (false, S0, md0) (Nat.zero_le n) ⟨I, fun _ => ⟨rfl, rfl, fun k' hk' => absurd hk' (Nat.not_lt_zero k')⟩, fun z => dd_ft z⟩ (fun m z hI => ?_) (fun m i z hi hI ih => ?_)
  · obtain ⟨mo, S, md⟩ := z
    exact br_t (nI_le (Nat.le_refl n) (by omega)) (hJ mo S md hI.1 hI.2.1 hI.2.2)
  · obtain ⟨mo, S, md⟩ := z
    obtain ⟨h1, h2, h3⟩ := hI
    have h1' : dd_I (dd_F L R B n (fun d => c.testBit d) false) (dd_F L R B n (fun d => c.testBit d) true) x S (dd_P md) := h1
    have h2' : mo = false → S = S0 ∧ md = md0 ∧ ∀ k', k' < i → c.testBit k' = true → dd_cK S0 (L k') (R k') (B k') md0 := h2
    have h3' : mo = true → dd_mu S md < dd_mu S0 md0 := h3
    have same : (c.testBit i = true → dd_cK S (L i) (R i) (B i) md) → wY_grow_58 post J (wY_grow_30 post J (nI c) m) (nI c) (dd_b mo) (nI i) (nI n) (nI pn) (nI rn) (dd_i S) md (fun d => dd_i (L d)) (fun d => dd_i (R d)) (fun d => dd_b (B d)) (fun d => dd_i (P d)) ce kn cs tb st sy := fun hc => by
      refine dd_br (fun e => nm_r (nI_1 i) (ih (false, S, md) ⟨h1', fun _ => ?_, fun z => dd_ft z⟩)) (fun e => nm_r (nI_1 i) (ih (true, S, md) ⟨h1', fun z => dd_tf z, fun _ => h3' e⟩))
      obtain ⟨a1, a2, a3⟩ := h2' e
      refine ⟨a1, a2, fun k' hk' hb => ?_⟩
      rcases Nat.lt_or_ge k' i with z | z
      · exact a3 k' z hb
      · have e2 : k' = i := by omega
        subst e2
        have := hc hb
        rw [a1, a2] at this; exact this
    refine br_f (nI_ge hi (by omega)) (dd_if (d := c.testBit i = true) (by rw [dd_nbit c (by omega), dd_b1I]) (fun g => ?_) (fun g => same fun z => absurd z g))
    refine y_use (k := i) (by omega) (fun hb => ⟨i, hi, g, hb, rfl, rfl⟩) (fun hb => ⟨i, hi, g, hb, rfl, rfl⟩) h1' fun S' md' b I' k0 k1 => ?_
    refine dd_br (fun e => ?_) (fun e => nm_r (nI_1 i) (ih (true, S', md') ⟨I', fun z => dd_tf z, fun _ => ?_⟩))
    · obtain ⟨rfl, rfl, hc⟩ := k0 e
      exact same fun _ => hc
    · have m1 : dd_mu S' md' < dd_mu S md := k1 e
      show dd_mu S' md' < dd_mu S0 md0
      cases mo with
      | false => obtain ⟨a1, a2, _⟩ := h2' rfl; rw [a1, a2] at m1; exact m1
      | true => have := h3' rfl; omega
theorem y_grow {post : SY → Prop} (hn : n ≤ 10) (c : Nat) (x : dd_S)
    (h : ∀ md', (∀ y, dd_m md' (~~~(x ||| y) &&& ~~~(dd_cl (dd_v L R B n (fun d => c.testBit d)) x)).toNat = dd_aK (dd_v L R B n (fun d => c.testBit d)) x y true) →
      post (yT L R B n P pn ce rn (dd_i (dd_cl (dd_v L R B n (fun d => c.testBit d)) x)) md' kn cs tb st sy)) :
    wpY_grow post (yT L R B n P pn ce rn sm md kn cs tb st sy) (dd_i x) (nI c) := by
  refine nm_r (e' := (1 : Int64) ||| ((1 : Int64) <<< ((dd_i (~~~x)).toInt64 &&& 63))) (by rw [dd_63n]) ?_
  have hst : ∀ r, dd_P ((1 : Int64) ||| ((1 : Int64) <<< ((dd_i (~~~x)).toInt64 &&& 63))) r ↔ r = 0#6 ∨ r = ~~~x := fun r => by
    unfold dd_P
    have e := dd_set (1 : Int64) (dd_nlt (~~~x)) r.toNat
    have e2 : dd_m ((1 : Int64) ||| ((1 : Int64) <<< ((dd_i (~~~x)).toInt64 &&& 63))) r.toNat = (dd_m (1 : Int64) r.toNat || decide ((~~~x).toNat = r.toNat)) := e
    have e3 : dd_m (1 : Int64) r.toNat = Nat.testBit 1 r.toNat := dd_mN 1 (dd_nlt r)
    rw [e2, e3, Bool.or_eq_true, decide_eq_true_eq]
    refine ⟨fun h => h.imp (fun z => ?_) (fun z => (BitVec.eq_of_toNat_eq z).symm), fun h => h.imp (fun z => by rw [z]; rfl) (fun z => by rw [z])⟩
    have : r.toNat = 0 := by
      cases q : r.toNat with
      | zero => rfl
      | succ k => rw [q, Nat.testBit_succ] at z; simp at z
    exact BitVec.eq_of_toNat_eq this
  refine loop_m (σ := Bool × dd_S × Int64) (fun m z => wY_grow_21 post (nI c) m (dd_b z.1) (nI n) (nI pn) (nI rn) (dd_i z.2.1) z.2.2 (fun d => dd_i (L d)) (fun d => dd_i (R d)) (fun d => dd_b (B d)) (fun d => dd_i (P d)) ce kn cs tb st sy)
    (fun z => dd_I (dd_F L R B n (fun d => c.testBit d) false) (dd_F L R B n (fun d => c.testBit d) true) x z.2.1 (dd_P z.2.2) ∧ (z.1 = false → ∀ k, k < n → c.testBit k = true → dd_cK z.2.1 (L k) (R k) (B k) z.2.2))
    (fun z => (if z.1 = true then 1 else 0) + dd_mu z.2.1 z.2.2) (fun m z hI ih => ?_) (true, x, (1 : Int64) ||| ((1 : Int64) <<< ((dd_i (~~~x)).toInt64 &&& 63))) ⟨dd_Istart hst, fun z => dd_tf z⟩
  obtain ⟨mo, S, md⟩ := z
  have hI' : dd_I (dd_F L R B n (fun d => c.testBit d) false) (dd_F L R B n (fun d => c.testBit d) true) x S (dd_P md) := hI.1
  cases mo with
  | false =>
    have hc : ∀ k, k < n → c.testBit k = true → dd_cK S (L k) (R k) (B k) md := hI.2 rfl
    have hMc : dd_Cl (dd_F L R B n (fun d => c.testBit d) true) (dd_P md) := by
      rintro l r ⟨d, hd, hb, hB, rfl, rfl⟩ a b ha hb' e
      exact (hc d hd hb).1 hB a b ha hb' e
    have hFc : ∀ l r, dd_F L R B n (fun d => c.testBit d) false l r → ∀ a b, dd_P md a → dd_P md b → (a ^^^ b) &&& l = 0#6 → (a ^^^ b) &&& r = 0#6 := by
      rintro l r ⟨d, hd, hb, hB, rfl, rfl⟩ a b ha hb' e
      exact (hc d hd hb).2 hB a b ha hb' e
    have eS : S = dd_cl (dd_v L R B n (fun d => c.testBit d)) x := dd_clU fun i hi => by
      rw [(dd_Iend hI' hMc hFc).1 i hi]
      exact ⟨fun h T h1 h2 => h T (dd_vI.mp h1) h2, fun h T h1 h2 => h T (dd_vI.mpr h1) h2⟩
    subst eS
    refine br_t rfl (h md fun y => Bool.eq_iff_iff.mpr ?_)
    have := dd_Ibun hI' hMc hFc y
    unfold dd_P at this
    rw [this, dd_aKI]
    exact ⟨fun h T h1 => h T (dd_vI.mp h1), fun h T h1 => h T (dd_vI.mpr h1)⟩
  | true =>
    refine br_f dd_b1n (y_grow30 hn c (fun b S' md' I' k0 k1 => ih (b, S', md') ⟨I', fun e => ?_⟩ ?_) hI')
    · obtain ⟨rfl, rfl, hc⟩ := k0 e
      exact hc
    · show (if b = true then 1 else 0) + dd_mu S' md' < (if true = true then 1 else 0) + dd_mu S md
      cases b with
      | false => obtain ⟨rfl, rfl, _⟩ := k0 rfl; simp
      | true => have := k1 rfl; simp; exact this
/-- what is known is right -/
def yM (p : Nat → Bool) (kn cs : Nat → Int32) (tb : Nat → Int64) : Prop :=
  ∀ x : dd_S, ¬ kn x.toNat = 0 → cs x.toNat = dd_i (dd_cl p x) ∧ ∀ y, dd_m (tb x.toNat) (~~~(x ||| y) &&& ~~~(dd_cl p x)).toNat = dd_aK p x y true
def yO (L R : Nat → dd_S) (B : Nat → Bool) (n : Nat) (P : Nat → dd_S) (pn : Nat) (ce : Nat → Int32) (rn : Nat) (st sy : Nat → Int32) (v : SY) : Prop :=
  ∃ sm md kn cs tb, yM (dd_V1 L R B n) kn cs tb ∧ v = yT L R B n P pn ce rn sm md kn cs tb st sy
theorem y_find {post : SY → Prop} {p : Int32} (hn : n ≤ 10) (x : dd_S) (hM : yM (dd_V1 L R B n) kn cs tb)
    (h : ∀ sm' md' kn' cs' tb', yM (dd_V1 L R B n) kn' cs' tb' → ¬ kn' x.toNat = 0 → post (yT L R B n P pn ce rn sm' md' kn' cs' tb' st sy)) (hp : p = dd_i x := by rfl) :
    wpY_find post (yT L R B n P pn ce rn sm md kn cs tb st sy) p := by
  subst hp
  refine ⟨dd_ilt x, ?_⟩
  rw [dd_icl]
  refine br_c (fun g => ?_) (fun g => h _ _ _ _ _ hM g)
  refine y_grow hn 1023 x fun md' hmd => ?_
  refine ⟨dd_ilt x, nm_e ⟨dd_ilt x, nm_e ⟨dd_ilt x, nm_e (h _ _ _ _ _ ?_ ?_)⟩⟩⟩
  · intro z hz
    by_cases e : z = x
    · subst e
      rw [pk_us, pk_uLs]
      exact ⟨rfl, hmd⟩
    · have e2 : z.toNat ≠ x.toNat := fun w => e (BitVec.eq_of_toNat_eq w)
      rw [pk_un e2] at hz ⊢
      rw [pk_uLn e2]
      exact hM z hz
  · rw [pk_us]
    exact by decide
theorem y_closureOf {post : Int32 → SY → Prop} {p : Int32} {v : SY} (hn : n ≤ 10) (x : dd_S) (hv : yO L R B n P pn ce rn st sy v)
    (h : ∀ v', yO L R B n P pn ce rn st sy v' → post (dd_i (dd_cl (dd_V1 L R B n) x)) v') (hp : p = dd_i x := by rfl) : wpY_closureOf post v p := by
  subst hp
  obtain ⟨sm, md, kn, cs, tb, hM, rfl⟩ := hv
  unfold wpY_closureOf
  refine y_find hn x hM fun sm' md' kn' cs' tb' hM' hk => ⟨dd_ilt x, ?_⟩
  have w := h _ ⟨sm', md', kn', cs', tb', hM', rfl⟩
  rw [← (hM' x hk).1] at w
  rw [dd_icl]
  exact w
theorem y_isBundle {post : Int32 → SY → Prop} {p q : Int32} {v : SY} (hn : n ≤ 10) (x y : dd_S) (hv : yO L R B n P pn ce rn st sy v)
    (h : ∀ v', yO L R B n P pn ce rn st sy v' → post (dd_b (dd_aK (dd_V1 L R B n) x y true)) v') (hp : p = dd_i x := by rfl) (hq : q = dd_i y := by rfl) : wpY_isBundle post v p q := by
  subst hp hq
  obtain ⟨sm, md, kn, cs, tb, hM, rfl⟩ := hv
  unfold wpY_isBundle
  refine y_find hn x hM fun sm' md' kn' cs' tb' hM' hk => ⟨dd_ilt x, ?_⟩
  have w := h _ ⟨sm', md', kn', cs', tb', hM', rfl⟩
  obtain ⟨h1, h2⟩ := hM' x hk
  rw [← h2 y] at w
  refine nm_r (e' := dd_i (~~~(x ||| y) &&& ~~~(dd_cl (dd_V1 L R B n) x))) (by rw [dd_icl, h1, dd_or, dd_63n, dd_andn]) ⟨dd_ilt x, ?_⟩
  rw [dd_icl]
  exact dd_brm (~~~(x ||| y) &&& ~~~(dd_cl (dd_V1 L R B n) x)).toNat (dd_nlt _) (fun g => by rw [g] at w; exact w) (fun g => by rw [g] at w; exact w)
end
end
section
/-! the reference's walks over its closures: keys, closed sets, corners, forms, needs -/
abbrev yc (f : Int32 → Int32 → Int32 → Int32 → Int64 → (Nat → Int32) → (Nat → Int32) → (Nat → Int32) → (Nat → Int32) → (Nat → Int32) → (Nat → Int32) → (Nat → Int32) → (Nat → Int64) → (Nat → Int32) → (Nat → Int32) → Prop) (v : SY) : Prop :=
  f v.1 v.2.1 v.2.2.1 v.2.2.2.1 v.2.2.2.2.1 v.2.2.2.2.2.1 v.2.2.2.2.2.2.1 v.2.2.2.2.2.2.2.1 v.2.2.2.2.2.2.2.2.1 v.2.2.2.2.2.2.2.2.2.1 v.2.2.2.2.2.2.2.2.2.2.1 v.2.2.2.2.2.2.2.2.2.2.2.1 v.2.2.2.2.2.2.2.2.2.2.2.2.1 v.2.2.2.2.2.2.2.2.2.2.2.2.2.1 v.2.2.2.2.2.2.2.2.2.2.2.2.2.2
theorem yl {τ : Type} (W : Nat → Nat → τ → SY → Prop) (sf : Nat → τ) (J : Nat → Prop) (O : SY → Prop) (e : Nat) (v : SY) (hv : O v) (h0 : J 0) (hx : ∀ m v, O v → J e → W (m + 1) e (sf e) v)
    (hs : ∀ m i v, i < e → O v → J i → (∀ s' v', s' = sf (i + 1) → O v' → J (i + 1) → W m (i + 1) s' v') → W (m + 1) i (sf i) v) : ∃ m, W m 0 (sf 0) v :=
  pk_loop (σ := τ × SY) (fun m i z => W m i z.1 z.2) (fun i z => z.1 = sf i ∧ O z.2 ∧ J i) e 0 (sf 0, v) (Nat.zero_le e) ⟨rfl, hv, h0⟩
    (fun m z h => by rw [h.1]; exact hx m z.2 h.2.1 h.2.2)
    (fun m i z hi h ih => by rw [h.1]; exact hs m i z.2 hi h.2.1 h.2.2 fun s' v' h1 h2 h3 => ih (s', v') ⟨h1, h2, h3⟩)
theorem dd_cnT {q : Nat → Bool} {i : Nat} (h : q i = true) : dd_cn q i + 1 = dd_cn q (i + 1) := (if_pos h).symm
theorem dd_cnF {q : Nat → Bool} {i : Nat} (h : q i = false) : dd_cn q i = dd_cn q (i + 1) := (if_neg (by rw [h]; decide)).symm
theorem dd_unT {q : Nat → Bool} {i : Nat} (h : q i = true) : dd_un q i ||| dd_n i = dd_un q (i + 1) := (if_pos h).symm
theorem dd_unF {q : Nat → Bool} {i : Nat} (h : q i = false) : dd_un q i = dd_un q (i + 1) := (if_neg (by rw [h]; decide)).symm
theorem dd_mtT {q : Nat → Bool} {i : Nat} (h : q i = true) : dd_mt q i &&& dd_n i = dd_mt q (i + 1) := (if_pos h).symm
theorem dd_mtF {q : Nat → Bool} {i : Nat} (h : q i = false) : dd_mt q i = dd_mt q (i + 1) := (if_neg (by rw [h]; decide)).symm
theorem dd_alS {q : Nat → Bool} {i : Nat} (hJ : dd_al q i = true) (h : q i = true) : dd_al q (i + 1) = true := by
  show (dd_al q i && q i) = true
  rw [hJ, h]; rfl
section
variable {L R : Nat → dd_S} {B : Nat → Bool} {n : Nat} {P : Nat → dd_S} {pn : Nat} {ce : Nat → Int32} {rn : Nat} {st sy : Nat → Int32} {v : SY}
theorem y_isKeyOf {post : Int32 → SY → Prop} {p q : Int32} (hn : n ≤ 10) (x s : dd_S) (hv : yO L R B n P pn ce rn st sy v)
    (h : ∀ v', yO L R B n P pn ce rn st sy v' → post (dd_b (dd_key (dd_V1 L R B n) s x)) v') (hp : p = dd_i x := by rfl) (hq : q = dd_i s := by rfl) : wpY_isKeyOf post v p q := by
  subst hp hq
  obtain ⟨sm, md, kn, cs, tb, hM, rfl⟩ := hv
  unfold wpY_isKeyOf
  refine dd_brs x s (fun g0 => y_closureOf hn x ⟨sm, md, kn, cs, tb, hM, rfl⟩ fun v' hv' => ?_) (fun g0 => ?_)
  · obtain ⟨sm', md', kn', cs', tb', hM', rfl⟩ := hv'
    refine dd_brs s (dd_cl (dd_V1 L R B n) x) (fun g1 => ?_) (fun g1 => ?_)
    · refine yl (τ := Unit) (fun m i _ v => yc (wY_isKeyOf_24 post (dd_i x) (dd_i s) m (nI i)) v) (fun _ => ()) (fun i => dd_al (fun c => !(x.getLsbD c && dd_sB s (dd_cl (dd_V1 L R B n) (x &&& ~~~dd_e c)))) i = true) (yO L R B n P pn ce rn st sy) 6 (yT L R B n P pn ce rn sm' md' kn' cs' tb' st sy) ⟨sm', md', kn', cs', tb', hM', rfl⟩ rfl (fun m v hO hJ => ?_) (fun m i v hi hO hJ ih => ?_)
      · obtain ⟨sm, md, kn, cs, tb, hM, rfl⟩ := hO
        have w := h (yT L R B n P pn ce rn sm md kn cs tb st sy) ⟨sm, md, kn, cs, tb, hM, rfl⟩
        unfold dd_key at w
        rw [dd_sBt g0, dd_sBt g1, hJ] at w
        exact br_t (nI_le (Nat.le_refl 6) (by decide)) w
      · obtain ⟨sm, md, kn, cs, tb, hM, rfl⟩ := hO
        refine br_f (nI_ge hi (by decide)) (nm_r (e' := dd_i (x &&& ~~~dd_e i)) (by rw [dd_1 i hi, dd_andn]) (dd_bre (x &&& ~~~dd_e i) x (fun g2 => nm_r (nI_1 i) (ih () (yT L R B n P pn ce rn sm md kn cs tb st sy) rfl ⟨sm, md, kn, cs, tb, hM, rfl⟩ (dd_alS hJ ?_))) (fun g2 => y_closureOf hn (x &&& ~~~dd_e i) ⟨sm, md, kn, cs, tb, hM, rfl⟩ fun v' hv' => ?_)))
        · rw [dd_less hi] at g2
          rw [g2]; rfl
        · obtain ⟨sm', md', kn', cs', tb', hM', rfl⟩ := hv'
          have g2' : x.getLsbD i = true := ts_nf fun z => g2 ((dd_less hi).mpr z)
          refine dd_brs s (dd_cl (dd_V1 L R B n) (x &&& ~~~dd_e i)) (fun g3 => ?_) (fun g3 => nm_r (nI_1 i) (ih () (yT L R B n P pn ce rn sm' md' kn' cs' tb' st sy) rfl ⟨sm', md', kn', cs', tb', hM', rfl⟩ (dd_alS hJ ?_)))
          · have w := h (yT L R B n P pn ce rn sm' md' kn' cs' tb' st sy) ⟨sm', md', kn', cs', tb', hM', rfl⟩
            unfold dd_key at w
            rw [dd_alF (q := fun c => !(x.getLsbD c && dd_sB s (dd_cl (dd_V1 L R B n) (x &&& ~~~dd_e c)))) hi (by rw [g2', dd_sBt g3]; rfl), Bool.and_false, Bool.and_false] at w
            exact w
          · rw [dd_sBf g3, Bool.and_false]; rfl
    · have w := h (yT L R B n P pn ce rn sm' md' kn' cs' tb' st sy) ⟨sm', md', kn', cs', tb', hM', rfl⟩
      unfold dd_key at w
      rw [dd_sBf g1, Bool.false_and, Bool.and_false] at w
      exact w
  · have w := h (yT L R B n P pn ce rn sm md kn cs tb st sy) ⟨sm, md, kn, cs, tb, hM, rfl⟩
    unfold dd_key at w
    rw [dd_sBf g0, Bool.false_and] at w
    exact w
theorem y_keys {post : Int32 → SY → Prop} (hn : n ≤ 10) (hv : yO L R B n P pn ce rn st sy v)
    (h : ∀ v', yO L R B n P pn ce rn st sy v' → post (nI (dd_cn (fun t => dd_key (dd_V1 L R B n) 63#6 (dd_n t)) 64)) v') : wpY_keys post v := by
  obtain ⟨sm, md, kn, cs, tb, hM, rfl⟩ := hv
  refine yl (τ := Nat) (fun m i s v => yc (wY_keys_4 post m (nI s) (nI i)) v) (dd_cn (fun t => dd_key (dd_V1 L R B n) 63#6 (dd_n t))) (fun _ => True) (yO L R B n P pn ce rn st sy) 64 (yT L R B n P pn ce rn sm md kn cs tb st sy) ⟨sm, md, kn, cs, tb, hM, rfl⟩ trivial (fun m v hO _ => ?_) (fun m i v hi hO _ ih => ?_)
  · obtain ⟨sm, md, kn, cs, tb, hM, rfl⟩ := hO
    exact br_t (nI_le (Nat.le_refl 64) (by decide)) (h (yT L R B n P pn ce rn sm md kn cs tb st sy) ⟨sm, md, kn, cs, tb, hM, rfl⟩)
  · obtain ⟨sm, md, kn, cs, tb, hM, rfl⟩ := hO
    refine br_f (nI_ge hi (by decide)) (y_isKeyOf hn (dd_n i) 63#6 ⟨sm, md, kn, cs, tb, hM, rfl⟩ (fun v' hv' => ?_) (dd_ni hi))
    obtain ⟨sm', md', kn', cs', tb', hM', rfl⟩ := hv'
    exact dd_br (fun g => nm_r (nI_1 i) (ih _ (yT L R B n P pn ce rn sm' md' kn' cs' tb' st sy) (dd_cnF g) ⟨sm', md', kn', cs', tb', hM', rfl⟩ trivial)) (fun g => nm_r (nI_1 _) (nm_r (nI_1 i) (ih _ (yT L R B n P pn ce rn sm' md' kn' cs' tb' st sy) (dd_cnT g) ⟨sm', md', kn', cs', tb', hM', rfl⟩ trivial)))
theorem y_key {post : Int32 → SY → Prop} (hn : n ≤ 10) (a : Int32) (hv : yO L R B n P pn ce rn st sy v)
    (h : ∀ v', yO L R B n P pn ce rn st sy v' → post (dd_at (fun t => dd_key (dd_V1 L R B n) 63#6 (dd_n t)) a 64 0 0) v') : wpY_key post v a := by
  obtain ⟨sm, md, kn, cs, tb, hM, rfl⟩ := hv
  have key : ∀ d t b v, d + t = 64 → yO L R B n P pn ce rn st sy v → (∀ v', yO L R B n P pn ce rn st sy v' → post (dd_at (fun t => dd_key (dd_V1 L R B n) 63#6 (dd_n t)) a d t b) v') → yc (wY_key_4 post a (d + 1) (nI b) (nI t)) v := by
    intro d
    induction d with
    | zero =>
      intro t b v e hO h
      obtain ⟨sm, md, kn, cs, tb, hM, rfl⟩ := hO
      exact br_t (nI_le (a := 64) (by omega) (by omega)) (h (yT L R B n P pn ce rn sm md kn cs tb st sy) ⟨sm, md, kn, cs, tb, hM, rfl⟩)
    | succ d ih =>
      intro t b v e hO h
      obtain ⟨sm, md, kn, cs, tb, hM, rfl⟩ := hO
      refine br_f (nI_ge (b := 64) (by omega) (by decide)) (y_isKeyOf hn (dd_n t) 63#6 ⟨sm, md, kn, cs, tb, hM, rfl⟩ (fun v' hv' => ?_) (dd_ni (by omega)))
      obtain ⟨sm', md', kn', cs', tb', hM', rfl⟩ := hv'
      refine dd_br (fun g => nm_r (nI_1 t) (ih (t + 1) b (yT L R B n P pn ce rn sm' md' kn' cs' tb' st sy) (by omega) ⟨sm', md', kn', cs', tb', hM', rfl⟩ fun v' hv' => ?_)) (fun g => br_c (fun g2 => ?_) (fun g2 => nm_r (nI_1 b) (nm_r (nI_1 t) (ih (t + 1) (b + 1) (yT L R B n P pn ce rn sm' md' kn' cs' tb' st sy) (by omega) ⟨sm', md', kn', cs', tb', hM', rfl⟩ fun v' hv' => ?_))))
      · have w := h v' hv'
        have e2 : dd_at (fun t => dd_key (dd_V1 L R B n) 63#6 (dd_n t)) a (d + 1) t b = dd_at (fun t => dd_key (dd_V1 L R B n) 63#6 (dd_n t)) a d (t + 1) b := if_neg fun z => by rw [show dd_key (dd_V1 L R B n) 63#6 (dd_n t) = true from z] at g; exact absurd g (by decide)
        rw [e2] at w; exact w
      · have w := h (yT L R B n P pn ce rn sm' md' kn' cs' tb' st sy) ⟨sm', md', kn', cs', tb', hM', rfl⟩
        have e2 : dd_at (fun t => dd_key (dd_V1 L R B n) 63#6 (dd_n t)) a (d + 1) t b = nI t := (if_pos g).trans (if_pos g2)
        rw [e2] at w; exact w
      · have w := h v' hv'
        have e2 : dd_at (fun t => dd_key (dd_V1 L R B n) 63#6 (dd_n t)) a (d + 1) t b = dd_at (fun t => dd_key (dd_V1 L R B n) 63#6 (dd_n t)) a d (t + 1) (b + 1) := (if_pos g).trans (if_neg g2)
        rw [e2] at w; exact w
  exact ⟨65, key 64 0 0 (yT L R B n P pn ce rn sm md kn cs tb st sy) rfl ⟨sm, md, kn, cs, tb, hM, rfl⟩ h⟩
theorem y_closed {post : Int32 → SY → Prop} (hn : n ≤ 10) (hv : yO L R B n P pn ce rn st sy v)
    (h : ∀ v', yO L R B n P pn ce rn st sy v' → post (nI (dd_cn (fun t => decide (dd_cl (dd_V1 L R B n) (dd_n t) = dd_n t)) 64)) v') : wpY_closed post v := by
  obtain ⟨sm, md, kn, cs, tb, hM, rfl⟩ := hv
  refine yl (τ := Nat) (fun m i s v => yc (wY_closed_4 post m (nI s) (nI i)) v) (dd_cn (fun t => decide (dd_cl (dd_V1 L R B n) (dd_n t) = dd_n t))) (fun _ => True) (yO L R B n P pn ce rn st sy) 64 (yT L R B n P pn ce rn sm md kn cs tb st sy) ⟨sm, md, kn, cs, tb, hM, rfl⟩ trivial (fun m v hO _ => ?_) (fun m i v hi hO _ ih => ?_)
  · obtain ⟨sm, md, kn, cs, tb, hM, rfl⟩ := hO
    exact br_t (nI_le (Nat.le_refl 64) (by decide)) (h (yT L R B n P pn ce rn sm md kn cs tb st sy) ⟨sm, md, kn, cs, tb, hM, rfl⟩)
  · obtain ⟨sm, md, kn, cs, tb, hM, rfl⟩ := hO
    refine br_f (nI_ge hi (by decide)) (y_closureOf hn (dd_n i) ⟨sm, md, kn, cs, tb, hM, rfl⟩ (fun v' hv' => ?_) (dd_ni hi))
    obtain ⟨sm', md', kn', cs', tb', hM', rfl⟩ := hv'
    exact dd_bre _ (dd_n i) (fun g => nm_r (nI_1 _) (nm_r (nI_1 i) (ih _ (yT L R B n P pn ce rn sm' md' kn' cs' tb' st sy) (dd_cnT (decide_eq_true g)) ⟨sm', md', kn', cs', tb', hM', rfl⟩ trivial))) (fun g => nm_r (nI_1 i) (ih _ (yT L R B n P pn ce rn sm' md' kn' cs' tb' st sy) (dd_cnF (decide_eq_false g)) ⟨sm', md', kn', cs', tb', hM', rfl⟩ trivial)) rfl (dd_ni hi)
theorem y_isCorner {post : Int32 → SY → Prop} {p : Int32} (hn : n ≤ 10) (t : Nat) (ht : t < 64) (hv : yO L R B n P pn ce rn st sy v)
    (h : ∀ v', yO L R B n P pn ce rn st sy v' → post (dd_b (dd_co (dd_cl (dd_V1 L R B n)) t)) v') (hp : p = nI t := by rfl) : wpY_isCorner post v p := by
  subst hp
  obtain ⟨sm, md, kn, cs, tb, hM, rfl⟩ := hv
  refine yl (τ := dd_S) (fun m i s v => yc (wY_isCorner_5 post (nI t) m (dd_i s) (nI i)) v) (dd_mt (fun y => decide (y ≠ t) && dd_lg (fun y => decide (dd_cl (dd_V1 L R B n) (dd_n y) = dd_n y)) t y)) (fun _ => True) (yO L R B n P pn ce rn st sy) 64 (yT L R B n P pn ce rn sm md kn cs tb st sy) ⟨sm, md, kn, cs, tb, hM, rfl⟩ trivial (fun m v hO _ => ?_) (fun m i v hi hO _ ih => ?_)
  · obtain ⟨sm, md, kn, cs, tb, hM, rfl⟩ := hO
    refine br_t (nI_le (Nat.le_refl 64) (by decide)) (y_closureOf hn (dd_n t) ⟨sm, md, kn, cs, tb, hM, rfl⟩ (fun v' hv' => ?_) (dd_ni ht))
    obtain ⟨sm', md', kn', cs', tb', hM', rfl⟩ := hv'
    have w := h (yT L R B n P pn ce rn sm' md' kn' cs' tb' st sy) ⟨sm', md', kn', cs', tb', hM', rfl⟩
    unfold dd_co at w
    refine dd_bre _ (dd_n t) (fun g => dd_bre _ (dd_n t) (fun g2 => ?_) (fun g2 => ?_) rfl (dd_ni ht)) (fun g => ?_) rfl (dd_ni ht)
    · rw [decide_eq_true g2, Bool.not_true, Bool.and_false] at w
      exact w
    · rw [decide_eq_true g, decide_eq_false g2] at w
      exact w
    · rw [decide_eq_false g, Bool.false_and] at w
      exact w
  · obtain ⟨sm, md, kn, cs, tb, hM, rfl⟩ := hO
    refine br_f (nI_ge hi (by decide)) (pk_eq i t (fun g => br_t rfl (nm_r (nI_1 i) (ih _ (yT L R B n P pn ce rn sm md kn cs tb st sy) (dd_mtF ?_) ⟨sm, md, kn, cs, tb, hM, rfl⟩ trivial))) (fun g => dd_brs (dd_n t) (dd_n i) (fun g2 => y_closureOf hn (dd_n i) ⟨sm, md, kn, cs, tb, hM, rfl⟩ (fun v' hv' => ?_) (dd_ni hi)) (fun g2 => br_t rfl (nm_r (nI_1 i) (ih _ (yT L R B n P pn ce rn sm md kn cs tb st sy) (dd_mtF ?_) ⟨sm, md, kn, cs, tb, hM, rfl⟩ trivial))) (dd_ni ht) (dd_ni hi)))
    · rw [decide_eq_false (fun z => z g)]; rfl
    · obtain ⟨sm', md', kn', cs', tb', hM', rfl⟩ := hv'
      refine dd_bre _ (dd_n i) (fun g3 => br_f (by decide) (nm_r (e' := dd_i (dd_mt (fun y => decide (y ≠ t) && dd_lg (fun y => decide (dd_cl (dd_V1 L R B n) (dd_n y) = dd_n y)) t y) i &&& dd_n i)) (by rw [dd_ni hi, dd_and]) (nm_r (nI_1 i) (ih _ (yT L R B n P pn ce rn sm' md' kn' cs' tb' st sy) (dd_mtT ?_) ⟨sm', md', kn', cs', tb', hM', rfl⟩ trivial)))) (fun g3 => br_t rfl (nm_r (nI_1 i) (ih _ (yT L R B n P pn ce rn sm' md' kn' cs' tb' st sy) (dd_mtF ?_) ⟨sm', md', kn', cs', tb', hM', rfl⟩ trivial))) rfl (dd_ni hi)
      · unfold dd_lg; dsimp only
        rw [decide_eq_true g, decide_eq_true g3, dd_sBt g2]; rfl
      · unfold dd_lg; dsimp only
        rw [decide_eq_false g3, Bool.false_and, Bool.and_false]
    · unfold dd_lg; dsimp only
      rw [dd_sBf g2, Bool.and_false, Bool.and_false]
theorem y_corners {post : Int32 → SY → Prop} (hn : n ≤ 10) (hv : yO L R B n P pn ce rn st sy v)
    (h : ∀ v', yO L R B n P pn ce rn st sy v' → post (nI (dd_cn (dd_co (dd_cl (dd_V1 L R B n))) 63)) v') : wpY_corners post v := by
  obtain ⟨sm, md, kn, cs, tb, hM, rfl⟩ := hv
  refine yl (τ := Nat) (fun m i s v => yc (wY_corners_4 post m (nI s) (nI i)) v) (dd_cn (dd_co (dd_cl (dd_V1 L R B n)))) (fun _ => True) (yO L R B n P pn ce rn st sy) 63 (yT L R B n P pn ce rn sm md kn cs tb st sy) ⟨sm, md, kn, cs, tb, hM, rfl⟩ trivial (fun m v hO _ => ?_) (fun m i v hi hO _ ih => ?_)
  · obtain ⟨sm, md, kn, cs, tb, hM, rfl⟩ := hO
    exact br_t (nI_le (Nat.le_refl 63) (by decide)) (h (yT L R B n P pn ce rn sm md kn cs tb st sy) ⟨sm, md, kn, cs, tb, hM, rfl⟩)
  · obtain ⟨sm, md, kn, cs, tb, hM, rfl⟩ := hO
    refine br_f (nI_ge hi (by decide)) (y_isCorner hn i (by omega) ⟨sm, md, kn, cs, tb, hM, rfl⟩ (fun v' hv' => ?_))
    obtain ⟨sm', md', kn', cs', tb', hM', rfl⟩ := hv'
    exact dd_br (fun g => nm_r (nI_1 i) (ih _ (yT L R B n P pn ce rn sm' md' kn' cs' tb' st sy) (dd_cnF g) ⟨sm', md', kn', cs', tb', hM', rfl⟩ trivial)) (fun g => nm_r (nI_1 _) (nm_r (nI_1 i) (ih _ (yT L R B n P pn ce rn sm' md' kn' cs' tb' st sy) (dd_cnT g) ⟨sm', md', kn', cs', tb', hM', rfl⟩ trivial)))
theorem y_inKeysOf {post : Int32 → SY → Prop} {p : Int32} (hn : n ≤ 10) (s : dd_S) (hv : yO L R B n P pn ce rn st sy v)
    (h : ∀ v', yO L R B n P pn ce rn st sy v' → post (dd_i (dd_un (fun t => dd_key (dd_V1 L R B n) s (dd_n t)) 64)) v') (hp : p = dd_i s := by rfl) : wpY_inKeysOf post v p := by
  subst hp
  obtain ⟨sm, md, kn, cs, tb, hM, rfl⟩ := hv
  refine yl (τ := dd_S) (fun m i z v => yc (wY_inKeysOf_4 post (dd_i s) m (dd_i z) (nI i)) v) (dd_un (fun t => dd_key (dd_V1 L R B n) s (dd_n t))) (fun _ => True) (yO L R B n P pn ce rn st sy) 64 (yT L R B n P pn ce rn sm md kn cs tb st sy) ⟨sm, md, kn, cs, tb, hM, rfl⟩ trivial (fun m v hO _ => ?_) (fun m i v hi hO _ ih => ?_)
  · obtain ⟨sm, md, kn, cs, tb, hM, rfl⟩ := hO
    exact br_t (nI_le (Nat.le_refl 64) (by decide)) (h (yT L R B n P pn ce rn sm md kn cs tb st sy) ⟨sm, md, kn, cs, tb, hM, rfl⟩)
  · obtain ⟨sm, md, kn, cs, tb, hM, rfl⟩ := hO
    refine br_f (nI_ge hi (by decide)) (y_isKeyOf hn (dd_n i) s ⟨sm, md, kn, cs, tb, hM, rfl⟩ (fun v' hv' => ?_) (dd_ni hi))
    obtain ⟨sm', md', kn', cs', tb', hM', rfl⟩ := hv'
    exact dd_br (fun g => nm_r (nI_1 i) (ih _ (yT L R B n P pn ce rn sm' md' kn' cs' tb' st sy) (dd_unF g) ⟨sm', md', kn', cs', tb', hM', rfl⟩ trivial)) (fun g => nm_r (e' := dd_i (dd_un (fun t => dd_key (dd_V1 L R B n) s (dd_n t)) i ||| dd_n i)) (by rw [dd_ni hi, dd_or]) (nm_r (nI_1 i) (ih _ (yT L R B n P pn ce rn sm' md' kn' cs' tb' st sy) (dd_unT g) ⟨sm', md', kn', cs', tb', hM', rfl⟩ trivial)))
theorem y_third {post : Int32 → SY → Prop} (hn : n ≤ 10) (s : dd_S) (hv : yO L R B n P pn ce rn st sy v)
    (h : ∀ v', yO L R B n P pn ce rn st sy v' → post (dd_b (dd_al (dd_t3 (dd_V1 L R B n) s) 64)) v') : wpY_third post v (dd_i s) := by
  obtain ⟨sm, md, kn, cs, tb, hM, rfl⟩ := hv
  unfold wpY_third
  refine y_isSet s (br_f (by decide) (y_inKeysOf hn s ⟨sm, md, kn, cs, tb, hM, rfl⟩ fun v' hv' => ?_))
  obtain ⟨sm', md', kn', cs', tb', hM', rfl⟩ := hv'
  refine yl (τ := Unit) (fun m i _ v => yc (wY_third_18 post (dd_i s) (dd_i (dd_un (fun t => dd_key (dd_V1 L R B n) s (dd_n t)) 64)) m (nI i)) v) (fun _ => ()) (fun i => dd_al (dd_t3 (dd_V1 L R B n) s) i = true) (yO L R B n P pn ce rn st sy) 64 (yT L R B n P pn ce rn sm' md' kn' cs' tb' st sy) ⟨sm', md', kn', cs', tb', hM', rfl⟩ rfl (fun m v hO hJ => ?_) (fun m i v hi hO hJ ih => ?_)
  · obtain ⟨sm, md, kn, cs, tb, hM, rfl⟩ := hO
    have w := h (yT L R B n P pn ce rn sm md kn cs tb st sy) ⟨sm, md, kn, cs, tb, hM, rfl⟩
    rw [hJ] at w
    exact br_t (nI_le (Nat.le_refl 64) (by decide)) w
  · obtain ⟨sm, md, kn, cs, tb, hM, rfl⟩ := hO
    refine br_f (nI_ge hi (by decide)) (y_closureOf hn (dd_n i) ⟨sm, md, kn, cs, tb, hM, rfl⟩ (fun v' hv' => ?_) (dd_ni hi))
    obtain ⟨sm', md', kn', cs', tb', hM', rfl⟩ := hv'
    refine nm_r (e' := dd_i ((dd_cl (dd_V1 L R B n) (dd_n i) &&& s) &&& ~~~dd_n i)) (by rw [dd_ni hi, dd_and, dd_andn]) (dd_brs (dd_n i) s (fun g => br_f (by decide) (y_closureOf hn (dd_n i) ⟨sm', md', kn', cs', tb', hM', rfl⟩ (fun v' hv' => ?_) (dd_ni hi))) (fun g => br_t rfl (nm_r (nI_1 i) (ih () (yT L R B n P pn ce rn sm' md' kn' cs' tb' st sy) rfl ⟨sm', md', kn', cs', tb', hM', rfl⟩ (dd_alS hJ ?_)))) (dd_ni hi))
    · obtain ⟨sm, md, kn, cs, tb, hM, rfl⟩ := hv'
      refine dd_brs s _ (fun g2 => nm_r (nI_1 i) (ih () (yT L R B n P pn ce rn sm md kn cs tb st sy) rfl ⟨sm, md, kn, cs, tb, hM, rfl⟩ (dd_alS hJ ?_))) (fun g2 => dd_brs ((dd_cl (dd_V1 L R B n) (dd_n i) &&& s) &&& ~~~dd_n i) (dd_un (fun t => dd_key (dd_V1 L R B n) s (dd_n t)) 64) (fun g3 => nm_r (nI_1 i) (ih () (yT L R B n P pn ce rn sm md kn cs tb st sy) rfl ⟨sm, md, kn, cs, tb, hM, rfl⟩ (dd_alS hJ ?_))) (fun g3 => ?_))
      · unfold dd_t3; rw [dd_sBt g2]; simp
      · unfold dd_t3; rw [dd_sBt g3]; simp
      · have w := h (yT L R B n P pn ce rn sm md kn cs tb st sy) ⟨sm, md, kn, cs, tb, hM, rfl⟩
        rw [dd_alF hi (by unfold dd_t3; rw [dd_sBt g, dd_sBf g2, dd_sBf g3]; rfl)] at w
        exact w
    · unfold dd_t3; rw [dd_sBf g]; rfl
theorem y_boyce {post : Int32 → SY → Prop} (hn : n ≤ 10) (s : dd_S) (hv : yO L R B n P pn ce rn st sy v)
    (h : ∀ v', yO L R B n P pn ce rn st sy v' → post (dd_b (dd_al (dd_bc (dd_V1 L R B n) s) 64)) v') : wpY_boyce post v (dd_i s) := by
  obtain ⟨sm, md, kn, cs, tb, hM, rfl⟩ := hv
  unfold wpY_boyce
  refine y_isSet s (br_f (by decide) ?_)
  refine yl (τ := Unit) (fun m i _ v => yc (wY_boyce_12 post (dd_i s) m (nI i)) v) (fun _ => ()) (fun i => dd_al (dd_bc (dd_V1 L R B n) s) i = true) (yO L R B n P pn ce rn st sy) 64 (yT L R B n P pn ce rn sm md kn cs tb st sy) ⟨sm, md, kn, cs, tb, hM, rfl⟩ rfl (fun m v hO hJ => ?_) (fun m i v hi hO hJ ih => ?_)
  · obtain ⟨sm, md, kn, cs, tb, hM, rfl⟩ := hO
    have w := h (yT L R B n P pn ce rn sm md kn cs tb st sy) ⟨sm, md, kn, cs, tb, hM, rfl⟩
    rw [hJ] at w
    exact br_t (nI_le (Nat.le_refl 64) (by decide)) w
  · obtain ⟨sm, md, kn, cs, tb, hM, rfl⟩ := hO
    refine br_f (nI_ge hi (by decide)) (y_closureOf hn (dd_n i) ⟨sm, md, kn, cs, tb, hM, rfl⟩ (fun v' hv' => ?_) (dd_ni hi))
    obtain ⟨sm', md', kn', cs', tb', hM', rfl⟩ := hv'
    refine nm_r (e' := dd_i ((dd_cl (dd_V1 L R B n) (dd_n i) &&& s) &&& ~~~dd_n i)) (by rw [dd_ni hi, dd_and, dd_andn]) (dd_brs (dd_n i) s (fun g => br_f (by decide) (dd_bre ((dd_cl (dd_V1 L R B n) (dd_n i) &&& s) &&& ~~~dd_n i) 0#6 (fun g2 => nm_r (nI_1 i) (ih () (yT L R B n P pn ce rn sm' md' kn' cs' tb' st sy) rfl ⟨sm', md', kn', cs', tb', hM', rfl⟩ (dd_alS hJ ?_))) (fun g2 => y_closureOf hn (dd_n i) ⟨sm', md', kn', cs', tb', hM', rfl⟩ (fun v' hv' => ?_) (dd_ni hi)))) (fun g => br_t rfl (nm_r (nI_1 i) (ih () (yT L R B n P pn ce rn sm' md' kn' cs' tb' st sy) rfl ⟨sm', md', kn', cs', tb', hM', rfl⟩ (dd_alS hJ ?_)))) (dd_ni hi))
    · unfold dd_bc; rw [decide_eq_true g2]; simp
    · obtain ⟨sm, md, kn, cs, tb, hM, rfl⟩ := hv'
      refine dd_brs s _ (fun g3 => nm_r (nI_1 i) (ih () (yT L R B n P pn ce rn sm md kn cs tb st sy) rfl ⟨sm, md, kn, cs, tb, hM, rfl⟩ (dd_alS hJ ?_))) (fun g3 => ?_)
      · unfold dd_bc; rw [dd_sBt g3]; simp
      · have w := h (yT L R B n P pn ce rn sm md kn cs tb st sy) ⟨sm, md, kn, cs, tb, hM, rfl⟩
        rw [dd_alF hi (by unfold dd_bc; rw [dd_sBt g, decide_eq_false g2, dd_sBf g3]; rfl)] at w
        exact w
    · unfold dd_bc; rw [dd_sBf g]; rfl
end
end
section
/-! the reference: stems, fourth form, needs, forget -/
theorem dd_vn0 : vp_nar .boolean 0 = dd_b false := rfl
theorem dd_vn1 : vp_nar .boolean 1 = dd_b true := rfl
theorem dd_addb (k : Nat) (b : Bool) : nI k + dd_b b = nI (if b = true then k + 1 else k) := by
  cases b
  · exact Int32.add_zero _
  · exact nI_1 k
section
variable {L R : Nat → dd_S} {B : Nat → Bool} {n : Nat} {P : Nat → dd_S} {pn : Nat} {ce : Nat → Int32} {rn : Nat} {st sy : Nat → Int32} {v : SY}
def dd_sf (cl : dd_S → dd_S) (i q : Nat) : Bool := !(dd_st cl i q && dd_sB (dd_n q) (dd_n i)) || dd_sB (cl (dd_n q)) (dd_n i)
theorem dd_stS (cl : dd_S → dd_S) (i q : Nat) : dd_st cl (i + 1) q = if q = i then (decide (cl (dd_n i) ≠ dd_n i) && dd_al (dd_sf cl i) i) else dd_st cl i q := rfl
def y_sI (L R : Nat → dd_S) (B : Nat → Bool) (n : Nat) (P : Nat → dd_S) (pn : Nat) (ce : Nat → Int32) (rn : Nat) (sy : Nat → Int32) (i : Nat) (b : Bool) (v : SY) : Prop :=
  ∃ st, (∀ q, q < i → st q = dd_b (dd_st (dd_cl (dd_V1 L R B n)) i q)) ∧ st i = dd_b b ∧ yO L R B n P pn ce rn st sy v
theorem y_fs30 {post : SY → Prop} {J : Int32 → Int32 → Int32 → Int32 → Int32 → Int64 → (Nat → Int32) → (Nat → Int32) → (Nat → Int32) → (Nat → Int32) → (Nat → Int32) → (Nat → Int32) → (Nat → Int32) → (Nat → Int64) → (Nat → Int32) → (Nat → Int32) → Prop}
    (hn : n ≤ 10) (i : Nat) (hi : i < 64) (A : Bool) (hv : y_sI L R B n P pn ce rn sy i A v)
    (hJ : ∀ v', y_sI L R B n P pn ce rn sy i (A && dd_al (dd_sf (dd_cl (dd_V1 L R B n)) i) i) v' → yc (J (nI (i + 1))) v') : ∃ m, yc (wY_findStems_30 post J (nI i) m 0) v := by
  refine pk_loop (fun m j v => yc (wY_findStems_30 post J (nI i) m (nI j)) v) (fun j v => y_sI L R B n P pn ce rn sy i (A && dd_al (dd_sf (dd_cl (dd_V1 L R B n)) i) j) v) i 0 v (Nat.zero_le i) (by rw [show (A && dd_al (dd_sf (dd_cl (dd_V1 L R B n)) i) 0) = A from Bool.and_true A]; exact hv) (fun m v hO => ?_) (fun m j v hj hO ih => ?_)
  · have w := hJ v hO
    obtain ⟨st, h1, h2, hO⟩ := hO
    obtain ⟨sm, md, kn, cs, tb, hM, rfl⟩ := hO
    exact br_t (nI_le (Nat.le_refl i) (by omega)) (nm_r (nI_1 i) w)
  · obtain ⟨st, h1, h2, hO⟩ := hO
    obtain ⟨sm, md, kn, cs, tb, hM, rfl⟩ := hO
    have ci : (nI i).toNatClampNeg = i := nI_clamp (by omega)
    have vi : vp_in (nI i) 64 := vp_in_nI hi (by decide)
    have go : ∀ z : Bool, z = (dd_st (dd_cl (dd_V1 L R B n)) i j && dd_sB (dd_n j) (dd_n i)) → wY_findStems_57 post J (wY_findStems_30 post J (nI i) m) (nI i) (nI j) (dd_b z) (nI n) (nI pn) (nI rn) sm md (fun d => dd_i (L d)) (fun d => dd_i (R d)) (fun d => dd_b (B d)) (fun d => dd_i (P d)) ce kn cs tb st sy := by
      intro z hz
      have fin : ∀ b sm' md' kn' cs' tb', yM (dd_V1 L R B n) kn' cs' tb' → b = (A && dd_al (dd_sf (dd_cl (dd_V1 L R B n)) i) (j + 1)) → yc (wY_findStems_30 post J (nI i) m (nI (j + 1))) (yT L R B n P pn ce rn sm' md' kn' cs' tb' (upd st i (dd_b b)) sy) := by
        intro b sm' md' kn' cs' tb' hM' e
        refine ih _ ⟨upd st i (dd_b b), fun q hq => ?_, ?_, sm', md', kn', cs', tb', hM', rfl⟩
        · rw [pk_un (by omega)]; exact h1 q hq
        · rw [pk_us, e]
      have eal : (A && dd_al (dd_sf (dd_cl (dd_V1 L R B n)) i) (j + 1)) = ((A && dd_al (dd_sf (dd_cl (dd_V1 L R B n)) i) j) && dd_sf (dd_cl (dd_V1 L R B n)) i j) := (Bool.and_assoc _ _ _).symm
      refine ⟨vi, ?_⟩
      rw [ci, h2]
      refine dd_br (fun g => ⟨vi, nm_r (e' := upd st i (dd_b false)) rfl (nm_r (nI_1 j) (fin false _ _ _ _ _ hM ?_))⟩) (fun g => dd_br (fun g2 => ⟨vi, nm_r (e' := upd st i (dd_b true)) rfl (nm_r (nI_1 j) (fin true _ _ _ _ _ hM ?_))⟩) (fun g2 => y_closureOf hn (dd_n j) ⟨sm, md, kn, cs, tb, hM, rfl⟩ (fun v' hv' => ?_) (dd_ni (by omega))))
      · rw [eal, g, Bool.false_and]
      · rw [eal, g, Bool.true_and]
        unfold dd_sf
        rw [← hz, g2]; rfl
      · obtain ⟨sm', md', kn', cs', tb', hM', rfl⟩ := hv'
        refine dd_brs _ (dd_n i) (fun g3 => ⟨vi, nm_r (e' := upd st i (dd_b true)) rfl (nm_r (nI_1 j) (fin true _ _ _ _ _ hM' ?_))⟩) (fun g3 => ⟨vi, nm_r (e' := upd st i (dd_b false)) rfl (nm_r (nI_1 j) (fin false _ _ _ _ _ hM' ?_))⟩) rfl (dd_ni hi)
        · rw [eal, g, Bool.true_and]
          unfold dd_sf
          rw [dd_sBt g3, Bool.or_true]
        · rw [eal, g, Bool.true_and]
          unfold dd_sf
          rw [← hz, g2, dd_sBf g3]; rfl
    refine br_f (nI_ge hj (by omega)) ⟨vp_in_nI (by omega) (by decide), ?_⟩
    refine dd_if (d := dd_st (dd_cl (dd_V1 L R B n)) i j = false) (show st (nI j).toNatClampNeg = 0 ↔ _ by rw [nI_clamp (by omega), h1 j hj, dd_b0]) (fun g => go false ?_) (fun g => dd_brs (dd_n j) (dd_n i) (fun g2 => go true ?_) (fun g2 => go false ?_) (dd_ni (by omega)) (dd_ni hi))
    · rw [g, Bool.false_and]
    · rw [ts_nf g, dd_sBt g2]; rfl
    · rw [dd_sBf g2, Bool.and_false]
theorem y_findStems {post : SY → Prop} (hn : n ≤ 10) (hv : yO L R B n P pn ce rn st sy v)
    (h : ∀ st' v', (∀ q, q < 64 → st' q = dd_b (dd_st (dd_cl (dd_V1 L R B n)) 64 q)) → yO L R B n P pn ce rn st' sy v' → post v') : wpY_findStems post v := by
  obtain ⟨sm, md, kn, cs, tb, hM, rfl⟩ := hv
  refine pk_loop (fun m i v => yc (wY_findStems_2 post m (nI i)) v) (fun i v => ∃ st, (∀ q, q < i → st q = dd_b (dd_st (dd_cl (dd_V1 L R B n)) i q)) ∧ yO L R B n P pn ce rn st sy v) 64 0 (yT L R B n P pn ce rn sm md kn cs tb st sy) (by decide) ⟨st, fun q hq => absurd hq (Nat.not_lt_zero q), ⟨sm, md, kn, cs, tb, hM, rfl⟩⟩ (fun m v hO => ?_) (fun m i v hi hO ih => ?_)
  · obtain ⟨st, h1, hO⟩ := hO
    obtain ⟨sm, md, kn, cs, tb, hM, rfl⟩ := hO
    exact br_t (nI_le (Nat.le_refl 64) (by decide)) (h st (yT L R B n P pn ce rn sm md kn cs tb st sy) h1 ⟨sm, md, kn, cs, tb, hM, rfl⟩)
  · obtain ⟨st, h1, hO⟩ := hO
    obtain ⟨sm, md, kn, cs, tb, hM, rfl⟩ := hO
    have ci : (nI i).toNatClampNeg = i := nI_clamp (by omega)
    have vi : vp_in (nI i) 64 := vp_in_nI hi (by decide)
    have nxt : ∀ v', y_sI L R B n P pn ce rn sy i (decide (dd_cl (dd_V1 L R B n) (dd_n i) ≠ dd_n i) && dd_al (dd_sf (dd_cl (dd_V1 L R B n)) i) i) v' → yc (wY_findStems_2 post m (nI (i + 1))) v' := by
      rintro v' ⟨st', h1', h2', hO'⟩
      refine ih v' ⟨st', fun q hq => ?_, hO'⟩
      rw [dd_stS]
      by_cases e : q = i
      · rw [if_pos e, e, h2']
      · rw [if_neg e]; exact h1' q (by omega)
    refine br_f (nI_ge hi (by decide)) (y_closureOf hn (dd_n i) ⟨sm, md, kn, cs, tb, hM, rfl⟩ (fun v' hv' => ?_) (dd_ni hi))
    obtain ⟨sm', md', kn', cs', tb', hM', rfl⟩ := hv'
    refine dd_bre _ (dd_n i) (fun g => ⟨vi, nm_r (e' := upd st i (dd_b false)) (by rw [ci]; rfl) ?_⟩) (fun g => ⟨vi, nm_r (e' := upd st i (dd_b true)) (by rw [ci]; rfl) ?_⟩) rfl (dd_ni hi)
    · exact y_fs30 (v := (yT L R B n P pn ce rn sm' md' kn' cs' tb' (upd st i (dd_b false)) sy)) hn i hi false ⟨upd st i (dd_b false), fun q hq => by rw [pk_un (by omega)]; exact h1 q hq, pk_us, sm', md', kn', cs', tb', hM', rfl⟩ (fun v' hv' => nxt v' (by rw [decide_eq_false (fun z => z g)]; exact hv'))
    · exact y_fs30 (v := (yT L R B n P pn ce rn sm' md' kn' cs' tb' (upd st i (dd_b true)) sy)) hn i hi true ⟨upd st i (dd_b true), fun q hq => by rw [pk_un (by omega)]; exact h1 q hq, pk_us, sm', md', kn', cs', tb', hM', rfl⟩ (fun v' hv' => nxt v' (by rw [decide_eq_true g]; exact hv'))
theorem y_stems {post : Int32 → SY → Prop} (hn : n ≤ 10) (hv : yO L R B n P pn ce rn st sy v)
    (h : ∀ st' v', yO L R B n P pn ce rn st' sy v' → post (nI (dd_cn (dd_st (dd_cl (dd_V1 L R B n)) 64) 64)) v') : wpY_stems post v := by
  obtain ⟨sm, md, kn, cs, tb, hM, rfl⟩ := hv
  unfold wpY_stems
  refine y_findStems hn ⟨sm, md, kn, cs, tb, hM, rfl⟩ fun st' v' hst hv' => ?_
  obtain ⟨sm', md', kn', cs', tb', hM', rfl⟩ := hv'
  have w := h st' _ ⟨sm', md', kn', cs', tb', hM', rfl⟩
  refine dd_lp (fun m i s => wY_stems_8 post (nI n) (nI pn) (nI rn) sm' md' (fun d => dd_i (L d)) (fun d => dd_i (R d)) (fun d => dd_b (B d)) (fun d => dd_i (P d)) ce kn' cs' tb' st' sy m (nI s) (nI i)) (dd_cn (dd_st (dd_cl (dd_V1 L R B n)) 64)) (fun _ => True) 64 0 (by decide) trivial (fun m _ => ?_) (fun m i _ hi _ ih => ?_)
  · exact br_t (nI_le (Nat.le_refl 64) (by decide)) w
  · refine br_f (nI_ge hi (by decide)) ⟨vp_in_nI hi (by decide), ?_⟩
    rw [show st' (nI i).toNatClampNeg = dd_b (dd_st (dd_cl (dd_V1 L R B n)) 64 i) by rw [nI_clamp (by omega)]; exact hst i hi]
    exact dd_br (fun g => nm_r (nI_1 i) (ih _ (dd_cnF g) trivial)) (fun g => nm_r (nI_1 _) (nm_r (nI_1 i) (ih _ (dd_cnT g) trivial)))
theorem y_stem {post : Int32 → SY → Prop} (hn : n ≤ 10) (a : Int32) (hv : yO L R B n P pn ce rn st sy v)
    (h : ∀ st' v', yO L R B n P pn ce rn st' sy v' → post (dd_at (dd_st (dd_cl (dd_V1 L R B n)) 64) a 64 0 0) v') : wpY_stem post v a := by
  obtain ⟨sm, md, kn, cs, tb, hM, rfl⟩ := hv
  unfold wpY_stem
  refine y_findStems hn ⟨sm, md, kn, cs, tb, hM, rfl⟩ fun st' v' hst hv' => ?_
  obtain ⟨sm', md', kn', cs', tb', hM', rfl⟩ := hv'
  have w := h st' _ ⟨sm', md', kn', cs', tb', hM', rfl⟩
  have key : ∀ d t b, d + t = 64 → post (dd_at (dd_st (dd_cl (dd_V1 L R B n)) 64) a d t b) (yT L R B n P pn ce rn sm' md' kn' cs' tb' st' sy) → wY_stem_8 post a (nI n) (nI pn) (nI rn) sm' md' (fun d => dd_i (L d)) (fun d => dd_i (R d)) (fun d => dd_b (B d)) (fun d => dd_i (P d)) ce kn' cs' tb' st' sy (d + 1) (nI b) (nI t) := by
    intro d
    induction d with
    | zero => exact fun t b e h => br_t (nI_le (a := 64) (by omega) (by omega)) h
    | succ d ih =>
      intro t b e h
      refine br_f (nI_ge (b := 64) (by omega) (by decide)) ⟨vp_in_nI (by omega) (by decide), ?_⟩
      rw [show st' (nI t).toNatClampNeg = dd_b (dd_st (dd_cl (dd_V1 L R B n)) 64 t) by rw [nI_clamp (by omega)]; exact hst t (by omega)]
      refine dd_br (fun g => nm_r (nI_1 t) (ih (t + 1) b (by omega) ?_)) (fun g => br_c (fun g2 => ?_) (fun g2 => nm_r (nI_1 b) (nm_r (nI_1 t) (ih (t + 1) (b + 1) (by omega) ?_))))
      · have e2 : dd_at (dd_st (dd_cl (dd_V1 L R B n)) 64) a (d + 1) t b = dd_at (dd_st (dd_cl (dd_V1 L R B n)) 64) a d (t + 1) b := if_neg fun z => by rw [g] at z; exact absurd z (by decide)
        rw [e2] at h; exact h
      · have e2 : dd_at (dd_st (dd_cl (dd_V1 L R B n)) 64) a (d + 1) t b = nI t := (if_pos g).trans (if_pos g2)
        rw [e2] at h; exact h
      · have e2 : dd_at (dd_st (dd_cl (dd_V1 L R B n)) 64) a (d + 1) t b = dd_at (dd_st (dd_cl (dd_V1 L R B n)) 64) a d (t + 1) (b + 1) := (if_pos g).trans (if_neg g2)
        rw [e2] at h; exact h
  exact ⟨65, key 64 0 0 rfl w⟩
def dd_g4 (p : Nat → Bool) (x y : dd_S) : Bool := !((!dd_sB y x && (!decide (x ||| y = 63#6) && !decide (dd_cl p x = 63#6))) && dd_aK p x y true)
theorem dd_f4g (p : Nat → Bool) (x : Nat) : dd_f4 p x = dd_al (fun y => dd_g4 p (dd_n x) (dd_n y)) 64 := by
  unfold dd_f4 dd_bm
  by_cases h : dd_cl p (dd_n x) = 63#6
  · rw [decide_eq_true h, (dd_alI.mpr fun d _ => by unfold dd_g4; rw [decide_eq_true h]; simp : dd_al (fun y => dd_g4 p (dd_n x) (dd_n y)) 64 = true)]; rfl
  · rw [decide_eq_false h, Bool.not_false, Bool.true_and, Bool.not_not]
    refine dd_alX fun d _ => ?_
    unfold dd_g4
    rw [decide_eq_false h, Bool.not_false, Bool.and_true, Bool.and_assoc]
theorem y_fourth {post : Int32 → SY → Prop} (hn : n ≤ 10) (hv : yO L R B n P pn ce rn st sy v)
    (h : ∀ v', yO L R B n P pn ce rn st sy v' → post (dd_b (dd_al (dd_f4 (dd_V1 L R B n)) 64)) v') : wpY_fourth post v := by
  obtain ⟨sm, md, kn, cs, tb, hM, rfl⟩ := hv
  refine yl (τ := Unit) (fun m i _ v => yc (wY_fourth_2 post m (nI i)) v) (fun _ => ()) (fun i => dd_al (dd_f4 (dd_V1 L R B n)) i = true) (yO L R B n P pn ce rn st sy) 64 (yT L R B n P pn ce rn sm md kn cs tb st sy) ⟨sm, md, kn, cs, tb, hM, rfl⟩ rfl (fun m v hO hJ => ?_) (fun m i v hi hO hJ ih => ?_)
  · obtain ⟨sm, md, kn, cs, tb, hM, rfl⟩ := hO
    have w := h (yT L R B n P pn ce rn sm md kn cs tb st sy) ⟨sm, md, kn, cs, tb, hM, rfl⟩
    rw [hJ] at w
    exact br_t (nI_le (Nat.le_refl 64) (by decide)) w
  · obtain ⟨sm, md, kn, cs, tb, hM, rfl⟩ := hO
    refine br_f (nI_ge hi (by decide)) ?_
    refine yl (τ := Unit) (fun m' j _ v => yc (wY_fourth_10 post (wY_fourth_2 post m) (nI i) m' (nI j)) v) (fun _ => ()) (fun j => dd_al (fun y => dd_g4 (dd_V1 L R B n) (dd_n i) (dd_n y)) j = true) (yO L R B n P pn ce rn st sy) 64 (yT L R B n P pn ce rn sm md kn cs tb st sy) ⟨sm, md, kn, cs, tb, hM, rfl⟩ rfl (fun m' v hO hJ2 => ?_) (fun m' j v hj hO hJ2 ih2 => ?_)
    · obtain ⟨sm, md, kn, cs, tb, hM, rfl⟩ := hO
      exact br_t (nI_le (Nat.le_refl 64) (by decide)) (nm_r (nI_1 i) (ih () (yT L R B n P pn ce rn sm md kn cs tb st sy) rfl ⟨sm, md, kn, cs, tb, hM, rfl⟩ (dd_alS hJ (by rw [dd_f4g]; exact hJ2))))
    · obtain ⟨sm, md, kn, cs, tb, hM, rfl⟩ := hO
      have bad : dd_g4 (dd_V1 L R B n) (dd_n i) (dd_n j) = false → dd_al (dd_f4 (dd_V1 L R B n)) 64 = false := fun z => dd_alF hi (by rw [dd_f4g]; exact dd_alF hj z)
      refine br_f (nI_ge hj (by decide)) (dd_brs (dd_n j) (dd_n i) (fun g => br_f (by decide) (nm_r (nI_1 j) (ih2 () (yT L R B n P pn ce rn sm md kn cs tb st sy) rfl ⟨sm, md, kn, cs, tb, hM, rfl⟩ (dd_alS hJ2 ?_)))) (fun g => dd_bre (dd_n i ||| dd_n j) 63#6 (fun g2 => br_f (by decide) (nm_r (nI_1 j) (ih2 () (yT L R B n P pn ce rn sm md kn cs tb st sy) rfl ⟨sm, md, kn, cs, tb, hM, rfl⟩ (dd_alS hJ2 ?_)))) (fun g2 => y_closureOf hn (dd_n i) ⟨sm, md, kn, cs, tb, hM, rfl⟩ (fun v' hv' => ?_) (dd_ni hi)) (by rw [dd_ni hi, dd_ni hj, dd_or])) (dd_ni hj) (dd_ni hi))
      · unfold dd_g4; rw [dd_sBt g]; simp
      · unfold dd_g4; rw [decide_eq_true g2]; simp
      · obtain ⟨sm', md', kn', cs', tb', hM', rfl⟩ := hv'
        refine dd_bre _ 63#6 (fun g3 => br_f (by decide) (nm_r (nI_1 j) (ih2 () (yT L R B n P pn ce rn sm' md' kn' cs' tb' st sy) rfl ⟨sm', md', kn', cs', tb', hM', rfl⟩ (dd_alS hJ2 ?_)))) (fun g3 => br_t rfl (y_isBundle hn (dd_n i) (dd_n j) ⟨sm', md', kn', cs', tb', hM', rfl⟩ (fun v' hv' => ?_) (dd_ni hi) (dd_ni hj)))
        · unfold dd_g4; rw [decide_eq_true g3]; simp
        · obtain ⟨sm, md, kn, cs, tb, hM, rfl⟩ := hv'
          refine dd_br (fun g4 => nm_r (nI_1 j) (ih2 () (yT L R B n P pn ce rn sm md kn cs tb st sy) rfl ⟨sm, md, kn, cs, tb, hM, rfl⟩ (dd_alS hJ2 ?_))) (fun g4 => ?_)
          · unfold dd_g4; rw [g4]; simp
          · have w := h (yT L R B n P pn ce rn sm md kn cs tb st sy) ⟨sm, md, kn, cs, tb, hM, rfl⟩
            rw [bad (by unfold dd_g4; rw [dd_sBf g, decide_eq_false g2, decide_eq_false g3, g4]; rfl)] at w
            exact w
theorem y_bits {post : Int32 → Prop} {p : Int32} (c : Nat) (hv : yO L R B n P pn ce rn st sy v) (h : post (nI (dd_cn (fun t => c.testBit t) 10))) (hp : p = nI c := by rfl) : wpY_bits post v p := by
  subst hp
  obtain ⟨sm, md, kn, cs, tb, hM, rfl⟩ := hv
  refine dd_lp (fun m i s => wY_bits_4 post (nI c) (nI n) (nI pn) (nI rn) sm md (fun d => dd_i (L d)) (fun d => dd_i (R d)) (fun d => dd_b (B d)) (fun d => dd_i (P d)) ce kn cs tb st sy m (nI s) (nI i)) (dd_cn (fun t => c.testBit t)) (fun _ => True) 10 0 (by decide) trivial (fun m _ => ?_) (fun m i _ hi _ ih => ?_)
  · exact br_t (nI_le (Nat.le_refl 10) (by decide)) h
  · exact br_f (nI_ge hi (by decide)) (nm_r (e' := nI (dd_cn (fun t => c.testBit t) (i + 1))) (by rw [dd_nbit c (by omega), dd_addb]; rfl) (nm_r (nI_1 i) (ih _ rfl trivial)))
theorem y_needs {post : Int32 → SY → Prop} (hn : n ≤ 10) (x y : dd_S) (hv : yO L R B n P pn ce rn st sy v)
    (h : ∀ v', yO L R B n P pn ce rn st sy v' → post (dd_lst (dd_nd (dd_ok L R B n x y) (2 ^ n))) v') : wpY_needs post v (dd_i x) (dd_i y) := by
  obtain ⟨sm, md, kn, cs, tb, hM, rfl⟩ := hv
  unfold wpY_needs
  have h2 := dd_2n1 n (by omega)
  refine y_isSet x (br_f (by decide) (y_isSet y (br_f (by decide) ?_)))
  refine yl (τ := Nat) (fun m i s v => yc (wY_needs_24 post (dd_i x) (dd_i y) m (nI s) (nI i)) v) (dd_nd (dd_ok L R B n x y)) (fun _ => True) (yO L R B n P pn ce rn st sy) (2 ^ n) (yT L R B n P pn ce rn sm md kn cs tb st sy) ⟨sm, md, kn, cs, tb, hM, rfl⟩ trivial (fun m v hO _ => ?_) (fun m i v hi hO _ ih => ?_)
  · obtain ⟨sm, md, kn, cs, tb, hM, rfl⟩ := hO
    have w := h (yT L R B n P pn ce rn sm md kn cs tb st sy) ⟨sm, md, kn, cs, tb, hM, rfl⟩
    have le11 := dd_ndle (dd_ok L R B n x y) (2 ^ n)
    refine pk_le (2 ^ n) (2 ^ n) (fun _ => pk_eq (dd_nd (dd_ok L R B n x y) (2 ^ n)) 11 (fun g => ?_) (fun g => ?_)) (fun z => absurd z (Nat.lt_irrefl _)) (dd_2n n (by omega)) rfl (by omega) (by omega)
    · rw [g] at w; exact w
    · have e : dd_lst (dd_nd (dd_ok L R B n x y) (2 ^ n)) = nI (dd_nd (dd_ok L R B n x y) (2 ^ n)) := if_neg g
      rw [e] at w; exact w
  · obtain ⟨sm, md, kn, cs, tb, hM, rfl⟩ := hO
    have le10 := dd_cnle (fun t => i.testBit t) 10
    have le11 := dd_ndle (dd_ok L R B n x y) i
    refine pk_le (2 ^ n) i (fun z => absurd hi (by omega)) (fun _ => y_bits i ⟨sm, md, kn, cs, tb, hM, rfl⟩ (pk_le (dd_nd (dd_ok L R B n x y) i) (dd_cn (fun t => i.testBit t) 10) (fun z => nm_r (nI_1 i) (ih _ (yT L R B n P pn ce rn sm md kn cs tb st sy) (if_neg fun w => absurd w.1 (by omega)).symm ⟨sm, md, kn, cs, tb, hM, rfl⟩ trivial)) (fun z => y_grow hn i x fun md' _ => ?_))) (dd_2n n (by omega)) rfl (by omega) (by omega)
    refine dd_brs y (dd_cl (dd_v L R B n (fun d => i.testBit d)) x) (fun g => nm_r (nI_1 i) (ih _ (yT L R B n P pn ce rn (dd_i (dd_cl (dd_v L R B n (fun d => i.testBit d)) x)) md' kn cs tb st sy) (if_pos ⟨z, dd_sBt g⟩).symm ⟨_, _, _, _, _, hM, rfl⟩ trivial)) (fun g => nm_r (nI_1 i) (ih _ (yT L R B n P pn ce rn (dd_i (dd_cl (dd_v L R B n (fun d => i.testBit d)) x)) md' kn cs tb st sy) (if_neg fun w => ?_).symm ⟨_, _, _, _, _, hM, rfl⟩ trivial))
    have w2 := w.2
    unfold dd_ok at w2
    rw [dd_sBf g] at w2
    exact absurd w2 (by decide)
theorem y_forget {post : SY → Prop} {sm : Int32} {md : Int64} {kn cs : Nat → Int32} {tb : Nat → Int64} (h : ∀ kn', (∀ q, q < 64 → kn' q = 0) → post (yT L R B n P pn ce rn sm md kn' cs tb st sy)) :
    wpY_forget post (yT L R B n P pn ce rn sm md kn cs tb st sy) := by
  refine pk_loop (fun m i kn => wY_forget_2 post (nI n) (nI pn) (nI rn) sm md m (nI i) (fun d => dd_i (L d)) (fun d => dd_i (R d)) (fun d => dd_b (B d)) (fun d => dd_i (P d)) ce kn cs tb st sy) (fun i kn => ∀ q, q < i → kn q = 0) 64 0 kn (by decide) (fun q hq => absurd hq (Nat.not_lt_zero q)) (fun m kn hI => ?_) (fun m i kn hi hI ih => ?_)
  · exact br_t (nI_le (Nat.le_refl 64) (by decide)) (h kn hI)
  · refine br_f (nI_ge hi (by decide)) ⟨vp_in_nI hi (by decide), nm_r (e' := upd kn i 0) (by rw [nI_clamp (by omega)]; rfl) (nm_r (nI_1 i) (ih _ fun q hq => ?_))⟩
    by_cases e : q = i
    · rw [e, pk_us]
    · rw [pk_un e]; exact hI q (by omega)
end
end
section
/-! the table at hand, on both sides -/
theorem dd_ixX (r c : Nat) : nI r * 6 + nI c = nI (6 * r + c) := by
  show nI r * nI 6 + nI c = _
  rw [pk_mul, nI_add, Nat.mul_comm]
theorem dd_ixY (r c : Nat) : 6 * nI r + nI c = nI (6 * r + c) := by
  show nI 6 * nI r + nI c = _
  rw [pk_mul, nI_add]
theorem dd_ofT {q : Nat → Bool} {i : Nat} (h : q i = true) : dd_of q i ||| dd_e i = dd_of q (i + 1) := (if_pos h).symm
theorem dd_ofF {q : Nat → Bool} {i : Nat} (h : q i = false) : dd_of q i = dd_of q (i + 1) := (if_neg (by rw [h]; decide)).symm
/-- where rows r and s agree -/
def dd_ag (ce : Nat → Int32) (r s : Nat) : dd_S := dd_of (fun c => decide (ce (6 * r + c) = ce (6 * s + c))) 6
/-- the sets in which two rows agree, the pairs before (r, s) -/
def dd_ags (ce : Nat → Int32) (r s : Nat) (T : dd_S) : Prop := ∃ r' s', s' < r' ∧ (r' < r ∨ (r' = r ∧ s' < s)) ∧ dd_ag ce r' s' = T
theorem dd_ags1 {ce : Nat → Int32} {r s : Nat} {T : dd_S} (hs : s < r) : dd_ags ce r (s + 1) T ↔ dd_ags ce r s T ∨ dd_ag ce r s = T := by
  constructor
  · rintro ⟨r', s', h1, h2, h3⟩
    rcases h2 with h2 | ⟨h2, h4⟩
    · exact Or.inl ⟨r', s', h1, Or.inl h2, h3⟩
    · rcases Nat.lt_or_ge s' s with z | z
      · exact Or.inl ⟨r', s', h1, Or.inr ⟨h2, z⟩, h3⟩
      · rw [h2, show s' = s by omega] at h3
        exact Or.inr h3
  · rintro (⟨r', s', h1, h2, h3⟩ | h)
    · refine ⟨r', s', h1, ?_, h3⟩
      rcases h2 with h2 | ⟨h2, h4⟩
      · exact Or.inl h2
      · exact Or.inr ⟨h2, by omega⟩
    · exact ⟨r, s, hs, Or.inr ⟨rfl, by omega⟩, h⟩
theorem dd_ags2 {ce : Nat → Int32} {r : Nat} {T : dd_S} : dd_ags ce (r + 1) 0 T ↔ dd_ags ce r r T := by
  constructor
  · rintro ⟨r', s', h1, h2, h3⟩
    refine ⟨r', s', h1, ?_, h3⟩
    rcases Nat.lt_or_ge r' r with z | z
    · exact Or.inl z
    · exact Or.inr ⟨by omega, by omega⟩
  · rintro ⟨r', s', h1, h2, h3⟩
    exact ⟨r', s', h1, Or.inl (by omega), h3⟩
theorem dd_ags0 {ce : Nat → Int32} {r : Nat} (hr : r ≤ 1) {T : dd_S} : ¬ dd_ags ce r 0 T := by
  rintro ⟨r', s', h1, h2, h3⟩
  omega
noncomputable def dd_agf (ce : Nat → Int32) (rn : Nat) (t : Nat) : Bool := @decide (dd_ags ce rn 0 (dd_n t)) (Classical.propDecidable _)
theorem dd_agfI {ce : Nat → Int32} {rn t : Nat} : dd_agf ce rn t = true ↔ dd_ags ce rn 0 (dd_n t) := by
  unfold dd_agf; exact @decide_eq_true_iff _ (Classical.propDecidable _)
/-- z is the meet of the sets before (r, s) that hold x -/
def dd_kp (ce : Nat → Int32) (r s : Nat) (x z : dd_S) : Prop := ∀ c, c < 6 → (z.getLsbD c = true ↔ ∀ T, dd_ags ce r s T → dd_sub x T → T.getLsbD c = true)
theorem dd_kpE {ce : Nat → Int32} {rn : Nat} {x z : dd_S} (h : dd_kp ce rn 0 x z) : z = dd_cl (dd_agf ce rn) x := dd_clU fun c hc => by
  rw [h c hc]
  refine ⟨fun g T h1 h2 => g T ?_ h2, fun g T h1 h2 => g T ?_ h2⟩
  · have := dd_agfI.mp h1
    rwa [dd_nn] at this
  · rw [dd_agfI, dd_nn]; exact h1
def dd_mx (ce : Nat → Int32) (rn r s : Nat) (z : dd_S) : Bool := !dd_al (fun t => !(dd_sB z (dd_ag ce t r) && dd_sB (~~~z) (dd_ag ce t s))) rn
def dd_kb (ce : Nat → Int32) (rn : Nat) (x y : dd_S) (r s : Nat) : Bool := !(dd_sB x (dd_ag ce r s) && !dd_mx ce rn r s (x ||| y))
def dd_sum (f : Nat → Nat) : Nat → Nat
  | 0 => 0
  | n + 1 => dd_sum f n + f n
section
variable {L R : Nat → dd_S} {B : Nat → Bool} {n : Nat} {P : Nat → dd_S} {pn : Nat} {ce : Nat → Int32} {rn : Nat} {mk : Nat → Int32}
theorem x_agreedBy {post : Int32 → Prop} {p q : Int32} (r s : Nat) (hr : r < 6) (hs : s < 6) (h : post (dd_i (dd_ag ce r s))) (hp : p = nI r := by rfl) (hq : q = nI s := by rfl) : wpX_agreedBy post (xT L R B n P pn ce rn mk) p q := by
  subst hp hq
  refine dd_lp (fun m i z => wX_agreedBy_5 post (nI r) (nI s) (nI n) (nI pn) (nI rn) (fun d => dd_i (L d)) (fun d => dd_i (R d)) (fun d => dd_b (B d)) (fun d => dd_i (P d)) ce mk m (dd_i z) (nI i)) (dd_of (fun c => decide (ce (6 * r + c) = ce (6 * s + c)))) (fun _ => True) 6 0 (by decide) trivial (fun m _ => ?_) (fun m i _ hi _ ih => ?_)
  · exact br_t (nI_le (Nat.le_refl 6) (by decide)) h
  · refine br_f (nI_ge hi (by decide)) ⟨by rw [dd_ixX]; exact vp_in_nI (by omega) (by decide), by rw [dd_ixX]; exact vp_in_nI (by omega) (by decide),
      dd_if (d := ce (6 * r + i) = ce (6 * s + i)) (by rw [dd_ixX, dd_ixX, nI_clamp (by omega), nI_clamp (by omega)]) (fun g => nm_r (e' := dd_i (dd_of (fun c => decide (ce (6 * r + c) = ce (6 * s + c))) i ||| dd_e i)) (by rw [dd_1 i hi, dd_or]) (nm_r (nI_1 i) (ih _ (dd_ofT (decide_eq_true g)) trivial))) (fun g => nm_r (nI_1 i) (ih _ (dd_ofF (decide_eq_false g)) trivial))⟩
theorem x_agreedSets {post : Int64 → Prop} (hr : rn ≤ 6) (h : ∀ f, (∀ t, t < 64 → dd_m f t = dd_agf ce rn t) → post f) : wpX_agreedSets post (xT L R B n P pn ce rn mk) := by
  have key : ∃ m, wX_agreedSets_4 post (nI n) (nI pn) (nI rn) (fun d => dd_i (L d)) (fun d => dd_i (R d)) (fun d => dd_b (B d)) (fun d => dd_i (P d)) ce mk m 0 (nI 1) := by
    rcases Nat.lt_or_ge rn 1 with z | z
    · refine ⟨1, br_t (nI_le (by omega) (by decide)) (h 0 fun t _ => ?_)⟩
      rw [dd_mz]
      exact (ts_nt fun w => dd_ags0 (by omega) (dd_agfI.mp w)).symm
    · refine pk_loop (fun m i f => wX_agreedSets_4 post (nI n) (nI pn) (nI rn) (fun d => dd_i (L d)) (fun d => dd_i (R d)) (fun d => dd_b (B d)) (fun d => dd_i (P d)) ce mk m f (nI i)) (fun i f => ∀ T : dd_S, dd_P f T ↔ dd_ags ce i 0 T) rn 1 0 z (fun T => ⟨fun w => by unfold dd_P at w; rw [dd_mz] at w; exact absurd w (by decide), fun w => absurd w (dd_ags0 (Nat.le_refl 1))⟩) (fun m f hI => ?_) (fun m i f hi hI ih => ?_)
      · refine br_t (nI_le (Nat.le_refl rn) (by omega)) (h f fun t ht => Bool.eq_iff_iff.mpr ?_)
        rw [dd_agfI, ← hI]; unfold dd_P; rw [dd_nt ht]
      · refine br_f (nI_ge hi (by omega)) ?_
        refine pk_loop (fun m' j f => wX_agreedSets_15 post (wX_agreedSets_4 post (nI n) (nI pn) (nI rn) (fun d => dd_i (L d)) (fun d => dd_i (R d)) (fun d => dd_b (B d)) (fun d => dd_i (P d)) ce mk m) (nI i) (nI n) (nI pn) (nI rn) (fun d => dd_i (L d)) (fun d => dd_i (R d)) (fun d => dd_b (B d)) (fun d => dd_i (P d)) ce mk m' f (nI j)) (fun j f => ∀ T : dd_S, dd_P f T ↔ dd_ags ce i j T) i 0 f (Nat.zero_le i) hI (fun m' f hI2 => ?_) (fun m' j f hj hI2 ih2 => ?_)
        · exact br_t (nI_le (Nat.le_refl i) (by omega)) (nm_r (nI_1 i) (ih f fun T => (hI2 T).trans dd_ags2.symm))
        · refine br_f (nI_ge hj (by omega)) (x_agreedBy i j (by omega) (by omega) (nm_e (nm_r (nI_1 j) (ih2 _ fun T => ?_))))
          have e : dd_m (f ||| ((1 : Int64) <<< ((dd_i (dd_ag ce i j)).toInt64 &&& 63))) T.toNat = (dd_m f T.toNat || decide ((dd_ag ce i j).toNat = T.toNat)) := dd_set f (dd_nlt _) _
          rw [dd_ags1 hj, ← hI2]
          unfold dd_P
          rw [e, Bool.or_eq_true, decide_eq_true_eq]
          exact ⟨fun w => w.imp id BitVec.eq_of_toNat_eq, fun w => w.imp id fun w => by rw [w]⟩
  exact key
theorem x_keeps {post : Int32 → Prop} (hr : rn ≤ 6) (x y : dd_S) (h : post (dd_b (dd_sB y (dd_cl (dd_agf ce rn) x)))) : wpX_keeps post (xT L R B n P pn ce rn mk) (dd_i x) (dd_i y) := by
  unfold wpX_keeps
  refine x_isSet x (br_f (by decide) (x_isSet y (br_f (by decide) (x_agreedSets hr fun f hf => x_allKeep x y false ⟨dd_bn _, ?_⟩))))
  rw [dd_aKc, dd_clE hf]; exact h
theorem x_hasMixedRow {post : Int32 → Prop} {p q w : Int32} (hr : rn ≤ 6) (r s : Nat) (hr1 : r < 6) (hs1 : s < 6) (z : dd_S) (h : post (dd_b (dd_mx ce rn r s z))) (hp : p = nI r := by rfl) (hq : q = nI s := by rfl) (hw : w = dd_i z := by rfl) : wpX_hasMixedRow post (xT L R B n P pn ce rn mk) p q w := by
  subst hp hq hw
  unfold dd_mx at h
  refine dd_lp (σ := Unit) (fun m i _ => wX_hasMixedRow_3 post (nI r) (nI s) (dd_i z) (nI n) (nI pn) (nI rn) (fun d => dd_i (L d)) (fun d => dd_i (R d)) (fun d => dd_b (B d)) (fun d => dd_i (P d)) ce mk m (nI i)) (fun _ => ()) (fun i => dd_al (fun t => !(dd_sB z (dd_ag ce t r) && dd_sB (~~~z) (dd_ag ce t s))) i = true) rn 0 (Nat.zero_le rn) rfl (fun m hJ => ?_) (fun m i _ hi hJ ih => ?_)
  · rw [hJ] at h
    exact br_t (nI_le (Nat.le_refl rn) (by omega)) h
  · refine br_f (nI_ge hi (by omega)) (x_agreedBy i r (by omega) hr1 (x_agreedBy i s (by omega) hs1 (x_isWithin z (dd_ag ce i r) (dd_br (fun g => nm_r (nI_1 i) (ih () rfl (dd_alS hJ ?_))) (fun g => x_isWithin (~~~z) (dd_ag ce i s) (dd_br (fun g2 => nm_r (nI_1 i) (ih () rfl (dd_alS hJ ?_))) (fun g2 => ?_)) (dd_63n z))))))
    · rw [g]; rfl
    · rw [g2, Bool.and_false]; rfl
    · rw [dd_alF (q := fun t => !(dd_sB z (dd_ag ce t r) && dd_sB (~~~z) (dd_ag ce t s))) hi (by rw [g, g2]; rfl)] at h
      exact h
theorem x_keepsBundled {post : Int32 → Prop} (hr : rn ≤ 6) (x y : dd_S) (h : post (dd_b (dd_al (fun r => dd_al (dd_kb ce rn x y r) rn) rn))) : wpX_keepsBundled post (xT L R B n P pn ce rn mk) (dd_i x) (dd_i y) := by
  unfold wpX_keepsBundled
  refine x_isSet x (br_f (by decide) (x_isSet y (br_f (by decide) ?_)))
  refine dd_lp (σ := Unit) (fun m i _ => wX_keepsBundled_18 post (dd_i x) (dd_i y) (nI n) (nI pn) (nI rn) (fun d => dd_i (L d)) (fun d => dd_i (R d)) (fun d => dd_b (B d)) (fun d => dd_i (P d)) ce mk m (nI i)) (fun _ => ()) (fun i => dd_al (fun r => dd_al (dd_kb ce rn x y r) rn) i = true) rn 0 (Nat.zero_le rn) rfl (fun m hJ => ?_) (fun m i _ hi hJ ih => ?_)
  · rw [hJ] at h
    exact br_t (nI_le (Nat.le_refl rn) (by omega)) h
  · refine br_f (nI_ge hi (by omega)) ?_
    refine dd_lp (σ := Unit) (fun m' j _ => wX_keepsBundled_29 post (wX_keepsBundled_18 post (dd_i x) (dd_i y) (nI n) (nI pn) (nI rn) (fun d => dd_i (L d)) (fun d => dd_i (R d)) (fun d => dd_b (B d)) (fun d => dd_i (P d)) ce mk m) (dd_i x) (dd_i y) (nI i) (nI n) (nI pn) (nI rn) (fun d => dd_i (L d)) (fun d => dd_i (R d)) (fun d => dd_b (B d)) (fun d => dd_i (P d)) ce mk m' (nI j)) (fun _ => ()) (fun j => dd_al (dd_kb ce rn x y i) j = true) rn 0 (Nat.zero_le rn) rfl (fun m' hJ2 => ?_) (fun m' j _ hj hJ2 ih2 => ?_)
    · exact br_t (nI_le (Nat.le_refl rn) (by omega)) (nm_r (nI_1 i) (ih () rfl (dd_alS hJ hJ2)))
    · refine br_f (nI_ge hj (by omega)) (x_agreedBy i j (by omega) (by omega) (x_isWithin x (dd_ag ce i j) (dd_br (fun g => nm_r (nI_1 j) (ih2 () rfl (dd_alS hJ2 ?_))) (fun g => x_hasMixedRow hr i j (by omega) (by omega) (x ||| y) (dd_br (fun g2 => ?_) (fun g2 => nm_r (nI_1 j) (ih2 () rfl (dd_alS hJ2 ?_)))) rfl rfl (dd_or x y)))))
      · unfold dd_kb; rw [g]; rfl
      · rw [dd_alF (q := fun r => dd_al (dd_kb ce rn x y r) rn) hi (dd_alF hj (by unfold dd_kb; rw [g, g2]; rfl))] at h
        exact h
      · unfold dd_kb; rw [g2]; simp
theorem x_discovered {post : Int32 → Prop} (hr : rn ≤ 6) (h : post (nI (dd_sum (fun x => dd_cn (dd_ds (dd_cl (dd_agf ce rn)) (dd_n x)) 6) 64))) : wpX_discovered post (xT L R B n P pn ce rn mk) := by
  unfold wpX_discovered
  refine x_agreedSets hr fun f hf => ?_
  refine dd_lp (fun m i s => wX_discovered_10 post f (nI n) (nI pn) (nI rn) (fun d => dd_i (L d)) (fun d => dd_i (R d)) (fun d => dd_b (B d)) (fun d => dd_i (P d)) ce mk m (nI s) (nI i)) (dd_sum (fun x => dd_cn (dd_ds (dd_cl (dd_agf ce rn)) (dd_n x)) 6)) (fun _ => True) 64 0 (by decide) trivial (fun m _ => ?_) (fun m i _ hi _ ih => ?_)
  · exact br_t (nI_le (Nat.le_refl 64) (by decide)) h
  · refine br_f (nI_ge hi (by decide)) (x_closureIn (dd_n i) (nm_r (e' := dd_i (dd_cl (dd_m f) (dd_n i) &&& ~~~dd_n i)) (by rw [dd_ni hi, dd_andn]) (x_reachedFromLess (dd_n i) (x_sizeOf ?_) (dd_ni hi))) (dd_ni hi))
    rw [dd_andn, dd_cnX fun t ht => dd_mS _ ht, dd_dsc, dd_clE hf]
    exact nm_r (nI_add _ _) (nm_r (nI_1 i) (ih _ rfl trivial))
theorem x_agreements {post : Int32 → Prop} (hr : rn ≤ 6) (h : post (nI (dd_cn (dd_agf ce rn) 64))) : wpX_agreements post (xT L R B n P pn ce rn mk) := by
  unfold wpX_agreements
  refine x_agreedSets hr fun f hf => x_sizeOf ?_
  rw [dd_cnX hf]; exact h
theorem x_exact {post : Int32 → Prop} (hn : n ≤ 10) (hr : rn ≤ 6) (h : post (dd_b (dd_al (fun x => decide (dd_cl (dd_V1 L R B n) (dd_n x) = dd_cl (dd_agf ce rn) (dd_n x))) 64))) : wpX_exact post (xT L R B n P pn ce rn mk) := by
  unfold wpX_exact
  refine x_pairsAll hn fun f hf => x_agreedSets hr fun g hg => ?_
  refine dd_lp (σ := Unit) (fun m i _ => wX_exact_16 post f g (nI n) (nI pn) (nI rn) (fun d => dd_i (L d)) (fun d => dd_i (R d)) (fun d => dd_b (B d)) (fun d => dd_i (P d)) ce mk m (nI i)) (fun _ => ()) (fun i => dd_al (fun x => decide (dd_cl (dd_V1 L R B n) (dd_n x) = dd_cl (dd_agf ce rn) (dd_n x))) i = true) 64 0 (by decide) rfl (fun m hJ => ?_) (fun m i _ hi hJ ih => ?_)
  · rw [hJ] at h
    exact br_t (nI_le (Nat.le_refl 64) (by decide)) h
  · refine br_f (nI_ge hi (by decide)) (x_closureIn (dd_n i) (x_closureIn (dd_n i) (dd_bre _ _ (fun g1 => nm_r (nI_1 i) (ih () rfl (dd_alS hJ ?_))) (fun g1 => ?_)) (dd_ni hi)) (dd_ni hi))
    · rw [dd_clE hf, dd_clE hg] at g1
      exact decide_eq_true g1
    · rw [dd_clE hf, dd_clE hg] at g1
      rw [dd_alF (q := fun x => decide (dd_cl (dd_V1 L R B n) (dd_n x) = dd_cl (dd_agf ce rn) (dd_n x))) hi (decide_eq_false g1)] at h
      exact h
end
section
variable {L R : Nat → dd_S} {B : Nat → Bool} {n : Nat} {P : Nat → dd_S} {pn : Nat} {ce : Nat → Int32} {rn : Nat} {sm : Int32} {md : Int64} {kn cs : Nat → Int32} {tb : Nat → Int64} {st sy : Nat → Int32}
theorem y_agreement {post : Int32 → Prop} {p q : Int32} (r s : Nat) (hr : r < 6) (hs : s < 6) (h : post (dd_i (dd_ag ce r s))) (hp : p = nI r := by rfl) (hq : q = nI s := by rfl) : wpY_agreement post (yT L R B n P pn ce rn sm md kn cs tb st sy) p q := by
  subst hp hq
  refine dd_lp (fun m i z => wY_agreement_5 post (nI r) (nI s) (nI n) (nI pn) (nI rn) sm md (fun d => dd_i (L d)) (fun d => dd_i (R d)) (fun d => dd_b (B d)) (fun d => dd_i (P d)) ce kn cs tb st sy m (dd_i z) (nI i)) (dd_of (fun c => decide (ce (6 * r + c) = ce (6 * s + c)))) (fun _ => True) 6 0 (by decide) trivial (fun m _ => ?_) (fun m i _ hi _ ih => ?_)
  · exact br_t (nI_le (Nat.le_refl 6) (by decide)) h
  · refine br_f (nI_ge hi (by decide)) ⟨by rw [dd_ixY]; exact vp_in_nI (by omega) (by decide), by rw [dd_ixY]; exact vp_in_nI (by omega) (by decide),
      dd_if (d := ce (6 * r + i) = ce (6 * s + i)) (by rw [dd_ixY, dd_ixY, nI_clamp (by omega), nI_clamp (by omega)]) (fun g => nm_r (e' := dd_i (dd_of (fun c => decide (ce (6 * r + c) = ce (6 * s + c))) i ||| dd_e i)) (by rw [dd_1 i hi, dd_or]) (nm_r (nI_1 i) (ih _ (dd_ofT (decide_eq_true g)) trivial))) (fun g => nm_r (nI_1 i) (ih _ (dd_ofF (decide_eq_false g)) trivial))⟩
theorem y_keptBy {post : Int32 → Prop} {p : Int32} (hr : rn ≤ 6) (x : dd_S) (h : post (dd_i (dd_cl (dd_agf ce rn) x))) (hp : p = dd_i x := by rfl) : wpY_keptBy post (yT L R B n P pn ce rn sm md kn cs tb st sy) p := by
  subst hp
  refine pk_loop (fun m i z => wY_keptBy_5 post (dd_i x) (nI n) (nI pn) (nI rn) sm md (fun d => dd_i (L d)) (fun d => dd_i (R d)) (fun d => dd_b (B d)) (fun d => dd_i (P d)) ce kn cs tb st sy m (dd_i z) (nI i)) (fun i z => dd_kp ce i 0 x z) rn 0 63#6 (Nat.zero_le rn) (fun c hc => ⟨fun _ T hT => absurd hT (dd_ags0 (Nat.zero_le 1)), fun _ => (by decide : ∀ c, c < 6 → (63#6).getLsbD c = true) c hc⟩) (fun m z hI => ?_) (fun m i z hi hI ih => ?_)
  · rw [← dd_kpE hI] at h
    exact br_t (nI_le (Nat.le_refl rn) (by omega)) h
  · refine br_f (nI_ge hi (by omega)) ?_
    refine pk_loop (fun m' j z => wY_keptBy_16 post (wY_keptBy_5 post (dd_i x) (nI n) (nI pn) (nI rn) sm md (fun d => dd_i (L d)) (fun d => dd_i (R d)) (fun d => dd_b (B d)) (fun d => dd_i (P d)) ce kn cs tb st sy m) (dd_i x) (nI i) (nI n) (nI pn) (nI rn) sm md (fun d => dd_i (L d)) (fun d => dd_i (R d)) (fun d => dd_b (B d)) (fun d => dd_i (P d)) ce kn cs tb st sy m' (dd_i z) (nI j)) (fun j z => dd_kp ce i j x z) i 0 z (Nat.zero_le i) hI (fun m' z hI2 => ?_) (fun m' j z hj hI2 ih2 => ?_)
    · exact br_t (nI_le (Nat.le_refl i) (by omega)) (nm_r (nI_1 i) (ih z fun c hc => (hI2 c hc).trans ⟨fun g T hT => g T (dd_ags2.mp hT), fun g T hT => g T (dd_ags2.mpr hT)⟩))
    · refine br_f (nI_ge hj (by omega)) (y_agreement i j (by omega) (by omega) (dd_brs x (dd_ag ce i j) (fun g => nm_r (dd_and _ _) (nm_r (nI_1 j) (ih2 _ fun c hc => ?_))) (fun g => nm_r (nI_1 j) (ih2 _ fun c hc => ?_))))
      · rw [BitVec.getLsbD_and, Bool.and_eq_true, hI2 c hc]
        constructor
        · rintro ⟨h1, h2⟩ T hT hx
          rcases (dd_ags1 hj).mp hT with w | w
          · exact h1 T w hx
          · rw [← w]; exact h2
        · exact fun h => ⟨fun T hT hx => h T ((dd_ags1 hj).mpr (Or.inl hT)) hx, h _ ((dd_ags1 hj).mpr (Or.inr rfl)) g⟩
      · rw [hI2 c hc]
        constructor
        · intro h1 T hT hx
          rcases (dd_ags1 hj).mp hT with w | w
          · exact h1 T w hx
          · rw [w] at g; exact absurd hx g
        · exact fun h T hT hx => h T ((dd_ags1 hj).mpr (Or.inl hT)) hx
theorem y_keeps {post : Int32 → Prop} (hr : rn ≤ 6) (x y : dd_S) (h : post (dd_b (dd_sB y (dd_cl (dd_agf ce rn) x)))) : wpY_keeps post (yT L R B n P pn ce rn sm md kn cs tb st sy) (dd_i x) (dd_i y) := by
  unfold wpY_keeps
  exact y_isSet x (br_f (by decide) (y_isSet y (br_f (by decide) (y_keptBy hr x (dd_brs y _ (fun g => by rw [dd_sBt g] at h; exact h) (fun g => by rw [dd_sBf g] at h; exact h))))))
theorem y_hasMixed {post : Int32 → Prop} {p q w w2 : Int32} (hr : rn ≤ 6) (r s : Nat) (hr1 : r < 6) (hs1 : s < 6) (x y : dd_S) (h : post (dd_b (dd_mx ce rn r s (x ||| y)))) (hp : p = nI r := by rfl) (hq : q = nI s := by rfl) (hw : w = dd_i x := by rfl) (hw2 : w2 = dd_i y := by rfl) : wpY_hasMixed post (yT L R B n P pn ce rn sm md kn cs tb st sy) p q w w2 := by
  subst hp hq hw hw2
  unfold dd_mx at h
  refine dd_lp (σ := Unit) (fun m i _ => wY_hasMixed_3 post (nI r) (nI s) (dd_i x) (dd_i y) (nI n) (nI pn) (nI rn) sm md (fun d => dd_i (L d)) (fun d => dd_i (R d)) (fun d => dd_b (B d)) (fun d => dd_i (P d)) ce kn cs tb st sy m (nI i)) (fun _ => ()) (fun i => dd_al (fun t => !(dd_sB (x ||| y) (dd_ag ce t r) && dd_sB (~~~(x ||| y)) (dd_ag ce t s))) i = true) rn 0 (Nat.zero_le rn) rfl (fun m hJ => ?_) (fun m i _ hi hJ ih => ?_)
  · rw [hJ] at h
    exact br_t (nI_le (Nat.le_refl rn) (by omega)) h
  · refine br_f (nI_ge hi (by omega)) (y_agreement i r (by omega) hr1 (dd_brs (x ||| y) (dd_ag ce i r) (fun g => y_agreement i s (by omega) hs1 (dd_brs (~~~(x ||| y)) (dd_ag ce i s) (fun g2 => br_f (by decide) (br_f (by decide) ?_)) (fun g2 => br_f (by decide) (br_t rfl (nm_r (nI_1 i) (ih () rfl (dd_alS hJ ?_))))) (by rw [dd_or, dd_63n]))) (fun g => y_agreement i s (by omega) hs1 (br_c (fun g2 => br_t rfl (nm_r (nI_1 i) (ih () rfl (dd_alS hJ ?_)))) (fun g2 => br_t rfl (nm_r (nI_1 i) (ih () rfl (dd_alS hJ ?_)))))) (dd_or x y)))
    · rw [dd_alF (q := fun t => !(dd_sB (x ||| y) (dd_ag ce t r) && dd_sB (~~~(x ||| y)) (dd_ag ce t s))) hi (by rw [dd_sBt g, dd_sBt g2]; rfl)] at h
      exact h
    · rw [dd_sBf g2, Bool.and_false]; rfl
    · rw [dd_sBf g]; rfl
    · rw [dd_sBf g]; rfl
theorem y_keepsBundled {post : Int32 → Prop} (hr : rn ≤ 6) (x y : dd_S) (h : post (dd_b (dd_al (fun r => dd_al (dd_kb ce rn x y r) rn) rn))) : wpY_keepsBundled post (yT L R B n P pn ce rn sm md kn cs tb st sy) (dd_i x) (dd_i y) := by
  unfold wpY_keepsBundled
  refine y_isSet x (br_f (by decide) (y_isSet y (br_f (by decide) ?_)))
  refine dd_lp (σ := Unit) (fun m i _ => wY_keepsBundled_20 post (dd_i x) (dd_i y) (nI n) (nI pn) (nI rn) sm md (fun d => dd_i (L d)) (fun d => dd_i (R d)) (fun d => dd_b (B d)) (fun d => dd_i (P d)) ce kn cs tb st sy m (nI i)) (fun _ => ()) (fun i => dd_al (fun r => dd_al (dd_kb ce rn x y r) rn) i = true) rn 0 (Nat.zero_le rn) rfl (fun m hJ => ?_) (fun m i _ hi hJ ih => ?_)
  · rw [hJ] at h
    exact br_t (nI_le (Nat.le_refl rn) (by omega)) h
  · refine br_f (nI_ge hi (by omega)) ?_
    refine dd_lp (σ := Unit) (fun m' j _ => wY_keepsBundled_31 post (wY_keepsBundled_20 post (dd_i x) (dd_i y) (nI n) (nI pn) (nI rn) sm md (fun d => dd_i (L d)) (fun d => dd_i (R d)) (fun d => dd_b (B d)) (fun d => dd_i (P d)) ce kn cs tb st sy m) (dd_i x) (dd_i y) (nI i) (nI n) (nI pn) (nI rn) sm md (fun d => dd_i (L d)) (fun d => dd_i (R d)) (fun d => dd_b (B d)) (fun d => dd_i (P d)) ce kn cs tb st sy m' (nI j)) (fun _ => ()) (fun j => dd_al (dd_kb ce rn x y i) j = true) rn 0 (Nat.zero_le rn) rfl (fun m' hJ2 => ?_) (fun m' j _ hj hJ2 ih2 => ?_)
    · exact br_t (nI_le (Nat.le_refl rn) (by omega)) (nm_r (nI_1 i) (ih () rfl (dd_alS hJ hJ2)))
    · refine br_f (nI_ge hj (by omega)) (y_agreement i j (by omega) (by omega) (dd_brs x (dd_ag ce i j) (fun g => y_hasMixed hr i j (by omega) (by omega) x y (dd_br (fun g2 => ?_) (fun g2 => nm_r (nI_1 j) (ih2 () rfl (dd_alS hJ2 ?_))))) (fun g => nm_r (nI_1 j) (ih2 () rfl (dd_alS hJ2 ?_)))))
      · rw [dd_alF (q := fun r => dd_al (dd_kb ce rn x y r) rn) hi (dd_alF hj (by unfold dd_kb; rw [dd_sBt g, g2]; rfl))] at h
        exact h
      · unfold dd_kb; rw [g2]; simp
      · unfold dd_kb; rw [dd_sBf g]; rfl
theorem y_isLeast {post : Int32 → Prop} {p q : Int32} (hr : rn ≤ 6) (x : dd_S) (c : Nat) (hc : c < 6) (h : post (dd_b (dd_al (fun k => !(x.getLsbD k && (dd_cl (dd_agf ce rn) (x &&& ~~~dd_e k)).getLsbD c)) 6))) (hp : p = dd_i x := by rfl) (hq : q = nI c := by rfl) : wpY_isLeast post (yT L R B n P pn ce rn sm md kn cs tb st sy) p q := by
  subst hp hq
  refine dd_lp (σ := Unit) (fun m i _ => wY_isLeast_2 post (dd_i x) (nI c) (nI n) (nI pn) (nI rn) sm md (fun d => dd_i (L d)) (fun d => dd_i (R d)) (fun d => dd_b (B d)) (fun d => dd_i (P d)) ce kn cs tb st sy m (nI i)) (fun _ => ()) (fun i => dd_al (fun k => !(x.getLsbD k && (dd_cl (dd_agf ce rn) (x &&& ~~~dd_e k)).getLsbD c)) i = true) 6 0 (by decide) rfl (fun m hJ => ?_) (fun m i _ hi hJ ih => ?_)
  · rw [hJ] at h
    exact br_t (nI_le (Nat.le_refl 6) (by decide)) h
  · refine br_f (nI_ge hi (by decide)) (nm_r (e' := dd_i (x &&& ~~~dd_e i)) (by rw [dd_1 i hi, dd_andn]) (dd_bre _ x (fun g => nm_r (nI_1 i) (ih () rfl (dd_alS hJ ?_))) (fun g => y_keptBy hr (x &&& ~~~dd_e i) (dd_brb _ c (by omega) (fun g2 => ?_) (fun g2 => nm_r (nI_1 i) (ih () rfl (dd_alS hJ ?_)))))))
    · rw [dd_less hi] at g
      rw [g]; rfl
    · have g' : x.getLsbD i = true := ts_nf fun z => g ((dd_less hi).mpr z)
      rw [dd_alF (q := fun k => !(x.getLsbD k && (dd_cl (dd_agf ce rn) (x &&& ~~~dd_e k)).getLsbD c)) hi (by rw [g', g2]; rfl)] at h
      exact h
    · rw [g2, Bool.and_false]; rfl
theorem y_discovered {post : Int32 → Prop} (hr : rn ≤ 6) (h : post (nI (dd_sum (fun x => dd_cn (dd_ds (dd_cl (dd_agf ce rn)) (dd_n x)) 6) 64))) : wpY_discovered post (yT L R B n P pn ce rn sm md kn cs tb st sy) := by
  refine dd_lp (fun m i s => wY_discovered_4 post (nI n) (nI pn) (nI rn) sm md (fun d => dd_i (L d)) (fun d => dd_i (R d)) (fun d => dd_b (B d)) (fun d => dd_i (P d)) ce kn cs tb st sy m (nI s) (nI i)) (dd_sum (fun x => dd_cn (dd_ds (dd_cl (dd_agf ce rn)) (dd_n x)) 6)) (fun _ => True) 64 0 (by decide) trivial (fun m _ => ?_) (fun m i _ hi _ ih => ?_)
  · exact br_t (nI_le (Nat.le_refl 64) (by decide)) h
  · refine br_f (nI_ge hi (by decide)) ?_
    refine dd_lp (fun m' c s => wY_discovered_12 post (wY_discovered_4 post (nI n) (nI pn) (nI rn) sm md (fun d => dd_i (L d)) (fun d => dd_i (R d)) (fun d => dd_b (B d)) (fun d => dd_i (P d)) ce kn cs tb st sy m) (nI i) (nI n) (nI pn) (nI rn) sm md (fun d => dd_i (L d)) (fun d => dd_i (R d)) (fun d => dd_b (B d)) (fun d => dd_i (P d)) ce kn cs tb st sy m' (nI s) (nI c)) (fun c => dd_sum (fun x => dd_cn (dd_ds (dd_cl (dd_agf ce rn)) (dd_n x)) 6) i + dd_cn (dd_ds (dd_cl (dd_agf ce rn)) (dd_n i)) c) (fun _ => True) 6 0 (by decide) trivial (fun m' _ => ?_) (fun m' c _ hc _ ih2 => ?_)
    · exact br_t (nI_le (Nat.le_refl 6) (by decide)) (nm_r (nI_1 i) (ih _ rfl trivial))
    · have no : dd_ds (dd_cl (dd_agf ce rn)) (dd_n i) c = false → wY_discovered_12 post (wY_discovered_4 post (nI n) (nI pn) (nI rn) sm md (fun d => dd_i (L d)) (fun d => dd_i (R d)) (fun d => dd_b (B d)) (fun d => dd_i (P d)) ce kn cs tb st sy m) (nI i) (nI n) (nI pn) (nI rn) sm md (fun d => dd_i (L d)) (fun d => dd_i (R d)) (fun d => dd_b (B d)) (fun d => dd_i (P d)) ce kn cs tb st sy m' (nI (dd_sum (fun x => dd_cn (dd_ds (dd_cl (dd_agf ce rn)) (dd_n x)) 6) i + dd_cn (dd_ds (dd_cl (dd_agf ce rn)) (dd_n i)) c)) (nI (c + 1)) := fun z => ih2 _ (by rw [dd_cnF z]) trivial
      refine br_f (nI_ge hc (by decide)) (dd_if (d := (dd_n i).getLsbD c = false) (by rw [dd_ni hi, dd_bit _ (by omega), dd_b0]) (fun g => y_keptBy hr (dd_n i) (dd_brb _ c (by omega) (fun g2 => br_f (by decide) (y_isLeast hr (dd_n i) c hc (dd_br (fun g3 => nm_r (nI_1 c) (no ?_)) (fun g3 => nm_r (nI_1 _) (nm_r (nI_1 c) (ih2 _ ?_ trivial)))) (dd_ni hi))) (fun g2 => br_t rfl (nm_r (nI_1 c) (no ?_)))) (dd_ni hi)) (fun g => br_t rfl (nm_r (nI_1 c) (no ?_))))
      · unfold dd_ds; rw [g3, Bool.and_false]
      · have e : dd_ds (dd_cl (dd_agf ce rn)) (dd_n i) c = true := by unfold dd_ds; rw [g, g2, g3]; rfl
        rw [← dd_cnT e, Nat.add_assoc]
      · unfold dd_ds; rw [g2, Bool.and_false, Bool.false_and]
      · unfold dd_ds; rw [ts_nf g]; rfl
theorem y_agreements {post : Int32 → Prop} (hr : rn ≤ 6) (h : post (nI (dd_cn (dd_agf ce rn) 64))) : wpY_agreements post (yT L R B n P pn ce rn sm md kn cs tb st sy) := by
  refine pk_loop (fun m i f => wY_agreements_4 post (nI n) (nI pn) (nI rn) sm md (fun d => dd_i (L d)) (fun d => dd_i (R d)) (fun d => dd_b (B d)) (fun d => dd_i (P d)) ce kn cs tb st sy m f (nI i)) (fun i f => ∀ T : dd_S, dd_P f T ↔ dd_ags ce i 0 T) rn 0 0 (Nat.zero_le rn) (fun T => ⟨fun w => by unfold dd_P at w; rw [dd_mz] at w; exact absurd w (by decide), fun w => absurd w (dd_ags0 (Nat.zero_le 1))⟩) (fun m f hI => ?_) (fun m i f hi hI ih => ?_)
  · refine br_t (nI_le (Nat.le_refl rn) (by omega)) ?_
    have hf : ∀ t, t < 64 → dd_m f t = dd_agf ce rn t := fun t ht => Bool.eq_iff_iff.mpr (by rw [dd_agfI, ← hI]; unfold dd_P; rw [dd_nt ht])
    rw [← dd_cnX hf] at h
    refine dd_lp (fun m i s => wY_agreements_50 post f (nI n) (nI pn) (nI rn) sm md (fun d => dd_i (L d)) (fun d => dd_i (R d)) (fun d => dd_b (B d)) (fun d => dd_i (P d)) ce kn cs tb st sy m (nI s) (nI i)) (dd_cn (dd_m f)) (fun _ => True) 64 0 (by decide) trivial (fun m _ => ?_) (fun m i _ hi _ ih => ?_)
    · exact br_t (nI_le (Nat.le_refl 64) (by decide)) h
    · exact br_f (nI_ge hi (by decide)) (nm_r (e' := nI (dd_cn (dd_m f) (i + 1))) (by rw [dd_mI f hi, dd_addb]; rfl) (nm_r (nI_1 i) (ih _ rfl trivial)))
  · refine br_f (nI_ge hi (by omega)) ?_
    refine pk_loop (fun m' j f => wY_agreements_15 post (wY_agreements_4 post (nI n) (nI pn) (nI rn) sm md (fun d => dd_i (L d)) (fun d => dd_i (R d)) (fun d => dd_b (B d)) (fun d => dd_i (P d)) ce kn cs tb st sy m) (nI i) (nI n) (nI pn) (nI rn) sm md (fun d => dd_i (L d)) (fun d => dd_i (R d)) (fun d => dd_b (B d)) (fun d => dd_i (P d)) ce kn cs tb st sy m' f (nI j)) (fun j f => ∀ T : dd_S, dd_P f T ↔ dd_ags ce i j T) i 0 f (Nat.zero_le i) hI (fun m' f hI2 => ?_) (fun m' j f hj hI2 ih2 => ?_)
    · exact br_t (nI_le (Nat.le_refl i) (by omega)) (nm_r (nI_1 i) (ih f fun T => (hI2 T).trans dd_ags2.symm))
    · refine br_f (nI_ge hj (by omega)) (y_agreement i j (by omega) (by omega) (nm_e (nm_r (nI_1 j) (ih2 _ fun T => ?_))))
      have e : dd_m (f ||| ((1 : Int64) <<< ((dd_i (dd_ag ce i j)).toInt64 &&& 63))) T.toNat = (dd_m f T.toNat || decide ((dd_ag ce i j).toNat = T.toNat)) := dd_set f (dd_nlt _) _
      rw [dd_ags1 hj, ← hI2]
      unfold dd_P
      rw [e, Bool.or_eq_true, decide_eq_true_eq]
      exact ⟨fun w => w.imp id BitVec.eq_of_toNat_eq, fun w => w.imp id fun w => by rw [w]⟩
theorem y_exact {post : Int32 → SY → Prop} {v : SY} (hn : n ≤ 10) (hr : rn ≤ 6) (hv : yO L R B n P pn ce rn st sy v)
    (h : ∀ v', yO L R B n P pn ce rn st sy v' → post (dd_b (dd_al (fun x => decide (dd_cl (dd_V1 L R B n) (dd_n x) = dd_cl (dd_agf ce rn) (dd_n x))) 64)) v') : wpY_exact post v := by
  obtain ⟨sm, md, kn, cs, tb, hM, rfl⟩ := hv
  refine yl (τ := Unit) (fun m i _ v => yc (wY_exact_2 post m (nI i)) v) (fun _ => ()) (fun i => dd_al (fun x => decide (dd_cl (dd_V1 L R B n) (dd_n x) = dd_cl (dd_agf ce rn) (dd_n x))) i = true) (yO L R B n P pn ce rn st sy) 64 (yT L R B n P pn ce rn sm md kn cs tb st sy) ⟨sm, md, kn, cs, tb, hM, rfl⟩ rfl (fun m v hO hJ => ?_) (fun m i v hi hO hJ ih => ?_)
  · obtain ⟨sm, md, kn, cs, tb, hM, rfl⟩ := hO
    have w := h (yT L R B n P pn ce rn sm md kn cs tb st sy) ⟨sm, md, kn, cs, tb, hM, rfl⟩
    rw [hJ] at w
    exact br_t (nI_le (Nat.le_refl 64) (by decide)) w
  · obtain ⟨sm, md, kn, cs, tb, hM, rfl⟩ := hO
    refine br_f (nI_ge hi (by decide)) (y_closureOf hn (dd_n i) ⟨sm, md, kn, cs, tb, hM, rfl⟩ (fun v' hv' => ?_) (dd_ni hi))
    obtain ⟨sm', md', kn', cs', tb', hM', rfl⟩ := hv'
    refine y_keptBy hr (dd_n i) (dd_bre _ _ (fun g1 => nm_r (nI_1 i) (ih () (yT L R B n P pn ce rn sm' md' kn' cs' tb' st sy) rfl ⟨sm', md', kn', cs', tb', hM', rfl⟩ (dd_alS hJ (decide_eq_true g1)))) (fun g1 => ?_)) (dd_ni hi)
    have w := h (yT L R B n P pn ce rn sm' md' kn' cs' tb' st sy) ⟨sm', md', kn', cs', tb', hM', rfl⟩
    rw [dd_alF (q := fun x => decide (dd_cl (dd_V1 L R B n) (dd_n x) = dd_cl (dd_agf ce rn) (dd_n x))) hi (decide_eq_false g1)] at w
    exact w
end
end
section
/-! preserves, on both sides -/
theorem dd_nor (a b : Nat) : nI a ||| nI b = nI (a ||| b) := b_ext fun i hi => by
  rw [b_or, dd_nb, dd_nb, dd_nb, Nat.testBit_or, decide_eq_true hi]; rfl
def dd_so (B : Nat → Bool) : Nat → Nat
  | 0 => 0
  | i + 1 => if B i = false then dd_so B i ||| 2 ^ i else dd_so B i
theorem dd_solt (B : Nat → Bool) (i : Nat) : dd_so B i < 2 ^ i := by
  induction i with
  | zero => exact Nat.zero_lt_one
  | succ i ih =>
    have e : 2 ^ (i + 1) = 2 ^ i + 2 ^ i := by rw [Nat.pow_succ]; omega
    show (if B i = false then dd_so B i ||| 2 ^ i else dd_so B i) < _
    split
    · exact Nat.or_lt_two_pow (by omega) (by have := Nat.two_pow_pos i; omega)
    · omega
theorem dd_sob (B : Nat → Bool) (i d : Nat) : (dd_so B i).testBit d = (decide (d < i) && !B d) := by
  induction i with
  | zero => show Nat.testBit 0 d = _; simp
  | succ i ih =>
    show (if B i = false then dd_so B i ||| 2 ^ i else dd_so B i).testBit d = _
    by_cases e : i = d
    · subst e
      split
      · rename_i h
        rw [Nat.testBit_or, Nat.testBit_two_pow, ih, h]; simp
      · rename_i h
        rw [ih, ts_nf h]; simp
    · have e2 : decide (d < i + 1) = decide (d < i) := by
        by_cases z : d < i
        · rw [decide_eq_true z, decide_eq_true (show d < i + 1 by omega)]
        · rw [decide_eq_false z, decide_eq_false (show ¬ d < i + 1 by omega)]
      rw [e2]
      split
      · rw [Nat.testBit_or, Nat.testBit_two_pow, ih, decide_eq_false e, Bool.or_false]
      · exact ih
theorem dd_vX {L R : Nat → dd_S} {B : Nat → Bool} {n : Nat} {c c' : Nat → Bool} (h : ∀ d, d < n → c d = c' d) (t : Nat) : dd_v L R B n c t = dd_v L R B n c' t :=
  dd_alX fun d hd => by rw [h d hd]
abbrev dd_C1 (L R : Nat → dd_S) (B : Nat → Bool) (n : Nat) : dd_S → dd_S := dd_cl (dd_v L R B n (fun d => !B d))
def dd_pv (L R : Nat → dd_S) (B : Nat → Bool) (n : Nat) (P : Nat → dd_S) (pn : Nat) (d : Nat) : Bool := B d || dd_sB (R d) (dd_it (fun z => dd_stp (dd_ps (dd_C1 L R B n) P) z pn) 6 (L d))
section
variable {L R : Nat → dd_S} {B : Nat → Bool} {n : Nat} {P : Nat → dd_S} {pn : Nat} {ce : Nat → Int32} {rn : Nat} {mk : Nat → Int32}
theorem x_singleOnes {post : Int32 → Prop} (hn : n ≤ 10) (h : ∀ c, c < 2 ^ 31 → (∀ d, d < n → c.testBit d = !B d) → post (nI c)) : wpX_singleOnes post (xT L R B n P pn ce rn mk) := by
  refine dd_lp (fun m i s => wX_singleOnes_4 post (nI n) (nI pn) (nI rn) (fun d => dd_i (L d)) (fun d => dd_i (R d)) (fun d => dd_b (B d)) (fun d => dd_i (P d)) ce mk m (nI s) (nI i)) (dd_so B) (fun _ => True) n 0 (Nat.zero_le n) trivial (fun m _ => ?_) (fun m i _ hi _ ih => ?_)
  · refine br_t (nI_le (Nat.le_refl n) (by omega)) (h _ ?_ fun d hd => ?_)
    · exact Nat.lt_of_lt_of_le (dd_solt B n) (Nat.pow_le_pow_right (by decide) (by omega))
    · rw [dd_sob, decide_eq_true hd, Bool.true_and]
  · refine br_f (nI_ge hi (by omega)) ⟨vp_in_nI (by omega) (by decide), dd_if (d := B i = false) (show dd_b (B (nI i).toNatClampNeg) = 0 ↔ _ by rw [nI_clamp (by omega), dd_b0]) (fun g => nm_r (e' := nI (dd_so B i ||| 2 ^ i)) (by rw [dd_2n i (by omega), dd_nor]) (nm_r (nI_1 i) (ih _ (if_pos g).symm trivial))) (fun g => nm_r (nI_1 i) (ih _ (if_neg g).symm trivial))⟩
theorem x_singles {post : Int64 → Prop} (hn : n ≤ 10) (h : ∀ f, (∀ t, t < 64 → dd_m f t = dd_v L R B n (fun d => !B d) t) → post f) :
    wpX_singleOnes (fun r => wpX_pairsKeeping post (xT L R B n P pn ce rn mk) r) (xT L R B n P pn ce rn mk) :=
  x_singleOnes hn fun c hc hb => x_pairsKeeping hn c hc fun f hf => h f fun t ht => (hf t ht).trans (dd_vX hb t)
theorem x_reached {post : Int32 → Prop} {f : Int64} {p : Int32} (hp4 : pn ≤ 4) (x : dd_S) (h : post (dd_i (dd_it (fun z => dd_stp (dd_ps (dd_cl (dd_m f)) P) z pn) 6 x))) (hp : p = dd_i x := by rfl) : wpX_reachedWithinParts post (xT L R B n P pn ce rn mk) f p := by
  subst hp
  refine dd_lp (fun m i s => wX_reachedWithinParts_6 post f (nI n) (nI pn) (nI rn) (fun d => dd_i (L d)) (fun d => dd_i (R d)) (fun d => dd_b (B d)) (fun d => dd_i (P d)) ce mk m (dd_i s) (nI i)) (fun i => dd_it (fun z => dd_stp (dd_ps (dd_cl (dd_m f)) P) z pn) i x) (fun _ => True) 6 0 (by decide) trivial (fun m _ => ?_) (fun m i _ hi _ ih => ?_)
  · exact br_t (nI_le (Nat.le_refl 6) (by decide)) h
  · refine br_f (nI_ge hi (by decide)) ?_
    refine dd_lp (fun m' j s => wX_reachedWithinParts_16 post (wX_reachedWithinParts_6 post f (nI n) (nI pn) (nI rn) (fun d => dd_i (L d)) (fun d => dd_i (R d)) (fun d => dd_b (B d)) (fun d => dd_i (P d)) ce mk m) f (nI i) (nI n) (nI pn) (nI rn) (fun d => dd_i (L d)) (fun d => dd_i (R d)) (fun d => dd_b (B d)) (fun d => dd_i (P d)) ce mk m' (dd_i s) (nI j)) (fun j => dd_stp (dd_ps (dd_cl (dd_m f)) P) (dd_it (fun z => dd_stp (dd_ps (dd_cl (dd_m f)) P) z pn) i x) j) (fun _ => True) pn 0 (Nat.zero_le pn) trivial (fun m' _ => ?_) (fun m' j _ hj _ ih2 => ?_)
    · exact br_t (nI_le (Nat.le_refl pn) (by omega)) (nm_r (nI_1 i) (ih _ rfl trivial))
    · have v : vp_in (nI j) 4 := vp_in_nI (by omega) (by decide)
      have eP : (fun d => dd_i (P d)) (nI j).toNatClampNeg = dd_i (P j) := dd_ix (fun d => dd_i (P d)) (by omega)
      exact br_f (nI_ge hj (by omega)) ⟨v, x_closureIn _ ⟨v, nm_r (e' := dd_i (dd_ps (dd_cl (dd_m f)) P j (dd_stp (dd_ps (dd_cl (dd_m f)) P) (dd_it (fun z => dd_stp (dd_ps (dd_cl (dd_m f)) P) z pn) i x) j))) (by rw [eP, dd_and, dd_or]; rfl) (nm_r (nI_1 j) (ih2 _ rfl trivial))⟩ (by rw [eP, dd_and])⟩
theorem x_preserves {post : Int32 → Prop} (hn : n ≤ 10) (hp4 : pn ≤ 4) (h : post (dd_b (dd_al (dd_pv L R B n P pn) n))) : wpX_preserves post (xT L R B n P pn ce rn mk) := by
  unfold wpX_preserves
  refine x_singles hn fun f hf => ?_
  refine dd_lp (σ := Unit) (fun m i _ => wX_preserves_14 post f (nI n) (nI pn) (nI rn) (fun d => dd_i (L d)) (fun d => dd_i (R d)) (fun d => dd_b (B d)) (fun d => dd_i (P d)) ce mk m (nI i)) (fun _ => ()) (fun i => dd_al (dd_pv L R B n P pn) i = true) n 0 (Nat.zero_le n) rfl (fun m hJ => ?_) (fun m i _ hi hJ ih => ?_)
  · rw [hJ] at h
    exact br_t (nI_le (Nat.le_refl n) (by omega)) h
  · have v : vp_in (nI i) 10 := vp_in_nI (by omega) (by decide)
    refine br_f (nI_ge hi (by omega)) ⟨v, dd_if (d := B i = false) (show dd_b (B (nI i).toNatClampNeg) = 0 ↔ _ by rw [nI_clamp (by omega), dd_b0]) (fun g => ⟨v, x_reached hp4 (L i) ⟨v, x_isWithin (R i) _ (dd_br (fun g2 => ?_) (fun g2 => nm_r (nI_1 i) (ih () rfl (dd_alS hJ ?_)))) (dd_ix (fun d => dd_i (R d)) (by omega))⟩ (dd_ix (fun d => dd_i (L d)) (by omega))⟩) (fun g => nm_r (nI_1 i) (ih () rfl (dd_alS hJ ?_)))⟩
    · rw [dd_clE hf] at g2
      rw [dd_alF hi (by unfold dd_pv; rw [g, g2]; rfl)] at h
      exact h
    · rw [dd_clE hf] at g2
      unfold dd_pv; rw [g2, Bool.or_true]
    · unfold dd_pv; rw [ts_nf g]; rfl
end
section
variable {L R : Nat → dd_S} {B : Nat → Bool} {n : Nat} {P : Nat → dd_S} {pn : Nat} {ce : Nat → Int32} {rn : Nat} {sm : Int32} {md : Int64} {kn cs : Nat → Int32} {tb : Nat → Int64} {st sy : Nat → Int32}
theorem y_singleClosure {post : Int32 → Prop} {p : Int32} (hn : n ≤ 10) (x : dd_S) (h : post (dd_i (dd_C1 L R B n x))) (hp : p = dd_i x := by rfl) : wpY_singleClosure post (yT L R B n P pn ce rn sm md kn cs tb st sy) p := by
  subst hp
  have e0 : dd_C1 L R B n x = dd_stp (fun k => dd_sg L R B n (k % 10)) x 100 := (dd_single L R B hn x).symm
  rw [e0] at h
  refine dd_lp (fun m i s => wY_singleClosure_4 post (nI n) (nI pn) (nI rn) sm md (fun d => dd_i (L d)) (fun d => dd_i (R d)) (fun d => dd_b (B d)) (fun d => dd_i (P d)) ce kn cs tb st sy m (dd_i s) (nI i)) (dd_stp (fun k => dd_sg L R B n (k % 10)) x) (fun _ => True) 100 0 (by decide) trivial (fun m _ => ?_) (fun m i _ hi _ ih => ?_)
  · exact br_t (nI_le (Nat.le_refl 100) (by decide)) h
  · have hk : i % 10 < 10 := Nat.mod_lt _ (by decide)
    have v : vp_in (nI (i % 10)) 10 := vp_in_nI hk (by decide)
    have eS : dd_stp (fun k => dd_sg L R B n (k % 10)) x (i + 1) = dd_sg L R B n (i % 10) (dd_stp (fun k => dd_sg L R B n (k % 10)) x i) := rfl
    have no : ¬ (i % 10 < n ∧ B (i % 10) = false ∧ dd_sub (L (i % 10)) (dd_stp (fun k => dd_sg L R B n (k % 10)) x i)) → wY_singleClosure_4 post (nI n) (nI pn) (nI rn) sm md (fun d => dd_i (L d)) (fun d => dd_i (R d)) (fun d => dd_b (B d)) (fun d => dd_i (P d)) ce kn cs tb st sy m (dd_i (dd_stp (fun k => dd_sg L R B n (k % 10)) x i)) (nI (i + 1)) := fun z => ih _ (by rw [eS]; exact (if_neg z).symm) trivial
    refine br_f (nI_ge hi (by decide)) ⟨by decide, nm_r (show nI i - nI i / 10 * 10 = nI (i % 10) from pk_rem (by omega) (by decide) (by decide)) (pk_le n (i % 10) (fun z => br_t rfl (nm_r (nI_1 i) (no fun w => by omega))) (fun z => ⟨v, dd_if (d := B (i % 10) = false) (show dd_b (B (nI (i % 10)).toNatClampNeg) = 0 ↔ _ by rw [nI_clamp (by omega), dd_b0]) (fun g => ⟨v, dd_brs (L (i % 10)) _ (fun g2 => br_f (by decide) ⟨v, nm_r (e' := dd_i (dd_stp (fun k => dd_sg L R B n (k % 10)) x i ||| R (i % 10))) ?_ (nm_r (nI_1 i) (ih _ ?_ trivial))⟩) (fun g2 => br_t rfl (nm_r (nI_1 i) (no fun w => g2 w.2.2))) (dd_ix (fun d => dd_i (L d)) (by omega))⟩) (fun g => br_t rfl (nm_r (nI_1 i) (no fun w => g w.2.1)))⟩))⟩
    · show dd_i _ ||| dd_i (R (nI (i % 10)).toNatClampNeg) = _
      rw [nI_clamp (by omega), dd_or]
    · rw [eS]; exact (if_pos ⟨z, g, g2⟩).symm
theorem y_preserves {post : Int32 → Prop} (hn : n ≤ 10) (hp4 : pn ≤ 4) (h : post (dd_b (dd_al (dd_pv L R B n P pn) n))) : wpY_preserves post (yT L R B n P pn ce rn sm md kn cs tb st sy) := by
  refine dd_lp (σ := Unit) (fun m i _ => wY_preserves_2 post (nI n) (nI pn) (nI rn) sm md (fun d => dd_i (L d)) (fun d => dd_i (R d)) (fun d => dd_b (B d)) (fun d => dd_i (P d)) ce kn cs tb st sy m (nI i)) (fun _ => ()) (fun i => dd_al (dd_pv L R B n P pn) i = true) n 0 (Nat.zero_le n) rfl (fun m hJ => ?_) (fun m i _ hi hJ ih => ?_)
  · rw [hJ] at h
    exact br_t (nI_le (Nat.le_refl n) (by omega)) h
  · have v : vp_in (nI i) 10 := vp_in_nI (by omega) (by decide)
    refine br_f (nI_ge hi (by omega)) ⟨v, nm_r (e' := dd_i (L i)) (dd_ix (fun d => dd_i (L d)) (by omega)) ?_⟩
    refine dd_lp (fun m' j s => wY_preserves_19 post (wY_preserves_2 post (nI n) (nI pn) (nI rn) sm md (fun d => dd_i (L d)) (fun d => dd_i (R d)) (fun d => dd_b (B d)) (fun d => dd_i (P d)) ce kn cs tb st sy m) (nI i) (nI n) (nI pn) (nI rn) sm md (fun d => dd_i (L d)) (fun d => dd_i (R d)) (fun d => dd_b (B d)) (fun d => dd_i (P d)) ce kn cs tb st sy m' (dd_i s) (nI j)) (dd_stp (fun k => dd_ps (dd_C1 L R B n) (fun k => if k < pn then P k else 0#6) (k % 4)) (L i)) (fun _ => True) 32 0 (by decide) trivial (fun m' _ => ?_) (fun m' j _ hj _ ih2 => ?_)
    · have e := dd_parts (dd_C1 L R B n) P hp4 (L i)
      refine br_t (nI_le (Nat.le_refl 32) (by decide)) ⟨v, dd_if (d := B i = false) (show dd_b (B (nI i).toNatClampNeg) = 0 ↔ _ by rw [nI_clamp (by omega), dd_b0]) (fun g => ⟨v, dd_brs (R i) _ (fun g2 => nm_r (nI_1 i) (ih () rfl (dd_alS hJ ?_))) (fun g2 => ?_) (dd_ix (fun d => dd_i (R d)) (by omega))⟩) (fun g => nm_r (nI_1 i) (ih () rfl (dd_alS hJ ?_)))⟩
      · rw [e] at g2
        unfold dd_pv; rw [dd_sBt g2, Bool.or_true]
      · rw [e] at g2
        rw [dd_alF hi (by unfold dd_pv; rw [g, dd_sBf g2]; rfl)] at h
        exact h
      · unfold dd_pv; rw [ts_nf g]; rfl
    · have hk : j % 4 < 4 := Nat.mod_lt _ (by decide)
      have em : nI j - nI j / 4 * 4 = nI (j % 4) := pk_rem (by omega) (by decide) (by decide)
      have go : ∀ (z0 : Int32), z0 = dd_i (if j % 4 < pn then P (j % 4) else 0#6) → wY_preserves_47 post (wY_preserves_2 post (nI n) (nI pn) (nI rn) sm md (fun d => dd_i (L d)) (fun d => dd_i (R d)) (fun d => dd_b (B d)) (fun d => dd_i (P d)) ce kn cs tb st sy m) (wY_preserves_19 post (wY_preserves_2 post (nI n) (nI pn) (nI rn) sm md (fun d => dd_i (L d)) (fun d => dd_i (R d)) (fun d => dd_b (B d)) (fun d => dd_i (P d)) ce kn cs tb st sy m) (nI i) (nI n) (nI pn) (nI rn) sm md (fun d => dd_i (L d)) (fun d => dd_i (R d)) (fun d => dd_b (B d)) (fun d => dd_i (P d)) ce kn cs tb st sy m') (nI i) (dd_i (dd_stp (fun k => dd_ps (dd_C1 L R B n) (fun k => if k < pn then P k else 0#6) (k % 4)) (L i) j)) (nI j) z0 (nI n) (nI pn) (nI rn) sm md (fun d => dd_i (L d)) (fun d => dd_i (R d)) (fun d => dd_b (B d)) (fun d => dd_i (P d)) ce kn cs tb st sy := by
        rintro z0 rfl
        exact y_singleClosure hn _ (nm_r (e' := dd_i (dd_ps (dd_C1 L R B n) (fun k => if k < pn then P k else 0#6) (j % 4) (dd_stp (fun k => dd_ps (dd_C1 L R B n) (fun k => if k < pn then P k else 0#6) (k % 4)) (L i) j))) (by rw [dd_and, dd_or]; rfl) (nm_r (nI_1 j) (ih2 _ rfl trivial))) (dd_and _ _)
      refine br_f (nI_ge hj (by decide)) ⟨by decide, pk_le pn (j % 4) (fun z => go 0 ?_) (fun z => ⟨by decide, ?_, go _ ?_⟩) rfl em⟩
      · rw [if_neg (by omega)]; rfl
      · rw [em]; exact vp_in_nI hk (by decide)
      · rw [if_pos z]
        show dd_i (P (nI j - nI j / 4 * 4).toNatClampNeg) = _
        rw [em, nI_clamp (by omega)]
end
end
section
/-! lossless: tables of marks, and the class's walk over them -/
def mk_R (a : Nat → Int32) (n : Nat) (g : Nat → Nat → Nat) : Prop := ∀ i c, i < n → c < 6 → a (6 * i + c) = nI (g i c)
def mk_h (P : Nat → dd_S) (i c : Nat) : Nat := if (P i).getLsbD c = true then 0 else i + 1
theorem mk_ho (P : Nat → dd_S) (i c : Nat) : mk_h P i c = 0 ∨ mk_h P i c = i + 1 := by
  unfold mk_h; split
  · exact Or.inl rfl
  · exact Or.inr rfl
abbrev mk_F (L R : Nat → dd_S) (B : Nat → Bool) (n : Nat) : dd_S → dd_S → Prop := dd_F L R B n (fun d => !B d) false
theorem mk_le4 {F : dd_S → dd_S → Prop} {P : Nat → dd_S} {n : Nat} {g : Nat → Nat → Nat} (I : mk_I F n (mk_h P) g) (hn : n ≤ 4) {i c : Nat} (hi : i < n) (hc : c < 6) : g i c ≤ 4 := by
  have := I.2.1 i c hi hc
  rcases mk_ho P i c with z | z <;> omega
theorem mk_stepW {F : dd_S → dd_S → Prop} {n : Nat} {h m : Nat → Nat → Nat} (I : mk_I F n h m) {i j c : Nat} (hi : i < n) (hj : j < n) (hc : c < 6)
    (hg : ∀ g, mk_C F n h g → g i c = g j c) : mk_I F n h (mk_mg m c (m i c) (m j c)) ∧ (mk_w n (mk_mg m c (m i c) (m j c)) < mk_w n m ∨ (mk_mg m c (m i c) (m j c) = m ∧ m i c = m j c)) := by
  refine ⟨mk_step I hi hj hc hg, ?_⟩
  by_cases e : m i c = m j c
  · right
    refine ⟨?_, e⟩
    rw [e]; exact mk_same m c (m j c)
  · exact Or.inl (mk_wlt I hi hj hc e)
/-- a joined row -/
def mk_j (n : Nat) (g : Nat → Nat → Nat) : Bool := !dd_al (fun i => !dd_al (fun c => decide (g i c = 0)) 6) n
theorem mk_jX {n : Nat} {g g' : Nat → Nat → Nat} (h : ∀ i c, i < n → c < 6 → g i c = g' i c) : mk_j n g = mk_j n g' := by
  unfold mk_j
  rw [dd_alX (n := n) fun i hi => by rw [dd_alX (n := 6) fun c hc => by rw [h i c hi hc]]]
section
variable {L R : Nat → dd_S} {B : Nat → Bool} {n : Nat} {P : Nat → dd_S} {pn : Nat} {ce : Nat → Int32} {rn : Nat} {mk : Nat → Int32}
theorem x_markParts {post : SX → Prop} (hp : pn ≤ 4) (h : ∀ mk', mk_R mk' pn (mk_h P) → post (xT L R B n P pn ce rn mk')) : wpX_markParts post (xT L R B n P pn ce rn mk) := by
  refine pk_loop (fun m i a => wX_markParts_2 post (nI n) (nI pn) (nI rn) m (nI i) (fun d => dd_i (L d)) (fun d => dd_i (R d)) (fun d => dd_b (B d)) (fun d => dd_i (P d)) ce a) (fun i a => ∀ i' c', i' < i → c' < 6 → a (6 * i' + c') = nI (mk_h P i' c')) pn 0 mk (Nat.zero_le pn) (fun i' _ hi' => absurd hi' (Nat.not_lt_zero i')) (fun m a hI => ?_) (fun m i a hi hI ih => ?_)
  · exact br_t (nI_le (Nat.le_refl pn) (by omega)) (h a hI)
  · refine br_f (nI_ge hi (by omega)) ?_
    refine pk_loop (fun m' c a => wX_markParts_12 post (wX_markParts_2 post (nI n) (nI pn) (nI rn) m) (nI i) (nI n) (nI pn) (nI rn) m' (nI c) (fun d => dd_i (L d)) (fun d => dd_i (R d)) (fun d => dd_b (B d)) (fun d => dd_i (P d)) ce a) (fun c a => (∀ i' c', i' < i → c' < 6 → a (6 * i' + c') = nI (mk_h P i' c')) ∧ ∀ c', c' < c → a (6 * i + c') = nI (mk_h P i c')) 6 0 a (by decide) ⟨hI, fun c' hc' => absurd hc' (Nat.not_lt_zero c')⟩ (fun m' a hI2 => ?_) (fun m' c a hc hI2 ih2 => ?_)
    · refine br_t (nI_le (Nat.le_refl 6) (by decide)) (nm_r (nI_1 i) (ih a fun i' c' h1 h2 => ?_))
      rcases Nat.lt_or_ge i' i with z | z
      · exact hI2.1 i' c' z h2
      · rw [show i' = i by omega]; exact hI2.2 c' h2
    · have nxt : ∀ x : Nat, x = mk_h P i c → (∀ i' c', i' < i → c' < 6 → upd a (6 * i + c) (nI x) (6 * i' + c') = nI (mk_h P i' c')) ∧ ∀ c', c' < c + 1 → upd a (6 * i + c) (nI x) (6 * i + c') = nI (mk_h P i c') := by
        rintro x rfl
        refine ⟨fun i' c' h1 h2 => ?_, fun c' h1 => ?_⟩
        · rw [pk_un (by omega)]; exact hI2.1 i' c' h1 h2
        · by_cases e : c' = c
          · rw [e, pk_us]
          · rw [pk_un (by omega)]; exact hI2.2 c' (by omega)
      have vi : vp_in (nI i * 6 + nI c) 24 := by rw [dd_ixX]; exact vp_in_nI (by omega) (by decide)
      refine br_f (nI_ge hc (by decide)) ⟨vp_in_nI (by omega) (by decide), x_isInS (P i) c (by omega) (dd_br (fun g => ⟨vi, nm_r (e' := upd a (6 * i + c) (nI (i + 1))) (by rw [dd_ixX, nI_clamp (by omega), nI_1]) (nm_r (nI_1 c) (ih2 _ (nxt _ ?_)))⟩) (fun g => ⟨vi, nm_r (e' := upd a (6 * i + c) (nI 0)) (by rw [dd_ixX, nI_clamp (by omega), nI_0]) (nm_r (nI_1 c) (ih2 _ (nxt _ ?_)))⟩)) (congrArg Int32.toInt64 (dd_ix (fun d => dd_i (P d)) (by omega)))⟩
      · exact (if_neg (by rw [g]; decide)).symm
      · exact (if_pos g).symm
theorem x_mergeMarks {post : SX → Prop} {p q w : Int32} (hp : pn ≤ 4) {g : Nat → Nat → Nat} (hR : mk_R mk pn g) (hb : ∀ i c, i < pn → c < 6 → g i c ≤ 4) (c : Nat) (hc : c < 6) (a1 b1 : Nat) (ha : a1 ≤ 4) (hb1 : b1 ≤ 4)
    (h : ∀ mk', mk_R mk' pn (mk_mg g c a1 b1) → post (xT L R B n P pn ce rn mk')) (hp0 : p = nI c := by rfl) (hp1 : q = nI a1 := by rfl) (hp2 : w = nI b1 := by rfl) : wpX_mergeMarks post (xT L R B n P pn ce rn mk) p q w := by
  subst hp0 hp1 hp2
  have key : ∀ s : Int32, s = nI (min a1 b1) → ∃ m, wX_mergeMarks_15 post (nI c) (nI a1) (nI b1) s (nI n) (nI pn) (nI rn) m 0 (fun d => dd_i (L d)) (fun d => dd_i (R d)) (fun d => dd_b (B d)) (fun d => dd_i (P d)) ce mk := by
    rintro s rfl
    refine pk_loop (fun m i a => wX_mergeMarks_15 post (nI c) (nI a1) (nI b1) (nI (min a1 b1)) (nI n) (nI pn) (nI rn) m (nI i) (fun d => dd_i (L d)) (fun d => dd_i (R d)) (fun d => dd_b (B d)) (fun d => dd_i (P d)) ce a) (fun i a => ∀ r d, r < pn → d < 6 → a (6 * r + d) = nI (if r < i then mk_mg g c a1 b1 r d else g r d)) pn 0 mk (Nat.zero_le pn) (fun r d hr hd => by rw [if_neg (Nat.not_lt_zero r)]; exact hR r d hr hd) (fun m a hI => ?_) (fun m i a hi hI ih => ?_)
    · refine br_t (nI_le (Nat.le_refl pn) (by omega)) (h a fun r d hr hd => ?_)
      rw [hI r d hr hd, if_pos hr]
    · have vi : vp_in (nI i * 6 + nI c) 24 := by rw [dd_ixX]; exact vp_in_nI (by omega) (by decide)
      have ei : a (6 * i + c) = nI (g i c) := by rw [hI i c hi hc, if_neg (Nat.lt_irrefl i)]
      have hgi := hb i c hi hc
      have put : (g i c = a1 ∨ g i c = b1) → wX_mergeMarks_50 post (wX_mergeMarks_15 post (nI c) (nI a1) (nI b1) (nI (min a1 b1)) (nI n) (nI pn) (nI rn) m) (nI c) (nI a1) (nI b1) (nI (min a1 b1)) (nI i) (nI n) (nI pn) (nI rn) (fun d => dd_i (L d)) (fun d => dd_i (R d)) (fun d => dd_b (B d)) (fun d => dd_i (P d)) ce a := by
        intro hh
        refine ⟨vi, nm_r (e' := upd a (6 * i + c) (nI (min a1 b1))) (by rw [dd_ixX, nI_clamp (by omega)]) (nm_r (nI_1 i) (ih _ fun r d hr hd => ?_))⟩
        by_cases e : r = i ∧ d = c
        · rw [e.1, e.2, pk_us, if_pos (Nat.lt_succ_self i)]
          unfold mk_mg
          rw [if_pos ⟨rfl, hh⟩]
        · rw [pk_un (by omega), hI r d hr hd]
          by_cases e2 : r < i
          · rw [if_pos e2, if_pos (by omega)]
          · by_cases e3 : r = i
            · rw [if_neg e2, if_pos (by omega)]
              unfold mk_mg
              rw [if_neg fun z => e ⟨e3, z.1⟩]
            · rw [if_neg e2, if_neg (by omega)]
      refine br_f (nI_ge hi (by omega)) ⟨vi, nm_r (e' := nI (g i c)) (by rw [dd_ixX, nI_clamp (by omega), ei]) (pk_eq (g i c) a1 (fun z => put (Or.inl z)) (fun z => pk_eq (g i c) b1 (fun z2 => put (Or.inr z2)) (fun z2 => nm_r (nI_1 i) (ih a fun r d hr hd => ?_))))⟩
      rw [hI r d hr hd]
      by_cases e2 : r < i
      · rw [if_pos e2, if_pos (by omega)]
      · by_cases e3 : r = i
        · rw [if_neg e2, if_pos (by omega), e3]
          unfold mk_mg
          rw [if_neg fun w => by rcases w with ⟨w1, w2⟩; rw [w1] at w2; omega]
        · rw [if_neg e2, if_neg (by omega)]
  exact pk_le b1 a1 (fun z => key _ (by rw [Nat.min_eq_right z])) (fun z => key _ (by rw [Nat.min_eq_left (by omega)]))
/-- two parts made the same where the dependencies ask it: the table has fewer own marks, or nothing was to do -/
theorem x_equateMarks {post : SX → Prop} {f : Int64} {p q : Int32} (hp : pn ≤ 4) (hf : ∀ t, t < 64 → dd_m f t = dd_v L R B n (fun d => !B d) t) {g : Nat → Nat → Nat} (hR : mk_R mk pn g) (I : mk_I (mk_F L R B n) pn (mk_h P) g) (i j : Nat) (hi : i < pn) (hj : j < pn)
    (h : ∀ mk' g', mk_R mk' pn g' → mk_I (mk_F L R B n) pn (mk_h P) g' → (mk_w pn g' < mk_w pn g ∨ (g' = g ∧ ∀ c, c < 6 → (dd_C1 L R B n (mk_agr g i j)).getLsbD c = true → g i c = g j c)) → (mk_closed (mk_F L R B n) pn g → g' = g) → post (xT L R B n P pn ce rn mk'))
    (hp1 : p = nI i := by rfl) (hp2 : q = nI j := by rfl) : wpX_equateMarks post (xT L R B n P pn ce rn mk) f p q := by
  subst hp1 hp2
  refine dd_lp (fun m c s => wX_equateMarks_6 post f (nI i) (nI j) (nI n) (nI pn) (nI rn) (fun d => dd_i (L d)) (fun d => dd_i (R d)) (fun d => dd_b (B d)) (fun d => dd_i (P d)) ce mk m (dd_i s) (nI c)) (dd_of (fun c => decide (g i c = g j c))) (fun _ => True) 6 0 (by decide) trivial (fun m _ => ?_) (fun m c _ hc _ ih => ?_)
  · refine br_t (nI_le (Nat.le_refl 6) (by decide)) (x_closureIn (mk_agr g i j) ?_)
    rw [dd_clE hf]
    refine pk_loop (fun m c a => wX_equateMarks_67 post (nI i) (nI j) (dd_i (dd_C1 L R B n (mk_agr g i j))) m (nI c) (nI n) (nI pn) (nI rn) (fun d => dd_i (L d)) (fun d => dd_i (R d)) (fun d => dd_b (B d)) (fun d => dd_i (P d)) ce a)
      (fun c a => ∃ g', mk_R a pn g' ∧ mk_I (mk_F L R B n) pn (mk_h P) g' ∧ (mk_w pn g' < mk_w pn g ∨ (g' = g ∧ ∀ c', c' < c → (dd_C1 L R B n (mk_agr g i j)).getLsbD c' = true → g i c' = g j c')) ∧ (mk_closed (mk_F L R B n) pn g → g' = g))
      6 0 mk (by decide) ⟨g, hR, I, Or.inr ⟨rfl, fun c' hc' => absurd hc' (Nat.not_lt_zero c')⟩, fun _ => rfl⟩ (fun m a hI => ?_) (fun m c a hc hI ih => ?_)
    · obtain ⟨g', h1, h2, h3, h4⟩ := hI
      exact br_t (nI_le (Nat.le_refl 6) (by decide)) (h a g' h1 h2 h3 h4)
    · obtain ⟨g', h1, h2, h3, h4⟩ := hI
      have v1 : vp_in (nI i * 6 + nI c) 24 := by rw [dd_ixX]; exact vp_in_nI (by omega) (by decide)
      have v2 : vp_in (nI j * 6 + nI c) 24 := by rw [dd_ixX]; exact vp_in_nI (by omega) (by decide)
      refine br_f (nI_ge hc (by decide)) (x_isInS (dd_C1 L R B n (mk_agr g i j)) c (by omega) (dd_br (fun g1 => nm_r (nI_1 c) (ih a ⟨g', h1, h2, ?_, h4⟩)) (fun g1 => ⟨v1, v2, x_mergeMarks hp h1 (fun _ _ z1 z2 => mk_le4 h2 hp z1 z2) c hc (g' i c) (g' j c) (mk_le4 h2 hp hi hc) (mk_le4 h2 hp hj hc) (fun mk' hmk' => ?_) rfl (by rw [dd_ixX, nI_clamp (by omega)]; exact h1 i c hi hc) (by rw [dd_ixX, nI_clamp (by omega)]; exact h1 j c hj hc)⟩)))
      · rcases h3 with h3 | ⟨e, h3⟩
        · exact Or.inl h3
        · refine Or.inr ⟨e, fun c' hc' hb => ?_⟩
          rcases Nat.lt_or_ge c' c with z | z
          · exact h3 c' z hb
          · rw [show c' = c by omega, g1] at hb
            exact absurd hb (by decide)
      · have hg := mk_reach I hi hj g1
        have sw := mk_stepW h2 hi hj hc hg
        refine nm_r (nI_1 c) (ih mk' ⟨_, hmk', sw.1, ?_, fun hcl => ?_⟩)
        · rcases h3 with h3 | ⟨e, h3⟩
          · left
            rcases sw.2 with s | ⟨s, _⟩
            · omega
            · rw [s]; exact h3
          · rcases sw.2 with s | ⟨s, s2⟩
            · left; rw [e] at s ⊢; exact s
            · right
              refine ⟨s.trans e, fun c' hc' hb => ?_⟩
              rcases Nat.lt_or_ge c' c with z | z
              · exact h3 c' z hb
              · rw [show c' = c by omega, ← e]; exact s2
        · have e := h4 hcl
          have same : g' i c = g' j c := by
            rw [e]; exact hg g ⟨hcl, I.2.1, I.2.2.1⟩
          rw [same, mk_same]; exact e
  · have v1 : vp_in (nI i * 6 + nI c) 24 := by rw [dd_ixX]; exact vp_in_nI (by omega) (by decide)
    have v2 : vp_in (nI j * 6 + nI c) 24 := by rw [dd_ixX]; exact vp_in_nI (by omega) (by decide)
    have b1 := mk_le4 I hp hi hc
    have b2 := mk_le4 I hp hj hc
    exact br_f (nI_ge hc (by decide)) ⟨v1, v2, dd_if (d := g i c = g j c) (by rw [dd_ixX, dd_ixX, nI_clamp (by omega), nI_clamp (by omega), hR i c hi hc, hR j c hj hc, nI_eq (by omega) (by omega)]) (fun z => nm_r (e' := dd_i (dd_of (fun c => decide (g i c = g j c)) c ||| dd_e c)) (by rw [dd_1 c hc, dd_or]) (nm_r (nI_1 c) (ih _ (dd_ofT (decide_eq_true z)) trivial))) (fun z => nm_r (nI_1 c) (ih _ (dd_ofF (decide_eq_false z)) trivial))⟩
theorem x_hasJoinedRow {post : Int32 → Prop} (hp : pn ≤ 4) {g : Nat → Nat → Nat} (hR : mk_R mk pn g) (hb : ∀ i c, i < pn → c < 6 → g i c ≤ 4) (h : post (dd_b (mk_j pn g))) : wpX_hasJoinedRow post (xT L R B n P pn ce rn mk) := by
  unfold mk_j at h
  refine dd_lp (σ := Unit) (fun m i _ => wX_hasJoinedRow_2 post (nI n) (nI pn) (nI rn) (fun d => dd_i (L d)) (fun d => dd_i (R d)) (fun d => dd_b (B d)) (fun d => dd_i (P d)) ce mk m (nI i)) (fun _ => ()) (fun i => dd_al (fun i => !dd_al (fun c => decide (g i c = 0)) 6) i = true) pn 0 (Nat.zero_le pn) rfl (fun m hJ => ?_) (fun m i _ hi hJ ih => ?_)
  · rw [hJ] at h
    exact br_t (nI_le (Nat.le_refl pn) (by omega)) h
  · refine br_f (nI_ge hi (by omega)) ?_
    refine dd_lp (fun m' c s => wX_hasJoinedRow_14 post (wX_hasJoinedRow_2 post (nI n) (nI pn) (nI rn) (fun d => dd_i (L d)) (fun d => dd_i (R d)) (fun d => dd_b (B d)) (fun d => dd_i (P d)) ce mk m) (nI i) (nI n) (nI pn) (nI rn) (fun d => dd_i (L d)) (fun d => dd_i (R d)) (fun d => dd_b (B d)) (fun d => dd_i (P d)) ce mk m' (dd_i s) (nI c)) (dd_of (fun c => decide (g i c = 0))) (fun _ => True) 6 0 (by decide) trivial (fun m' _ => ?_) (fun m' c _ hc _ ih2 => ?_)
    · refine br_t (nI_le (Nat.le_refl 6) (by decide)) (dd_bre _ 63#6 (fun z => ?_) (fun z => nm_r (nI_1 i) (ih () rfl (dd_alS hJ ?_))))
      · have e : dd_al (fun c => decide (g i c = 0)) 6 = true := dd_alI.mpr fun c hc => by
          have := congrArg (fun s => BitVec.getLsbD s c) z
          simp only [dd_of6 _ hc] at this
          rw [this]
          exact (by decide : ∀ c, c < 6 → (63#6).getLsbD c = true) c hc
        rw [dd_alF (q := fun i => !dd_al (fun c => decide (g i c = 0)) 6) hi (by rw [e]; rfl)] at h
        exact h
      · have e : dd_al (fun c => decide (g i c = 0)) 6 = false := ts_nt fun w => z (dd_ext fun c hc => by
          rw [dd_of6 _ hc, (by decide : ∀ c, c < 6 → (63#6).getLsbD c = true) c hc]
          exact dd_alI.mp w c hc)
        rw [e]; rfl
    · have b1 := hb i c hi hc
      exact br_f (nI_ge hc (by decide)) ⟨by rw [dd_ixX]; exact vp_in_nI (by omega) (by decide), dd_if (d := g i c = 0) (by rw [dd_ixX, nI_clamp (by omega), hR i c hi hc, ← nI_0, nI_eq (by omega) (by omega)]) (fun z => nm_r (e' := dd_i (dd_of (fun c => decide (g i c = 0)) c ||| dd_e c)) (by rw [dd_1 c hc, dd_or]) (nm_r (nI_1 c) (ih2 _ (dd_ofT (decide_eq_true z)) trivial))) (fun z => nm_r (nI_1 c) (ih2 _ (dd_ofF (decide_eq_false z)) trivial))⟩
/-- what one round keeps: up to the pair (i, j) -/
def mk_rd (L R : Nat → dd_S) (B : Nat → Bool) (n : Nat) (P : Nat → dd_S) (pn : Nat) (g0 : Nat → Nat → Nat) (i j : Nat) (a : Nat → Int32) : Prop :=
  ∃ g, mk_R a pn g ∧ mk_I (mk_F L R B n) pn (mk_h P) g ∧ (mk_w pn g < mk_w pn g0 ∨ (g = g0 ∧ ∀ i' j', j' < i' → i' < pn → (i' < i ∨ (i' = i ∧ j' < j)) → ∀ c, c < 6 → (dd_C1 L R B n (mk_agr g0 i' j')).getLsbD c = true → g0 i' c = g0 j' c)) ∧ (mk_closed (mk_F L R B n) pn g0 → g = g0)
theorem x_lossless {post : Int32 → SX → Prop} (hn : n ≤ 10) (hp : pn ≤ 4) (h : ∀ g mk', mk_I (mk_F L R B n) pn (mk_h P) g → mk_closed (mk_F L R B n) pn g → post (dd_b (mk_j pn g)) (xT L R B n P pn ce rn mk')) : wpX_lossless post (xT L R B n P pn ce rn mk) := by
  unfold wpX_lossless
  refine x_singles hn fun f hf => x_markParts hp fun mk0 hmk0 => ?_
  refine pk_loop (fun m k a => wX_lossless_18 post f m (nI k) (nI n) (nI pn) (nI rn) (fun d => dd_i (L d)) (fun d => dd_i (R d)) (fun d => dd_b (B d)) (fun d => dd_i (P d)) ce a) (fun k a => ∃ g, mk_R a pn g ∧ mk_I (mk_F L R B n) pn (mk_h P) g ∧ (mk_closed (mk_F L R B n) pn g ∨ mk_w pn g + k ≤ 24)) 24 0 mk0 (by decide) ⟨mk_h P, hmk0, mk_start fun i c _ _ => mk_ho P i c, Or.inr (by have := mk_wle pn (mk_h P); omega)⟩ (fun m a hI => ?_) (fun m k a hk hI ih => ?_)
  · obtain ⟨g, h1, h2, h3⟩ := hI
    have hcl : mk_closed (mk_F L R B n) pn g := by
      rcases h3 with h3 | h3
      · exact h3
      · exact mk_zero h2 (by omega)
    exact br_t (nI_le (Nat.le_refl 24) (by decide)) (x_hasJoinedRow hp h1 (fun _ _ z1 z2 => mk_le4 h2 hp z1 z2) ⟨dd_bn _, h g a h2 hcl⟩)
  · obtain ⟨g0, h1, h2, h3⟩ := hI
    refine br_f (nI_ge hk (by decide)) ?_
    have nxt : ∀ a', mk_rd L R B n P pn g0 pn 0 a' → wX_lossless_18 post f m (nI (k + 1)) (nI n) (nI pn) (nI rn) (fun d => dd_i (L d)) (fun d => dd_i (R d)) (fun d => dd_b (B d)) (fun d => dd_i (P d)) ce a' := by
      rintro a' ⟨g, k1, k2, k3, k4⟩
      refine ih a' ⟨g, k1, k2, ?_⟩
      rcases k3 with k3 | ⟨e, k3⟩
      · rcases h3 with h3 | h3
        · left; rw [k4 h3]; exact h3
        · right; omega
      · left
        rw [e]
        exact mk_closedX fun i j hj hi c hc => k3 i j hj hi (Or.inl hi) c (dd_lt hc) hc
    have rounds : ∃ m', wX_lossless_28 post (wX_lossless_18 post f m) f (nI k) m' (nI 1) (nI n) (nI pn) (nI rn) (fun d => dd_i (L d)) (fun d => dd_i (R d)) (fun d => dd_b (B d)) (fun d => dd_i (P d)) ce a := by
      rcases Nat.lt_or_ge pn 1 with z | z
      · refine ⟨1, br_t (nI_le (by omega) (by decide)) (nm_r (nI_1 k) (nxt a ⟨g0, h1, h2, Or.inr ⟨rfl, fun i' j' q1 q2 => by omega⟩, fun _ => rfl⟩))⟩
      · refine pk_loop (fun m' i a => wX_lossless_28 post (wX_lossless_18 post f m) f (nI k) m' (nI i) (nI n) (nI pn) (nI rn) (fun d => dd_i (L d)) (fun d => dd_i (R d)) (fun d => dd_b (B d)) (fun d => dd_i (P d)) ce a) (fun i a => mk_rd L R B n P pn g0 i 0 a) pn 1 a z ⟨g0, h1, h2, Or.inr ⟨rfl, fun i' j' q1 q2 q3 => by omega⟩, fun _ => rfl⟩ (fun m' a hI => ?_) (fun m' i a hi hI ih2 => ?_)
        · exact br_t (nI_le (Nat.le_refl pn) (by omega)) (nm_r (nI_1 k) (nxt a hI))
        · refine br_f (nI_ge hi (by omega)) ?_
          refine pk_loop (fun m'' j a => wX_lossless_40 post (wX_lossless_18 post f m) (wX_lossless_28 post (wX_lossless_18 post f m) f (nI k) m') f (nI k) (nI i) m'' (nI j) (nI n) (nI pn) (nI rn) (fun d => dd_i (L d)) (fun d => dd_i (R d)) (fun d => dd_b (B d)) (fun d => dd_i (P d)) ce a) (fun j a => mk_rd L R B n P pn g0 i j a) i 0 a (Nat.zero_le i) hI (fun m'' a hI2 => ?_) (fun m'' j a hj hI2 ih3 => ?_)
          · refine br_t (nI_le (Nat.le_refl i) (by omega)) (nm_r (nI_1 i) (ih2 a ?_))
            obtain ⟨g, k1, k2, k3, k4⟩ := hI2
            refine ⟨g, k1, k2, k3.imp id fun ⟨e, k3⟩ => ⟨e, fun i' j' q1 q2 q3 => k3 i' j' q1 q2 (by omega)⟩, k4⟩
          · obtain ⟨g, k1, k2, k3, k4⟩ := hI2
            refine br_f (nI_ge hj (by omega)) (x_equateMarks hp hf k1 k2 i j hi (by omega) fun mk' g' w1 w2 w3 w4 => nm_r (nI_1 j) (ih3 mk' ⟨g', w1, w2, ?_, fun hcl => ?_⟩))
            · rcases w3 with w3 | ⟨e', w3⟩
              · left
                rcases k3 with k3 | ⟨e, _⟩
                · omega
                · rw [e] at w3; exact w3
              · rw [e']
                refine k3.imp id fun ⟨e, k3⟩ => ⟨e, fun i' j' q1 q2 q3 c hc hb => ?_⟩
                by_cases z : i' = i ∧ j' = j
                · rw [e] at w3
                  rw [z.1, z.2] at hb ⊢
                  exact w3 c hc hb
                · exact k3 i' j' q1 q2 (by omega) c hc hb
            · have e := k4 hcl
              rw [w4 (by rw [e]; exact hcl)]; exact e
    exact rounds
end
end
section
/-! lossless, the reference's side -/
section
variable {L R : Nat → dd_S} {B : Nat → Bool} {n : Nat} {P : Nat → dd_S} {pn : Nat} {ce : Nat → Int32} {rn : Nat} {sm : Int32} {md : Int64} {kn cs : Nat → Int32} {tb : Nat → Int64} {st sy : Nat → Int32}
theorem y_likeOn {post : Int32 → Prop} {a b w : Int32} (hp : pn ≤ 4) {g : Nat → Nat → Nat} (hR : mk_R sy pn g) (hb : ∀ i c, i < pn → c < 6 → g i c ≤ 4) (p q : Nat) (hpp : p < pn) (hq : q < pn) (x : dd_S)
    (h : post (dd_b (dd_al (fun c => !x.getLsbD c || decide (g p c = g q c)) 6))) (h1 : a = nI p := by rfl) (h2 : b = nI q := by rfl) (h3 : w = dd_i x := by rfl) : wpY_likeOn post (yT L R B n P pn ce rn sm md kn cs tb st sy) a b w := by
  subst h1 h2 h3
  refine dd_lp (σ := Unit) (fun m c _ => wY_likeOn_3 post (nI p) (nI q) (dd_i x) (nI n) (nI pn) (nI rn) sm md (fun d => dd_i (L d)) (fun d => dd_i (R d)) (fun d => dd_b (B d)) (fun d => dd_i (P d)) ce kn cs tb st sy m (nI c)) (fun _ => ()) (fun i => dd_al (fun c => !x.getLsbD c || decide (g p c = g q c)) i = true) 6 0 (by decide) rfl (fun m hJ => ?_) (fun m c _ hc hJ ih => ?_)
  · rw [hJ] at h
    exact br_t (nI_le (Nat.le_refl 6) (by decide)) h
  · have b1 := hb p c hpp hc
    have b2 := hb q c hq hc
    refine br_f (nI_ge hc (by decide)) (dd_brb x c (by omega) (fun g1 => ⟨by rw [dd_ixY]; exact vp_in_nI (by omega) (by decide), by rw [dd_ixY]; exact vp_in_nI (by omega) (by decide), dd_if (d := g p c = g q c) (by rw [dd_ixY, dd_ixY, nI_clamp (by omega), nI_clamp (by omega), hR p c hpp hc, hR q c hq hc, nI_eq (by omega) (by omega)]) (fun z => nm_r (nI_1 c) (ih () rfl (dd_alS hJ ?_))) (fun z => ?_)⟩) (fun g1 => nm_r (nI_1 c) (ih () rfl (dd_alS hJ ?_))))
    · rw [decide_eq_true z, Bool.or_true]
    · rw [dd_alF (q := fun c => !x.getLsbD c || decide (g p c = g q c)) hc (by rw [g1, decide_eq_false z]; rfl)] at h
      exact h
    · rw [g1]; rfl
/-- one column merged -/
theorem y_merge64 {post : Int32 → SY → Prop} {J : Int32 → Int32 → (Nat → Int32) → (Nat → Int32) → (Nat → Int32) → (Nat → Int32) → (Nat → Int32) → (Nat → Int32) → (Nat → Int32) → (Nat → Int64) → (Nat → Int32) → (Nat → Int32) → Prop} {x1 x2 x3 x4 : Int32}
    (hp : pn ≤ 4) {g : Nat → Nat → Nat} (hR : mk_R sy pn g) (hb : ∀ i c, i < pn → c < 6 → g i c ≤ 4) (c : Nat) (hc : c < 6) (a1 b1 : Nat) (ha : a1 ≤ 4) (hb1 : b1 ≤ 4)
    (hJ : ∀ sy', mk_R sy' pn (mk_mg g c a1 b1) → J x4 (nI (c + 1)) (fun d => dd_i (L d)) (fun d => dd_i (R d)) (fun d => dd_b (B d)) (fun d => dd_i (P d)) ce kn cs tb st sy') :
    ∃ m, wY_merge_64 post J x1 x2 x3 x4 (nI c) (nI a1) (nI b1) (nI n) (nI pn) (nI rn) sm md m 0 (fun d => dd_i (L d)) (fun d => dd_i (R d)) (fun d => dd_b (B d)) (fun d => dd_i (P d)) ce kn cs tb st sy := by
  refine pk_loop (fun m i a => wY_merge_64 post J x1 x2 x3 x4 (nI c) (nI a1) (nI b1) (nI n) (nI pn) (nI rn) sm md m (nI i) (fun d => dd_i (L d)) (fun d => dd_i (R d)) (fun d => dd_b (B d)) (fun d => dd_i (P d)) ce kn cs tb st a) (fun i a => ∀ r d, r < pn → d < 6 → a (6 * r + d) = nI (if r < i then mk_mg g c a1 b1 r d else g r d)) pn 0 sy (Nat.zero_le pn) (fun r d hr hd => by rw [if_neg (Nat.not_lt_zero r)]; exact hR r d hr hd) (fun m a hI => ?_) (fun m i a hi hI ih => ?_)
  · refine br_t (nI_le (Nat.le_refl pn) (by omega)) (nm_r (nI_1 c) (hJ a fun r d hr hd => ?_))
    rw [hI r d hr hd, if_pos hr]
  · have vi : vp_in (6 * nI i + nI c) 24 := by rw [dd_ixY]; exact vp_in_nI (by omega) (by decide)
    have ei : a (6 * i + c) = nI (g i c) := by rw [hI i c hi hc, if_neg (Nat.lt_irrefl i)]
    have hgi := hb i c hi hc
    have fin : ∀ x : Nat, x = mk_mg g c a1 b1 i c → ∀ r d, r < pn → d < 6 → upd a (6 * i + c) (nI x) (6 * r + d) = nI (if r < i + 1 then mk_mg g c a1 b1 r d else g r d) := by
      rintro x rfl r d hr hd
      by_cases e : r = i ∧ d = c
      · rw [e.1, e.2, pk_us, if_pos (Nat.lt_succ_self i)]
      · rw [pk_un (by omega), hI r d hr hd]
        by_cases e2 : r < i
        · rw [if_pos e2, if_pos (by omega)]
        · by_cases e3 : r = i
          · rw [if_neg e2, if_pos (by omega)]
            unfold mk_mg
            rw [if_neg fun z => e ⟨e3, z.1⟩]
          · rw [if_neg e2, if_neg (by omega)]
    have put : (g i c = a1 ∨ g i c = b1) → wY_merge_109 post J (wY_merge_64 post J x1 x2 x3 x4 (nI c) (nI a1) (nI b1) (nI n) (nI pn) (nI rn) sm md m) x1 x2 x3 x4 (nI c) (nI a1) (nI b1) (nI i) (nI n) (nI pn) (nI rn) sm md (fun d => dd_i (L d)) (fun d => dd_i (R d)) (fun d => dd_b (B d)) (fun d => dd_i (P d)) ce kn cs tb st a := by
      intro hh
      have em : mk_mg g c a1 b1 i c = min a1 b1 := by unfold mk_mg; rw [if_pos ⟨rfl, hh⟩]
      refine br_f (by decide) (pk_le b1 a1 (fun z => ⟨vi, nm_r (e' := upd a (6 * i + c) (nI b1)) (by rw [dd_ixY, nI_clamp (by omega)]) (nm_r (nI_1 i) (ih _ (fin b1 ?_)))⟩) (fun z => ⟨vi, nm_r (e' := upd a (6 * i + c) (nI a1)) (by rw [dd_ixY, nI_clamp (by omega)]) (nm_r (nI_1 i) (ih _ (fin a1 ?_)))⟩))
      · rw [em, Nat.min_eq_right z]
      · rw [em, Nat.min_eq_left (by omega)]
    refine br_f (nI_ge hi (by omega)) ⟨vi, dd_if (d := g i c = a1) (by rw [dd_ixY, nI_clamp (by omega), ei, nI_eq (by omega) (by omega)]) (fun z => put (Or.inl z)) (fun z => ⟨vi, dd_if (d := g i c = b1) (by rw [dd_ixY, nI_clamp (by omega), ei, nI_eq (by omega) (by omega)]) (fun z2 => put (Or.inr z2)) (fun z2 => br_t rfl ⟨vi, vi, nm_r (e' := upd a (6 * i + c) (nI (g i c))) (by rw [dd_ixY, nI_clamp (by omega), ei]) (nm_r (nI_1 i) (ih _ (fin (g i c) ?_)))⟩)⟩)⟩
    unfold mk_mg
    rw [if_neg fun w => by rcases w.2 with y | y <;> omega]
theorem y_merge {post : Int32 → SY → Prop} {a b w : Int32} (hp : pn ≤ 4) {F : dd_S → dd_S → Prop} {g : Nat → Nat → Nat} (hR : mk_R sy pn g) (I : mk_I F pn (mk_h P) g) (p q : Nat) (hpp : p < pn) (hq : q < pn) (y : dd_S)
    (hg : ∀ c, y.getLsbD c = true → ∀ g', mk_C F pn (mk_h P) g' → g' p c = g' q c)
    (h : ∀ mo sy' g', mk_R sy' pn g' → mk_I F pn (mk_h P) g' → (mo = true → mk_w pn g' < mk_w pn g) → (mo = false → g' = g ∧ ∀ c, c < 6 → y.getLsbD c = true → g p c = g q c) → post (dd_b mo) (yT L R B n P pn ce rn sm md kn cs tb st sy'))
    (h1 : a = nI p := by rfl) (h2 : b = nI q := by rfl) (h3 : w = dd_i y := by rfl) : wpY_merge post (yT L R B n P pn ce rn sm md kn cs tb st sy) a b w := by
  subst h1 h2 h3
  refine pk_loop (σ := Bool × (Nat → Int32)) (fun m c z => wY_merge_6 post (nI p) (nI q) (dd_i y) (nI n) (nI pn) (nI rn) sm md m (dd_b z.1) (nI c) (fun d => dd_i (L d)) (fun d => dd_i (R d)) (fun d => dd_b (B d)) (fun d => dd_i (P d)) ce kn cs tb st z.2)
    (fun c z => ∃ g', mk_R z.2 pn g' ∧ mk_I F pn (mk_h P) g' ∧ (z.1 = true → mk_w pn g' < mk_w pn g) ∧ (z.1 = false → g' = g ∧ ∀ c', c' < c → y.getLsbD c' = true → g p c' = g q c'))
    6 0 (false, sy) (by decide) ⟨g, hR, I, fun z => dd_ft z, fun _ => ⟨rfl, fun c' hc' => absurd hc' (Nat.not_lt_zero c')⟩⟩ (fun m z hI => ?_) (fun m c z hc hI ih => ?_)
  · obtain ⟨mo, a⟩ := z
    obtain ⟨g', k1, k2, k3, k4⟩ := hI
    exact br_t (nI_le (Nat.le_refl 6) (by decide)) ⟨dd_bn mo, h mo a g' k1 k2 k3 k4⟩
  · obtain ⟨mo, a⟩ := z
    obtain ⟨g', k1, k2, k3, k4⟩ := hI
    have k1' : mk_R a pn g' := k1
    have k3' : mo = true → mk_w pn g' < mk_w pn g := k3
    have k4' : mo = false → g' = g ∧ ∀ c', c' < c → y.getLsbD c' = true → g p c' = g q c' := k4
    have b1 := mk_le4 k2 hp hpp hc
    have b2 := mk_le4 k2 hp hq hc
    refine br_f (nI_ge hc (by decide)) ⟨by rw [dd_ixY]; exact vp_in_nI (by omega) (by decide), nm_r (e' := nI (g' p c)) (by rw [dd_ixY, nI_clamp (by omega)]; exact k1' p c hpp hc) ⟨by rw [dd_ixY]; exact vp_in_nI (by omega) (by decide), nm_r (e' := nI (g' q c)) (by rw [dd_ixY, nI_clamp (by omega)]; exact k1' q c hq hc) (dd_brb y c (by omega) (fun g1 => pk_eq (g' p c) (g' q c) (fun z => nm_r (nI_1 c) (ih (mo, a) ⟨g', k1', k2, k3', fun e => ?_⟩)) (fun z => ?_)) (fun g1 => nm_r (nI_1 c) (ih (mo, a) ⟨g', k1', k2, k3', fun e => ?_⟩)))⟩⟩
    · obtain ⟨e1, e2⟩ := k4' e
      refine ⟨e1, fun c' hc' hb => ?_⟩
      rcases Nat.lt_or_ge c' c with y1 | y1
      · exact e2 c' y1 hb
      · rw [show c' = c by omega, ← e1]; exact z
    · have hgc := hg c g1
      refine y_merge64 hp k1' (fun _ _ z1 z2 => mk_le4 k2 hp z1 z2) c hc (g' p c) (g' q c) b1 b2 fun sy' hsy' => ih (true, sy') ⟨_, hsy', mk_step k2 hpp hq hc hgc, fun _ => ?_, fun z => dd_tf z⟩
      have w := mk_wlt k2 hpp hq hc z
      cases mo with
      | true => have := k3' rfl; omega
      | false => rw [(k4' rfl).1] at w ⊢; exact w
    · obtain ⟨e1, e2⟩ := k4' e
      refine ⟨e1, fun c' hc' hb => ?_⟩
      rcases Nat.lt_or_ge c' c with y1 | y1
      · exact e2 c' y1 hb
      · rw [show c' = c by omega, g1] at hb
        exact absurd hb (by decide)
/-- one dependency has nothing more to merge -/
def mk_ck (L R : Nat → dd_S) (B : Nat → Bool) (pn : Nat) (g : Nat → Nat → Nat) (k : Nat) : Prop :=
  B k = false → ∀ p q, p < q → q < pn → (∀ c, (L k).getLsbD c = true → g p c = g q c) → ∀ c, (R k).getLsbD c = true → g p c = g q c
theorem mk_closedY {g : Nat → Nat → Nat} (h : ∀ k, k < n → mk_ck L R B pn g k) : mk_closed (mk_F L R B n) pn g := by
  rintro l r ⟨d, hd, _, hb, rfl, rfl⟩ i j hi hj hl c hr
  rcases Nat.lt_trichotomy i j with z | z | z
  · exact h d hd hb i j z hj hl c hr
  · rw [z]
  · exact (h d hd hb j i z hi (fun c hc => (hl c hc).symm) c hr).symm
/-- a state whose symbols are the table g -/
def y_L (L R : Nat → dd_S) (B : Nat → Bool) (n : Nat) (P : Nat → dd_S) (pn : Nat) (ce : Nat → Int32) (rn : Nat) (sm : Int32) (md : Int64) (kn cs : Nat → Int32) (tb : Nat → Int64) (st : Nat → Int32) (g : Nat → Nat → Nat) (v : SY) : Prop :=
  ∃ sy, mk_R sy pn g ∧ v = (yT L R B n P pn ce rn sm md kn cs tb st sy)
theorem y_mergeBy {post : Int32 → SY → Prop} {w : Int32} {v : SY} (hn : n ≤ 10) (hp : pn ≤ 4) (k : Nat) (hk : k < n) {g : Nat → Nat → Nat} (hv : y_L L R B n P pn ce rn sm md kn cs tb st g v) (I : mk_I (mk_F L R B n) pn (mk_h P) g)
    (h : ∀ mo v' g', y_L L R B n P pn ce rn sm md kn cs tb st g' v' → mk_I (mk_F L R B n) pn (mk_h P) g' → (mo = true → mk_w pn g' < mk_w pn g) → (mo = false → g' = g ∧ mk_ck L R B pn g k) → post (dd_b mo) v')
    (h1 : w = nI k := by rfl) : wpY_mergeBy post v w := by
  subst h1
  obtain ⟨sy, hR, rfl⟩ := hv
  refine pk_loop (σ := Bool × SY) (fun m i z => yc (wY_mergeBy_4 post (nI k) m (dd_b z.1) (nI i)) z.2)
    (fun i z => ∃ g', y_L L R B n P pn ce rn sm md kn cs tb st g' z.2 ∧ mk_I (mk_F L R B n) pn (mk_h P) g' ∧ (z.1 = true → mk_w pn g' < mk_w pn g) ∧ (z.1 = false → g' = g ∧ (B k = false → ∀ p q, p < q → q < pn → 4 * p + q < i → (∀ c, (L k).getLsbD c = true → g p c = g q c) → ∀ c, (R k).getLsbD c = true → g p c = g q c)))
    16 0 (false, (yT L R B n P pn ce rn sm md kn cs tb st sy)) (by decide) ⟨g, ⟨sy, hR, rfl⟩, I, fun z => dd_ft z, fun _ => ⟨rfl, fun _ p q _ _ z => absurd z (Nat.not_lt_zero _)⟩⟩ (fun m z hI => ?_) (fun m i z hi hI ih => ?_)
  · obtain ⟨mo, v⟩ := z
    obtain ⟨g', k1, k2, k3, k4⟩ := hI
    have k4' : mo = false → g' = g ∧ (B k = false → ∀ p q, p < q → q < pn → 4 * p + q < 16 → (∀ c, (L k).getLsbD c = true → g p c = g q c) → ∀ c, (R k).getLsbD c = true → g p c = g q c) := k4
    have w := h mo v g' k1 k2 k3 fun e => ⟨(k4' e).1, fun hb p q z1 z2 => (k4' e).2 hb p q z1 z2 (by omega)⟩
    obtain ⟨sy', hR', rfl⟩ := k1
    exact br_t (nI_le (Nat.le_refl 16) (by decide)) ⟨dd_bn mo, w⟩
  · obtain ⟨mo, v⟩ := z
    obtain ⟨g', k1, k2, k3, k4⟩ := hI
    obtain ⟨sy', hR', rfl⟩ := k1
    have k3' : mo = true → mk_w pn g' < mk_w pn g := k3
    have k4' : mo = false → g' = g ∧ (B k = false → ∀ p q, p < q → q < pn → 4 * p + q < i → (∀ c, (L k).getLsbD c = true → g p c = g q c) → ∀ c, (R k).getLsbD c = true → g p c = g q c) := k4
    have v10 : vp_in (nI k) 10 := vp_in_nI (by omega) (by decide)
    have e4 : nI i / 4 = nI (i / 4) := pk_div (by omega) (by decide) (by decide)
    have e5 : nI i - nI i / 4 * 4 = nI (i % 4) := pk_rem (by omega) (by decide) (by decide)
    have skip : (B k = false → i / 4 < i % 4 → i % 4 < pn → (∀ c, (L k).getLsbD c = true → g' (i / 4) c = g' (i % 4) c) → ∀ c, (R k).getLsbD c = true → g' (i / 4) c = g' (i % 4) c) → yc (wY_mergeBy_4 post (nI k) m (dd_b mo) (nI (i + 1))) (yT L R B n P pn ce rn sm md kn cs tb st sy') := by
      intro hs
      refine ih (mo, _) ⟨g', ⟨sy', hR', rfl⟩, k2, k3', fun e => ?_⟩
      obtain ⟨e1, e2⟩ := k4' e
      refine ⟨e1, fun hb p q z1 z2 z3 => ?_⟩
      rcases Nat.lt_or_ge (4 * p + q) i with z | z
      · exact e2 hb p q z1 z2 z
      · have ep : p = i / 4 := by omega
        have eq : q = i % 4 := by omega
        rw [e1] at hs
        rw [ep, eq] at z1
        rw [eq] at z2
        rw [ep, eq]
        exact hs hb z1 z2
    refine br_f (nI_ge hi (by decide)) ⟨by decide, nm_r e4 ⟨by decide, nm_r e5 (pk_le (i % 4) (i / 4) (fun z => nm_r (nI_1 i) (skip fun _ y => by omega)) (fun z => pk_le pn (i % 4) (fun z2 => nm_r (nI_1 i) (skip fun _ _ y => by omega)) (fun z2 => ⟨v10, dd_if (d := B k = false) (show dd_b (B (nI k).toNatClampNeg) = 0 ↔ _ by rw [nI_clamp (by omega), dd_b0]) (fun hb => ⟨v10, y_likeOn hp hR' (fun _ _ q1 q2 => mk_le4 k2 hp q1 q2) (i / 4) (i % 4) (by omega) z2 (L k) (dd_br (fun g1 => nm_r (nI_1 i) (skip fun _ _ _ y => ?_)) (fun g1 => ⟨v10, ?_⟩)) rfl rfl (dd_ix (fun d => dd_i (L d)) (by omega))⟩) (fun hb => nm_r (nI_1 i) (skip fun y => absurd y hb))⟩)))⟩⟩
    · exfalso
      have : dd_al (fun c => !(L k).getLsbD c || decide (g' (i / 4) c = g' (i % 4) c)) 6 = true := dd_alI.mpr fun c hc => by
        cases hl : (L k).getLsbD c with
        | false => rfl
        | true => rw [decide_eq_true (y c hl)]; rfl
      rw [this] at g1
      exact absurd g1 (by decide)
    · have like : ∀ c, (L k).getLsbD c = true → g' (i / 4) c = g' (i % 4) c := fun c hc => by
        have := dd_alI.mp g1 c (dd_lt hc)
        rw [hc] at this
        simpa using this
      refine y_merge hp hR' k2 (i / 4) (i % 4) (by omega) z2 (R k) (fun c hc g2 hC => ?_) (fun mo2 sy2 g2 w1 w2 w3 w4 => ?_) rfl rfl (dd_ix (fun d => dd_i (R d)) (by omega))
      · exact hC.1 (L k) (R k) ⟨k, hk, by show (!B k) = true; rw [hb]; rfl, hb, rfl, rfl⟩ (i / 4) (i % 4) (by omega) z2 (fun c hc => (k2.1 g2 hC).2 _ _ c (by omega) z2 (dd_lt hc) (like c hc)) c hc
      · refine dd_br (fun e => ?_) (fun e => nm_r (nI_1 i) (ih (true, _) ⟨g2, ⟨sy2, w1, rfl⟩, w2, fun _ => ?_, fun z => dd_tf z⟩))
        · obtain ⟨e1, e2⟩ := w4 e
          subst e1
          have nx : ∀ b, b = mo → yc (wY_mergeBy_4 post (nI k) m (dd_b b) (nI (i + 1))) (yT L R B n P pn ce rn sm md kn cs tb st sy2) := by
            rintro b rfl
            refine ih (b, _) ⟨g2, ⟨sy2, w1, rfl⟩, w2, k3', fun e => ?_⟩
            obtain ⟨e1, e3⟩ := k4' e
            refine ⟨e1, fun hb p q z1 z2 z3 => ?_⟩
            rcases Nat.lt_or_ge (4 * p + q) i with z | z
            · exact e3 hb p q z1 z2 z
            · have ep : p = i / 4 := by omega
              have eq : q = i % 4 := by omega
              intro _ c hc
              rw [ep, eq, ← e1]
              exact e2 c (dd_lt hc) hc
          exact dd_br (fun e => nm_r (nI_1 i) (nx false e.symm)) (fun e => nm_r (nI_1 i) (nx true e.symm))
        · have w := w3 e
          show mk_w pn g2 < mk_w pn g
          cases mo with
          | true => have := k3' rfl; omega
          | false => rw [(k4' rfl).1] at w; exact w
theorem y_l108 {post : Int32 → SY → Prop} (hp : pn ≤ 4) {g : Nat → Nat → Nat} (hR : mk_R sy pn g) (hb : ∀ i c, i < pn → c < 6 → g i c ≤ 4) (h : post (dd_b (mk_j pn g)) (yT L R B n P pn ce rn sm md kn cs tb st sy)) : ∃ m, wY_lossless_108 post (nI n) (nI pn) (nI rn) sm md (fun d => dd_i (L d)) (fun d => dd_i (R d)) (fun d => dd_b (B d)) (fun d => dd_i (P d)) ce kn cs tb st sy m 0 := by
  unfold mk_j at h
  refine dd_lp (σ := Unit) (fun m i _ => wY_lossless_108 post (nI n) (nI pn) (nI rn) sm md (fun d => dd_i (L d)) (fun d => dd_i (R d)) (fun d => dd_b (B d)) (fun d => dd_i (P d)) ce kn cs tb st sy m (nI i)) (fun _ => ()) (fun i => dd_al (fun i => !dd_al (fun c => decide (g i c = 0)) 6) i = true) pn 0 (Nat.zero_le pn) rfl (fun m hJ => ?_) (fun m i _ hi hJ ih => ?_)
  · rw [hJ] at h
    exact br_t (nI_le (Nat.le_refl pn) (by omega)) h
  · refine br_f (nI_ge hi (by omega)) ?_
    refine pk_loop (fun m' c (s : Nat) => wY_lossless_121 post (wY_lossless_108 post (nI n) (nI pn) (nI rn) sm md (fun d => dd_i (L d)) (fun d => dd_i (R d)) (fun d => dd_b (B d)) (fun d => dd_i (P d)) ce kn cs tb st sy m) (nI i) (nI n) (nI pn) (nI rn) sm md (fun d => dd_i (L d)) (fun d => dd_i (R d)) (fun d => dd_b (B d)) (fun d => dd_i (P d)) ce kn cs tb st sy m' (nI s) (nI c)) (fun c s => s ≤ 4 * c ∧ (s = 0 ↔ dd_al (fun c => decide (g i c = 0)) c = true)) 6 0 0 (by decide) ⟨Nat.le_refl _, fun _ => rfl, fun _ => rfl⟩ (fun m' s hI => ?_) (fun m' c s hc hI ih2 => ?_)
    · refine br_t (nI_le (Nat.le_refl 6) (by decide)) (pk_eq s 0 (fun z => ?_) (fun z => nm_r (nI_1 i) (ih () rfl (dd_alS hJ ?_))) rfl rfl (by omega))
      · rw [dd_alF (q := fun i => !dd_al (fun c => decide (g i c = 0)) 6) hi (by rw [hI.2.mp z]; rfl)] at h
        exact h
      · rw [ts_nt fun w => z (hI.2.mpr w)]; rfl
    · have b1 := hb i c hi hc
      refine br_f (nI_ge hc (by decide)) ⟨by rw [dd_ixY]; exact vp_in_nI (by omega) (by decide), nm_r (e' := nI (s + g i c)) (by rw [dd_ixY, nI_clamp (by omega), hR i c hi hc, nI_add]) (nm_r (nI_1 c) (ih2 _ ⟨by omega, ?_⟩))⟩
      show s + g i c = 0 ↔ (dd_al (fun c => decide (g i c = 0)) c && decide (g i c = 0)) = true
      rw [Bool.and_eq_true, decide_eq_true_eq, ← hI.2]
      omega
theorem y_lossless {post : Int32 → SY → Prop} (hn : n ≤ 10) (hp : pn ≤ 4)
    (h : ∀ g sy', mk_I (mk_F L R B n) pn (mk_h P) g → mk_closed (mk_F L R B n) pn g → post (dd_b (mk_j pn g)) (yT L R B n P pn ce rn sm md kn cs tb st sy')) : wpY_lossless post (yT L R B n P pn ce rn sm md kn cs tb st sy) := by
  refine pk_loop (fun m i a => wY_lossless_2 post (nI n) (nI pn) (nI rn) sm md m (nI i) (fun d => dd_i (L d)) (fun d => dd_i (R d)) (fun d => dd_b (B d)) (fun d => dd_i (P d)) ce kn cs tb st a) (fun i a => ∀ p c, p < pn → c < 6 → 6 * p + c < i → a (6 * p + c) = nI (mk_h P p c)) 24 0 sy (by decide) (fun _ _ _ _ z => absurd z (Nat.not_lt_zero _)) (fun m a hI => ?_) (fun m i a hi hI ih => ?_)
  · refine br_t (nI_le (Nat.le_refl 24) (by decide)) ?_
    have hR : mk_R a pn (mk_h P) := fun p c h1 h2 => hI p c h1 h2 (by omega)
    refine loop_m (σ := Bool × (Nat → Nat → Nat) × (Nat → Int32)) (fun m z => wY_lossless_63 post m (dd_b z.1) (nI n) (nI pn) (nI rn) sm md (fun d => dd_i (L d)) (fun d => dd_i (R d)) (fun d => dd_b (B d)) (fun d => dd_i (P d)) ce kn cs tb st z.2.2)
      (fun z => mk_R z.2.2 pn z.2.1 ∧ mk_I (mk_F L R B n) pn (mk_h P) z.2.1 ∧ (z.1 = false → mk_closed (mk_F L R B n) pn z.2.1))
      (fun z => (if z.1 = true then 1 else 0) + mk_w pn z.2.1) (fun m z hI ih => ?_) (true, mk_h P, a) ⟨hR, mk_start fun i c _ _ => mk_ho P i c, fun z => dd_tf z⟩
    obtain ⟨mo, g, sy⟩ := z
    obtain ⟨k1, k2, k3⟩ := hI
    have k1' : mk_R sy pn g := k1
    have k2' : mk_I (mk_F L R B n) pn (mk_h P) g := k2
    cases mo with
    | false => exact br_t rfl (y_l108 hp k1' (fun _ _ q1 q2 => mk_le4 k2' hp q1 q2) (h g sy k2' (k3 rfl)))
    | true =>
      refine br_f dd_b1n ?_
      refine pk_loop (σ := Bool × SY) (fun m' k z => yc (wY_lossless_71 post (wY_lossless_63 post m) m' (dd_b z.1) (nI k)) z.2)
        (fun k z => ∃ g', y_L L R B n P pn ce rn sm md kn cs tb st g' z.2 ∧ mk_I (mk_F L R B n) pn (mk_h P) g' ∧ (z.1 = true → mk_w pn g' < mk_w pn g) ∧ (z.1 = false → g' = g ∧ ∀ k', k' < k → mk_ck L R B pn g k'))
        n 0 (false, yT L R B n P pn ce rn sm md kn cs tb st sy) (Nat.zero_le n) ⟨g, ⟨sy, k1', rfl⟩, k2', fun z => dd_ft z, fun _ => ⟨rfl, fun k' hk' => absurd hk' (Nat.not_lt_zero k')⟩⟩ (fun m' z hI => ?_) (fun m' k z hk hI ih2 => ?_)
      · obtain ⟨b, v⟩ := z
        obtain ⟨g', q1, q2, q3, q4⟩ := hI
        obtain ⟨sy', hR', rfl⟩ := q1
        refine br_t (nI_le (Nat.le_refl n) (by omega)) (ih (b, g', sy') ⟨hR', q2, fun e => ?_⟩ ?_)
        · obtain ⟨e1, e2⟩ := q4 e
          show mk_closed (mk_F L R B n) pn g'
          rw [e1]; exact mk_closedY e2
        · show (if b = true then 1 else 0) + mk_w pn g' < (if true = true then 1 else 0) + mk_w pn g
          cases b with
          | false => rw [(q4 rfl).1]; simp
          | true =>
            have w : mk_w pn g' < mk_w pn g := q3 rfl
            simp; exact w
      · obtain ⟨b, v⟩ := z
        obtain ⟨g', q1, q2, q3, q4⟩ := hI
        have q3' : b = true → mk_w pn g' < mk_w pn g := q3
        have q4' : b = false → g' = g ∧ ∀ k', k' < k → mk_ck L R B pn g k' := q4
        obtain ⟨sy', hR', rfl⟩ := q1
        refine br_f (nI_ge hk (by omega)) (y_mergeBy hn hp k hk ⟨sy', hR', rfl⟩ q2 fun mo2 v2 g2 w1 w2 w3 w4 => ?_)
        have nx : ∀ b2, (b2 = true → mk_w pn g2 < mk_w pn g) → (b2 = false → g2 = g ∧ ∀ k', k' < k + 1 → mk_ck L R B pn g k') → yc (wY_lossless_71 post (wY_lossless_63 post m) m' (dd_b b2) (nI (k + 1))) v2 :=
          fun b2 r1 r2 => ih2 (b2, v2) ⟨g2, w1, w2, r1, r2⟩
        obtain ⟨sy2, hR2, rfl⟩ := w1
        refine dd_br (fun e => ?_) (fun e => nm_r (nI_1 k) (nx true (fun _ => ?_) fun z => dd_tf z))
        · obtain ⟨e1, e2⟩ := w4 e
          subst e1
          refine dd_br (fun e => nm_r (nI_1 k) (nx false (fun z => dd_ft z) fun _ => ?_)) (fun e => nm_r (nI_1 k) (nx true (fun _ => q3' e) fun z => dd_tf z))
          obtain ⟨e3, e4⟩ := q4' e
          refine ⟨e3, fun k' hk' => ?_⟩
          rcases Nat.lt_or_ge k' k with z | z
          · exact e4 k' z
          · rw [show k' = k by omega, ← e3]; exact e2
        · have w := w3 e
          cases b with
          | true => have := q3' rfl; omega
          | false => rw [(q4' rfl).1] at w; exact w
  · have e6 : nI i / 6 = nI (i / 6) := pk_div (by omega) (by decide) (by decide)
    have r6 : nI i - nI i / 6 * 6 = nI (i % 6) := pk_rem (by omega) (by decide) (by decide)
    have vi : vp_in (nI i) 24 := vp_in_nI hi (by decide)
    have fin : ∀ x : Nat, (i / 6 < pn → x = mk_h P (i / 6) (i % 6)) → ∀ p c, p < pn → c < 6 → 6 * p + c < i + 1 → upd a i (nI x) (6 * p + c) = nI (mk_h P p c) := by
      intro x hx p c h1 h2 h3
      by_cases e : 6 * p + c = i
      · have ep : p = i / 6 := by omega
        have ec : c = i % 6 := by omega
        rw [e, pk_us, ep, ec, hx (by omega)]
      · rw [pk_un e]; exact hI p c h1 h2 (by omega)
    have put : (i / 6 < pn → i / 6 + 1 = mk_h P (i / 6) (i % 6)) → wY_lossless_48 post (wY_lossless_2 post (nI n) (nI pn) (nI rn) sm md m) (nI i) (nI i) (nI n) (nI pn) (nI rn) sm md (fun d => dd_i (L d)) (fun d => dd_i (R d)) (fun d => dd_b (B d)) (fun d => dd_i (P d)) ce kn cs tb st a := fun hx =>
      ⟨by decide, vi, nm_r (e' := upd a i (nI (i / 6 + 1))) (by rw [e6, nI_1, nI_clamp (by omega)]) (nm_r (nI_1 i) (ih _ (fin _ hx)))⟩
    refine br_f (nI_ge hi (by decide)) ⟨by decide, pk_le pn (i / 6) (fun z => put fun y => by omega) (fun z => ⟨by decide, by rw [e6]; exact vp_in_nI (by omega) (by decide), by decide, dd_brb (P (i / 6)) (i % 6) (by omega) (fun g1 => ⟨vi, nm_r (e' := upd a i (nI 0)) (by rw [nI_clamp (by omega), nI_0]) (nm_r (nI_1 i) (ih _ (fin 0 fun _ => ?_)))⟩) (fun g1 => put fun _ => ?_) ?_ r6⟩) rfl e6⟩
    · exact (if_pos g1).symm
    · exact (if_neg (by rw [g1]; decide)).symm
    · show dd_i (P (nI i / 6).toNatClampNeg) = _
      rw [e6, nI_clamp (by omega)]
end
end
section
/-! what the calls do to the state, on both sides -/
theorem dd_updI (L : Nat → dd_S) {i : Nat} (hi : i < 2 ^ 31) (x : dd_S) : upd (fun d => dd_i (L d)) (nI i).toNatClampNeg (dd_i x) = fun d => dd_i (if d = i then x else L d) := by
  rw [nI_clamp hi]
  funext d
  unfold upd
  split <;> rfl
theorem dd_updB (B : Nat → Bool) {i : Nat} (hi : i < 2 ^ 31) (b : Bool) : upd (fun d => dd_b (B d)) (nI i).toNatClampNeg (dd_b b) = fun d => dd_b (if d = i then b else B d) := by
  rw [nI_clamp hi]
  funext d
  unfold upd
  split <;> rfl
def dd_rz (ce : Nat → Int32) (rn : Nat) : Nat → Nat → Int32
  | 0 => ce
  | c + 1 => upd (dd_rz ce rn c) (6 * rn + c) 0
section
variable {L R : Nat → dd_S} {B : Nat → Bool} {n : Nat} {P : Nat → dd_S} {pn : Nat} {ce : Nat → Int32} {rn : Nat} {mk : Nat → Int32}
theorem x_give {post : Int32 → SX → Prop} (hn : n < 10) (x y : dd_S) (p : Int32)
    (h : post (nI n) (xT (fun d => if d = n then x else L d) (fun d => if d = n then y else R d) (fun d => if d = n then !decide (p = 0) else B d) (n + 1) P pn ce rn mk)) : wpX_give post (xT L R B n P pn ce rn mk) (dd_i x) (dd_i y) p := by
  unfold wpX_give
  have v : vp_in (nI n) 10 := vp_in_nI hn (by decide)
  have fin : ∀ b : Bool, b = !decide (p = 0) → wX_give_65 post (dd_b b) (nI n) (nI n) (nI pn) (nI rn) (fun d => dd_i (if d = n then x else L d)) (fun d => dd_i (if d = n then y else R d)) (fun d => dd_b (B d)) (fun d => dd_i (P d)) ce mk := by
    rintro b rfl
    refine ⟨v, nm_r (e' := fun d => dd_b (if d = n then !decide (p = 0) else B d)) (by rw [dd_bv]; exact dd_updB B (by omega) _) (nm_r (nI_1 n) ?_)⟩
    rw [nI_pred]; exact h
  refine x_isSet x (br_f (by decide) (x_isSet y (br_f (by decide) (br_t (nI_lt hn (by decide)) ⟨v, nm_r (dd_updI L (by omega) x) ⟨v, nm_r (dd_updI R (by omega) y) (br_c (fun z => fin false ?_) (fun z => fin true ?_))⟩⟩))))
  · rw [decide_eq_true z]; rfl
  · rw [decide_eq_false z]; rfl
theorem x_row {post : Int32 → SX → Prop} (hr : rn < 6) (h : post (nI rn) (xT L R B n P pn (dd_rz ce rn 6) (rn + 1) mk)) : wpX_row post (xT L R B n P pn ce rn mk) := by
  refine br_t (nI_lt hr (by decide)) ?_
  refine dd_lp (fun m i a => wX_row_14 post (nI n) (nI pn) (nI rn) m (nI i) (fun d => dd_i (L d)) (fun d => dd_i (R d)) (fun d => dd_b (B d)) (fun d => dd_i (P d)) a mk) (dd_rz ce rn) (fun _ => True) 6 0 (by decide) trivial (fun m _ => ?_) (fun m i _ hi _ ih => ?_)
  · refine br_t (nI_le (Nat.le_refl 6) (by decide)) (nm_r (nI_1 rn) ?_)
    rw [nI_pred]; exact h
  · exact br_f (nI_ge hi (by decide)) ⟨by rw [dd_ixX]; exact vp_in_nI (by omega) (by decide), nm_r (e' := upd (dd_rz ce rn i) (6 * rn + i) 0) (by rw [dd_ixX, nI_clamp (by omega)]) (nm_r (nI_1 i) (ih _ rfl trivial))⟩
end
section
variable {L R : Nat → dd_S} {B : Nat → Bool} {n : Nat} {P : Nat → dd_S} {pn : Nat} {ce : Nat → Int32} {rn : Nat} {st sy : Nat → Int32} {v : SY}
theorem yM_0 {p : Nat → Bool} {kn cs : Nat → Int32} {tb : Nat → Int64} (h : ∀ q, q < 64 → kn q = 0) : yM p kn cs tb := fun x hx => absurd (h _ (dd_nlt x)) hx
theorem y_give {post : Int32 → SY → Prop} (hn : n < 10) (x y : dd_S) (p : Int32) (hv : yO L R B n P pn ce rn st sy v)
    (h : ∀ v', yO (fun d => if d = n then x else L d) (fun d => if d = n then y else R d) (fun d => if d = n then !decide (p = 0) else B d) (n + 1) P pn ce rn st sy v' → post (nI n) v') : wpY_give post v (dd_i x) (dd_i y) p := by
  obtain ⟨sm, md, kn, cs, tb, hM, rfl⟩ := hv
  unfold wpY_give
  have v : vp_in (nI n) 10 := vp_in_nI hn (by decide)
  have fin : ∀ b : Bool, b = !decide (p = 0) → wY_give_67 post (dd_b b) (nI n) (nI n) (nI pn) (nI rn) sm md (fun d => dd_i (if d = n then x else L d)) (fun d => dd_i (if d = n then y else R d)) (fun d => dd_b (B d)) (fun d => dd_i (P d)) ce kn cs tb st sy := by
    rintro b rfl
    refine ⟨v, nm_r (e' := fun d => dd_b (if d = n then !decide (p = 0) else B d)) (by rw [dd_bv]; exact dd_updB B (by omega) _) (nm_r (nI_1 n) (y_forget (n := n + 1) (L := fun d => if d = n then x else L d) (R := fun d => if d = n then y else R d) (B := fun d => if d = n then !decide (p = 0) else B d) fun kn' hk => ?_))⟩
    have w := h _ ⟨sm, md, kn', cs, tb, yM_0 hk, rfl⟩
    show post (nI (n + 1) - 1) _
    rw [nI_pred]; exact w
  refine y_isSet x (br_f (by decide) (y_isSet y (br_f (by decide) (pk_eq n 10 (fun z => by omega) (fun _ => ⟨v, nm_r (dd_updI L (by omega) x) ⟨v, nm_r (dd_updI R (by omega) y) (br_c (fun z => fin false ?_) (fun z => fin true ?_))⟩⟩)))))
  · rw [decide_eq_true z]; rfl
  · rw [decide_eq_false z]; rfl
theorem y_row {post : Int32 → SY → Prop} (hr : rn < 6) (hv : yO L R B n P pn ce rn st sy v)
    (h : ∀ v', yO L R B n P pn (dd_rz ce rn 6) (rn + 1) st sy v' → post (nI rn) v') : wpY_row post v := by
  obtain ⟨sm, md, kn, cs, tb, hM, rfl⟩ := hv
  refine pk_eq rn 6 (fun z => by omega) (fun _ => ?_)
  refine dd_lp (fun m i a => wY_row_14 post (nI n) (nI pn) (nI rn) sm md m (nI i) (fun d => dd_i (L d)) (fun d => dd_i (R d)) (fun d => dd_b (B d)) (fun d => dd_i (P d)) a kn cs tb st sy) (dd_rz ce rn) (fun _ => True) 6 0 (by decide) trivial (fun m _ => ?_) (fun m i _ hi _ ih => ?_)
  · refine br_t (nI_le (Nat.le_refl 6) (by decide)) (nm_r (nI_1 rn) ?_)
    rw [nI_pred]; exact h _ ⟨sm, md, kn, cs, tb, hM, rfl⟩
  · exact br_f (nI_ge hi (by decide)) ⟨by rw [dd_ixY]; exact vp_in_nI (by omega) (by decide), nm_r (e' := upd (dd_rz ce rn i) (6 * rn + i) 0) (by rw [dd_ixY, nI_clamp (by omega)]) (nm_r (nI_1 i) (ih _ rfl trivial))⟩
theorem y_closure {post : Int32 → SY → Prop} (hn : n ≤ 10) (x : dd_S) (hv : yO L R B n P pn ce rn st sy v)
    (h : ∀ v', yO L R B n P pn ce rn st sy v' → post (dd_i (dd_cl (dd_V1 L R B n) x)) v') : wpY_closure post v (dd_i x) := by
  obtain ⟨sm, md, kn, cs, tb, hM, rfl⟩ := hv
  unfold wpY_closure
  refine y_isSet x (br_f (by decide) (y_closureOf hn x ⟨sm, md, kn, cs, tb, hM, rfl⟩ fun v' hv' => ?_))
  obtain ⟨sm', md', kn', cs', tb', hM', rfl⟩ := hv'
  exact h _ ⟨sm', md', kn', cs', tb', hM', rfl⟩
theorem y_follows {post : Int32 → SY → Prop} (hn : n ≤ 10) (x y : dd_S) (hv : yO L R B n P pn ce rn st sy v)
    (h : ∀ v', yO L R B n P pn ce rn st sy v' → post (dd_b (dd_sB y (dd_cl (dd_V1 L R B n) x))) v') : wpY_follows post v (dd_i x) (dd_i y) := by
  obtain ⟨sm, md, kn, cs, tb, hM, rfl⟩ := hv
  unfold wpY_follows
  refine y_isSet x (br_f (by decide) (y_isSet y (br_f (by decide) (y_closureOf hn x ⟨sm, md, kn, cs, tb, hM, rfl⟩ fun v' hv' => ?_))))
  obtain ⟨sm', md', kn', cs', tb', hM', rfl⟩ := hv'
  have w := h _ ⟨sm', md', kn', cs', tb', hM', rfl⟩
  exact dd_brs y _ (fun g => by rw [dd_sBt g] at w; exact w) (fun g => by rw [dd_sBf g] at w; exact w)
theorem y_bundles {post : Int32 → SY → Prop} (hn : n ≤ 10) (x y : dd_S) (hv : yO L R B n P pn ce rn st sy v)
    (h : ∀ v', yO L R B n P pn ce rn st sy v' → post (dd_b (dd_aK (dd_V1 L R B n) x y true)) v') : wpY_bundles post v (dd_i x) (dd_i y) := by
  obtain ⟨sm, md, kn, cs, tb, hM, rfl⟩ := hv
  unfold wpY_bundles
  refine y_isSet x (br_f (by decide) (y_isSet y (br_f (by decide) (y_isBundle hn x y ⟨sm, md, kn, cs, tb, hM, rfl⟩ fun v' hv' => ?_))))
  obtain ⟨sm', md', kn', cs', tb', hM', rfl⟩ := hv'
  have w := h _ ⟨sm', md', kn', cs', tb', hM', rfl⟩
  exact dd_br (fun g => by rw [g] at w; exact w) (fun g => by rw [g] at w; exact w)
end
end
section
/-! the relation and the owed statements -/
/-- the same dependencies, parts and cells; what the reference knows already is right; its scratch and the class's marks are free -/
def i_Rel (k : Nat) (u : SX) (v : SY) : Prop :=
  ∃ L R B n P pn ce rn mk st sy, n ≤ 10 ∧ pn ≤ 4 ∧ rn ≤ 6 ∧ u = xT L R B n P pn ce rn mk ∧ yO L R B n P pn ce rn st sy v
theorem i_mk {k : Nat} {L R : Nat → dd_S} {B : Nat → Bool} {n : Nat} {P : Nat → dd_S} {pn : Nat} {ce : Nat → Int32} {rn : Nat} {mk st sy : Nat → Int32} {v : SY} (hn : n ≤ 10) (hp : pn ≤ 4) (hr : rn ≤ 6) (hv : yO L R B n P pn ce rn st sy v) : i_Rel k (xT L R B n P pn ce rn mk) v :=
  ⟨L, R, B, n, P, pn, ce, rn, mk, st, sy, hn, hp, hr, rfl, hv⟩
theorem i_up {k : Nat} {u : SX} {v : SY} (h : i_Rel k u v) : i_Rel (k + 4) u v := h
theorem i_vc0 : wpX_init (fun u => wpY_init (fun v => i_Rel 0 u v)) :=
  ⟨fun _ => 0#6, fun _ => 0#6, fun _ => false, 0, fun _ => 0#6, 0, fun _ => 0, 0, fun _ => 0, fun _ => 0, fun _ => 0, by decide, by decide, by decide, rfl, 0, 0, fun _ => 0, fun _ => 0, fun _ => 0, yM_0 fun _ _ => rfl, rfl⟩
theorem i_vc_give {k : Nat} {u : SX} {v : SY} (I : i_Rel k u v) (hk : k + 4 ≤ 2048) (v1 : Int32) (v2 : Int32) (v3 : Int32) : wpX_give (fun r u' => wpY_give (fun r' v' => r' = r ∧ i_Rel (k + 4) u' v') v v1 v2 v3) u v1 v2 v3 := by
  obtain ⟨L, R, B, n, P, pn, ce, rn, mk, st, sy, hn, hp, hr, rfl, hv⟩ := I
  rcases dd_sets v1 with b1 | ⟨x, rfl⟩
  · obtain ⟨sm, md, kn, cs, tb, hM, rfl⟩ := hv
    unfold wpX_give
    refine x_isSetF b1 (br_t rfl ?_)
    unfold wpY_give
    exact y_isSetF b1 (br_t rfl ⟨rfl, i_mk hn hp hr ⟨sm, md, kn, cs, tb, hM, rfl⟩⟩)
  rcases dd_sets v2 with b2 | ⟨y, rfl⟩
  · obtain ⟨sm, md, kn, cs, tb, hM, rfl⟩ := hv
    unfold wpX_give
    refine x_isSet x (br_f (by decide) (x_isSetF b2 (br_t rfl ?_)))
    unfold wpY_give
    exact y_isSet x (br_f (by decide) (y_isSetF b2 (br_t rfl ⟨rfl, i_mk hn hp hr ⟨sm, md, kn, cs, tb, hM, rfl⟩⟩)))
  rcases Nat.lt_or_ge n 10 with z | z
  · exact x_give z x y v3 (y_give z x y v3 hv fun v' hv' => ⟨rfl, i_mk (by omega) hp hr hv'⟩)
  · obtain ⟨sm, md, kn, cs, tb, hM, rfl⟩ := hv
    have e : n = 10 := by omega
    subst e
    unfold wpX_give
    refine x_isSet x (br_f (by decide) (x_isSet y (br_f (by decide) (br_f (by decide) ?_))))
    unfold wpY_give
    exact y_isSet x (br_f (by decide) (y_isSet y (br_f (by decide) (br_t rfl ⟨rfl, i_mk hn hp hr ⟨sm, md, kn, cs, tb, hM, rfl⟩⟩))))
theorem i_vc_take {k : Nat} {u : SX} {v : SY} (I : i_Rel k u v) (hk : k + 4 ≤ 2048) : wpX_take (fun r u' => wpY_take (fun r' v' => r' = r ∧ i_Rel (k + 4) u' v') v) u := by
  obtain ⟨L, R, B, n, P, pn, ce, rn, mk, st, sy, hn, hp, hr, rfl, hv⟩ := I
  obtain ⟨sm, md, kn, cs, tb, hM, rfl⟩ := hv
  cases n with
  | zero => exact br_t rfl (br_t rfl ⟨rfl, i_mk hn hp hr ⟨sm, md, kn, cs, tb, hM, rfl⟩⟩)
  | succ n => exact br_f (nI_ne0 (by omega) (by omega)) (nm_r (nI_pred n) (br_f (nI_ne0 (by omega) (by omega)) (nm_r (nI_pred n) (y_forget fun kn' hk => ⟨rfl, i_mk (by omega) hp hr ⟨sm, md, kn', cs, tb, yM_0 hk, rfl⟩⟩))))
theorem i_vc_closure {k : Nat} {u : SX} {v : SY} (I : i_Rel k u v) (hk : k + 4 ≤ 2048) (v1 : Int32) : wpX_closure (fun r => wpY_closure (fun r' v' => r' = r ∧ i_Rel (k + 4) u v') v v1) u v1 := by
  obtain ⟨L, R, B, n, P, pn, ce, rn, mk, st, sy, hn, hp, hr, rfl, hv⟩ := I
  rcases dd_sets v1 with b1 | ⟨x, rfl⟩
  · obtain ⟨sm, md, kn, cs, tb, hM, rfl⟩ := hv
    unfold wpX_closure
    refine x_isSetF b1 (br_t rfl ?_)
    unfold wpY_closure
    exact y_isSetF b1 (br_t rfl ⟨rfl, i_mk hn hp hr ⟨sm, md, kn, cs, tb, hM, rfl⟩⟩)
  exact x_closure hn x (y_closure hn x hv fun v' hv' => ⟨rfl, i_mk hn hp hr hv'⟩)
theorem i_vc_follows {k : Nat} {u : SX} {v : SY} (I : i_Rel k u v) (hk : k + 4 ≤ 2048) (v1 : Int32) (v2 : Int32) : wpX_follows (fun r => wpY_follows (fun r' v' => r' = r ∧ i_Rel (k + 4) u v') v v1 v2) u v1 v2 := by
  obtain ⟨L, R, B, n, P, pn, ce, rn, mk, st, sy, hn, hp, hr, rfl, hv⟩ := I
  rcases dd_sets v1 with b1 | ⟨x, rfl⟩
  · obtain ⟨sm, md, kn, cs, tb, hM, rfl⟩ := hv
    unfold wpX_follows
    refine x_isSetF b1 (br_t rfl ?_)
    unfold wpY_follows
    exact y_isSetF b1 (br_t rfl ⟨rfl, i_mk hn hp hr ⟨sm, md, kn, cs, tb, hM, rfl⟩⟩)
  rcases dd_sets v2 with b2 | ⟨y, rfl⟩
  · obtain ⟨sm, md, kn, cs, tb, hM, rfl⟩ := hv
    unfold wpX_follows
    refine x_isSet x (br_f (by decide) (x_isSetF b2 (br_t rfl ?_)))
    unfold wpY_follows
    exact y_isSet x (br_f (by decide) (y_isSetF b2 (br_t rfl ⟨rfl, i_mk hn hp hr ⟨sm, md, kn, cs, tb, hM, rfl⟩⟩)))
  exact x_follows hn x y (y_follows hn x y hv fun v' hv' => ⟨rfl, i_mk hn hp hr hv'⟩)
theorem i_vc_bundles {k : Nat} {u : SX} {v : SY} (I : i_Rel k u v) (hk : k + 4 ≤ 2048) (v1 : Int32) (v2 : Int32) : wpX_bundles (fun r => wpY_bundles (fun r' v' => r' = r ∧ i_Rel (k + 4) u v') v v1 v2) u v1 v2 := by
  obtain ⟨L, R, B, n, P, pn, ce, rn, mk, st, sy, hn, hp, hr, rfl, hv⟩ := I
  rcases dd_sets v1 with b1 | ⟨x, rfl⟩
  · obtain ⟨sm, md, kn, cs, tb, hM, rfl⟩ := hv
    unfold wpX_bundles
    refine x_isSetF b1 (br_t rfl ?_)
    unfold wpY_bundles
    exact y_isSetF b1 (br_t rfl ⟨rfl, i_mk hn hp hr ⟨sm, md, kn, cs, tb, hM, rfl⟩⟩)
  rcases dd_sets v2 with b2 | ⟨y, rfl⟩
  · obtain ⟨sm, md, kn, cs, tb, hM, rfl⟩ := hv
    unfold wpX_bundles
    refine x_isSet x (br_f (by decide) (x_isSetF b2 (br_t rfl ?_)))
    unfold wpY_bundles
    exact y_isSet x (br_f (by decide) (y_isSetF b2 (br_t rfl ⟨rfl, i_mk hn hp hr ⟨sm, md, kn, cs, tb, hM, rfl⟩⟩)))
  exact x_bundles hn x y (y_bundles hn x y hv fun v' hv' => ⟨rfl, i_mk hn hp hr hv'⟩)
theorem i_vc_needs {k : Nat} {u : SX} {v : SY} (I : i_Rel k u v) (hk : k + 4 ≤ 2048) (v1 : Int32) (v2 : Int32) : wpX_needs (fun r => wpY_needs (fun r' v' => r' = r ∧ i_Rel (k + 4) u v') v v1 v2) u v1 v2 := by
  obtain ⟨L, R, B, n, P, pn, ce, rn, mk, st, sy, hn, hp, hr, rfl, hv⟩ := I
  rcases dd_sets v1 with b1 | ⟨x, rfl⟩
  · obtain ⟨sm, md, kn, cs, tb, hM, rfl⟩ := hv
    unfold wpX_needs
    refine x_isSetF b1 (br_t rfl ?_)
    unfold wpY_needs
    exact y_isSetF b1 (br_t rfl ⟨rfl, i_mk hn hp hr ⟨sm, md, kn, cs, tb, hM, rfl⟩⟩)
  rcases dd_sets v2 with b2 | ⟨y, rfl⟩
  · obtain ⟨sm, md, kn, cs, tb, hM, rfl⟩ := hv
    unfold wpX_needs
    refine x_isSet x (br_f (by decide) (x_isSetF b2 (br_t rfl ?_)))
    unfold wpY_needs
    exact y_isSet x (br_f (by decide) (y_isSetF b2 (br_t rfl ⟨rfl, i_mk hn hp hr ⟨sm, md, kn, cs, tb, hM, rfl⟩⟩)))
  exact x_needs hn x y (y_needs hn x y hv fun v' hv' => ⟨rfl, i_mk hn hp hr hv'⟩)
theorem i_vc_keys {k : Nat} {u : SX} {v : SY} (I : i_Rel k u v) (hk : k + 4 ≤ 2048) : wpX_keys (fun r => wpY_keys (fun r' v' => r' = r ∧ i_Rel (k + 4) u v') v) u := by
  obtain ⟨L, R, B, n, P, pn, ce, rn, mk, st, sy, hn, hp, hr, rfl, hv⟩ := I
  exact x_keys hn (y_keys hn hv fun v' hv' => ⟨rfl, i_mk hn hp hr hv'⟩)
theorem i_vc_key {k : Nat} {u : SX} {v : SY} (I : i_Rel k u v) (hk : k + 4 ≤ 2048) (v1 : Int32) : wpX_key (fun r => wpY_key (fun r' v' => r' = r ∧ i_Rel (k + 4) u v') v v1) u v1 := by
  obtain ⟨L, R, B, n, P, pn, ce, rn, mk, st, sy, hn, hp, hr, rfl, hv⟩ := I
  exact x_key hn v1 (y_key hn v1 hv fun v' hv' => ⟨rfl, i_mk hn hp hr hv'⟩)
theorem i_vc_closed {k : Nat} {u : SX} {v : SY} (I : i_Rel k u v) (hk : k + 4 ≤ 2048) : wpX_closed (fun r => wpY_closed (fun r' v' => r' = r ∧ i_Rel (k + 4) u v') v) u := by
  obtain ⟨L, R, B, n, P, pn, ce, rn, mk, st, sy, hn, hp, hr, rfl, hv⟩ := I
  exact x_closed hn (y_closed hn hv fun v' hv' => ⟨rfl, i_mk hn hp hr hv'⟩)
theorem i_vc_corners {k : Nat} {u : SX} {v : SY} (I : i_Rel k u v) (hk : k + 4 ≤ 2048) : wpX_corners (fun r => wpY_corners (fun r' v' => r' = r ∧ i_Rel (k + 4) u v') v) u := by
  obtain ⟨L, R, B, n, P, pn, ce, rn, mk, st, sy, hn, hp, hr, rfl, hv⟩ := I
  exact x_corners hn (y_corners hn hv fun v' hv' => ⟨rfl, i_mk hn hp hr hv'⟩)
theorem i_vc_stems {k : Nat} {u : SX} {v : SY} (I : i_Rel k u v) (hk : k + 4 ≤ 2048) : wpX_stems (fun r => wpY_stems (fun r' v' => r' = r ∧ i_Rel (k + 4) u v') v) u := by
  obtain ⟨L, R, B, n, P, pn, ce, rn, mk, st, sy, hn, hp, hr, rfl, hv⟩ := I
  exact x_stems hn (y_stems hn hv fun st' v' hv' => ⟨rfl, i_mk hn hp hr hv'⟩)
theorem i_vc_stem {k : Nat} {u : SX} {v : SY} (I : i_Rel k u v) (hk : k + 4 ≤ 2048) (v1 : Int32) : wpX_stem (fun r => wpY_stem (fun r' v' => r' = r ∧ i_Rel (k + 4) u v') v v1) u v1 := by
  obtain ⟨L, R, B, n, P, pn, ce, rn, mk, st, sy, hn, hp, hr, rfl, hv⟩ := I
  exact x_stem hn v1 (y_stem hn v1 hv fun st' v' hv' => ⟨rfl, i_mk hn hp hr hv'⟩)
theorem i_vc_third {k : Nat} {u : SX} {v : SY} (I : i_Rel k u v) (hk : k + 4 ≤ 2048) (v1 : Int32) : wpX_third (fun r => wpY_third (fun r' v' => r' = r ∧ i_Rel (k + 4) u v') v v1) u v1 := by
  obtain ⟨L, R, B, n, P, pn, ce, rn, mk, st, sy, hn, hp, hr, rfl, hv⟩ := I
  rcases dd_sets v1 with b1 | ⟨x, rfl⟩
  · obtain ⟨sm, md, kn, cs, tb, hM, rfl⟩ := hv
    unfold wpX_third
    refine x_isSetF b1 (br_t rfl ?_)
    unfold wpY_third
    exact y_isSetF b1 (br_t rfl ⟨rfl, i_mk hn hp hr ⟨sm, md, kn, cs, tb, hM, rfl⟩⟩)
  exact x_third hn x (y_third hn x hv fun v' hv' => ⟨rfl, i_mk hn hp hr hv'⟩)
theorem i_vc_boyce {k : Nat} {u : SX} {v : SY} (I : i_Rel k u v) (hk : k + 4 ≤ 2048) (v1 : Int32) : wpX_boyce (fun r => wpY_boyce (fun r' v' => r' = r ∧ i_Rel (k + 4) u v') v v1) u v1 := by
  obtain ⟨L, R, B, n, P, pn, ce, rn, mk, st, sy, hn, hp, hr, rfl, hv⟩ := I
  rcases dd_sets v1 with b1 | ⟨x, rfl⟩
  · obtain ⟨sm, md, kn, cs, tb, hM, rfl⟩ := hv
    unfold wpX_boyce
    refine x_isSetF b1 (br_t rfl ?_)
    unfold wpY_boyce
    exact y_isSetF b1 (br_t rfl ⟨rfl, i_mk hn hp hr ⟨sm, md, kn, cs, tb, hM, rfl⟩⟩)
  exact x_boyce hn x (y_boyce hn x hv fun v' hv' => ⟨rfl, i_mk hn hp hr hv'⟩)
theorem i_vc_fourth {k : Nat} {u : SX} {v : SY} (I : i_Rel k u v) (hk : k + 4 ≤ 2048) : wpX_fourth (fun r => wpY_fourth (fun r' v' => r' = r ∧ i_Rel (k + 4) u v') v) u := by
  obtain ⟨L, R, B, n, P, pn, ce, rn, mk, st, sy, hn, hp, hr, rfl, hv⟩ := I
  exact x_fourth hn (y_fourth hn hv fun v' hv' => ⟨rfl, i_mk hn hp hr hv'⟩)
theorem i_vc_part {k : Nat} {u : SX} {v : SY} (I : i_Rel k u v) (hk : k + 4 ≤ 2048) (v1 : Int32) : wpX_part (fun r u' => wpY_part (fun r' v' => r' = r ∧ i_Rel (k + 4) u' v') v v1) u v1 := by
  obtain ⟨L, R, B, n, P, pn, ce, rn, mk, st, sy, hn, hp, hr, rfl, hv⟩ := I
  obtain ⟨sm, md, kn, cs, tb, hM, rfl⟩ := hv
  rcases dd_sets v1 with b1 | ⟨x, rfl⟩
  · unfold wpX_part
    refine x_isSetF b1 (br_t rfl ?_)
    unfold wpY_part
    exact y_isSetF b1 (br_t rfl ⟨rfl, i_mk hn hp hr ⟨sm, md, kn, cs, tb, hM, rfl⟩⟩)
  rcases Nat.lt_or_ge pn 4 with z | z
  · have v : vp_in (nI pn) 4 := vp_in_nI z (by decide)
    unfold wpX_part
    refine x_isSet x (br_f (by decide) (br_t (nI_lt z (by decide)) ⟨v, nm_r (dd_updI P (by omega) x) (nm_r (nI_1 pn) ?_)⟩))
    unfold wpY_part
    exact y_isSet x (br_f (by decide) (pk_eq pn 4 (fun e => by omega) (fun _ => ⟨v, nm_r (dd_updI P (by omega) x) (nm_r (nI_1 pn) ⟨rfl, i_mk (P := fun d => if d = pn then x else P d) (pn := pn + 1) hn (by omega) hr ⟨sm, md, kn, cs, tb, hM, rfl⟩⟩)⟩)))
  · have e : pn = 4 := by omega
    subst e
    unfold wpX_part
    refine x_isSet x (br_f (by decide) (br_f (by decide) ?_))
    unfold wpY_part
    exact y_isSet x (br_f (by decide) (br_t rfl ⟨rfl, i_mk hn hp hr ⟨sm, md, kn, cs, tb, hM, rfl⟩⟩))
theorem i_vc_whole {k : Nat} {u : SX} {v : SY} (I : i_Rel k u v) (hk : k + 4 ≤ 2048) : wpX_whole (fun u' => wpY_whole (fun v' => i_Rel (k + 4) u' v') v) u := by
  obtain ⟨L, R, B, n, P, pn, ce, rn, mk, st, sy, hn, hp, hr, rfl, hv⟩ := I
  obtain ⟨sm, md, kn, cs, tb, hM, rfl⟩ := hv
  exact i_mk (k := k + 4) (pn := 0) hn (by omega) hr ⟨sm, md, kn, cs, tb, hM, rfl⟩
theorem i_vc_lossless {k : Nat} {u : SX} {v : SY} (I : i_Rel k u v) (hk : k + 4 ≤ 2048) : wpX_lossless (fun r u' => wpY_lossless (fun r' v' => r' = r ∧ i_Rel (k + 4) u' v') v) u := by
  obtain ⟨L, R, B, n, P, pn, ce, rn, mk, st, sy, hn, hp, hr, rfl, hv⟩ := I
  obtain ⟨sm, md, kn, cs, tb, hM, rfl⟩ := hv
  exact x_lossless hn hp fun g mk' h1 h2 => y_lossless hn hp fun g' sy' h3 h4 => ⟨congrArg dd_b (mk_jX fun i c hi hc => mk_end h3 h1 h4 h2 hi hc), i_mk hn hp hr ⟨sm, md, kn, cs, tb, hM, rfl⟩⟩
theorem i_vc_preserves {k : Nat} {u : SX} {v : SY} (I : i_Rel k u v) (hk : k + 4 ≤ 2048) : wpX_preserves (fun r => wpY_preserves (fun r' => r' = r ∧ i_Rel (k + 4) u v) v) u := by
  obtain ⟨L, R, B, n, P, pn, ce, rn, mk, st, sy, hn, hp, hr, rfl, hv⟩ := I
  obtain ⟨sm, md, kn, cs, tb, hM, rfl⟩ := hv
  exact x_preserves hn hp (y_preserves hn hp ⟨rfl, i_mk hn hp hr ⟨sm, md, kn, cs, tb, hM, rfl⟩⟩)
theorem i_vc_row {k : Nat} {u : SX} {v : SY} (I : i_Rel k u v) (hk : k + 4 ≤ 2048) : wpX_row (fun r u' => wpY_row (fun r' v' => r' = r ∧ i_Rel (k + 4) u' v') v) u := by
  obtain ⟨L, R, B, n, P, pn, ce, rn, mk, st, sy, hn, hp, hr, rfl, hv⟩ := I
  rcases Nat.lt_or_ge rn 6 with z | z
  · exact x_row z (y_row z hv fun v' hv' => ⟨rfl, i_mk hn hp (by omega) hv'⟩)
  · obtain ⟨sm, md, kn, cs, tb, hM, rfl⟩ := hv
    have e : rn = 6 := by omega
    subst e
    exact br_f (by decide) (br_t rfl ⟨rfl, i_mk hn hp hr ⟨sm, md, kn, cs, tb, hM, rfl⟩⟩)
theorem i_vc_write {k : Nat} {u : SX} {v : SY} (I : i_Rel k u v) (hk : k + 4 ≤ 2048) (v1 : Int32) (v2 : Int32) (v3 : Int32) : wpX_write (fun r u' => wpY_write (fun r' v' => r' = r ∧ i_Rel (k + 4) u' v') v v1 v2 v3) u v1 v2 v3 := by
  obtain ⟨L, R, B, n, P, pn, ce, rn, mk, st, sy, hn, hp, hr, rfl, hv⟩ := I
  obtain ⟨sm, md, kn, cs, tb, hM, rfl⟩ := hv
  have ok : i_Rel (k + 4) (xT L R B n P pn ce rn mk) (yT L R B n P pn ce rn sm md kn cs tb st sy) := i_mk hn hp hr ⟨sm, md, kn, cs, tb, hM, rfl⟩
  by_cases h1 : v1 < 0
  · exact br_t h1 (br_t h1 ⟨rfl, ok⟩)
  obtain ⟨r, hr1, rfl⟩ := nI_of h1
  rcases Nat.lt_or_ge r rn with z1 | z1
  · by_cases h2 : v2 < 0
    · exact br_f h1 (br_f (nI_ge z1 (by omega)) (br_t h2 (br_f h1 (br_f (nI_ge z1 (by omega)) (br_t h2 ⟨rfl, ok⟩)))))
    obtain ⟨c, hc1, rfl⟩ := nI_of h2
    rcases Nat.lt_or_ge c 6 with z2 | z2
    · have vX : vp_in (nI r * 6 + nI c) 36 := by rw [dd_ixX]; exact vp_in_nI (by omega) (by decide)
      have vY : vp_in (6 * nI r + nI c) 36 := by rw [dd_ixY]; exact vp_in_nI (by omega) (by decide)
      have eX : (nI r * 6 + nI c).toNatClampNeg = 6 * r + c := by rw [dd_ixX, nI_clamp (by omega)]
      have eY : (6 * nI r + nI c).toNatClampNeg = 6 * r + c := by rw [dd_ixY, nI_clamp (by omega)]
      exact br_f h1 (br_f (nI_ge z1 (by omega)) (br_f h2 (br_t (nI_lt z2 (by decide)) ⟨vX, nm_r (e' := ce (6 * r + c)) (by rw [eX]) ⟨vX, nm_r (e' := upd ce (6 * r + c) v3) (by rw [eX]) (br_f h1 (br_f (nI_ge z1 (by omega)) (br_f h2 (br_t (nI_le (b := 5) (by omega) (by decide)) ⟨vY, nm_r (e' := ce (6 * r + c)) (by rw [eY]) ⟨vY, nm_r (e' := upd ce (6 * r + c) v3) (by rw [eY]) ⟨rfl, i_mk (ce := upd ce (6 * r + c) v3) hn hp hr ⟨sm, md, kn, cs, tb, hM, rfl⟩⟩⟩⟩))))⟩⟩)))
    · exact br_f h1 (br_f (nI_ge z1 (by omega)) (br_f h2 (br_f (nI_nlt z2 hc1) (br_f h1 (br_f (nI_ge z1 (by omega)) (br_f h2 (br_f (nI_ge (a := 5) (by omega) hc1) ⟨rfl, ok⟩)))))))
  · exact br_f h1 (br_t (nI_le z1 hr1) (br_f h1 (br_t (nI_le z1 hr1) ⟨rfl, ok⟩)))
theorem i_vc_blank {k : Nat} {u : SX} {v : SY} (I : i_Rel k u v) (hk : k + 4 ≤ 2048) : wpX_blank (fun u' => wpY_blank (fun v' => i_Rel (k + 4) u' v') v) u := by
  obtain ⟨L, R, B, n, P, pn, ce, rn, mk, st, sy, hn, hp, hr, rfl, hv⟩ := I
  obtain ⟨sm, md, kn, cs, tb, hM, rfl⟩ := hv
  exact i_mk (k := k + 4) (rn := 0) hn hp (by omega) ⟨sm, md, kn, cs, tb, hM, rfl⟩
theorem i_vc_keeps {k : Nat} {u : SX} {v : SY} (I : i_Rel k u v) (hk : k + 4 ≤ 2048) (v1 : Int32) (v2 : Int32) : wpX_keeps (fun r => wpY_keeps (fun r' => r' = r ∧ i_Rel (k + 4) u v) v v1 v2) u v1 v2 := by
  obtain ⟨L, R, B, n, P, pn, ce, rn, mk, st, sy, hn, hp, hr, rfl, hv⟩ := I
  rcases dd_sets v1 with b1 | ⟨x, rfl⟩
  · obtain ⟨sm, md, kn, cs, tb, hM, rfl⟩ := hv
    unfold wpX_keeps
    refine x_isSetF b1 (br_t rfl ?_)
    unfold wpY_keeps
    exact y_isSetF b1 (br_t rfl ⟨rfl, i_mk hn hp hr ⟨sm, md, kn, cs, tb, hM, rfl⟩⟩)
  rcases dd_sets v2 with b2 | ⟨y, rfl⟩
  · obtain ⟨sm, md, kn, cs, tb, hM, rfl⟩ := hv
    unfold wpX_keeps
    refine x_isSet x (br_f (by decide) (x_isSetF b2 (br_t rfl ?_)))
    unfold wpY_keeps
    exact y_isSet x (br_f (by decide) (y_isSetF b2 (br_t rfl ⟨rfl, i_mk hn hp hr ⟨sm, md, kn, cs, tb, hM, rfl⟩⟩)))
  obtain ⟨sm, md, kn, cs, tb, hM, rfl⟩ := hv
  exact x_keeps hr x y (y_keeps hr x y ⟨rfl, i_mk hn hp hr ⟨sm, md, kn, cs, tb, hM, rfl⟩⟩)
theorem i_vc_keepsBundled {k : Nat} {u : SX} {v : SY} (I : i_Rel k u v) (hk : k + 4 ≤ 2048) (v1 : Int32) (v2 : Int32) : wpX_keepsBundled (fun r => wpY_keepsBundled (fun r' => r' = r ∧ i_Rel (k + 4) u v) v v1 v2) u v1 v2 := by
  obtain ⟨L, R, B, n, P, pn, ce, rn, mk, st, sy, hn, hp, hr, rfl, hv⟩ := I
  rcases dd_sets v1 with b1 | ⟨x, rfl⟩
  · obtain ⟨sm, md, kn, cs, tb, hM, rfl⟩ := hv
    unfold wpX_keepsBundled
    refine x_isSetF b1 (br_t rfl ?_)
    unfold wpY_keepsBundled
    exact y_isSetF b1 (br_t rfl ⟨rfl, i_mk hn hp hr ⟨sm, md, kn, cs, tb, hM, rfl⟩⟩)
  rcases dd_sets v2 with b2 | ⟨y, rfl⟩
  · obtain ⟨sm, md, kn, cs, tb, hM, rfl⟩ := hv
    unfold wpX_keepsBundled
    refine x_isSet x (br_f (by decide) (x_isSetF b2 (br_t rfl ?_)))
    unfold wpY_keepsBundled
    exact y_isSet x (br_f (by decide) (y_isSetF b2 (br_t rfl ⟨rfl, i_mk hn hp hr ⟨sm, md, kn, cs, tb, hM, rfl⟩⟩)))
  obtain ⟨sm, md, kn, cs, tb, hM, rfl⟩ := hv
  exact x_keepsBundled hr x y (y_keepsBundled hr x y ⟨rfl, i_mk hn hp hr ⟨sm, md, kn, cs, tb, hM, rfl⟩⟩)
theorem i_vc_discovered {k : Nat} {u : SX} {v : SY} (I : i_Rel k u v) (hk : k + 4 ≤ 2048) : wpX_discovered (fun r => wpY_discovered (fun r' => r' = r ∧ i_Rel (k + 4) u v) v) u := by
  obtain ⟨L, R, B, n, P, pn, ce, rn, mk, st, sy, hn, hp, hr, rfl, hv⟩ := I
  obtain ⟨sm, md, kn, cs, tb, hM, rfl⟩ := hv
  exact x_discovered hr (y_discovered hr ⟨rfl, i_mk hn hp hr ⟨sm, md, kn, cs, tb, hM, rfl⟩⟩)
theorem i_vc_agreements {k : Nat} {u : SX} {v : SY} (I : i_Rel k u v) (hk : k + 4 ≤ 2048) : wpX_agreements (fun r => wpY_agreements (fun r' => r' = r ∧ i_Rel (k + 4) u v) v) u := by
  obtain ⟨L, R, B, n, P, pn, ce, rn, mk, st, sy, hn, hp, hr, rfl, hv⟩ := I
  obtain ⟨sm, md, kn, cs, tb, hM, rfl⟩ := hv
  exact x_agreements hr (y_agreements hr ⟨rfl, i_mk hn hp hr ⟨sm, md, kn, cs, tb, hM, rfl⟩⟩)
theorem i_vc_exact {k : Nat} {u : SX} {v : SY} (I : i_Rel k u v) (hk : k + 4 ≤ 2048) : wpX_exact (fun r => wpY_exact (fun r' v' => r' = r ∧ i_Rel (k + 4) u v') v) u := by
  obtain ⟨L, R, B, n, P, pn, ce, rn, mk, st, sy, hn, hp, hr, rfl, hv⟩ := I
  exact x_exact hn hr (y_exact hn hr hv fun v' hv' => ⟨rfl, i_mk hn hp hr hv'⟩)
end
