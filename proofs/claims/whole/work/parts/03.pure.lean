/-! the pure functions that both walks are held against -/
def dd_al (q : Nat → Bool) : Nat → Bool
  | 0 => true
  | n + 1 => dd_al q n && q n
theorem dd_alI {q : Nat → Bool} {n : Nat} : dd_al q n = true ↔ ∀ d, d < n → q d = true := by
  induction n with
  | zero => exact ⟨fun _ d hd => absurd hd (Nat.not_lt_zero d), fun _ => rfl⟩
  | succ n ih =>
    show (dd_al q n && q n) = true ↔ _
    rw [Bool.and_eq_true, ih]
    refine ⟨fun h d hd => ?_, fun h => ⟨fun d hd => h d (by omega), h n (by omega)⟩⟩
    rcases Nat.lt_or_ge d n with z | z
    · exact h.1 d z
    · rw [show d = n by omega]; exact h.2
theorem dd_alF {q : Nat → Bool} {n d : Nat} (hd : d < n) (h : q d = false) : dd_al q n = false := by
  cases e : dd_al q n
  · rfl
  · rw [dd_alI.mp e d hd] at h; exact absurd h (by decide)
theorem dd_alX {q r : Nat → Bool} {n : Nat} (h : ∀ d, d < n → q d = r d) : dd_al q n = dd_al r n := by
  induction n with
  | zero => rfl
  | succ n ih =>
    show (dd_al q n && q n) = (dd_al r n && r n)
    rw [ih fun d hd => h d (by omega), h n (by omega)]
def dd_cn (q : Nat → Bool) : Nat → Nat
  | 0 => 0
  | n + 1 => if q n = true then dd_cn q n + 1 else dd_cn q n
theorem dd_cnX {q r : Nat → Bool} {n : Nat} (h : ∀ d, d < n → q d = r d) : dd_cn q n = dd_cn r n := by
  induction n with
  | zero => rfl
  | succ n ih =>
    show (if q n = true then dd_cn q n + 1 else dd_cn q n) = (if r n = true then dd_cn r n + 1 else dd_cn r n)
    rw [ih fun d hd => h d (by omega), h n (by omega)]
theorem dd_cnle (q : Nat → Bool) (n : Nat) : dd_cn q n ≤ n := by
  induction n with
  | zero => exact Nat.le_refl _
  | succ n ih =>
    show (if q n = true then dd_cn q n + 1 else dd_cn q n) ≤ _
    split <;> omega
/-- nothing counts from m on -/
theorem dd_cnz {q : Nat → Bool} {m n : Nat} (hm : m ≤ n) (h : ∀ d, m ≤ d → d < n → q d = false) : dd_cn q n = dd_cn q m := by
  induction n with
  | zero => rw [show m = 0 by omega]
  | succ n ih =>
    rcases Nat.lt_or_ge n m with z | z
    · rw [show m = n + 1 by omega]
    · show (if q n = true then dd_cn q n + 1 else dd_cn q n) = _
      rw [h n z (by omega), if_neg (by decide), ih z fun d h1 h2 => h d h1 (by omega)]
/-- the i-th of those that q has -/
def dd_at (q : Nat → Bool) (i : Int32) : Nat → Nat → Nat → Int32
  | 0, _, _ => -3
  | d + 1, t, b => if q t = true then (if nI b = i then nI t else dd_at q i d (t + 1) (b + 1)) else dd_at q i d (t + 1) b
theorem dd_atX {q r : Nat → Bool} (i : Int32) {n : Nat} (h : ∀ d, d < n → q d = r d) : ∀ d t b, d + t = n → dd_at q i d t b = dd_at r i d t b := by
  intro d
  induction d with
  | zero => exact fun _ _ _ => rfl
  | succ d ih =>
    intro t b e
    show (if q t = true then (if nI b = i then nI t else dd_at q i d (t + 1) (b + 1)) else dd_at q i d (t + 1) b) = (if r t = true then (if nI b = i then nI t else dd_at r i d (t + 1) (b + 1)) else dd_at r i d (t + 1) b)
    rw [h t (by omega), ih (t + 1) (b + 1) (by omega), ih (t + 1) b (by omega)]
abbrev dd_sB (a b : dd_S) : Bool := decide (dd_sub a b)
theorem dd_sBt {a b : dd_S} (h : dd_sub a b) : dd_sB a b = true := decide_eq_true h
theorem dd_sBf {a b : dd_S} (h : ¬ dd_sub a b) : dd_sB a b = false := decide_eq_false h
/-- two rows that agree on T keep x -> y (b: x ->> y) -/
def dd_pk (T x y : dd_S) (b : Bool) : Bool := !dd_sB x T || dd_sB y T || (b && dd_sB (~~~(x ||| y)) T)
theorem dd_pkI {T x y : dd_S} {b : Bool} : dd_pk T x y b = true ↔ (dd_sub x T → dd_sub y T ∨ (b = true ∧ dd_sub (~~~(x ||| y)) T)) := by
  unfold dd_pk
  rw [Bool.or_eq_true, Bool.or_eq_true, Bool.and_eq_true, Bool.not_eq_true', decide_eq_false_iff_not, decide_eq_true_eq, decide_eq_true_eq]
  constructor
  · rintro ((h | h) | h) hx
    · exact absurd hx h
    · exact Or.inl h
    · exact Or.inr h
  · intro h
    by_cases hx : dd_sub x T
    · rcases h hx with z | z
      · exact Or.inl (Or.inr z)
      · exact Or.inr z
    · exact Or.inl (Or.inl hx)
def dd_clN (p : Nat → Bool) (x : dd_S) : Nat → dd_S
  | 0 => 63#6
  | n + 1 => if p n = true ∧ dd_sub x (dd_n n) then dd_clN p x n &&& dd_n n else dd_clN p x n
def dd_cl (p : Nat → Bool) (x : dd_S) : dd_S := dd_clN p x 64
theorem dd_clNB {p : Nat → Bool} {x : dd_S} {n c : Nat} (hc : c < 6) : (dd_clN p x n).getLsbD c = true ↔ ∀ t, t < n → p t = true → dd_sub x (dd_n t) → (dd_n t).getLsbD c = true := by
  induction n with
  | zero => exact ⟨fun _ d hd => absurd hd (Nat.not_lt_zero d), fun _ => (by decide : ∀ c, c < 6 → (63#6).getLsbD c = true) c hc⟩
  | succ n ih =>
    show (if p n = true ∧ dd_sub x (dd_n n) then dd_clN p x n &&& dd_n n else dd_clN p x n).getLsbD c = true ↔ _
    by_cases h : p n = true ∧ dd_sub x (dd_n n)
    · rw [if_pos h, BitVec.getLsbD_and, Bool.and_eq_true, ih]
      refine ⟨fun g t ht h1 h2 => ?_, fun g => ⟨fun t ht => g t (by omega), g n (by omega) h.1 h.2⟩⟩
      rcases Nat.lt_or_ge t n with z | z
      · exact g.1 t z h1 h2
      · rw [show t = n by omega]; exact g.2
    · rw [if_neg h, ih]
      refine ⟨fun g t ht h1 h2 => ?_, fun g t ht => g t (by omega)⟩
      rcases Nat.lt_or_ge t n with z | z
      · exact g t z h1 h2
      · rw [show t = n by omega] at h1 h2
        exact absurd ⟨h1, h2⟩ h
theorem dd_clB {p : Nat → Bool} {x : dd_S} {c : Nat} (hc : c < 6) : (dd_cl p x).getLsbD c = true ↔ ∀ T : dd_S, p T.toNat = true → dd_sub x T → T.getLsbD c = true := by
  unfold dd_cl
  rw [dd_clNB hc]
  constructor
  · intro h T h1 h2
    have := h T.toNat (dd_nlt T) h1
    rw [dd_nn] at this
    exact this h2
  · intro h t ht h1 h2
    refine h (dd_n t) ?_ h2
    rw [dd_nt ht]; exact h1
/-- the closure is what its bits say -/
theorem dd_clU {p : Nat → Bool} {x S : dd_S} (h : ∀ c, c < 6 → (S.getLsbD c = true ↔ ∀ T : dd_S, p T.toNat = true → dd_sub x T → T.getLsbD c = true)) : S = dd_cl p x :=
  dd_ext fun c hc => Bool.eq_iff_iff.mpr ((h c hc).trans (dd_clB hc).symm)
theorem dd_clX {p q : Nat → Bool} {x : dd_S} (h : ∀ t, t < 64 → p t = q t) : dd_cl p x = dd_cl q x :=
  dd_clU fun c hc => by
    rw [dd_clB hc]
    exact ⟨fun g T h1 h2 => g T (by rw [h _ (dd_nlt T)]; exact h1) h2, fun g T h1 h2 => g T (by rw [← h _ (dd_nlt T)]; exact h1) h2⟩
theorem dd_clx (p : Nat → Bool) (x : dd_S) : dd_sub x (dd_cl p x) :=
  dd_subI.mpr fun c hx => (dd_clB (dd_lt hx)).mpr fun _ _ h => dd_subI.mp h c hx
theorem dd_clle {p : Nat → Bool} {x T : dd_S} (h1 : p T.toNat = true) (h2 : dd_sub x T) : dd_sub (dd_cl p x) T :=
  dd_subI.mpr fun _ hx => (dd_clB (dd_lt hx)).mp hx T h1 h2
/-- a set follows exactly if all keep it -/
theorem dd_clk {p : Nat → Bool} {x y : dd_S} : dd_sub y (dd_cl p x) ↔ ∀ T : dd_S, p T.toNat = true → dd_pk T x y false = true := by
  constructor
  · intro h T hT
    refine dd_pkI.mpr fun hx => Or.inl (dd_subI.mpr fun i hi => ?_)
    exact (dd_clB (dd_lt hi)).mp (dd_subI.mp h i hi) T hT hx
  · intro h
    refine dd_subI.mpr fun i hi => (dd_clB (dd_lt hi)).mpr fun T hT hx => ?_
    rcases dd_pkI.mp (h T hT) hx with z | z
    · exact dd_subI.mp z i hi
    · exact absurd z.1 (by decide)
def dd_aK (p : Nat → Bool) (x y : dd_S) (b : Bool) : Bool := dd_al (fun t => !p t || dd_pk (dd_n t) x y b) 64
theorem dd_aKI {p : Nat → Bool} {x y : dd_S} {b : Bool} : dd_aK p x y b = true ↔ ∀ T : dd_S, p T.toNat = true → dd_pk T x y b = true := by
  unfold dd_aK
  rw [dd_alI]
  constructor
  · intro h T hT
    have := h T.toNat (dd_nlt T)
    rw [hT, dd_nn] at this
    simpa using this
  · intro h t ht
    cases e : p t
    · rfl
    · have := h (dd_n t) (by rw [dd_nt ht]; exact e)
      rw [this]; rfl
theorem dd_aKc {p : Nat → Bool} {x y : dd_S} : dd_aK p x y false = dd_sB y (dd_cl p x) :=
  Bool.eq_iff_iff.mpr (by rw [dd_aKI, decide_eq_true_eq, dd_clk])
/-- the pairs that keep the chosen ones of n given -/
def dd_v (L R : Nat → dd_S) (B : Nat → Bool) (n : Nat) (ch : Nat → Bool) (t : Nat) : Bool :=
  dd_al (fun d => !ch d || dd_pk (dd_n t) (L d) (R d) (B d)) n
def dd_F (L R : Nat → dd_S) (B : Nat → Bool) (n : Nat) (ch : Nat → Bool) (b : Bool) (l r : dd_S) : Prop :=
  ∃ d, d < n ∧ ch d = true ∧ B d = b ∧ L d = l ∧ R d = r
theorem dd_vI {L R : Nat → dd_S} {B : Nat → Bool} {n : Nat} {ch : Nat → Bool} {T : dd_S} : dd_v L R B n ch T.toNat = true ↔ dd_V (dd_F L R B n ch false) (dd_F L R B n ch true) T := by
  unfold dd_v dd_V
  rw [dd_alI, dd_nn]
  constructor
  · intro h
    refine ⟨?_, ?_⟩
    · rintro l r ⟨d, hd, hc, hb, rfl, rfl⟩ hl
      have := h d hd
      rw [hc, Bool.not_true, Bool.false_or, hb] at this
      rcases dd_pkI.mp this hl with z | z
      · exact z
      · exact absurd z.1 (by decide)
    · rintro l r ⟨d, hd, hc, hb, rfl, rfl⟩ hl
      have := h d hd
      rw [hc, Bool.not_true, Bool.false_or, hb] at this
      rcases dd_pkI.mp this hl with z | z
      · exact Or.inl z
      · exact Or.inr z.2
  · intro h d hd
    cases hc : ch d
    · rfl
    · rw [Bool.not_true, Bool.false_or]
      refine dd_pkI.mpr fun hl => ?_
      cases hb : B d
      · exact Or.inl (h.1 _ _ ⟨d, hd, hc, hb, rfl, rfl⟩ hl)
      · rcases h.2 _ _ ⟨d, hd, hc, hb, rfl, rfl⟩ hl with z | z
        · exact Or.inl z
        · exact Or.inr ⟨rfl, z⟩
def dd_un (p : Nat → Bool) : Nat → dd_S
  | 0 => 0#6
  | n + 1 => if p n = true then dd_un p n ||| dd_n n else dd_un p n
theorem dd_unX {q r : Nat → Bool} {n : Nat} (h : ∀ d, d < n → q d = r d) : dd_un q n = dd_un r n := by
  induction n with
  | zero => rfl
  | succ n ih =>
    show (if q n = true then dd_un q n ||| dd_n n else dd_un q n) = (if r n = true then dd_un r n ||| dd_n n else dd_un r n)
    rw [ih fun d hd => h d (by omega), h n (by omega)]
/-- x is a key of s -/
def dd_key (p : Nat → Bool) (s x : dd_S) : Bool :=
  dd_sB x s && (dd_sB s (dd_cl p x) && dd_al (fun c => !(x.getLsbD c && dd_sB s (dd_cl p (x &&& ~~~dd_e c)))) 6)
theorem dd_less {x : dd_S} {c : Nat} (hc : c < 6) : x &&& ~~~dd_e c = x ↔ x.getLsbD c = false := by
  constructor
  · intro h
    have := congrArg (fun z => BitVec.getLsbD z c) h
    simp only [BitVec.getLsbD_and, dd_not hc, dd_eB hc] at this
    simpa using this.symm
  · intro h
    refine dd_ext fun i hi => ?_
    rw [BitVec.getLsbD_and, dd_not hi, dd_eB hc]
    by_cases e : c = i
    · rw [← e, h]; rfl
    · simp [e]
theorem dd_ands {a s : dd_S} : a &&& s = s ↔ dd_sub s a := by
  rw [dd_subI]
  constructor
  · intro h i hi
    have := congrArg (fun z => BitVec.getLsbD z i) h
    simp only [BitVec.getLsbD_and] at this
    rw [hi] at this
    simpa using this
  · intro h
    refine dd_ext fun i _ => ?_
    rw [BitVec.getLsbD_and]
    have := h i
    cases hs : s.getLsbD i
    · simp
    · rw [this hs]; rfl
/-- stems below n, by their own numbers -/
def dd_st (cl : dd_S → dd_S) : Nat → Nat → Bool
  | 0 => fun _ => false
  | n + 1 => fun q => if q = n then (decide (cl (dd_n n) ≠ dd_n n) && dd_al (fun q => !(dd_st cl n q && dd_sB (dd_n q) (dd_n n)) || dd_sB (cl (dd_n q)) (dd_n n)) n) else dd_st cl n q
