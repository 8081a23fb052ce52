/-! one dependency used on the two rows: what its two loops keep -/
def dd_P (f : Int64) (a : dd_S) : Prop := dd_m f a.toNat = true
def dd_pr (R s : Nat) (a b : dd_S) : Prop := a.toNat < R ∨ (a.toNat = R ∧ b.toNat < s)
theorem dd_pr1 {R s : Nat} {a b : dd_S} (h : dd_pr R (s + 1) a b) : dd_pr R s a b ∨ (a = dd_n R ∧ b = dd_n s) := by
  rcases h with h | ⟨h1, h2⟩
  · exact Or.inl (Or.inl h)
  · rcases Nat.lt_or_ge b.toNat s with z | z
    · exact Or.inl (Or.inr ⟨h1, z⟩)
    · exact Or.inr ⟨by rw [← h1, dd_nn], by rw [show s = b.toNat by omega, dd_nn]⟩
theorem dd_pr2 {R : Nat} {a b : dd_S} (h : dd_pr (R + 1) 0 a b) : dd_pr R 64 a b := by
  rcases h with h | ⟨h1, h2⟩
  · rcases Nat.lt_or_ge a.toNat R with z | z
    · exact Or.inl z
    · exact Or.inr ⟨by omega, dd_nlt b⟩
  · exact absurd h2 (Nat.not_lt_zero _)
def dd_U (F M : dd_S → dd_S → Prop) (x S l r : dd_S) (bd : Bool) (bf : Int64) (pr : dd_S → dd_S → Prop) (md : Int64) (eq : dd_S) : Prop :=
  dd_I F M x S (dd_P md) ∧ (∀ t, t < 64 → dd_m bf t = true → dd_m md t = true) ∧ dd_sub S eq ∧ (∀ T, dd_V F M T → dd_sub x T → dd_sub eq T)
  ∧ (bd = true → eq = S) ∧ (bd = false → md = bf)
  ∧ (∀ a b, pr a b → dd_P bf a → dd_P bf b → (a ^^^ b) &&& l = 0#6 → (bd = true → md = bf → dd_P bf (dd_mix (l ||| r) a b)) ∧ (bd = false → dd_sub ((a ^^^ b) &&& r) eq))
section
variable {F M : dd_S → dd_S → Prop} {x S l r : dd_S} {bd : Bool} {bf md : Int64} {eq : dd_S} {pr pr' : dd_S → dd_S → Prop}
theorem dd_Ustart (I : dd_I F M x S (dd_P bf)) : dd_U F M x S l r bd bf (dd_pr 0 0) bf S :=
  ⟨I, fun _ _ h => h, dd_refl S, I.2.1, fun _ => rfl, fun _ => rfl, fun a b h => by
    rcases h with h | h
    · exact absurd h (Nat.not_lt_zero _)
    · exact absurd h.2 (Nat.not_lt_zero _)⟩
theorem dd_Uskip (U : dd_U F M x S l r bd bf pr md eq) (h : ∀ a b, pr' a b → pr a b ∨ ¬ (dd_P bf a ∧ dd_P bf b ∧ (a ^^^ b) &&& l = 0#6)) : dd_U F M x S l r bd bf pr' md eq := by
  obtain ⟨u1, u2, u3, u4, u5, u6, u7⟩ := U
  refine ⟨u1, u2, u3, u4, u5, u6, fun a b hp ha hb e => ?_⟩
  rcases h a b hp with z | z
  · exact u7 a b z ha hb e
  · exact absurd ⟨ha, hb, e⟩ z
theorem dd_UM (U : dd_U F M x S l r true bf pr md eq) (hM : M l r) {a b : dd_S} (ha : dd_P md a) (hb : dd_P md b) (e : (a ^^^ b) &&& l = 0#6)
    (h : ∀ a' b', pr' a' b' → pr a' b' ∨ (a' = a ∧ b' = b)) {md' : Int64} (hmd : ∀ t, t < 64 → dd_m md' t = (dd_m md t || decide ((dd_mix (l ||| r) a b).toNat = t))) :
    dd_U F M x S l r true bf pr' md' eq := by
  obtain ⟨u1, u2, u3, u4, u5, u6, u7⟩ := U
  have hP : ∀ t, dd_P md' t ↔ dd_P md t ∨ dd_mix (l ||| r) a b = t := fun t => by
    unfold dd_P
    rw [hmd _ (dd_nlt t), Bool.or_eq_true, decide_eq_true_eq]
    exact ⟨fun h => h.imp id fun z => BitVec.eq_of_toNat_eq z, fun h => h.imp id fun z => by rw [z]⟩
  have grow : ∀ t, t < 64 → dd_m md t = true → dd_m md' t = true := fun t ht h => by rw [hmd t ht, h]; rfl
  refine ⟨dd_Icong hP (dd_IM u1 hM ha hb e), fun t ht h => grow t ht (u2 t ht h), u3, u4, u5, fun z => absurd z (by decide), fun a' b' hp ha' hb' e' => ⟨fun _ hm => ?_, fun z => absurd z (by decide)⟩⟩
  have hmb : md = bf := dd_mext fun t ht => by
    have g1 := u2 t ht
    have g2 := grow t ht
    rw [hm] at g2
    exact Bool.eq_iff_iff.mpr ⟨g2, g1⟩
  rcases h a' b' hp with z | ⟨z1, z2⟩
  · exact (u7 a' b' z ha' hb' e').1 rfl hmb
  · have := (hP (dd_mix (l ||| r) a b)).mpr (Or.inr rfl)
    rw [hm] at this
    rw [z1, z2]; exact this
theorem dd_UF (U : dd_U F M x S l r false bf pr md eq) (hF : F l r) {a b : dd_S} (ha : dd_P md a) (hb : dd_P md b) (e : (a ^^^ b) &&& l = 0#6)
    (h : ∀ a' b', pr' a' b' → pr a' b' ∨ (a' = a ∧ b' = b)) : dd_U F M x S l r false bf pr' md (eq ||| ((a ^^^ b) &&& r)) := by
  obtain ⟨u1, u2, u3, u4, u5, u6, u7⟩ := U
  refine ⟨u1, u2, dd_trans u3 (dd_orl _ _), fun T hT hx => dd_orle (u4 T hT hx) (dd_IF u1 hF ha hb e T hT hx), fun z => absurd z (by decide), u6, fun a' b' hp ha' hb' e' => ⟨fun z => absurd z (by decide), fun _ => ?_⟩⟩
  rcases h a' b' hp with z | ⟨z1, z2⟩
  · exact dd_trans ((u7 a' b' z ha' hb' e').2 rfl) (dd_orl _ _)
  · rw [z1, z2]; exact dd_orr _ _
/-- the dependency has nothing more to do on these rows -/
def dd_cK (S l r : dd_S) (bd : Bool) (md : Int64) : Prop :=
  (bd = true → ∀ a b, dd_P md a → dd_P md b → (a ^^^ b) &&& l = 0#6 → dd_P md (dd_mix (l ||| r) a b)) ∧
  (bd = false → ∀ a b, dd_P md a → dd_P md b → (a ^^^ b) &&& l = 0#6 → (a ^^^ b) &&& r = 0#6)
theorem dd_Uend (U : dd_U F M x S l r bd bf (dd_pr 64 0) md eq) (he : eq = S) (hm : md = bf) : dd_cK S l r bd bf := by
  obtain ⟨u1, u2, u3, u4, u5, u6, u7⟩ := U
  subst hm
  refine ⟨fun hb a b h1 h2 e => ((u7 a b (Or.inl (dd_nlt a)) h1 h2 e).1 hb rfl), fun hb a b h1 h2 e => ?_⟩
  have := (u7 a b (Or.inl (dd_nlt a)) h1 h2 e).2 hb
  rw [he] at this
  refine dd_zI.mpr fun i hx hr => ?_
  have hS := dd_subI.mp this i (by rw [BitVec.getLsbD_and, hx, hr]; rfl)
  have za := dd_zI.mp (u1.2.2.2.2.2 a h1) i
  have zb := dd_zI.mp (u1.2.2.2.2.2 b h2) i
  rw [BitVec.getLsbD_xor] at hx
  cases ga : a.getLsbD i <;> cases gb : b.getLsbD i <;> simp_all
end
/-- rows and columns left: falls with every use that changes anything -/
def dd_mu (S : dd_S) (md : Int64) : Nat := (64 - S.toNat) * 18446744073709551616 + (18446744073709551616 - md.toBitVec.toNat)
theorem dd_mu1 {S S' : dd_S} {md md' : Int64} (h : S.toNat < S'.toNat) : dd_mu S' md' < dd_mu S md := by
  unfold dd_mu
  have h1 := dd_nlt S
  have h2 := dd_nlt S'
  have h3 : md.toBitVec.toNat < 18446744073709551616 := md.toBitVec.isLt
  have h4 : md'.toBitVec.toNat < 18446744073709551616 := md'.toBitVec.isLt
  omega
theorem dd_mu2 {S : dd_S} {md md' : Int64} (h : md.toBitVec.toNat < md'.toBitVec.toNat) : dd_mu S md' < dd_mu S md := by
  unfold dd_mu
  have h4 : md'.toBitVec.toNat < 18446744073709551616 := md'.toBitVec.isLt
  omega
/-! loops whose state is a function of the counter; branches -/
theorem dd_lp {σ : Type} (W : Nat → Nat → σ → Prop) (st : Nat → σ) (J : Nat → Prop) (e i0 : Nat) (hi : i0 ≤ e) (h0 : J i0) (hx : ∀ n, J e → W (n + 1) e (st e))
    (hs : ∀ n i, i0 ≤ i → i < e → J i → (∀ s', s' = st (i + 1) → J (i + 1) → W n (i + 1) s') → W (n + 1) i (st i)) : ∃ n, W n i0 (st i0) :=
  pk_loop W (fun i s => i0 ≤ i ∧ J i ∧ s = st i) e i0 (st i0) hi ⟨Nat.le_refl _, h0, rfl⟩ (fun n s h => by rw [h.2.2]; exact hx n h.2.1)
    (fun n i s hlt h hn => by rw [h.2.2]; exact hs n i h.1 hlt h.2.1 fun s' e' hJ => hn s' ⟨Nat.le_succ_of_le h.1, hJ, e'⟩)
theorem dd_if {c d A B : Prop} (e : c ↔ d) (f : d → A) (g : ¬ d → B) : (c → A) ∧ (¬ c → B) := ⟨fun h => f (e.mp h), fun h => g fun z => h (e.mpr z)⟩
theorem dd_br {v : Bool} {A B : Prop} (f : v = false → A) (g : v = true → B) : (dd_b v = 0 → A) ∧ (¬ dd_b v = 0 → B) :=
  dd_if (dd_b0 v) f (fun h => g (ts_nf h))
theorem dd_br1 {v : Bool} {A B : Prop} (f : v = true → A) (g : v = false → B) : (dd_b v = 1 → A) ∧ (¬ dd_b v = 1 → B) :=
  dd_if (dd_b1I v) f (fun h => g (ts_nt h))
theorem dd_brs {p q : Int32} {A B : Prop} (a b : dd_S) (f : dd_sub a b → A) (g : ¬ dd_sub a b → B) (hp : p = dd_i a := by rfl) (hq : q = dd_i b := by rfl) :
    ((p &&& (q ^^^ (-1))) = 0 → A) ∧ (¬ (p &&& (q ^^^ (-1))) = 0 → B) := by
  subst hp hq
  exact dd_if (dd_sb a b) f g
theorem dd_bre {p q : Int32} {A B : Prop} (a b : dd_S) (f : a = b → A) (g : ¬ a = b → B) (hp : p = dd_i a := by rfl) (hq : q = dd_i b := by rfl) :
    (p = q → A) ∧ (¬ p = q → B) := by
  subst hp hq
  exact dd_if dd_iinj f g
theorem dd_brm {f : Int64} {q : Int32} {A B : Prop} (t : Nat) (ht : t < 64) (g1 : dd_m f t = true → A) (g0 : dd_m f t = false → B) (hq : q = nI t := by rfl) :
    ((((f.toUInt64 >>> (q.toInt64.toUInt64 &&& Int64.toUInt64 63)).toInt64) &&& 1) = 1 → A) ∧ (¬ (((f.toUInt64 >>> (q.toInt64.toUInt64 &&& Int64.toUInt64 63)).toInt64) &&& 1) = 1 → B) := by
  subst hq
  exact dd_if (dd_m1 f ht) g1 (fun h => g0 (ts_nt h))
theorem dd_brb {p q : Int32} {A B : Prop} (x : dd_S) (c : Nat) (hc : c < 32) (g1 : x.getLsbD c = true → A) (g0 : x.getLsbD c = false → B) (hp : p = dd_i x := by rfl) (hq : q = nI c := by rfl) :
    (((p >>> (q &&& 31)) &&& 1) = 1 → A) ∧ (¬ ((p >>> (q &&& 31)) &&& 1) = 1 → B) := by
  subst hp hq
  rw [dd_bit x hc]
  exact dd_br1 g1 g0
/-- a number is no set, or it is one -/
def dd_bad (p : Int32) : Prop := p < 0 ∨ (¬ p < 0 ∧ 63 < p)
theorem dd_sets (p : Int32) : dd_bad p ∨ ∃ x : dd_S, p = dd_i x := by
  rcases pk_ix p (n := 64) (by decide) with h | h | ⟨j, hj, rfl⟩
  · exact Or.inl (Or.inl h)
  · obtain ⟨k, hk, rfl⟩ | h0 : (∃ k, k < 2 ^ 31 ∧ p = nI k) ∨ p < 0 := by
      by_cases h0 : p < 0
      · exact Or.inr h0
      · exact Or.inl (nI_of h0)
    · rw [nI_leI (by decide) hk] at h
      exact Or.inl (Or.inr ⟨nI_pos hk, nI_lt (a := 63) (by omega) hk⟩)
    · exact Or.inl (Or.inl h0)
  · exact Or.inr ⟨dd_n j, dd_ni hj⟩
