/-! masks: an Int32 by its bits, a natural below 256 -/
theorem ce_or (a b : Nat) : nI a ||| nI b = nI (a ||| b) := by
  apply Int32.toBitVec_inj.1
  show BitVec.ofNat 32 a ||| BitVec.ofNat 32 b = BitVec.ofNat 32 (a ||| b)
  apply BitVec.eq_of_getLsbD_eq
  intro i hi
  simp [hi]
theorem ce_bn (n : Nat) {i : Nat} (hi : i < 32) : bt (nI n) i = n.testBit i := by
  unfold bt
  show (BitVec.ofNat 32 n).getLsbD i = _
  rw [BitVec.getLsbD_ofNat]
  simp [hi]
theorem ce_b1 {s i : Nat} (hs : s < 32) : bt ((1 : Int32) <<< (nI s &&& 31)) i = decide (s = i) := by
  unfold bt
  rw [nf_sh s hs, BitVec.getLsbD_twoPow]
  simp [hs]
theorem ce_has (x : Int32) {s : Nat} (hs : s < 32) : x &&& ((1 : Int32) <<< (nI s &&& 31)) = 0 ↔ bt x s = false := by
  constructor
  · intro h
    have e : bt (x &&& ((1 : Int32) <<< (nI s &&& 31))) s = false := by rw [h]; exact b_0 s
    rw [b_and, ce_b1 hs] at e
    simpa using e
  · intro h
    apply b_ext
    intro i hi
    rw [b_and, ce_b1 hs, b_0]
    by_cases e : s = i
    · subst e; rw [h]; rfl
    · simp [e]
theorem ce_hasN (m : Nat) {s : Nat} (hs : s < 32) : nI m &&& ((1 : Int32) <<< (nI s &&& 31)) = 0 ↔ m.testBit s = false := by
  rw [ce_has _ hs, ce_bn m hs]
theorem ce_in (x y : Int32) : x &&& (y ^^^ (-1)) = 0 ↔ ∀ i, i < 32 → bt x i = true → bt y i = true := by
  constructor
  · intro h i hi hx
    have e : bt (x &&& (y ^^^ (-1))) i = false := by rw [h]; exact b_0 i
    rw [b_and, b_xor, b_m1 i hi, hx] at e
    revert e
    cases bt y i <;> simp
  · intro h
    apply b_ext
    intro i hi
    rw [b_and, b_xor, b_m1 i hi, b_0]
    have q := h i hi
    revert q
    cases bt x i <;> cases bt y i <;> simp
/-- a is a subset of b -/
def ce_sub (a b : Nat) : Prop := ∀ i, a.testBit i = true → b.testBit i = true
theorem ce_hi {m i : Nat} (h : m < 256) (hi : 8 ≤ i) : m.testBit i = false :=
  Nat.testBit_lt_two_pow (Nat.lt_of_lt_of_le h (Nat.pow_le_pow_right (n := 2) (by decide) hi : 2 ^ 8 ≤ 2 ^ i))
theorem ce_lo {m i : Nat} (h : m < 256) (hi : m.testBit i = true) : i < 8 := by
  rcases Nat.lt_or_ge i 8 with z | z
  · exact z
  · rw [ce_hi h z] at hi; cases hi
theorem ce_inN {a b : Nat} (ha : a < 256) : nI a &&& (nI b ^^^ (-1)) = 0 ↔ ce_sub a b := by
  rw [ce_in]
  constructor
  · intro h i hi
    have z := ce_lo ha hi
    have q := h i (by omega)
    rw [ce_bn a (by omega), ce_bn b (by omega)] at q
    exact q hi
  · intro h i hi hx
    rw [ce_bn a hi] at hx
    rw [ce_bn b hi]
    exact h i hx
theorem ce_m255 (i : Nat) (hi : i < 32) : bt 255 i = decide (i < 8) := (by decide +kernel : ∀ i, i < 32 → bt 255 i = decide (i < 8)) i hi
theorem ce_small {x : Int32} {F : Nat} (hF : F < 256) (h : x &&& (nI F ^^^ (-1)) = 0) : ∃ m, m < 256 ∧ x = nI m ∧ ce_sub m F := by
  have h' := h
  rw [ce_in] at h
  have e : x = x &&& 255 := by
    apply b_ext
    intro i hi
    rw [b_and, ce_m255 i hi]
    by_cases z : i < 8
    · simp [z]
    · have q := h i hi
      rw [ce_bn F hi, ce_hi hF (by omega)] at q
      revert q
      cases bt x i <;> simp
  obtain ⟨j, hj, ej⟩ := pk_andE x (m := 255) 8 (by decide)
  rw [← e] at ej
  subst ej
  exact ⟨j, hj, rfl, (ce_inN hj).mp h'⟩
theorem ce_xt (m s i : Nat) : (m ^^^ 2 ^ s).testBit i = (m.testBit i ^^ decide (s = i)) := by
  rw [Nat.testBit_xor, Nat.testBit_two_pow]
theorem ce_pw {s : Nat} (h : s < 8) : 2 ^ s < 256 := Nat.pow_lt_pow_right (a := 2) (m := s) (n := 8) (by decide) h
theorem ce_xl {m s : Nat} (h : m < 256) (hs : s < 8) : m ^^^ 2 ^ s < 256 := Nat.xor_lt_two_pow (n := 8) h (ce_pw hs)
theorem ce_del {m s : Nat} (hs : s < 32) (h : m.testBit s = true) : nI m &&& (((1 : Int32) <<< (nI s &&& 31)) ^^^ (-1)) = nI (m ^^^ 2 ^ s) := by
  apply b_ext
  intro i hi
  rw [b_and, b_xor, ce_b1 hs, b_m1 i hi, ce_bn _ hi, ce_bn _ hi, ce_xt]
  by_cases e : s = i
  · subst e; simp [h]
  · simp [e]
theorem ce_add {m s : Nat} (hs : s < 32) (h : m.testBit s = false) : nI m ||| ((1 : Int32) <<< (nI s &&& 31)) = nI (m ^^^ 2 ^ s) := by
  apply b_ext
  intro i hi
  rw [b_or, ce_b1 hs, ce_bn _ hi, ce_bn _ hi, ce_xt]
  by_cases e : s = i
  · subst e; simp [h]
  · simp [e]
theorem ce_del0 {m s : Nat} (hs : s < 32) (h : m.testBit s = false) : nI m &&& (((1 : Int32) <<< (nI s &&& 31)) ^^^ (-1)) = nI m := by
  apply b_ext
  intro i hi
  rw [b_and, b_xor, ce_b1 hs, b_m1 i hi, ce_bn _ hi]
  by_cases e : s = i
  · subst e; simp [h]
  · simp [e]
theorem ce_diff {a b : Nat} (hb : b < 256) : nI b &&& (nI a ^^^ (-1)) = nI (b &&& (255 ^^^ a)) := by
  apply b_ext
  intro i hi
  rw [b_and, b_xor, b_m1 i hi, ce_bn _ hi, ce_bn _ hi, ce_bn _ hi, Nat.testBit_and, Nat.testBit_xor]
  by_cases z : i < 8
  · have q : (255 : Nat).testBit i = true := (by decide : ∀ i, i < 8 → (255 : Nat).testBit i = true) i z
    rw [q]
    cases a.testBit i <;> simp
  · rw [ce_hi hb (by omega)]; simp
theorem ce_sub_refl (a : Nat) : ce_sub a a := fun _ h => h
theorem ce_sub_trans {a b c : Nat} (h : ce_sub a b) (k : ce_sub b c) : ce_sub a c := fun i z => k i (h i z)
theorem ce_sub_anti {a b : Nat} (h : ce_sub a b) (k : ce_sub b a) : a = b := by
  apply Nat.eq_of_testBit_eq
  intro i
  have h1 := h i
  have h2 := k i
  revert h1 h2
  cases a.testBit i <;> cases b.testBit i <;> simp
theorem ce_sub_lt {a b : Nat} (hb : b < 256) (h : ce_sub a b) : a < 256 := by
  have e : a = a &&& b := by
    apply Nat.eq_of_testBit_eq
    intro i
    rw [Nat.testBit_and]
    have q := h i
    revert q
    cases a.testBit i <;> cases b.testBit i <;> simp
  rw [e]
  exact Nat.lt_of_le_of_lt Nat.and_le_right hb
theorem ce_sub_le {a b : Nat} (h : ce_sub a b) : a ≤ b := by
  have e : a = a &&& b := by
    apply Nat.eq_of_testBit_eq
    intro i
    rw [Nat.testBit_and]
    have q := h i
    revert q
    cases a.testBit i <;> cases b.testBit i <;> simp
  rw [e]
  exact Nat.and_le_right
theorem ce_sub_del {m s : Nat} (h : m.testBit s = true) : ce_sub (m ^^^ 2 ^ s) m := by
  intro i hi
  rw [ce_xt] at hi
  by_cases e : s = i
  · subst e; exact h
  · simpa [e] using hi
theorem ce_sub_add {m s : Nat} (h : m.testBit s = false) : ce_sub m (m ^^^ 2 ^ s) := by
  intro i hi
  rw [ce_xt]
  by_cases e : s = i
  · subst e; rw [h] at hi; cases hi
  · simpa [e] using hi
/-- a proper subset lies within one slot less -/
theorem ce_sub_one {a b : Nat} (h : ce_sub a b) (ne : a ≠ b) : ∃ s, b.testBit s = true ∧ a.testBit s = false ∧ ce_sub a (b ^^^ 2 ^ s) := by
  obtain ⟨s, hs⟩ := Classical.byContradiction (p := ∃ s, b.testBit s = true ∧ a.testBit s = false) (fun z => ne (ce_sub_anti h (fun i hi => by
    cases q : a.testBit i
    · exact absurd ⟨i, hi, q⟩ z
    · rfl)))
  refine ⟨s, hs.1, hs.2, fun i hi => ?_⟩
  rw [ce_xt]
  by_cases e : s = i
  · subst e; rw [hs.2] at hi; cases hi
  · simpa [e] using h i hi
/-- a proper superset holds one slot more -/
theorem ce_sup_one {a b : Nat} (h : ce_sub a b) (ne : a ≠ b) : ∃ s, b.testBit s = true ∧ a.testBit s = false ∧ ce_sub (a ^^^ 2 ^ s) b := by
  obtain ⟨s, h1, h2, _⟩ := ce_sub_one h ne
  refine ⟨s, h1, h2, fun i hi => ?_⟩
  rw [ce_xt] at hi
  by_cases e : s = i
  · subst e; exact h1
  · exact h i (by simpa [e] using hi)
