section
/-! rows pasted from the kit: PURE-ROWS and BITS -/
theorem pk_us {f : Nat → Int32} {k : Nat} {x : Int32} : upd f k x k = x := if_pos rfl
theorem pk_un {f : Nat → Int32} {k j : Nat} {x : Int32} (h : j ≠ k) : upd f k x j = f j := if_neg h
theorem pk_sub {a b : Nat} (h : b ≤ a) : nI a - nI b = nI (a - b) := by
  obtain ⟨c, rfl⟩ : ∃ c, a = c + b := ⟨a - b, by omega⟩
  rw [← nI_add, Int32.add_sub_cancel, Nat.add_sub_cancel]
theorem pk_m1 (n : Nat) : nI (n + 1) + (-1) = nI n := by
  rw [← nI_1, Int32.add_assoc, show (1 : Int32) + (-1) = 0 from rfl, Int32.add_zero]
theorem pk_mul (a b : Nat) : nI a * nI b = nI (a * b) := (Int32.ofNat_mul a b).symm
theorem pk_ix (x : Int32) {n : Nat} (hn : n < 2 ^ 31) : x < 0 ∨ nI n ≤ x ∨ ∃ j : Nat, j < n ∧ x = nI j := by
  by_cases h : x < 0
  · exact Or.inl h
  · obtain ⟨j, hj, rfl⟩ := nI_of h
    by_cases h2 : j < n
    · exact Or.inr (Or.inr ⟨j, h2, rfl⟩)
    · exact Or.inr (Or.inl (nI_le (by omega) hj))
theorem pk_le {x y : Int32} {A B : Prop} (a b : Nat) (f : a ≤ b → A) (g : b < a → B) (hx : x = nI a := by rfl) (hy : y = nI b := by rfl) (ha : a < 2 ^ 31 := by omega) (hb : b < 2 ^ 31 := by omega) : (x ≤ y → A) ∧ (¬ x ≤ y → B) := by
  subst hx hy
  rw [nI_leI ha hb]
  exact ⟨f, fun z => g (by omega)⟩
theorem pk_lt {x y : Int32} {A B : Prop} (a b : Nat) (f : a < b → A) (g : b ≤ a → B) (hx : x = nI a := by rfl) (hy : y = nI b := by rfl) (ha : a < 2 ^ 31 := by omega) (hb : b < 2 ^ 31 := by omega) : (x < y → A) ∧ (¬ x < y → B) := by
  subst hx hy
  rw [nI_ltI ha hb]
  exact ⟨f, fun z => g (by omega)⟩
theorem pk_eq {x y : Int32} {A B : Prop} (a b : Nat) (f : a = b → A) (g : a ≠ b → B) (hx : x = nI a := by rfl) (hy : y = nI b := by rfl) (ha : a < 2 ^ 31 := by omega) (hb : b < 2 ^ 31 := by omega) : (x = y → A) ∧ (¬ x = y → B) := by
  subst hx hy
  rw [nI_eq ha hb]
  exact ⟨f, g⟩
theorem pk_in {x : Int32} (n N : Nat) (h : n < N) (hx : x = nI n := by rfl) (hN : N < 2 ^ 31 := by omega) : vp_in x N := by
  subst hx
  exact vp_in_nI h hN
theorem pk_cl {x : Int32} (n : Nat) (hx : x = nI n := by rfl) (h : n < 2 ^ 31 := by omega) : x.toNatClampNeg = n := by
  subst hx
  exact nI_clamp h
theorem pk_tn {n : Nat} (h : n < 2 ^ 32) : (nI n).toBitVec.toNat = n := Nat.mod_eq_of_lt h
theorem pk_and (x : Int32) {m : Int32} (k : Nat) (hm : m.toBitVec.toNat = 2 ^ k - 1) : x &&& m = nI (x.toBitVec.toNat % 2 ^ k) := by
  apply Int32.toBitVec_inj.mp
  apply BitVec.eq_of_toNat_eq
  rw [Int32.toBitVec_and, BitVec.toNat_and, hm, Nat.and_two_pow_sub_one_eq_mod]
  show _ = (BitVec.ofNat 32 _).toNat
  rw [BitVec.toNat_ofNat]
  exact (Nat.mod_eq_of_lt (Nat.lt_of_le_of_lt (Nat.mod_le _ _) x.toBitVec.isLt)).symm
theorem pk_andN {n : Nat} (h : n < 2 ^ 32) {m : Int32} (k : Nat) (hm : m.toBitVec.toNat = 2 ^ k - 1) : nI n &&& m = nI (n % 2 ^ k) := by
  rw [pk_and _ k hm, pk_tn h]
theorem pk_andE (x : Int32) {m : Int32} (k : Nat) (hm : m.toBitVec.toNat = 2 ^ k - 1) : ∃ j : Nat, j < 2 ^ k ∧ x &&& m = nI j := ⟨_, Nat.mod_lt _ (Nat.two_pow_pos k), pk_and x k hm⟩
theorem pk_shl (a s : Int32) (k : Nat) (hs : (s.toBitVec.smod 32).toNat = k) : (a <<< s).toBitVec.toNat = a.toBitVec.toNat * 2 ^ k % 2 ^ 32 := by
  show (a.toBitVec <<< (s.toBitVec.smod 32).toNat).toNat = _
  rw [hs, BitVec.toNat_shiftLeft, Nat.shiftLeft_eq]
theorem pk_shlN {n : Nat} (s : Int32) (k : Nat) (hs : (s.toBitVec.smod 32).toNat = k) (h : n * 2 ^ k < 2 ^ 32) : nI n <<< s = nI (n * 2 ^ k) := by
  apply Int32.toBitVec_inj.mp
  apply BitVec.eq_of_toNat_eq
  have hn : n < 2 ^ 32 := Nat.lt_of_le_of_lt (Nat.le_mul_of_pos_right n (Nat.two_pow_pos k)) h
  rw [pk_shl _ _ k hs, pk_tn hn, pk_tn h, Nat.mod_eq_of_lt h]
theorem pk_loop {σ : Type} (W : Nat → Nat → σ → Prop) (I : Nat → σ → Prop) (e i0 : Nat) (s : σ) (hi : i0 ≤ e) (h0 : I i0 s) (hx : ∀ n s, I e s → W (n + 1) e s)
    (hs : ∀ n i s, i < e → I i s → (∀ s', I (i + 1) s' → W n (i + 1) s') → W (n + 1) i s) : ∃ n, W n i0 s :=
  ⟨e + 1, loop_i W I e hx hs (e + 1) i0 s hi (by omega) h0⟩
theorem pk_loopD {σ : Type} (W : Nat → Nat → σ → Prop) (I : Nat → σ → Prop) (hx : ∀ n s, I 0 s → W (n + 1) 0 s)
    (hs : ∀ n i s, I (i + 1) s → (∀ s', I i s' → W n i s') → W (n + 1) (i + 1) s) : ∀ (e : Nat) (s : σ), I e s → W (e + 1) e s := by
  intro e
  induction e with
  | zero => exact fun s h => hx 0 s h
  | succ e ih => exact fun s h => hs (e + 1) e s h (fun s' h' => ih s' h')
theorem pk_least (P : Nat → Prop) (h : ∃ k, P k) : ∃ k, P k ∧ ∀ j, j < k → ¬ P j := by
  obtain ⟨k, hk⟩ := h
  induction k using Nat.strongRecOn with
  | ind k ih =>
    by_cases e : ∃ j, j < k ∧ P j
    · obtain ⟨j, hj, pj⟩ := e
      exact ih j hj pj
    · exact ⟨k, hk, fun j hj pj => e ⟨j, hj, pj⟩⟩
theorem ek_if {c d A B : Prop} (e : c ↔ d) (f : d → A) (g : ¬ d → B) : (c → A) ∧ (¬ c → B) :=
  ⟨fun z => f (e.mp z), fun z => g (fun y => z (e.mpr y))⟩
theorem ek_v {α : Sort _} {P : α → Prop} {a b : α} (e : a = b) (h : P b) : P a := e ▸ h
theorem sb_negT {w : Nat} (h : w < 2 ^ 31) : (-nI w).toInt = -(w : Int) := by
  rw [Int32.toInt_neg, nI_toInt h]
  exact Int.bmod_eq_of_le (by omega) (by omega)
theorem sb_nle {a b : Nat} (ha : a < 2 ^ 31) (hb : b < 2 ^ 31) : -nI a ≤ -nI b ↔ b ≤ a := by
  rw [Int32.le_iff_toInt_le, sb_negT ha, sb_negT hb]
  omega
theorem sb_nlt {a b : Nat} (ha : a < 2 ^ 31) (hb : b < 2 ^ 31) : -nI a < -nI b ↔ b < a := by
  rw [Int32.lt_iff_toInt_lt, sb_negT ha, sb_negT hb]
  omega
theorem sb_m1 {p : Nat} (h : 0 < p) : nI p + (-1) = nI (p - 1) := by
  obtain ⟨q, rfl⟩ : ∃ q, p = q + 1 := ⟨p - 1, by omega⟩
  exact pk_m1 q
def bt (x : Int32) (i : Nat) : Bool := x.toBitVec.getLsbD i
theorem b_ext {x y : Int32} (h : ∀ i, i < 32 → bt x i = bt y i) : x = y := Int32.toBitVec_inj.mp (BitVec.eq_of_getLsbD_eq (fun i hi => h i hi))
theorem b_or (x y : Int32) (i : Nat) : bt (x ||| y) i = (bt x i || bt y i) := by unfold bt; rw [Int32.toBitVec_or, BitVec.getLsbD_or]
theorem b_and (x y : Int32) (i : Nat) : bt (x &&& y) i = (bt x i && bt y i) := by unfold bt; rw [Int32.toBitVec_and, BitVec.getLsbD_and]
theorem b_xor (x y : Int32) (i : Nat) : bt (x ^^^ y) i = (bt x i ^^ bt y i) := by unfold bt; rw [Int32.toBitVec_xor, BitVec.getLsbD_xor]
theorem b_big {x : Int32} {i : Nat} (h : 32 ≤ i) : bt x i = false := BitVec.getLsbD_of_ge _ _ h
theorem b_m1 : ∀ i, i < 32 → bt (-1) i = true := by decide +kernel
theorem b_0 (i : Nat) : bt 0 i = false := BitVec.getLsbD_zero
theorem s_l : ∀ n, n < 32 → ((nI n &&& 31).toBitVec.smod 32).toNat = n := by decide +kernel
theorem b_shl (n : Nat) (hn : n < 32) (x : Int32) {i : Nat} (hi : i < 32) : bt (x <<< (nI n &&& 31)) i = (decide (n ≤ i) && bt x (i - n)) := by
  unfold bt
  rw [Int32.toBitVec_shiftLeft]
  show (x.toBitVec <<< ((nI n &&& 31).toBitVec.smod 32).toNat).getLsbD i = _
  rw [s_l n hn, BitVec.getLsbD_shiftLeft]
  rcases Nat.lt_or_ge i n with h | h
  · simp [h, Nat.not_le.mpr h]
  · simp [hi, h, Nat.not_lt.mpr h]
theorem nx_and (a b : Nat) : nI a &&& nI b = nI (a &&& b) := by
  apply Int32.toBitVec_inj.1
  show BitVec.ofNat 32 a &&& BitVec.ofNat 32 b = BitVec.ofNat 32 (a &&& b)
  apply BitVec.eq_of_getLsbD_eq
  intro i hi
  simp [hi]
theorem nx_xor (a b : Nat) : nI a ^^^ nI b = nI (a ^^^ b) := by
  apply Int32.toBitVec_inj.1
  show BitVec.ofNat 32 a ^^^ BitVec.ofNat 32 b = BitVec.ofNat 32 (a ^^^ b)
  apply BitVec.eq_of_getLsbD_eq
  intro i hi
  simp [hi]
theorem nf_sh : ∀ l, l < 32 → ((1 : Int32) <<< (nI l &&& 31)).toBitVec = BitVec.twoPow 32 l := by decide +kernel
theorem nf_tp : ∀ l, l < 32 → BitVec.twoPow 32 l ≠ 0#32 := by decide +kernel
theorem wb_of32 (x : Int32) : ∃ n, n < 2 ^ 32 ∧ x = nI n := ⟨x.toBitVec.toNat, x.toBitVec.isLt, Int32.toBitVec_inj.mp (by show _ = BitVec.ofNat 32 _; simp)⟩
end
section
/-! masks: an Int32 by its bits, a natural below 256 -/
theorem ce_or (a b : Nat) : nI a ||| nI b = nI (a ||| b) := by
  apply Int32.toBitVec_inj.1
  show BitVec.ofNat 32 a ||| BitVec.ofNat 32 b = BitVec.ofNat 32 (a ||| b)
  apply BitVec.eq_of_getLsbD_eq
  intro i hi
  simp [hi]
theorem ce_bn (n : Nat) {i : Nat} (hi : i < 32) : bt (nI n) i = n.testBit i := by
  unfold bt
  show (BitVec.ofNat 32 n).getLsbD i = _
  rw [BitVec.getLsbD_ofNat]
  simp [hi]
theorem ce_b1 {s i : Nat} (hs : s < 32) : bt ((1 : Int32) <<< (nI s &&& 31)) i = decide (s = i) := by
  unfold bt
  rw [nf_sh s hs, BitVec.getLsbD_twoPow]
  simp [hs]
theorem ce_has (x : Int32) {s : Nat} (hs : s < 32) : x &&& ((1 : Int32) <<< (nI s &&& 31)) = 0 ↔ bt x s = false := by
  constructor
  · intro h
    have e : bt (x &&& ((1 : Int32) <<< (nI s &&& 31))) s = false := by rw [h]; exact b_0 s
    rw [b_and, ce_b1 hs] at e
    simpa using e
  · intro h
    apply b_ext
    intro i hi
    rw [b_and, ce_b1 hs, b_0]
    by_cases e : s = i
    · subst e; rw [h]; rfl
    · simp [e]
theorem ce_hasN (m : Nat) {s : Nat} (hs : s < 32) : nI m &&& ((1 : Int32) <<< (nI s &&& 31)) = 0 ↔ m.testBit s = false := by
  rw [ce_has _ hs, ce_bn m hs]
theorem ce_in (x y : Int32) : x &&& (y ^^^ (-1)) = 0 ↔ ∀ i, i < 32 → bt x i = true → bt y i = true := by
  constructor
  · intro h i hi hx
    have e : bt (x &&& (y ^^^ (-1))) i = false := by rw [h]; exact b_0 i
    rw [b_and, b_xor, b_m1 i hi, hx] at e
    revert e
    cases bt y i <;> simp
  · intro h
    apply b_ext
    intro i hi
    rw [b_and, b_xor, b_m1 i hi, b_0]
    have q := h i hi
    revert q
    cases bt x i <;> cases bt y i <;> simp
/-- a is a subset of b -/
def ce_sub (a b : Nat) : Prop := ∀ i, a.testBit i = true → b.testBit i = true
theorem ce_hi {m i : Nat} (h : m < 256) (hi : 8 ≤ i) : m.testBit i = false :=
  Nat.testBit_lt_two_pow (Nat.lt_of_lt_of_le h (Nat.pow_le_pow_right (n := 2) (by decide) hi : 2 ^ 8 ≤ 2 ^ i))
theorem ce_lo {m i : Nat} (h : m < 256) (hi : m.testBit i = true) : i < 8 := by
  rcases Nat.lt_or_ge i 8 with z | z
  · exact z
  · rw [ce_hi h z] at hi; cases hi
theorem ce_inN {a b : Nat} (ha : a < 256) : nI a &&& (nI b ^^^ (-1)) = 0 ↔ ce_sub a b := by
  rw [ce_in]
  constructor
  · intro h i hi
    have z := ce_lo ha hi
    have q := h i (by omega)
    rw [ce_bn a (by omega), ce_bn b (by omega)] at q
    exact q hi
  · intro h i hi hx
    rw [ce_bn a hi] at hx
    rw [ce_bn b hi]
    exact h i hx
theorem ce_m255 (i : Nat) (hi : i < 32) : bt 255 i = decide (i < 8) := (by decide +kernel : ∀ i, i < 32 → bt 255 i = decide (i < 8)) i hi
theorem ce_small {x : Int32} {F : Nat} (hF : F < 256) (h : x &&& (nI F ^^^ (-1)) = 0) : ∃ m, m < 256 ∧ x = nI m ∧ ce_sub m F := by
  have h' := h
  rw [ce_in] at h
  have e : x = x &&& 255 := by
    apply b_ext
    intro i hi
    rw [b_and, ce_m255 i hi]
    by_cases z : i < 8
    · simp [z]
    · have q := h i hi
      rw [ce_bn F hi, ce_hi hF (by omega)] at q
      revert q
      cases bt x i <;> simp
  obtain ⟨j, hj, ej⟩ := pk_andE x (m := 255) 8 (by decide)
  rw [← e] at ej
  subst ej
  exact ⟨j, hj, rfl, (ce_inN hj).mp h'⟩
theorem ce_xt (m s i : Nat) : (m ^^^ 2 ^ s).testBit i = (m.testBit i ^^ decide (s = i)) := by
  rw [Nat.testBit_xor, Nat.testBit_two_pow]
theorem ce_pw {s : Nat} (h : s < 8) : 2 ^ s < 256 := Nat.pow_lt_pow_right (a := 2) (m := s) (n := 8) (by decide) h
theorem ce_xl {m s : Nat} (h : m < 256) (hs : s < 8) : m ^^^ 2 ^ s < 256 := Nat.xor_lt_two_pow (n := 8) h (ce_pw hs)
theorem ce_del {m s : Nat} (hs : s < 32) (h : m.testBit s = true) : nI m &&& (((1 : Int32) <<< (nI s &&& 31)) ^^^ (-1)) = nI (m ^^^ 2 ^ s) := by
  apply b_ext
  intro i hi
  rw [b_and, b_xor, ce_b1 hs, b_m1 i hi, ce_bn _ hi, ce_bn _ hi, ce_xt]
  by_cases e : s = i
  · subst e; simp [h]
  · simp [e]
theorem ce_add {m s : Nat} (hs : s < 32) (h : m.testBit s = false) : nI m ||| ((1 : Int32) <<< (nI s &&& 31)) = nI (m ^^^ 2 ^ s) := by
  apply b_ext
  intro i hi
  rw [b_or, ce_b1 hs, ce_bn _ hi, ce_bn _ hi, ce_xt]
  by_cases e : s = i
  · subst e; simp [h]
  · simp [e]
theorem ce_del0 {m s : Nat} (hs : s < 32) (h : m.testBit s = false) : nI m &&& (((1 : Int32) <<< (nI s &&& 31)) ^^^ (-1)) = nI m := by
  apply b_ext
  intro i hi
  rw [b_and, b_xor, ce_b1 hs, b_m1 i hi, ce_bn _ hi]
  by_cases e : s = i
  · subst e; simp [h]
  · simp [e]
theorem ce_diff {a b : Nat} (hb : b < 256) : nI b &&& (nI a ^^^ (-1)) = nI (b &&& (255 ^^^ a)) := by
  apply b_ext
  intro i hi
  rw [b_and, b_xor, b_m1 i hi, ce_bn _ hi, ce_bn _ hi, ce_bn _ hi, Nat.testBit_and, Nat.testBit_xor]
  by_cases z : i < 8
  · have q : (255 : Nat).testBit i = true := (by decide : ∀ i, i < 8 → (255 : Nat).testBit i = true) i z
    rw [q]
    cases a.testBit i <;> simp
  · rw [ce_hi hb (by omega)]; simp
theorem ce_sub_refl (a : Nat) : ce_sub a a := fun _ h => h
theorem ce_sub_trans {a b c : Nat} (h : ce_sub a b) (k : ce_sub b c) : ce_sub a c := fun i z => k i (h i z)
theorem ce_sub_anti {a b : Nat} (h : ce_sub a b) (k : ce_sub b a) : a = b := by
  apply Nat.eq_of_testBit_eq
  intro i
  have h1 := h i
  have h2 := k i
  revert h1 h2
  cases a.testBit i <;> cases b.testBit i <;> simp
theorem ce_sub_lt {a b : Nat} (hb : b < 256) (h : ce_sub a b) : a < 256 := by
  have e : a = a &&& b := by
    apply Nat.eq_of_testBit_eq
    intro i
    rw [Nat.testBit_and]
    have q := h i
    revert q
    cases a.testBit i <;> cases b.testBit i <;> simp
  rw [e]
  exact Nat.lt_of_le_of_lt Nat.and_le_right hb
theorem ce_sub_le {a b : Nat} (h : ce_sub a b) : a ≤ b := by
  have e : a = a &&& b := by
    apply Nat.eq_of_testBit_eq
    intro i
    rw [Nat.testBit_and]
    have q := h i
    revert q
    cases a.testBit i <;> cases b.testBit i <;> simp
  rw [e]
  exact Nat.and_le_right
theorem ce_sub_del {m s : Nat} (h : m.testBit s = true) : ce_sub (m ^^^ 2 ^ s) m := by
  intro i hi
  rw [ce_xt] at hi
  by_cases e : s = i
  · subst e; exact h
  · simpa [e] using hi
theorem ce_sub_add {m s : Nat} (h : m.testBit s = false) : ce_sub m (m ^^^ 2 ^ s) := by
  intro i hi
  rw [ce_xt]
  by_cases e : s = i
  · subst e; rw [h] at hi; cases hi
  · simpa [e] using hi
/-- a proper subset lies within one slot less -/
theorem ce_sub_one {a b : Nat} (h : ce_sub a b) (ne : a ≠ b) : ∃ s, b.testBit s = true ∧ a.testBit s = false ∧ ce_sub a (b ^^^ 2 ^ s) := by
  obtain ⟨s, hs⟩ := Classical.byContradiction (p := ∃ s, b.testBit s = true ∧ a.testBit s = false) (fun z => ne (ce_sub_anti h (fun i hi => by
    cases q : a.testBit i
    · exact absurd ⟨i, hi, q⟩ z
    · rfl)))
  refine ⟨s, hs.1, hs.2, fun i hi => ?_⟩
  rw [ce_xt]
  by_cases e : s = i
  · subst e; rw [hs.2] at hi; cases hi
  · simpa [e] using h i hi
/-- a proper superset holds one slot more -/
theorem ce_sup_one {a b : Nat} (h : ce_sub a b) (ne : a ≠ b) : ∃ s, b.testBit s = true ∧ a.testBit s = false ∧ ce_sub (a ^^^ 2 ^ s) b := by
  obtain ⟨s, h1, h2, _⟩ := ce_sub_one h ne
  refine ⟨s, h1, h2, fun i hi => ?_⟩
  rw [ce_xt] at hi
  by_cases e : s = i
  · subst e; exact h1
  · exact h i (by simpa [e] using hi)
end
section
/-! the pure picture: truth of a clause, satisfiability, the two lists, the verdict -/
/-- literal x is true under assignment a -/
def ce_lt (x a : Int32) : Prop := (¬ x ≤ 0 ∧ ¬ (a &&& ((1 : Int32) <<< ((x - 1) &&& 31))) = 0) ∨ (¬ 0 ≤ x ∧ (a &&& ((1 : Int32) <<< (((-x) - 1) &&& 31))) = 0)
/-- the clause in slot s is true under a -/
def ce_cl (L : Nat → Int32) (s : Nat) (a : Int32) : Prop := ∃ p, p < 3 ∧ ce_lt (L (s * 3 + p)) a
/-- all clauses of mask M are true under a -/
def ce_all (L : Nat → Int32) (M : Nat) (a : Int32) : Prop := ∀ s, M.testBit s = true → ce_cl L s a
/-- mask m is satisfiable beside the hard mask H -/
def ce_S (L : Nat → Int32) (V H m : Nat) : Prop := ∃ a, a < 2 ^ V ∧ ce_all L (m ||| H) (nI a)
theorem ce_all_sub {L : Nat → Int32} {M N : Nat} {a : Int32} (h : ce_sub M N) (k : ce_all L N a) : ce_all L M a := fun s z => k s (h s z)
theorem ce_or_sub {a b H : Nat} (h : ce_sub a b) : ce_sub (a ||| H) (b ||| H) := by
  intro i hi
  rw [Nat.testBit_or, Bool.or_eq_true] at hi ⊢
  exact hi.imp (h i) id
theorem ce_S_sub {L : Nat → Int32} {V H : Nat} (a b : Nat) (h : ce_sub a b) (k : ce_S L V H b) : ce_S L V H a := by
  obtain ⟨x, hx, hk⟩ := k
  exact ⟨x, hx, ce_all_sub (ce_or_sub h) hk⟩
/-- r is the least a below n with P a, or -19 -/
def ce_least (P : Nat → Prop) (n : Nat) (r : Int32) : Prop := (∃ a, a < n ∧ P a ∧ (∀ b, b < a → ¬ P b) ∧ r = nI a) ∨ ((∀ a, a < n → ¬ P a) ∧ r = -19)
theorem ce_least_u {P : Nat → Prop} {n : Nat} {r r' : Int32} (h : ce_least P n r) (k : ce_least P n r') : r' = r := by
  rcases h with ⟨a, ha, pa, la, rfl⟩ | ⟨h, rfl⟩
  · rcases k with ⟨b, hb, pb, lb, rfl⟩ | ⟨k, rfl⟩
    · rcases Nat.lt_trichotomy a b with z | z | z
      · exact absurd pa (lb a z)
      · rw [z]
      · exact absurd pb (la b z)
    · exact absurd pa (k a ha)
  · rcases k with ⟨b, hb, pb, lb, rfl⟩ | ⟨k, rfl⟩
    · exact absurd pb (h b hb)
    · rfl
theorem ce_n19 {a : Nat} (h : a < 2 ^ 31) : ¬ nI a = -19 := by
  intro e
  have q := nI_pos h
  rw [e] at q
  exact q (by decide)
theorem ce_least_s {P : Nat → Prop} {n : Nat} {r : Int32} (hn : n < 2 ^ 31) (h : ce_least P n r) : r = -19 ↔ ¬ ∃ a, a < n ∧ P a := by
  rcases h with ⟨a, ha, pa, la, rfl⟩ | ⟨h, rfl⟩
  · exact ⟨fun e => absurd e (ce_n19 (by omega)), fun z => absurd ⟨a, ha, pa⟩ z⟩
  · exact ⟨fun _ ⟨a, ha, pa⟩ => h a ha pa, fun _ => rfl⟩
noncomputable def ce_b (P : Prop) : Bool := @decide P (Classical.propDecidable P)
theorem ce_bt {P : Prop} (h : P) : ce_b P = true := @decide_eq_true P (Classical.propDecidable P) h
theorem ce_bf {P : Prop} (h : ¬ P) : ce_b P = false := @decide_eq_false P (Classical.propDecidable P) h
theorem ce_bi {P : Prop} : ce_b P = true ↔ P := ⟨@of_decide_eq_true P (Classical.propDecidable P), ce_bt⟩
/-- the masks f 0, f 1 .. f (n - 1) with P, in that order -/
noncomputable def ce_ls (P : Nat → Prop) (f : Nat → Nat) : Nat → List Nat
  | 0 => []
  | n + 1 => ce_ls P f n ++ (if ce_b (P (f n)) = true then [f n] else [])
theorem ce_ls_t {P : Nat → Prop} {f : Nat → Nat} {n : Nat} (h : P (f n)) : ce_ls P f (n + 1) = ce_ls P f n ++ [f n] := by
  show ce_ls P f n ++ (if ce_b (P (f n)) = true then [f n] else []) = _
  rw [if_pos (ce_bt h)]
theorem ce_ls_f {P : Nat → Prop} {f : Nat → Nat} {n : Nat} (h : ¬ P (f n)) : ce_ls P f (n + 1) = ce_ls P f n := by
  show ce_ls P f n ++ (if ce_b (P (f n)) = true then [f n] else []) = _
  rw [ce_bf h, if_neg (by decide), List.append_nil]
theorem ce_ls_len (P : Nat → Prop) (f : Nat → Nat) (n : Nat) : (ce_ls P f n).length ≤ n := by
  induction n with
  | zero => exact Nat.le_refl 0
  | succ n ih =>
    by_cases h : P (f n)
    · rw [ce_ls_t h, List.length_append]
      show _ + 1 ≤ _
      omega
    · rw [ce_ls_f h]
      omega
theorem ce_ls_mem {P : Nat → Prop} {f : Nat → Nat} {n x : Nat} : x ∈ ce_ls P f n ↔ ∃ k, k < n ∧ x = f k ∧ P x := by
  induction n with
  | zero => exact ⟨fun h => (nomatch h), fun ⟨k, hk, _⟩ => absurd hk (Nat.not_lt_zero k)⟩
  | succ n ih =>
    by_cases h : P (f n)
    · rw [ce_ls_t h, List.mem_append, ih, List.mem_singleton]
      constructor
      · rintro (⟨k, hk, e, p⟩ | e)
        · exact ⟨k, by omega, e, p⟩
        · exact ⟨n, by omega, e, e ▸ h⟩
      · rintro ⟨k, hk, e, p⟩
        by_cases z : k = n
        · subst z; exact Or.inr e
        · exact Or.inl ⟨k, by omega, e, p⟩
    · rw [ce_ls_f h, ih]
      constructor
      · rintro ⟨k, hk, e, p⟩
        exact ⟨k, by omega, e, p⟩
      · rintro ⟨k, hk, e, p⟩
        by_cases z : k = n
        · subst z; exact absurd (e ▸ p) h
        · exact ⟨k, by omega, e, p⟩
theorem ce_ls_congr {P Q : Nat → Prop} {f : Nat → Nat} : ∀ {n : Nat}, (∀ k, k < n → (P (f k) ↔ Q (f k))) → ce_ls P f n = ce_ls Q f n := by
  intro n
  induction n with
  | zero => exact fun _ => rfl
  | succ n ih =>
    intro h
    have e := ih (fun k hk => h k (by omega))
    by_cases p : P (f n)
    · rw [ce_ls_t p, ce_ls_t ((h n (by omega)).mp p), e]
    · rw [ce_ls_f p, ce_ls_f (fun q => p ((h n (by omega)).mpr q)), e]
/-- array a holds the list l -/
def ce_ar (l : List Nat) (a : Nat → Int32) : Prop := ∀ k m, l[k]? = some m → a k = nI m
theorem ce_ar0 (a : Nat → Int32) : ce_ar [] a := fun k m h => by simp at h
theorem ce_ar_put {l : List Nat} {a : Nat → Int32} {m : Nat} (h : ce_ar l a) : ce_ar (l ++ [m]) (upd a l.length (nI m)) := by
  intro k x hx
  rcases Nat.lt_trichotomy k l.length with z | z | z
  · rw [List.getElem?_append_left z] at hx
    rw [pk_un (by omega)]
    exact h k x hx
  · subst z
    rw [List.getElem?_append_right (Nat.le_refl _), Nat.sub_self] at hx
    have e : m = x := by simpa using hx
    rw [pk_us, e]
  · rw [List.getElem?_eq_none (by rw [List.length_append]; show l.length + 1 ≤ k; omega)] at hx
    cases hx
theorem ce_ar_get {l : List Nat} {a : Nat → Int32} (h : ce_ar l a) {k : Nat} (hk : k < l.length) : ∃ m, m ∈ l ∧ l[k]? = some m ∧ a k = nI m :=
  ⟨l[k], List.getElem_mem hk, List.getElem?_eq_getElem hk, h k _ (List.getElem?_eq_getElem hk)⟩
/-- a core, a maximal of F by one slot less, one slot more -/
def ce_core (S : Nat → Prop) (F m : Nat) : Prop := ce_sub m F ∧ ¬ S m ∧ ∀ s, m.testBit s = true → S (m ^^^ 2 ^ s)
def ce_maxi (S : Nat → Prop) (F m : Nat) : Prop := ce_sub m F ∧ S m ∧ ∀ s, F.testBit s = true → m.testBit s = false → ¬ S (m ^^^ 2 ^ s)
/-- the same by all subsets -/
theorem ce_core_all {S : Nat → Prop} {F m : Nat} (hS : ∀ a b, ce_sub a b → S b → S a) : ce_core S F m ↔ ce_sub m F ∧ ¬ S m ∧ ∀ x, ce_sub x m → x ≠ m → S x := by
  constructor
  · rintro ⟨h1, h2, h3⟩
    refine ⟨h1, h2, fun x hx ne => ?_⟩
    obtain ⟨s, a, b, c⟩ := ce_sub_one hx ne
    exact hS _ _ c (h3 s a)
  · rintro ⟨h1, h2, h3⟩
    refine ⟨h1, h2, fun s hs => h3 _ (ce_sub_del hs) (fun e => ?_)⟩
    have q := ce_xt m s s
    rw [e, hs] at q
    simp at q
theorem ce_maxi_all {S : Nat → Prop} {F m : Nat} (hS : ∀ a b, ce_sub a b → S b → S a) : ce_maxi S F m ↔ ce_sub m F ∧ S m ∧ ∀ x, ce_sub m x → ce_sub x F → x ≠ m → ¬ S x := by
  constructor
  · rintro ⟨h1, h2, h3⟩
    refine ⟨h1, h2, fun x hx hF ne sx => ?_⟩
    obtain ⟨s, a, b, c⟩ := ce_sup_one hx (Ne.symm ne)
    exact h3 s (hF s a) b (hS _ _ c sx)
  · rintro ⟨h1, h2, h3⟩
    refine ⟨h1, h2, fun s hF hs => h3 _ (ce_sub_add hs) (fun i hi => ?_) (fun e => ?_)⟩
    · rw [ce_xt] at hi
      by_cases z : s = i
      · subst z; exact hF
      · exact h1 i (by simpa [z] using hi)
    · have q := ce_xt m s s
      rw [e, hs] at q
      simp at q
/-- one of the first e masks of l holds m; lies in m -/
def ce_up1 (l : List Nat) (e m : Nat) : Prop := ∃ k x, k < e ∧ l[k]? = some x ∧ ce_sub m x
def ce_dn1 (l : List Nat) (e m : Nat) : Prop := ∃ k x, k < e ∧ l[k]? = some x ∧ ce_sub x m
/-- what the emitted masks tell of m: the first g of ml, the first e of cl -/
def ce_jd (cl ml : List Nat) (e g m : Nat) (r : Int32) : Prop :=
  (r = 1 ∧ ce_up1 ml g m) ∨ (r = 2 ∧ ¬ ce_up1 ml g m ∧ ce_dn1 cl e m) ∨ (r = 0 ∧ ¬ ce_up1 ml g m ∧ ¬ ce_dn1 cl e m)
theorem ce_jd_u {cl ml : List Nat} {e g m : Nat} {r r' : Int32} (h : ce_jd cl ml e g m r) (k : ce_jd cl ml e g m r') : r' = r := by
  rcases h with ⟨rfl, h⟩ | ⟨rfl, h, h2⟩ | ⟨rfl, h, h2⟩ <;> rcases k with ⟨rfl, k⟩ | ⟨rfl, k, k2⟩ | ⟨rfl, k, k2⟩ <;> first | rfl | exact absurd h k | exact absurd k h | exact absurd h2 k2 | exact absurd k2 h2
theorem ce_jd_0 {cl ml : List Nat} {e g m : Nat} {r : Int32} (h : ce_jd cl ml e g m r) : r = 0 ↔ ¬ ce_up1 ml g m ∧ ¬ ce_dn1 cl e m := by
  rcases h with ⟨rfl, h⟩ | ⟨rfl, h, h2⟩ | ⟨rfl, h, h2⟩
  · exact ⟨fun z => absurd z (by decide), fun z => absurd h z.1⟩
  · exact ⟨fun z => absurd z (by decide), fun z => absurd h2 z.2⟩
  · exact ⟨fun _ => ⟨h, h2⟩, fun _ => rfl⟩
/-- table t says of each m below n whether P m -/
def ce_tab (P : Nat → Prop) (n : Nat) (t : Nat → Int32) : Prop := ∀ m, m < n → (t m = 0 ↔ ¬ P m)
theorem ce_tab0 (P : Nat → Prop) (t : Nat → Int32) : ce_tab P 0 t := fun m h => absurd h (Nat.not_lt_zero m)
theorem ce_tab_put {P : Nat → Prop} {n : Nat} {t : Nat → Int32} {x : Int32} (h : ce_tab P n t) (hx : x = 0 ↔ ¬ P n) : ce_tab P (n + 1) (upd t n x) := by
  intro m hm
  by_cases e : m = n
  · subst e; rw [pk_us]; exact hx
  · rw [pk_un e]; exact h m (by omega)
theorem ce_nf {x : Bool} (h : ¬ x = false) : x = true := by cases x <;> first | rfl | exact absurd rfl h
theorem ce_nt {x : Bool} (h : ¬ x = true) : x = false := by cases x <;> first | rfl | exact absurd rfl h
theorem ce_sh : ∀ V, V ≤ 5 → (1 : Int32) <<< (nI V &&& 31) = nI (2 ^ V) := by decide +kernel
theorem ce_v32 {V : Nat} (h : V ≤ 5) : 2 ^ V ≤ 32 := Nat.pow_le_pow_right (n := 2) (by decide) h
theorem ce_nb0 : vp_nar .boolean 0 = 0 := by rfl
theorem ce_nb1 : vp_nar .boolean 1 = 1 := by rfl
/-- r is the greatest m below 256 with P m, or -19 -/
def ce_great (P : Nat → Prop) (r : Int32) : Prop := (∃ m, m < 256 ∧ P m ∧ (∀ b, b < 256 → m < b → ¬ P b) ∧ r = nI m) ∨ ((∀ m, m < 256 → ¬ P m) ∧ r = -19)
theorem ce_great_u {P : Nat → Prop} {r r' : Int32} (h : ce_great P r) (k : ce_great P r') : r' = r := by
  rcases h with ⟨a, ha, pa, la, rfl⟩ | ⟨h, rfl⟩
  · rcases k with ⟨b, hb, pb, lb, rfl⟩ | ⟨k, rfl⟩
    · rcases Nat.lt_trichotomy a b with z | z | z
      · exact absurd pb (la b hb z)
      · rw [z]
      · exact absurd pa (lb a ha z)
    · exact absurd pa (k a ha)
  · rcases k with ⟨b, hb, pb, lb, rfl⟩ | ⟨k, rfl⟩
    · exact absurd pb (h b hb)
    · rfl
end
section
/-! each unsatisfiable subset holds a core, each satisfiable one lies in a maximal -/
theorem ce_del_lt {m s : Nat} (h : m.testBit s = true) : m ^^^ 2 ^ s < m := by
  have a := ce_sub_le (ce_sub_del h)
  have b : m ^^^ 2 ^ s ≠ m := by
    intro e
    have q := ce_xt m s s
    rw [e, h] at q
    simp at q
  omega
theorem ce_add_lt {m s : Nat} (h : m.testBit s = false) : m < m ^^^ 2 ^ s := by
  have a := ce_sub_le (ce_sub_add h)
  have b : m ^^^ 2 ^ s ≠ m := by
    intro e
    have q := ce_xt m s s
    rw [e, h] at q
    simp at q
  omega
theorem ce_sub_ins {m s F : Nat} (h : ce_sub m F) (hs : F.testBit s = true) : ce_sub (m ^^^ 2 ^ s) F := by
  intro i hi
  rw [ce_xt] at hi
  by_cases z : s = i
  · subst z; exact hs
  · exact h i (by simpa [z] using hi)
theorem ce_ex_core {S : Nat → Prop} {F : Nat} (m : Nat) : ce_sub m F → ¬ S m → ∃ x, ce_core S F x ∧ ce_sub x m := by
  induction m using Nat.strongRecOn with
  | ind m ih =>
    intro hF hS
    by_cases h : ∃ s, m.testBit s = true ∧ ¬ S (m ^^^ 2 ^ s)
    · obtain ⟨s, hs, n⟩ := h
      have d := ce_sub_del hs
      obtain ⟨x, hx, k⟩ := ih (m ^^^ 2 ^ s) (ce_del_lt hs) (ce_sub_trans d hF) n
      exact ⟨x, hx, ce_sub_trans k d⟩
    · exact ⟨m, ⟨hF, hS, fun s hs => Classical.byContradiction fun n => h ⟨s, hs, n⟩⟩, ce_sub_refl m⟩
theorem ce_ex_max {S : Nat → Prop} {F : Nat} (hF : F < 256) : ∀ d m, 256 - m ≤ d → ce_sub m F → S m → ∃ x, ce_maxi S F x ∧ ce_sub m x := by
  intro d
  induction d with
  | zero =>
    intro m hd hm _
    have q := ce_sub_lt hF hm
    omega
  | succ d ih =>
    intro m hd hm hs
    by_cases h : ∃ s, F.testBit s = true ∧ m.testBit s = false ∧ S (m ^^^ 2 ^ s)
    · obtain ⟨s, a, b, c⟩ := h
      have l := ce_add_lt b
      have q := ce_sub_lt hF hm
      obtain ⟨x, hx, k⟩ := ih (m ^^^ 2 ^ s) (by omega) (ce_sub_ins hm a) c
      exact ⟨x, hx, ce_sub_trans (ce_sub_add b) k⟩
    · exact ⟨m, ⟨hm, hs, fun s a b c => h ⟨s, a, b, c⟩⟩, ce_sub_refl m⟩
end
section
/-! X: contains, isClauseTrue, areClausesTrue, leastAssignment, isSubset -/
theorem cx_has {post : Int32 → Prop} {m s : Nat} (hs : s < 32) (ht : m.testBit s = true → post 1) (hf : m.testBit s = false → post 0) : wpX_contains post (nI m) (nI s) :=
  br_c (fun z => hf ((ce_hasN m hs).mp z)) (fun z => ht (ce_nf (fun q => z ((ce_hasN m hs).mpr q))))
theorem cx_ct7 {V C F H : Nat} {cc mc ce me rd : Int32} {L xc xm xs : Nat → Int32} {post : Int32 → Prop} {s : Nat} {a : Int32} (hs : s < 8) (ht : ce_cl L s a → post 1) (hf : ¬ ce_cl L s a → post 0) :
    ∀ d p : Nat, p + d = 3 → (∀ q, q < p → ¬ ce_lt (L (s * 3 + q)) a) → wX_isClauseTrue_7 post a (nI (s * 3)) (nI V) (nI C) (nI F) (nI H) cc mc ce me rd L xc xm xs (d + 1) (nI p) := by
  intro d
  induction d with
  | zero =>
    intro p hp hq
    refine br_t (nI_le (a := 3) (b := p) (by omega) (by omega)) (hf ?_)
    rintro ⟨q, hq3, hl⟩
    exact hq q (by omega) hl
  | succ d ih =>
    intro p hp hq
    have hn : ¬ (3 : Int32) ≤ nI p := nI_ge (b := 3) (by omega) (by decide)
    have e : nI (s * 3) + nI p = nI (s * 3 + p) := nI_add _ _
    have hi : vp_in (nI (s * 3) + nI p) 24 := by rw [e]; exact vp_in_nI (by omega) (by decide)
    have hc : (nI (s * 3) + nI p).toNatClampNeg = s * 3 + p := by rw [e]; exact nI_clamp (by omega)
    have next : ¬ ce_lt (L (s * 3 + p)) a → wX_isClauseTrue_7 post a (nI (s * 3)) (nI V) (nI C) (nI F) (nI H) cc mc ce me rd L xc xm xs (d + 1) (nI p + 1) := by
      intro z
      rw [nI_1 p]
      exact ih (p + 1) (by omega) (fun q h => by
        by_cases e : q = p
        · subst e; exact z
        · exact hq q (by omega))
    have j42 : (¬ (¬ L (s * 3 + p) ≤ 0 ∧ ¬ (a &&& ((1 : Int32) <<< ((L (s * 3 + p) - 1) &&& 31))) = 0)) → wX_isClauseTrue_42 post (wX_isClauseTrue_7 post a (nI (s * 3)) (nI V) (nI C) (nI F) (nI H) cc mc ce me rd L xc xm xs (d + 1)) a (nI (s * 3)) (nI p) (L (s * 3 + p)) (nI V) (nI C) (nI F) (nI H) cc mc ce me rd L xc xm xs := by
      intro z
      refine br_c (fun h0 => nm_e (next ?_)) (fun h0 => br_c (fun h1 => ht ⟨p, by omega, Or.inr ⟨h0, h1⟩⟩) (fun h1 => nm_e (next ?_)))
      · rintro (w | w)
        · exact z w
        · exact w.1 h0
      · rintro (w | w)
        · exact z w
        · exact h1 w.2
    refine br_f hn ⟨hi, nm_r (e' := L (s * 3 + p)) (by rw [hc]) ?_⟩
    exact br_c (fun h0 => j42 (fun w => w.1 h0)) (fun h0 => br_c (fun h1 => j42 (fun w => w.2 h1)) (fun h1 => ht ⟨p, by omega, Or.inl ⟨h0, h1⟩⟩))
theorem cx_ct {V C F H : Nat} {cc mc ce me rd : Int32} {L xc xm xs : Nat → Int32} {post : Int32 → Prop} {s : Nat} {a : Int32} (hs : s < 8) (ht : ce_cl L s a → post 1) (hf : ¬ ce_cl L s a → post 0) : wpX_isClauseTrue post (nI V, nI C, nI F, nI H, cc, mc, ce, me, rd, L, xc, xm, xs) (nI s) a :=
  nm_r (e' := nI (s * 3)) (pk_mul s 3) ⟨4, cx_ct7 hs ht hf 3 0 rfl (fun q h => absurd h (Nat.not_lt_zero q))⟩
theorem cx_at2 {V C F H : Nat} {cc mc ce me rd : Int32} {L xc xm xs : Nat → Int32} {post : Int32 → Prop} {M : Nat} {a : Int32} (hC : C ≤ 8) (hM : ∀ s, M.testBit s = true → s < C) (ht : ce_all L M a → post 1) (hf : ¬ ce_all L M a → post 0) :
    ∀ d s : Nat, s + d = C → (∀ q, q < s → M.testBit q = true → ce_cl L q a) → wX_areClausesTrue_2 post (nI M) a (nI V) (nI C) (nI F) (nI H) cc mc ce me rd L xc xm xs (d + 1) (nI s) := by
  intro d
  induction d with
  | zero =>
    intro s hs hq
    exact br_t (nI_le (by omega) (by omega)) (ht (fun q hb => hq q (by have := hM q hb; omega) hb))
  | succ d ih =>
    intro s hs hq
    have next : (M.testBit s = true → ce_cl L s a) → wX_areClausesTrue_2 post (nI M) a (nI V) (nI C) (nI F) (nI H) cc mc ce me rd L xc xm xs (d + 1) (nI s + 1) := by
      intro z
      rw [nI_1 s]
      exact ih (s + 1) (by omega) (fun q h hb => by
        by_cases e : q = s
        · subst e; exact z hb
        · exact hq q (by omega) hb)
    refine br_f (nI_ge (by omega) (by omega)) ?_
    refine cx_has (by omega) (fun hb => br_f (by decide) ?_) (fun hb => br_t rfl (nm_e (next (fun z => by rw [hb] at z; cases z))))
    exact cx_ct (by omega) (fun hc => br_f (by decide) (nm_e (next (fun _ => hc)))) (fun hc => br_t rfl (hf (fun w => hc (w s hb))))
theorem cx_at {V C F H : Nat} {cc mc ce me rd : Int32} {L xc xm xs : Nat → Int32} {post : Int32 → Prop} {M : Nat} {a : Int32} (hC : C ≤ 8) (hM : ∀ s, M.testBit s = true → s < C) (ht : ce_all L M a → post 1) (hf : ¬ ce_all L M a → post 0) : wpX_areClausesTrue post (nI V, nI C, nI F, nI H, cc, mc, ce, me, rd, L, xc, xm, xs) (nI M) a :=
  ⟨C + 1, cx_at2 hC hM ht hf C 0 (by omega) (fun q h => absurd h (Nat.not_lt_zero q))⟩
theorem cx_la17 {V C F H : Nat} {cc mc ce me rd : Int32} {L xc xm xs : Nat → Int32} {post : Int32 → Prop} {M N : Nat} (hN : N ≤ 32) (hC : C ≤ 8) (hM : ∀ s, M.testBit s = true → s < C) (hp : ∀ r, ce_least (fun a => ce_all L M (nI a)) N r → post r) :
    ∀ d a : Nat, a + d = N → (∀ b, b < a → ¬ ce_all L M (nI b)) → wX_leastAssignment_17 post (nI M) (nI N) (nI V) (nI C) (nI F) (nI H) cc mc ce me rd L xc xm xs (d + 1) (nI a) := by
  intro d
  induction d with
  | zero =>
    intro a ha hb
    exact br_t (nI_le (by omega) (by omega)) (hp _ (Or.inr ⟨fun b h => hb b (by omega), rfl⟩))
  | succ d ih =>
    intro a ha hb
    refine br_f (nI_ge (by omega) (by omega)) ?_
    refine cx_at hC hM (fun h => br_f (by decide) (hp _ (Or.inl ⟨a, by omega, h, hb, rfl⟩))) (fun h => br_t rfl (nm_r (nI_1 a) ?_))
    exact ih (a + 1) (by omega) (fun b hb' => by
      by_cases e : b = a
      · subst e; exact h
      · exact hb b (by omega))
theorem cx_la {V C F H : Nat} {cc mc ce me rd : Int32} {L xc xm xs : Nat → Int32} {post : Int32 → Prop} {m : Nat} (hV : V ≤ 5) (hC : C ≤ 8) (hM : ∀ s, (m ||| H).testBit s = true → s < C) (hp : ∀ r, ce_least (fun a => ce_all L (m ||| H) (nI a)) (2 ^ V) r → post r) : wpX_leastAssignment post (nI V, nI C, nI F, nI H, cc, mc, ce, me, rd, L, xc, xm, xs) (nI m) :=
  nm_r (e' := nI (m ||| H)) (ce_or m H) (nm_r (e' := nI (2 ^ V)) (ce_sh V hV) ⟨2 ^ V + 1, cx_la17 (ce_v32 hV) hC hM hp (2 ^ V) 0 (Nat.zero_add _) (fun q h => absurd h (Nat.not_lt_zero q))⟩)
theorem cx_sub {V C F H : Nat} {cc mc ce me rd : Int32} {L xc xm xs : Nat → Int32} {post : Int32 → Prop} {x : Int32} (ht : x &&& (nI F ^^^ (-1)) = 0 → post 1) (hf : ¬ x &&& (nI F ^^^ (-1)) = 0 → post 0) : wpX_isSubset post (nI V, nI C, nI F, nI H, cc, mc, ce, me, rd, L, xc, xm, xs) x := by
  unfold wpX_isSubset
  exact br_c (fun z => ⟨rfl, ht z⟩) (fun z => ⟨rfl, hf z⟩)
theorem cx_subN {V C F H : Nat} {cc mc ce me rd : Int32} {L xc xm xs : Nat → Int32} {post : Int32 → Prop} {m : Nat} (hm : m < 256) (ht : ce_sub m F → post 1) (hf : ¬ ce_sub m F → post 0) : wpX_isSubset post (nI V, nI C, nI F, nI H, cc, mc, ce, me, rd, L, xc, xm, xs) (nI m) :=
  cx_sub (fun z => ht ((ce_inN hm).mp z)) (fun z => hf (fun q => z ((ce_inN hm).mpr q)))
end
section
/-! X: findSatisfiableSubsets, isCore, listCores, isMaximal, listMaximals, enumerate -/
/-- a subset of F that is satisfiable -/
def ce_P (L : Nat → Int32) (V F H m : Nat) : Prop := ce_sub m F ∧ ce_S L V H m
theorem ce_low {F H C m : Nat} (hF : ∀ s, F.testBit s = true → s < C) (hH : ∀ s, H.testBit s = true → s < C) (h : ce_sub m F) : ∀ s, (m ||| H).testBit s = true → s < C := by
  intro s hs
  rw [Nat.testBit_or, Bool.or_eq_true] at hs
  rcases hs with z | z
  · exact hF s (h s z)
  · exact hH s z
theorem cx_fs2 {V C F H : Nat} {cc mc ce me rd : Int32} {L xc xm : Nat → Int32} {post : SX → Prop} (hV : V ≤ 5) (hC : C ≤ 8) (hF : ∀ s, F.testBit s = true → s < C) (hH : ∀ s, H.testBit s = true → s < C)
    (hp : ∀ t, ce_tab (ce_P L V F H) 256 t → post (nI V, nI C, nI F, nI H, cc, mc, ce, me, rd, L, xc, xm, t)) :
    ∀ d i t, i + d = 256 → ce_tab (ce_P L V F H) i t → wX_findSatisfiableSubsets_2 post (nI V) (nI C) (nI F) (nI H) cc mc ce me rd (d + 1) (nI i) L xc xm t := by
  intro d
  induction d with
  | zero =>
    intro i t hi T
    have e : i = 256 := by omega
    subst e
    exact br_t (nI_le (a := 256) (Nat.le_refl _) (by decide)) (hp t T)
  | succ d ih =>
    intro i t hi T
    have hin : vp_in (nI i) 256 := vp_in_nI (by omega) (by decide)
    have hc : (nI i).toNatClampNeg = i := nI_clamp (by omega)
    have go : ∀ x, (x = 0 ↔ ¬ ce_P L V F H i) → wX_findSatisfiableSubsets_2 post (nI V) (nI C) (nI F) (nI H) cc mc ce me rd (d + 1) (nI i + 1) L xc xm (upd t (nI i).toNatClampNeg x) := by
      intro x hx
      rw [hc, nI_1 i]
      exact ih (i + 1) _ (by omega) (ce_tab_put T hx)
    refine br_f (nI_ge (b := 256) (by omega) (by decide)) ?_
    refine cx_subN (by omega) (fun hs => br_f (by decide) ?_) (fun hs => br_t rfl ⟨hin, nm_e (nm_e (go _ ⟨fun _ z => hs z.1, fun _ => ce_nb0⟩))⟩)
    refine cx_la hV hC (ce_low hF hH hs) (fun r hr => ?_)
    have q := ce_least_s (by have := ce_v32 hV; omega) hr
    refine br_c (fun z => ⟨hin, nm_e (nm_e (go _ ⟨fun _ w => q.mp z w.2, fun _ => ce_nb0⟩))⟩) (fun z => ⟨hin, nm_e (nm_e (go _ ⟨fun w => ?_, fun w => ?_⟩))⟩)
    · rw [ce_nb1] at w; exact absurd w (by decide)
    · exact absurd ⟨hs, Classical.byContradiction (fun y => z (q.mpr y))⟩ w
theorem cx_fs {V C F H : Nat} {cc mc ce me rd : Int32} {L xc xm xs : Nat → Int32} {post : SX → Prop} (hV : V ≤ 5) (hC : C ≤ 8) (hF : ∀ s, F.testBit s = true → s < C) (hH : ∀ s, H.testBit s = true → s < C)
    (hp : ∀ t, ce_tab (ce_P L V F H) 256 t → post (nI V, nI C, nI F, nI H, cc, mc, ce, me, rd, L, xc, xm, t)) : wpX_findSatisfiableSubsets post (nI V, nI C, nI F, nI H, cc, mc, ce, me, rd, L, xc, xm, xs) :=
  ⟨257, cx_fs2 hV hC hF hH hp 256 0 xs rfl (ce_tab0 _ _)⟩
theorem cx_ic13 {V C F H : Nat} {cc mc ce me rd : Int32} {L xc xm xs : Nat → Int32} {post : Int32 → Prop} {m : Nat} (hC : C ≤ 8) (hm : m < 256) (hs : ce_sub m F) (hF : ∀ s, F.testBit s = true → s < C) (T : ce_tab (ce_P L V F H) 256 xs)
    (ht : (∀ s, m.testBit s = true → ce_S L V H (m ^^^ 2 ^ s)) → post 1) (hf : ¬ (∀ s, m.testBit s = true → ce_S L V H (m ^^^ 2 ^ s)) → post 0) :
    ∀ d s : Nat, s + d = C → (∀ q, q < s → m.testBit q = true → ce_S L V H (m ^^^ 2 ^ q)) → wX_isCore_13 post (nI m) (nI V) (nI C) (nI F) (nI H) cc mc ce me rd L xc xm xs (d + 1) (nI s) := by
  intro d
  induction d with
  | zero =>
    intro s hd hq
    exact br_t (nI_le (by omega) (by omega)) (ht (fun q hb => hq q (by have := hF q (hs q hb); omega) hb))
  | succ d ih =>
    intro s hd hq
    have next : (m.testBit s = true → ce_S L V H (m ^^^ 2 ^ s)) → wX_isCore_13 post (nI m) (nI V) (nI C) (nI F) (nI H) cc mc ce me rd L xc xm xs (d + 1) (nI s + 1) := by
      intro z
      rw [nI_1 s]
      exact ih (s + 1) (by omega) (fun q h hb => by
        by_cases e : q = s
        · subst e; exact z hb
        · exact hq q (by omega) hb)
    refine br_f (nI_ge (by omega) (by omega)) ?_
    refine cx_has (by omega) (fun hb => br_f (by decide) ?_) (fun hb => br_t rfl (nm_e (next (fun z => by rw [hb] at z; cases z))))
    have e := ce_del (m := m) (s := s) (by omega) hb
    have hx : m ^^^ 2 ^ s < 256 := ce_xl hm (by omega)
    have hc : (nI m &&& (((1 : Int32) <<< (nI s &&& 31)) ^^^ (-1))).toNatClampNeg = m ^^^ 2 ^ s := by rw [e]; exact nI_clamp (by omega)
    have hi : vp_in (nI m &&& (((1 : Int32) <<< (nI s &&& 31)) ^^^ (-1))) 256 := by rw [e]; exact vp_in_nI hx (by decide)
    have t := T _ hx
    have hsub : ce_sub (m ^^^ 2 ^ s) F := ce_sub_trans (ce_sub_del hb) hs
    refine ⟨hi, br_c (fun z => hf (fun w => ?_)) (fun z => nm_e (next (fun _ => ?_)))⟩
    · rw [hc] at z
      exact t.mp z ⟨hsub, w s hb⟩
    · rw [hc] at z
      exact Classical.byContradiction (fun y => z (t.mpr (fun w => y w.2)))
theorem cx_ic {V C F H : Nat} {cc mc ce me rd : Int32} {L xc xm xs : Nat → Int32} {post : Int32 → Prop} {m : Nat} (hC : C ≤ 8) (hm : m < 256) (hs : ce_sub m F) (hF : ∀ s, F.testBit s = true → s < C) (T : ce_tab (ce_P L V F H) 256 xs)
    (ht : ce_core (ce_S L V H) F m → post 1) (hf : ¬ ce_core (ce_S L V H) F m → post 0) : wpX_isCore post (nI V, nI C, nI F, nI H, cc, mc, ce, me, rd, L, xc, xm, xs) (nI m) := by
  have t := T _ hm
  have hc : (nI m).toNatClampNeg = m := nI_clamp (by omega)
  refine ⟨vp_in_nI hm (by decide), br_c (fun z => ?_) (fun z => ?_)⟩
  · rw [hc] at z
    have hn : ¬ ce_S L V H m := fun w => t.mp z ⟨hs, w⟩
    exact ⟨C + 1, cx_ic13 hC hm hs hF T (fun h => ht ⟨hs, hn, h⟩) (fun h => hf (fun w => h w.2.2)) C 0 (by omega) (fun q h => absurd h (Nat.not_lt_zero q))⟩
  · rw [hc] at z
    exact hf (fun w => z (t.mpr (fun y => w.2.1 y.2)))
theorem cx_lc7 {V C F H : Nat} {mc ce me rd : Int32} {L xm xs : Nat → Int32} {post : SX → Prop} (hC : C ≤ 8) (hF : ∀ s, F.testBit s = true → s < C) (T : ce_tab (ce_P L V F H) 256 xs)
    (hp : ∀ a, ce_ar (ce_ls (ce_core (ce_S L V H) F) (fun k => k) 256) a → post (nI V, nI C, nI F, nI H, nI (ce_ls (ce_core (ce_S L V H) F) (fun k => k) 256).length, mc, ce, me, rd, L, a, xm, xs)) :
    ∀ d i a, i + d = 256 → ce_ar (ce_ls (ce_core (ce_S L V H) F) (fun k => k) i) a → wX_listCores_7 post (nI V) (nI C) (nI F) (nI H) mc ce me rd (d + 1) (nI i) (nI (ce_ls (ce_core (ce_S L V H) F) (fun k => k) i).length) L a xm xs := by
  intro d
  induction d with
  | zero =>
    intro i a hi A
    have e : i = 256 := by omega
    subst e
    exact br_t (nI_le (a := 256) (Nat.le_refl _) (by decide)) (hp a A)
  | succ d ih =>
    intro i a hi A
    have hl := ce_ls_len (ce_core (ce_S L V H) F) (fun k => k) i
    have no : ¬ ce_core (ce_S L V H) F i → wX_listCores_7 post (nI V) (nI C) (nI F) (nI H) mc ce me rd (d + 1) (nI i + 1) (nI (ce_ls (ce_core (ce_S L V H) F) (fun k => k) i).length) L a xm xs := by
      intro z
      have q := ih (i + 1) a (by omega)
      rw [ce_ls_f (P := ce_core (ce_S L V H) F) (f := fun k => k) (n := i) z] at q
      rw [nI_1 i]
      exact q A
    refine br_f (nI_ge (b := 256) (by omega) (by decide)) ?_
    refine cx_subN (by omega) (fun hs => br_f (by decide) ?_) (fun hs => br_t rfl (nm_e (no (fun w => hs w.1))))
    refine cx_ic hC (by omega) hs hF T (fun h => br_f (by decide) ⟨vp_in_nI (by omega) (by decide), nm_e (nm_e (nm_e ?_))⟩) (fun h => br_t rfl (nm_e (no h)))
    rw [nI_clamp (by omega), nI_1 i, nI_1 (ce_ls (ce_core (ce_S L V H) F) (fun k => k) i).length]
    have q := ih (i + 1) (upd a (ce_ls (ce_core (ce_S L V H) F) (fun k => k) i).length (nI i)) (by omega)
    rw [ce_ls_t (P := ce_core (ce_S L V H) F) (f := fun k => k) (n := i) h, List.length_append] at q
    exact q (ce_ar_put A)
theorem cx_lc {V C F H : Nat} {cc mc ce me rd : Int32} {L xc xm xs : Nat → Int32} {post : SX → Prop} (hC : C ≤ 8) (hF : ∀ s, F.testBit s = true → s < C) (T : ce_tab (ce_P L V F H) 256 xs)
    (hp : ∀ a, ce_ar (ce_ls (ce_core (ce_S L V H) F) (fun k => k) 256) a → post (nI V, nI C, nI F, nI H, nI (ce_ls (ce_core (ce_S L V H) F) (fun k => k) 256).length, mc, ce, me, rd, L, a, xm, xs)) : wpX_listCores post (nI V, nI C, nI F, nI H, cc, mc, ce, me, rd, L, xc, xm, xs) :=
  ⟨257, cx_lc7 hC hF T hp 256 0 xc rfl (ce_ar0 _)⟩
theorem cx_im22 {V C F H : Nat} {cc mc ce me rd : Int32} {L xc xm xs : Nat → Int32} {post : Int32 → Prop} {m D : Nat} (hC : C ≤ 8) (hm : m < 256) (hs : ce_sub m F) (hF : ∀ s, F.testBit s = true → s < C) (T : ce_tab (ce_P L V F H) 256 xs)
    (hD : ∀ s, s < 8 → (D.testBit s = true ↔ F.testBit s = true ∧ m.testBit s = false))
    (ht : (∀ s, F.testBit s = true → m.testBit s = false → ¬ ce_S L V H (m ^^^ 2 ^ s)) → post 1) (hf : ¬ (∀ s, F.testBit s = true → m.testBit s = false → ¬ ce_S L V H (m ^^^ 2 ^ s)) → post 0) :
    ∀ d s : Nat, s + d = C → (∀ q, q < s → F.testBit q = true → m.testBit q = false → ¬ ce_S L V H (m ^^^ 2 ^ q)) → wX_isMaximal_22 post (nI m) (nI D) (nI V) (nI C) (nI F) (nI H) cc mc ce me rd L xc xm xs (d + 1) (nI s) := by
  intro d
  induction d with
  | zero =>
    intro s hd hq
    exact br_t (nI_le (by omega) (by omega)) (ht (fun q hb => hq q (by have := hF q hb; omega) hb))
  | succ d ih =>
    intro s hd hq
    have next : (F.testBit s = true → m.testBit s = false → ¬ ce_S L V H (m ^^^ 2 ^ s)) → wX_isMaximal_22 post (nI m) (nI D) (nI V) (nI C) (nI F) (nI H) cc mc ce me rd L xc xm xs (d + 1) (nI s + 1) := by
      intro z
      rw [nI_1 s]
      exact ih (s + 1) (by omega) (fun q h hb => by
        by_cases e : q = s
        · subst e; exact z hb
        · exact hq q (by omega) hb)
    refine br_f (nI_ge (by omega) (by omega)) ?_
    refine cx_has (by omega) (fun hb => br_f (by decide) ?_) (fun hb => br_t rfl (nm_e (next (fun z1 z2 => by rw [(hD s (by omega)).mpr ⟨z1, z2⟩] at hb; cases hb))))
    obtain ⟨hb1, hb2⟩ := (hD s (by omega)).mp hb
    have e := ce_add (m := m) (s := s) (by omega) hb2
    have hx : m ^^^ 2 ^ s < 256 := ce_xl hm (by omega)
    have hc : (nI m ||| ((1 : Int32) <<< (nI s &&& 31))).toNatClampNeg = m ^^^ 2 ^ s := by rw [e]; exact nI_clamp (by omega)
    have hi : vp_in (nI m ||| ((1 : Int32) <<< (nI s &&& 31))) 256 := by rw [e]; exact vp_in_nI hx (by decide)
    have t := T _ hx
    have hsub : ce_sub (m ^^^ 2 ^ s) F := ce_sub_ins hs hb1
    refine ⟨hi, br_c (fun z => nm_e (next (fun _ _ w => ?_))) (fun z => hf (fun w => ?_))⟩
    · rw [hc] at z
      exact t.mp z ⟨hsub, w⟩
    · rw [hc] at z
      exact z (t.mpr (fun y => w s hb1 hb2 y.2))
theorem cx_im {V C F H : Nat} {cc mc ce me rd : Int32} {L xc xm xs : Nat → Int32} {post : Int32 → Prop} {m : Nat} (hC : C ≤ 8) (hm : m < 256) (hF8 : F < 256) (hs : ce_sub m F) (hF : ∀ s, F.testBit s = true → s < C) (T : ce_tab (ce_P L V F H) 256 xs)
    (ht : ce_maxi (ce_S L V H) F m → post 1) (hf : ¬ ce_maxi (ce_S L V H) F m → post 0) : wpX_isMaximal post (nI V, nI C, nI F, nI H, cc, mc, ce, me, rd, L, xc, xm, xs) (nI m) := by
  have t := T _ hm
  have hc : (nI m).toNatClampNeg = m := nI_clamp (by omega)
  have hD : ∀ s, s < 8 → ((F &&& (255 ^^^ m)).testBit s = true ↔ F.testBit s = true ∧ m.testBit s = false) := by
    intro s hs
    have q : (255 : Nat).testBit s = true := (by decide : ∀ i, i < 8 → (255 : Nat).testBit i = true) s hs
    rw [Nat.testBit_and, Nat.testBit_xor, q]
    cases F.testBit s <;> cases m.testBit s <;> simp
  refine ⟨vp_in_nI hm (by decide), br_c (fun z => ?_) (fun z => nm_r (e' := nI (F &&& (255 ^^^ m))) (ce_diff hF8) ?_)⟩
  · rw [hc] at z
    exact hf (fun w => t.mp z ⟨hs, w.2.1⟩)
  · rw [hc] at z
    have hn : ce_S L V H m := Classical.byContradiction (fun w => z (t.mpr (fun y => w y.2)))
    exact ⟨C + 1, cx_im22 hC hm hs hF T hD (fun h => ht ⟨hs, hn, h⟩) (fun h => hf (fun w => h w.2.2)) C 0 (by omega) (fun q h => absurd h (Nat.not_lt_zero q))⟩
theorem cx_lm9 {V C F H : Nat} {cc ce me rd : Int32} {L xc xs : Nat → Int32} {post : SX → Prop} (hC : C ≤ 8) (hF8 : F < 256) (hF : ∀ s, F.testBit s = true → s < C) (T : ce_tab (ce_P L V F H) 256 xs)
    (hp : ∀ a, ce_ar (ce_ls (ce_maxi (ce_S L V H) F) (fun k => 255 - k) 256) a → post (nI V, nI C, nI F, nI H, cc, nI (ce_ls (ce_maxi (ce_S L V H) F) (fun k => 255 - k) 256).length, ce, me, rd, L, xc, a, xs)) :
    ∀ j i a, i + j = 256 → ce_ar (ce_ls (ce_maxi (ce_S L V H) F) (fun k => 255 - k) i) a → wX_listMaximals_9 post (nI V) (nI C) (nI F) (nI H) cc ce me rd (j + 1) (nI j + (-1)) (nI (ce_ls (ce_maxi (ce_S L V H) F) (fun k => 255 - k) i).length) L xc a xs := by
  intro j
  induction j with
  | zero =>
    intro i a hi A
    have e : i = 256 := by omega
    subst e
    exact br_t (by decide) (hp a A)
  | succ j ih =>
    intro i a hi A
    have hl := ce_ls_len (ce_maxi (ce_S L V H) F) (fun k => 255 - k) i
    have hij : 255 - i = j := by omega
    have no : ¬ ce_maxi (ce_S L V H) F j → wX_listMaximals_9 post (nI V) (nI C) (nI F) (nI H) cc ce me rd (j + 1) (nI j + (-1)) (nI (ce_ls (ce_maxi (ce_S L V H) F) (fun k => 255 - k) i).length) L xc a xs := by
      intro z
      have q := ih (i + 1) a (by omega)
      rw [ce_ls_f (P := ce_maxi (ce_S L V H) F) (f := fun k => 255 - k) (n := i) (by show ¬ ce_maxi (ce_S L V H) F (255 - i); rw [hij]; exact z)] at q
      exact q A
    rw [pk_m1 j]
    refine br_f (nI_pos (by omega)) ?_
    refine cx_subN (by omega) (fun hs => br_f (by decide) ?_) (fun hs => br_t rfl (nm_e (no (fun w => hs w.1))))
    refine cx_im hC (by omega) hF8 hs hF T (fun h => br_f (by decide) ⟨vp_in_nI (by omega) (by decide), nm_e (nm_e (nm_e ?_))⟩) (fun h => br_t rfl (nm_e (no h)))
    rw [nI_clamp (by omega), nI_1 (ce_ls (ce_maxi (ce_S L V H) F) (fun k => 255 - k) i).length]
    have q := ih (i + 1) (upd a (ce_ls (ce_maxi (ce_S L V H) F) (fun k => 255 - k) i).length (nI j)) (by omega)
    rw [ce_ls_t (P := ce_maxi (ce_S L V H) F) (f := fun k => 255 - k) (n := i) (by show ce_maxi (ce_S L V H) F (255 - i); rw [hij]; exact h), List.length_append, hij] at q
    exact q (ce_ar_put A)
theorem cx_lm {V C F H : Nat} {cc mc ce me rd : Int32} {L xc xm xs : Nat → Int32} {post : SX → Prop} (hC : C ≤ 8) (hF8 : F < 256) (hF : ∀ s, F.testBit s = true → s < C) (T : ce_tab (ce_P L V F H) 256 xs)
    (hp : ∀ a, ce_ar (ce_ls (ce_maxi (ce_S L V H) F) (fun k => 255 - k) 256) a → post (nI V, nI C, nI F, nI H, cc, nI (ce_ls (ce_maxi (ce_S L V H) F) (fun k => 255 - k) 256).length, ce, me, rd, L, xc, a, xs)) : wpX_listMaximals post (nI V, nI C, nI F, nI H, cc, mc, ce, me, rd, L, xc, xm, xs) := by
  have q := cx_lm9 (V := V) (C := C) (F := F) (H := H) (cc := cc) (ce := ce) (me := me) (rd := rd) (L := L) (xc := xc) (xs := xs) hC hF8 hF T hp 256 0 xm rfl (ce_ar0 _)
  rw [show nI 256 + (-1) = 255 by decide] at q
  exact ⟨257, q⟩
theorem cx_en {V C F H : Nat} {cc mc ce me rd : Int32} {L xc xm xs : Nat → Int32} {post : Int32 → SX → Prop} (hV : V ≤ 5) (hC : C ≤ 8) (hF8 : F < 256) (hF : ∀ s, F.testBit s = true → s < C) (hH : ∀ s, H.testBit s = true → s < C)
    (hp : ∀ c m t, ce_ar (ce_ls (ce_core (ce_S L V H) F) (fun k => k) 256) c → ce_ar (ce_ls (ce_maxi (ce_S L V H) F) (fun k => 255 - k) 256) m →
      post (nI (ce_ls (ce_core (ce_S L V H) F) (fun k => k) 256).length + nI (ce_ls (ce_maxi (ce_S L V H) F) (fun k => 255 - k) 256).length)
        (nI V, nI C, nI F, nI H, nI (ce_ls (ce_core (ce_S L V H) F) (fun k => k) 256).length, nI (ce_ls (ce_maxi (ce_S L V H) F) (fun k => 255 - k) 256).length, 0, 0, 1, L, c, m, t)) : wpX_enumerate post (nI V, nI C, nI F, nI H, cc, mc, ce, me, rd, L, xc, xm, xs) := by
  unfold wpX_enumerate
  refine cx_fs hV hC hF hH (fun t T => ?_)
  refine cx_lc hC hF T (fun c A => ?_)
  refine cx_lm hC hF8 hF T (fun m B => ?_)
  exact hp c m t A B
end
section
/-! X: judge, verdict, greatestOpen, the slots -/
theorem cx_wi {post : Int32 → Prop} {a b : Nat} (ha : a < 256) (ht : ce_sub a b → post 1) (hf : ¬ ce_sub a b → post 0) : wpX_isWithin post (nI a) (nI b) :=
  br_c (fun z => ht ((ce_inN ha).mp z)) (fun z => hf (fun q => z ((ce_inN ha).mpr q)))
theorem cx_j33 {V C F H : Nat} {cc mc me rd : Int32} {L xc xm xs : Nat → Int32} {post : Int32 → Prop} {cl : List Nat} {e m : Nat} (he : e ≤ cl.length) (hl : cl.length ≤ 256) (hb : ∀ x, x ∈ cl → x < 256) (A : ce_ar cl xc)
    (ht : ce_dn1 cl e m → post 2) (hf : ¬ ce_dn1 cl e m → post 0) :
    ∀ d k : Nat, k + d = e → (∀ q x, q < k → cl[q]? = some x → ¬ ce_sub x m) → wX_judge_33 post (nI m) (nI V) (nI C) (nI F) (nI H) cc mc (nI e) me rd L xc xm xs (d + 1) (nI k) := by
  intro d
  induction d with
  | zero =>
    intro k hk hq
    refine br_t (nI_le (by omega) (by omega)) (hf ?_)
    rintro ⟨q, x, h1, h2, h3⟩
    exact hq q x (by omega) h2 h3
  | succ d ih =>
    intro k hk hq
    obtain ⟨x, hx, hx2, hx3⟩ := ce_ar_get A (k := k) (by omega)
    refine br_f (nI_ge (by omega) (by omega)) ⟨vp_in_nI (by omega) (by decide), ?_⟩
    rw [nI_clamp (show k < 2 ^ 31 by omega), hx3]
    refine cx_wi (hb x hx) (fun hs => br_f (by decide) (ht ⟨k, x, by omega, hx2, hs⟩)) (fun hs => br_t rfl (nm_r (nI_1 k) ?_))
    exact ih (k + 1) (by omega) (fun q y h h2 => by
      by_cases e : q = k
      · subst e
        rw [hx2] at h2
        cases h2
        exact hs
      · exact hq q y (by omega) h2)
theorem cx_j2 {V C F H : Nat} {cc mc ce rd : Int32} {L xc xm xs : Nat → Int32} {post : Int32 → Prop} {ml : List Nat} {g m : Nat} (hm : m < 256) (hg : g ≤ ml.length) (hl : ml.length ≤ 256) (B : ce_ar ml xm)
    (ht : ce_up1 ml g m → post 1) (hf : ¬ ce_up1 ml g m → ∃ n, wX_judge_33 post (nI m) (nI V) (nI C) (nI F) (nI H) cc mc ce (nI g) rd L xc xm xs n 0) :
    ∀ d k : Nat, k + d = g → (∀ q x, q < k → ml[q]? = some x → ¬ ce_sub m x) → wX_judge_2 post (nI m) (nI V) (nI C) (nI F) (nI H) cc mc ce (nI g) rd L xc xm xs (d + 1) (nI k) := by
  intro d
  induction d with
  | zero =>
    intro k hk hq
    refine br_t (nI_le (by omega) (by omega)) (hf ?_)
    rintro ⟨q, x, h1, h2, h3⟩
    exact hq q x (by omega) h2 h3
  | succ d ih =>
    intro k hk hq
    obtain ⟨x, hx, hx2, hx3⟩ := ce_ar_get B (k := k) (by omega)
    refine br_f (nI_ge (by omega) (by omega)) ⟨vp_in_nI (by omega) (by decide), ?_⟩
    rw [nI_clamp (show k < 2 ^ 31 by omega), hx3]
    refine cx_wi hm (fun hs => br_f (by decide) (ht ⟨k, x, by omega, hx2, hs⟩)) (fun hs => br_t rfl (nm_r (nI_1 k) ?_))
    exact ih (k + 1) (by omega) (fun q y h h2 => by
      by_cases e : q = k
      · subst e
        rw [hx2] at h2
        cases h2
        exact hs
      · exact hq q y (by omega) h2)
theorem cx_jd {V C F H : Nat} {cc mc rd : Int32} {L xc xm xs : Nat → Int32} {post : Int32 → Prop} {cl ml : List Nat} {e g m : Nat} (hm : m < 256) (he : e ≤ cl.length) (hg : g ≤ ml.length) (hlc : cl.length ≤ 256) (hlm : ml.length ≤ 256) (hb : ∀ x, x ∈ cl → x < 256) (A : ce_ar cl xc) (B : ce_ar ml xm)
    (hp : ∀ r, ce_jd cl ml e g m r → post r) : wpX_judge post (nI V, nI C, nI F, nI H, cc, mc, nI e, nI g, rd, L, xc, xm, xs) (nI m) :=
  ⟨g + 1, cx_j2 hm hg hlm B (fun h => hp _ (Or.inl ⟨rfl, h⟩))
    (fun h => ⟨e + 1, cx_j33 he hlc hb A (fun h2 => hp _ (Or.inr (Or.inl ⟨rfl, h, h2⟩))) (fun h2 => hp _ (Or.inr (Or.inr ⟨rfl, h, h2⟩))) e 0 (Nat.zero_add e) (fun q _ z => absurd z (Nat.not_lt_zero q))⟩)
    g 0 (Nat.zero_add g) (fun q _ z => absurd z (Nat.not_lt_zero q))⟩
/-- a subset that is open -/
def ce_op (cl ml : List Nat) (e g F m : Nat) : Prop := ce_sub m F ∧ ¬ ce_up1 ml g m ∧ ¬ ce_dn1 cl e m
theorem cx_go14 {V C F H : Nat} {cc mc rd : Int32} {L xc xm xs : Nat → Int32} {post : Int32 → Prop} {cl ml : List Nat} {e g : Nat} (he : e ≤ cl.length) (hg : g ≤ ml.length) (hlc : cl.length ≤ 256) (hlm : ml.length ≤ 256) (hb : ∀ x, x ∈ cl → x < 256) (A : ce_ar cl xc) (B : ce_ar ml xm)
    (hp : ∀ r, ce_great (ce_op cl ml e g F) r → post r) :
    ∀ j : Nat, j ≤ 256 → (∀ m, m < 256 → j ≤ m → ¬ ce_op cl ml e g F m) → wX_greatestOpen_14 post (nI V) (nI C) (nI F) (nI H) cc mc (nI e) (nI g) rd L xc xm xs (j + 1) (nI j + (-1)) := by
  intro j
  induction j with
  | zero =>
    intro hj hq
    exact br_t (by decide) (hp _ (Or.inr ⟨fun m hm => hq m hm (Nat.zero_le m), rfl⟩))
  | succ j ih =>
    intro hj hq
    have next : ¬ ce_op cl ml e g F j → wX_greatestOpen_14 post (nI V) (nI C) (nI F) (nI H) cc mc (nI e) (nI g) rd L xc xm xs (j + 1) (nI j + (-1)) := by
      intro z
      exact ih (by omega) (fun m hm h => by
        by_cases e : m = j
        · subst e; exact z
        · exact hq m hm (by omega))
    rw [pk_m1 j]
    refine br_f (nI_pos (by omega)) ?_
    refine cx_subN (by omega) (fun hs => br_f (by decide) ?_) (fun hs => br_t rfl (nm_e (next (fun w => hs w.1))))
    refine cx_jd (by omega) he hg hlc hlm hb A B (fun r hr => ?_)
    have q := ce_jd_0 hr
    exact br_c (fun z => hp _ (Or.inl ⟨j, by omega, ⟨hs, q.mp z⟩, fun b h1 h2 => hq b h1 (by omega), rfl⟩)) (fun z => nm_e (next (fun w => z (q.mpr w.2))))
theorem cx_go {V C F H : Nat} {cc mc rd : Int32} {L xc xm xs : Nat → Int32} {post : Int32 → Prop} {cl ml : List Nat} {e g : Nat} (he : e ≤ cl.length) (hg : g ≤ ml.length) (hlc : cl.length ≤ 256) (hlm : ml.length ≤ 256) (hb : ∀ x, x ∈ cl → x < 256) (A : ce_ar cl xc) (B : ce_ar ml xm)
    (hp : ∀ r, ce_great (ce_op cl ml e g F) r → post r) : ∃ n, wX_greatestOpen_14 post (nI V) (nI C) (nI F) (nI H) cc mc (nI e) (nI g) rd L xc xm xs n 255 := by
  have q := cx_go14 (V := V) (C := C) (H := H) (cc := cc) (mc := mc) (rd := rd) (L := L) (xs := xs) he hg hlc hlm hb A B hp 256 (Nat.le_refl _) (fun m h1 h2 => absurd h1 (by omega))
  rw [show nI 256 + (-1) = 255 by decide] at q
  exact ⟨257, q⟩
/-- slot x holds a clause -/
def ce_occ (C F H : Nat) (x : Int32) : Prop := ∃ s, s < C ∧ x = nI s ∧ (F ||| H).testBit s = true
theorem cx_oc_t {V C F H : Nat} {cc mc ce me rd : Int32} {L xc xm xs : Nat → Int32} {post : Int32 → Prop} {s : Nat} (hC : C ≤ 8) (hs : s < C) (hb : (F ||| H).testBit s = true) (hp : post 1) : wpX_isOccupied post (nI V, nI C, nI F, nI H, cc, mc, ce, me, rd, L, xc, xm, xs) (nI s) := by
  refine br_f (nI_pos (by omega)) (br_f (nI_ge hs (by omega)) ?_)
  rw [ce_or F H]
  exact cx_has (by omega) (fun _ => br_f (by decide) hp) (fun z => by rw [hb] at z; cases z)
theorem cx_oc_f {V C F H : Nat} {cc mc ce me rd : Int32} {L xc xm xs : Nat → Int32} {post : Int32 → Prop} {x : Int32} (hC : C ≤ 8) (h : ¬ ce_occ C F H x) (hp : post 0) : wpX_isOccupied post (nI V, nI C, nI F, nI H, cc, mc, ce, me, rd, L, xc, xm, xs) x := by
  rcases pk_ix x (n := C) (by omega) with z | z | ⟨s, hs, rfl⟩
  · exact br_t z hp
  · exact br_c (fun _ => hp) (fun _ => br_t z hp)
  · refine br_f (nI_pos (by omega)) (br_f (nI_ge hs (by omega)) ?_)
    rw [ce_or F H]
    exact cx_has (by omega) (fun z => absurd ⟨s, hs, rfl, z⟩ h) (fun _ => br_t rfl hp)
/-- s is the lowest slot below C that is empty, or C -/
theorem cx_le12 {V C F H : Nat} {cc mc ce me rd : Int32} {L xc xm xs : Nat → Int32} {post : Int32 → Prop} {M : Nat} (hC : C ≤ 8) (ht : ∀ s, s < C → M.testBit s = false → (∀ q, q < s → M.testBit q = true) → post (nI s)) (hf : (∀ q, q < C → M.testBit q = true) → post (nI C)) :
    ∀ d s : Nat, s + d = C → (∀ q, q < s → M.testBit q = true) → wX_lowestEmptySlot_12 post (nI M) (nI V) (nI C) (nI F) (nI H) cc mc ce me rd L xc xm xs (d + 1) (nI s) := by
  intro d
  induction d with
  | zero =>
    intro s hs hq
    exact br_t (nI_le (by omega) (by omega)) (hf (fun q h => hq q (by omega)))
  | succ d ih =>
    intro s hs hq
    refine br_f (nI_ge (by omega) (by omega)) ?_
    refine cx_has (by omega) (fun hb => br_f (by decide) (nm_r (nI_1 s) ?_)) (fun hb => br_t rfl (ht s (by omega) hb hq))
    exact ih (s + 1) (by omega) (fun q h => by
      by_cases e : q = s
      · subst e; exact hb
      · exact hq q (by omega))
theorem cx_les {V C F H : Nat} {cc mc ce me rd : Int32} {L xc xm xs : Nat → Int32} {post : Int32 → Prop} (hC : C ≤ 8) (ht : ∀ s, s < C → (F ||| H).testBit s = false → (∀ q, q < s → (F ||| H).testBit q = true) → post (nI s)) (hf : (∀ q, q < C → (F ||| H).testBit q = true) → post (nI C)) : wpX_lowestEmptySlot post (nI V, nI C, nI F, nI H, cc, mc, ce, me, rd, L, xc, xm, xs) :=
  nm_r (e' := nI (F ||| H)) (ce_or F H) ⟨C + 1, cx_le12 hC ht hf C 0 (Nat.zero_add C) (fun q h => absurd h (Nat.not_lt_zero q))⟩
end
section
/-! Y: the slots, isSubset, allTrue, witness -/
/-- used and kinds are the two masks -/
def ce_K (U K : Nat → Int32) (F H C : Nat) : Prop := ∀ s, s < 8 → (U s = 0 ∧ F.testBit s = false ∧ H.testBit s = false) ∨ (s < C ∧ ¬ U s = 0 ∧ K s = 0 ∧ F.testBit s = true ∧ H.testBit s = false) ∨ (s < C ∧ ¬ U s = 0 ∧ K s = 1 ∧ F.testBit s = false ∧ H.testBit s = true)
theorem ce_K_F {U K : Nat → Int32} {F H C : Nat} (h : ce_K U K F H C) (hF : F < 256) : ∀ s, F.testBit s = true → s < C := by
  intro s hs
  rcases h s (ce_lo hF hs) with z | z | z
  · rw [z.2.1] at hs; cases hs
  · exact z.1
  · exact z.1
theorem ce_K_H {U K : Nat → Int32} {F H C : Nat} (h : ce_K U K F H C) (hH : H < 256) : ∀ s, H.testBit s = true → s < C := by
  intro s hs
  rcases h s (ce_lo hH hs) with z | z | z
  · rw [z.2.2] at hs; cases hs
  · exact z.1
  · exact z.1
theorem ce_K_f {U K : Nat → Int32} {F H C : Nat} (h : ce_K U K F H C) : ∀ s, s < 8 → (F.testBit s = true ↔ ¬ U s = 0 ∧ K s = 0) := by
  intro s hs
  rcases h s hs with ⟨a, b, c⟩ | ⟨z, a, b, c, d⟩ | ⟨z, a, b, c, d⟩
  · rw [b]; exact ⟨fun z => (nomatch z), fun z => absurd a z.1⟩
  · rw [c]; exact ⟨fun _ => ⟨a, b⟩, fun _ => rfl⟩
  · rw [c]; exact ⟨fun z => (nomatch z), fun z => by rw [b] at z; exact absurd z.2 (by decide)⟩
theorem ce_K_h {U K : Nat → Int32} {F H C : Nat} (h : ce_K U K F H C) : ∀ s, s < 8 → (H.testBit s = true ↔ ¬ U s = 0 ∧ K s = 1) := by
  intro s hs
  rcases h s hs with ⟨a, b, c⟩ | ⟨z, a, b, c, d⟩ | ⟨z, a, b, c, d⟩
  · rw [c]; exact ⟨fun z => (nomatch z), fun z => absurd a z.1⟩
  · rw [d]; exact ⟨fun z => (nomatch z), fun z => by rw [b] at z; exact absurd z.2 (by decide)⟩
  · rw [d]; exact ⟨fun _ => ⟨a, b⟩, fun _ => rfl⟩
theorem cy_s16 {V C : Nat} {cc mc ce me rd : Int32} {U K L ys yc ym : Nat → Int32} {post : Int32 → Prop} {kind : Int32} {M : Nat} (hM : M < 256) (hk : ∀ s, s < 8 → (M.testBit s = true ↔ ¬ U s = 0 ∧ K s = kind)) (hp : post (nI M)) :
    ∀ d i x, i + d = 8 → (∀ j, j < 32 → bt x j = (decide (j < i) && M.testBit j)) → wY_slots_16 post kind (nI V) (nI C) cc mc ce me rd U K L ys yc ym (d + 1) x (nI i) := by
  intro d
  induction d with
  | zero =>
    intro i x hi hx
    have e : x = nI M := by
      apply b_ext
      intro j hj
      rw [hx j hj, ce_bn M hj]
      by_cases z : j < i
      · simp [z]
      · rw [ce_hi hM (by omega)]; simp
    rw [e]
    exact br_t (nI_le (a := 8) (by omega) (by omega)) hp
  | succ d ih =>
    intro i x hi hx
    have hin : vp_in (nI i) 8 := vp_in_nI (by omega) (by decide)
    have hc : (nI i).toNatClampNeg = i := nI_clamp (by omega)
    have k := hk i (by omega)
    have skip : M.testBit i = false → wY_slots_16 post kind (nI V) (nI C) cc mc ce me rd U K L ys yc ym (d + 1) x (nI i + 1) := by
      intro z
      rw [nI_1 i]
      refine ih (i + 1) x (by omega) (fun j hj => ?_)
      rw [hx j hj]
      by_cases e : j = i
      · subst e; simp [z]
      · rw [show decide (j < i + 1) = decide (j < i) from decide_eq_decide.mpr ⟨fun h => by omega, fun h => by omega⟩]
    refine br_f (nI_ge (b := 8) (by omega) (by decide)) ⟨hin, br_c (fun z => nm_e (skip ?_)) (fun z => ⟨hin, br_c (fun y => nm_e (nm_r (nI_1 i) ?_)) (fun y => nm_e (skip ?_))⟩)⟩
    · rw [hc] at z
      exact ce_nt (fun w => (k.mp w).1 z)
    · rw [hc] at z y
      refine ih (i + 1) _ (by omega) (fun j hj => ?_)
      rw [b_or, ce_b1 (by omega), hx j hj]
      by_cases e : i = j
      · subst e; rw [k.mpr ⟨z, y⟩]; simp
      · by_cases w : j < i
        · simp [e, w, Nat.lt_succ_of_lt w]
        · have w2 : ¬ j < i + 1 := by omega
          simp [e, w, w2]
    · rw [hc] at y
      exact ce_nt (fun w => y (k.mp w).2)
theorem cy_s0 {V C : Nat} {cc mc ce me rd : Int32} {U K L ys yc ym : Nat → Int32} {F H : Nat} {post : Int32 → Prop} (hF : F < 256) (k : ce_K U K F H C) (hp : post (nI F)) : wpY_slots post (nI V, nI C, cc, mc, ce, me, rd, U, K, L, ys, yc, ym) 0 :=
  br_t rfl ⟨9, cy_s16 hF (ce_K_f k) hp 8 0 0 rfl (fun j _ => by rw [b_0]; simp)⟩
theorem cy_s1 {V C : Nat} {cc mc ce me rd : Int32} {U K L ys yc ym : Nat → Int32} {F H : Nat} {post : Int32 → Prop} (hH : H < 256) (k : ce_K U K F H C) (hp : post (nI H)) : wpY_slots post (nI V, nI C, cc, mc, ce, me, rd, U, K, L, ys, yc, ym) 1 :=
  br_f (by decide) (br_t rfl ⟨9, cy_s16 hH (ce_K_h k) hp 8 0 0 rfl (fun j _ => by rw [b_0]; simp)⟩)
theorem cy_sub {V C : Nat} {cc mc ce me rd : Int32} {U K L ys yc ym : Nat → Int32} {F H : Nat} {post : Int32 → Prop} {x : Int32} (hF : F < 256) (k : ce_K U K F H C) (ht : x &&& (nI F ^^^ (-1)) = 0 → post 1) (hf : ¬ x &&& (nI F ^^^ (-1)) = 0 → post 0) : wpY_isSubset post (nI V, nI C, cc, mc, ce, me, rd, U, K, L, ys, yc, ym) x := by
  refine br_c (fun z => hf (fun w => ?_)) (fun z => cy_s0 hF k (br_c ht hf))
  obtain ⟨m, hm, rfl, _⟩ := ce_small hF w
  exact nI_pos (by omega) z
theorem cy_subN {V C : Nat} {cc mc ce me rd : Int32} {U K L ys yc ym : Nat → Int32} {F H : Nat} {post : Int32 → Prop} {m : Nat} (hm : m < 256) (hF : F < 256) (k : ce_K U K F H C) (ht : ce_sub m F → post 1) (hf : ¬ ce_sub m F → post 0) : wpY_isSubset post (nI V, nI C, cc, mc, ce, me, rd, U, K, L, ys, yc, ym) (nI m) :=
  cy_sub hF k (fun z => ht ((ce_inN hm).mp z)) (fun z => hf (fun q => z ((ce_inN hm).mpr q)))
theorem cy_lt {V C : Nat} {cc mc ce me rd : Int32} {U K L ys yc ym : Nat → Int32} {post : Int32 → Prop} {x a : Int32} (ht : ce_lt x a → post 1) (hf : ¬ ce_lt x a → post 0) : wpY_literalTrue post (nI V, nI C, cc, mc, ce, me, rd, U, K, L, ys, yc, ym) x a := by
  refine br_c (fun l => br_c (fun g => hf ?_) (fun g => br_c (fun z => ht (Or.inr ⟨g, z⟩)) (fun z => hf ?_))) (fun l => br_c (fun z => hf ?_) (fun z => ht (Or.inl ⟨l, z⟩)))
  · rintro (w | w)
    · exact w.1 l
    · exact w.1 g
  · rintro (w | w)
    · exact w.1 l
    · exact z w.2
  · rintro (w | w)
    · exact w.2 z
    · exact w.1 (Int32.le_of_lt (Int32.not_le.mp l))
theorem cy_48 {V C : Nat} {cc mc ce me rd : Int32} {U K L ys yc ym : Nat → Int32} {post J : Int32 → Prop} {x1 a x4 : Int32} {s : Nat} (hs : s < 8) (h0 : x4 = 0 → J (nI s + 1)) (h1 : ¬ x4 = 0 → ce_cl L s a → J (nI s + 1)) (h2 : ¬ x4 = 0 → ¬ ce_cl L s a → post 0) :
    ∀ d p x5, p + d = 3 → (x5 = 0 ↔ ¬ ∃ q, q < p ∧ ce_lt (L (s * 3 + q)) a) → wY_allTrue_48 post J x1 a (nI s) x4 (nI V) (nI C) cc mc ce me rd U K L ys yc ym (d + 1) x5 (nI p) := by
  intro d
  induction d with
  | zero =>
    intro p x5 hp hx
    have e : p = 3 := by omega
    subst e
    exact br_t (nI_le (a := 3) (Nat.le_refl _) (by decide)) (br_c (fun z => nm_e (h0 z)) (fun z => br_c (fun y => h2 z (hx.mp y)) (fun y => nm_e (h1 z (Classical.byContradiction (fun w => y (hx.mpr w)))))))
  | succ d ih =>
    intro p x5 hp hx
    have e : (3 : Int32) * nI s + nI p = nI (s * 3 + p) := by
      rw [show (3 : Int32) * nI s = nI (3 * s) from pk_mul 3 s, nI_add, Nat.mul_comm]
    have hi : vp_in ((3 : Int32) * nI s + nI p) 24 := by rw [e]; exact vp_in_nI (by omega) (by decide)
    have hc : ((3 : Int32) * nI s + nI p).toNatClampNeg = s * 3 + p := by rw [e]; exact nI_clamp (by omega)
    refine br_f (nI_ge (b := 3) (by omega) (by decide)) ⟨hi, ?_⟩
    rw [hc]
    refine cy_lt (fun h => br_f (by decide) (nm_r (nI_1 p) (ih (p + 1) _ (by omega) ⟨fun z => absurd z (by decide), fun z => absurd ⟨p, by omega, h⟩ z⟩))) (fun h => br_t rfl (nm_r (nI_1 p) (ih (p + 1) _ (by omega) ?_)))
    rw [hx]
    constructor
    · rintro z ⟨q, hq, hl⟩
      by_cases e : q = p
      · subst e; exact h hl
      · exact z ⟨q, by omega, hl⟩
    · rintro z ⟨q, hq, hl⟩
      exact z ⟨q, by omega, hl⟩
theorem cy_at2 {V C : Nat} {cc mc ce me rd : Int32} {U K L ys yc ym : Nat → Int32} {F H : Nat} {post : Int32 → Prop} {m : Nat} {a : Int32} (k : ce_K U K F H C) (hF : F < 256) (hH : H < 256) (hm : ce_sub m F) (ht : ce_all L (m ||| H) a → post 1) (hf : ¬ ce_all L (m ||| H) a → post 0) :
    ∀ d s : Nat, s + d = 8 → (∀ q, q < s → (m ||| H).testBit q = true → ce_cl L q a) → wY_allTrue_2 post (nI m) a (nI V) (nI C) cc mc ce me rd U K L ys yc ym (d + 1) (nI s) := by
  intro d
  induction d with
  | zero =>
    intro s hs hq
    have hb : m ||| H < 256 := Nat.or_lt_two_pow (n := 8) (ce_sub_lt hF hm) hH
    exact br_t (nI_le (a := 8) (by omega) (by omega)) (ht (fun q z => hq q (by have := ce_lo hb z; omega) z))
  | succ d ih =>
    intro s hs hq
    have hin : vp_in (nI s) 8 := vp_in_nI (by omega) (by decide)
    have hc : (nI s).toNatClampNeg = s := nI_clamp (by omega)
    have next : ((m ||| H).testBit s = true → ce_cl L s a) → wY_allTrue_2 post (nI m) a (nI V) (nI C) cc mc ce me rd U K L ys yc ym (d + 1) (nI s + 1) := by
      intro z
      rw [nI_1 s]
      exact ih (s + 1) (by omega) (fun q h hb => by
        by_cases e : q = s
        · subst e; exact z hb
        · exact hq q (by omega) hb)
    have hx0 : (0 : Int32) = 0 ↔ ¬ ∃ q, q < 0 ∧ ce_lt (L (s * 3 + q)) a := ⟨fun _ ⟨q, hq, _⟩ => Nat.not_lt_zero q hq, fun _ => rfl⟩
    have no : (m ||| H).testBit s = false → ∃ n, wY_allTrue_48 post (wY_allTrue_2 post (nI m) a (nI V) (nI C) cc mc ce me rd U K L ys yc ym (d + 1)) (nI m) a (nI s) 0 (nI V) (nI C) cc mc ce me rd U K L ys yc ym n 0 0 :=
      fun z => ⟨4, cy_48 (by omega) (fun _ => next (fun w => by rw [z] at w; cases w)) (fun h => absurd rfl h) (fun h => absurd rfl h) 3 0 0 rfl hx0⟩
    have yes : (m ||| H).testBit s = true → ∃ n, wY_allTrue_48 post (wY_allTrue_2 post (nI m) a (nI V) (nI C) cc mc ce me rd U K L ys yc ym (d + 1)) (nI m) a (nI s) 1 (nI V) (nI C) cc mc ce me rd U K L ys yc ym n 0 0 :=
      fun z => ⟨4, cy_48 (by omega) (fun h => absurd h (by decide)) (fun _ h => next (fun _ => h)) (fun _ h => hf (fun w => h (w s z))) 3 0 0 rfl hx0⟩
    have ks := k s (by omega)
    refine br_f (nI_ge (b := 8) (by omega) (by decide)) ⟨hin, ?_⟩
    rw [hc]
    have hor : (m ||| H).testBit s = (m.testBit s || H.testBit s) := Nat.testBit_or _ _ _
    refine br_c (fun z => no ?_) (fun z => ⟨hin, br_c (fun y => yes ?_) (fun y => br_c (fun w => no ?_) (fun w => yes ?_))⟩)
    · rcases ks with ⟨a1, a2, a3⟩ | ⟨_, a1, _⟩ | ⟨_, a1, _⟩
      · have hms : m.testBit s = false := ce_nt (fun w => by have := hm s w; rw [a2] at this; cases this)
        rw [hor, hms, a3]; rfl
      · exact absurd z a1
      · exact absurd z a1
    · have hh : H.testBit s = true := (ce_K_h k s (by omega)).mpr ⟨z, y⟩
      rw [hor, hh, Bool.or_true]
    · have hh : H.testBit s = false := ce_nt (fun q => y ((ce_K_h k s (by omega)).mp q).2)
      rw [hor, hh, (ce_hasN m (by omega)).mp w]; rfl
    · rw [hor, ce_nf (fun q => w ((ce_hasN m (by omega)).mpr q))]; rfl
theorem cy_at {V C : Nat} {cc mc ce me rd : Int32} {U K L ys yc ym : Nat → Int32} {F H : Nat} {post : Int32 → Prop} {m : Nat} {a : Int32} (k : ce_K U K F H C) (hF : F < 256) (hH : H < 256) (hm : ce_sub m F) (ht : ce_all L (m ||| H) a → post 1) (hf : ¬ ce_all L (m ||| H) a → post 0) : wpY_allTrue post (nI V, nI C, cc, mc, ce, me, rd, U, K, L, ys, yc, ym) (nI m) a :=
  ⟨9, cy_at2 k hF hH hm ht hf 8 0 rfl (fun q h => absurd h (Nat.not_lt_zero q))⟩
theorem cy_w13 {V C : Nat} {cc mc ce me rd : Int32} {U K L ys yc ym : Nat → Int32} {F H : Nat} {post : Int32 → Prop} {m N : Nat} (hV : V ≤ 5) (hN : N = 2 ^ V) (k : ce_K U K F H C) (hF : F < 256) (hH : H < 256) (hm : ce_sub m F) (hp : ∀ r, ce_least (fun a => ce_all L (m ||| H) (nI a)) N r → post r) :
    ∀ d a : Nat, a + d = N → (∀ b, b < a → ¬ ce_all L (m ||| H) (nI b)) → wY_witness_13 post (nI m) (nI V) (nI C) cc mc ce me rd U K L ys yc ym (d + 1) (nI a) := by
  have hN32 : N ≤ 32 := hN ▸ ce_v32 hV
  intro d
  induction d with
  | zero =>
    intro a ha hb
    have h : post (-19) := hp _ (Or.inr ⟨fun b h => hb b (by omega), rfl⟩)
    exact br_c (fun _ => h) (fun _ => br_t (by rw [ce_sh V hV, ← hN]; exact nI_le (by omega) (by omega)) h)
  | succ d ih =>
    intro a ha hb
    refine br_f (nI_ge (b := 32) (by omega) (by decide)) (br_f (by rw [ce_sh V hV, ← hN]; exact nI_ge (by omega) (by omega)) ?_)
    refine cy_at k hF hH hm (fun h => br_f (by decide) (hp _ (Or.inl ⟨a, by omega, h, hb, rfl⟩))) (fun h => br_t rfl (nm_r (nI_1 a) ?_))
    exact ih (a + 1) (by omega) (fun b hb' => by
      by_cases e : b = a
      · subst e; exact h
      · exact hb b (by omega))
theorem cy_w {V C : Nat} {cc mc ce me rd : Int32} {U K L ys yc ym : Nat → Int32} {F H : Nat} {post : Int32 → Prop} {x : Int32} (hV : V ≤ 5) (k : ce_K U K F H C) (hF : F < 256) (hH : H < 256)
    (ht : ∀ m, m < 256 → x = nI m → ce_sub m F → ∀ r, ce_least (fun a => ce_all L (m ||| H) (nI a)) (2 ^ V) r → post r) (hf : ¬ x &&& (nI F ^^^ (-1)) = 0 → post (-18)) : wpY_witness post (nI V, nI C, cc, mc, ce, me, rd, U, K, L, ys, yc, ym) x := by
  unfold wpY_witness
  refine cy_sub hF k (fun z => br_f (by decide) ?_) (fun z => br_t rfl (hf z))
  obtain ⟨m, hm, rfl, hs⟩ := ce_small hF z
  exact ⟨2 ^ V + 1, cy_w13 hV rfl k hF hH hs (ht m hm rfl hs) (2 ^ V) 0 (Nat.zero_add _) (fun q h => absurd h (Nat.not_lt_zero q))⟩
end
section
/-! Y: isCore, isMaximal, enumerate, verdict, greatestOpen -/
theorem cy_ic28 {V C : Nat} {cc mc ce me rd : Int32} {U K L ys yc ym : Nat → Int32} {F H : Nat} {post : Int32 → Prop} {m : Nat} (hm : m < 256) (hs : ce_sub m F) (T : ce_tab (ce_P L V F H) 256 ys)
    (ht : (∀ x, ce_sub x m → x ≠ m → ce_S L V H x) → post 1) (hf : ¬ (∀ x, ce_sub x m → x ≠ m → ce_S L V H x) → post 0) :
    ∀ d i : Nat, i + d = 256 → (∀ x, x < i → ce_sub x m → x ≠ m → ce_S L V H x) → wY_isCore_28 post (nI m) (nI V) (nI C) cc mc ce me rd U K L ys yc ym (d + 1) (nI i) := by
  intro d
  induction d with
  | zero =>
    intro i hi hq
    exact br_t (nI_le (a := 256) (by omega) (by omega)) (ht (fun x h1 => hq x (by have := ce_sub_lt hm h1; omega) h1))
  | succ d ih =>
    intro i hi hq
    have next : (ce_sub i m → i ≠ m → ce_S L V H i) → wY_isCore_28 post (nI m) (nI V) (nI C) cc mc ce me rd U K L ys yc ym (d + 1) (nI i + 1) := by
      intro z
      rw [nI_1 i]
      exact ih (i + 1) (by omega) (fun x h => by
        by_cases e : x = i
        · subst e; exact z
        · exact hq x (by omega))
    have hc : (nI i).toNatClampNeg = i := nI_clamp (by omega)
    have t := T i (by omega)
    refine br_f (nI_ge (b := 256) (by omega) (by decide)) (br_c (fun z => nm_e (next (fun _ w => ?_))) (fun z => br_c (fun y => ⟨vp_in_nI (by omega) (by decide), br_c (fun w => hf (fun g => ?_)) (fun w => nm_e (next (fun _ _ => ?_)))⟩) (fun y => nm_e (next (fun g => ?_)))))
    · exact absurd ((nI_eq (by omega) (by omega)).mp z) w
    · rw [hc] at w
      have hsub := (ce_inN (by omega)).mp y
      exact t.mp w ⟨ce_sub_trans hsub hs, g i hsub (fun e => z (by rw [e]))⟩
    · rw [hc] at w
      exact Classical.byContradiction (fun g => w (t.mpr (fun q => g q.2)))
    · exact absurd ((ce_inN (by omega)).mpr g) y
theorem cy_ic {V C : Nat} {cc mc ce me rd : Int32} {U K L ys yc ym : Nat → Int32} {F H : Nat} {post : Int32 → Prop} {m : Nat} (k : ce_K U K F H C) (hF : F < 256) (hm : m < 256) (T : ce_tab (ce_P L V F H) 256 ys)
    (ht : ce_core (ce_S L V H) F m → post 1) (hf : ¬ ce_core (ce_S L V H) F m → post 0) : wpY_isCore post (nI V, nI C, cc, mc, ce, me, rd, U, K, L, ys, yc, ym) (nI m) := by
  unfold wpY_isCore
  have t := T _ hm
  have hc : (nI m).toNatClampNeg = m := nI_clamp (by omega)
  have q := ce_core_all (S := ce_S L V H) (F := F) (m := m) ce_S_sub
  refine cy_subN hm hF k (fun hs => br_f (by decide) (br_f (nI_nlt (a := 255) (by omega) (by decide)) ⟨vp_in_nI hm (by decide), br_c (fun z => ?_) (fun z => ?_)⟩)) (fun hs => br_t rfl (hf (fun w => hs w.1)))
  · rw [hc] at z
    have hn : ¬ ce_S L V H m := fun w => t.mp z ⟨hs, w⟩
    exact ⟨257, cy_ic28 hm hs T (fun h => ht (q.mpr ⟨hs, hn, h⟩)) (fun h => hf (fun w => h (q.mp w).2.2)) 256 0 rfl (fun x h => absurd h (Nat.not_lt_zero x))⟩
  · rw [hc] at z
    exact hf (fun w => z (t.mpr (fun y => w.2.1 y.2)))
theorem cy_im28 {V C : Nat} {cc mc ce me rd : Int32} {U K L ys yc ym : Nat → Int32} {F H : Nat} {post : Int32 → Prop} {m : Nat} (hm : m < 256) (hF : F < 256) (T : ce_tab (ce_P L V F H) 256 ys)
    (ht : (∀ x, ce_sub m x → ce_sub x F → x ≠ m → ¬ ce_S L V H x) → post 1) (hf : ¬ (∀ x, ce_sub m x → ce_sub x F → x ≠ m → ¬ ce_S L V H x) → post 0) :
    ∀ d i : Nat, i + d = 256 → (∀ x, x < i → ce_sub m x → ce_sub x F → x ≠ m → ¬ ce_S L V H x) → wY_isMaximal_28 post (nI m) (nI V) (nI C) cc mc ce me rd U K L ys yc ym (d + 1) (nI i) := by
  intro d
  induction d with
  | zero =>
    intro i hi hq
    exact br_t (nI_le (a := 256) (by omega) (by omega)) (ht (fun x h1 h2 => hq x (by have := ce_sub_lt hF h2; omega) h1 h2))
  | succ d ih =>
    intro i hi hq
    have next : (ce_sub m i → ce_sub i F → i ≠ m → ¬ ce_S L V H i) → wY_isMaximal_28 post (nI m) (nI V) (nI C) cc mc ce me rd U K L ys yc ym (d + 1) (nI i + 1) := by
      intro z
      rw [nI_1 i]
      exact ih (i + 1) (by omega) (fun x h => by
        by_cases e : x = i
        · subst e; exact z
        · exact hq x (by omega))
    have hc : (nI i).toNatClampNeg = i := nI_clamp (by omega)
    have t := T i (by omega)
    refine br_f (nI_ge (b := 256) (by omega) (by decide)) (br_c (fun z => nm_e (next (fun _ _ w => ?_))) (fun z => br_c (fun y => ⟨vp_in_nI (by omega) (by decide), br_c (fun w => nm_e (next (fun _ g1 _ g => ?_))) (fun w => hf (fun g => ?_))⟩) (fun y => nm_e (next (fun g => ?_)))))
    · exact absurd ((nI_eq (by omega) (by omega)).mp z) w
    · rw [hc] at w
      exact t.mp w ⟨g1, g⟩
    · rw [hc] at w
      have p : ce_P L V F H i := Classical.byContradiction (fun q => w (t.mpr q))
      exact g i ((ce_inN hm).mp y) p.1 (fun e => z (by rw [e])) p.2
    · exact absurd ((ce_inN hm).mpr g) y
theorem cy_im {V C : Nat} {cc mc ce me rd : Int32} {U K L ys yc ym : Nat → Int32} {F H : Nat} {post : Int32 → Prop} {m : Nat} (k : ce_K U K F H C) (hF : F < 256) (hm : m < 256) (T : ce_tab (ce_P L V F H) 256 ys)
    (ht : ce_maxi (ce_S L V H) F m → post 1) (hf : ¬ ce_maxi (ce_S L V H) F m → post 0) : wpY_isMaximal post (nI V, nI C, cc, mc, ce, me, rd, U, K, L, ys, yc, ym) (nI m) := by
  unfold wpY_isMaximal
  have t := T _ hm
  have hc : (nI m).toNatClampNeg = m := nI_clamp (by omega)
  have q := ce_maxi_all (S := ce_S L V H) (F := F) (m := m) ce_S_sub
  refine cy_subN hm hF k (fun hs => br_f (by decide) (br_f (nI_nlt (a := 255) (by omega) (by decide)) ⟨vp_in_nI hm (by decide), br_c (fun z => ?_) (fun z => ?_)⟩)) (fun hs => br_t rfl (hf (fun w => hs w.1)))
  · rw [hc] at z
    exact hf (fun w => t.mp z ⟨hs, w.2.1⟩)
  · rw [hc] at z
    have hn : ce_S L V H m := Classical.byContradiction (fun w => z (t.mpr (fun y => w y.2)))
    exact ⟨257, cy_im28 hm hF T (fun h => ht (q.mpr ⟨hs, hn, h⟩)) (fun h => hf (fun w => h (q.mp w).2.2)) 256 0 rfl (fun x h => absurd h (Nat.not_lt_zero x))⟩
theorem cy_e106 {V C : Nat} {cc ce me rd : Int32} {U K L ys yc : Nat → Int32} {F H : Nat} {post : Int32 → SY → Prop} (k : ce_K U K F H C) (hF : F < 256) (T : ce_tab (ce_P L V F H) 256 ys)
    (hp : ∀ a, ce_ar (ce_ls (ce_maxi (ce_S L V H) F) (fun k => 255 - k) 256) a → post (cc + nI (ce_ls (ce_maxi (ce_S L V H) F) (fun k => 255 - k) 256).length) (nI V, nI C, cc, nI (ce_ls (ce_maxi (ce_S L V H) F) (fun k => 255 - k) 256).length, ce, me, rd, U, K, L, ys, yc, a)) :
    ∀ j i a, i + j = 256 → ce_ar (ce_ls (ce_maxi (ce_S L V H) F) (fun k => 255 - k) i) a → wY_enumerate_106 post (nI V) (nI C) cc ce me rd (j + 1) (nI j + (-1)) (nI (ce_ls (ce_maxi (ce_S L V H) F) (fun k => 255 - k) i).length) U K L ys yc a := by
  intro j
  induction j with
  | zero =>
    intro i a hi A
    have e : i = 256 := by omega
    subst e
    exact br_t (by decide) (hp a A)
  | succ j ih =>
    intro i a hi A
    have hl := ce_ls_len (ce_maxi (ce_S L V H) F) (fun k => 255 - k) i
    have hij : 255 - i = j := by omega
    rw [pk_m1 j]
    refine br_f (nI_pos (by omega)) ?_
    refine cy_im k hF (by omega) T (fun h => br_f (by decide) ⟨vp_in_nI (by omega) (by decide), nm_e (nm_e (nm_e ?_))⟩) (fun h => br_t rfl (nm_e ?_))
    · rw [nI_clamp (by omega), nI_1 (ce_ls (ce_maxi (ce_S L V H) F) (fun k => 255 - k) i).length]
      have q := ih (i + 1) (upd a (ce_ls (ce_maxi (ce_S L V H) F) (fun k => 255 - k) i).length (nI j)) (by omega)
      rw [ce_ls_t (P := ce_maxi (ce_S L V H) F) (f := fun k => 255 - k) (n := i) (by show ce_maxi (ce_S L V H) F (255 - i); rw [hij]; exact h), List.length_append, hij] at q
      exact q (ce_ar_put A)
    · have q := ih (i + 1) a (by omega)
      rw [ce_ls_f (P := ce_maxi (ce_S L V H) F) (f := fun k => 255 - k) (n := i) (by show ¬ ce_maxi (ce_S L V H) F (255 - i); rw [hij]; exact h)] at q
      exact q A
theorem cy_e61 {V C : Nat} {ce me rd : Int32} {U K L ys ym : Nat → Int32} {F H : Nat} {post : Int32 → SY → Prop} (k : ce_K U K F H C) (hF : F < 256) (T : ce_tab (ce_P L V F H) 256 ys)
    (hp : ∀ c a, ce_ar (ce_ls (ce_core (ce_S L V H) F) (fun k => k) 256) c → ce_ar (ce_ls (ce_maxi (ce_S L V H) F) (fun k => 255 - k) 256) a → post (nI (ce_ls (ce_core (ce_S L V H) F) (fun k => k) 256).length + nI (ce_ls (ce_maxi (ce_S L V H) F) (fun k => 255 - k) 256).length) (nI V, nI C, nI (ce_ls (ce_core (ce_S L V H) F) (fun k => k) 256).length, nI (ce_ls (ce_maxi (ce_S L V H) F) (fun k => 255 - k) 256).length, ce, me, rd, U, K, L, ys, c, a)) :
    ∀ d i c, i + d = 256 → ce_ar (ce_ls (ce_core (ce_S L V H) F) (fun k => k) i) c → wY_enumerate_61 post (nI V) (nI C) 0 ce me rd (d + 1) (nI i) (nI (ce_ls (ce_core (ce_S L V H) F) (fun k => k) i).length) U K L ys c ym := by
  intro d
  induction d with
  | zero =>
    intro i c hi A
    have e : i = 256 := by omega
    subst e
    have q := cy_e106 (ce := ce) (me := me) (rd := rd) (yc := c) (cc := nI (ce_ls (ce_core (ce_S L V H) F) (fun k => k) 256).length) (post := post) k hF T (fun a B => hp c a A B) 256 0 ym rfl (ce_ar0 _)
    rw [show nI 256 + (-1) = 255 by decide] at q
    exact br_t (nI_le (a := 256) (Nat.le_refl _) (by decide)) ⟨257, q⟩
  | succ d ih =>
    intro i c hi A
    have hl := ce_ls_len (ce_core (ce_S L V H) F) (fun k => k) i
    refine br_f (nI_ge (b := 256) (by omega) (by decide)) ?_
    refine cy_ic k hF (by omega) T (fun h => br_f (by decide) ⟨vp_in_nI (by omega) (by decide), nm_e (nm_e (nm_e ?_))⟩) (fun h => br_t rfl (nm_e ?_))
    · rw [nI_clamp (by omega), nI_1 i, nI_1 (ce_ls (ce_core (ce_S L V H) F) (fun k => k) i).length]
      have q := ih (i + 1) (upd c (ce_ls (ce_core (ce_S L V H) F) (fun k => k) i).length (nI i)) (by omega)
      rw [ce_ls_t (P := ce_core (ce_S L V H) F) (f := fun k => k) (n := i) h, List.length_append] at q
      exact q (ce_ar_put A)
    · have q := ih (i + 1) c (by omega)
      rw [ce_ls_f (P := ce_core (ce_S L V H) F) (f := fun k => k) (n := i) h] at q
      rw [nI_1 i]
      exact q A
theorem cy_e27 {V C : Nat} {ce me rd : Int32} {U K L yc ym : Nat → Int32} {F H : Nat} {post : Int32 → SY → Prop} (hV : V ≤ 5) (k : ce_K U K F H C) (hF : F < 256) (hH : H < 256)
    (hp : ∀ t c a, ce_ar (ce_ls (ce_core (ce_S L V H) F) (fun k => k) 256) c → ce_ar (ce_ls (ce_maxi (ce_S L V H) F) (fun k => 255 - k) 256) a → post (nI (ce_ls (ce_core (ce_S L V H) F) (fun k => k) 256).length + nI (ce_ls (ce_maxi (ce_S L V H) F) (fun k => 255 - k) 256).length) (nI V, nI C, nI (ce_ls (ce_core (ce_S L V H) F) (fun k => k) 256).length, nI (ce_ls (ce_maxi (ce_S L V H) F) (fun k => 255 - k) 256).length, ce, me, rd, U, K, L, t, c, a)) :
    ∀ d i t, i + d = 256 → ce_tab (ce_P L V F H) i t → wY_enumerate_27 post (nI V) (nI C) 0 0 ce me rd (d + 1) (nI i) U K L t yc ym := by
  intro d
  induction d with
  | zero =>
    intro i t hi T
    have e : i = 256 := by omega
    subst e
    exact br_t (nI_le (a := 256) (Nat.le_refl _) (by decide)) ⟨257, cy_e61 k hF T (fun c a A B => hp t c a A B) 256 0 yc rfl (ce_ar0 _)⟩
  | succ d ih =>
    intro i t hi T
    have hin : vp_in (nI i) 256 := vp_in_nI (by omega) (by decide)
    have hc : (nI i).toNatClampNeg = i := nI_clamp (by omega)
    have go : ∀ x, (x = 0 ↔ ¬ ce_P L V F H i) → wY_enumerate_27 post (nI V) (nI C) 0 0 ce me rd (d + 1) (nI i + 1) U K L (upd t (nI i).toNatClampNeg x) yc ym := by
      intro x hx
      rw [hc, nI_1 i]
      exact ih (i + 1) _ (by omega) (ce_tab_put T hx)
    refine br_f (nI_ge (b := 256) (by omega) (by decide)) ?_
    refine cy_w hV k hF hH (fun m hm em hs r hr => ?_) (fun z => br_t (by decide) ⟨hin, nm_e (nm_e (go _ ⟨fun _ w => z ((ce_inN (by omega)).mpr w.1), fun _ => ce_nb0⟩))⟩)
    have e : i = m := (nI_eq (by omega) (by omega)).mp em
    subst e
    have q := ce_least_s (by have := ce_v32 hV; omega) hr
    have n : r < 0 ↔ r = -19 := by
      rcases hr with ⟨a, ha, _, _, rfl⟩ | ⟨_, rfl⟩
      · have := ce_v32 hV
        exact ⟨fun z => absurd z (nI_pos (by omega)), fun z => absurd z (ce_n19 (by omega))⟩
      · exact ⟨fun _ => rfl, fun _ => by decide⟩
    refine br_c (fun z => ⟨hin, nm_e (nm_e (go _ ⟨fun _ w => q.mp (n.mp z) w.2, fun _ => ce_nb0⟩))⟩) (fun z => ⟨hin, nm_e (nm_e (go _ ⟨fun w => ?_, fun w => ?_⟩))⟩)
    · rw [ce_nb1] at w; exact absurd w (by decide)
    · exact absurd ⟨hs, Classical.byContradiction (fun y => z (n.mpr (q.mpr y)))⟩ w
theorem cy_en {V C : Nat} {cc mc ce me rd : Int32} {U K L ys yc ym : Nat → Int32} {F H : Nat} {post : Int32 → SY → Prop} (hV : V ≤ 5) (k : ce_K U K F H C) (hF : F < 256) (hH : H < 256)
    (hp : ∀ t c a, ce_ar (ce_ls (ce_core (ce_S L V H) F) (fun k => k) 256) c → ce_ar (ce_ls (ce_maxi (ce_S L V H) F) (fun k => 255 - k) 256) a → post (nI (ce_ls (ce_core (ce_S L V H) F) (fun k => k) 256).length + nI (ce_ls (ce_maxi (ce_S L V H) F) (fun k => 255 - k) 256).length) (nI V, nI C, nI (ce_ls (ce_core (ce_S L V H) F) (fun k => k) 256).length, nI (ce_ls (ce_maxi (ce_S L V H) F) (fun k => 255 - k) 256).length, 0, 0, 1, U, K, L, t, c, a)) : wpY_enumerate post (nI V, nI C, cc, mc, ce, me, rd, U, K, L, ys, yc, ym) :=
  ⟨257, cy_e27 hV k hF hH hp 256 0 ys rfl (ce_tab0 _ _)⟩
theorem cy_v61 {V C : Nat} {cc mc me rd : Int32} {U K L ys yc ym : Nat → Int32} {post : Int32 → Prop} {cl : List Nat} {e m : Nat} (he : e ≤ cl.length) (hl : cl.length ≤ 256) (hb : ∀ x, x ∈ cl → x < 256) (A : ce_ar cl yc)
    (ht : ce_dn1 cl e m → post 2) (hf : ¬ ce_dn1 cl e m → post 0) :
    ∀ d k : Nat, k + d = e → (∀ q x, q < k → cl[q]? = some x → ¬ ce_sub x m) → wY_verdict_61 post (nI m) (nI V) (nI C) cc mc (nI e) me rd U K L ys yc ym (d + 1) (nI k) := by
  intro d
  induction d with
  | zero =>
    intro k hk hq
    have h : post 0 := hf (fun ⟨q, x, h1, h2, h3⟩ => hq q x (by omega) h2 h3)
    exact br_c (fun _ => h) (fun _ => br_t (nI_le (by omega) (by omega)) h)
  | succ d ih =>
    intro k hk hq
    obtain ⟨x, hx, hx2, hx3⟩ := ce_ar_get A (k := k) (by omega)
    refine br_f (nI_ge (b := 256) (by omega) (by decide)) (br_f (nI_ge (by omega) (by omega)) ⟨vp_in_nI (by omega) (by decide), ?_⟩)
    rw [nI_clamp (show k < 2 ^ 31 by omega), hx3]
    refine br_c (fun hs => ht ⟨k, x, by omega, hx2, (ce_inN (hb x hx)).mp hs⟩) (fun hs => nm_r (nI_1 k) ?_)
    exact ih (k + 1) (by omega) (fun q y h h2 h3 => by
      by_cases e : q = k
      · subst e
        rw [hx2] at h2
        cases h2
        exact hs ((ce_inN (hb x hx)).mpr h3)
      · exact hq q y (by omega) h2 h3)
theorem cy_v23 {V C : Nat} {cc mc ce rd : Int32} {U K L ys yc ym : Nat → Int32} {post : Int32 → Prop} {ml : List Nat} {g m : Nat} (hm : m < 256) (hg : g ≤ ml.length) (hl : ml.length ≤ 256) (B : ce_ar ml ym)
    (ht : ce_up1 ml g m → post 1) (hf : ¬ ce_up1 ml g m → ∃ n, wY_verdict_61 post (nI m) (nI V) (nI C) cc mc ce (nI g) rd U K L ys yc ym n 0) :
    ∀ d k : Nat, k + d = g → (∀ q x, q < k → ml[q]? = some x → ¬ ce_sub m x) → wY_verdict_23 post (nI m) (nI V) (nI C) cc mc ce (nI g) rd U K L ys yc ym (d + 1) (nI k) := by
  intro d
  induction d with
  | zero =>
    intro k hk hq
    have h := hf (fun ⟨q, x, h1, h2, h3⟩ => hq q x (by omega) h2 h3)
    exact br_c (fun _ => h) (fun _ => br_t (nI_le (by omega) (by omega)) h)
  | succ d ih =>
    intro k hk hq
    obtain ⟨x, hx, hx2, hx3⟩ := ce_ar_get B (k := k) (by omega)
    refine br_f (nI_ge (b := 256) (by omega) (by decide)) (br_f (nI_ge (by omega) (by omega)) ⟨vp_in_nI (by omega) (by decide), ?_⟩)
    rw [nI_clamp (show k < 2 ^ 31 by omega), hx3]
    refine br_c (fun hs => ht ⟨k, x, by omega, hx2, (ce_inN hm).mp hs⟩) (fun hs => nm_r (nI_1 k) ?_)
    exact ih (k + 1) (by omega) (fun q y h h2 h3 => by
      by_cases e : q = k
      · subst e
        rw [hx2] at h2
        cases h2
        exact hs ((ce_inN hm).mpr h3)
      · exact hq q y (by omega) h2 h3)
theorem cy_vd {V C : Nat} {cc mc : Int32} {U K L ys yc ym : Nat → Int32} {F H : Nat} {post : Int32 → Prop} {cl ml : List Nat} {e g : Nat} {x : Int32} (k : ce_K U K F H C) (hF : F < 256) (he : e ≤ cl.length) (hg : g ≤ ml.length) (hlc : cl.length ≤ 256) (hlm : ml.length ≤ 256) (hb : ∀ x, x ∈ cl → x < 256) (A : ce_ar cl yc) (B : ce_ar ml ym)
    (ht : ∀ m, m < 256 → x = nI m → ce_sub m F → ∀ r, ce_jd cl ml e g m r → post r) (hf : ¬ x &&& (nI F ^^^ (-1)) = 0 → post (-18)) : wpY_verdict post (nI V, nI C, cc, mc, nI e, nI g, 1, U, K, L, ys, yc, ym) x := by
  refine br_f (by decide) (cy_sub hF k (fun z => br_f (by decide) ?_) (fun z => br_t rfl (hf z)))
  obtain ⟨m, hm, rfl, hs⟩ := ce_small hF z
  have hp := ht m hm rfl hs
  exact ⟨g + 1, cy_v23 hm hg hlm B (fun h => hp _ (Or.inl ⟨rfl, h⟩))
    (fun h => ⟨e + 1, cy_v61 he hlc hb A (fun h2 => hp _ (Or.inr (Or.inl ⟨rfl, h, h2⟩))) (fun h2 => hp _ (Or.inr (Or.inr ⟨rfl, h, h2⟩))) e 0 (Nat.zero_add e) (fun q _ z => absurd z (Nat.not_lt_zero q))⟩)
    g 0 (Nat.zero_add g) (fun q _ z => absurd z (Nat.not_lt_zero q))⟩
theorem cy_go14 {V C : Nat} {cc mc : Int32} {U K L ys yc ym : Nat → Int32} {F H : Nat} {post : Int32 → Prop} {cl ml : List Nat} {e g : Nat} (k : ce_K U K F H C) (hF : F < 256) (he : e ≤ cl.length) (hg : g ≤ ml.length) (hlc : cl.length ≤ 256) (hlm : ml.length ≤ 256) (hb : ∀ x, x ∈ cl → x < 256) (A : ce_ar cl yc) (B : ce_ar ml ym)
    (hp : ∀ r, ce_great (ce_op cl ml e g F) r → post r) :
    ∀ j : Nat, j ≤ 256 → (∀ m, m < 256 → j ≤ m → ¬ ce_op cl ml e g F m) → wY_greatestOpen_14 post (nI V) (nI C) cc mc (nI e) (nI g) 1 U K L ys yc ym (j + 1) (nI j + (-1)) := by
  intro j
  induction j with
  | zero =>
    intro hj hq
    exact br_t (by decide) (hp _ (Or.inr ⟨fun m hm => hq m hm (Nat.zero_le m), rfl⟩))
  | succ j ih =>
    intro hj hq
    have next : ¬ ce_op cl ml e g F j → wY_greatestOpen_14 post (nI V) (nI C) cc mc (nI e) (nI g) 1 U K L ys yc ym (j + 1) (nI j + (-1)) := by
      intro z
      exact ih (by omega) (fun m hm h => by
        by_cases e : m = j
        · subst e; exact z
        · exact hq m hm (by omega))
    rw [pk_m1 j]
    refine br_f (nI_pos (by omega)) ?_
    refine cy_vd k hF he hg hlc hlm hb A B (fun m hm em hs r hr => ?_) (fun z => br_f (by decide) (nm_e (next (fun w => z ((ce_inN (by omega)).mpr w.1)))))
    have e : j = m := (nI_eq (by omega) (by omega)).mp em
    subst e
    have q := ce_jd_0 hr
    exact br_c (fun z => hp _ (Or.inl ⟨j, by omega, ⟨hs, q.mp z⟩, fun b h1 h2 => hq b h1 (by omega), rfl⟩)) (fun z => nm_e (next (fun w => z (q.mpr w.2))))
theorem cy_go {V C : Nat} {cc mc : Int32} {U K L ys yc ym : Nat → Int32} {F H : Nat} {post : Int32 → Prop} {cl ml : List Nat} {e g : Nat} (k : ce_K U K F H C) (hF : F < 256) (he : e ≤ cl.length) (hg : g ≤ ml.length) (hlc : cl.length ≤ 256) (hlm : ml.length ≤ 256) (hb : ∀ x, x ∈ cl → x < 256) (A : ce_ar cl yc) (B : ce_ar ml ym)
    (hp : ∀ r, ce_great (ce_op cl ml e g F) r → post r) : wpY_greatestOpen post (nI V, nI C, cc, mc, nI e, nI g, 1, U, K, L, ys, yc, ym) := by
  have q := cy_go14 (V := V) (cc := cc) (mc := mc) (L := L) (ys := ys) k hF he hg hlc hlm hb A B hp 256 (Nat.le_refl _) (fun m h1 h2 => absurd h1 (by omega))
  rw [show nI 256 + (-1) = 255 by decide] at q
  exact br_f (by decide) ⟨257, q⟩
end
section
/-! the relation; the slots' changes -/
noncomputable abbrev ce_CL (L : Nat → Int32) (V F H : Nat) : List Nat := ce_ls (ce_core (ce_S L V H) F) (fun k => k) 256
noncomputable abbrev ce_ML (L : Nat → Int32) (V F H : Nat) : List Nat := ce_ls (ce_maxi (ce_S L V H) F) (fun k => 255 - k) 256
theorem ce_CL_b {L : Nat → Int32} {V F H : Nat} : ∀ x, x ∈ ce_CL L V F H → x < 256 := by
  intro x hx
  obtain ⟨k, hk, e, _⟩ := ce_ls_mem.mp hx
  have e : x = k := e
  omega
/-- the lists while both are ready -/
def ce_R (V F H : Nat) (L : Nat → Int32) (cc mc ce me gc gm ge gf rd : Int32) (xc xm yc ym : Nat → Int32) : Prop :=
  rd = 0 ∨ (rd = 1 ∧ ∃ e g : Nat, cc = nI (ce_CL L V F H).length ∧ mc = nI (ce_ML L V F H).length ∧ gc = nI (ce_CL L V F H).length ∧ gm = nI (ce_ML L V F H).length ∧ ce = nI e ∧ ge = nI e ∧ me = nI g ∧ gf = nI g ∧ e ≤ (ce_CL L V F H).length ∧ g ≤ (ce_ML L V F H).length ∧ ce_ar (ce_CL L V F H) xc ∧ ce_ar (ce_CL L V F H) yc ∧ ce_ar (ce_ML L V F H) xm ∧ ce_ar (ce_ML L V F H) ym)
/-- the relation: the same numbers and literals, Y's used and kinds are X's masks, the same lists while ready -/
def i_Rel (k : Nat) (u : SX) (v : SY) : Prop := ∃ (V C F H : Nat) (cc mc ce me gc gm ge gf rd : Int32) (L xc xm xs U K ys yc ym : Nat → Int32),
  u = (nI V, nI C, nI F, nI H, cc, mc, ce, me, rd, L, xc, xm, xs) ∧ v = (nI V, nI C, gc, gm, ge, gf, rd, U, K, L, ys, yc, ym) ∧ V ≤ 5 ∧ C ≤ 8 ∧ F < 256 ∧ H < 256 ∧ ce_K U K F H C ∧ ce_R V F H L cc mc ce me gc gm ge gf rd xc xm yc ym ∧ k = k
theorem ci_mk {k V C F H : Nat} {cc mc ce me gc gm ge gf rd : Int32} {L xc xm xs U K ys yc ym : Nat → Int32} (hV : V ≤ 5) (hC : C ≤ 8) (hF : F < 256) (hH : H < 256) (hK : ce_K U K F H C) (hR : ce_R V F H L cc mc ce me gc gm ge gf rd xc xm yc ym) : i_Rel k (nI V, nI C, nI F, nI H, cc, mc, ce, me, rd, L, xc, xm, xs) (nI V, nI C, gc, gm, ge, gf, rd, U, K, L, ys, yc, ym) :=
  ⟨V, C, F, H, cc, mc, ce, me, gc, gm, ge, gf, rd, L, xc, xm, xs, U, K, ys, yc, ym, rfl, rfl, hV, hC, hF, hH, hK, hR, rfl⟩
theorem i_up {k : Nat} {u : SX} {v : SY} (h : i_Rel k u v) : i_Rel (k + 5) u v := by
  obtain ⟨V, C, F, H, cc, mc, ce, me, gc, gm, ge, gf, rd, L, xc, xm, xs, U, K, ys, yc, ym, rfl, rfl, hV, hC, hF, hH, hK, hR, _⟩ := h
  exact ci_mk hV hC hF hH hK hR
theorem ce_x_ne {m s i : Nat} (h : i ≠ s) : (m ^^^ 2 ^ s).testBit i = m.testBit i := by
  rw [ce_xt, decide_eq_false (fun e => h e.symm), Bool.xor_false]
theorem ce_x_f {m s : Nat} (h : m.testBit s = false) : (m ^^^ 2 ^ s).testBit s = true := by
  rw [ce_xt, h]; simp
theorem ce_x_t {m s : Nat} (h : m.testBit s = true) : (m ^^^ 2 ^ s).testBit s = false := by
  rw [ce_xt, h]; simp
theorem ce_K_put {U K U' K' : Nat → Int32} {F H F' H' C s : Nat} (k : ce_K U K F H C) (hU : ∀ i, i ≠ s → U' i = U i) (hK : ∀ i, i ≠ s → K' i = K i) (hF : ∀ i, i ≠ s → F'.testBit i = F.testBit i) (hH : ∀ i, i ≠ s → H'.testBit i = H.testBit i)
    (h : (U' s = 0 ∧ F'.testBit s = false ∧ H'.testBit s = false) ∨ (s < C ∧ ¬ U' s = 0 ∧ K' s = 0 ∧ F'.testBit s = true ∧ H'.testBit s = false) ∨ (s < C ∧ ¬ U' s = 0 ∧ K' s = 1 ∧ F'.testBit s = false ∧ H'.testBit s = true)) : ce_K U' K' F' H' C := by
  intro i hi
  by_cases e : i = s
  · subst e; exact h
  · rw [hU i e, hK i e, hF i e, hH i e]; exact k i hi
/-- what slot s holds -/
theorem ce_K_occ {U K : Nat → Int32} {F H C s : Nat} (k : ce_K U K F H C) (hs : s < 8) : (F ||| H).testBit s = true ↔ ¬ U s = 0 := by
  rw [Nat.testBit_or]
  rcases k s hs with ⟨a, b, c⟩ | ⟨_, a, b, c, d⟩ | ⟨_, a, b, c, d⟩
  · rw [b, c]; exact ⟨fun z => (nomatch z), fun z => absurd a z⟩
  · rw [c, d]; exact ⟨fun _ => a, fun _ => rfl⟩
  · rw [c, d]; exact ⟨fun _ => a, fun _ => rfl⟩
theorem cx_mk0 {V C F H : Nat} {cc mc ce me rd : Int32} {L xc xm xs : Nat → Int32} {post : SX → Prop} {s : Nat} (hs : s < 32) (h : F.testBit s = false) (hp : post (nI V, nI C, nI (F ^^^ 2 ^ s), nI H, cc, mc, ce, me, rd, L, xc, xm, xs)) : wpX_markKind post (nI V, nI C, nI F, nI H, cc, mc, ce, me, rd, L, xc, xm, xs) (nI s) 0 :=
  nm_e (br_t rfl (nm_r (ce_add hs h) hp))
theorem cx_mk1 {V C F H : Nat} {cc mc ce me rd : Int32} {L xc xm xs : Nat → Int32} {post : SX → Prop} {s : Nat} (hs : s < 32) (h : H.testBit s = false) (hp : post (nI V, nI C, nI F, nI (H ^^^ 2 ^ s), cc, mc, ce, me, rd, L, xc, xm, xs)) : wpX_markKind post (nI V, nI C, nI F, nI H, cc, mc, ce, me, rd, L, xc, xm, xs) (nI s) 1 :=
  nm_e (br_f (by decide) (nm_r (ce_add hs h) hp))
theorem cx_me0 {V C F H : Nat} {cc mc ce me rd : Int32} {L xc xm xs : Nat → Int32} {post : SX → Prop} {s : Nat} (hs : s < 32) (h : F.testBit s = true) (h2 : H.testBit s = false) (hp : post (nI V, nI C, nI (F ^^^ 2 ^ s), nI H, cc, mc, ce, me, rd, L, xc, xm, xs)) : wpX_markEmpty post (nI V, nI C, nI F, nI H, cc, mc, ce, me, rd, L, xc, xm, xs) (nI s) :=
  nm_e (nm_r (ce_del hs h) (nm_r (ce_del0 hs h2) hp))
theorem cx_me1 {V C F H : Nat} {cc mc ce me rd : Int32} {L xc xm xs : Nat → Int32} {post : SX → Prop} {s : Nat} (hs : s < 32) (h : F.testBit s = false) (h2 : H.testBit s = true) (hp : post (nI V, nI C, nI F, nI (H ^^^ 2 ^ s), cc, mc, ce, me, rd, L, xc, xm, xs)) : wpX_markEmpty post (nI V, nI C, nI F, nI H, cc, mc, ce, me, rd, L, xc, xm, xs) (nI s) :=
  nm_e (nm_r (ce_del0 hs h) (nm_r (ce_del hs h2) hp))
theorem cy_bd_t {V C : Nat} {cc mc ce me rd : Int32} {U K L ys yc ym : Nat → Int32} {F H : Nat} {post : Int32 → Prop} {s : Nat} (k : ce_K U K F H C) (hC : C ≤ 8) (hs : s < C) (hb : (F ||| H).testBit s = true) (hp : post 0) : wpY_badSlot post (nI V, nI C, cc, mc, ce, me, rd, U, K, L, ys, yc, ym) (nI s) := by
  refine br_f (nI_pos (by omega)) (br_f (nI_ge hs (by omega)) ⟨vp_in_nI (by omega) (by decide), br_f ?_ hp⟩)
  rw [nI_clamp (by omega)]
  exact (ce_K_occ k (by omega)).mp hb
theorem cy_bd_f {V C : Nat} {cc mc ce me rd : Int32} {U K L ys yc ym : Nat → Int32} {F H : Nat} {post : Int32 → Prop} {x : Int32} (k : ce_K U K F H C) (hC : C ≤ 8) (h : ¬ ce_occ C F H x) (hp : post 1) : wpY_badSlot post (nI V, nI C, cc, mc, ce, me, rd, U, K, L, ys, yc, ym) x := by
  rcases pk_ix x (n := C) (by omega) with z | z | ⟨s, hs, rfl⟩
  · exact br_t z hp
  · exact br_c (fun _ => hp) (fun _ => br_t z hp)
  · refine br_f (nI_pos (by omega)) (br_f (nI_ge hs (by omega)) ⟨vp_in_nI (by omega) (by decide), br_t ?_ hp⟩)
    rw [nI_clamp (by omega)]
    exact Classical.byContradiction (fun z => h ⟨s, hs, rfl, (ce_K_occ k (by omega)).mpr z⟩)
/-- an int within the literals -/
def ce_li (V : Nat) (x : Int32) : Prop := ¬ x < -nI V ∧ ¬ nI V < x
theorem cx_li_t {V C F H : Nat} {cc mc ce me rd : Int32} {L xc xm xs : Nat → Int32} {post : Int32 → Prop} {x : Int32} (h : ce_li V x) (hp : post 1) : wpX_isLiteralOrAbsent post (nI V, nI C, nI F, nI H, cc, mc, ce, me, rd, L, xc, xm, xs) x := br_f h.1 (br_f h.2 hp)
theorem cx_li_f {V C F H : Nat} {cc mc ce me rd : Int32} {L xc xm xs : Nat → Int32} {post : Int32 → Prop} {x : Int32} (h : ¬ ce_li V x) (hp : post 0) : wpX_isLiteralOrAbsent post (nI V, nI C, nI F, nI H, cc, mc, ce, me, rd, L, xc, xm, xs) x := br_c (fun _ => hp) (fun a => br_c (fun _ => hp) (fun b => absurd ⟨a, b⟩ h))
theorem cy_12_f {V C : Nat} {cc mc ce me rd : Int32} {U K L ys yc ym : Nat → Int32} {post : Int32 → SY → Prop} {kd a b c : Int32} (h : ¬ (ce_li V a ∧ ce_li V b ∧ ce_li V c)) (hp : post (-13) (nI V, nI C, cc, mc, ce, me, rd, U, K, L, ys, yc, ym)) : wY_addClause_12 post kd a b c (nI V) (nI C) cc mc ce me rd U K L ys yc ym :=
  br_c (fun _ => hp) (fun q1 => br_c (fun _ => hp) (fun q2 => br_c (fun _ => hp) (fun q3 => br_c (fun _ => hp) (fun q4 => br_c (fun _ => hp) (fun q5 => br_c (fun q6 => absurd ⟨⟨q1, q2⟩, ⟨q3, q4⟩, q5, Int32.not_lt.mpr q6⟩ h) (fun _ => hp))))))
theorem cy_12_t {V C : Nat} {cc mc ce me rd : Int32} {U K L ys yc ym : Nat → Int32} {post : Int32 → SY → Prop} {kd a b c : Int32} (h : ce_li V a ∧ ce_li V b ∧ ce_li V c) (hp : ∃ n, wY_addClause_71 post kd a b c (nI V) (nI C) cc mc ce me rd U K L ys yc ym n 0) : wY_addClause_12 post kd a b c (nI V) (nI C) cc mc ce me rd U K L ys yc ym :=
  br_f h.1.1 (br_f h.1.2 (br_f h.2.1.1 (br_f h.2.1.2 (br_f h.2.2.1 (br_t (Int32.not_lt.mp h.2.2.2) hp)))))
/-- the literals with a new clause in slot s -/
def ce_L3 (L : Nat → Int32) (s : Nat) (a b c : Int32) : Nat → Int32 := upd (upd (upd L (s * 3) a) (s * 3 + 1) b) (s * 3 + 2) c
theorem cy_71t {V C : Nat} {cc mc ce me rd : Int32} {U K L ys yc ym : Nat → Int32} {post : Int32 → SY → Prop} {kd a b c : Int32} {s : Nat} (hC : C ≤ 8) (hs : s < C) (h0 : U s = 0) (hq : ∀ q, q < s → ¬ U q = 0) (hp : post (nI s) (nI V, nI C, cc, mc, ce, me, 0, upd U s 1, upd K s kd, ce_L3 L s a b c, ys, yc, ym)) :
    ∀ d i : Nat, i + d = s → wY_addClause_71 post kd a b c (nI V) (nI C) cc mc ce me rd U K L ys yc ym (d + 1) (nI i) := by
  intro d
  induction d with
  | zero =>
    intro i hi
    have e : i = s := by omega
    subst e
    have hc : (nI i).toNatClampNeg = i := nI_clamp (by omega)
    have hin : vp_in (nI i) 8 := vp_in_nI (by omega) (by decide)
    have e3 : (3 : Int32) * nI i = nI (i * 3) := by rw [Nat.mul_comm]; exact pk_mul 3 i
    have e31 : (3 : Int32) * nI i + 1 = nI (i * 3 + 1) := by rw [e3, nI_1]
    have e32 : (3 : Int32) * nI i + 2 = nI (i * 3 + 2) := by rw [e3]; exact nI_add (i * 3) 2
    have c3 : ((3 : Int32) * nI i).toNatClampNeg = i * 3 := by rw [e3]; exact nI_clamp (by omega)
    have c31 : ((3 : Int32) * nI i + 1).toNatClampNeg = i * 3 + 1 := by rw [e31]; exact nI_clamp (by omega)
    have c32 : ((3 : Int32) * nI i + 2).toNatClampNeg = i * 3 + 2 := by rw [e32]; exact nI_clamp (by omega)
    refine br_f (nI_ge (b := 8) (by omega) (by decide)) (br_f (nI_ge hs (by omega)) ⟨hin, br_t (by rw [hc]; exact h0) ⟨hin, nm_r (e' := upd U i 1) (by rw [hc, ce_nb1]) ⟨hin, nm_r (e' := upd K i kd) (by rw [hc]) ⟨by rw [e3]; exact vp_in_nI (by omega) (by decide), nm_r (e' := upd L (i * 3) a) (by rw [c3]) ⟨by rw [e31]; exact vp_in_nI (by omega) (by decide), nm_r (e' := upd (upd L (i * 3) a) (i * 3 + 1) b) (by rw [c31]) ⟨by rw [e32]; exact vp_in_nI (by omega) (by decide), nm_r (e' := ce_L3 L i a b c) (by rw [c32]; rfl) hp⟩⟩⟩⟩⟩⟩)
  | succ d ih =>
    intro i hi
    have hc : (nI i).toNatClampNeg = i := nI_clamp (by omega)
    exact br_f (nI_ge (b := 8) (by omega) (by decide)) (br_f (nI_ge (by omega) (by omega)) ⟨vp_in_nI (by omega) (by decide), br_f (by rw [hc]; exact hq i (by omega)) (nm_r (nI_1 i) (ih (i + 1) (by omega)))⟩)
theorem cy_71f {V C : Nat} {cc mc ce me rd : Int32} {U K L ys yc ym : Nat → Int32} {post : Int32 → SY → Prop} {kd a b c : Int32} (hC : C ≤ 8) (hq : ∀ q, q < C → ¬ U q = 0) (hp : post (-11) (nI V, nI C, cc, mc, ce, me, rd, U, K, L, ys, yc, ym)) :
    ∀ d i : Nat, i + d = C → wY_addClause_71 post kd a b c (nI V) (nI C) cc mc ce me rd U K L ys yc ym (d + 1) (nI i) := by
  intro d
  induction d with
  | zero =>
    intro i hi
    exact br_c (fun _ => hp) (fun _ => br_t (nI_le (by omega) (by omega)) hp)
  | succ d ih =>
    intro i hi
    have hc : (nI i).toNatClampNeg = i := nI_clamp (by omega)
    exact br_f (nI_ge (b := 8) (by omega) (by decide)) (br_f (nI_ge (by omega) (by omega)) ⟨vp_in_nI (by omega) (by decide), br_f (by rw [hc]; exact hq i (by omega)) (nm_r (nI_1 i) (ih (i + 1) (by omega)))⟩)
end
section
/-! the owed statements -/
theorem i_vc0 (k0 : Int32) (k1 : Int32) : wpX_init (fun u => wpY_init (fun v => i_Rel 2 u v) k0 k1) k0 k1 := by
  have fin : ∀ x y : Int32, (∃ V, V ≤ 5 ∧ x = nI V) → (∃ C, C ≤ 8 ∧ y = nI C) → i_Rel 2 (x, y, 0, 0, 0, 0, 0, 0, 0, (fun _ => 0), (fun _ => 0), (fun _ => 0), (fun _ => 0)) (x, y, 0, 0, 0, 0, 0, (fun _ => 0), (fun _ => 0), (fun _ => 0), (fun _ => 0), (fun _ => 0), (fun _ => 0)) := by
    rintro x y ⟨V, hV, rfl⟩ ⟨C, hC, rfl⟩
    exact ci_mk (F := 0) (H := 0) hV hC (by decide) (by decide) (fun s _ => Or.inl ⟨rfl, Nat.zero_testBit s, Nat.zero_testBit s⟩) (Or.inl rfl)
  have rg : ∀ (x M : Int32) (n : Nat), M.toInt = n → 1 ≤ x → x ≤ M → ∃ V, V ≤ n ∧ x = nI V := fun x M n hM h1 h2 => nI_of2 hM (Int32.not_lt.mpr (Int32.le_trans (by decide : (0 : Int32) ≤ 1) h1)) h2
  have sec : ∀ z, (∃ V, V ≤ 5 ∧ z = nI V) → (∀ post, wY_init_75 post k1 z 0 0 0 0 0 0 0 (fun _ => 0) (fun _ => 0) (fun _ => 0) (fun _ => 0) (fun _ => 0) (fun _ => 0) → wpY_init post k0 k1) →
      wpX_clamp (fun r_2 => wpY_init (fun v => i_Rel 2 (z, r_2, 0, 0, 0, 0, 0, 0, 0, (fun _ => 0), (fun _ => 0), (fun _ => 0), (fun _ => 0)) v) k0 k1) k1 8 := by
    intro z hz hY
    exact br_c (fun b1 => br_c (fun b2 => hY _ (br_t b1 (br_t b2 (fin _ _ hz (rg k1 8 8 (by decide) b1 b2))))) (fun b2 => hY _ (br_t b1 (br_f b2 (fin _ _ hz ⟨8, by decide, rfl⟩))))) (fun b1 => hY _ (br_f b1 (fin _ _ hz ⟨1, by decide, rfl⟩)))
  unfold wpX_init
  exact br_c (fun a1 => br_c (fun a2 => sec k0 (rg k0 5 5 (by decide) a1 a2) (fun post h => br_t a1 (br_t a2 h))) (fun a2 => sec 5 ⟨5, by decide, rfl⟩ (fun post h => br_t a1 (br_f a2 h)))) (fun a1 => sec 1 ⟨1, by decide, rfl⟩ (fun post h => br_f a1 h))
theorem i_vc_variables {k : Nat} {u : SX} {v : SY} (I : i_Rel k u v) (hk : k + 5 ≤ 2562) : wpX_variables (fun r => wpY_variables (fun r' => r' = r ∧ i_Rel (k + 5) u v) v) u := by
  have J := i_up I
  obtain ⟨V, C, F, H, cc, mc, ce, me, gc, gm, ge, gf, rd, L, xc, xm, xs, U, K, ys, yc, ym, rfl, rfl, hV, hC, hF, hH, hK, hR, _⟩ := I
  exact ⟨rfl, J⟩
theorem i_vc_capacity {k : Nat} {u : SX} {v : SY} (I : i_Rel k u v) (hk : k + 5 ≤ 2562) : wpX_capacity (fun r => wpY_capacity (fun r' => r' = r ∧ i_Rel (k + 5) u v) v) u := by
  have J := i_up I
  obtain ⟨V, C, F, H, cc, mc, ce, me, gc, gm, ge, gf, rd, L, xc, xm, xs, U, K, ys, yc, ym, rfl, rfl, hV, hC, hF, hH, hK, hR, _⟩ := I
  exact ⟨rfl, J⟩
theorem ci_add {k V C F H : Nat} {cc mc ce me gc gm ge gf rd : Int32} {L xc xm xs U K ys yc ym : Nat → Int32} {kd a b c : Int32} (hkd : kd = 0 ∨ kd = 1) (hV : V ≤ 5) (hC : C ≤ 8) (hF : F < 256) (hH : H < 256) (hK : ce_K U K F H C) (J : i_Rel k (nI V, nI C, nI F, nI H, cc, mc, ce, me, rd, L, xc, xm, xs) (nI V, nI C, gc, gm, ge, gf, rd, U, K, L, ys, yc, ym)) {W : (Int32 → SY → Prop) → Prop}
    (hY : ∀ post, wY_addClause_12 post kd a b c (nI V) (nI C) gc gm ge gf rd U K L ys yc ym → W post) :
    wpX_isLiteralOrAbsent (fun r_3 => ((r_3 = 0 → W (fun r' v' => r' = -13 ∧ i_Rel k (nI V, nI C, nI F, nI H, cc, mc, ce, me, rd, L, xc, xm, xs) v')) ∧ (¬ r_3 = 0 → wpX_isLiteralOrAbsent (fun r_18 => ((r_18 = 0 → W (fun r' v' => r' = -13 ∧ i_Rel k (nI V, nI C, nI F, nI H, cc, mc, ce, me, rd, L, xc, xm, xs) v')) ∧ (¬ r_18 = 0 → wpX_isLiteralOrAbsent (fun r_33 => ((r_33 = 0 → W (fun r' v' => r' = -13 ∧ i_Rel k (nI V, nI C, nI F, nI H, cc, mc, ce, me, rd, L, xc, xm, xs) v')) ∧ (¬ r_33 = 0 → wpX_lowestEmptySlot (fun r_48 => ((r_48 < nI C → (∀ x6_63 : Int32, x6_63 = r_48 * 3 → (vp_in x6_63 24 ∧ ∀ L1 : Nat → Int32, L1 = upd L x6_63.toNatClampNeg a → (vp_in (x6_63 + 1) 24 ∧ ∀ L2 : Nat → Int32, L2 = upd L1 (x6_63 + 1).toNatClampNeg b → (vp_in (x6_63 + 2) 24 ∧ ∀ L3 : Nat → Int32, L3 = upd L2 (x6_63 + 2).toNatClampNeg c → (wpX_markKind (fun u => match u with | (V', C', F', H', cc', mc', ce', me', rd', L', xc', xm', xs') => W (fun r' v' => r' = r_48 ∧ i_Rel k (V', C', F', H', cc', mc', ce', me', 0, L', xc', xm', xs') v')) (nI V, nI C, nI F, nI H, cc, mc, ce, me, rd, L3, xc, xm, xs) r_48 kd)))))) ∧ (¬ r_48 < nI C → W (fun r' v' => r' = -11 ∧ i_Rel k (nI V, nI C, nI F, nI H, cc, mc, ce, me, rd, L, xc, xm, xs) v')))) (nI V, nI C, nI F, nI H, cc, mc, ce, me, rd, L, xc, xm, xs)))) (nI V, nI C, nI F, nI H, cc, mc, ce, me, rd, L, xc, xm, xs) c))) (nI V, nI C, nI F, nI H, cc, mc, ce, me, rd, L, xc, xm, xs) b))) (nI V, nI C, nI F, nI H, cc, mc, ce, me, rd, L, xc, xm, xs) a := by
  have bad : ¬ (ce_li V a ∧ ce_li V b ∧ ce_li V c) → W (fun r' v' => r' = -13 ∧ i_Rel k (nI V, nI C, nI F, nI H, cc, mc, ce, me, rd, L, xc, xm, xs) v') := fun h => hY _ (cy_12_f h ⟨rfl, J⟩)
  by_cases g1 : ce_li V a
  · refine cx_li_t g1 (br_f (by decide) ?_)
    by_cases g2 : ce_li V b
    · refine cx_li_t g2 (br_f (by decide) ?_)
      by_cases g3 : ce_li V c
      · refine cx_li_t g3 (br_f (by decide) (cx_les hC (fun s hs hb hq => br_t (nI_lt hs (by omega)) ?_) (fun hq => br_f (nI_nlt (Nat.le_refl _) (by omega)) (hY _ (cy_12_t ⟨g1, g2, g3⟩ ⟨C + 1, cy_71f hC (fun q h => (ce_K_occ hK (by omega)).mp (hq q h)) ⟨rfl, J⟩ C 0 (Nat.zero_add C)⟩)))))
        have e3 : nI s * 3 = nI (s * 3) := pk_mul s 3
        have e31 : nI (s * 3) + 1 = nI (s * 3 + 1) := nI_1 _
        have e32 : nI (s * 3) + 2 = nI (s * 3 + 2) := nI_add (s * 3) 2
        have c3 : (nI (s * 3)).toNatClampNeg = s * 3 := nI_clamp (by omega)
        have c31 : (nI (s * 3) + 1).toNatClampNeg = s * 3 + 1 := by rw [e31]; exact nI_clamp (by omega)
        have c32 : (nI (s * 3) + 2).toNatClampNeg = s * 3 + 2 := by rw [e32]; exact nI_clamp (by omega)
        refine nm_r e3 ⟨vp_in_nI (by omega) (by decide), nm_r (e' := upd L (s * 3) a) (by rw [c3]) ⟨by rw [e31]; exact vp_in_nI (by omega) (by decide), nm_r (e' := upd (upd L (s * 3) a) (s * 3 + 1) b) (by rw [c31]) ⟨by rw [e32]; exact vp_in_nI (by omega) (by decide), nm_r (e' := ce_L3 L s a b c) (by rw [c32]; rfl) ?_⟩⟩⟩
        have hU : U s = 0 := Classical.byContradiction (fun z => by rw [(ce_K_occ hK (by omega)).mpr z] at hb; cases hb)
        have hbf : F.testBit s = false ∧ H.testBit s = false := by
          rw [Nat.testBit_or, Bool.or_eq_false_iff] at hb
          exact hb
        have hqu : ∀ q, q < s → ¬ U q = 0 := fun q h => (ce_K_occ hK (by omega)).mp (hq q h)
        rcases hkd with rfl | rfl
        · refine cx_mk0 (by omega) hbf.1 (hY _ (cy_12_t ⟨g1, g2, g3⟩ ⟨s + 1, cy_71t hC hs hU hqu ⟨rfl, ci_mk hV hC (ce_xl hF (by omega)) hH (ce_K_put (s := s) hK (fun i h => pk_un h) (fun i h => pk_un h) (fun i h => ce_x_ne h) (fun i h => rfl) (Or.inr (Or.inl ⟨hs, by rw [pk_us]; decide, pk_us, ce_x_f hbf.1, hbf.2⟩))) (Or.inl rfl)⟩ s 0 (Nat.zero_add s)⟩))
        · refine cx_mk1 (by omega) hbf.2 (hY _ (cy_12_t ⟨g1, g2, g3⟩ ⟨s + 1, cy_71t hC hs hU hqu ⟨rfl, ci_mk hV hC hF (ce_xl hH (by omega)) (ce_K_put (s := s) hK (fun i h => pk_un h) (fun i h => pk_un h) (fun i h => rfl) (fun i h => ce_x_ne h) (Or.inr (Or.inr ⟨hs, by rw [pk_us]; decide, pk_us, hbf.1, ce_x_f hbf.2⟩))) (Or.inl rfl)⟩ s 0 (Nat.zero_add s)⟩))
      · exact cx_li_f g3 (br_t rfl (bad (fun w => g3 w.2.2)))
    · exact cx_li_f g2 (br_t rfl (bad (fun w => g2 w.2.1)))
  · exact cx_li_f g1 (br_t rfl (bad (fun w => g1 w.1)))
theorem i_vc_addClause {k : Nat} {u : SX} {v : SY} (I : i_Rel k u v) (hk : k + 5 ≤ 2562) (v1 : Int32) (v2 : Int32) (v3 : Int32) (v4 : Int32) : wpX_addClause (fun r u' => wpY_addClause (fun r' v' => r' = r ∧ i_Rel (k + 5) u' v') v v1 v2 v3 v4) u v1 v2 v3 v4 := by
  have J := i_up I
  obtain ⟨V, C, F, H, cc, mc, ce, me, gc, gm, ge, gf, rd, L, xc, xm, xs, U, K, ys, yc, ym, rfl, rfl, hV, hC, hF, hH, hK, hR, _⟩ := I
  unfold wpX_addClause
  refine br_c (fun h0 => br_f (by decide) ?_) (fun h0 => br_c (fun h1 => br_f (by decide) ?_) (fun h1 => br_t rfl (br_f h0 (br_f h1 ⟨rfl, J⟩))))
  · exact ci_add (W := fun post => wpY_addClause post (nI V, nI C, gc, gm, ge, gf, rd, U, K, L, ys, yc, ym) v1 v2 v3 v4) (Or.inl h0) hV hC hF hH hK J (fun post h => br_t h0 h)
  · exact ci_add (W := fun post => wpY_addClause post (nI V, nI C, gc, gm, ge, gf, rd, U, K, L, ys, yc, ym) v1 v2 v3 v4) (Or.inr h1) hV hC hF hH hK J (fun post h => br_f h0 (br_t h1 h))
theorem ce_K_two {U K : Nat → Int32} {F H C s : Nat} (k : ce_K U K F H C) (hs : s < 8) (hb : (F ||| H).testBit s = true) : (¬ U s = 0 ∧ K s = 0 ∧ F.testBit s = true ∧ H.testBit s = false) ∨ (¬ U s = 0 ∧ K s = 1 ∧ F.testBit s = false ∧ H.testBit s = true) := by
  rcases k s hs with ⟨a, _⟩ | ⟨_, q⟩ | ⟨_, q⟩
  · exact absurd a ((ce_K_occ k hs).mp hb)
  · exact Or.inl q
  · exact Or.inr q
theorem i_vc_removeClause {k : Nat} {u : SX} {v : SY} (I : i_Rel k u v) (hk : k + 5 ≤ 2562) (v1 : Int32) : wpX_removeClause (fun r u' => wpY_removeClause (fun r' v' => r' = r ∧ i_Rel (k + 5) u' v') v v1) u v1 := by
  have J := i_up I
  obtain ⟨V, C, F, H, cc, mc, ce, me, gc, gm, ge, gf, rd, L, xc, xm, xs, U, K, ys, yc, ym, rfl, rfl, hV, hC, hF, hH, hK, hR, _⟩ := I
  unfold wpX_removeClause
  by_cases o : ce_occ C F H v1
  · obtain ⟨s, hs, rfl, hb⟩ := o
    have hc : (nI s).toNatClampNeg = s := nI_clamp (by omega)
    have hin : vp_in (nI s) 8 := vp_in_nI (by omega) (by decide)
    refine cx_oc_t hC hs hb (br_f (by decide) ?_)
    rcases ce_K_two hK (by omega) hb with ⟨q1, q2, q3, q4⟩ | ⟨q1, q2, q3, q4⟩
    · refine cx_me0 (by omega) q3 q4 ?_
      dsimp only
      unfold wpY_removeClause
      exact cy_bd_t hK hC hs hb (br_t rfl ⟨hin, nm_r (e' := upd U s 0) (by rw [hc, ce_nb0]) ⟨rfl, ci_mk hV hC (ce_xl hF (by omega)) hH (ce_K_put (s := s) hK (fun i h => pk_un h) (fun i h => rfl) (fun i h => ce_x_ne h) (fun i h => rfl) (Or.inl ⟨pk_us, ce_x_t q3, q4⟩)) (Or.inl rfl)⟩⟩)
    · refine cx_me1 (by omega) q3 q4 ?_
      dsimp only
      unfold wpY_removeClause
      exact cy_bd_t hK hC hs hb (br_t rfl ⟨hin, nm_r (e' := upd U s 0) (by rw [hc, ce_nb0]) ⟨rfl, ci_mk hV hC hF (ce_xl hH (by omega)) (ce_K_put (s := s) hK (fun i h => pk_un h) (fun i h => rfl) (fun i h => rfl) (fun i h => ce_x_ne h) (Or.inl ⟨pk_us, q3, ce_x_t q4⟩)) (Or.inl rfl)⟩⟩)
  · refine cx_oc_f hC o (br_t rfl ?_)
    unfold wpY_removeClause
    exact cy_bd_f hK hC o (br_f (by decide) ⟨rfl, J⟩)
theorem i_vc_setKind {k : Nat} {u : SX} {v : SY} (I : i_Rel k u v) (hk : k + 5 ≤ 2562) (v1 : Int32) (v2 : Int32) : wpX_setKind (fun r u' => wpY_setKind (fun r' v' => r' = r ∧ i_Rel (k + 5) u' v') v v1 v2) u v1 v2 := by
  have J := i_up I
  obtain ⟨V, C, F, H, cc, mc, ce, me, gc, gm, ge, gf, rd, L, xc, xm, xs, U, K, ys, yc, ym, rfl, rfl, hV, hC, hF, hH, hK, hR, _⟩ := I
  unfold wpX_setKind
  by_cases o : ce_occ C F H v1
  · obtain ⟨s, hs, rfl, hb⟩ := o
    have hc : (nI s).toNatClampNeg = s := nI_clamp (by omega)
    have hin : vp_in (nI s) 8 := vp_in_nI (by omega) (by decide)
    refine cx_oc_t hC hs hb (br_f (by decide) ?_)
    have yb : ∀ post : Int32 → SY → Prop, ((v2 = 0 → wY_setKind_23 post (nI s) v2 (nI V) (nI C) gc gm ge gf rd U K L ys yc ym) ∧ (¬ v2 = 0 → ((v2 = 1 → wY_setKind_23 post (nI s) v2 (nI V) (nI C) gc gm ge gf rd U K L ys yc ym) ∧ (¬ v2 = 1 → post (-12) (nI V, nI C, gc, gm, ge, gf, rd, U, K, L, ys, yc, ym))))) → wpY_setKind post (nI V, nI C, gc, gm, ge, gf, rd, U, K, L, ys, yc, ym) (nI s) v2 := by
      intro post h
      unfold wpY_setKind
      exact cy_bd_t hK hC hs hb (br_t rfl h)
    refine br_c (fun h0 => br_f (by decide) (br_t h0 ?_)) (fun h0 => br_c (fun h1 => br_f (by decide) (br_f h0 ?_)) (fun h1 => br_t rfl (yb _ (br_f h0 (br_f h1 ⟨rfl, J⟩)))))
    · subst h0
      rcases ce_K_two hK (by omega) hb with ⟨q1, q2, q3, q4⟩ | ⟨q1, q2, q3, q4⟩
      · exact cx_has (by omega) (fun _ => br_f (by decide) (yb _ (br_t rfl ⟨hin, br_t (by rw [hc]; exact q2) ⟨rfl, J⟩⟩))) (fun z => by rw [q3] at z; cases z)
      · refine cx_has (by omega) (fun z => by rw [q3] at z; cases z) (fun _ => br_t rfl (cx_me1 (by omega) q3 q4 (cx_mk0 (by omega) q3 ?_)))
        exact yb _ (br_t rfl ⟨hin, br_f (by rw [hc, q2]; decide) ⟨hin, nm_r (e' := upd K s 0) (by rw [hc]) ⟨rfl, ci_mk hV hC (ce_xl hF (by omega)) (ce_xl hH (by omega)) (ce_K_put (s := s) hK (fun i h => rfl) (fun i h => pk_un h) (fun i h => ce_x_ne h) (fun i h => ce_x_ne h) (Or.inr (Or.inl ⟨hs, q1, pk_us, ce_x_f q3, ce_x_t q4⟩))) (Or.inl rfl)⟩⟩⟩)
    · subst h1
      rcases ce_K_two hK (by omega) hb with ⟨q1, q2, q3, q4⟩ | ⟨q1, q2, q3, q4⟩
      · refine cx_has (by omega) (fun z => by rw [q4] at z; cases z) (fun _ => br_t rfl (cx_me0 (by omega) q3 q4 (cx_mk1 (by omega) q4 ?_)))
        exact yb _ (br_f (by decide) (br_t rfl ⟨hin, br_f (by rw [hc, q2]; decide) ⟨hin, nm_r (e' := upd K s 1) (by rw [hc]) ⟨rfl, ci_mk hV hC (ce_xl hF (by omega)) (ce_xl hH (by omega)) (ce_K_put (s := s) hK (fun i h => rfl) (fun i h => pk_un h) (fun i h => ce_x_ne h) (fun i h => ce_x_ne h) (Or.inr (Or.inr ⟨hs, q1, pk_us, ce_x_t q3, ce_x_f q4⟩))) (Or.inl rfl)⟩⟩⟩))
      · exact cx_has (by omega) (fun _ => br_f (by decide) (yb _ (br_f (by decide) (br_t rfl ⟨hin, br_t (by rw [hc]; exact q2) ⟨rfl, J⟩⟩)))) (fun z => by rw [q4] at z; cases z)
  · refine cx_oc_f hC o (br_t rfl ?_)
    unfold wpY_setKind
    exact cy_bd_f hK hC o (br_f (by decide) ⟨rfl, J⟩)
theorem i_vc_literal {k : Nat} {u : SX} {v : SY} (I : i_Rel k u v) (hk : k + 5 ≤ 2562) (v1 : Int32) (v2 : Int32) : wpX_literal (fun r => wpY_literal (fun r' => r' = r ∧ i_Rel (k + 5) u v) v v1 v2) u v1 v2 := by
  have J := i_up I
  obtain ⟨V, C, F, H, cc, mc, ce, me, gc, gm, ge, gf, rd, L, xc, xm, xs, U, K, ys, yc, ym, rfl, rfl, hV, hC, hF, hH, hK, hR, _⟩ := I
  unfold wpX_literal
  by_cases o : ce_occ C F H v1
  · obtain ⟨s, hs, rfl, hb⟩ := o
    refine cx_oc_t hC hs hb (br_f (by decide) ?_)
    have yb : ∀ post : Int32 → Prop, ((v2 < 0 → post (-15)) ∧ (¬ v2 < 0 → ((v2 ≤ 2 → (vp_in ((3 * nI s) + v2) 24 ∧ post (L ((3 * nI s) + v2).toNatClampNeg))) ∧ (¬ v2 ≤ 2 → post (-15))))) → wpY_literal post (nI V, nI C, gc, gm, ge, gf, rd, U, K, L, ys, yc, ym) (nI s) v2 := by
      intro post h
      unfold wpY_literal
      exact cy_bd_t hK hC hs hb (br_t rfl h)
    refine br_c (fun z => yb _ (br_t z ⟨rfl, J⟩)) (fun z => ?_)
    obtain ⟨p, hp, rfl⟩ := nI_of z
    have e : nI s * 3 + nI p = nI (s * 3 + p) := by rw [show nI s * 3 = nI (s * 3) from pk_mul s 3, nI_add]
    have e' : 3 * nI s + nI p = nI (s * 3 + p) := by rw [show (3 : Int32) * nI s = nI (3 * s) from pk_mul 3 s, nI_add, Nat.mul_comm]
    by_cases h3 : p < 3
    · refine br_t (nI_lt (b := 3) h3 (by decide)) ⟨by rw [e]; exact vp_in_nI (by omega) (by decide), yb _ (br_f z (br_t (nI_le (b := 2) (by omega) (by decide)) ⟨by rw [e']; exact vp_in_nI (by omega) (by decide), ?_, J⟩))⟩
      rw [e, e']
    · exact br_f (nI_nlt (b := 3) (by omega) hp) (yb _ (br_f z (br_f (nI_ge (a := 2) (by omega) hp) ⟨rfl, J⟩)))
  · refine cx_oc_f hC o (br_t rfl ?_)
    unfold wpY_literal
    exact cy_bd_f hK hC o (br_f (by decide) ⟨rfl, J⟩)
theorem i_vc_slots {k : Nat} {u : SX} {v : SY} (I : i_Rel k u v) (hk : k + 5 ≤ 2562) (v1 : Int32) : wpX_slots (fun r => wpY_slots (fun r' => r' = r ∧ i_Rel (k + 5) u v) v v1) u v1 := by
  have J := i_up I
  obtain ⟨V, C, F, H, cc, mc, ce, me, gc, gm, ge, gf, rd, L, xc, xm, xs, U, K, ys, yc, ym, rfl, rfl, hV, hC, hF, hH, hK, hR, _⟩ := I
  unfold wpX_slots
  refine br_c (fun h0 => br_f (by decide) (br_t h0 ?_)) (fun h0 => br_c (fun h1 => br_f (by decide) (br_f h0 ?_)) (fun h1 => br_t rfl (br_f h0 (br_f h1 ⟨rfl, J⟩))))
  · subst h0
    exact cy_s0 hF hK ⟨rfl, J⟩
  · subst h1
    exact cy_s1 hH hK ⟨rfl, J⟩
theorem i_vc_witness {k : Nat} {u : SX} {v : SY} (I : i_Rel k u v) (hk : k + 5 ≤ 2562) (v1 : Int32) : wpX_witness (fun r => wpY_witness (fun r' => r' = r ∧ i_Rel (k + 5) u v) v v1) u v1 := by
  have J := i_up I
  obtain ⟨V, C, F, H, cc, mc, ce, me, gc, gm, ge, gf, rd, L, xc, xm, xs, U, K, ys, yc, ym, rfl, rfl, hV, hC, hF, hH, hK, hR, _⟩ := I
  unfold wpX_witness
  refine cx_sub (fun z => br_f (by decide) ?_) (fun z => br_t rfl (cy_w hV hK hF hH (fun m hm e hs => absurd (by rw [e]; exact (ce_inN hm).mpr hs) z) (fun _ => ⟨rfl, J⟩)))
  obtain ⟨m, hm, rfl, hs⟩ := ce_small hF z
  refine cx_la hV hC (ce_low (ce_K_F hK hF) (ce_K_H hK hH) hs) (fun r hr => cy_w hV hK hF hH (fun m' hm' e hs' r' hr' => ?_) (fun w => absurd z w))
  have e2 : m = m' := (nI_eq (by omega) (by omega)).mp e
  subst e2
  exact ⟨ce_least_u hr hr', J⟩
theorem i_vc_enumerate {k : Nat} {u : SX} {v : SY} (I : i_Rel k u v) (hk : k + 5 ≤ 2562) : wpX_enumerate (fun r u' => wpY_enumerate (fun r' v' => r' = r ∧ i_Rel (k + 5) u' v') v) u := by
  obtain ⟨V, C, F, H, cc, mc, ce, me, gc, gm, ge, gf, rd, L, xc, xm, xs, U, K, ys, yc, ym, rfl, rfl, hV, hC, hF, hH, hK, hR, _⟩ := I
  exact cx_en hV hC hF (ce_K_F hK hF) (ce_K_H hK hH) (fun c m t A B => cy_en hV hK hF hH (fun t' c' m' A' B' => ⟨rfl, ci_mk hV hC hF hH hK (Or.inr ⟨rfl, 0, 0, rfl, rfl, rfl, rfl, rfl, rfl, rfl, rfl, Nat.zero_le _, Nat.zero_le _, A, A', B, B'⟩)⟩))
theorem i_vc_count {k : Nat} {u : SX} {v : SY} (I : i_Rel k u v) (hk : k + 5 ≤ 2562) (v1 : Int32) : wpX_count (fun r => wpY_count (fun r' => r' = r ∧ i_Rel (k + 5) u v) v v1) u v1 := by
  have J := i_up I
  obtain ⟨V, C, F, H, cc, mc, ce, me, gc, gm, ge, gf, rd, L, xc, xm, xs, U, K, ys, yc, ym, rfl, rfl, hV, hC, hF, hH, hK, hR, _⟩ := I
  unfold wpX_count
  have two : (∀ post : Int32 → Prop, wY_count_13 post v1 (nI V) (nI C) gc gm ge gf rd U K L ys yc ym → wpY_count post (nI V, nI C, gc, gm, ge, gf, rd, U, K, L, ys, yc, ym) v1) → ((rd = 0 → wpY_count (fun r' => r' = -17 ∧ i_Rel (k + 5) (nI V, nI C, nI F, nI H, cc, mc, ce, me, rd, L, xc, xm, xs) (nI V, nI C, gc, gm, ge, gf, rd, U, K, L, ys, yc, ym)) (nI V, nI C, gc, gm, ge, gf, rd, U, K, L, ys, yc, ym) v1) ∧ (¬ rd = 0 → ((v1 = 2 → wpY_count (fun r' => r' = cc ∧ i_Rel (k + 5) (nI V, nI C, nI F, nI H, cc, mc, ce, me, rd, L, xc, xm, xs) (nI V, nI C, gc, gm, ge, gf, rd, U, K, L, ys, yc, ym)) (nI V, nI C, gc, gm, ge, gf, rd, U, K, L, ys, yc, ym) v1) ∧ (¬ v1 = 2 → wpY_count (fun r' => r' = mc ∧ i_Rel (k + 5) (nI V, nI C, nI F, nI H, cc, mc, ce, me, rd, L, xc, xm, xs) (nI V, nI C, gc, gm, ge, gf, rd, U, K, L, ys, yc, ym)) (nI V, nI C, gc, gm, ge, gf, rd, U, K, L, ys, yc, ym) v1)))) := by
    intro hY
    rcases hR with z | ⟨z, e, g, r1, r2, r3, r4, r5, r6, r7, r8, r9, r10, r11, r12, r13, r14⟩
    · exact br_t z (hY _ (br_t z ⟨rfl, J⟩))
    · have nz : ¬ rd = 0 := by rw [z]; decide
      exact br_f nz (br_c (fun h => hY _ (br_f nz (br_t h ⟨by rw [r1, r3], J⟩))) (fun h => hY _ (br_f nz (br_f h ⟨by rw [r2, r4], J⟩))))
  exact br_c (fun h0 => br_f (by decide) (two (fun post h => br_t h0 h))) (fun h0 => br_c (fun h1 => br_f (by decide) (two (fun post h => br_f h0 (br_t h1 h)))) (fun h1 => br_t rfl (br_f h0 (br_f h1 ⟨rfl, J⟩))))
theorem i_vc_emitted {k : Nat} {u : SX} {v : SY} (I : i_Rel k u v) (hk : k + 5 ≤ 2562) (v1 : Int32) : wpX_emitted (fun r => wpY_emitted (fun r' => r' = r ∧ i_Rel (k + 5) u v) v v1) u v1 := by
  have J := i_up I
  obtain ⟨V, C, F, H, cc, mc, ce, me, gc, gm, ge, gf, rd, L, xc, xm, xs, U, K, ys, yc, ym, rfl, rfl, hV, hC, hF, hH, hK, hR, _⟩ := I
  unfold wpX_emitted
  have two : (∀ post : Int32 → Prop, wY_emitted_13 post v1 (nI V) (nI C) gc gm ge gf rd U K L ys yc ym → wpY_emitted post (nI V, nI C, gc, gm, ge, gf, rd, U, K, L, ys, yc, ym) v1) → ((rd = 0 → wpY_emitted (fun r' => r' = -17 ∧ i_Rel (k + 5) (nI V, nI C, nI F, nI H, cc, mc, ce, me, rd, L, xc, xm, xs) (nI V, nI C, gc, gm, ge, gf, rd, U, K, L, ys, yc, ym)) (nI V, nI C, gc, gm, ge, gf, rd, U, K, L, ys, yc, ym) v1) ∧ (¬ rd = 0 → ((v1 = 2 → wpY_emitted (fun r' => r' = ce ∧ i_Rel (k + 5) (nI V, nI C, nI F, nI H, cc, mc, ce, me, rd, L, xc, xm, xs) (nI V, nI C, gc, gm, ge, gf, rd, U, K, L, ys, yc, ym)) (nI V, nI C, gc, gm, ge, gf, rd, U, K, L, ys, yc, ym) v1) ∧ (¬ v1 = 2 → wpY_emitted (fun r' => r' = me ∧ i_Rel (k + 5) (nI V, nI C, nI F, nI H, cc, mc, ce, me, rd, L, xc, xm, xs) (nI V, nI C, gc, gm, ge, gf, rd, U, K, L, ys, yc, ym)) (nI V, nI C, gc, gm, ge, gf, rd, U, K, L, ys, yc, ym) v1)))) := by
    intro hY
    rcases hR with z | ⟨z, e, g, r1, r2, r3, r4, r5, r6, r7, r8, r9, r10, r11, r12, r13, r14⟩
    · exact br_t z (hY _ (br_t z ⟨rfl, J⟩))
    · have nz : ¬ rd = 0 := by rw [z]; decide
      exact br_f nz (br_c (fun h => hY _ (br_f nz (br_t h ⟨by rw [r5, r6], J⟩))) (fun h => hY _ (br_f nz (br_f h ⟨by rw [r7, r8], J⟩))))
  exact br_c (fun h0 => br_f (by decide) (two (fun post h => br_t h0 h))) (fun h0 => br_c (fun h1 => br_f (by decide) (two (fun post h => br_f h0 (br_t h1 h)))) (fun h1 => br_t rfl (br_f h0 (br_f h1 ⟨rfl, J⟩))))
theorem ci_emit {k V C F H : Nat} {cc mc ce me gc gm ge gf rd : Int32} {L xc xm xs U K ys yc ym : Nat → Int32} {v1 : Int32} (hV : V ≤ 5) (hC : C ≤ 8) (hF : F < 256) (hH : H < 256) (hK : ce_K U K F H C) (hR : ce_R V F H L cc mc ce me gc gm ge gf rd xc xm yc ym) (J : i_Rel k (nI V, nI C, nI F, nI H, cc, mc, ce, me, rd, L, xc, xm, xs) (nI V, nI C, gc, gm, ge, gf, rd, U, K, L, ys, yc, ym)) {W : (Int32 → SY → Prop) → Prop}
    (hY : ∀ post, wY_emit_13 post v1 (nI V) (nI C) gc gm ge gf rd U K L ys yc ym → W post) :
    (rd = 0 → W (fun r' v' => r' = -17 ∧ i_Rel k (nI V, nI C, nI F, nI H, cc, mc, ce, me, rd, L, xc, xm, xs) v')) ∧ (¬ rd = 0 → ((v1 = 2 → wpX_nextCore (fun r u => W (fun r' v' => r' = r ∧ i_Rel k u v')) (nI V, nI C, nI F, nI H, cc, mc, ce, me, rd, L, xc, xm, xs)) ∧ (¬ v1 = 2 → wpX_nextMaximal (fun r u => W (fun r' v' => r' = r ∧ i_Rel k u v')) (nI V, nI C, nI F, nI H, cc, mc, ce, me, rd, L, xc, xm, xs)))) := by
  have hR' := hR
  rcases hR with z | ⟨z, e, g, rfl, rfl, rfl, rfl, rfl, rfl, rfl, rfl, r9, r10, r11, r12, r13, r14⟩
  · exact br_t z (hY _ (br_t z ⟨rfl, J⟩))
  · have nz : ¬ rd = 0 := by rw [z]; decide
    have l1 : (ce_CL L V F H).length ≤ 256 := ce_ls_len (ce_core (ce_S L V H) F) (fun k => k) 256
    have l2 : (ce_ML L V F H).length ≤ 256 := ce_ls_len (ce_maxi (ce_S L V H) F) (fun k => 255 - k) 256
    refine br_f nz (br_c (fun h => ?_) (fun h => ?_))
    · by_cases c : e < (ce_CL L V F H).length
      · obtain ⟨m, _, hm, hx⟩ := ce_ar_get r11 c
        have hy := r12 e m hm
        have ee : nI e + 1 - 1 = nI e := by rw [nI_1, nI_pred]
        refine br_t (nI_lt c (by omega)) ⟨vp_in_nI (by omega) (by decide), nm_r (e' := nI m) (by rw [nI_clamp (by omega), hx]) (nm_r (nI_1 e) (hY _ (br_f nz (br_t h (br_t (nI_lt c (by omega)) (nm_e ⟨by rw [ee]; exact vp_in_nI (by omega) (by decide), by rw [ee, nI_clamp (by omega), hy], ?_⟩))))))⟩
        rw [nI_1 e]
        exact ci_mk hV hC hF hH hK (Or.inr ⟨z, e + 1, g, rfl, rfl, rfl, rfl, rfl, rfl, rfl, rfl, c, r10, r11, r12, r13, r14⟩)
      · exact br_f (nI_nlt (by omega) (by omega)) (hY _ (br_f nz (br_t h (br_f (nI_nlt (by omega) (by omega)) ⟨rfl, J⟩))))
    · by_cases c : g < (ce_ML L V F H).length
      · obtain ⟨m, _, hm, hx⟩ := ce_ar_get r13 c
        have hy := r14 g m hm
        have ee : nI g + 1 - 1 = nI g := by rw [nI_1, nI_pred]
        refine br_t (nI_lt c (by omega)) ⟨vp_in_nI (by omega) (by decide), nm_r (e' := nI m) (by rw [nI_clamp (by omega), hx]) (nm_r (nI_1 g) (hY _ (br_f nz (br_f h (br_t (nI_lt c (by omega)) (nm_e ⟨by rw [ee]; exact vp_in_nI (by omega) (by decide), by rw [ee, nI_clamp (by omega), hy], ?_⟩))))))⟩
        rw [nI_1 g]
        exact ci_mk hV hC hF hH hK (Or.inr ⟨z, e, g + 1, rfl, rfl, rfl, rfl, rfl, rfl, rfl, rfl, r9, c, r11, r12, r13, r14⟩)
      · exact br_f (nI_nlt (by omega) (by omega)) (hY _ (br_f nz (br_f h (br_f (nI_nlt (by omega) (by omega)) ⟨rfl, J⟩))))
theorem i_vc_emit {k : Nat} {u : SX} {v : SY} (I : i_Rel k u v) (hk : k + 5 ≤ 2562) (v1 : Int32) : wpX_emit (fun r u' => wpY_emit (fun r' v' => r' = r ∧ i_Rel (k + 5) u' v') v v1) u v1 := by
  have J := i_up I
  obtain ⟨V, C, F, H, cc, mc, ce, me, gc, gm, ge, gf, rd, L, xc, xm, xs, U, K, ys, yc, ym, rfl, rfl, hV, hC, hF, hH, hK, hR, _⟩ := I
  unfold wpX_emit
  refine br_c (fun h0 => br_f (by decide) ?_) (fun h0 => br_c (fun h1 => br_f (by decide) ?_) (fun h1 => br_t rfl (br_f h0 (br_f h1 ⟨rfl, J⟩))))
  · exact ci_emit (W := fun post => wpY_emit post (nI V, nI C, gc, gm, ge, gf, rd, U, K, L, ys, yc, ym) v1) hV hC hF hH hK hR J (fun post h => br_t h0 h)
  · exact ci_emit (W := fun post => wpY_emit post (nI V, nI C, gc, gm, ge, gf, rd, U, K, L, ys, yc, ym) v1) hV hC hF hH hK hR J (fun post h => br_f h0 (br_t h1 h))
theorem i_vc_verdict {k : Nat} {u : SX} {v : SY} (I : i_Rel k u v) (hk : k + 5 ≤ 2562) (v1 : Int32) : wpX_verdict (fun r => wpY_verdict (fun r' => r' = r ∧ i_Rel (k + 5) u v) v v1) u v1 := by
  have J := i_up I
  obtain ⟨V, C, F, H, cc, mc, ce, me, gc, gm, ge, gf, rd, L, xc, xm, xs, U, K, ys, yc, ym, rfl, rfl, hV, hC, hF, hH, hK, hR, _⟩ := I
  rcases hR with z | ⟨z, e, g, rfl, rfl, rfl, rfl, rfl, rfl, rfl, rfl, r9, r10, r11, r12, r13, r14⟩
  · exact br_t z (br_t z ⟨rfl, J⟩)
  · subst z
    have l1 : (ce_CL L V F H).length ≤ 256 := ce_ls_len (ce_core (ce_S L V H) F) (fun k => k) 256
    have l2 : (ce_ML L V F H).length ≤ 256 := ce_ls_len (ce_maxi (ce_S L V H) F) (fun k => 255 - k) 256
    refine br_f (by decide) (cx_sub (fun z => br_f (by decide) ?_) (fun z => br_t rfl (cy_vd hK hF r9 r10 l1 l2 ce_CL_b r12 r14 (fun m hm e hs => absurd (by rw [e]; exact (ce_inN hm).mpr hs) z) (fun _ => ⟨rfl, J⟩))))
    obtain ⟨m, hm, rfl, hs⟩ := ce_small hF z
    refine cx_jd hm r9 r10 l1 l2 ce_CL_b r11 r13 (fun r hr => cy_vd hK hF r9 r10 l1 l2 ce_CL_b r12 r14 (fun m' hm' e hs' r' hr' => ?_) (fun w => absurd z w))
    have e2 : m = m' := (nI_eq (by omega) (by omega)).mp e
    subst e2
    exact ⟨ce_jd_u hr hr', J⟩
theorem i_vc_greatestOpen {k : Nat} {u : SX} {v : SY} (I : i_Rel k u v) (hk : k + 5 ≤ 2562) : wpX_greatestOpen (fun r => wpY_greatestOpen (fun r' => r' = r ∧ i_Rel (k + 5) u v) v) u := by
  have J := i_up I
  obtain ⟨V, C, F, H, cc, mc, ce, me, gc, gm, ge, gf, rd, L, xc, xm, xs, U, K, ys, yc, ym, rfl, rfl, hV, hC, hF, hH, hK, hR, _⟩ := I
  rcases hR with z | ⟨z, e, g, rfl, rfl, rfl, rfl, rfl, rfl, rfl, rfl, r9, r10, r11, r12, r13, r14⟩
  · exact br_t z (br_t z ⟨rfl, J⟩)
  · subst z
    have l1 : (ce_CL L V F H).length ≤ 256 := ce_ls_len (ce_core (ce_S L V H) F) (fun k => k) 256
    have l2 : (ce_ML L V F H).length ≤ 256 := ce_ls_len (ce_maxi (ce_S L V H) F) (fun k => 255 - k) 256
    exact br_f (by decide) (cx_go r9 r10 l1 l2 ce_CL_b r11 r13 (fun r hr => cy_go hK hF r9 r10 l1 l2 ce_CL_b r12 r14 (fun r' hr' => ⟨ce_great_u hr hr', J⟩)))
end
