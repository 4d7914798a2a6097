section
/-! rows pasted from the kit: BITS -/
def bt (x : Int32) (i : Nat) : Bool := x.toBitVec.getLsbD i
theorem b_ext {x y : Int32} (h : ∀ i, i < 32 → bt x i = bt y i) : x = y := Int32.toBitVec_inj.mp (BitVec.eq_of_getLsbD_eq (fun i hi => h i hi))
theorem b_or (x y : Int32) (i : Nat) : bt (x ||| y) i = (bt x i || bt y i) := by unfold bt; rw [Int32.toBitVec_or, BitVec.getLsbD_or]
theorem b_and (x y : Int32) (i : Nat) : bt (x &&& y) i = (bt x i && bt y i) := by unfold bt; rw [Int32.toBitVec_and, BitVec.getLsbD_and]
theorem b_xor (x y : Int32) (i : Nat) : bt (x ^^^ y) i = (bt x i ^^ bt y i) := by unfold bt; rw [Int32.toBitVec_xor, BitVec.getLsbD_xor]
theorem b_big {x : Int32} {i : Nat} (h : 32 ≤ i) : bt x i = false := BitVec.getLsbD_of_ge _ _ h
theorem b_m1 : ∀ i, i < 32 → bt (-1) i = true := by decide +kernel
theorem b_0 (i : Nat) : bt 0 i = false := BitVec.getLsbD_zero
theorem s_l : ∀ n, n < 32 → ((nI n &&& 31).toBitVec.smod 32).toNat = n := by decide +kernel
theorem b_shl (n : Nat) (hn : n < 32) (x : Int32) {i : Nat} (hi : i < 32) : bt (x <<< (nI n &&& 31)) i = (decide (n ≤ i) && bt x (i - n)) := by
  unfold bt
  rw [Int32.toBitVec_shiftLeft]
  show (x.toBitVec <<< ((nI n &&& 31).toBitVec.smod 32).toNat).getLsbD i = _
  rw [s_l n hn, BitVec.getLsbD_shiftLeft]
  rcases Nat.lt_or_ge i n with h | h
  · simp [h, Nat.not_le.mpr h]
  · simp [hi, h, Nat.not_lt.mpr h]
theorem nx_and (a b : Nat) : nI a &&& nI b = nI (a &&& b) := by
  apply Int32.toBitVec_inj.1
  show BitVec.ofNat 32 a &&& BitVec.ofNat 32 b = BitVec.ofNat 32 (a &&& b)
  apply BitVec.eq_of_getLsbD_eq
  intro i hi
  simp [hi]
theorem nx_xor (a b : Nat) : nI a ^^^ nI b = nI (a ^^^ b) := by
  apply Int32.toBitVec_inj.1
  show BitVec.ofNat 32 a ^^^ BitVec.ofNat 32 b = BitVec.ofNat 32 (a ^^^ b)
  apply BitVec.eq_of_getLsbD_eq
  intro i hi
  simp [hi]
theorem nf_sh : ∀ l, l < 32 → ((1 : Int32) <<< (nI l &&& 31)).toBitVec = BitVec.twoPow 32 l := by decide +kernel
theorem nf_tp : ∀ l, l < 32 → BitVec.twoPow 32 l ≠ 0#32 := by decide +kernel
theorem ts_nf {x : Bool} (h : ¬ x = false) : x = true := by cases x <;> first | rfl | exact absurd rfl h
theorem ts_nt {x : Bool} (h : ¬ x = true) : x = false := by cases x <;> first | rfl | exact absurd rfl h
theorem ts_bit {w : Int64} {s : UInt64} {j : Nat} (hj : j < 64) (hs : s.toNat = j) : ((w.toUInt64 >>> s).toInt64 &&& 1) = 0 ↔ w.toBitVec.getLsbD j = false := by
  have e : (w.toUInt64 >>> s).toInt64.toBitVec = w.toBitVec >>> j := by
    apply BitVec.eq_of_toNat_eq
    show (w.toUInt64 >>> s).toNat = _
    rw [UInt64.toNat_shiftRight, hs, Nat.mod_eq_of_lt hj, BitVec.toNat_ushiftRight]
    rfl
  rw [← Int64.toBitVec_inj, Int64.toBitVec_and, e]
  show w.toBitVec >>> j &&& 1#64 = 0#64 ↔ _
  constructor
  · intro h
    have t := congrArg (fun x => x.getLsbD 0) h
    simpa using t
  · intro h
    apply BitVec.eq_of_getLsbD_eq
    intro i hi
    cases i with
    | zero => simp [h]
    | succ i => simp
theorem ts_or {w m : Int64} {j : Nat} (hj : j < 64) (hm : m.toBitVec = BitVec.twoPow 64 j) : (w ||| m) = w ↔ w.toBitVec.getLsbD j = true := by
  rw [← Int64.toBitVec_inj, Int64.toBitVec_or, hm]
  constructor
  · intro h
    have t := congrArg (fun x => x.getLsbD j) h
    simp only [BitVec.getLsbD_or, BitVec.getLsbD_twoPow] at t
    simpa [hj] using t.symm
  · intro h
    apply BitVec.eq_of_getLsbD_eq
    intro i hi
    rw [BitVec.getLsbD_or, BitVec.getLsbD_twoPow]
    by_cases e : j = i
    · subst e; rw [h, Bool.true_or]
    · simp [e]
end
section
/-! masks: an Int32 by its bits, a natural below 256 -/
theorem ce_or (a b : Nat) : nI a ||| nI b = nI (a ||| b) := by
  apply Int32.toBitVec_inj.1
  show BitVec.ofNat 32 a ||| BitVec.ofNat 32 b = BitVec.ofNat 32 (a ||| b)
  apply BitVec.eq_of_getLsbD_eq
  intro i hi
  simp [hi]
theorem ce_bn (n : Nat) {i : Nat} (hi : i < 32) : bt (nI n) i = n.testBit i := by
  unfold bt
  show (BitVec.ofNat 32 n).getLsbD i = _
  rw [BitVec.getLsbD_ofNat]
  simp [hi]
theorem ce_b1 {s i : Nat} (hs : s < 32) : bt ((1 : Int32) <<< (nI s &&& 31)) i = decide (s = i) := by
  unfold bt
  rw [nf_sh s hs, BitVec.getLsbD_twoPow]
  simp [hs]
theorem ce_has (x : Int32) {s : Nat} (hs : s < 32) : x &&& ((1 : Int32) <<< (nI s &&& 31)) = 0 ↔ bt x s = false := by
  constructor
  · intro h
    have e : bt (x &&& ((1 : Int32) <<< (nI s &&& 31))) s = false := by rw [h]; exact b_0 s
    rw [b_and, ce_b1 hs] at e
    simpa using e
  · intro h
    apply b_ext
    intro i hi
    rw [b_and, ce_b1 hs, b_0]
    by_cases e : s = i
    · subst e; rw [h]; rfl
    · simp [e]
theorem ce_hasN (m : Nat) {s : Nat} (hs : s < 32) : nI m &&& ((1 : Int32) <<< (nI s &&& 31)) = 0 ↔ m.testBit s = false := by
  rw [ce_has _ hs, ce_bn m hs]
theorem ce_in (x y : Int32) : x &&& (y ^^^ (-1)) = 0 ↔ ∀ i, i < 32 → bt x i = true → bt y i = true := by
  constructor
  · intro h i hi hx
    have e : bt (x &&& (y ^^^ (-1))) i = false := by rw [h]; exact b_0 i
    rw [b_and, b_xor, b_m1 i hi, hx] at e
    revert e
    cases bt y i <;> simp
  · intro h
    apply b_ext
    intro i hi
    rw [b_and, b_xor, b_m1 i hi, b_0]
    have q := h i hi
    revert q
    cases bt x i <;> cases bt y i <;> simp
/-- a is a subset of b -/
def ce_sub (a b : Nat) : Prop := ∀ i, a.testBit i = true → b.testBit i = true
theorem ce_hi {m i : Nat} (h : m < 256) (hi : 8 ≤ i) : m.testBit i = false :=
  Nat.testBit_lt_two_pow (Nat.lt_of_lt_of_le h (Nat.pow_le_pow_right (n := 2) (by decide) hi : 2 ^ 8 ≤ 2 ^ i))
theorem ce_lo {m i : Nat} (h : m < 256) (hi : m.testBit i = true) : i < 8 := by
  rcases Nat.lt_or_ge i 8 with z | z
  · exact z
  · rw [ce_hi h z] at hi; cases hi
theorem ce_inN {a b : Nat} (ha : a < 256) : nI a &&& (nI b ^^^ (-1)) = 0 ↔ ce_sub a b := by
  rw [ce_in]
  constructor
  · intro h i hi
    have z := ce_lo ha hi
    have q := h i (by omega)
    rw [ce_bn a (by omega), ce_bn b (by omega)] at q
    exact q hi
  · intro h i hi hx
    rw [ce_bn a hi] at hx
    rw [ce_bn b hi]
    exact h i hx
theorem ce_m255 (i : Nat) (hi : i < 32) : bt 255 i = decide (i < 8) := (by decide +kernel : ∀ i, i < 32 → bt 255 i = decide (i < 8)) i hi
theorem ce_small {x : Int32} {F : Nat} (hF : F < 256) (h : x &&& (nI F ^^^ (-1)) = 0) : ∃ m, m < 256 ∧ x = nI m ∧ ce_sub m F := by
  have h' := h
  rw [ce_in] at h
  have e : x = x &&& 255 := by
    apply b_ext
    intro i hi
    rw [b_and, ce_m255 i hi]
    by_cases z : i < 8
    · simp [z]
    · have q := h i hi
      rw [ce_bn F hi, ce_hi hF (by omega)] at q
      revert q
      cases bt x i <;> simp
  obtain ⟨j, hj, ej⟩ := pk_andE x (m := 255) 8 (by decide)
  rw [← e] at ej
  subst ej
  exact ⟨j, hj, rfl, (ce_inN hj).mp h'⟩
theorem ce_xt (m s i : Nat) : (m ^^^ 2 ^ s).testBit i = (m.testBit i ^^ decide (s = i)) := by
  rw [Nat.testBit_xor, Nat.testBit_two_pow]
theorem ce_pw {s : Nat} (h : s < 8) : 2 ^ s < 256 := Nat.pow_lt_pow_right (a := 2) (m := s) (n := 8) (by decide) h
theorem ce_xl {m s : Nat} (h : m < 256) (hs : s < 8) : m ^^^ 2 ^ s < 256 := Nat.xor_lt_two_pow (n := 8) h (ce_pw hs)
theorem ce_del {m s : Nat} (hs : s < 32) (h : m.testBit s = true) : nI m &&& (((1 : Int32) <<< (nI s &&& 31)) ^^^ (-1)) = nI (m ^^^ 2 ^ s) := by
  apply b_ext
  intro i hi
  rw [b_and, b_xor, ce_b1 hs, b_m1 i hi, ce_bn _ hi, ce_bn _ hi, ce_xt]
  by_cases e : s = i
  · subst e; simp [h]
  · simp [e]
theorem ce_add {m s : Nat} (hs : s < 32) (h : m.testBit s = false) : nI m ||| ((1 : Int32) <<< (nI s &&& 31)) = nI (m ^^^ 2 ^ s) := by
  apply b_ext
  intro i hi
  rw [b_or, ce_b1 hs, ce_bn _ hi, ce_bn _ hi, ce_xt]
  by_cases e : s = i
  · subst e; simp [h]
  · simp [e]
theorem ce_del0 {m s : Nat} (hs : s < 32) (h : m.testBit s = false) : nI m &&& (((1 : Int32) <<< (nI s &&& 31)) ^^^ (-1)) = nI m := by
  apply b_ext
  intro i hi
  rw [b_and, b_xor, ce_b1 hs, b_m1 i hi, ce_bn _ hi]
  by_cases e : s = i
  · subst e; simp [h]
  · simp [e]
theorem ce_diff {a b : Nat} (hb : b < 256) : nI b &&& (nI a ^^^ (-1)) = nI (b &&& (255 ^^^ a)) := by
  apply b_ext
  intro i hi
  rw [b_and, b_xor, b_m1 i hi, ce_bn _ hi, ce_bn _ hi, ce_bn _ hi, Nat.testBit_and, Nat.testBit_xor]
  by_cases z : i < 8
  · have q : (255 : Nat).testBit i = true := (by decide : ∀ i, i < 8 → (255 : Nat).testBit i = true) i z
    rw [q]
    cases a.testBit i <;> simp
  · rw [ce_hi hb (by omega)]; simp
theorem ce_sub_refl (a : Nat) : ce_sub a a := fun _ h => h
theorem ce_sub_trans {a b c : Nat} (h : ce_sub a b) (k : ce_sub b c) : ce_sub a c := fun i z => k i (h i z)
theorem ce_sub_anti {a b : Nat} (h : ce_sub a b) (k : ce_sub b a) : a = b := by
  apply Nat.eq_of_testBit_eq
  intro i
  have h1 := h i
  have h2 := k i
  revert h1 h2
  cases a.testBit i <;> cases b.testBit i <;> simp
theorem ce_sub_lt {a b : Nat} (hb : b < 256) (h : ce_sub a b) : a < 256 := by
  have e : a = a &&& b := by
    apply Nat.eq_of_testBit_eq
    intro i
    rw [Nat.testBit_and]
    have q := h i
    revert q
    cases a.testBit i <;> cases b.testBit i <;> simp
  rw [e]
  exact Nat.lt_of_le_of_lt Nat.and_le_right hb
theorem ce_sub_le {a b : Nat} (h : ce_sub a b) : a ≤ b := by
  have e : a = a &&& b := by
    apply Nat.eq_of_testBit_eq
    intro i
    rw [Nat.testBit_and]
    have q := h i
    revert q
    cases a.testBit i <;> cases b.testBit i <;> simp
  rw [e]
  exact Nat.and_le_right
theorem ce_sub_del {m s : Nat} (h : m.testBit s = true) : ce_sub (m ^^^ 2 ^ s) m := by
  intro i hi
  rw [ce_xt] at hi
  by_cases e : s = i
  · subst e; exact h
  · simpa [e] using hi
theorem ce_sub_add {m s : Nat} (h : m.testBit s = false) : ce_sub m (m ^^^ 2 ^ s) := by
  intro i hi
  rw [ce_xt]
  by_cases e : s = i
  · subst e; rw [h] at hi; cases hi
  · simpa [e] using hi
/-- a proper subset lies within one slot less -/
theorem ce_sub_one {a b : Nat} (h : ce_sub a b) (ne : a ≠ b) : ∃ s, b.testBit s = true ∧ a.testBit s = false ∧ ce_sub a (b ^^^ 2 ^ s) := by
  obtain ⟨s, hs⟩ := Classical.byContradiction (p := ∃ s, b.testBit s = true ∧ a.testBit s = false) (fun z => ne (ce_sub_anti h (fun i hi => by
    cases q : a.testBit i
    · exact absurd ⟨i, hi, q⟩ z
    · rfl)))
  refine ⟨s, hs.1, hs.2, fun i hi => ?_⟩
  rw [ce_xt]
  by_cases e : s = i
  · subst e; rw [hs.2] at hi; cases hi
  · simpa [e] using h i hi
/-- a proper superset holds one slot more -/
theorem ce_sup_one {a b : Nat} (h : ce_sub a b) (ne : a ≠ b) : ∃ s, b.testBit s = true ∧ a.testBit s = false ∧ ce_sub (a ^^^ 2 ^ s) b := by
  obtain ⟨s, h1, h2, _⟩ := ce_sub_one h ne
  refine ⟨s, h1, h2, fun i hi => ?_⟩
  rw [ce_xt] at hi
  by_cases e : s = i
  · subst e; exact h1
  · exact h i (by simpa [e] using hi)
end
section
/-! the pure picture: truth of a clause, satisfiability, the two lists, the verdict -/
/-- literal x is true under assignment a -/
def ce_lt (x a : Int32) : Prop := (¬ x ≤ 0 ∧ ¬ (a &&& ((1 : Int32) <<< ((x - 1) &&& 31))) = 0) ∨ (¬ 0 ≤ x ∧ (a &&& ((1 : Int32) <<< (((-x) - 1) &&& 31))) = 0)
/-- the clause in slot s is true under a -/
def ce_cl (L : Nat → Int32) (s : Nat) (a : Int32) : Prop := ∃ p, p < 3 ∧ ce_lt (L (s * 3 + p)) a
/-- all clauses of mask M are true under a -/
def ce_all (L : Nat → Int32) (M : Nat) (a : Int32) : Prop := ∀ s, M.testBit s = true → ce_cl L s a
/-- mask m is satisfiable beside the hard mask H -/
def ce_S (L : Nat → Int32) (V H m : Nat) : Prop := ∃ a, a < 2 ^ V ∧ ce_all L (m ||| H) (nI a)
theorem ce_all_sub {L : Nat → Int32} {M N : Nat} {a : Int32} (h : ce_sub M N) (k : ce_all L N a) : ce_all L M a := fun s z => k s (h s z)
theorem ce_or_sub {a b H : Nat} (h : ce_sub a b) : ce_sub (a ||| H) (b ||| H) := by
  intro i hi
  rw [Nat.testBit_or, Bool.or_eq_true] at hi ⊢
  exact hi.imp (h i) id
theorem ce_S_sub {L : Nat → Int32} {V H : Nat} (a b : Nat) (h : ce_sub a b) (k : ce_S L V H b) : ce_S L V H a := by
  obtain ⟨x, hx, hk⟩ := k
  exact ⟨x, hx, ce_all_sub (ce_or_sub h) hk⟩
/-- r is the least a below n with P a, or -19 -/
def ce_least (P : Nat → Prop) (n : Nat) (r : Int32) : Prop := (∃ a, a < n ∧ P a ∧ (∀ b, b < a → ¬ P b) ∧ r = nI a) ∨ ((∀ a, a < n → ¬ P a) ∧ r = -19)
theorem ce_least_u {P : Nat → Prop} {n : Nat} {r r' : Int32} (h : ce_least P n r) (k : ce_least P n r') : r' = r := by
  rcases h with ⟨a, ha, pa, la, rfl⟩ | ⟨h, rfl⟩
  · rcases k with ⟨b, hb, pb, lb, rfl⟩ | ⟨k, rfl⟩
    · rcases Nat.lt_trichotomy a b with z | z | z
      · exact absurd pa (lb a z)
      · rw [z]
      · exact absurd pb (la b z)
    · exact absurd pa (k a ha)
  · rcases k with ⟨b, hb, pb, lb, rfl⟩ | ⟨k, rfl⟩
    · exact absurd pb (h b hb)
    · rfl
theorem ce_n19 {a : Nat} (h : a < 2 ^ 31) : ¬ nI a = -19 := by
  intro e
  have q := nI_pos h
  rw [e] at q
  exact q (by decide)
theorem ce_least_s {P : Nat → Prop} {n : Nat} {r : Int32} (hn : n < 2 ^ 31) (h : ce_least P n r) : r = -19 ↔ ¬ ∃ a, a < n ∧ P a := by
  rcases h with ⟨a, ha, pa, la, rfl⟩ | ⟨h, rfl⟩
  · exact ⟨fun e => absurd e (ce_n19 (by omega)), fun z => absurd ⟨a, ha, pa⟩ z⟩
  · exact ⟨fun _ ⟨a, ha, pa⟩ => h a ha pa, fun _ => rfl⟩
noncomputable def ce_b (P : Prop) : Bool := @decide P (Classical.propDecidable P)
theorem ce_bt {P : Prop} (h : P) : ce_b P = true := @decide_eq_true P (Classical.propDecidable P) h
theorem ce_bf {P : Prop} (h : ¬ P) : ce_b P = false := @decide_eq_false P (Classical.propDecidable P) h
theorem ce_bi {P : Prop} : ce_b P = true ↔ P := ⟨@of_decide_eq_true P (Classical.propDecidable P), ce_bt⟩
/-- the masks f 0, f 1 .. f (n - 1) with P, in that order -/
noncomputable def ce_ls (P : Nat → Prop) (f : Nat → Nat) : Nat → List Nat
  | 0 => []
  | n + 1 => ce_ls P f n ++ (if ce_b (P (f n)) = true then [f n] else [])
theorem ce_ls_t {P : Nat → Prop} {f : Nat → Nat} {n : Nat} (h : P (f n)) : ce_ls P f (n + 1) = ce_ls P f n ++ [f n] := by
  show ce_ls P f n ++ (if ce_b (P (f n)) = true then [f n] else []) = _
  rw [if_pos (ce_bt h)]
theorem ce_ls_f {P : Nat → Prop} {f : Nat → Nat} {n : Nat} (h : ¬ P (f n)) : ce_ls P f (n + 1) = ce_ls P f n := by
  show ce_ls P f n ++ (if ce_b (P (f n)) = true then [f n] else []) = _
  rw [ce_bf h, if_neg (by decide), List.append_nil]
theorem ce_ls_len (P : Nat → Prop) (f : Nat → Nat) (n : Nat) : (ce_ls P f n).length ≤ n := by
  induction n with
  | zero => exact Nat.le_refl 0
  | succ n ih =>
    by_cases h : P (f n)
    · rw [ce_ls_t h, List.length_append]
      show _ + 1 ≤ _
      omega
    · rw [ce_ls_f h]
      omega
theorem ce_ls_mem {P : Nat → Prop} {f : Nat → Nat} {n x : Nat} : x ∈ ce_ls P f n ↔ ∃ k, k < n ∧ x = f k ∧ P x := by
  induction n with
  | zero => exact ⟨fun h => (nomatch h), fun ⟨k, hk, _⟩ => absurd hk (Nat.not_lt_zero k)⟩
  | succ n ih =>
    by_cases h : P (f n)
    · rw [ce_ls_t h, List.mem_append, ih, List.mem_singleton]
      constructor
      · rintro (⟨k, hk, e, p⟩ | e)
        · exact ⟨k, by omega, e, p⟩
        · exact ⟨n, by omega, e, e ▸ h⟩
      · rintro ⟨k, hk, e, p⟩
        by_cases z : k = n
        · subst z; exact Or.inr e
        · exact Or.inl ⟨k, by omega, e, p⟩
    · rw [ce_ls_f h, ih]
      constructor
      · rintro ⟨k, hk, e, p⟩
        exact ⟨k, by omega, e, p⟩
      · rintro ⟨k, hk, e, p⟩
        by_cases z : k = n
        · subst z; exact absurd (e ▸ p) h
        · exact ⟨k, by omega, e, p⟩
theorem ce_ls_congr {P Q : Nat → Prop} {f : Nat → Nat} : ∀ {n : Nat}, (∀ k, k < n → (P (f k) ↔ Q (f k))) → ce_ls P f n = ce_ls Q f n := by
  intro n
  induction n with
  | zero => exact fun _ => rfl
  | succ n ih =>
    intro h
    have e := ih (fun k hk => h k (by omega))
    by_cases p : P (f n)
    · rw [ce_ls_t p, ce_ls_t ((h n (by omega)).mp p), e]
    · rw [ce_ls_f p, ce_ls_f (fun q => p ((h n (by omega)).mpr q)), e]
/-- array a holds the list l -/
def ce_ar (l : List Nat) (a : Nat → Int32) : Prop := ∀ k m, l[k]? = some m → a k = nI m
theorem ce_ar0 (a : Nat → Int32) : ce_ar [] a := fun k m h => by simp at h
theorem ce_ar_put {l : List Nat} {a : Nat → Int32} {m : Nat} (h : ce_ar l a) : ce_ar (l ++ [m]) (upd a l.length (nI m)) := by
  intro k x hx
  rcases Nat.lt_trichotomy k l.length with z | z | z
  · rw [List.getElem?_append_left z] at hx
    rw [pk_un (by omega)]
    exact h k x hx
  · subst z
    rw [List.getElem?_append_right (Nat.le_refl _), Nat.sub_self] at hx
    have e : m = x := by simpa using hx
    rw [pk_us, e]
  · rw [List.getElem?_eq_none (by rw [List.length_append]; show l.length + 1 ≤ k; omega)] at hx
    cases hx
theorem ce_ar_get {l : List Nat} {a : Nat → Int32} (h : ce_ar l a) {k : Nat} (hk : k < l.length) : ∃ m, m ∈ l ∧ l[k]? = some m ∧ a k = nI m :=
  ⟨l[k], List.getElem_mem hk, List.getElem?_eq_getElem hk, h k _ (List.getElem?_eq_getElem hk)⟩
/-- a core, a maximal of F by one slot less, one slot more -/
def ce_core (S : Nat → Prop) (F m : Nat) : Prop := ce_sub m F ∧ ¬ S m ∧ ∀ s, m.testBit s = true → S (m ^^^ 2 ^ s)
def ce_maxi (S : Nat → Prop) (F m : Nat) : Prop := ce_sub m F ∧ S m ∧ ∀ s, F.testBit s = true → m.testBit s = false → ¬ S (m ^^^ 2 ^ s)
/-- the same by all subsets -/
theorem ce_core_all {S : Nat → Prop} {F m : Nat} (hS : ∀ a b, ce_sub a b → S b → S a) : ce_core S F m ↔ ce_sub m F ∧ ¬ S m ∧ ∀ x, ce_sub x m → x ≠ m → S x := by
  constructor
  · rintro ⟨h1, h2, h3⟩
    refine ⟨h1, h2, fun x hx ne => ?_⟩
    obtain ⟨s, a, b, c⟩ := ce_sub_one hx ne
    exact hS _ _ c (h3 s a)
  · rintro ⟨h1, h2, h3⟩
    refine ⟨h1, h2, fun s hs => h3 _ (ce_sub_del hs) (fun e => ?_)⟩
    have q := ce_xt m s s
    rw [e, hs] at q
    simp at q
theorem ce_maxi_all {S : Nat → Prop} {F m : Nat} (hS : ∀ a b, ce_sub a b → S b → S a) : ce_maxi S F m ↔ ce_sub m F ∧ S m ∧ ∀ x, ce_sub m x → ce_sub x F → x ≠ m → ¬ S x := by
  constructor
  · rintro ⟨h1, h2, h3⟩
    refine ⟨h1, h2, fun x hx hF ne sx => ?_⟩
    obtain ⟨s, a, b, c⟩ := ce_sup_one hx (Ne.symm ne)
    exact h3 s (hF s a) b (hS _ _ c sx)
  · rintro ⟨h1, h2, h3⟩
    refine ⟨h1, h2, fun s hF hs => h3 _ (ce_sub_add hs) (fun i hi => ?_) (fun e => ?_)⟩
    · rw [ce_xt] at hi
      by_cases z : s = i
      · subst z; exact hF
      · exact h1 i (by simpa [z] using hi)
    · have q := ce_xt m s s
      rw [e, hs] at q
      simp at q
/-- one of the first e masks of l holds m; lies in m -/
def ce_up1 (l : List Nat) (e m : Nat) : Prop := ∃ k x, k < e ∧ l[k]? = some x ∧ ce_sub m x
def ce_dn1 (l : List Nat) (e m : Nat) : Prop := ∃ k x, k < e ∧ l[k]? = some x ∧ ce_sub x m
/-- what the emitted masks tell of m: the first g of ml, the first e of cl -/
def ce_jd (cl ml : List Nat) (e g m : Nat) (r : Int32) : Prop :=
  (r = 1 ∧ ce_up1 ml g m) ∨ (r = 2 ∧ ¬ ce_up1 ml g m ∧ ce_dn1 cl e m) ∨ (r = 0 ∧ ¬ ce_up1 ml g m ∧ ¬ ce_dn1 cl e m)
theorem ce_jd_u {cl ml : List Nat} {e g m : Nat} {r r' : Int32} (h : ce_jd cl ml e g m r) (k : ce_jd cl ml e g m r') : r' = r := by
  rcases h with ⟨rfl, h⟩ | ⟨rfl, h, h2⟩ | ⟨rfl, h, h2⟩ <;> rcases k with ⟨rfl, k⟩ | ⟨rfl, k, k2⟩ | ⟨rfl, k, k2⟩ <;> first | rfl | exact absurd h k | exact absurd k h | exact absurd h2 k2 | exact absurd k2 h2
theorem ce_jd_0 {cl ml : List Nat} {e g m : Nat} {r : Int32} (h : ce_jd cl ml e g m r) : r = 0 ↔ ¬ ce_up1 ml g m ∧ ¬ ce_dn1 cl e m := by
  rcases h with ⟨rfl, h⟩ | ⟨rfl, h, h2⟩ | ⟨rfl, h, h2⟩
  · exact ⟨fun z => absurd z (by decide), fun z => absurd h z.1⟩
  · exact ⟨fun z => absurd z (by decide), fun z => absurd h2 z.2⟩
  · exact ⟨fun _ => ⟨h, h2⟩, fun _ => rfl⟩
/-- table t says of each m below n whether P m -/
def ce_tab (P : Nat → Prop) (n : Nat) (t : Nat → Int32) : Prop := ∀ m, m < n → (t m = 0 ↔ ¬ P m)
theorem ce_tab0 (P : Nat → Prop) (t : Nat → Int32) : ce_tab P 0 t := fun m h => absurd h (Nat.not_lt_zero m)
theorem ce_tab_put {P : Nat → Prop} {n : Nat} {t : Nat → Int32} {x : Int32} (h : ce_tab P n t) (hx : x = 0 ↔ ¬ P n) : ce_tab P (n + 1) (upd t n x) := by
  intro m hm
  by_cases e : m = n
  · subst e; rw [pk_us]; exact hx
  · rw [pk_un e]; exact h m (by omega)
theorem ce_nf {x : Bool} (h : ¬ x = false) : x = true := by cases x <;> first | rfl | exact absurd rfl h
theorem ce_nt {x : Bool} (h : ¬ x = true) : x = false := by cases x <;> first | rfl | exact absurd rfl h
theorem ce_sh : ∀ V, V ≤ 5 → (1 : Int32) <<< (nI V &&& 31) = nI (2 ^ V) := by decide +kernel
theorem ce_v32 {V : Nat} (h : V ≤ 5) : 2 ^ V ≤ 32 := Nat.pow_le_pow_right (n := 2) (by decide) h
theorem ce_nb0 : vp_nar .boolean 0 = 0 := by rfl
theorem ce_nb1 : vp_nar .boolean 1 = 1 := by rfl
/-- r is the greatest m below 256 with P m, or -19 -/
def ce_great (P : Nat → Prop) (r : Int32) : Prop := (∃ m, m < 256 ∧ P m ∧ (∀ b, b < 256 → m < b → ¬ P b) ∧ r = nI m) ∨ ((∀ m, m < 256 → ¬ P m) ∧ r = -19)
theorem ce_great_u {P : Nat → Prop} {r r' : Int32} (h : ce_great P r) (k : ce_great P r') : r' = r := by
  rcases h with ⟨a, ha, pa, la, rfl⟩ | ⟨h, rfl⟩
  · rcases k with ⟨b, hb, pb, lb, rfl⟩ | ⟨k, rfl⟩
    · rcases Nat.lt_trichotomy a b with z | z | z
      · exact absurd pb (la b hb z)
      · rw [z]
      · exact absurd pa (lb a ha z)
    · exact absurd pa (k a ha)
  · rcases k with ⟨b, hb, pb, lb, rfl⟩ | ⟨k, rfl⟩
    · exact absurd pb (h b hb)
    · rfl
end
section
/-! each unsatisfiable subset holds a core, each satisfiable one lies in a maximal -/
theorem ce_del_lt {m s : Nat} (h : m.testBit s = true) : m ^^^ 2 ^ s < m := by
  have a := ce_sub_le (ce_sub_del h)
  have b : m ^^^ 2 ^ s ≠ m := by
    intro e
    have q := ce_xt m s s
    rw [e, h] at q
    simp at q
  omega
theorem ce_add_lt {m s : Nat} (h : m.testBit s = false) : m < m ^^^ 2 ^ s := by
  have a := ce_sub_le (ce_sub_add h)
  have b : m ^^^ 2 ^ s ≠ m := by
    intro e
    have q := ce_xt m s s
    rw [e, h] at q
    simp at q
  omega
theorem ce_sub_ins {m s F : Nat} (h : ce_sub m F) (hs : F.testBit s = true) : ce_sub (m ^^^ 2 ^ s) F := by
  intro i hi
  rw [ce_xt] at hi
  by_cases z : s = i
  · subst z; exact hs
  · exact h i (by simpa [z] using hi)
theorem ce_ex_core {S : Nat → Prop} {F : Nat} (m : Nat) : ce_sub m F → ¬ S m → ∃ x, ce_core S F x ∧ ce_sub x m := by
  induction m using Nat.strongRecOn with
  | ind m ih =>
    intro hF hS
    by_cases h : ∃ s, m.testBit s = true ∧ ¬ S (m ^^^ 2 ^ s)
    · obtain ⟨s, hs, n⟩ := h
      have d := ce_sub_del hs
      obtain ⟨x, hx, k⟩ := ih (m ^^^ 2 ^ s) (ce_del_lt hs) (ce_sub_trans d hF) n
      exact ⟨x, hx, ce_sub_trans k d⟩
    · exact ⟨m, ⟨hF, hS, fun s hs => Classical.byContradiction fun n => h ⟨s, hs, n⟩⟩, ce_sub_refl m⟩
theorem ce_ex_max {S : Nat → Prop} {F : Nat} (hF : F < 256) : ∀ d m, 256 - m ≤ d → ce_sub m F → S m → ∃ x, ce_maxi S F x ∧ ce_sub m x := by
  intro d
  induction d with
  | zero =>
    intro m hd hm _
    have q := ce_sub_lt hF hm
    omega
  | succ d ih =>
    intro m hd hm hs
    by_cases h : ∃ s, F.testBit s = true ∧ m.testBit s = false ∧ S (m ^^^ 2 ^ s)
    · obtain ⟨s, a, b, c⟩ := h
      have l := ce_add_lt b
      have q := ce_sub_lt hF hm
      obtain ⟨x, hx, k⟩ := ih (m ^^^ 2 ^ s) (by omega) (ce_sub_ins hm a) c
      exact ⟨x, hx, ce_sub_trans (ce_sub_add b) k⟩
    · exact ⟨m, ⟨hm, hs, fun s a b c => h ⟨s, a, b, c⟩⟩, ce_sub_refl m⟩
end
section
/-! X: contains, isClauseTrue, areClausesTrue, leastAssignment, isSubset -/
theorem cx_has {post : Int32 → Prop} {m s : Nat} (hs : s < 32) (ht : m.testBit s = true → post 1) (hf : m.testBit s = false → post 0) : wpX_contains post () (nI m) (nI s) :=
  br_c (fun z => hf ((ce_hasN m hs).mp z)) (fun z => ht (ce_nf (fun q => z ((ce_hasN m hs).mpr q))))
theorem cx_ct7 {V C F H : Nat} {cc mc ce me rd : Int32} {L xc xm xs : Nat → Int32} {post : Int32 → Prop} {s : Nat} {a : Int32} (hs : s < 8) (ht : ce_cl L s a → post 1) (hf : ¬ ce_cl L s a → post 0) :
    ∀ d p : Nat, p + d = 3 → (∀ q, q < p → ¬ ce_lt (L (s * 3 + q)) a) → wX_isClauseTrue_7 post a (nI (s * 3)) (nI V) (nI C) (nI F) (nI H) cc mc ce me rd L xc xm xs (d + 1) (nI p) := by
  intro d
  induction d with
  | zero =>
    intro p hp hq
    refine br_t (nI_le (a := 3) (b := p) (by omega) (by omega)) (hf ?_)
    rintro ⟨q, hq3, hl⟩
    exact hq q (by omega) hl
  | succ d ih =>
    intro p hp hq
    have hn : ¬ (3 : Int32) ≤ nI p := nI_ge (b := 3) (by omega) (by decide)
    have e : nI (s * 3) + nI p = nI (s * 3 + p) := nI_add _ _
    have hi : vp_in (nI (s * 3) + nI p) 24 := by rw [e]; exact vp_in_nI (by omega) (by decide)
    have hc : (nI (s * 3) + nI p).toNatClampNeg = s * 3 + p := by rw [e]; exact nI_clamp (by omega)
    have next : ¬ ce_lt (L (s * 3 + p)) a → wX_isClauseTrue_7 post a (nI (s * 3)) (nI V) (nI C) (nI F) (nI H) cc mc ce me rd L xc xm xs (d + 1) (nI p + 1) := by
      intro z
      rw [nI_1 p]
      exact ih (p + 1) (by omega) (fun q h => by
        by_cases e : q = p
        · subst e; exact z
        · exact hq q (by omega))
    have j42 : (¬ (¬ L (s * 3 + p) ≤ 0 ∧ ¬ (a &&& ((1 : Int32) <<< ((L (s * 3 + p) - 1) &&& 31))) = 0)) → wX_isClauseTrue_42 post (wX_isClauseTrue_7 post a (nI (s * 3)) (nI V) (nI C) (nI F) (nI H) cc mc ce me rd L xc xm xs (d + 1)) a (nI (s * 3)) (nI p) (L (s * 3 + p)) (nI V) (nI C) (nI F) (nI H) cc mc ce me rd L xc xm xs := by
      intro z
      refine br_c (fun h0 => nm_e (next ?_)) (fun h0 => br_c (fun h1 => ht ⟨p, by omega, Or.inr ⟨h0, h1⟩⟩) (fun h1 => nm_e (next ?_)))
      · rintro (w | w)
        · exact z w
        · exact w.1 h0
      · rintro (w | w)
        · exact z w
        · exact h1 w.2
    refine br_f hn ⟨hi, nm_r (e' := L (s * 3 + p)) (by rw [hc]) ?_⟩
    exact br_c (fun h0 => j42 (fun w => w.1 h0)) (fun h0 => br_c (fun h1 => j42 (fun w => w.2 h1)) (fun h1 => ht ⟨p, by omega, Or.inl ⟨h0, h1⟩⟩))
theorem cx_ct {V C F H : Nat} {cc mc ce me rd : Int32} {L xc xm xs : Nat → Int32} {post : Int32 → Prop} {s : Nat} {a : Int32} (hs : s < 8) (ht : ce_cl L s a → post 1) (hf : ¬ ce_cl L s a → post 0) : wpX_isClauseTrue post (nI V, nI C, nI F, nI H, cc, mc, ce, me, rd, L, xc, xm, xs) (nI s) a :=
  nm_r (e' := nI (s * 3)) (pk_mul s 3) ⟨4, cx_ct7 hs ht hf 3 0 rfl (fun q h => absurd h (Nat.not_lt_zero q))⟩
theorem cx_at2 {V C F H : Nat} {cc mc ce me rd : Int32} {L xc xm xs : Nat → Int32} {post : Int32 → Prop} {M : Nat} {a : Int32} (hC : C ≤ 8) (hM : ∀ s, M.testBit s = true → s < C) (ht : ce_all L M a → post 1) (hf : ¬ ce_all L M a → post 0) :
    ∀ d s : Nat, s + d = C → (∀ q, q < s → M.testBit q = true → ce_cl L q a) → wX_areClausesTrue_2 post (nI M) a (nI V) (nI C) (nI F) (nI H) cc mc ce me rd L xc xm xs (d + 1) (nI s) := by
  intro d
  induction d with
  | zero =>
    intro s hs hq
    exact br_t (nI_le (by omega) (by omega)) (ht (fun q hb => hq q (by have := hM q hb; omega) hb))
  | succ d ih =>
    intro s hs hq
    have next : (M.testBit s = true → ce_cl L s a) → wX_areClausesTrue_2 post (nI M) a (nI V) (nI C) (nI F) (nI H) cc mc ce me rd L xc xm xs (d + 1) (nI s + 1) := by
      intro z
      rw [nI_1 s]
      exact ih (s + 1) (by omega) (fun q h hb => by
        by_cases e : q = s
        · subst e; exact z hb
        · exact hq q (by omega) hb)
    refine br_f (nI_ge (by omega) (by omega)) ?_
    refine cx_has (by omega) (fun hb => br_f (by decide) ?_) (fun hb => br_t rfl (nm_e (next (fun z => by rw [hb] at z; cases z))))
    exact cx_ct (by omega) (fun hc => br_f (by decide) (nm_e (next (fun _ => hc)))) (fun hc => br_t rfl (hf (fun w => hc (w s hb))))
theorem cx_at {V C F H : Nat} {cc mc ce me rd : Int32} {L xc xm xs : Nat → Int32} {post : Int32 → Prop} {M : Nat} {a : Int32} (hC : C ≤ 8) (hM : ∀ s, M.testBit s = true → s < C) (ht : ce_all L M a → post 1) (hf : ¬ ce_all L M a → post 0) : wpX_areClausesTrue post (nI V, nI C, nI F, nI H, cc, mc, ce, me, rd, L, xc, xm, xs) (nI M) a :=
  ⟨C + 1, cx_at2 hC hM ht hf C 0 (by omega) (fun q h => absurd h (Nat.not_lt_zero q))⟩
theorem cx_la17 {V C F H : Nat} {cc mc ce me rd : Int32} {L xc xm xs : Nat → Int32} {post : Int32 → Prop} {M N : Nat} (hN : N ≤ 32) (hC : C ≤ 8) (hM : ∀ s, M.testBit s = true → s < C) (hp : ∀ r, ce_least (fun a => ce_all L M (nI a)) N r → post r) :
    ∀ d a : Nat, a + d = N → (∀ b, b < a → ¬ ce_all L M (nI b)) → wX_leastAssignment_17 post (nI M) (nI N) (nI V) (nI C) (nI F) (nI H) cc mc ce me rd L xc xm xs (d + 1) (nI a) := by
  intro d
  induction d with
  | zero =>
    intro a ha hb
    exact br_t (nI_le (by omega) (by omega)) (hp _ (Or.inr ⟨fun b h => hb b (by omega), rfl⟩))
  | succ d ih =>
    intro a ha hb
    refine br_f (nI_ge (by omega) (by omega)) ?_
    refine cx_at hC hM (fun h => br_f (by decide) (hp _ (Or.inl ⟨a, by omega, h, hb, rfl⟩))) (fun h => br_t rfl (nm_r (nI_1 a) ?_))
    exact ih (a + 1) (by omega) (fun b hb' => by
      by_cases e : b = a
      · subst e; exact h
      · exact hb b (by omega))
theorem cx_la {V C F H : Nat} {cc mc ce me rd : Int32} {L xc xm xs : Nat → Int32} {post : Int32 → Prop} {m : Nat} (hV : V ≤ 5) (hC : C ≤ 8) (hM : ∀ s, (m ||| H).testBit s = true → s < C) (hp : ∀ r, ce_least (fun a => ce_all L (m ||| H) (nI a)) (2 ^ V) r → post r) : wpX_leastAssignment post (nI V, nI C, nI F, nI H, cc, mc, ce, me, rd, L, xc, xm, xs) (nI m) :=
  nm_r (e' := nI (m ||| H)) (ce_or m H) (nm_r (e' := nI (2 ^ V)) (ce_sh V hV) ⟨2 ^ V + 1, cx_la17 (ce_v32 hV) hC hM hp (2 ^ V) 0 (Nat.zero_add _) (fun q h => absurd h (Nat.not_lt_zero q))⟩)
theorem cx_sub {V C F H : Nat} {cc mc ce me rd : Int32} {L xc xm xs : Nat → Int32} {post : Int32 → Prop} {x : Int32} (ht : x &&& (nI F ^^^ (-1)) = 0 → post 1) (hf : ¬ x &&& (nI F ^^^ (-1)) = 0 → post 0) : wpX_isSubset post (nI V, nI C, nI F, nI H, cc, mc, ce, me, rd, L, xc, xm, xs) x := by
  unfold wpX_isSubset
  exact br_c (fun z => ⟨rfl, ht z⟩) (fun z => ⟨rfl, hf z⟩)
theorem cx_subN {V C F H : Nat} {cc mc ce me rd : Int32} {L xc xm xs : Nat → Int32} {post : Int32 → Prop} {m : Nat} (hm : m < 256) (ht : ce_sub m F → post 1) (hf : ¬ ce_sub m F → post 0) : wpX_isSubset post (nI V, nI C, nI F, nI H, cc, mc, ce, me, rd, L, xc, xm, xs) (nI m) :=
  cx_sub (fun z => ht ((ce_inN hm).mp z)) (fun z => hf (fun q => z ((ce_inN hm).mpr q)))
end
section
/-! X: findSatisfiableSubsets, isCore, listCores, isMaximal, listMaximals, enumerate -/
/-- a subset of F that is satisfiable -/
def ce_P (L : Nat → Int32) (V F H m : Nat) : Prop := ce_sub m F ∧ ce_S L V H m
theorem ce_low {F H C m : Nat} (hF : ∀ s, F.testBit s = true → s < C) (hH : ∀ s, H.testBit s = true → s < C) (h : ce_sub m F) : ∀ s, (m ||| H).testBit s = true → s < C := by
  intro s hs
  rw [Nat.testBit_or, Bool.or_eq_true] at hs
  rcases hs with z | z
  · exact hF s (h s z)
  · exact hH s z
theorem cx_fs2 {V C F H : Nat} {cc mc ce me rd : Int32} {L xc xm : Nat → Int32} {post : St2 → Prop} (hV : V ≤ 5) (hC : C ≤ 8) (hF : ∀ s, F.testBit s = true → s < C) (hH : ∀ s, H.testBit s = true → s < C)
    (hp : ∀ t, ce_tab (ce_P L V F H) 256 t → post (nI V, nI C, nI F, nI H, cc, mc, ce, me, rd, L, xc, xm, t)) :
    ∀ d i t, i + d = 256 → ce_tab (ce_P L V F H) i t → wX_findSatisfiableSubsets_2 post (nI V) (nI C) (nI F) (nI H) cc mc ce me rd (d + 1) (nI i) L xc xm t := by
  intro d
  induction d with
  | zero =>
    intro i t hi T
    have e : i = 256 := by omega
    subst e
    exact br_t (nI_le (a := 256) (Nat.le_refl _) (by decide)) (hp t T)
  | succ d ih =>
    intro i t hi T
    have hin : vp_in (nI i) 256 := vp_in_nI (by omega) (by decide)
    have hc : (nI i).toNatClampNeg = i := nI_clamp (by omega)
    have go : ∀ x, (x = 0 ↔ ¬ ce_P L V F H i) → wX_findSatisfiableSubsets_2 post (nI V) (nI C) (nI F) (nI H) cc mc ce me rd (d + 1) (nI i + 1) L xc xm (upd t (nI i).toNatClampNeg x) := by
      intro x hx
      rw [hc, nI_1 i]
      exact ih (i + 1) _ (by omega) (ce_tab_put T hx)
    refine br_f (nI_ge (b := 256) (by omega) (by decide)) ?_
    refine cx_subN (by omega) (fun hs => br_f (by decide) ?_) (fun hs => br_t rfl ⟨hin, nm_e (nm_e (go _ ⟨fun _ z => hs z.1, fun _ => rfl⟩))⟩)
    refine cx_la hV hC (ce_low hF hH hs) (fun r hr => ?_)
    have q := ce_least_s (by have := ce_v32 hV; omega) hr
    refine br_c (fun z => ⟨hin, nm_e (nm_e (go _ ⟨fun _ w => q.mp z w.2, fun _ => rfl⟩))⟩) (fun z => ⟨hin, nm_e (nm_e (go _ ⟨fun w => ?_, fun w => ?_⟩))⟩)
    · exact absurd w (by decide)
    · exact absurd ⟨hs, Classical.byContradiction (fun y => z (q.mpr y))⟩ w
theorem cx_fs {V C F H : Nat} {cc mc ce me rd : Int32} {L xc xm xs : Nat → Int32} {post : St2 → Prop} (hV : V ≤ 5) (hC : C ≤ 8) (hF : ∀ s, F.testBit s = true → s < C) (hH : ∀ s, H.testBit s = true → s < C)
    (hp : ∀ t, ce_tab (ce_P L V F H) 256 t → post (nI V, nI C, nI F, nI H, cc, mc, ce, me, rd, L, xc, xm, t)) : wpX_findSatisfiableSubsets post (nI V, nI C, nI F, nI H, cc, mc, ce, me, rd, L, xc, xm, xs) :=
  ⟨257, cx_fs2 hV hC hF hH hp 256 0 xs rfl (ce_tab0 _ _)⟩
theorem cx_ic13 {V C F H : Nat} {cc mc ce me rd : Int32} {L xc xm xs : Nat → Int32} {post : Int32 → Prop} {m : Nat} (hC : C ≤ 8) (hm : m < 256) (hs : ce_sub m F) (hF : ∀ s, F.testBit s = true → s < C) (T : ce_tab (ce_P L V F H) 256 xs)
    (ht : (∀ s, m.testBit s = true → ce_S L V H (m ^^^ 2 ^ s)) → post 1) (hf : ¬ (∀ s, m.testBit s = true → ce_S L V H (m ^^^ 2 ^ s)) → post 0) :
    ∀ d s : Nat, s + d = C → (∀ q, q < s → m.testBit q = true → ce_S L V H (m ^^^ 2 ^ q)) → wX_isCore_13 post (nI m) (nI V) (nI C) (nI F) (nI H) cc mc ce me rd L xc xm xs (d + 1) (nI s) := by
  intro d
  induction d with
  | zero =>
    intro s hd hq
    exact br_t (nI_le (by omega) (by omega)) (ht (fun q hb => hq q (by have := hF q (hs q hb); omega) hb))
  | succ d ih =>
    intro s hd hq
    have next : (m.testBit s = true → ce_S L V H (m ^^^ 2 ^ s)) → wX_isCore_13 post (nI m) (nI V) (nI C) (nI F) (nI H) cc mc ce me rd L xc xm xs (d + 1) (nI s + 1) := by
      intro z
      rw [nI_1 s]
      exact ih (s + 1) (by omega) (fun q h hb => by
        by_cases e : q = s
        · subst e; exact z hb
        · exact hq q (by omega) hb)
    refine br_f (nI_ge (by omega) (by omega)) ?_
    refine cx_has (by omega) (fun hb => br_f (by decide) ?_) (fun hb => br_t rfl (nm_e (next (fun z => by rw [hb] at z; cases z))))
    have e := ce_del (m := m) (s := s) (by omega) hb
    have hx : m ^^^ 2 ^ s < 256 := ce_xl hm (by omega)
    have hc : (nI m &&& (((1 : Int32) <<< (nI s &&& 31)) ^^^ (-1))).toNatClampNeg = m ^^^ 2 ^ s := by rw [e]; exact nI_clamp (by omega)
    have hi : vp_in (nI m &&& (((1 : Int32) <<< (nI s &&& 31)) ^^^ (-1))) 256 := by rw [e]; exact vp_in_nI hx (by decide)
    have t := T _ hx
    have hsub : ce_sub (m ^^^ 2 ^ s) F := ce_sub_trans (ce_sub_del hb) hs
    refine ⟨hi, br_c (fun z => hf (fun w => ?_)) (fun z => nm_e (next (fun _ => ?_)))⟩
    · rw [hc] at z
      exact t.mp z ⟨hsub, w s hb⟩
    · rw [hc] at z
      exact Classical.byContradiction (fun y => z (t.mpr (fun w => y w.2)))
theorem cx_ic {V C F H : Nat} {cc mc ce me rd : Int32} {L xc xm xs : Nat → Int32} {post : Int32 → Prop} {m : Nat} (hC : C ≤ 8) (hm : m < 256) (hs : ce_sub m F) (hF : ∀ s, F.testBit s = true → s < C) (T : ce_tab (ce_P L V F H) 256 xs)
    (ht : ce_core (ce_S L V H) F m → post 1) (hf : ¬ ce_core (ce_S L V H) F m → post 0) : wpX_isCore post (nI V, nI C, nI F, nI H, cc, mc, ce, me, rd, L, xc, xm, xs) (nI m) := by
  have t := T _ hm
  have hc : (nI m).toNatClampNeg = m := nI_clamp (by omega)
  refine ⟨vp_in_nI hm (by decide), br_c (fun z => ?_) (fun z => ?_)⟩
  · rw [hc] at z
    have hn : ¬ ce_S L V H m := fun w => t.mp z ⟨hs, w⟩
    exact ⟨C + 1, cx_ic13 hC hm hs hF T (fun h => ht ⟨hs, hn, h⟩) (fun h => hf (fun w => h w.2.2)) C 0 (by omega) (fun q h => absurd h (Nat.not_lt_zero q))⟩
  · rw [hc] at z
    exact hf (fun w => z (t.mpr (fun y => w.2.1 y.2)))
theorem cx_lc7 {V C F H : Nat} {mc ce me rd : Int32} {L xm xs : Nat → Int32} {post : St2 → Prop} (hC : C ≤ 8) (hF : ∀ s, F.testBit s = true → s < C) (T : ce_tab (ce_P L V F H) 256 xs)
    (hp : ∀ a, ce_ar (ce_ls (ce_core (ce_S L V H) F) (fun k => k) 256) a → post (nI V, nI C, nI F, nI H, nI (ce_ls (ce_core (ce_S L V H) F) (fun k => k) 256).length, mc, ce, me, rd, L, a, xm, xs)) :
    ∀ d i a, i + d = 256 → ce_ar (ce_ls (ce_core (ce_S L V H) F) (fun k => k) i) a → wX_listCores_7 post (nI V) (nI C) (nI F) (nI H) mc ce me rd (d + 1) (nI i) (nI (ce_ls (ce_core (ce_S L V H) F) (fun k => k) i).length) L a xm xs := by
  intro d
  induction d with
  | zero =>
    intro i a hi A
    have e : i = 256 := by omega
    subst e
    exact br_t (nI_le (a := 256) (Nat.le_refl _) (by decide)) (hp a A)
  | succ d ih =>
    intro i a hi A
    have hl := ce_ls_len (ce_core (ce_S L V H) F) (fun k => k) i
    have no : ¬ ce_core (ce_S L V H) F i → wX_listCores_7 post (nI V) (nI C) (nI F) (nI H) mc ce me rd (d + 1) (nI i + 1) (nI (ce_ls (ce_core (ce_S L V H) F) (fun k => k) i).length) L a xm xs := by
      intro z
      have q := ih (i + 1) a (by omega)
      rw [ce_ls_f (P := ce_core (ce_S L V H) F) (f := fun k => k) (n := i) z] at q
      rw [nI_1 i]
      exact q A
    refine br_f (nI_ge (b := 256) (by omega) (by decide)) ?_
    refine cx_subN (by omega) (fun hs => br_f (by decide) ?_) (fun hs => br_t rfl (nm_e (no (fun w => hs w.1))))
    refine cx_ic hC (by omega) hs hF T (fun h => br_f (by decide) ⟨vp_in_nI (by omega) (by decide), nm_e (nm_e (nm_e ?_))⟩) (fun h => br_t rfl (nm_e (no h)))
    rw [nI_clamp (by omega), nI_1 i, nI_1 (ce_ls (ce_core (ce_S L V H) F) (fun k => k) i).length]
    have q := ih (i + 1) (upd a (ce_ls (ce_core (ce_S L V H) F) (fun k => k) i).length (nI i)) (by omega)
    rw [ce_ls_t (P := ce_core (ce_S L V H) F) (f := fun k => k) (n := i) h, List.length_append] at q
    exact q (ce_ar_put A)
theorem cx_lc {V C F H : Nat} {cc mc ce me rd : Int32} {L xc xm xs : Nat → Int32} {post : St2 → Prop} (hC : C ≤ 8) (hF : ∀ s, F.testBit s = true → s < C) (T : ce_tab (ce_P L V F H) 256 xs)
    (hp : ∀ a, ce_ar (ce_ls (ce_core (ce_S L V H) F) (fun k => k) 256) a → post (nI V, nI C, nI F, nI H, nI (ce_ls (ce_core (ce_S L V H) F) (fun k => k) 256).length, mc, ce, me, rd, L, a, xm, xs)) : wpX_listCores post (nI V, nI C, nI F, nI H, cc, mc, ce, me, rd, L, xc, xm, xs) :=
  ⟨257, cx_lc7 hC hF T hp 256 0 xc rfl (ce_ar0 _)⟩
theorem cx_im22 {V C F H : Nat} {cc mc ce me rd : Int32} {L xc xm xs : Nat → Int32} {post : Int32 → Prop} {m D : Nat} (hC : C ≤ 8) (hm : m < 256) (hs : ce_sub m F) (hF : ∀ s, F.testBit s = true → s < C) (T : ce_tab (ce_P L V F H) 256 xs)
    (hD : ∀ s, s < 8 → (D.testBit s = true ↔ F.testBit s = true ∧ m.testBit s = false))
    (ht : (∀ s, F.testBit s = true → m.testBit s = false → ¬ ce_S L V H (m ^^^ 2 ^ s)) → post 1) (hf : ¬ (∀ s, F.testBit s = true → m.testBit s = false → ¬ ce_S L V H (m ^^^ 2 ^ s)) → post 0) :
    ∀ d s : Nat, s + d = C → (∀ q, q < s → F.testBit q = true → m.testBit q = false → ¬ ce_S L V H (m ^^^ 2 ^ q)) → wX_isMaximal_22 post (nI m) (nI D) (nI V) (nI C) (nI F) (nI H) cc mc ce me rd L xc xm xs (d + 1) (nI s) := by
  intro d
  induction d with
  | zero =>
    intro s hd hq
    exact br_t (nI_le (by omega) (by omega)) (ht (fun q hb => hq q (by have := hF q hb; omega) hb))
  | succ d ih =>
    intro s hd hq
    have next : (F.testBit s = true → m.testBit s = false → ¬ ce_S L V H (m ^^^ 2 ^ s)) → wX_isMaximal_22 post (nI m) (nI D) (nI V) (nI C) (nI F) (nI H) cc mc ce me rd L xc xm xs (d + 1) (nI s + 1) := by
      intro z
      rw [nI_1 s]
      exact ih (s + 1) (by omega) (fun q h hb => by
        by_cases e : q = s
        · subst e; exact z hb
        · exact hq q (by omega) hb)
    refine br_f (nI_ge (by omega) (by omega)) ?_
    refine cx_has (by omega) (fun hb => br_f (by decide) ?_) (fun hb => br_t rfl (nm_e (next (fun z1 z2 => by rw [(hD s (by omega)).mpr ⟨z1, z2⟩] at hb; cases hb))))
    obtain ⟨hb1, hb2⟩ := (hD s (by omega)).mp hb
    have e := ce_add (m := m) (s := s) (by omega) hb2
    have hx : m ^^^ 2 ^ s < 256 := ce_xl hm (by omega)
    have hc : (nI m ||| ((1 : Int32) <<< (nI s &&& 31))).toNatClampNeg = m ^^^ 2 ^ s := by rw [e]; exact nI_clamp (by omega)
    have hi : vp_in (nI m ||| ((1 : Int32) <<< (nI s &&& 31))) 256 := by rw [e]; exact vp_in_nI hx (by decide)
    have t := T _ hx
    have hsub : ce_sub (m ^^^ 2 ^ s) F := ce_sub_ins hs hb1
    refine ⟨hi, br_c (fun z => nm_e (next (fun _ _ w => ?_))) (fun z => hf (fun w => ?_))⟩
    · rw [hc] at z
      exact t.mp z ⟨hsub, w⟩
    · rw [hc] at z
      exact z (t.mpr (fun y => w s hb1 hb2 y.2))
theorem cx_im {V C F H : Nat} {cc mc ce me rd : Int32} {L xc xm xs : Nat → Int32} {post : Int32 → Prop} {m : Nat} (hC : C ≤ 8) (hm : m < 256) (hF8 : F < 256) (hs : ce_sub m F) (hF : ∀ s, F.testBit s = true → s < C) (T : ce_tab (ce_P L V F H) 256 xs)
    (ht : ce_maxi (ce_S L V H) F m → post 1) (hf : ¬ ce_maxi (ce_S L V H) F m → post 0) : wpX_isMaximal post (nI V, nI C, nI F, nI H, cc, mc, ce, me, rd, L, xc, xm, xs) (nI m) := by
  have t := T _ hm
  have hc : (nI m).toNatClampNeg = m := nI_clamp (by omega)
  have hD : ∀ s, s < 8 → ((F &&& (255 ^^^ m)).testBit s = true ↔ F.testBit s = true ∧ m.testBit s = false) := by
    intro s hs
    have q : (255 : Nat).testBit s = true := (by decide : ∀ i, i < 8 → (255 : Nat).testBit i = true) s hs
    rw [Nat.testBit_and, Nat.testBit_xor, q]
    cases F.testBit s <;> cases m.testBit s <;> simp
  refine ⟨vp_in_nI hm (by decide), br_c (fun z => ?_) (fun z => nm_r (e' := nI (F &&& (255 ^^^ m))) (ce_diff hF8) ?_)⟩
  · rw [hc] at z
    exact hf (fun w => t.mp z ⟨hs, w.2.1⟩)
  · rw [hc] at z
    have hn : ce_S L V H m := Classical.byContradiction (fun w => z (t.mpr (fun y => w y.2)))
    exact ⟨C + 1, cx_im22 hC hm hs hF T hD (fun h => ht ⟨hs, hn, h⟩) (fun h => hf (fun w => h w.2.2)) C 0 (by omega) (fun q h => absurd h (Nat.not_lt_zero q))⟩
theorem cx_lm9 {V C F H : Nat} {cc ce me rd : Int32} {L xc xs : Nat → Int32} {post : St2 → Prop} (hC : C ≤ 8) (hF8 : F < 256) (hF : ∀ s, F.testBit s = true → s < C) (T : ce_tab (ce_P L V F H) 256 xs)
    (hp : ∀ a, ce_ar (ce_ls (ce_maxi (ce_S L V H) F) (fun k => 255 - k) 256) a → post (nI V, nI C, nI F, nI H, cc, nI (ce_ls (ce_maxi (ce_S L V H) F) (fun k => 255 - k) 256).length, ce, me, rd, L, xc, a, xs)) :
    ∀ j i a, i + j = 256 → ce_ar (ce_ls (ce_maxi (ce_S L V H) F) (fun k => 255 - k) i) a → wX_listMaximals_9 post (nI V) (nI C) (nI F) (nI H) cc ce me rd (j + 1) (nI j + (-1)) (nI (ce_ls (ce_maxi (ce_S L V H) F) (fun k => 255 - k) i).length) L xc a xs := by
  intro j
  induction j with
  | zero =>
    intro i a hi A
    have e : i = 256 := by omega
    subst e
    exact br_t (by decide) (hp a A)
  | succ j ih =>
    intro i a hi A
    have hl := ce_ls_len (ce_maxi (ce_S L V H) F) (fun k => 255 - k) i
    have hij : 255 - i = j := by omega
    have no : ¬ ce_maxi (ce_S L V H) F j → wX_listMaximals_9 post (nI V) (nI C) (nI F) (nI H) cc ce me rd (j + 1) (nI j + (-1)) (nI (ce_ls (ce_maxi (ce_S L V H) F) (fun k => 255 - k) i).length) L xc a xs := by
      intro z
      have q := ih (i + 1) a (by omega)
      rw [ce_ls_f (P := ce_maxi (ce_S L V H) F) (f := fun k => 255 - k) (n := i) (by show ¬ ce_maxi (ce_S L V H) F (255 - i); rw [hij]; exact z)] at q
      exact q A
    rw [pk_m1 j]
    refine br_f (nI_pos (by omega)) ?_
    refine cx_subN (by omega) (fun hs => br_f (by decide) ?_) (fun hs => br_t rfl (nm_e (no (fun w => hs w.1))))
    refine cx_im hC (by omega) hF8 hs hF T (fun h => br_f (by decide) ⟨vp_in_nI (by omega) (by decide), nm_e (nm_e (nm_e ?_))⟩) (fun h => br_t rfl (nm_e (no h)))
    rw [nI_clamp (by omega), nI_1 (ce_ls (ce_maxi (ce_S L V H) F) (fun k => 255 - k) i).length]
    have q := ih (i + 1) (upd a (ce_ls (ce_maxi (ce_S L V H) F) (fun k => 255 - k) i).length (nI j)) (by omega)
    rw [ce_ls_t (P := ce_maxi (ce_S L V H) F) (f := fun k => 255 - k) (n := i) (by show ce_maxi (ce_S L V H) F (255 - i); rw [hij]; exact h), List.length_append, hij] at q
    exact q (ce_ar_put A)
theorem cx_lm {V C F H : Nat} {cc mc ce me rd : Int32} {L xc xm xs : Nat → Int32} {post : St2 → Prop} (hC : C ≤ 8) (hF8 : F < 256) (hF : ∀ s, F.testBit s = true → s < C) (T : ce_tab (ce_P L V F H) 256 xs)
    (hp : ∀ a, ce_ar (ce_ls (ce_maxi (ce_S L V H) F) (fun k => 255 - k) 256) a → post (nI V, nI C, nI F, nI H, cc, nI (ce_ls (ce_maxi (ce_S L V H) F) (fun k => 255 - k) 256).length, ce, me, rd, L, xc, a, xs)) : wpX_listMaximals post (nI V, nI C, nI F, nI H, cc, mc, ce, me, rd, L, xc, xm, xs) := by
  have q := cx_lm9 (V := V) (C := C) (F := F) (H := H) (cc := cc) (ce := ce) (me := me) (rd := rd) (L := L) (xc := xc) (xs := xs) hC hF8 hF T hp 256 0 xm rfl (ce_ar0 _)
  rw [show nI 256 + (-1) = 255 by decide] at q
  exact ⟨257, q⟩
theorem cx_en {V C F H : Nat} {cc mc ce me rd : Int32} {L xc xm xs : Nat → Int32} {post : Int32 → St2 → Prop} (hV : V ≤ 5) (hC : C ≤ 8) (hF8 : F < 256) (hF : ∀ s, F.testBit s = true → s < C) (hH : ∀ s, H.testBit s = true → s < C)
    (hp : ∀ c m t, ce_ar (ce_ls (ce_core (ce_S L V H) F) (fun k => k) 256) c → ce_ar (ce_ls (ce_maxi (ce_S L V H) F) (fun k => 255 - k) 256) m →
      post (nI (ce_ls (ce_core (ce_S L V H) F) (fun k => k) 256).length + nI (ce_ls (ce_maxi (ce_S L V H) F) (fun k => 255 - k) 256).length)
        (nI V, nI C, nI F, nI H, nI (ce_ls (ce_core (ce_S L V H) F) (fun k => k) 256).length, nI (ce_ls (ce_maxi (ce_S L V H) F) (fun k => 255 - k) 256).length, 0, 0, 1, L, c, m, t)) : wpX_enumerate post (nI V, nI C, nI F, nI H, cc, mc, ce, me, rd, L, xc, xm, xs) := by
  unfold wpX_enumerate
  refine cx_fs hV hC hF hH (fun t T => ?_)
  refine cx_lc hC hF T (fun c A => ?_)
  refine cx_lm hC hF8 hF T (fun m B => ?_)
  exact hp c m t A B
end
section
/-! X: judge, verdict, greatestOpen, the slots -/
theorem cx_wi {post : Int32 → Prop} {a b : Nat} (ha : a < 256) (ht : ce_sub a b → post 1) (hf : ¬ ce_sub a b → post 0) : wpX_isWithin post () (nI a) (nI b) :=
  br_c (fun z => ht ((ce_inN ha).mp z)) (fun z => hf (fun q => z ((ce_inN ha).mpr q)))
theorem cx_j33 {V C F H : Nat} {cc mc me rd : Int32} {L xc xm xs : Nat → Int32} {post : Int32 → Prop} {cl : List Nat} {e m : Nat} (he : e ≤ cl.length) (hl : cl.length ≤ 256) (hb : ∀ x, x ∈ cl → x < 256) (A : ce_ar cl xc)
    (ht : ce_dn1 cl e m → post 2) (hf : ¬ ce_dn1 cl e m → post 0) :
    ∀ d k : Nat, k + d = e → (∀ q x, q < k → cl[q]? = some x → ¬ ce_sub x m) → wX_judge_33 post (nI m) (nI V) (nI C) (nI F) (nI H) cc mc (nI e) me rd L xc xm xs (d + 1) (nI k) := by
  intro d
  induction d with
  | zero =>
    intro k hk hq
    refine br_t (nI_le (by omega) (by omega)) (hf ?_)
    rintro ⟨q, x, h1, h2, h3⟩
    exact hq q x (by omega) h2 h3
  | succ d ih =>
    intro k hk hq
    obtain ⟨x, hx, hx2, hx3⟩ := ce_ar_get A (k := k) (by omega)
    refine br_f (nI_ge (by omega) (by omega)) ⟨vp_in_nI (by omega) (by decide), ?_⟩
    rw [nI_clamp (show k < 2 ^ 31 by omega), hx3]
    refine cx_wi (hb x hx) (fun hs => br_f (by decide) (ht ⟨k, x, by omega, hx2, hs⟩)) (fun hs => br_t rfl (nm_r (nI_1 k) ?_))
    exact ih (k + 1) (by omega) (fun q y h h2 => by
      by_cases e : q = k
      · subst e
        rw [hx2] at h2
        cases h2
        exact hs
      · exact hq q y (by omega) h2)
theorem cx_j2 {V C F H : Nat} {cc mc ce rd : Int32} {L xc xm xs : Nat → Int32} {post : Int32 → Prop} {ml : List Nat} {g m : Nat} (hm : m < 256) (hg : g ≤ ml.length) (hl : ml.length ≤ 256) (B : ce_ar ml xm)
    (ht : ce_up1 ml g m → post 1) (hf : ¬ ce_up1 ml g m → ∃ n, wX_judge_33 post (nI m) (nI V) (nI C) (nI F) (nI H) cc mc ce (nI g) rd L xc xm xs n 0) :
    ∀ d k : Nat, k + d = g → (∀ q x, q < k → ml[q]? = some x → ¬ ce_sub m x) → wX_judge_2 post (nI m) (nI V) (nI C) (nI F) (nI H) cc mc ce (nI g) rd L xc xm xs (d + 1) (nI k) := by
  intro d
  induction d with
  | zero =>
    intro k hk hq
    refine br_t (nI_le (by omega) (by omega)) (hf ?_)
    rintro ⟨q, x, h1, h2, h3⟩
    exact hq q x (by omega) h2 h3
  | succ d ih =>
    intro k hk hq
    obtain ⟨x, hx, hx2, hx3⟩ := ce_ar_get B (k := k) (by omega)
    refine br_f (nI_ge (by omega) (by omega)) ⟨vp_in_nI (by omega) (by decide), ?_⟩
    rw [nI_clamp (show k < 2 ^ 31 by omega), hx3]
    refine cx_wi hm (fun hs => br_f (by decide) (ht ⟨k, x, by omega, hx2, hs⟩)) (fun hs => br_t rfl (nm_r (nI_1 k) ?_))
    exact ih (k + 1) (by omega) (fun q y h h2 => by
      by_cases e : q = k
      · subst e
        rw [hx2] at h2
        cases h2
        exact hs
      · exact hq q y (by omega) h2)
theorem cx_jd {V C F H : Nat} {cc mc rd : Int32} {L xc xm xs : Nat → Int32} {post : Int32 → Prop} {cl ml : List Nat} {e g m : Nat} (hm : m < 256) (he : e ≤ cl.length) (hg : g ≤ ml.length) (hlc : cl.length ≤ 256) (hlm : ml.length ≤ 256) (hb : ∀ x, x ∈ cl → x < 256) (A : ce_ar cl xc) (B : ce_ar ml xm)
    (hp : ∀ r, ce_jd cl ml e g m r → post r) : wpX_judge post (nI V, nI C, nI F, nI H, cc, mc, nI e, nI g, rd, L, xc, xm, xs) (nI m) :=
  ⟨g + 1, cx_j2 hm hg hlm B (fun h => hp _ (Or.inl ⟨rfl, h⟩))
    (fun h => ⟨e + 1, cx_j33 he hlc hb A (fun h2 => hp _ (Or.inr (Or.inl ⟨rfl, h, h2⟩))) (fun h2 => hp _ (Or.inr (Or.inr ⟨rfl, h, h2⟩))) e 0 (Nat.zero_add e) (fun q _ z => absurd z (Nat.not_lt_zero q))⟩)
    g 0 (Nat.zero_add g) (fun q _ z => absurd z (Nat.not_lt_zero q))⟩
/-- a subset that is open -/
def ce_op (cl ml : List Nat) (e g F m : Nat) : Prop := ce_sub m F ∧ ¬ ce_up1 ml g m ∧ ¬ ce_dn1 cl e m
theorem cx_go14 {V C F H : Nat} {cc mc rd : Int32} {L xc xm xs : Nat → Int32} {post : Int32 → Prop} {cl ml : List Nat} {e g : Nat} (he : e ≤ cl.length) (hg : g ≤ ml.length) (hlc : cl.length ≤ 256) (hlm : ml.length ≤ 256) (hb : ∀ x, x ∈ cl → x < 256) (A : ce_ar cl xc) (B : ce_ar ml xm)
    (hp : ∀ r, ce_great (ce_op cl ml e g F) r → post r) :
    ∀ j : Nat, j ≤ 256 → (∀ m, m < 256 → j ≤ m → ¬ ce_op cl ml e g F m) → wX_greatestOpen_14 post (nI V) (nI C) (nI F) (nI H) cc mc (nI e) (nI g) rd L xc xm xs (j + 1) (nI j + (-1)) := by
  intro j
  induction j with
  | zero =>
    intro hj hq
    exact br_t (by decide) (hp _ (Or.inr ⟨fun m hm => hq m hm (Nat.zero_le m), rfl⟩))
  | succ j ih =>
    intro hj hq
    have next : ¬ ce_op cl ml e g F j → wX_greatestOpen_14 post (nI V) (nI C) (nI F) (nI H) cc mc (nI e) (nI g) rd L xc xm xs (j + 1) (nI j + (-1)) := by
      intro z
      exact ih (by omega) (fun m hm h => by
        by_cases e : m = j
        · subst e; exact z
        · exact hq m hm (by omega))
    rw [pk_m1 j]
    refine br_f (nI_pos (by omega)) ?_
    refine cx_subN (by omega) (fun hs => br_f (by decide) ?_) (fun hs => br_t rfl (nm_e (next (fun w => hs w.1))))
    refine cx_jd (by omega) he hg hlc hlm hb A B (fun r hr => ?_)
    have q := ce_jd_0 hr
    exact br_c (fun z => hp _ (Or.inl ⟨j, by omega, ⟨hs, q.mp z⟩, fun b h1 h2 => hq b h1 (by omega), rfl⟩)) (fun z => nm_e (next (fun w => z (q.mpr w.2))))
theorem cx_go {V C F H : Nat} {cc mc rd : Int32} {L xc xm xs : Nat → Int32} {post : Int32 → Prop} {cl ml : List Nat} {e g : Nat} (he : e ≤ cl.length) (hg : g ≤ ml.length) (hlc : cl.length ≤ 256) (hlm : ml.length ≤ 256) (hb : ∀ x, x ∈ cl → x < 256) (A : ce_ar cl xc) (B : ce_ar ml xm)
    (hp : ∀ r, ce_great (ce_op cl ml e g F) r → post r) : ∃ n, wX_greatestOpen_14 post (nI V) (nI C) (nI F) (nI H) cc mc (nI e) (nI g) rd L xc xm xs n 255 := by
  have q := cx_go14 (V := V) (C := C) (H := H) (cc := cc) (mc := mc) (rd := rd) (L := L) (xs := xs) he hg hlc hlm hb A B hp 256 (Nat.le_refl _) (fun m h1 h2 => absurd h1 (by omega))
  rw [show nI 256 + (-1) = 255 by decide] at q
  exact ⟨257, q⟩
/-- slot x holds a clause -/
def ce_occ (C F H : Nat) (x : Int32) : Prop := ∃ s, s < C ∧ x = nI s ∧ (F ||| H).testBit s = true
theorem cx_oc_t {V C F H : Nat} {cc mc ce me rd : Int32} {L xc xm xs : Nat → Int32} {post : Int32 → Prop} {s : Nat} (hC : C ≤ 8) (hs : s < C) (hb : (F ||| H).testBit s = true) (hp : post 1) : wpX_isOccupied post (nI V, nI C, nI F, nI H, cc, mc, ce, me, rd, L, xc, xm, xs) (nI s) := by
  refine br_f (nI_pos (by omega)) (br_f (nI_ge hs (by omega)) ?_)
  rw [ce_or F H]
  exact cx_has (by omega) (fun _ => br_f (by decide) hp) (fun z => by rw [hb] at z; cases z)
theorem cx_oc_f {V C F H : Nat} {cc mc ce me rd : Int32} {L xc xm xs : Nat → Int32} {post : Int32 → Prop} {x : Int32} (hC : C ≤ 8) (h : ¬ ce_occ C F H x) (hp : post 0) : wpX_isOccupied post (nI V, nI C, nI F, nI H, cc, mc, ce, me, rd, L, xc, xm, xs) x := by
  rcases pk_ix x (n := C) (by omega) with z | z | ⟨s, hs, rfl⟩
  · exact br_t z hp
  · exact br_c (fun _ => hp) (fun _ => br_t z hp)
  · refine br_f (nI_pos (by omega)) (br_f (nI_ge hs (by omega)) ?_)
    rw [ce_or F H]
    exact cx_has (by omega) (fun z => absurd ⟨s, hs, rfl, z⟩ h) (fun _ => br_t rfl hp)
/-- s is the lowest slot below C that is empty, or C -/
theorem cx_le12 {V C F H : Nat} {cc mc ce me rd : Int32} {L xc xm xs : Nat → Int32} {post : Int32 → Prop} {M : Nat} (hC : C ≤ 8) (ht : ∀ s, s < C → M.testBit s = false → (∀ q, q < s → M.testBit q = true) → post (nI s)) (hf : (∀ q, q < C → M.testBit q = true) → post (nI C)) :
    ∀ d s : Nat, s + d = C → (∀ q, q < s → M.testBit q = true) → wX_lowestEmptySlot_12 post (nI M) (nI V) (nI C) (nI F) (nI H) cc mc ce me rd L xc xm xs (d + 1) (nI s) := by
  intro d
  induction d with
  | zero =>
    intro s hs hq
    exact br_t (nI_le (by omega) (by omega)) (hf (fun q h => hq q (by omega)))
  | succ d ih =>
    intro s hs hq
    refine br_f (nI_ge (by omega) (by omega)) ?_
    refine cx_has (by omega) (fun hb => br_f (by decide) (nm_r (nI_1 s) ?_)) (fun hb => br_t rfl (ht s (by omega) hb hq))
    exact ih (s + 1) (by omega) (fun q h => by
      by_cases e : q = s
      · subst e; exact hb
      · exact hq q (by omega))
theorem cx_les {V C F H : Nat} {cc mc ce me rd : Int32} {L xc xm xs : Nat → Int32} {post : Int32 → Prop} (hC : C ≤ 8) (ht : ∀ s, s < C → (F ||| H).testBit s = false → (∀ q, q < s → (F ||| H).testBit q = true) → post (nI s)) (hf : (∀ q, q < C → (F ||| H).testBit q = true) → post (nI C)) : wpX_lowestEmptySlot post (nI V, nI C, nI F, nI H, cc, mc, ce, me, rd, L, xc, xm, xs) :=
  nm_r (e' := nI (F ||| H)) (ce_or F H) ⟨C + 1, cx_le12 hC ht hf C 0 (Nat.zero_add C) (fun q h => absurd h (Nat.not_lt_zero q))⟩
end
section
/-! the lists are sorted; what is open, what the verdicts tell; sets of masks in four longs -/
theorem cp_pw {P : Nat → Prop} {f : Nat → Nat} {R : Nat → Nat → Prop} : ∀ n, (∀ i j, i < j → j < n → R (f i) (f j)) → (ce_ls P f n).Pairwise R := by
  intro n
  induction n with
  | zero => intro _; exact List.Pairwise.nil
  | succ n ih =>
    intro h
    have h1 := ih (fun i j a b => h i j a (by omega))
    by_cases p : P (f n)
    · rw [ce_ls_t p, List.pairwise_append]
      refine ⟨h1, List.pairwise_singleton _ _, fun a ha b hb => ?_⟩
      rw [List.mem_singleton] at hb
      subst hb
      obtain ⟨k, hk, rfl, _⟩ := ce_ls_mem.mp ha
      exact h k n hk (by omega)
    · rw [ce_ls_f p]; exact h1
theorem cp_at {l : List Nat} {R : Nat → Nat → Prop} (h : l.Pairwise R) {i j x y : Nat} (hij : i < j) (hx : l[i]? = some x) (hy : l[j]? = some y) : R x y := by
  obtain ⟨hi, rfl⟩ := List.getElem?_eq_some_iff.mp hx
  obtain ⟨hj, rfl⟩ := List.getElem?_eq_some_iff.mp hy
  exact List.pairwise_iff_getElem.mp h i j hi hj hij
noncomputable abbrev cp_CL (S : Nat → Prop) (F : Nat) : List Nat := ce_ls (ce_core S F) (fun k => k) 256
noncomputable abbrev cp_ML (S : Nat → Prop) (F : Nat) : List Nat := ce_ls (ce_maxi S F) (fun k => 255 - k) 256
theorem cp_CLs (S : Nat → Prop) (F : Nat) : (cp_CL S F).Pairwise (fun x y => x < y) := cp_pw 256 (fun i j h _ => h)
theorem cp_MLs (S : Nat → Prop) (F : Nat) : (cp_ML S F).Pairwise (fun x y => y < x) := cp_pw 256 (fun i j h h2 => by show 255 - j < 255 - i; omega)
theorem cp_CLm {S : Nat → Prop} {F k x : Nat} (h : (cp_CL S F)[k]? = some x) : x < 256 ∧ ce_core S F x := by
  obtain ⟨j, hj, e, p⟩ := ce_ls_mem.mp (List.mem_of_getElem? h)
  have e : x = j := e
  exact ⟨by omega, p⟩
theorem cp_MLm {S : Nat → Prop} {F k x : Nat} (h : (cp_ML S F)[k]? = some x) : x < 256 ∧ ce_maxi S F x := by
  obtain ⟨j, hj, e, p⟩ := ce_ls_mem.mp (List.mem_of_getElem? h)
  have e : x = 255 - j := e
  exact ⟨by omega, p⟩
theorem cp_CLi {S : Nat → Prop} {F x : Nat} (hx : x < 256) (h : ce_core S F x) : ∃ k, k < (cp_CL S F).length ∧ (cp_CL S F)[k]? = some x := by
  obtain ⟨k, hk⟩ := List.getElem?_of_mem (ce_ls_mem.mpr ⟨x, hx, rfl, h⟩ : x ∈ cp_CL S F)
  exact ⟨k, (List.getElem?_eq_some_iff.mp hk).1, hk⟩
theorem cp_MLi {S : Nat → Prop} {F x : Nat} (hx : x < 256) (h : ce_maxi S F x) : ∃ k, k < (cp_ML S F).length ∧ (cp_ML S F)[k]? = some x := by
  obtain ⟨k, hk⟩ := List.getElem?_of_mem (ce_ls_mem.mpr ⟨255 - x, by omega, by show x = 255 - (255 - x); omega, h⟩ : x ∈ cp_ML S F)
  exact ⟨k, (List.getElem?_eq_some_iff.mp hk).1, hk⟩
theorem cp_v1 {S : Nat → Prop} {F g m : Nat} (hS : ∀ a b, ce_sub a b → S b → S a) (h : ce_up1 (cp_ML S F) g m) : S m := by
  obtain ⟨k, x, _, hx, hs⟩ := h
  exact hS _ _ hs (cp_MLm hx).2.2.1
theorem cp_v2 {S : Nat → Prop} {F e m : Nat} (hS : ∀ a b, ce_sub a b → S b → S a) (h : ce_dn1 (cp_CL S F) e m) : ¬ S m := by
  obtain ⟨k, x, _, hx, hs⟩ := h
  exact fun z => (cp_CLm hx).2.2.1 (hS _ _ hs z)
theorem cp_gr {P : Nat → Prop} {r : Int32} (h : ce_great P r) : r = -19 ↔ ∀ m, m < 256 → ¬ P m := by
  rcases h with ⟨m, hm, pm, _, rfl⟩ | ⟨h, rfl⟩
  · exact ⟨fun e => absurd e (ce_n19 (by omega)), fun z => absurd pm (z m hm)⟩
  · exact ⟨fun _ => h, fun _ => rfl⟩
theorem cp_all {S : Nat → Prop} {F e g : Nat} (hS : ∀ a b, ce_sub a b → S b → S a) (hF : F < 256) (he : e ≤ (cp_CL S F).length) (hg : g ≤ (cp_ML S F).length) {r : Int32} (hr : ce_great (ce_op (cp_CL S F) (cp_ML S F) e g F) r) :
    r = -19 ↔ e = (cp_CL S F).length ∧ g = (cp_ML S F).length := by
  rw [cp_gr hr]
  constructor
  · intro h
    constructor
    · rcases Nat.lt_or_ge e (cp_CL S F).length with z | z
      · exfalso
        have hx : (cp_CL S F)[e]? = some (cp_CL S F)[e] := List.getElem?_eq_getElem z
        generalize (cp_CL S F)[e] = x at hx
        obtain ⟨hx256, hc⟩ := cp_CLm hx
        refine h x hx256 ⟨hc.1, fun w => hc.2.1 (cp_v1 hS w), ?_⟩
        rintro ⟨k, y, hk, hy, hs⟩
        have lt := cp_at (cp_CLs S F) hk hy hx
        exact (cp_CLm hy).2.2.1 (((ce_core_all hS).mp hc).2.2 y hs (by omega))
      · omega
    · rcases Nat.lt_or_ge g (cp_ML S F).length with z | z
      · exfalso
        have hx : (cp_ML S F)[g]? = some (cp_ML S F)[g] := List.getElem?_eq_getElem z
        generalize (cp_ML S F)[g] = x at hx
        obtain ⟨hx256, hc⟩ := cp_MLm hx
        refine h x hx256 ⟨hc.1, ?_, fun w => cp_v2 hS w hc.2.1⟩
        rintro ⟨k, y, hk, hy, hs⟩
        have lt := cp_at (cp_MLs S F) hk hy hx
        have hy2 := (cp_MLm hy).2
        exact ((ce_maxi_all hS).mp hc).2.2 y hs hy2.1 (by omega) hy2.2.1
      · omega
  · rintro ⟨he1, hg1⟩ m hm ⟨h1, h2, h3⟩
    by_cases s : S m
    · obtain ⟨x, hx, hs⟩ := ce_ex_max hF 256 m (by omega) h1 s
      obtain ⟨k, hk, hk2⟩ := cp_MLi (ce_sub_lt hF hx.1) hx
      exact h2 ⟨k, x, by omega, hk2, hs⟩
    · obtain ⟨x, hx, hs⟩ := ce_ex_core (S := S) (F := F) m h1 s
      obtain ⟨k, hk, hk2⟩ := cp_CLi (ce_sub_lt hF hx.1) hx
      exact h3 ⟨k, x, by omega, hk2, hs⟩
/-- the four words of a set, a mask in it -/
def cw_w (a b c d : Int64) (q : Nat) : Int64 := if q = 0 then a else if q = 1 then b else if q = 2 then c else d
def cw_in (a b c d : Int64) (m : Nat) : Bool := (cw_w a b c d (m / 64)).toBitVec.getLsbD (m % 64)
theorem cw_s : ∀ m, m < 256 → ((nI m &&& 63).toInt64.toUInt64 &&& Int64.toUInt64 63).toNat = m % 64 := by decide +kernel
theorem cw_sh : ∀ m, m < 256 → nI m >>> ((6 : Int32) &&& 31) = nI (m / 64) := by decide +kernel
theorem cw_1 : ∀ m, m < 256 → ((1 : Int64) <<< ((nI m &&& 63).toInt64 &&& 63)).toBitVec = BitVec.twoPow 64 (m % 64) := by decide +kernel
theorem cw_wpin {post : Int32 → Prop} {a b c d : Int64} {m : Nat} (hm : m < 256) (ht : cw_in a b c d m = true → post 1) (hf : cw_in a b c d m = false → post 0) : wpL_in post () a b c d (nI m) := by
  have q : ∀ z : Int64, ((z.toUInt64 >>> ((nI m &&& 63).toInt64.toUInt64 &&& Int64.toUInt64 63)).toInt64 &&& 1) = 0 ↔ z.toBitVec.getLsbD (m % 64) = false := fun z => ts_bit (Nat.mod_lt _ (by decide)) (cw_s m hm)
  have go : ∀ z : Int64, cw_w a b c d (m / 64) = z → wL_in_39 post (nI m) z := fun z e => br_c (fun h => hf (by unfold cw_in; rw [e]; exact (q z).mp h)) (fun h => ht (by unfold cw_in; rw [e]; exact ts_nf (fun w => h ((q z).mpr w))))
  refine nm_r (e' := nI (m / 64)) (cw_sh m hm) ?_
  exact pk_eq (m / 64) 0 (fun h => go a (by rw [h]; rfl)) (fun h => pk_eq (m / 64) 1 (fun h1 => go b (by rw [h1]; rfl)) (fun h1 => pk_eq (m / 64) 2 (fun h2 => go c (by rw [h2]; rfl)) (fun h2 => go d (by rw [show m / 64 = 3 by omega]; rfl))))
theorem cw_or {w : Int64} {m j : Nat} (hm : m < 256) : (w ||| ((1 : Int64) <<< ((nI m &&& 63).toInt64 &&& 63))).toBitVec.getLsbD (j % 64) = (w.toBitVec.getLsbD (j % 64) || decide (m % 64 = j % 64)) := by
  rw [Int64.toBitVec_or, BitVec.getLsbD_or, cw_1 m hm, BitVec.getLsbD_twoPow, decide_eq_true (Nat.mod_lt m (by decide : 0 < 64)), Bool.true_and]
theorem cw_upd {a b c d a' b' c' d' : Int64} {m : Nat} (hm : m < 256) (h : ∀ q, q < 4 → cw_w a' b' c' d' q = if q = m / 64 then (cw_w a b c d q ||| ((1 : Int64) <<< ((nI m &&& 63).toInt64 &&& 63))) else cw_w a b c d q) : ∀ j, j < 256 → cw_in a' b' c' d' j = (cw_in a b c d j || decide (j = m)) := by
  intro j hj
  unfold cw_in
  rw [h (j / 64) (by omega)]
  by_cases e : j / 64 = m / 64
  · rw [if_pos e, cw_or hm]
    congr 1
    exact decide_eq_decide.mpr ⟨fun h => by omega, fun h => by rw [h]⟩
  · rw [if_neg e, decide_eq_false (fun z => e (by rw [z])), Bool.or_false]
theorem cw_put4 {post : Int64 → Int64 → Int64 → Int64 → Prop} {a b c d : Int64} {m : Nat} (hm : m < 256) (hp : ∀ a' b' c' d', (∀ j, j < 256 → cw_in a' b' c' d' j = (cw_in a b c d j || decide (j = m))) → post a' b' c' d') :
    wpL_put (fun r0 => wpL_put (fun r1 => wpL_put (fun r2 => wpL_put (fun r3 => post r0 r1 r2 r3) () d 3 (nI m)) () c 2 (nI m)) () b 1 (nI m)) () a 0 (nI m) := by
  have t : ∀ q, m / 64 = q → nI m >>> ((6 : Int32) &&& 31) = nI q := fun q h => by rw [cw_sh m hm, h]
  have f : ∀ q, q < 4 → m / 64 ≠ q → ¬ nI m >>> ((6 : Int32) &&& 31) = nI q := fun q hq h => by rw [cw_sh m hm, nI_eq (by omega) (by omega)]; exact h
  rcases (by omega : m / 64 = 0 ∨ m / 64 = 1 ∨ m / 64 = 2 ∨ m / 64 = 3) with h | h | h | h
  · refine br_t (t 0 h) (br_f (f 1 (by decide) (by omega)) (br_f (f 2 (by decide) (by omega)) (br_f (f 3 (by decide) (by omega)) (hp _ _ _ _ (cw_upd hm ?_)))))
    rw [h]
    intro q hq
    match q, hq with
    | 0, _ => rfl
    | 1, _ => rfl
    | 2, _ => rfl
    | 3, _ => rfl
  · refine br_f (f 0 (by decide) (by omega)) (br_t (t 1 h) (br_f (f 2 (by decide) (by omega)) (br_f (f 3 (by decide) (by omega)) (hp _ _ _ _ (cw_upd hm ?_)))))
    rw [h]
    intro q hq
    match q, hq with
    | 0, _ => rfl
    | 1, _ => rfl
    | 2, _ => rfl
    | 3, _ => rfl
  · refine br_f (f 0 (by decide) (by omega)) (br_f (f 1 (by decide) (by omega)) (br_t (t 2 h) (br_f (f 3 (by decide) (by omega)) (hp _ _ _ _ (cw_upd hm ?_)))))
    rw [h]
    intro q hq
    match q, hq with
    | 0, _ => rfl
    | 1, _ => rfl
    | 2, _ => rfl
    | 3, _ => rfl
  · refine br_f (f 0 (by decide) (by omega)) (br_f (f 1 (by decide) (by omega)) (br_f (f 2 (by decide) (by omega)) (br_t (t 3 h) (hp _ _ _ _ (cw_upd hm ?_)))))
    rw [h]
    intro q hq
    match q, hq with
    | 0, _ => rfl
    | 1, _ => rfl
    | 2, _ => rfl
    | 3, _ => rfl
theorem cw_0 (j : Nat) : cw_in 0 0 0 0 j = false := by
  have e : cw_w 0 0 0 0 (j / 64) = 0 := by
    unfold cw_w
    simp
  unfold cw_in
  rw [e]
  exact BitVec.getLsbD_zero
end
section
/-! the law's own functions: core, maximal, hits, minimalHit -/
theorem cw_tw : ∀ s, s < 8 → nI (2 ^ s) = (1 : Int32) <<< (nI s &&& 31) := by decide +kernel
theorem cw_tn : ∀ s, s < 8 → nI (2 ^ s) <<< ((1 : Int32) &&& 31) = nI (2 ^ (s + 1)) := by decide +kernel
theorem cw_th {m s : Nat} (hs : s < 8) : nI m &&& nI (2 ^ s) = 0 ↔ m.testBit s = false := by
  rw [cw_tw s hs]; exact ce_hasN m (by omega)
theorem cw_to {m s : Nat} (hs : s < 8) (h : m.testBit s = false) : nI m ||| nI (2 ^ s) = nI (m ^^^ 2 ^ s) := by
  rw [cw_tw s hs]; exact ce_add (by omega) h
/-- the law's core, maximal, hits of a set W -/
def cw_C (W : Nat → Bool) (m : Nat) : Prop := W m = false ∧ ∀ s, s < 8 → m.testBit s = true → W (m ^^^ 2 ^ s) = true
def cw_M (W : Nat → Bool) (F m : Nat) : Prop := W m = true ∧ ∀ s, s < 8 → F.testBit s = true → m.testBit s = false → W (m ^^^ 2 ^ s) = false
def cw_H (X : Nat → Bool) (m : Nat) : Prop := ∀ x, x < 256 → X x = true → ¬ ce_sub m x
def cw_N (X : Nat → Bool) (m : Nat) : Prop := cw_H X m ∧ ∀ s, s < 8 → m.testBit s = true → ¬ cw_H X (m ^^^ 2 ^ s)
theorem cw_c19 {post : Int32 → Prop} {a b c d : Int64} {m : Nat} (hm : m < 256)
    (ht : (∀ s, s < 8 → m.testBit s = true → cw_in a b c d (m ^^^ 2 ^ s) = true) → post 1) (hf : ¬ (∀ s, s < 8 → m.testBit s = true → cw_in a b c d (m ^^^ 2 ^ s) = true) → post 0) :
    ∀ k s : Nat, s + k = 8 → (∀ q, q < s → m.testBit q = true → cw_in a b c d (m ^^^ 2 ^ q) = true) → wL_core_19 post a b c d (nI m) (k + 1) (nI (2 ^ s)) := by
  intro k
  induction k with
  | zero =>
    intro s hs hq
    have e : s = 8 := by omega
    subst e
    exact br_t (nI_le (a := 256) (b := 2 ^ 8) (by decide) (by decide)) (ht hq)
  | succ k ih =>
    intro s hs hq
    have hs8 : s < 8 := by omega
    have next : (m.testBit s = true → cw_in a b c d (m ^^^ 2 ^ s) = true) → wL_core_19 post a b c d (nI m) (k + 1) (nI (2 ^ s) <<< ((1 : Int32) &&& 31)) := by
      intro z
      rw [cw_tn s hs8]
      exact ih (s + 1) (by omega) (fun q h hb => by
        by_cases e : q = s
        · subst e; exact z hb
        · exact hq q (by omega) hb)
    refine br_f (nI_ge (b := 256) (ce_pw hs8) (by decide)) (br_c (fun z => nm_e (next (fun w => ?_))) (fun z => ?_))
    · rw [(cw_th hs8).mp z] at w; cases w
    · have hb : m.testBit s = true := ce_nf (fun w => z ((cw_th hs8).mpr w))
      rw [nx_xor]
      exact cw_wpin (ce_xl hm hs8) (fun h => br_f (by decide) (nm_e (next (fun _ => h)))) (fun h => br_t rfl (hf (fun w => by rw [w s hs8 hb] at h; cases h)))
theorem cw_core {post : Int32 → Prop} {a b c d : Int64} {m : Nat} (hm : m < 256) (ht : cw_C (cw_in a b c d) m → post 1) (hf : ¬ cw_C (cw_in a b c d) m → post 0) : wpL_core post () a b c d (nI m) := by
  unfold wpL_core
  exact cw_wpin hm (fun h => br_f (by decide) (hf (fun w => by rw [w.1] at h; cases h))) (fun h => br_t rfl ⟨9, cw_c19 hm (fun w => ht ⟨h, w⟩) (fun w => hf (fun z => w z.2)) 8 0 rfl (fun q z => absurd z (Nat.not_lt_zero q))⟩)
theorem cw_m19 {post : Int32 → Prop} {a b c d : Int64} {F m : Nat} (hm : m < 256) (hF : F < 256)
    (ht : (∀ s, s < 8 → F.testBit s = true → m.testBit s = false → cw_in a b c d (m ^^^ 2 ^ s) = false) → post 1) (hf : ¬ (∀ s, s < 8 → F.testBit s = true → m.testBit s = false → cw_in a b c d (m ^^^ 2 ^ s) = false) → post 0) :
    ∀ k s : Nat, s + k = 8 → (∀ q, q < s → F.testBit q = true → m.testBit q = false → cw_in a b c d (m ^^^ 2 ^ q) = false) → wL_maximal_19 post a b c d (nI F) (nI m) (k + 1) (nI (2 ^ s)) := by
  intro k
  induction k with
  | zero =>
    intro s hs hq
    have e : s = 8 := by omega
    subst e
    exact br_t (nI_le (a := 256) (b := 2 ^ 8) (by decide) (by decide)) (ht hq)
  | succ k ih =>
    intro s hs hq
    have hs8 : s < 8 := by omega
    have hD : (F &&& (255 ^^^ m)).testBit s = true ↔ F.testBit s = true ∧ m.testBit s = false := by
      have q : (255 : Nat).testBit s = true := (by decide : ∀ i, i < 8 → (255 : Nat).testBit i = true) s hs8
      rw [Nat.testBit_and, Nat.testBit_xor, q]
      cases F.testBit s <;> cases m.testBit s <;> simp
    have next : (F.testBit s = true → m.testBit s = false → cw_in a b c d (m ^^^ 2 ^ s) = false) → wL_maximal_19 post a b c d (nI F) (nI m) (k + 1) (nI (2 ^ s) <<< ((1 : Int32) &&& 31)) := by
      intro z
      rw [cw_tn s hs8]
      exact ih (s + 1) (by omega) (fun q h hb => by
        by_cases e : q = s
        · subst e; exact z hb
        · exact hq q (by omega) hb)
    refine br_f (nI_ge (b := 256) (ce_pw hs8) (by decide)) (br_c (fun z => nm_e (next (fun w1 w2 => ?_))) (fun z => ?_))
    · rw [ce_diff hF, cw_th hs8] at z
      rw [hD.mpr ⟨w1, w2⟩] at z; cases z
    · rw [ce_diff hF, cw_th hs8] at z
      obtain ⟨h1, h2⟩ := hD.mp (ce_nf z)
      rw [cw_to hs8 h2]
      exact cw_wpin (ce_xl hm hs8) (fun h => br_f (by decide) (hf (fun w => by rw [w s hs8 h1 h2] at h; cases h))) (fun h => br_t rfl (nm_e (next (fun _ _ => h))))
theorem cw_maxi {post : Int32 → Prop} {a b c d : Int64} {F m : Nat} (hm : m < 256) (hF : F < 256) (ht : cw_M (cw_in a b c d) F m → post 1) (hf : ¬ cw_M (cw_in a b c d) F m → post 0) : wpL_maximal post () a b c d (nI F) (nI m) := by
  unfold wpL_maximal
  exact cw_wpin hm (fun h => br_f (by decide) ⟨9, cw_m19 hm hF (fun w => ht ⟨h, w⟩) (fun w => hf (fun z => w z.2)) 8 0 rfl (fun q z => absurd z (Nat.not_lt_zero q))⟩) (fun h => br_t rfl (hf (fun w => by rw [w.1] at h; cases h)))
theorem cw_subF {m F : Nat} (h : ce_sub m F) : m &&& F = m := by
  apply Nat.eq_of_testBit_eq
  intro i
  rw [Nat.testBit_and]
  have q := h i
  revert q
  cases m.testBit i <;> cases F.testBit i <;> simp
theorem cw_h3 {post : Int32 → Prop} {a b c d : Int64} {F m : Nat} (hm : m < 256) (hs : ce_sub m F) (ht : cw_H (cw_in a b c d) m → post 1) (hf : ¬ cw_H (cw_in a b c d) m → post 0) :
    ∀ k i : Nat, i + k = 256 → (∀ x, x < i → cw_in a b c d x = true → ¬ ce_sub m x) → wL_hits_3 post a b c d (nI F) (nI m) (k + 1) (nI i) := by
  intro k
  induction k with
  | zero =>
    intro i hi hq
    exact br_t (nI_le (a := 256) (by omega) (by omega)) (ht (fun x hx => hq x (by omega)))
  | succ k ih =>
    intro i hi hq
    have next : (cw_in a b c d i = true → ¬ ce_sub m i) → wL_hits_3 post a b c d (nI F) (nI m) (k + 1) (nI i + 1) := by
      intro z
      rw [nI_1 i]
      exact ih (i + 1) (by omega) (fun x h hb => by
        by_cases e : x = i
        · subst e; exact z hb
        · exact hq x (by omega) hb)
    refine br_f (nI_ge (b := 256) (by omega) (by decide)) (cw_wpin (by omega) (fun h => br_f (by decide) ?_) (fun h => br_t rfl (nm_e (next (fun w => by rw [h] at w; cases w)))))
    rw [nx_and, cw_subF hs]
    exact br_c (fun z => hf (fun w => w i (by omega) h ((ce_inN hm).mp z))) (fun z => nm_e (next (fun _ w => z ((ce_inN hm).mpr w))))
theorem cw_hits {post : Int32 → Prop} {a b c d : Int64} {F m : Nat} (hm : m < 256) (hs : ce_sub m F) (ht : cw_H (cw_in a b c d) m → post 1) (hf : ¬ cw_H (cw_in a b c d) m → post 0) : wpL_hits post () a b c d (nI F) (nI m) :=
  ⟨257, cw_h3 hm hs ht hf 256 0 rfl (fun x h => absurd h (Nat.not_lt_zero x))⟩
theorem cw_n21 {post : Int32 → Prop} {a b c d : Int64} {F m : Nat} (hm : m < 256) (hs : ce_sub m F)
    (ht : (∀ s, s < 8 → m.testBit s = true → ¬ cw_H (cw_in a b c d) (m ^^^ 2 ^ s)) → post 1) (hf : ¬ (∀ s, s < 8 → m.testBit s = true → ¬ cw_H (cw_in a b c d) (m ^^^ 2 ^ s)) → post 0) :
    ∀ k s : Nat, s + k = 8 → (∀ q, q < s → m.testBit q = true → ¬ cw_H (cw_in a b c d) (m ^^^ 2 ^ q)) → wL_minimalHit_21 post a b c d (nI F) (nI m) (k + 1) (nI (2 ^ s)) := by
  intro k
  induction k with
  | zero =>
    intro s hd hq
    have e : s = 8 := by omega
    subst e
    exact br_t (nI_le (a := 256) (b := 2 ^ 8) (by decide) (by decide)) (ht hq)
  | succ k ih =>
    intro s hd hq
    have hs8 : s < 8 := by omega
    have next : (m.testBit s = true → ¬ cw_H (cw_in a b c d) (m ^^^ 2 ^ s)) → wL_minimalHit_21 post a b c d (nI F) (nI m) (k + 1) (nI (2 ^ s) <<< ((1 : Int32) &&& 31)) := by
      intro z
      rw [cw_tn s hs8]
      exact ih (s + 1) (by omega) (fun q h hb => by
        by_cases e : q = s
        · subst e; exact z hb
        · exact hq q (by omega) hb)
    refine br_f (nI_ge (b := 256) (ce_pw hs8) (by decide)) (br_c (fun z => nm_e (next (fun w => ?_))) (fun z => ?_))
    · rw [(cw_th hs8).mp z] at w; cases w
    · have hb : m.testBit s = true := ce_nf (fun w => z ((cw_th hs8).mpr w))
      rw [nx_xor]
      exact cw_hits (ce_xl hm hs8) (ce_sub_trans (ce_sub_del hb) hs) (fun h => br_f (by decide) (hf (fun w => w s hs8 hb h))) (fun h => br_t rfl (nm_e (next (fun _ => h))))
theorem cw_mh {post : Int32 → Prop} {a b c d : Int64} {F m : Nat} (hm : m < 256) (hs : ce_sub m F) (ht : cw_N (cw_in a b c d) m → post 1) (hf : ¬ cw_N (cw_in a b c d) m → post 0) : wpL_minimalHit post () a b c d (nI F) (nI m) := by
  unfold wpL_minimalHit
  exact cw_hits hm hs (fun h => br_f (by decide) ⟨9, cw_n21 hm hs (fun w => ht ⟨h, w⟩) (fun w => hf (fun z => w z.2)) 8 0 rfl (fun q z => absurd z (Nat.not_lt_zero q))⟩) (fun h => br_t rfl (hf (fun w => h w.1)))
/-- what the three are, where W are the satisfiable subsets, X the maximals -/
theorem cw_C_i {S : Nat → Prop} {F m : Nat} {W : Nat → Bool} (hW : ∀ j, j < 256 → (W j = true ↔ ce_sub j F ∧ S j)) (hm : m < 256) (hs : ce_sub m F) : cw_C W m ↔ ce_core S F m := by
  constructor
  · rintro ⟨h1, h2⟩
    exact ⟨hs, (fun z => by rw [(hW m hm).mpr ⟨hs, z⟩] at h1; cases h1), fun s hb => ((hW _ (ce_xl hm (ce_lo hm hb))).mp (h2 s (ce_lo hm hb) hb)).2⟩
  · rintro ⟨_, h1, h2⟩
    exact ⟨ce_nt (fun z => h1 ((hW m hm).mp z).2), fun s h8 hb => (hW _ (ce_xl hm h8)).mpr ⟨ce_sub_trans (ce_sub_del hb) hs, h2 s hb⟩⟩
theorem cw_M_i {S : Nat → Prop} {F m : Nat} {W : Nat → Bool} (hF : F < 256) (hW : ∀ j, j < 256 → (W j = true ↔ ce_sub j F ∧ S j)) (hm : m < 256) (hs : ce_sub m F) : cw_M W F m ↔ ce_maxi S F m := by
  constructor
  · rintro ⟨h1, h2⟩
    refine ⟨hs, ((hW m hm).mp h1).2, fun s hb hc z => ?_⟩
    have h8 := ce_lo hF hb
    have q := h2 s h8 hb hc
    rw [(hW _ (ce_xl hm h8)).mpr ⟨ce_sub_ins hs hb, z⟩] at q
    cases q
  · rintro ⟨_, h1, h2⟩
    exact ⟨(hW m hm).mpr ⟨hs, h1⟩, fun s h8 hb hc => ce_nt (fun z => h2 s hb hc ((hW _ (ce_xl hm h8)).mp z).2)⟩
theorem cw_H_i {S : Nat → Prop} {F m : Nat} {X : Nat → Bool} (hS : ∀ a b, ce_sub a b → S b → S a) (hF : F < 256) (hX : ∀ j, j < 256 → (X j = true ↔ ce_maxi S F j)) (hs : ce_sub m F) : cw_H X m ↔ ¬ S m := by
  constructor
  · intro h z
    obtain ⟨x, hx, hk⟩ := ce_ex_max hF 256 m (by omega) hs z
    have hx256 := ce_sub_lt hF hx.1
    exact h x hx256 ((hX x hx256).mpr hx) hk
  · intro h x hx hX' hk
    exact h (hS _ _ hk ((hX x hx).mp hX').2.1)
theorem cw_N_i {S : Nat → Prop} {F m : Nat} {X : Nat → Bool} (hS : ∀ a b, ce_sub a b → S b → S a) (hF : F < 256) (hX : ∀ j, j < 256 → (X j = true ↔ ce_maxi S F j)) (hm : m < 256) (hs : ce_sub m F) : cw_N X m ↔ ce_core S F m := by
  constructor
  · rintro ⟨h1, h2⟩
    refine ⟨hs, (cw_H_i hS hF hX hs).mp h1, fun s hb => Classical.byContradiction (fun z => h2 s (ce_lo hm hb) hb ?_)⟩
    exact (cw_H_i hS hF hX (ce_sub_trans (ce_sub_del hb) hs)).mpr z
  · rintro ⟨_, h1, h2⟩
    exact ⟨(cw_H_i hS hF hX hs).mpr h1, fun s h8 hb z => (cw_H_i hS hF hX (ce_sub_trans (ce_sub_del hb) hs)).mp z (h2 s hb)⟩
end
section
/-! the object between the law's calls -/
theorem ce_x_ne {m s i : Nat} (h : i ≠ s) : (m ^^^ 2 ^ s).testBit i = m.testBit i := by
  rw [ce_xt, decide_eq_false (fun e => h e.symm), Bool.xor_false]
theorem ce_x_f {m s : Nat} (h : m.testBit s = false) : (m ^^^ 2 ^ s).testBit s = true := by
  rw [ce_xt, h]; simp
theorem ce_x_t {m s : Nat} (h : m.testBit s = true) : (m ^^^ 2 ^ s).testBit s = false := by
  rw [ce_xt, h]; simp
theorem cx_mk0 {V C F H : Nat} {cc mc ce me rd : Int32} {L xc xm xs : Nat → Int32} {post : St2 → Prop} {s : Nat} (hs : s < 32) (h : F.testBit s = false) (hp : post (nI V, nI C, nI (F ^^^ 2 ^ s), nI H, cc, mc, ce, me, rd, L, xc, xm, xs)) : wpX_markKind post (nI V, nI C, nI F, nI H, cc, mc, ce, me, rd, L, xc, xm, xs) (nI s) 0 :=
  nm_e (br_t rfl (nm_r (ce_add hs h) hp))
theorem cx_mk1 {V C F H : Nat} {cc mc ce me rd : Int32} {L xc xm xs : Nat → Int32} {post : St2 → Prop} {s : Nat} {kd : Int32} (hk : ¬ kd = 0) (hs : s < 32) (h : H.testBit s = false) (hp : post (nI V, nI C, nI F, nI (H ^^^ 2 ^ s), cc, mc, ce, me, rd, L, xc, xm, xs)) : wpX_markKind post (nI V, nI C, nI F, nI H, cc, mc, ce, me, rd, L, xc, xm, xs) (nI s) kd :=
  nm_e (br_f hk (nm_r (ce_add hs h) hp))
theorem cx_me0 {V C F H : Nat} {cc mc ce me rd : Int32} {L xc xm xs : Nat → Int32} {post : St2 → Prop} {s : Nat} (hs : s < 32) (h : F.testBit s = true) (h2 : H.testBit s = false) (hp : post (nI V, nI C, nI (F ^^^ 2 ^ s), nI H, cc, mc, ce, me, rd, L, xc, xm, xs)) : wpX_markEmpty post (nI V, nI C, nI F, nI H, cc, mc, ce, me, rd, L, xc, xm, xs) (nI s) :=
  nm_e (nm_r (ce_del hs h) (nm_r (ce_del0 hs h2) hp))
theorem cx_me1 {V C F H : Nat} {cc mc ce me rd : Int32} {L xc xm xs : Nat → Int32} {post : St2 → Prop} {s : Nat} (hs : s < 32) (h : F.testBit s = false) (h2 : H.testBit s = true) (hp : post (nI V, nI C, nI F, nI (H ^^^ 2 ^ s), cc, mc, ce, me, rd, L, xc, xm, xs)) : wpX_markEmpty post (nI V, nI C, nI F, nI H, cc, mc, ce, me, rd, L, xc, xm, xs) (nI s) :=
  nm_e (nm_r (ce_del0 hs h) (nm_r (ce_del hs h2) hp))
/-- the fixed part: sizes, the two masks -/
def cq_B (V C F H : Nat) : Prop := V ≤ 5 ∧ C ≤ 8 ∧ F < 256 ∧ H < 256 ∧ (∀ s, F.testBit s = true → s < C) ∧ (∀ s, H.testBit s = true → s < C) ∧ (∀ s, F.testBit s = true → H.testBit s = false)
theorem cq_put {V C F H F' H' s : Nat} (b : cq_B V C F H) (hs : s < C) (h1 : F' < 256) (h2 : H' < 256) (hF : ∀ i, i ≠ s → F'.testBit i = F.testBit i) (hH : ∀ i, i ≠ s → H'.testBit i = H.testBit i) (h : F'.testBit s = true → H'.testBit s = false) : cq_B V C F' H' := by
  obtain ⟨b1, b2, b3, b4, b5, b6, b7⟩ := b
  refine ⟨b1, b2, h1, h2, fun i z => ?_, fun i z => ?_, fun i z => ?_⟩
  · by_cases e : i = s
    · subst e; exact hs
    · rw [hF i e] at z; exact b5 i z
  · by_cases e : i = s
    · subst e; exact hs
    · rw [hH i e] at z; exact b6 i z
  · by_cases e : i = s
    · subst e; exact h z
    · rw [hF i e] at z; rw [hH i e]; exact b7 i z
/-- the lists while ready -/
def cq_R (V F H : Nat) (L : Nat → Int32) (cc mc ce me rd : Int32) (xc xm : Nat → Int32) : Prop :=
  rd = 0 ∨ (rd = 1 ∧ ∃ e g : Nat, cc = nI (cp_CL (ce_S L V H) F).length ∧ mc = nI (cp_ML (ce_S L V H) F).length ∧ ce = nI e ∧ me = nI g ∧ e ≤ (cp_CL (ce_S L V H) F).length ∧ g ≤ (cp_ML (ce_S L V H) F).length ∧ ce_ar (cp_CL (ce_S L V H) F) xc ∧ ce_ar (cp_ML (ce_S L V H) F) xm)
def cq_W (u : St2) : Prop := ∃ (V C F H : Nat) (cc mc ce me rd : Int32) (L xc xm xs : Nat → Int32), u = (nI V, nI C, nI F, nI H, cc, mc, ce, me, rd, L, xc, xm, xs) ∧ cq_B V C F H ∧ cq_R V F H L cc mc ce me rd xc xm
theorem cq_mk {V C F H : Nat} {cc mc ce me rd : Int32} {L xc xm xs : Nat → Int32} (b : cq_B V C F H) (r : cq_R V F H L cc mc ce me rd xc xm) : cq_W (nI V, nI C, nI F, nI H, cc, mc, ce, me, rd, L, xc, xm, xs) := ⟨V, C, F, H, cc, mc, ce, me, rd, L, xc, xm, xs, rfl, b, r⟩
theorem cq_li {V C F H : Nat} {cc mc ce me rd : Int32} {L xc xm xs : Nat → Int32} {post : Int32 → Prop} {x : Int32} (h0 : post 0) (h1 : post 1) : wpX_isLiteralOrAbsent post (nI V, nI C, nI F, nI H, cc, mc, ce, me, rd, L, xc, xm, xs) x := br_c (fun _ => h0) (fun _ => br_c (fun _ => h0) (fun _ => h1))
theorem cq_add {u : St2} {post : Int32 → St2 → Prop} {kd a b c : Int32} (w : cq_W u) (hp : ∀ r u', cq_W u' → post r u') : wpX_addClause post u kd a b c := by
  have w' := w
  obtain ⟨V, C, F, H, cc, mc, ce, me, rd, L, xc, xm, xs, rfl, B, R⟩ := w
  obtain ⟨b1, b2, b3, b4, b5, b6, b7⟩ := id B
  unfold wpX_addClause
  have main : wpX_isLiteralOrAbsent (fun r_3 => ((r_3 = 0 → post (-13) (nI V, nI C, nI F, nI H, cc, mc, ce, me, rd, L, xc, xm, xs)) ∧ (¬ r_3 = 0 → wpX_isLiteralOrAbsent (fun r_5 => ((r_5 = 0 → post (-13) (nI V, nI C, nI F, nI H, cc, mc, ce, me, rd, L, xc, xm, xs)) ∧ (¬ r_5 = 0 → wpX_isLiteralOrAbsent (fun r_7 => ((r_7 = 0 → post (-13) (nI V, nI C, nI F, nI H, cc, mc, ce, me, rd, L, xc, xm, xs)) ∧ (¬ r_7 = 0 → wpX_lowestEmptySlot (fun r_9 => ((r_9 < nI C → (∀ x6_63 : Int32, x6_63 = r_9 * 3 → (vp_in x6_63 24 ∧ ∀ L1 : Nat → Int32, L1 = upd L x6_63.toNatClampNeg a → (vp_in (x6_63 + 1) 24 ∧ ∀ L2 : Nat → Int32, L2 = upd L1 (x6_63 + 1).toNatClampNeg b → (vp_in (x6_63 + 2) 24 ∧ ∀ L3 : Nat → Int32, L3 = upd L2 (x6_63 + 2).toNatClampNeg c → (wpX_markKind (fun u => match u with | (V', C', F', H', cc', mc', ce', me', rd', L', xc', xm', xs') => post r_9 (V', C', F', H', cc', mc', ce', me', 0, L', xc', xm', xs')) (nI V, nI C, nI F, nI H, cc, mc, ce, me, rd, L3, xc, xm, xs) r_9 kd)))))) ∧ (¬ r_9 < nI C → post (-11) (nI V, nI C, nI F, nI H, cc, mc, ce, me, rd, L, xc, xm, xs)))) (nI V, nI C, nI F, nI H, cc, mc, ce, me, rd, L, xc, xm, xs)))) (nI V, nI C, nI F, nI H, cc, mc, ce, me, rd, L, xc, xm, xs) c))) (nI V, nI C, nI F, nI H, cc, mc, ce, me, rd, L, xc, xm, xs) b))) (nI V, nI C, nI F, nI H, cc, mc, ce, me, rd, L, xc, xm, xs) a := by
    have bad := hp (-13) _ w'
    refine cq_li (br_t rfl bad) (br_f (by decide) (cq_li (br_t rfl bad) (br_f (by decide) (cq_li (br_t rfl bad) (br_f (by decide) ?_)))))
    refine cx_les b2 (fun s hs hb _ => br_t (nI_lt hs (by omega)) ?_) (fun _ => br_f (nI_nlt (Nat.le_refl _) (by omega)) (hp _ _ w'))
    have e3 : nI s * 3 = nI (s * 3) := pk_mul s 3
    have e31 : nI (s * 3) + 1 = nI (s * 3 + 1) := nI_1 _
    have e32 : nI (s * 3) + 2 = nI (s * 3 + 2) := nI_add (s * 3) 2
    refine nm_r e3 ⟨vp_in_nI (by omega) (by decide), nm_e ⟨by rw [e31]; exact vp_in_nI (by omega) (by decide), nm_e ⟨by rw [e32]; exact vp_in_nI (by omega) (by decide), nm_e ?_⟩⟩⟩
    rw [Nat.testBit_or, Bool.or_eq_false_iff] at hb
    by_cases k0 : kd = 0
    · subst k0
      exact cx_mk0 (by omega) hb.1 (hp _ _ (cq_mk (cq_put B hs (ce_xl b3 (by omega)) b4 (fun i h => ce_x_ne h) (fun i h => rfl) (fun _ => hb.2)) (Or.inl rfl)))
    · exact cx_mk1 k0 (by omega) hb.2 (hp _ _ (cq_mk (cq_put B hs b3 (ce_xl b4 (by omega)) (fun i h => rfl) (fun i h => ce_x_ne h) (fun z => by rw [hb.1] at z; cases z)) (Or.inl rfl)))
  exact br_c (fun _ => br_f (by decide) main) (fun _ => br_c (fun _ => br_f (by decide) main) (fun _ => br_t rfl (hp _ _ w')))
theorem cq_two {V C F H s : Nat} (b : cq_B V C F H) (hb : (F ||| H).testBit s = true) : (F.testBit s = true ∧ H.testBit s = false) ∨ (F.testBit s = false ∧ H.testBit s = true) := by
  rw [Nat.testBit_or] at hb
  obtain ⟨b1, b2, b3, b4, b5, b6, b7⟩ := b
  cases h : F.testBit s
  · rw [h, Bool.false_or] at hb
    exact Or.inr ⟨rfl, hb⟩
  · exact Or.inl ⟨rfl, b7 s h⟩
theorem cq_rem {u : St2} {post : Int32 → St2 → Prop} {x : Int32} (w : cq_W u) (hp : ∀ r u', cq_W u' → post r u') : wpX_removeClause post u x := by
  have w' := w
  obtain ⟨V, C, F, H, cc, mc, ce, me, rd, L, xc, xm, xs, rfl, B, R⟩ := w
  obtain ⟨b1, b2, b3, b4, b5, b6, b7⟩ := id B
  unfold wpX_removeClause
  by_cases o : ce_occ C F H x
  · obtain ⟨s, hs, rfl, hb⟩ := o
    refine cx_oc_t b2 hs hb (br_f (by decide) ?_)
    rcases cq_two B hb with ⟨q3, q4⟩ | ⟨q3, q4⟩
    · exact cx_me0 (by omega) q3 q4 (hp _ _ (cq_mk (cq_put B hs (ce_xl b3 (by omega)) b4 (fun i h => ce_x_ne h) (fun i h => rfl) (fun _ => q4)) (Or.inl rfl)))
    · exact cx_me1 (by omega) q3 q4 (hp _ _ (cq_mk (cq_put B hs b3 (ce_xl b4 (by omega)) (fun i h => rfl) (fun i h => ce_x_ne h) (fun z => by rw [q3] at z; cases z)) (Or.inl rfl)))
  · exact cx_oc_f b2 o (br_t rfl (hp _ _ w'))
theorem cq_set {u : St2} {post : Int32 → St2 → Prop} {x kd : Int32} (w : cq_W u) (hp : ∀ r u', cq_W u' → post r u') : wpX_setKind post u x kd := by
  have w' := w
  obtain ⟨V, C, F, H, cc, mc, ce, me, rd, L, xc, xm, xs, rfl, B, R⟩ := w
  obtain ⟨b1, b2, b3, b4, b5, b6, b7⟩ := id B
  unfold wpX_setKind
  by_cases o : ce_occ C F H x
  · obtain ⟨s, hs, rfl, hb⟩ := o
    refine cx_oc_t b2 hs hb (br_f (by decide) ?_)
    refine br_c (fun h0 => br_f (by decide) (br_t h0 ?_)) (fun h0 => br_c (fun h1 => br_f (by decide) (br_f h0 ?_)) (fun h1 => br_t rfl (hp _ _ w')))
    · subst h0
      refine cx_has (by omega) (fun _ => br_f (by decide) (hp _ _ w')) (fun q3 => br_t rfl ?_)
      rcases cq_two B hb with ⟨q, _⟩ | ⟨_, q4⟩
      · rw [q] at q3; cases q3
      · exact cx_me1 (by omega) q3 q4 (cx_mk0 (by omega) q3 (hp _ _ (cq_mk (cq_put B hs (ce_xl b3 (by omega)) (ce_xl b4 (by omega)) (fun i h => ce_x_ne h) (fun i h => ce_x_ne h) (fun _ => ce_x_t q4)) (Or.inl rfl))))
    · refine cx_has (by omega) (fun _ => br_f (by decide) (hp _ _ w')) (fun q4 => br_t rfl ?_)
      rcases cq_two B hb with ⟨q3, _⟩ | ⟨_, q⟩
      · exact cx_me0 (by omega) q3 q4 (cx_mk1 h0 (by omega) q4 (hp _ _ (cq_mk (cq_put B hs (ce_xl b3 (by omega)) (ce_xl b4 (by omega)) (fun i h => ce_x_ne h) (fun i h => ce_x_ne h) (fun z => by rw [ce_x_t q3] at z; cases z)) (Or.inl rfl))))
      · rw [q] at q4; cases q4
  · exact cx_oc_f b2 o (br_t rfl (hp _ _ w'))
theorem cq_en {u : St2} {post : Int32 → St2 → Prop} (w : cq_W u) (hp : ∀ (V C F H : Nat) (r : Int32) (L xc xm xs : Nat → Int32), cq_B V C F H → ce_ar (cp_CL (ce_S L V H) F) xc → ce_ar (cp_ML (ce_S L V H) F) xm → post r (nI V, nI C, nI F, nI H, nI (cp_CL (ce_S L V H) F).length, nI (cp_ML (ce_S L V H) F).length, 0, 0, 1, L, xc, xm, xs)) : wpX_enumerate post u := by
  obtain ⟨V, C, F, H, cc, mc, ce, me, rd, L, xc, xm, xs, rfl, B, R⟩ := w
  obtain ⟨b1, b2, b3, b4, b5, b6, b7⟩ := id B
  exact cx_en b1 b2 b3 b5 b6 (fun c m t A D => hp V C F H _ L c m t B A D)
theorem cq_em2 {V C F H : Nat} {L xc xm xs : Nat → Int32} {post : Int32 → St2 → Prop} {e g : Nat} (he : e ≤ (cp_CL (ce_S L V H) F).length) (A : ce_ar (cp_CL (ce_S L V H) F) xc)
    (ht : ∀ m, (cp_CL (ce_S L V H) F)[e]? = some m → e < (cp_CL (ce_S L V H) F).length → post (nI m) (nI V, nI C, nI F, nI H, nI (cp_CL (ce_S L V H) F).length, nI (cp_ML (ce_S L V H) F).length, nI (e + 1), nI g, 1, L, xc, xm, xs))
    (hf : e = (cp_CL (ce_S L V H) F).length → post (-19) (nI V, nI C, nI F, nI H, nI (cp_CL (ce_S L V H) F).length, nI (cp_ML (ce_S L V H) F).length, nI e, nI g, 1, L, xc, xm, xs)) :
    wpX_emit post (nI V, nI C, nI F, nI H, nI (cp_CL (ce_S L V H) F).length, nI (cp_ML (ce_S L V H) F).length, nI e, nI g, 1, L, xc, xm, xs) 2 := by
  unfold wpX_emit
  have l1 : (cp_CL (ce_S L V H) F).length ≤ 256 := ce_ls_len _ _ _
  refine br_t rfl (br_f (by decide) (br_f (by decide) (br_t rfl ?_)))
  by_cases c : e < (cp_CL (ce_S L V H) F).length
  · obtain ⟨m, _, hm, hx⟩ := ce_ar_get A c
    exact br_t (nI_lt c (by omega)) ⟨vp_in_nI (by omega) (by decide), nm_r (e' := nI m) (by rw [nI_clamp (by omega), hx]) (nm_r (nI_1 e) (ht m hm c))⟩
  · exact br_f (nI_nlt (by omega) (by omega)) (hf (by omega))
theorem cq_em3 {V C F H : Nat} {L xc xm xs : Nat → Int32} {post : Int32 → St2 → Prop} {e g : Nat} (hg : g ≤ (cp_ML (ce_S L V H) F).length) (A : ce_ar (cp_ML (ce_S L V H) F) xm)
    (ht : ∀ m, (cp_ML (ce_S L V H) F)[g]? = some m → g < (cp_ML (ce_S L V H) F).length → post (nI m) (nI V, nI C, nI F, nI H, nI (cp_CL (ce_S L V H) F).length, nI (cp_ML (ce_S L V H) F).length, nI e, nI (g + 1), 1, L, xc, xm, xs))
    (hf : g = (cp_ML (ce_S L V H) F).length → post (-19) (nI V, nI C, nI F, nI H, nI (cp_CL (ce_S L V H) F).length, nI (cp_ML (ce_S L V H) F).length, nI e, nI g, 1, L, xc, xm, xs)) :
    wpX_emit post (nI V, nI C, nI F, nI H, nI (cp_CL (ce_S L V H) F).length, nI (cp_ML (ce_S L V H) F).length, nI e, nI g, 1, L, xc, xm, xs) 3 := by
  unfold wpX_emit
  have l1 : (cp_ML (ce_S L V H) F).length ≤ 256 := ce_ls_len _ _ _
  refine br_f (by decide) (br_t rfl (br_f (by decide) (br_f (by decide) (br_f (by decide) ?_))))
  by_cases c : g < (cp_ML (ce_S L V H) F).length
  · obtain ⟨m, _, hm, hx⟩ := ce_ar_get A c
    exact br_t (nI_lt c (by omega)) ⟨vp_in_nI (by omega) (by decide), nm_r (e' := nI m) (by rw [nI_clamp (by omega), hx]) (nm_r (nI_1 g) (ht m hm c))⟩
  · exact br_f (nI_nlt (by omega) (by omega)) (hf (by omega))
theorem cq_emit {u : St2} {post : Int32 → St2 → Prop} {x : Int32} (hx : x = 2 ∨ x = 3) (w : cq_W u) (hp : ∀ r u', cq_W u' → post r u') : wpX_emit post u x := by
  have w' := w
  obtain ⟨V, C, F, H, cc, mc, ce, me, rd, L, xc, xm, xs, rfl, B, R⟩ := w
  rcases R with z | ⟨z, e, g, rfl, rfl, rfl, rfl, r1, r2, r3, r4⟩
  · unfold wpX_emit
    rcases hx with rfl | rfl
    · exact br_t rfl (br_f (by decide) (br_t z (hp _ _ w')))
    · exact br_f (by decide) (br_t rfl (br_f (by decide) (br_t z (hp _ _ w'))))
  · subst z
    rcases hx with rfl | rfl
    · exact cq_em2 r1 r3 (fun m _ c => hp _ _ (cq_mk B (Or.inr ⟨rfl, e + 1, g, rfl, rfl, rfl, rfl, c, r2, r3, r4⟩))) (fun _ => hp _ _ w')
    · exact cq_em3 r2 r4 (fun m _ c => hp _ _ (cq_mk B (Or.inr ⟨rfl, e, g + 1, rfl, rfl, rfl, rfl, r1, c, r3, r4⟩))) (fun _ => hp _ _ w')
theorem cq_wi {V C F H : Nat} {cc mc ce me rd : Int32} {L xc xm xs : Nat → Int32} {post : Int32 → Prop} {m : Nat} (B : cq_B V C F H) (hm : m < 256) (hs : ce_sub m F) (hp : ∀ r, (r = -19 ↔ ¬ ce_S L V H m) → post r) : wpX_witness post (nI V, nI C, nI F, nI H, cc, mc, ce, me, rd, L, xc, xm, xs) (nI m) := by
  obtain ⟨b1, b2, b3, b4, b5, b6, b7⟩ := id B
  unfold wpX_witness
  exact cx_subN hm (fun _ => br_f (by decide) (cx_la b1 b2 (ce_low b5 b6 hs) (fun r hr => hp r (ce_least_s (by have := ce_v32 b1; omega) hr)))) (fun z => absurd hs z)
theorem cq_co2 {V C F H : Nat} {cc mc ce me : Int32} {L xc xm xs : Nat → Int32} {post : Int32 → Prop} (hp : post cc) : wpX_count post (nI V, nI C, nI F, nI H, cc, mc, ce, me, 1, L, xc, xm, xs) 2 := by
  unfold wpX_count
  exact br_t rfl (br_f (by decide) (br_f (by decide) (br_t rfl hp)))
theorem cq_co3 {V C F H : Nat} {cc mc ce me : Int32} {L xc xm xs : Nat → Int32} {post : Int32 → Prop} (hp : post mc) : wpX_count post (nI V, nI C, nI F, nI H, cc, mc, ce, me, 1, L, xc, xm, xs) 3 := by
  unfold wpX_count
  exact br_f (by decide) (br_t rfl (br_f (by decide) (br_f (by decide) (br_f (by decide) hp))))
theorem cq_ed2 {V C F H : Nat} {cc mc ce me : Int32} {L xc xm xs : Nat → Int32} {post : Int32 → Prop} (hp : post ce) : wpX_emitted post (nI V, nI C, nI F, nI H, cc, mc, ce, me, 1, L, xc, xm, xs) 2 := by
  unfold wpX_emitted
  exact br_t rfl (br_f (by decide) (br_f (by decide) (br_t rfl hp)))
theorem cq_ed3 {V C F H : Nat} {cc mc ce me : Int32} {L xc xm xs : Nat → Int32} {post : Int32 → Prop} (hp : post me) : wpX_emitted post (nI V, nI C, nI F, nI H, cc, mc, ce, me, 1, L, xc, xm, xs) 3 := by
  unfold wpX_emitted
  exact br_f (by decide) (br_t rfl (br_f (by decide) (br_f (by decide) (br_f (by decide) hp))))
theorem cq_sl {V C F H : Nat} {cc mc ce me rd : Int32} {L xc xm xs : Nat → Int32} {post : Int32 → Prop} (hp : post (nI F)) : wpX_slots post (nI V, nI C, nI F, nI H, cc, mc, ce, me, rd, L, xc, xm, xs) 0 := by
  unfold wpX_slots
  exact br_t rfl (br_f (by decide) (br_t rfl hp))
theorem cq_CLb {S : Nat → Prop} {F : Nat} : ∀ x, x ∈ cp_CL S F → x < 256 := by
  intro x hx
  obtain ⟨k, hk⟩ := List.getElem?_of_mem hx
  exact (cp_CLm hk).1
theorem cq_vd {V C F H : Nat} {cc mc : Int32} {L xc xm xs : Nat → Int32} {post : Int32 → Prop} {e g m : Nat} (B : cq_B V C F H) (hm : m < 256) (hs : ce_sub m F) (he : e ≤ (cp_CL (ce_S L V H) F).length) (hg : g ≤ (cp_ML (ce_S L V H) F).length) (A : ce_ar (cp_CL (ce_S L V H) F) xc) (D : ce_ar (cp_ML (ce_S L V H) F) xm)
    (hp : ∀ r, (r = 1 → ce_S L V H m) → (r = 2 → ¬ ce_S L V H m) → post r) : wpX_verdict post (nI V, nI C, nI F, nI H, cc, mc, nI e, nI g, 1, L, xc, xm, xs) (nI m) := by
  refine br_f (by decide) (cx_subN hm (fun _ => br_f (by decide) (cx_jd hm he hg (ce_ls_len _ _ _) (ce_ls_len _ _ _) cq_CLb A D (fun r hr => hp r ?_ ?_))) (fun z => absurd hs z))
  · intro e1
    rcases hr with ⟨_, h⟩ | ⟨h2, _⟩ | ⟨h2, _⟩
    · exact cp_v1 ce_S_sub h
    · rw [e1] at h2; exact absurd h2 (by decide)
    · rw [e1] at h2; exact absurd h2 (by decide)
  · intro e1
    rcases hr with ⟨h2, _⟩ | ⟨_, _, h⟩ | ⟨h2, _⟩
    · rw [e1] at h2; exact absurd h2 (by decide)
    · exact cp_v2 ce_S_sub h
    · rw [e1] at h2; exact absurd h2 (by decide)
theorem cq_go {V C F H : Nat} {cc mc : Int32} {L xc xm xs : Nat → Int32} {post : Int32 → Prop} {e g : Nat} (B : cq_B V C F H) (he : e ≤ (cp_CL (ce_S L V H) F).length) (hg : g ≤ (cp_ML (ce_S L V H) F).length) (A : ce_ar (cp_CL (ce_S L V H) F) xc) (D : ce_ar (cp_ML (ce_S L V H) F) xm)
    (hp : ∀ r, (r = -19 ↔ e = (cp_CL (ce_S L V H) F).length ∧ g = (cp_ML (ce_S L V H) F).length) → post r) : wpX_greatestOpen post (nI V, nI C, nI F, nI H, cc, mc, nI e, nI g, 1, L, xc, xm, xs) := by
  obtain ⟨b1, b2, b3, b4, b5, b6, b7⟩ := id B
  exact br_f (by decide) (cx_go he hg (ce_ls_len _ _ _) (ce_ls_len _ _ _) cq_CLb A D (fun r hr => hp r (cp_all ce_S_sub b3 he hg hr)))
end
section
/-! the law's helpers; the checks at the end of a round; one step of emission -/
theorem cl_cell {post : Int32 → Prop} {N : Nat} {sc : Nat → Int32} {x : Int32} (q : Nat) (hx : x = nI q) (hN : N ≤ 260) (hq : q < 2 ^ 31) (hp : ∀ r, post r) : wpL_cell post N sc () x := by
  subst hx
  exact br_c (fun _ => hp _) (fun z => ⟨vp_in_nI (Nat.not_le.mp (fun h => z (nI_le h hq))) (by omega), hp _⟩)
theorem cl_ra {post : Int32 → Prop} {x n : Int32} (h : ¬ n = 0) (hp : ∀ r, post r) : wpL_r post () x n := ⟨h, hp _⟩
theorem cl_r {post : Int32 → Prop} {x : Int32} {n : Nat} (h0 : 0 < n) (hn : n < 2 ^ 31) (hp : ∀ k, k < n → post (nI k)) : wpL_r post () x (nI n) := by
  obtain ⟨j, hj, e⟩ := pk_andE x (m := 2147483647) 31 (by decide)
  refine ⟨nI_ne0 h0 hn, ?_⟩
  rw [e, pk_rem hj h0 hn]
  exact hp _ (Nat.mod_lt _ h0)
theorem cl_lit {post : Int32 → Prop} {x v n : Int32} (h : ¬ n = 0) (hp : ∀ r, post r) : wpL_lit post () x v n := by
  unfold wpL_lit
  exact cl_ra h (fun r => br_c (fun _ => hp _) (fun _ => hp _))
noncomputable def cw_v (P : Prop) : Int32 := if ce_b P = true then 1 else 0
theorem cw_vt {P : Prop} (h : P) : cw_v P = 1 := by unfold cw_v; rw [if_pos (ce_bt h)]
theorem cw_vf {P : Prop} (h : ¬ P) : cw_v P = 0 := by unfold cw_v; rw [ce_bf h, if_neg (by decide)]
theorem cw_ve {post : Int32 → Prop} {P : Prop} (hp : post (cw_v P)) : (P → post 1) ∧ (¬ P → post 0) := ⟨fun h => by rw [cw_vt h] at hp; exact hp, fun h => by rw [cw_vf h] at hp; exact hp⟩
theorem cw_inv {post : Int32 → Prop} {a b c d : Int64} {m : Nat} {P : Prop} (hm : m < 256) (h : cw_in a b c d m = true ↔ P) (hp : post (cw_v P)) : wpL_in post () a b c d (nI m) :=
  cw_wpin hm (fun z => (cw_ve hp).1 (h.mp z)) (fun z => (cw_ve hp).2 (fun w => by rw [h.mpr w] at z; cases z))
theorem cw_corev {post : Int32 → Prop} {a b c d : Int64} {m : Nat} {P : Prop} (hm : m < 256) (h : cw_C (cw_in a b c d) m ↔ P) (hp : post (cw_v P)) : wpL_core post () a b c d (nI m) :=
  cw_core hm (fun z => (cw_ve hp).1 (h.mp z)) (fun z => (cw_ve hp).2 (fun w => z (h.mpr w)))
theorem cw_maxv {post : Int32 → Prop} {a b c d : Int64} {F m : Nat} {P : Prop} (hm : m < 256) (hF : F < 256) (h : cw_M (cw_in a b c d) F m ↔ P) (hp : post (cw_v P)) : wpL_maximal post () a b c d (nI F) (nI m) :=
  cw_maxi hm hF (fun z => (cw_ve hp).1 (h.mp z)) (fun z => (cw_ve hp).2 (fun w => z (h.mpr w)))
theorem cw_mhv {post : Int32 → Prop} {a b c d : Int64} {F m : Nat} {P : Prop} (hm : m < 256) (hs : ce_sub m F) (h : cw_N (cw_in a b c d) m ↔ P) (hp : post (cw_v P)) : wpL_minimalHit post () a b c d (nI F) (nI m) :=
  cw_mh hm hs (fun z => (cw_ve hp).1 (h.mp z)) (fun z => (cw_ve hp).2 (fun w => z (h.mpr w)))
theorem cl_876 {post : Int32 → Prop} {N : Nat} {sc : Nat → Int32} {J42 : Int32 → Int32 → Int32 → Int32 → Int32 → Int32 → Int32 → Int32 → Int32 → Int32 → Int32 → (Nat → Int32) → (Nat → Int32) → (Nat → Int32) → (Nat → Int32) → Prop} {x1 x2 x3 x5 : Int32} {x9 x11 x13 x15 x17 x19 x21 x23 x25 x27 x29 x31 : Int64} {kc ks : Nat} {V C F H : Nat} {cc mc ce me rd : Int32} {L xc xm xs : Nat → Int32} {S : Nat → Prop}
    (hS : ∀ a b, ce_sub a b → S b → S a) (hF : F < 256) (hW : ∀ j, j < 256 → (cw_in x9 x11 x13 x15 j = true ↔ ce_sub j F ∧ S j)) (hK : ∀ j, j < 256 → (cw_in x17 x19 x21 x23 j = true ↔ ce_core S F j)) (hX : ∀ j, j < 256 → (cw_in x25 x27 x29 x31 j = true ↔ ce_maxi S F j))
    (hJ : J42 x3 (x5 + 1) (nI V) (nI C) (nI F) (nI H) cc mc ce me rd L xc xm xs) : ∀ d i : Nat, i + d = 256 → wL_law_876 post N sc J42 x1 x2 x3 x5 (nI F) x9 x11 x13 x15 x17 x19 x21 x23 x25 x27 x29 x31 kc ks (nI V) (nI C) (nI F) (nI H) cc mc ce me rd L xc xm xs (d + 1) (nI i) := by
  intro d
  induction d with
  | zero =>
    intro i hi
    exact br_t (nI_le (a := 256) (by omega) (by omega)) (nm_e hJ)
  | succ d ih =>
    intro i hi
    have h8 : i < 256 := by omega
    have next := ih (i + 1) (by omega)
    refine br_f (nI_ge (b := 256) h8 (by decide)) (br_c (fun z => ?_) (fun z => nm_r (nI_1 i) next))
    have hs := (ce_inN h8).mp z
    exact cw_inv h8 (hK i h8) (cw_inv h8 (hX i h8) (cw_corev h8 (cw_C_i hW h8 hs) (br_t rfl (cw_maxv h8 hF (cw_M_i hF hW h8 hs) (br_t rfl (cw_mhv h8 hs (cw_N_i hS hF hX h8 hs) (br_t rfl (nm_r (nI_1 i) next))))))))
theorem cl_849 {post : Int32 → Prop} {N : Nat} {sc : Nat → Int32} {J42 : Int32 → Int32 → Int32 → Int32 → Int32 → Int32 → Int32 → Int32 → Int32 → Int32 → Int32 → (Nat → Int32) → (Nat → Int32) → (Nat → Int32) → (Nat → Int32) → Prop} {x1 x2 x3 x5 : Int32} {x9 x11 x13 x15 x17 x19 x21 x23 x25 x27 x29 x31 : Int64} {kc ks : Nat} {V C F H : Nat} {cc mc ce me : Int32} {L xc xm xs : Nat → Int32} {S : Nat → Prop}
    (hS : ∀ a b, ce_sub a b → S b → S a) (hF : F < 256) (hW : ∀ j, j < 256 → (cw_in x9 x11 x13 x15 j = true ↔ ce_sub j F ∧ S j)) (hK : ∀ j, j < 256 → (cw_in x17 x19 x21 x23 j = true ↔ ce_core S F j)) (hX : ∀ j, j < 256 → (cw_in x25 x27 x29 x31 j = true ↔ ce_maxi S F j))
    (hJ : J42 x3 (x5 + 1) (nI V) (nI C) (nI F) (nI H) cc mc ce me 1 L xc xm xs) : wL_law_849 post N sc J42 x1 x2 x3 x5 (nI F) x9 x11 x13 x15 x17 x19 x21 x23 x25 x27 x29 x31 cc mc kc ks (nI V) (nI C) (nI F) (nI H) cc mc ce me 1 L xc xm xs := by
  unfold wL_law_849
  exact cq_co2 (br_t rfl (cq_co3 (br_t rfl ⟨257, cl_876 hS hF hW hK hX hJ 256 0 rfl⟩)))
theorem cl_682c {post : Int32 → Prop} {N : Nat} {sc : Nat → Int32} {J42 : Int32 → Int32 → Int32 → Int32 → Int32 → Int32 → Int32 → Int32 → Int32 → Int32 → Int32 → (Nat → Int32) → (Nat → Int32) → (Nat → Int32) → (Nat → Int32) → Prop} {J478 : Int32 → Int64 → Int64 → Int64 → Int64 → Int64 → Int64 → Int64 → Int64 → Int32 → Int32 → Int32 → Int32 → Int32 → Int32 → Int32 → Int32 → Int32 → Int32 → Int32 → Int32 → Int32 → Int32 → Int32 → Int32 → (Nat → Int32) → (Nat → Int32) → (Nat → Int32) → (Nat → Int32) → Prop} {x1 x2 x3 x5 : Int32} {x9 x11 x13 x15 x17 x19 x21 x23 x25 x27 x29 x31 : Int64} {x33 x34 x36 x37 x38 : Int32} {kc ks e g t : Nat} {V C F H : Nat} {L xc xm xs : Nat → Int32}
    (he : e ≤ (cp_CL (ce_S L V H) F).length) (A : ce_ar (cp_CL (ce_S L V H) F) xc) (hlk : ∀ m, (cp_CL (ce_S L V H) F)[e]? = some m → x33 < nI m)
    (ht : ∀ m, (cp_CL (ce_S L V H) F)[e]? = some m → e < (cp_CL (ce_S L V H) F).length → ∀ a b c d, (∀ j, j < 256 → cw_in a b c d j = (cw_in x17 x19 x21 x23 j || decide (j = m))) → J478 x3 a b c d x25 x27 x29 x31 (nI m) x34 (nI (e + 1)) x36 x37 x38 (nI (t + 1)) (nI V) (nI C) (nI F) (nI H) (nI (cp_CL (ce_S L V H) F).length) (nI (cp_ML (ce_S L V H) F).length) (nI (e + 1)) (nI g) 1 L xc xm xs)
    (hf : e = (cp_CL (ce_S L V H) F).length → J478 x3 x17 x19 x21 x23 x25 x27 x29 x31 x33 x34 (nI e) x36 1 x38 (nI (t + 1)) (nI V) (nI C) (nI F) (nI H) (nI (cp_CL (ce_S L V H) F).length) (nI (cp_ML (ce_S L V H) F).length) (nI e) (nI g) 1 L xc xm xs) :
    wL_law_682 post N sc J42 J478 x1 x2 x3 x5 (nI F) x9 x11 x13 x15 x17 x19 x21 x23 x25 x27 x29 x31 x33 x34 (nI e) x36 x37 x38 (nI t) 1 2 kc ks (nI V) (nI C) (nI F) (nI H) (nI (cp_CL (ce_S L V H) F).length) (nI (cp_ML (ce_S L V H) F).length) (nI e) (nI g) 1 L xc xm xs := by
  unfold wL_law_682
  refine cq_em2 he A (fun m hm c => ?_) (fun c => br_t rfl (br_f (by decide) (nm_r (nI_1 t) (hf c))))
  obtain ⟨h8, hc⟩ := cp_CLm hm
  exact br_f (ce_n19 (by omega)) (br_t ((ce_inN h8).mpr hc.1) (br_f (by decide) (br_t (hlk m hm) (nm_r (nI_1 e) (cw_put4 h8 (fun a b c' d h => nm_r (nI_1 t) (ht m hm c a b c' d h)))))))
theorem cl_682m {post : Int32 → Prop} {N : Nat} {sc : Nat → Int32} {J42 : Int32 → Int32 → Int32 → Int32 → Int32 → Int32 → Int32 → Int32 → Int32 → Int32 → Int32 → (Nat → Int32) → (Nat → Int32) → (Nat → Int32) → (Nat → Int32) → Prop} {J478 : Int32 → Int64 → Int64 → Int64 → Int64 → Int64 → Int64 → Int64 → Int64 → Int32 → Int32 → Int32 → Int32 → Int32 → Int32 → Int32 → Int32 → Int32 → Int32 → Int32 → Int32 → Int32 → Int32 → Int32 → Int32 → (Nat → Int32) → (Nat → Int32) → (Nat → Int32) → (Nat → Int32) → Prop} {x1 x2 x3 x5 : Int32} {x9 x11 x13 x15 x17 x19 x21 x23 x25 x27 x29 x31 : Int64} {x33 x34 x35 x37 x38 : Int32} {kc ks e g t : Nat} {V C F H : Nat} {L xc xm xs : Nat → Int32}
    (hg : g ≤ (cp_ML (ce_S L V H) F).length) (D : ce_ar (cp_ML (ce_S L V H) F) xm) (hlx : ∀ m, (cp_ML (ce_S L V H) F)[g]? = some m → nI m < x34)
    (ht : ∀ m, (cp_ML (ce_S L V H) F)[g]? = some m → g < (cp_ML (ce_S L V H) F).length → ∀ a b c d, (∀ j, j < 256 → cw_in a b c d j = (cw_in x25 x27 x29 x31 j || decide (j = m))) → J478 x3 x17 x19 x21 x23 a b c d x33 (nI m) x35 (nI (g + 1)) x37 x38 (nI (t + 1)) (nI V) (nI C) (nI F) (nI H) (nI (cp_CL (ce_S L V H) F).length) (nI (cp_ML (ce_S L V H) F).length) (nI e) (nI (g + 1)) 1 L xc xm xs)
    (hf : g = (cp_ML (ce_S L V H) F).length → J478 x3 x17 x19 x21 x23 x25 x27 x29 x31 x33 x34 x35 (nI g) x37 1 (nI (t + 1)) (nI V) (nI C) (nI F) (nI H) (nI (cp_CL (ce_S L V H) F).length) (nI (cp_ML (ce_S L V H) F).length) (nI e) (nI g) 1 L xc xm xs) :
    wL_law_682 post N sc J42 J478 x1 x2 x3 x5 (nI F) x9 x11 x13 x15 x17 x19 x21 x23 x25 x27 x29 x31 x33 x34 x35 (nI g) x37 x38 (nI t) 0 3 kc ks (nI V) (nI C) (nI F) (nI H) (nI (cp_CL (ce_S L V H) F).length) (nI (cp_ML (ce_S L V H) F).length) (nI e) (nI g) 1 L xc xm xs := by
  unfold wL_law_682
  refine cq_em3 hg D (fun m hm c => ?_) (fun c => br_t rfl (br_t rfl (nm_r (nI_1 t) (hf c))))
  obtain ⟨h8, hc⟩ := cp_MLm hm
  exact br_f (ce_n19 (by omega)) (br_t ((ce_inN h8).mpr hc.1) (br_t rfl (br_t (hlx m hm) (nm_r (nI_1 g) (cw_put4 h8 (fun a b c' d h => nm_r (nI_1 t) (ht m hm c a b c' d h)))))))
theorem cl_548 {post : Int32 → Prop} {N : Nat} {sc : Nat → Int32} {J42 : Int32 → Int32 → Int32 → Int32 → Int32 → Int32 → Int32 → Int32 → Int32 → Int32 → Int32 → (Nat → Int32) → (Nat → Int32) → (Nat → Int32) → (Nat → Int32) → Prop} {J478 : Int32 → Int64 → Int64 → Int64 → Int64 → Int64 → Int64 → Int64 → Int64 → Int32 → Int32 → Int32 → Int32 → Int32 → Int32 → Int32 → Int32 → Int32 → Int32 → Int32 → Int32 → Int32 → Int32 → Int32 → Int32 → (Nat → Int32) → (Nat → Int32) → (Nat → Int32) → (Nat → Int32) → Prop} {x1 x2 x3 x5 : Int32} {x9 x11 x13 x15 x17 x19 x21 x23 x25 x27 x29 x31 : Int64} {x33 x34 x35 x36 x37 x38 x39 : Int32} {kc ks e g : Nat} {V C F H : Nat} {L xc xm xs : Nat → Int32}
    (B : cq_B V C F H) (he : e ≤ (cp_CL (ce_S L V H) F).length) (hg : g ≤ (cp_ML (ce_S L V H) F).length) (A : ce_ar (cp_CL (ce_S L V H) F) xc) (D : ce_ar (cp_ML (ce_S L V H) F) xm)
    (hW : ∀ j, j < 256 → (cw_in x9 x11 x13 x15 j = true ↔ ce_sub j F ∧ ce_S L V H j))
    (hend : (x37 = 0 → wL_law_638 post N sc J42 J478 x1 x2 x3 x5 (nI F) x9 x11 x13 x15 x17 x19 x21 x23 x25 x27 x29 x31 x33 x34 x35 x36 x37 x38 x39 kc ks (nI V) (nI C) (nI F) (nI H) (nI (cp_CL (ce_S L V H) F).length) (nI (cp_ML (ce_S L V H) F).length) (nI e) (nI g) 1 L xc xm xs) ∧ (¬ x37 = 0 → ((x38 = 0 → wL_law_638 post N sc J42 J478 x1 x2 x3 x5 (nI F) x9 x11 x13 x15 x17 x19 x21 x23 x25 x27 x29 x31 x33 x34 x35 x36 x37 x38 x39 kc ks (nI V) (nI C) (nI F) (nI H) (nI (cp_CL (ce_S L V H) F).length) (nI (cp_ML (ce_S L V H) F).length) (nI e) (nI g) 1 L xc xm xs) ∧ (¬ x38 = 0 → wL_law_849 post N sc J42 x1 x2 x3 x5 (nI F) x9 x11 x13 x15 x17 x19 x21 x23 x25 x27 x29 x31 x35 x36 kc ks (nI V) (nI C) (nI F) (nI H) (nI (cp_CL (ce_S L V H) F).length) (nI (cp_ML (ce_S L V H) F).length) (nI e) (nI g) 1 L xc xm xs)))) :
    ∀ d i : Nat, i + d = 256 → wL_law_548 post N sc J42 J478 x1 x2 x3 x5 (nI F) x9 x11 x13 x15 x17 x19 x21 x23 x25 x27 x29 x31 x33 x34 x35 x36 x37 x38 x39 kc ks (nI V) (nI C) (nI F) (nI H) (nI (cp_CL (ce_S L V H) F).length) (nI (cp_ML (ce_S L V H) F).length) (nI e) (nI g) 1 L xc xm xs (d + 1) (nI i) := by
  intro d
  induction d with
  | zero =>
    intro i hi
    exact br_t (nI_le (a := 256) (by omega) (by omega)) hend
  | succ d ih =>
    intro i hi
    have h8 : i < 256 := by omega
    have next := ih (i + 1) (by omega)
    refine br_f (nI_ge (b := 256) h8 (by decide)) (br_c (fun z => ?_) (fun z => nm_r (nI_1 i) next))
    have hs := (ce_inN h8).mp z
    refine cq_vd B h8 hs he hg A D (fun r h1 h2 => cw_inv h8 (hW i h8) ?_)
    have j6 : wL_law_606 post N sc J42 J478 (wL_law_548 post N sc J42 J478 x1 x2 x3 x5 (nI F) x9 x11 x13 x15 x17 x19 x21 x23 x25 x27 x29 x31 x33 x34 x35 x36 x37 x38 x39 kc ks (nI V) (nI C) (nI F) (nI H) (nI (cp_CL (ce_S L V H) F).length) (nI (cp_ML (ce_S L V H) F).length) (nI e) (nI g) 1 L xc xm xs (d + 1)) x1 x2 x3 x5 (nI F) x9 x11 x13 x15 x17 x19 x21 x23 x25 x27 x29 x31 x33 x34 x35 x36 x37 x38 x39 (nI i) r (cw_v (ce_sub i F ∧ ce_S L V H i)) kc ks (nI V) (nI C) (nI F) (nI H) (nI (cp_CL (ce_S L V H) F).length) (nI (cp_ML (ce_S L V H) F).length) (nI e) (nI g) 1 L xc xm xs :=
      br_c (fun e2 => br_t (cw_vf (fun w => h2 e2 w.2)) (nm_r (nI_1 i) next)) (fun _ => nm_r (nI_1 i) next)
    exact br_c (fun e1 => br_f (by rw [cw_vt ⟨hs, h1 e1⟩]; decide) j6) (fun _ => j6)
theorem cl_hd {post : Int32 → Prop} {N : Nat} {sc : Nat → Int32} {J42 : Int32 → Int32 → Int32 → Int32 → Int32 → Int32 → Int32 → Int32 → Int32 → Int32 → Int32 → (Nat → Int32) → (Nat → Int32) → (Nat → Int32) → (Nat → Int32) → Prop} {x1 x2 x3 x5 : Int32} {x9 x11 x13 x15 x17 x19 x21 x23 x25 x27 x29 x31 : Int64} {x33 x34 x35 x36 x37 x38 : Int32} {kc ks e g t n : Nat} {V C F H : Nat} {L xc xm xs : Nat → Int32}
    (B : cq_B V C F H) (he : e ≤ (cp_CL (ce_S L V H) F).length) (hg : g ≤ (cp_ML (ce_S L V H) F).length) (A : ce_ar (cp_CL (ce_S L V H) F) xc) (D : ce_ar (cp_ML (ce_S L V H) F) xm)
    (hW : ∀ j, j < 256 → (cw_in x9 x11 x13 x15 j = true ↔ ce_sub j F ∧ ce_S L V H j)) (ht : t < 600)
    (hend : (x37 = 0 → wL_law_638 post N sc J42 (wL_law_478 post N sc J42 x1 x2 x5 (nI F) x9 x11 x13 x15 kc ks n) x1 x2 x3 x5 (nI F) x9 x11 x13 x15 x17 x19 x21 x23 x25 x27 x29 x31 x33 x34 x35 x36 x37 x38 (nI t) kc ks (nI V) (nI C) (nI F) (nI H) (nI (cp_CL (ce_S L V H) F).length) (nI (cp_ML (ce_S L V H) F).length) (nI e) (nI g) 1 L xc xm xs) ∧ (¬ x37 = 0 → ((x38 = 0 → wL_law_638 post N sc J42 (wL_law_478 post N sc J42 x1 x2 x5 (nI F) x9 x11 x13 x15 kc ks n) x1 x2 x3 x5 (nI F) x9 x11 x13 x15 x17 x19 x21 x23 x25 x27 x29 x31 x33 x34 x35 x36 x37 x38 (nI t) kc ks (nI V) (nI C) (nI F) (nI H) (nI (cp_CL (ce_S L V H) F).length) (nI (cp_ML (ce_S L V H) F).length) (nI e) (nI g) 1 L xc xm xs) ∧ (¬ x38 = 0 → wL_law_849 post N sc J42 x1 x2 x3 x5 (nI F) x9 x11 x13 x15 x17 x19 x21 x23 x25 x27 x29 x31 x35 x36 kc ks (nI V) (nI C) (nI F) (nI H) (nI (cp_CL (ce_S L V H) F).length) (nI (cp_ML (ce_S L V H) F).length) (nI e) (nI g) 1 L xc xm xs)))) :
    wL_law_478 post N sc J42 x1 x2 x5 (nI F) x9 x11 x13 x15 kc ks (n + 1) x3 x17 x19 x21 x23 x25 x27 x29 x31 x33 x34 x35 x36 x37 x38 (nI t) (nI V) (nI C) (nI F) (nI H) (nI (cp_CL (ce_S L V H) F).length) (nI (cp_ML (ce_S L V H) F).length) (nI e) (nI g) 1 L xc xm xs := by
  have l1 : (cp_CL (ce_S L V H) F).length ≤ 256 := ce_ls_len _ _ _
  have l2 : (cp_ML (ce_S L V H) F).length ≤ 256 := ce_ls_len _ _ _
  have v := cl_548 B he hg A D hW hend 256 0 rfl
  have w0 : ¬ (e = (cp_CL (ce_S L V H) F).length ∧ g = (cp_ML (ce_S L V H) F).length) → wL_law_520 post N sc J42 (wL_law_478 post N sc J42 x1 x2 x5 (nI F) x9 x11 x13 x15 kc ks n) x1 x2 x3 x5 (nI F) x9 x11 x13 x15 x17 x19 x21 x23 x25 x27 x29 x31 x33 x34 x35 x36 x37 x38 (nI t) kc ks (nI V) (nI C) (nI F) (nI H) (nI (cp_CL (ce_S L V H) F).length) (nI (cp_ML (ce_S L V H) F).length) (nI e) (nI g) 1 L xc xm xs := by
    intro hn
    unfold wL_law_520 wL_law_521
    exact cq_go B he hg A D (fun r hr => br_c (fun z => absurd (hr.mp z) hn) (fun z => br_t rfl ⟨257, v⟩))
  have w1 : (e = (cp_CL (ce_S L V H) F).length ∧ g = (cp_ML (ce_S L V H) F).length) → wL_law_521 post N sc J42 (wL_law_478 post N sc J42 x1 x2 x5 (nI F) x9 x11 x13 x15 kc ks n) x1 x2 x3 x5 (nI F) x9 x11 x13 x15 x17 x19 x21 x23 x25 x27 x29 x31 x33 x34 x35 x36 x37 x38 (nI t) 1 kc ks (nI V) (nI C) (nI F) (nI H) (nI (cp_CL (ce_S L V H) F).length) (nI (cp_ML (ce_S L V H) F).length) (nI e) (nI g) 1 L xc xm xs := by
    intro hn
    unfold wL_law_521
    exact cq_go B he hg A D (fun r hr => br_c (fun z => br_t rfl ⟨257, v⟩) (fun z => absurd (hr.mpr hn) z))
  refine br_f (nI_ge (b := 600) ht (by decide)) (cq_ed2 (cq_co2 ?_))
  exact pk_eq e _ (fun h1 => cq_ed3 (cq_co3 (pk_eq g _ (fun h2 => w1 ⟨h1, h2⟩) (fun h2 => w0 (fun w => h2 w.2))))) (fun h1 => w0 (fun w => h1 w.1))
end
section
/-! the law's loops, the owed statement -/
theorem cl_K {l : List Nat} {W W' : Nat → Bool} {e m : Nat} (h : ∀ j, j < 256 → (W j = true ↔ ∃ k, k < e ∧ l[k]? = some j)) (hm : l[e]? = some m) (h' : ∀ j, j < 256 → W' j = (W j || decide (j = m))) : ∀ j, j < 256 → (W' j = true ↔ ∃ k, k < e + 1 ∧ l[k]? = some j) := by
  intro j hj
  rw [h' j hj, Bool.or_eq_true, h j hj, decide_eq_true_iff]
  constructor
  · rintro (⟨k, hk, e1⟩ | e1)
    · exact ⟨k, by omega, e1⟩
    · exact ⟨e, by omega, by rw [hm, e1]⟩
  · rintro ⟨k, hk, e1⟩
    by_cases z : k = e
    · subst z
      rw [hm] at e1
      exact Or.inr (Option.some.inj e1).symm
    · exact Or.inl ⟨k, by omega, e1⟩
theorem cl_Kc {S : Nat → Prop} {F : Nat} {W : Nat → Bool} (h : ∀ j, j < 256 → (W j = true ↔ ∃ k, k < (cp_CL S F).length ∧ (cp_CL S F)[k]? = some j)) : ∀ j, j < 256 → (W j = true ↔ ce_core S F j) := by
  intro j hj
  rw [h j hj]
  constructor
  · rintro ⟨k, hk, e⟩
    exact (cp_CLm e).2
  · exact fun z => cp_CLi hj z
theorem cl_Km {S : Nat → Prop} {F : Nat} {W : Nat → Bool} (h : ∀ j, j < 256 → (W j = true ↔ ∃ k, k < (cp_ML S F).length ∧ (cp_ML S F)[k]? = some j)) : ∀ j, j < 256 → (W j = true ↔ ce_maxi S F j) := by
  intro j hj
  rw [h j hj]
  constructor
  · rintro ⟨k, hk, e⟩
    exact (cp_MLm e).2
  · exact fun z => cp_MLi hj z
theorem cl_478 {post : Int32 → Prop} {N : Nat} {sc : Nat → Int32} {J42 : Int32 → Int32 → Int32 → Int32 → Int32 → Int32 → Int32 → Int32 → Int32 → Int32 → Int32 → (Nat → Int32) → (Nat → Int32) → (Nat → Int32) → (Nat → Int32) → Prop} {x1 x2 x5 : Int32} {x9 x11 x13 x15 : Int64} {kc ks Q : Nat} {V C F H : Nat} {L xc xm xs : Nat → Int32}
    (hN : N ≤ 260) (hQ : Q < 2 ^ 31) (B : cq_B V C F H) (A : ce_ar (cp_CL (ce_S L V H) F) xc) (D : ce_ar (cp_ML (ce_S L V H) F) xm)
    (hW : ∀ j, j < 256 → (cw_in x9 x11 x13 x15 j = true ↔ ce_sub j F ∧ ce_S L V H j))
    (hJ : ∀ q e g, q ≤ Q → e ≤ (cp_CL (ce_S L V H) F).length → g ≤ (cp_ML (ce_S L V H) F).length → J42 (nI q) (x5 + 1) (nI V) (nI C) (nI F) (nI H) (nI (cp_CL (ce_S L V H) F).length) (nI (cp_ML (ce_S L V H) F).length) (nI e) (nI g) 1 L xc xm xs) :
    ∀ (d q e g a b : Nat) (lk lx : Int32) (k0 k1 k2 k3 m0 m1 m2 m3 : Int64), e + g + a + b + d = (cp_CL (ce_S L V H) F).length + (cp_ML (ce_S L V H) F).length + 2 → a ≤ 1 → b ≤ 1 → (a = 1 → e = (cp_CL (ce_S L V H) F).length) → (b = 1 → g = (cp_ML (ce_S L V H) F).length) →
      e ≤ (cp_CL (ce_S L V H) F).length → g ≤ (cp_ML (ce_S L V H) F).length → q + d ≤ Q → (∀ m, (cp_CL (ce_S L V H) F)[e]? = some m → lk < nI m) → (∀ m, (cp_ML (ce_S L V H) F)[g]? = some m → nI m < lx) →
      (∀ j, j < 256 → (cw_in k0 k1 k2 k3 j = true ↔ ∃ k, k < e ∧ (cp_CL (ce_S L V H) F)[k]? = some j)) → (∀ j, j < 256 → (cw_in m0 m1 m2 m3 j = true ↔ ∃ k, k < g ∧ (cp_ML (ce_S L V H) F)[k]? = some j)) →
      wL_law_478 post N sc J42 x1 x2 x5 (nI F) x9 x11 x13 x15 kc ks (d + 1) (nI q) k0 k1 k2 k3 m0 m1 m2 m3 lk lx (nI e) (nI g) (nI a) (nI b) (nI (e + g + a + b)) (nI V) (nI C) (nI F) (nI H) (nI (cp_CL (ce_S L V H) F).length) (nI (cp_ML (ce_S L V H) F).length) (nI e) (nI g) 1 L xc xm xs := by
  have l1 : (cp_CL (ce_S L V H) F).length ≤ 256 := ce_ls_len _ _ _
  have l2 : (cp_ML (ce_S L V H) F).length ≤ 256 := ce_ls_len _ _ _
  have hF : F < 256 := B.2.2.1
  intro d
  induction d with
  | zero =>
    intro q e g a b lk lx k0 k1 k2 k3 m0 m1 m2 m3 hd ha hb hae hbg he hg hq hlk hlx hK hX
    have a1 : a = 1 := by omega
    have b1 : b = 1 := by omega
    have ee := hae a1
    have gg := hbg b1
    have na : ¬ nI a = 0 := nI_ne0 (by omega) (by omega)
    have nb : ¬ nI b = 0 := nI_ne0 (by omega) (by omega)
    refine cl_hd B he hg A D hW (by omega) (br_f na (br_f nb ?_))
    have hJ' := hJ q e g (by omega) he hg
    rw [ee, gg] at hJ' ⊢
    rw [ee] at hK
    rw [gg] at hX
    exact cl_849 ce_S_sub hF hW (cl_Kc hK) (cl_Km hX) hJ'
  | succ d ih =>
    intro q e g a b lk lx k0 k1 k2 k3 m0 m1 m2 m3 hd ha hb hae hbg he hg hq hlk hlx hK hX
    have core : a = 0 → wL_law_665 post N sc J42 (wL_law_478 post N sc J42 x1 x2 x5 (nI F) x9 x11 x13 x15 kc ks (d + 1)) x1 x2 (nI q) x5 (nI F) x9 x11 x13 x15 k0 k1 k2 k3 m0 m1 m2 m3 lk lx (nI e) (nI g) (nI a) (nI b) (nI (e + g + a + b)) 1 kc ks (nI V) (nI C) (nI F) (nI H) (nI (cp_CL (ce_S L V H) F).length) (nI (cp_ML (ce_S L V H) F).length) (nI e) (nI g) 1 L xc xm xs := by
      intro a0
      unfold wL_law_665
      refine nm_r (nI_1 q) (br_f (by decide) (cl_682c he A hlk (fun m hm c w0 w1 w2 w3 h => ?_) (fun c => ?_)))
      · have z := ih (q + 1) (e + 1) g a b (nI m) lx w0 w1 w2 w3 m0 m1 m2 m3 (by omega) ha hb (fun w => absurd w (by omega)) hbg (by omega) hg (by omega) (fun m' hm' => nI_lt (cp_at (cp_CLs _ _) (Nat.lt_succ_self e) hm hm') (by have := (cp_CLm hm').1; omega)) hlx (cl_K hK hm h) hX
        rw [show e + 1 + g + a + b = e + g + a + b + 1 by omega] at z
        exact z
      · have z := ih (q + 1) e g 1 b lk lx k0 k1 k2 k3 m0 m1 m2 m3 (by omega) (by omega) hb (fun _ => c) hbg he hg (by omega) hlk hlx hK hX
        rw [show e + g + 1 + b = e + g + a + b + 1 by omega] at z
        exact z
    have maxi : b = 0 → wL_law_665 post N sc J42 (wL_law_478 post N sc J42 x1 x2 x5 (nI F) x9 x11 x13 x15 kc ks (d + 1)) x1 x2 (nI q) x5 (nI F) x9 x11 x13 x15 k0 k1 k2 k3 m0 m1 m2 m3 lk lx (nI e) (nI g) (nI a) (nI b) (nI (e + g + a + b)) 0 kc ks (nI V) (nI C) (nI F) (nI H) (nI (cp_CL (ce_S L V H) F).length) (nI (cp_ML (ce_S L V H) F).length) (nI e) (nI g) 1 L xc xm xs := by
      intro b0
      unfold wL_law_665
      refine nm_r (nI_1 q) (br_t rfl (cl_682m hg D hlx (fun m hm c w0 w1 w2 w3 h => ?_) (fun c => ?_)))
      · have z := ih (q + 1) e (g + 1) a b lk (nI m) k0 k1 k2 k3 w0 w1 w2 w3 (by omega) ha hb hae (fun w => absurd w (by omega)) he (by omega) (by omega) hlk (fun m' hm' => nI_lt (cp_at (cp_MLs _ _) (Nat.lt_succ_self g) hm hm') (by have := (cp_MLm hm).1; omega)) hK (cl_K hX hm h)
        rw [show e + (g + 1) + a + b = e + g + a + b + 1 by omega] at z
        exact z
      · have z := ih (q + 1) e g a 1 lk lx k0 k1 k2 k3 m0 m1 m2 m3 (by omega) ha (by omega) hae (fun _ => c) he hg (by omega) hlk hlx hK hX
        rw [show e + g + a + 1 = e + g + a + b + 1 by omega] at z
        exact z
    have h638 : (a = 0 ∨ b = 0) → wL_law_638 post N sc J42 (wL_law_478 post N sc J42 x1 x2 x5 (nI F) x9 x11 x13 x15 kc ks (d + 1)) x1 x2 (nI q) x5 (nI F) x9 x11 x13 x15 k0 k1 k2 k3 m0 m1 m2 m3 lk lx (nI e) (nI g) (nI a) (nI b) (nI (e + g + a + b)) kc ks (nI V) (nI C) (nI F) (nI H) (nI (cp_CL (ce_S L V H) F).length) (nI (cp_ML (ce_S L V H) F).length) (nI e) (nI g) 1 L xc xm xs := by
      intro hab
      unfold wL_law_638 wL_law_660 wL_law_664
      refine pk_eq b 0 (fun hb0 => pk_eq a 0 (fun ha0 => ?_) (fun ha0 => maxi hb0)) (fun hb0 => core (by omega))
      exact cl_cell q rfl hN (by omega) (fun r => cl_ra (by decide) (fun r' => br_c (fun _ => core ha0) (fun _ => maxi hb0)))
    refine cl_hd B he hg A D hW (by omega) ?_
    exact pk_eq a 0 (fun ha0 => h638 (Or.inl ha0)) (fun ha0 => pk_eq b 0 (fun hb0 => h638 (Or.inr hb0)) (fun hb0 => absurd hd (by have := hae (by omega); have := hbg (by omega); omega)))
theorem cl_352 {post : Int32 → Prop} {N : Nat} {sc : Nat → Int32} {J42 : Int32 → Int32 → Int32 → Int32 → Int32 → Int32 → Int32 → Int32 → Int32 → Int32 → Int32 → (Nat → Int32) → (Nat → Int32) → (Nat → Int32) → (Nat → Int32) → Prop} {x1 x2 x3 x5 : Int32} {kc ks : Nat} {V C F H : Nat} {cc mc ce me rd : Int32} {L xc xm xs : Nat → Int32}
    (B : cq_B V C F H) (hend : ∀ x9 x11 x13 x15 : Int64, (∀ j, j < 256 → (cw_in x9 x11 x13 x15 j = true ↔ ce_sub j F ∧ ce_S L V H j)) → ∃ fu, wL_law_478 post N sc J42 x1 x2 x5 (nI F) x9 x11 x13 x15 kc ks fu x3 0 0 0 0 0 0 0 0 (-1) 256 0 0 0 0 0 (nI V) (nI C) (nI F) (nI H) cc mc ce me rd L xc xm xs) :
    ∀ (d i : Nat) (x9 x11 x13 x15 : Int64), i + d = 256 → (∀ j, j < 256 → (cw_in x9 x11 x13 x15 j = true ↔ j < i ∧ ce_sub j F ∧ ce_S L V H j)) → wL_law_352 post N sc J42 x1 x2 x3 x5 (nI F) kc ks (nI V) (nI C) (nI F) (nI H) cc mc ce me rd L xc xm xs (d + 1) x9 x11 x13 x15 (nI i) := by
  intro d
  induction d with
  | zero =>
    intro i x9 x11 x13 x15 hi hW
    refine br_t (nI_le (a := 256) (by omega) (by omega)) (hend x9 x11 x13 x15 (fun j hj => ?_))
    rw [hW j hj]
    exact ⟨fun z => z.2, fun z => ⟨by omega, z⟩⟩
  | succ d ih =>
    intro i x9 x11 x13 x15 hi hW
    have h8 : i < 256 := by omega
    have skip : ¬ (ce_sub i F ∧ ce_S L V H i) → wL_law_352 post N sc J42 x1 x2 x3 x5 (nI F) kc ks (nI V) (nI C) (nI F) (nI H) cc mc ce me rd L xc xm xs (d + 1) x9 x11 x13 x15 (nI i + 1) := by
      intro z
      rw [nI_1 i]
      refine ih (i + 1) x9 x11 x13 x15 (by omega) (fun j hj => ?_)
      rw [hW j hj]
      constructor
      · exact fun w => ⟨by omega, w.2⟩
      · intro w
        refine ⟨?_, w.2⟩
        by_cases e : j = i
        · subst e; exact absurd w.2 z
        · omega
    refine br_f (nI_ge (b := 256) h8 (by decide)) (br_c (fun z => ?_) (fun z => nm_e (skip (fun w => z ((ce_inN h8).mpr w.1)))))
    have hs := (ce_inN h8).mp z
    refine cq_wi B h8 hs (fun r hr => br_c (fun y => nm_e (skip (fun w => hr.mp y w.2))) (fun y => cw_put4 h8 (fun a b c d' h => nm_r (nI_1 i) (ih (i + 1) a b c d' (by omega) (fun j hj => ?_)))))
    rw [h j hj, Bool.or_eq_true, hW j hj, decide_eq_true_iff]
    constructor
    · rintro (w | w)
      · exact ⟨by omega, w.2⟩
      · subst w
        exact ⟨by omega, hs, Classical.byContradiction (fun q => y (hr.mpr q))⟩
    · intro w
      by_cases e : j = i
      · exact Or.inr e
      · exact Or.inl ⟨by omega, w.2⟩
theorem cl_m256 : ∀ F, F < 256 → nI F &&& (-256) = 0 := by decide +kernel
theorem cl_281 {post : Int32 → Prop} {N : Nat} {sc : Nat → Int32} {J42 : Int32 → Int32 → Int32 → Int32 → Int32 → Int32 → Int32 → Int32 → Int32 → Int32 → Int32 → (Nat → Int32) → (Nat → Int32) → (Nat → Int32) → (Nat → Int32) → Prop} {x1 x2 x5 : Int32} {kc ks q E : Nat} (hN : N ≤ 260) (hq : q + 600 < 2 ^ 31) (hE : E < 6)
    (hJ : ∀ q' (f1 f2 f3 f4 f5 f6 f7 f8 f9 : Int32) (a1 a2 a3 a4 : Nat → Int32), q' ≤ q + 600 → cq_W (f1, f2, f3, f4, f5, f6, f7, f8, f9, a1, a2, a3, a4) → J42 (nI q') (x5 + 1) f1 f2 f3 f4 f5 f6 f7 f8 f9 a1 a2 a3 a4) :
    ∀ (d i : Nat) (f1 f2 f3 f4 f5 f6 f7 f8 f9 : Int32) (a1 a2 a3 a4 : Nat → Int32), i + d = E → cq_W (f1, f2, f3, f4, f5, f6, f7, f8, f9, a1, a2, a3, a4) → wL_law_281 post N sc J42 x1 x2 (nI q) x5 (nI E) kc ks (d + 1) (nI i) f1 f2 f3 f4 f5 f6 f7 f8 f9 a1 a2 a3 a4 := by
  intro d
  induction d with
  | zero =>
    intro i f1 f2 f3 f4 f5 f6 f7 f8 f9 a1 a2 a3 a4 hi w
    refine br_t (nI_le (by omega) (by omega)) (cq_en w (fun V C F H r L xc xm xs B A D => ?_))
    have l1 : (cp_CL (ce_S L V H) F).length ≤ 256 := ce_ls_len _ _ _
    have l2 : (cp_ML (ce_S L V H) F).length ≤ 256 := ce_ls_len _ _ _
    refine cq_sl (br_t (cl_m256 F B.2.2.1) ⟨257, cl_352 B (fun x9 x11 x13 x15 hW => ?_) 256 0 0 0 0 0 rfl (fun j _ => by rw [cw_0]; exact ⟨fun z => (nomatch z), fun z => absurd z.1 (Nat.not_lt_zero j)⟩)⟩)
    have z := cl_478 (x1 := x1) (x2 := x2) (x5 := x5) (kc := kc) (ks := ks) (Q := q + 600) (post := post) (sc := sc) (J42 := J42) (xs := xs) (C := C) hN hq B A D hW
      (fun q' e g h1 h2 h3 => hJ q' _ _ _ _ _ _ _ _ _ _ _ _ _ h1 (cq_mk B (Or.inr ⟨rfl, e, g, rfl, rfl, rfl, rfl, h2, h3, A, D⟩)))
      ((cp_CL (ce_S L V H) F).length + (cp_ML (ce_S L V H) F).length + 2) q 0 0 0 0 (-1) 256 0 0 0 0 0 0 0 0 (by omega) (by omega) (by omega) (fun h => absurd h (by omega)) (fun h => absurd h (by omega)) (Nat.zero_le _) (Nat.zero_le _) (by omega)
      (fun m hm => Int32.lt_of_lt_of_le (by decide : (-1 : Int32) < 0) (nI_pos' (by have := (cp_CLm hm).1; omega))) (fun m hm => nI_lt (b := 256) (cp_MLm hm).1 (by decide))
      (fun j _ => by rw [cw_0]; exact ⟨fun z => (nomatch z), fun ⟨k, hk, _⟩ => absurd hk (Nat.not_lt_zero k)⟩) (fun j _ => by rw [cw_0]; exact ⟨fun z => (nomatch z), fun ⟨k, hk, _⟩ => absurd hk (Nat.not_lt_zero k)⟩)
    exact ⟨_, z⟩
  | succ d ih =>
    intro i f1 f2 f3 f4 f5 f6 f7 f8 f9 a1 a2 a3 a4 hi w
    have em : ∀ x : Int32, (x = 2 ∨ x = 3) → wL_law_302 post N sc J42 (wL_law_281 post N sc J42 x1 x2 (nI q) x5 (nI E) kc ks (d + 1)) x1 x2 (nI q) x5 (nI E) (nI i) x kc ks f1 f2 f3 f4 f5 f6 f7 f8 f9 a1 a2 a3 a4 := by
      intro x hx
      unfold wL_law_302
      refine cq_emit hx w (fun r u' w' => ?_)
      obtain ⟨g1, g2, g3, g4, g5, g6, g7, g8, g9, b1, b2, b3, b4⟩ := u'
      exact nm_r (nI_1 i) (ih (i + 1) g1 g2 g3 g4 g5 g6 g7 g8 g9 b1 b2 b3 b4 (by omega) w')
    exact br_f (nI_ge (by omega) (by omega)) ⟨by decide, br_c (fun _ => em 2 (Or.inl rfl)) (fun _ => em 3 (Or.inr rfl))⟩
theorem cl_75 {post : Int32 → Prop} {N : Nat} {sc : Nat → Int32} {J42 : Int32 → Int32 → Int32 → Int32 → Int32 → Int32 → Int32 → Int32 → Int32 → Int32 → Int32 → (Nat → Int32) → (Nat → Int32) → (Nat → Int32) → (Nat → Int32) → Prop} {x1 x2 x5 : Int32} {kc ks E Q : Nat} (hN : N ≤ 260) (hQ : Q < 100000) (hE : E ≤ 12) (hx1 : ¬ 2 * x1 + 1 = 0 ∧ ¬ 4 * x1 + 2 = 0 ∧ ¬ 8 * x1 + 4 = 0) (hx2 : ¬ x2 = 0)
    (hJ : ∀ q' (f1 f2 f3 f4 f5 f6 f7 f8 f9 : Int32) (a1 a2 a3 a4 : Nat → Int32), q' ≤ Q + 601 → cq_W (f1, f2, f3, f4, f5, f6, f7, f8, f9, a1, a2, a3, a4) → J42 (nI q') (x5 + 1) f1 f2 f3 f4 f5 f6 f7 f8 f9 a1 a2 a3 a4) :
    ∀ (d i q : Nat) (f1 f2 f3 f4 f5 f6 f7 f8 f9 : Int32) (a1 a2 a3 a4 : Nat → Int32), i + d = E → q + 4 * d ≤ Q → cq_W (f1, f2, f3, f4, f5, f6, f7, f8, f9, a1, a2, a3, a4) → wL_law_75 post N sc J42 x1 x2 x5 (nI E) kc ks (d + 1) (nI q) (nI i) f1 f2 f3 f4 f5 f6 f7 f8 f9 a1 a2 a3 a4 := by
  intro d
  induction d with
  | zero =>
    intro i q f1 f2 f3 f4 f5 f6 f7 f8 f9 a1 a2 a3 a4 hi hq w
    have go : ∀ (k : Nat), k < 6 → ∀ (f1 f2 f3 f4 f5 f6 f7 f8 f9 : Int32) (a1 a2 a3 a4 : Nat → Int32), cq_W (f1, f2, f3, f4, f5, f6, f7, f8, f9, a1, a2, a3, a4) → ∃ fu, wL_law_281 post N sc J42 x1 x2 (nI (q + 1)) x5 (nI k) kc ks fu 0 f1 f2 f3 f4 f5 f6 f7 f8 f9 a1 a2 a3 a4 :=
      fun k hk f1 f2 f3 f4 f5 f6 f7 f8 f9 a1 a2 a3 a4 w => ⟨k + 1, cl_281 hN (by omega) hk (fun q' f1 f2 f3 f4 f5 f6 f7 f8 f9 a1 a2 a3 a4 h w => hJ q' f1 f2 f3 f4 f5 f6 f7 f8 f9 a1 a2 a3 a4 (by omega) w) k 0 f1 f2 f3 f4 f5 f6 f7 f8 f9 a1 a2 a3 a4 (Nat.zero_add k) w⟩
    refine br_t (nI_le (by omega) (by omega)) (nm_r (nI_1 q) (cl_cell q rfl hN (by omega) (fun r => cl_r (n := 6) (by decide) (by decide) (fun k hk => br_c (fun _ => go k hk _ _ _ _ _ _ _ _ _ _ _ _ _ w) (fun _ => cq_en w (fun V C F H r L xc xm xs B A D => ?_))))))
    exact go k hk _ _ _ _ _ _ _ _ _ _ _ _ _ (cq_mk B (Or.inr ⟨rfl, 0, 0, rfl, rfl, rfl, rfl, Nat.zero_le _, Nat.zero_le _, A, D⟩))
  | succ d ih =>
    intro i q f1 f2 f3 f4 f5 f6 f7 f8 f9 a1 a2 a3 a4 hi hq w
    have nx : ∀ (u' : St2), cq_W u' → match u' with | (g1, g2, g3, g4, g5, g6, g7, g8, g9, b1, b2, b3, b4) => wL_law_75 post N sc J42 x1 x2 x5 (nI E) kc ks (d + 1) (nI (q + 4)) (nI (i + 1)) g1 g2 g3 g4 g5 g6 g7 g8 g9 b1 b2 b3 b4 := by
      intro u' w'
      obtain ⟨g1, g2, g3, g4, g5, g6, g7, g8, g9, b1, b2, b3, b4⟩ := u'
      exact ih (i + 1) (q + 4) g1 g2 g3 g4 g5 g6 g7 g8 g9 b1 b2 b3 b4 (by omega) (by omega) w'
    have h170 : ∀ x9 : Int32, wL_law_170 post N sc J42 (wL_law_75 post N sc J42 x1 x2 x5 (nI E) kc ks (d + 1)) x1 x2 (nI (q + 4)) x5 (nI E) (nI i) x9 kc ks f1 f2 f3 f4 f5 f6 f7 f8 f9 a1 a2 a3 a4 := by
      intro x9
      unfold wL_law_170
      refine cl_ra hx2 (fun r => cq_rem w (fun r' u' w' => ?_))
      have z := nx u' w'
      obtain ⟨g1, g2, g3, g4, g5, g6, g7, g8, g9, b1, b2, b3, b4⟩ := u'
      exact nm_r (nI_1 i) z
    have h199 : ∀ (x9 x10 x11 z0 : Int32), wL_law_199 post N sc J42 (wL_law_75 post N sc J42 x1 x2 x5 (nI E) kc ks (d + 1)) x1 x2 (nI (q + 4)) x5 (nI E) (nI i) x9 x10 x11 z0 kc ks f1 f2 f3 f4 f5 f6 f7 f8 f9 a1 a2 a3 a4 := by
      intro x9 x10 x11 z0
      unfold wL_law_199
      refine cl_lit hx1.1 (fun r1 => cl_lit hx1.2.1 (fun r2 => cl_lit hx1.2.2 (fun r3 => cq_add w (fun r' u' w' => ?_))))
      have z := nx u' w'
      obtain ⟨g1, g2, g3, g4, g5, g6, g7, g8, g9, b1, b2, b3, b4⟩ := u'
      exact nm_r (nI_1 i) z
    have h185 : ∀ (x8 x9 x10 x11 : Int32), wL_law_185 post N sc J42 (wL_law_75 post N sc J42 x1 x2 x5 (nI E) kc ks (d + 1)) x1 x2 (nI (q + 4)) x5 (nI E) (nI i) x8 x9 x10 x11 kc ks f1 f2 f3 f4 f5 f6 f7 f8 f9 a1 a2 a3 a4 := by
      intro x8 x9 x10 x11
      unfold wL_law_185
      exact br_c (fun _ => h199 x9 x10 x11 1) (fun _ => h199 x9 x10 x11 0)
    refine br_f (nI_ge (by omega) (by omega)) (cl_cell q rfl hN (by omega) (fun r213 => cl_ra (by decide) (fun r214 => cl_cell (q + 1) (nI_1 q) hN (by omega) (fun r215 => cl_cell (q + 2) (nI_add q 2) hN (by omega) (fun r216 => cl_cell (q + 3) (nI_add q 3) hN (by omega) (fun r217 => nm_r (nI_add q 4) (br_c (fun _ => br_c (fun _ => h170 r215) (fun _ => br_c (fun _ => h185 r214 r215 r216 r217) (fun _ => br_c (fun _ => h185 r214 r215 r216 r217) (fun _ => h170 r215)))) (fun _ => ?_))))))))
    refine cl_ra hx2 (fun r1 => cl_ra (by decide) (fun r2 => cq_set w (fun r' u' w' => ?_)))
    have z := nx u' w'
    obtain ⟨g1, g2, g3, g4, g5, g6, g7, g8, g9, b1, b2, b3, b4⟩ := u'
    exact nm_r (nI_1 i) z
theorem cl_42 {N : Nat} {sc : Nat → Int32} {x1 x2 : Int32} {kc ks : Nat} (hN : N ≤ 260) (hx1 : ¬ 2 * x1 + 1 = 0 ∧ ¬ 4 * x1 + 2 = 0 ∧ ¬ 8 * x1 + 4 = 0) (hx2 : ¬ x2 = 0) :
    ∀ (d i q : Nat) (f1 f2 f3 f4 f5 f6 f7 f8 f9 : Int32) (a1 a2 a3 a4 : Nat → Int32), i + d = 4 → q ≤ 2 + 700 * i → cq_W (f1, f2, f3, f4, f5, f6, f7, f8, f9, a1, a2, a3, a4) → wL_law_42 (fun r => r = 1) N sc x1 x2 kc ks (d + 1) (nI q) (nI i) f1 f2 f3 f4 f5 f6 f7 f8 f9 a1 a2 a3 a4 := by
  intro d
  induction d with
  | zero =>
    intro i q f1 f2 f3 f4 f5 f6 f7 f8 f9 a1 a2 a3 a4 hi hq w
    exact br_f (nI_ne0 (by omega) (by omega)) (br_t (nI_le (a := 4) (by omega) (by omega)) rfl)
  | succ d ih =>
    intro i q f1 f2 f3 f4 f5 f6 f7 f8 f9 a1 a2 a3 a4 hi hq w
    have hJ : ∀ q' (f1 f2 f3 f4 f5 f6 f7 f8 f9 : Int32) (a1 a2 a3 a4 : Nat → Int32), q' ≤ q + 700 → cq_W (f1, f2, f3, f4, f5, f6, f7, f8, f9, a1, a2, a3, a4) → wL_law_42 (fun r => r = 1) N sc x1 x2 kc ks (d + 1) (nI q') (nI i + 1) f1 f2 f3 f4 f5 f6 f7 f8 f9 a1 a2 a3 a4 := by
      intro q' f1 f2 f3 f4 f5 f6 f7 f8 f9 a1 a2 a3 a4 h w
      rw [nI_1 i]
      exact ih (i + 1) q' f1 f2 f3 f4 f5 f6 f7 f8 f9 a1 a2 a3 a4 (by omega) (by omega) w
    have h59 : wL_law_59 (fun r => r = 1) N sc (wL_law_42 (fun r => r = 1) N sc x1 x2 kc ks (d + 1)) x1 x2 (nI q) (nI i) kc ks f1 f2 f3 f4 f5 f6 f7 f8 f9 a1 a2 a3 a4 := by
      unfold wL_law_59
      refine br_c (fun _ => ⟨13, ?_⟩) (fun _ => ⟨6, ?_⟩)
      · exact cl_75 (E := 12) (Q := q + 48) hN (by omega) (by omega) hx1 hx2 (fun q' f1 f2 f3 f4 f5 f6 f7 f8 f9 a1 a2 a3 a4 h w => hJ q' f1 f2 f3 f4 f5 f6 f7 f8 f9 a1 a2 a3 a4 (by omega) w) 12 0 q _ _ _ _ _ _ _ _ _ _ _ _ _ rfl (by omega) w
      · exact cl_75 (E := 5) (Q := q + 48) hN (by omega) (by omega) hx1 hx2 (fun q' f1 f2 f3 f4 f5 f6 f7 f8 f9 a1 a2 a3 a4 h w => hJ q' f1 f2 f3 f4 f5 f6 f7 f8 f9 a1 a2 a3 a4 (by omega) w) 5 0 q _ _ _ _ _ _ _ _ _ _ _ _ _ rfl (by omega) w
    exact br_c (fun _ => h59) (fun _ => br_c (fun _ => rfl) (fun _ => br_c (fun _ => rfl) (fun _ => h59)))
theorem cl_v5 : ∀ k, k < 5 → ¬ (2 : Int32) * (1 + nI k) + 1 = 0 ∧ ¬ (4 : Int32) * (1 + nI k) + 2 = 0 ∧ ¬ (8 : Int32) * (1 + nI k) + 4 = 0 := by decide +kernel
theorem cl_v6 : ∀ k, k < 6 → ¬ (8 : Int32) - nI k = 0 := by decide +kernel
theorem cl_cl {post : Int32 → Prop} {x M : Int32} {n : Nat} (hM : M = nI n) (hn : 1 ≤ n) (h31 : n < 2 ^ 31) (hp : ∀ k, k ≤ n → post (nI k)) : wpX_clamp post () x M := by
  subst hM
  refine br_c (fun h => br_c (fun h2 => ?_) (fun _ => hp n (Nat.le_refl n))) (fun _ => hp 1 hn)
  obtain ⟨k, hk, rfl⟩ := nI_of2 (nI_toInt h31) (Int32.not_lt.mpr (Int32.le_trans (by decide : (0 : Int32) ≤ 1) h)) h2
  exact hp k hk
theorem i_vc (xs : Nat → Int32) (L : Nat) (hL : L ≤ 260) : wpL_law (fun r => r = 1) L xs := by
  unfold wpL_law
  refine cl_cell 0 rfl hL (by decide) (fun r1 => cl_r (n := 5) (by decide) (by decide) (fun k hk => nm_e (cl_cell 1 rfl hL (by decide) (fun r4 => cl_r (n := 6) (by decide) (by decide) (fun j hj => nm_e ⟨4, 792, by decide, by decide, ?_⟩)))))
  refine ⟨by decide, by decide, by decide, by decide, by decide, by decide, by decide, by decide, cl_cl (n := 5) rfl (by decide) (by decide) (fun V hV => cl_cl (n := 8) rfl (by decide) (by decide) (fun C hC => ⟨5, ?_⟩))⟩
  refine cl_42 hL (cl_v5 k hk) (cl_v6 j hj) 4 0 2 _ _ _ _ _ _ _ _ _ _ _ _ _ rfl (by omega) ?_
  exact cq_mk (F := 0) (H := 0) ⟨hV, hC, by decide, by decide, (fun s h => by rw [Nat.zero_testBit] at h; cases h), (fun s h => by rw [Nat.zero_testBit] at h; cases h), (fun s h => by rw [Nat.zero_testBit] at h; cases h)⟩ (Or.inl rfl)
end
