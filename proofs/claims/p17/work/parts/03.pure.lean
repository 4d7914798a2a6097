/-! the pure picture: truth of a clause, satisfiability, the two lists, the verdict -/
/-- literal x is true under assignment a -/
def ce_lt (x a : Int32) : Prop := (¬ x ≤ 0 ∧ ¬ (a &&& ((1 : Int32) <<< ((x - 1) &&& 31))) = 0) ∨ (¬ 0 ≤ x ∧ (a &&& ((1 : Int32) <<< (((-x) - 1) &&& 31))) = 0)
/-- the clause in slot s is true under a -/
def ce_cl (L : Nat → Int32) (s : Nat) (a : Int32) : Prop := ∃ p, p < 3 ∧ ce_lt (L (s * 3 + p)) a
/-- all clauses of mask M are true under a -/
def ce_all (L : Nat → Int32) (M : Nat) (a : Int32) : Prop := ∀ s, M.testBit s = true → ce_cl L s a
/-- mask m is satisfiable beside the hard mask H -/
def ce_S (L : Nat → Int32) (V H m : Nat) : Prop := ∃ a, a < 2 ^ V ∧ ce_all L (m ||| H) (nI a)
theorem ce_all_sub {L : Nat → Int32} {M N : Nat} {a : Int32} (h : ce_sub M N) (k : ce_all L N a) : ce_all L M a := fun s z => k s (h s z)
theorem ce_or_sub {a b H : Nat} (h : ce_sub a b) : ce_sub (a ||| H) (b ||| H) := by
  intro i hi
  rw [Nat.testBit_or, Bool.or_eq_true] at hi ⊢
  exact hi.imp (h i) id
theorem ce_S_sub {L : Nat → Int32} {V H : Nat} (a b : Nat) (h : ce_sub a b) (k : ce_S L V H b) : ce_S L V H a := by
  obtain ⟨x, hx, hk⟩ := k
  exact ⟨x, hx, ce_all_sub (ce_or_sub h) hk⟩
/-- r is the least a below n with P a, or -19 -/
def ce_least (P : Nat → Prop) (n : Nat) (r : Int32) : Prop := (∃ a, a < n ∧ P a ∧ (∀ b, b < a → ¬ P b) ∧ r = nI a) ∨ ((∀ a, a < n → ¬ P a) ∧ r = -19)
theorem ce_least_u {P : Nat → Prop} {n : Nat} {r r' : Int32} (h : ce_least P n r) (k : ce_least P n r') : r' = r := by
  rcases h with ⟨a, ha, pa, la, rfl⟩ | ⟨h, rfl⟩
  · rcases k with ⟨b, hb, pb, lb, rfl⟩ | ⟨k, rfl⟩
    · rcases Nat.lt_trichotomy a b with z | z | z
      · exact absurd pa (lb a z)
      · rw [z]
      · exact absurd pb (la b z)
    · exact absurd pa (k a ha)
  · rcases k with ⟨b, hb, pb, lb, rfl⟩ | ⟨k, rfl⟩
    · exact absurd pb (h b hb)
    · rfl
theorem ce_n19 {a : Nat} (h : a < 2 ^ 31) : ¬ nI a = -19 := by
  intro e
  have q := nI_pos h
  rw [e] at q
  exact q (by decide)
theorem ce_least_s {P : Nat → Prop} {n : Nat} {r : Int32} (hn : n < 2 ^ 31) (h : ce_least P n r) : r = -19 ↔ ¬ ∃ a, a < n ∧ P a := by
  rcases h with ⟨a, ha, pa, la, rfl⟩ | ⟨h, rfl⟩
  · exact ⟨fun e => absurd e (ce_n19 (by omega)), fun z => absurd ⟨a, ha, pa⟩ z⟩
  · exact ⟨fun _ ⟨a, ha, pa⟩ => h a ha pa, fun _ => rfl⟩
noncomputable def ce_b (P : Prop) : Bool := @decide P (Classical.propDecidable P)
theorem ce_bt {P : Prop} (h : P) : ce_b P = true := @decide_eq_true P (Classical.propDecidable P) h
theorem ce_bf {P : Prop} (h : ¬ P) : ce_b P = false := @decide_eq_false P (Classical.propDecidable P) h
theorem ce_bi {P : Prop} : ce_b P = true ↔ P := ⟨@of_decide_eq_true P (Classical.propDecidable P), ce_bt⟩
/-- the masks f 0, f 1 .. f (n - 1) with P, in that order -/
noncomputable def ce_ls (P : Nat → Prop) (f : Nat → Nat) : Nat → List Nat
  | 0 => []
  | n + 1 => ce_ls P f n ++ (if ce_b (P (f n)) = true then [f n] else [])
theorem ce_ls_t {P : Nat → Prop} {f : Nat → Nat} {n : Nat} (h : P (f n)) : ce_ls P f (n + 1) = ce_ls P f n ++ [f n] := by
  show ce_ls P f n ++ (if ce_b (P (f n)) = true then [f n] else []) = _
  rw [if_pos (ce_bt h)]
theorem ce_ls_f {P : Nat → Prop} {f : Nat → Nat} {n : Nat} (h : ¬ P (f n)) : ce_ls P f (n + 1) = ce_ls P f n := by
  show ce_ls P f n ++ (if ce_b (P (f n)) = true then [f n] else []) = _
  rw [ce_bf h, if_neg (by decide), List.append_nil]
theorem ce_ls_len (P : Nat → Prop) (f : Nat → Nat) (n : Nat) : (ce_ls P f n).length ≤ n := by
  induction n with
  | zero => exact Nat.le_refl 0
  | succ n ih =>
    by_cases h : P (f n)
    · rw [ce_ls_t h, List.length_append]
      show _ + 1 ≤ _
      omega
    · rw [ce_ls_f h]
      omega
theorem ce_ls_mem {P : Nat → Prop} {f : Nat → Nat} {n x : Nat} : x ∈ ce_ls P f n ↔ ∃ k, k < n ∧ x = f k ∧ P x := by
  induction n with
  | zero => exact ⟨fun h => (nomatch h), fun ⟨k, hk, _⟩ => absurd hk (Nat.not_lt_zero k)⟩
  | succ n ih =>
    by_cases h : P (f n)
    · rw [ce_ls_t h, List.mem_append, ih, List.mem_singleton]
      constructor
      · rintro (⟨k, hk, e, p⟩ | e)
        · exact ⟨k, by omega, e, p⟩
        · exact ⟨n, by omega, e, e ▸ h⟩
      · rintro ⟨k, hk, e, p⟩
        by_cases z : k = n
        · subst z; exact Or.inr e
        · exact Or.inl ⟨k, by omega, e, p⟩
    · rw [ce_ls_f h, ih]
      constructor
      · rintro ⟨k, hk, e, p⟩
        exact ⟨k, by omega, e, p⟩
      · rintro ⟨k, hk, e, p⟩
        by_cases z : k = n
        · subst z; exact absurd (e ▸ p) h
        · exact ⟨k, by omega, e, p⟩
theorem ce_ls_congr {P Q : Nat → Prop} {f : Nat → Nat} : ∀ {n : Nat}, (∀ k, k < n → (P (f k) ↔ Q (f k))) → ce_ls P f n = ce_ls Q f n := by
  intro n
  induction n with
  | zero => exact fun _ => rfl
  | succ n ih =>
    intro h
    have e := ih (fun k hk => h k (by omega))
    by_cases p : P (f n)
    · rw [ce_ls_t p, ce_ls_t ((h n (by omega)).mp p), e]
    · rw [ce_ls_f p, ce_ls_f (fun q => p ((h n (by omega)).mpr q)), e]
/-- array a holds the list l -/
def ce_ar (l : List Nat) (a : Nat → Int32) : Prop := ∀ k m, l[k]? = some m → a k = nI m
theorem ce_ar0 (a : Nat → Int32) : ce_ar [] a := fun k m h => by simp at h
theorem ce_ar_put {l : List Nat} {a : Nat → Int32} {m : Nat} (h : ce_ar l a) : ce_ar (l ++ [m]) (upd a l.length (nI m)) := by
  intro k x hx
  rcases Nat.lt_trichotomy k l.length with z | z | z
  · rw [List.getElem?_append_left z] at hx
    rw [pk_un (by omega)]
    exact h k x hx
  · subst z
    rw [List.getElem?_append_right (Nat.le_refl _), Nat.sub_self] at hx
    have e : m = x := by simpa using hx
    rw [pk_us, e]
  · rw [List.getElem?_eq_none (by rw [List.length_append]; show l.length + 1 ≤ k; omega)] at hx
    cases hx
theorem ce_ar_get {l : List Nat} {a : Nat → Int32} (h : ce_ar l a) {k : Nat} (hk : k < l.length) : ∃ m, m ∈ l ∧ l[k]? = some m ∧ a k = nI m :=
  ⟨l[k], List.getElem_mem hk, List.getElem?_eq_getElem hk, h k _ (List.getElem?_eq_getElem hk)⟩
/-- a core, a maximal of F by one slot less, one slot more -/
def ce_core (S : Nat → Prop) (F m : Nat) : Prop := ce_sub m F ∧ ¬ S m ∧ ∀ s, m.testBit s = true → S (m ^^^ 2 ^ s)
def ce_maxi (S : Nat → Prop) (F m : Nat) : Prop := ce_sub m F ∧ S m ∧ ∀ s, F.testBit s = true → m.testBit s = false → ¬ S (m ^^^ 2 ^ s)
/-- the same by all subsets -/
theorem ce_core_all {S : Nat → Prop} {F m : Nat} (hS : ∀ a b, ce_sub a b → S b → S a) : ce_core S F m ↔ ce_sub m F ∧ ¬ S m ∧ ∀ x, ce_sub x m → x ≠ m → S x := by
  constructor
  · rintro ⟨h1, h2, h3⟩
    refine ⟨h1, h2, fun x hx ne => ?_⟩
    obtain ⟨s, a, b, c⟩ := ce_sub_one hx ne
    exact hS _ _ c (h3 s a)
  · rintro ⟨h1, h2, h3⟩
    refine ⟨h1, h2, fun s hs => h3 _ (ce_sub_del hs) (fun e => ?_)⟩
    have q := ce_xt m s s
    rw [e, hs] at q
    simp at q
theorem ce_maxi_all {S : Nat → Prop} {F m : Nat} (hS : ∀ a b, ce_sub a b → S b → S a) : ce_maxi S F m ↔ ce_sub m F ∧ S m ∧ ∀ x, ce_sub m x → ce_sub x F → x ≠ m → ¬ S x := by
  constructor
  · rintro ⟨h1, h2, h3⟩
    refine ⟨h1, h2, fun x hx hF ne sx => ?_⟩
    obtain ⟨s, a, b, c⟩ := ce_sup_one hx (Ne.symm ne)
    exact h3 s (hF s a) b (hS _ _ c sx)
  · rintro ⟨h1, h2, h3⟩
    refine ⟨h1, h2, fun s hF hs => h3 _ (ce_sub_add hs) (fun i hi => ?_) (fun e => ?_)⟩
    · rw [ce_xt] at hi
      by_cases z : s = i
      · subst z; exact hF
      · exact h1 i (by simpa [z] using hi)
    · have q := ce_xt m s s
      rw [e, hs] at q
      simp at q
/-- one of the first e masks of l holds m; lies in m -/
def ce_up1 (l : List Nat) (e m : Nat) : Prop := ∃ k x, k < e ∧ l[k]? = some x ∧ ce_sub m x
def ce_dn1 (l : List Nat) (e m : Nat) : Prop := ∃ k x, k < e ∧ l[k]? = some x ∧ ce_sub x m
/-- what the emitted masks tell of m: the first g of ml, the first e of cl -/
def ce_jd (cl ml : List Nat) (e g m : Nat) (r : Int32) : Prop :=
  (r = 1 ∧ ce_up1 ml g m) ∨ (r = 2 ∧ ¬ ce_up1 ml g m ∧ ce_dn1 cl e m) ∨ (r = 0 ∧ ¬ ce_up1 ml g m ∧ ¬ ce_dn1 cl e m)
theorem ce_jd_u {cl ml : List Nat} {e g m : Nat} {r r' : Int32} (h : ce_jd cl ml e g m r) (k : ce_jd cl ml e g m r') : r' = r := by
  rcases h with ⟨rfl, h⟩ | ⟨rfl, h, h2⟩ | ⟨rfl, h, h2⟩ <;> rcases k with ⟨rfl, k⟩ | ⟨rfl, k, k2⟩ | ⟨rfl, k, k2⟩ <;> first | rfl | exact absurd h k | exact absurd k h | exact absurd h2 k2 | exact absurd k2 h2
theorem ce_jd_0 {cl ml : List Nat} {e g m : Nat} {r : Int32} (h : ce_jd cl ml e g m r) : r = 0 ↔ ¬ ce_up1 ml g m ∧ ¬ ce_dn1 cl e m := by
  rcases h with ⟨rfl, h⟩ | ⟨rfl, h, h2⟩ | ⟨rfl, h, h2⟩
  · exact ⟨fun z => absurd z (by decide), fun z => absurd h z.1⟩
  · exact ⟨fun z => absurd z (by decide), fun z => absurd h2 z.2⟩
  · exact ⟨fun _ => ⟨h, h2⟩, fun _ => rfl⟩
/-- table t says of each m below n whether P m -/
def ce_tab (P : Nat → Prop) (n : Nat) (t : Nat → Int32) : Prop := ∀ m, m < n → (t m = 0 ↔ ¬ P m)
theorem ce_tab0 (P : Nat → Prop) (t : Nat → Int32) : ce_tab P 0 t := fun m h => absurd h (Nat.not_lt_zero m)
theorem ce_tab_put {P : Nat → Prop} {n : Nat} {t : Nat → Int32} {x : Int32} (h : ce_tab P n t) (hx : x = 0 ↔ ¬ P n) : ce_tab P (n + 1) (upd t n x) := by
  intro m hm
  by_cases e : m = n
  · subst e; rw [pk_us]; exact hx
  · rw [pk_un e]; exact h m (by omega)
theorem ce_nf {x : Bool} (h : ¬ x = false) : x = true := by cases x <;> first | rfl | exact absurd rfl h
theorem ce_nt {x : Bool} (h : ¬ x = true) : x = false := by cases x <;> first | rfl | exact absurd rfl h
theorem ce_sh : ∀ V, V ≤ 5 → (1 : Int32) <<< (nI V &&& 31) = nI (2 ^ V) := by decide +kernel
theorem ce_v32 {V : Nat} (h : V ≤ 5) : 2 ^ V ≤ 32 := Nat.pow_le_pow_right (n := 2) (by decide) h
theorem ce_nb0 : vp_nar .boolean 0 = 0 := by rfl
theorem ce_nb1 : vp_nar .boolean 1 = 1 := by rfl
/-- r is the greatest m below 256 with P m, or -19 -/
def ce_great (P : Nat → Prop) (r : Int32) : Prop := (∃ m, m < 256 ∧ P m ∧ (∀ b, b < 256 → m < b → ¬ P b) ∧ r = nI m) ∨ ((∀ m, m < 256 → ¬ P m) ∧ r = -19)
theorem ce_great_u {P : Nat → Prop} {r r' : Int32} (h : ce_great P r) (k : ce_great P r') : r' = r := by
  rcases h with ⟨a, ha, pa, la, rfl⟩ | ⟨h, rfl⟩
  · rcases k with ⟨b, hb, pb, lb, rfl⟩ | ⟨k, rfl⟩
    · rcases Nat.lt_trichotomy a b with z | z | z
      · exact absurd pb (la b hb z)
      · rw [z]
      · exact absurd pa (lb a ha z)
    · exact absurd pa (k a ha)
  · rcases k with ⟨b, hb, pb, lb, rfl⟩ | ⟨k, rfl⟩
    · exact absurd pb (h b hb)
    · rfl
