/-! Y: the slots, isSubset, allTrue, witness -/
/-- used and kinds are the two masks -/
def ce_K (U K : Nat → Int32) (F H C : Nat) : Prop := ∀ s, s < 8 → (U s = 0 ∧ F.testBit s = false ∧ H.testBit s = false) ∨ (s < C ∧ ¬ U s = 0 ∧ K s = 0 ∧ F.testBit s = true ∧ H.testBit s = false) ∨ (s < C ∧ ¬ U s = 0 ∧ K s = 1 ∧ F.testBit s = false ∧ H.testBit s = true)
theorem ce_K_F {U K : Nat → Int32} {F H C : Nat} (h : ce_K U K F H C) (hF : F < 256) : ∀ s, F.testBit s = true → s < C := by
  intro s hs
  rcases h s (ce_lo hF hs) with z | z | z
  · rw [z.2.1] at hs; cases hs
  · exact z.1
  · exact z.1
theorem ce_K_H {U K : Nat → Int32} {F H C : Nat} (h : ce_K U K F H C) (hH : H < 256) : ∀ s, H.testBit s = true → s < C := by
  intro s hs
  rcases h s (ce_lo hH hs) with z | z | z
  · rw [z.2.2] at hs; cases hs
  · exact z.1
  · exact z.1
theorem ce_K_f {U K : Nat → Int32} {F H C : Nat} (h : ce_K U K F H C) : ∀ s, s < 8 → (F.testBit s = true ↔ ¬ U s = 0 ∧ K s = 0) := by
  intro s hs
  rcases h s hs with ⟨a, b, c⟩ | ⟨z, a, b, c, d⟩ | ⟨z, a, b, c, d⟩
  · rw [b]; exact ⟨fun z => (nomatch z), fun z => absurd a z.1⟩
  · rw [c]; exact ⟨fun _ => ⟨a, b⟩, fun _ => rfl⟩
  · rw [c]; exact ⟨fun z => (nomatch z), fun z => by rw [b] at z; exact absurd z.2 (by decide)⟩
theorem ce_K_h {U K : Nat → Int32} {F H C : Nat} (h : ce_K U K F H C) : ∀ s, s < 8 → (H.testBit s = true ↔ ¬ U s = 0 ∧ K s = 1) := by
  intro s hs
  rcases h s hs with ⟨a, b, c⟩ | ⟨z, a, b, c, d⟩ | ⟨z, a, b, c, d⟩
  · rw [c]; exact ⟨fun z => (nomatch z), fun z => absurd a z.1⟩
  · rw [d]; exact ⟨fun z => (nomatch z), fun z => by rw [b] at z; exact absurd z.2 (by decide)⟩
  · rw [d]; exact ⟨fun _ => ⟨a, b⟩, fun _ => rfl⟩
theorem cy_s16 {V C : Nat} {cc mc ce me rd : Int32} {U K L ys yc ym : Nat → Int32} {post : Int32 → Prop} {kind : Int32} {M : Nat} (hM : M < 256) (hk : ∀ s, s < 8 → (M.testBit s = true ↔ ¬ U s = 0 ∧ K s = kind)) (hp : post (nI M)) :
    ∀ d i x, i + d = 8 → (∀ j, j < 32 → bt x j = (decide (j < i) && M.testBit j)) → wY_slots_16 post kind (nI V) (nI C) cc mc ce me rd U K L ys yc ym (d + 1) x (nI i) := by
  intro d
  induction d with
  | zero =>
    intro i x hi hx
    have e : x = nI M := by
      apply b_ext
      intro j hj
      rw [hx j hj, ce_bn M hj]
      by_cases z : j < i
      · simp [z]
      · rw [ce_hi hM (by omega)]; simp
    rw [e]
    exact br_t (nI_le (a := 8) (by omega) (by omega)) hp
  | succ d ih =>
    intro i x hi hx
    have hin : vp_in (nI i) 8 := vp_in_nI (by omega) (by decide)
    have hc : (nI i).toNatClampNeg = i := nI_clamp (by omega)
    have k := hk i (by omega)
    have skip : M.testBit i = false → wY_slots_16 post kind (nI V) (nI C) cc mc ce me rd U K L ys yc ym (d + 1) x (nI i + 1) := by
      intro z
      rw [nI_1 i]
      refine ih (i + 1) x (by omega) (fun j hj => ?_)
      rw [hx j hj]
      by_cases e : j = i
      · subst e; simp [z]
      · rw [show decide (j < i + 1) = decide (j < i) from decide_eq_decide.mpr ⟨fun h => by omega, fun h => by omega⟩]
    refine br_f (nI_ge (b := 8) (by omega) (by decide)) ⟨hin, br_c (fun z => nm_e (skip ?_)) (fun z => ⟨hin, br_c (fun y => nm_e (nm_r (nI_1 i) ?_)) (fun y => nm_e (skip ?_))⟩)⟩
    · rw [hc] at z
      exact ce_nt (fun w => (k.mp w).1 z)
    · rw [hc] at z y
      refine ih (i + 1) _ (by omega) (fun j hj => ?_)
      rw [b_or, ce_b1 (by omega), hx j hj]
      by_cases e : i = j
      · subst e; rw [k.mpr ⟨z, y⟩]; simp
      · by_cases w : j < i
        · simp [e, w, Nat.lt_succ_of_lt w]
        · have w2 : ¬ j < i + 1 := by omega
          simp [e, w, w2]
    · rw [hc] at y
      exact ce_nt (fun w => y (k.mp w).2)
theorem cy_s0 {V C : Nat} {cc mc ce me rd : Int32} {U K L ys yc ym : Nat → Int32} {F H : Nat} {post : Int32 → Prop} (hF : F < 256) (k : ce_K U K F H C) (hp : post (nI F)) : wpY_slots post (nI V, nI C, cc, mc, ce, me, rd, U, K, L, ys, yc, ym) 0 :=
  br_t rfl ⟨9, cy_s16 hF (ce_K_f k) hp 8 0 0 rfl (fun j _ => by rw [b_0]; simp)⟩
theorem cy_s1 {V C : Nat} {cc mc ce me rd : Int32} {U K L ys yc ym : Nat → Int32} {F H : Nat} {post : Int32 → Prop} (hH : H < 256) (k : ce_K U K F H C) (hp : post (nI H)) : wpY_slots post (nI V, nI C, cc, mc, ce, me, rd, U, K, L, ys, yc, ym) 1 :=
  br_f (by decide) (br_t rfl ⟨9, cy_s16 hH (ce_K_h k) hp 8 0 0 rfl (fun j _ => by rw [b_0]; simp)⟩)
theorem cy_sub {V C : Nat} {cc mc ce me rd : Int32} {U K L ys yc ym : Nat → Int32} {F H : Nat} {post : Int32 → Prop} {x : Int32} (hF : F < 256) (k : ce_K U K F H C) (ht : x &&& (nI F ^^^ (-1)) = 0 → post 1) (hf : ¬ x &&& (nI F ^^^ (-1)) = 0 → post 0) : wpY_isSubset post (nI V, nI C, cc, mc, ce, me, rd, U, K, L, ys, yc, ym) x := by
  refine br_c (fun z => hf (fun w => ?_)) (fun z => cy_s0 hF k (br_c ht hf))
  obtain ⟨m, hm, rfl, _⟩ := ce_small hF w
  exact nI_pos (by omega) z
theorem cy_subN {V C : Nat} {cc mc ce me rd : Int32} {U K L ys yc ym : Nat → Int32} {F H : Nat} {post : Int32 → Prop} {m : Nat} (hm : m < 256) (hF : F < 256) (k : ce_K U K F H C) (ht : ce_sub m F → post 1) (hf : ¬ ce_sub m F → post 0) : wpY_isSubset post (nI V, nI C, cc, mc, ce, me, rd, U, K, L, ys, yc, ym) (nI m) :=
  cy_sub hF k (fun z => ht ((ce_inN hm).mp z)) (fun z => hf (fun q => z ((ce_inN hm).mpr q)))
theorem cy_lt {V C : Nat} {cc mc ce me rd : Int32} {U K L ys yc ym : Nat → Int32} {post : Int32 → Prop} {x a : Int32} (ht : ce_lt x a → post 1) (hf : ¬ ce_lt x a → post 0) : wpY_literalTrue post (nI V, nI C, cc, mc, ce, me, rd, U, K, L, ys, yc, ym) x a := by
  refine br_c (fun l => br_c (fun g => hf ?_) (fun g => br_c (fun z => ht (Or.inr ⟨g, z⟩)) (fun z => hf ?_))) (fun l => br_c (fun z => hf ?_) (fun z => ht (Or.inl ⟨l, z⟩)))
  · rintro (w | w)
    · exact w.1 l
    · exact w.1 g
  · rintro (w | w)
    · exact w.1 l
    · exact z w.2
  · rintro (w | w)
    · exact w.2 z
    · exact w.1 (Int32.le_of_lt (Int32.not_le.mp l))
theorem cy_48 {V C : Nat} {cc mc ce me rd : Int32} {U K L ys yc ym : Nat → Int32} {post J : Int32 → Prop} {x1 a x4 : Int32} {s : Nat} (hs : s < 8) (h0 : x4 = 0 → J (nI s + 1)) (h1 : ¬ x4 = 0 → ce_cl L s a → J (nI s + 1)) (h2 : ¬ x4 = 0 → ¬ ce_cl L s a → post 0) :
    ∀ d p x5, p + d = 3 → (x5 = 0 ↔ ¬ ∃ q, q < p ∧ ce_lt (L (s * 3 + q)) a) → wY_allTrue_48 post J x1 a (nI s) x4 (nI V) (nI C) cc mc ce me rd U K L ys yc ym (d + 1) x5 (nI p) := by
  intro d
  induction d with
  | zero =>
    intro p x5 hp hx
    have e : p = 3 := by omega
    subst e
    exact br_t (nI_le (a := 3) (Nat.le_refl _) (by decide)) (br_c (fun z => nm_e (h0 z)) (fun z => br_c (fun y => h2 z (hx.mp y)) (fun y => nm_e (h1 z (Classical.byContradiction (fun w => y (hx.mpr w)))))))
  | succ d ih =>
    intro p x5 hp hx
    have e : (3 : Int32) * nI s + nI p = nI (s * 3 + p) := by
      rw [show (3 : Int32) * nI s = nI (3 * s) from pk_mul 3 s, nI_add, Nat.mul_comm]
    have hi : vp_in ((3 : Int32) * nI s + nI p) 24 := by rw [e]; exact vp_in_nI (by omega) (by decide)
    have hc : ((3 : Int32) * nI s + nI p).toNatClampNeg = s * 3 + p := by rw [e]; exact nI_clamp (by omega)
    refine br_f (nI_ge (b := 3) (by omega) (by decide)) ⟨hi, ?_⟩
    rw [hc]
    refine cy_lt (fun h => br_f (by decide) (nm_r (nI_1 p) (ih (p + 1) _ (by omega) ⟨fun z => absurd z (by decide), fun z => absurd ⟨p, by omega, h⟩ z⟩))) (fun h => br_t rfl (nm_r (nI_1 p) (ih (p + 1) _ (by omega) ?_)))
    rw [hx]
    constructor
    · rintro z ⟨q, hq, hl⟩
      by_cases e : q = p
      · subst e; exact h hl
      · exact z ⟨q, by omega, hl⟩
    · rintro z ⟨q, hq, hl⟩
      exact z ⟨q, by omega, hl⟩
theorem cy_at2 {V C : Nat} {cc mc ce me rd : Int32} {U K L ys yc ym : Nat → Int32} {F H : Nat} {post : Int32 → Prop} {m : Nat} {a : Int32} (k : ce_K U K F H C) (hF : F < 256) (hH : H < 256) (hm : ce_sub m F) (ht : ce_all L (m ||| H) a → post 1) (hf : ¬ ce_all L (m ||| H) a → post 0) :
    ∀ d s : Nat, s + d = 8 → (∀ q, q < s → (m ||| H).testBit q = true → ce_cl L q a) → wY_allTrue_2 post (nI m) a (nI V) (nI C) cc mc ce me rd U K L ys yc ym (d + 1) (nI s) := by
  intro d
  induction d with
  | zero =>
    intro s hs hq
    have hb : m ||| H < 256 := Nat.or_lt_two_pow (n := 8) (ce_sub_lt hF hm) hH
    exact br_t (nI_le (a := 8) (by omega) (by omega)) (ht (fun q z => hq q (by have := ce_lo hb z; omega) z))
  | succ d ih =>
    intro s hs hq
    have hin : vp_in (nI s) 8 := vp_in_nI (by omega) (by decide)
    have hc : (nI s).toNatClampNeg = s := nI_clamp (by omega)
    have next : ((m ||| H).testBit s = true → ce_cl L s a) → wY_allTrue_2 post (nI m) a (nI V) (nI C) cc mc ce me rd U K L ys yc ym (d + 1) (nI s + 1) := by
      intro z
      rw [nI_1 s]
      exact ih (s + 1) (by omega) (fun q h hb => by
        by_cases e : q = s
        · subst e; exact z hb
        · exact hq q (by omega) hb)
    have hx0 : (0 : Int32) = 0 ↔ ¬ ∃ q, q < 0 ∧ ce_lt (L (s * 3 + q)) a := ⟨fun _ ⟨q, hq, _⟩ => Nat.not_lt_zero q hq, fun _ => rfl⟩
    have no : (m ||| H).testBit s = false → ∃ n, wY_allTrue_48 post (wY_allTrue_2 post (nI m) a (nI V) (nI C) cc mc ce me rd U K L ys yc ym (d + 1)) (nI m) a (nI s) 0 (nI V) (nI C) cc mc ce me rd U K L ys yc ym n 0 0 :=
      fun z => ⟨4, cy_48 (by omega) (fun _ => next (fun w => by rw [z] at w; cases w)) (fun h => absurd rfl h) (fun h => absurd rfl h) 3 0 0 rfl hx0⟩
    have yes : (m ||| H).testBit s = true → ∃ n, wY_allTrue_48 post (wY_allTrue_2 post (nI m) a (nI V) (nI C) cc mc ce me rd U K L ys yc ym (d + 1)) (nI m) a (nI s) 1 (nI V) (nI C) cc mc ce me rd U K L ys yc ym n 0 0 :=
      fun z => ⟨4, cy_48 (by omega) (fun h => absurd h (by decide)) (fun _ h => next (fun _ => h)) (fun _ h => hf (fun w => h (w s z))) 3 0 0 rfl hx0⟩
    have ks := k s (by omega)
    refine br_f (nI_ge (b := 8) (by omega) (by decide)) ⟨hin, ?_⟩
    rw [hc]
    have hor : (m ||| H).testBit s = (m.testBit s || H.testBit s) := Nat.testBit_or _ _ _
    refine br_c (fun z => no ?_) (fun z => ⟨hin, br_c (fun y => yes ?_) (fun y => br_c (fun w => no ?_) (fun w => yes ?_))⟩)
    · rcases ks with ⟨a1, a2, a3⟩ | ⟨_, a1, _⟩ | ⟨_, a1, _⟩
      · have hms : m.testBit s = false := ce_nt (fun w => by have := hm s w; rw [a2] at this; cases this)
        rw [hor, hms, a3]; rfl
      · exact absurd z a1
      · exact absurd z a1
    · have hh : H.testBit s = true := (ce_K_h k s (by omega)).mpr ⟨z, y⟩
      rw [hor, hh, Bool.or_true]
    · have hh : H.testBit s = false := ce_nt (fun q => y ((ce_K_h k s (by omega)).mp q).2)
      rw [hor, hh, (ce_hasN m (by omega)).mp w]; rfl
    · rw [hor, ce_nf (fun q => w ((ce_hasN m (by omega)).mpr q))]; rfl
theorem cy_at {V C : Nat} {cc mc ce me rd : Int32} {U K L ys yc ym : Nat → Int32} {F H : Nat} {post : Int32 → Prop} {m : Nat} {a : Int32} (k : ce_K U K F H C) (hF : F < 256) (hH : H < 256) (hm : ce_sub m F) (ht : ce_all L (m ||| H) a → post 1) (hf : ¬ ce_all L (m ||| H) a → post 0) : wpY_allTrue post (nI V, nI C, cc, mc, ce, me, rd, U, K, L, ys, yc, ym) (nI m) a :=
  ⟨9, cy_at2 k hF hH hm ht hf 8 0 rfl (fun q h => absurd h (Nat.not_lt_zero q))⟩
theorem cy_w13 {V C : Nat} {cc mc ce me rd : Int32} {U K L ys yc ym : Nat → Int32} {F H : Nat} {post : Int32 → Prop} {m N : Nat} (hV : V ≤ 5) (hN : N = 2 ^ V) (k : ce_K U K F H C) (hF : F < 256) (hH : H < 256) (hm : ce_sub m F) (hp : ∀ r, ce_least (fun a => ce_all L (m ||| H) (nI a)) N r → post r) :
    ∀ d a : Nat, a + d = N → (∀ b, b < a → ¬ ce_all L (m ||| H) (nI b)) → wY_witness_13 post (nI m) (nI V) (nI C) cc mc ce me rd U K L ys yc ym (d + 1) (nI a) := by
  have hN32 : N ≤ 32 := hN ▸ ce_v32 hV
  intro d
  induction d with
  | zero =>
    intro a ha hb
    have h : post (-19) := hp _ (Or.inr ⟨fun b h => hb b (by omega), rfl⟩)
    exact br_c (fun _ => h) (fun _ => br_t (by rw [ce_sh V hV, ← hN]; exact nI_le (by omega) (by omega)) h)
  | succ d ih =>
    intro a ha hb
    refine br_f (nI_ge (b := 32) (by omega) (by decide)) (br_f (by rw [ce_sh V hV, ← hN]; exact nI_ge (by omega) (by omega)) ?_)
    refine cy_at k hF hH hm (fun h => br_f (by decide) (hp _ (Or.inl ⟨a, by omega, h, hb, rfl⟩))) (fun h => br_t rfl (nm_r (nI_1 a) ?_))
    exact ih (a + 1) (by omega) (fun b hb' => by
      by_cases e : b = a
      · subst e; exact h
      · exact hb b (by omega))
theorem cy_w {V C : Nat} {cc mc ce me rd : Int32} {U K L ys yc ym : Nat → Int32} {F H : Nat} {post : Int32 → Prop} {x : Int32} (hV : V ≤ 5) (k : ce_K U K F H C) (hF : F < 256) (hH : H < 256)
    (ht : ∀ m, m < 256 → x = nI m → ce_sub m F → ∀ r, ce_least (fun a => ce_all L (m ||| H) (nI a)) (2 ^ V) r → post r) (hf : ¬ x &&& (nI F ^^^ (-1)) = 0 → post (-18)) : wpY_witness post (nI V, nI C, cc, mc, ce, me, rd, U, K, L, ys, yc, ym) x := by
  unfold wpY_witness
  refine cy_sub hF k (fun z => br_f (by decide) ?_) (fun z => br_t rfl (hf z))
  obtain ⟨m, hm, rfl, hs⟩ := ce_small hF z
  exact ⟨2 ^ V + 1, cy_w13 hV rfl k hF hH hs (ht m hm rfl hs) (2 ^ V) 0 (Nat.zero_add _) (fun q h => absurd h (Nat.not_lt_zero q))⟩
