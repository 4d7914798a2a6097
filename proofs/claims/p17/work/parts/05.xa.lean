/-! X: contains, isClauseTrue, areClausesTrue, leastAssignment, isSubset -/
theorem cx_has {post : Int32 → Prop} {m s : Nat} (hs : s < 32) (ht : m.testBit s = true → post 1) (hf : m.testBit s = false → post 0) : wpX_contains post () (nI m) (nI s) :=
  br_c (fun z => hf ((ce_hasN m hs).mp z)) (fun z => ht (ce_nf (fun q => z ((ce_hasN m hs).mpr q))))
theorem cx_ct7 {V C F H : Nat} {cc mc ce me rd : Int32} {L xc xm xs : Nat → Int32} {post : Int32 → Prop} {s : Nat} {a : Int32} (hs : s < 8) (ht : ce_cl L s a → post 1) (hf : ¬ ce_cl L s a → post 0) :
    ∀ d p : Nat, p + d = 3 → (∀ q, q < p → ¬ ce_lt (L (s * 3 + q)) a) → wX_isClauseTrue_7 post a (nI (s * 3)) (nI V) (nI C) (nI F) (nI H) cc mc ce me rd L xc xm xs (d + 1) (nI p) := by
  intro d
  induction d with
  | zero =>
    intro p hp hq
    refine br_t (nI_le (a := 3) (b := p) (by omega) (by omega)) (hf ?_)
    rintro ⟨q, hq3, hl⟩
    exact hq q (by omega) hl
  | succ d ih =>
    intro p hp hq
    have hn : ¬ (3 : Int32) ≤ nI p := nI_ge (b := 3) (by omega) (by decide)
    have e : nI (s * 3) + nI p = nI (s * 3 + p) := nI_add _ _
    have hi : vp_in (nI (s * 3) + nI p) 24 := by rw [e]; exact vp_in_nI (by omega) (by decide)
    have hc : (nI (s * 3) + nI p).toNatClampNeg = s * 3 + p := by rw [e]; exact nI_clamp (by omega)
    have next : ¬ ce_lt (L (s * 3 + p)) a → wX_isClauseTrue_7 post a (nI (s * 3)) (nI V) (nI C) (nI F) (nI H) cc mc ce me rd L xc xm xs (d + 1) (nI p + 1) := by
      intro z
      rw [nI_1 p]
      exact ih (p + 1) (by omega) (fun q h => by
        by_cases e : q = p
        · subst e; exact z
        · exact hq q (by omega))
    have j42 : (¬ (¬ L (s * 3 + p) ≤ 0 ∧ ¬ (a &&& ((1 : Int32) <<< ((L (s * 3 + p) - 1) &&& 31))) = 0)) → wX_isClauseTrue_42 post (wX_isClauseTrue_7 post a (nI (s * 3)) (nI V) (nI C) (nI F) (nI H) cc mc ce me rd L xc xm xs (d + 1)) a (nI (s * 3)) (nI p) (L (s * 3 + p)) (nI V) (nI C) (nI F) (nI H) cc mc ce me rd L xc xm xs := by
      intro z
      refine br_c (fun h0 => nm_e (next ?_)) (fun h0 => br_c (fun h1 => ht ⟨p, by omega, Or.inr ⟨h0, h1⟩⟩) (fun h1 => nm_e (next ?_)))
      · rintro (w | w)
        · exact z w
        · exact w.1 h0
      · rintro (w | w)
        · exact z w
        · exact h1 w.2
    refine br_f hn ⟨hi, nm_r (e' := L (s * 3 + p)) (by rw [hc]) ?_⟩
    exact br_c (fun h0 => j42 (fun w => w.1 h0)) (fun h0 => br_c (fun h1 => j42 (fun w => w.2 h1)) (fun h1 => ht ⟨p, by omega, Or.inl ⟨h0, h1⟩⟩))
theorem cx_ct {V C F H : Nat} {cc mc ce me rd : Int32} {L xc xm xs : Nat → Int32} {post : Int32 → Prop} {s : Nat} {a : Int32} (hs : s < 8) (ht : ce_cl L s a → post 1) (hf : ¬ ce_cl L s a → post 0) : wpX_isClauseTrue post (nI V, nI C, nI F, nI H, cc, mc, ce, me, rd, L, xc, xm, xs) (nI s) a :=
  nm_r (e' := nI (s * 3)) (pk_mul s 3) ⟨4, cx_ct7 hs ht hf 3 0 rfl (fun q h => absurd h (Nat.not_lt_zero q))⟩
theorem cx_at2 {V C F H : Nat} {cc mc ce me rd : Int32} {L xc xm xs : Nat → Int32} {post : Int32 → Prop} {M : Nat} {a : Int32} (hC : C ≤ 8) (hM : ∀ s, M.testBit s = true → s < C) (ht : ce_all L M a → post 1) (hf : ¬ ce_all L M a → post 0) :
    ∀ d s : Nat, s + d = C → (∀ q, q < s → M.testBit q = true → ce_cl L q a) → wX_areClausesTrue_2 post (nI M) a (nI V) (nI C) (nI F) (nI H) cc mc ce me rd L xc xm xs (d + 1) (nI s) := by
  intro d
  induction d with
  | zero =>
    intro s hs hq
    exact br_t (nI_le (by omega) (by omega)) (ht (fun q hb => hq q (by have := hM q hb; omega) hb))
  | succ d ih =>
    intro s hs hq
    have next : (M.testBit s = true → ce_cl L s a) → wX_areClausesTrue_2 post (nI M) a (nI V) (nI C) (nI F) (nI H) cc mc ce me rd L xc xm xs (d + 1) (nI s + 1) := by
      intro z
      rw [nI_1 s]
      exact ih (s + 1) (by omega) (fun q h hb => by
        by_cases e : q = s
        · subst e; exact z hb
        · exact hq q (by omega) hb)
    refine br_f (nI_ge (by omega) (by omega)) ?_
    refine cx_has (by omega) (fun hb => br_f (by decide) ?_) (fun hb => br_t rfl (nm_e (next (fun z => by rw [hb] at z; cases z))))
    exact cx_ct (by omega) (fun hc => br_f (by decide) (nm_e (next (fun _ => hc)))) (fun hc => br_t rfl (hf (fun w => hc (w s hb))))
theorem cx_at {V C F H : Nat} {cc mc ce me rd : Int32} {L xc xm xs : Nat → Int32} {post : Int32 → Prop} {M : Nat} {a : Int32} (hC : C ≤ 8) (hM : ∀ s, M.testBit s = true → s < C) (ht : ce_all L M a → post 1) (hf : ¬ ce_all L M a → post 0) : wpX_areClausesTrue post (nI V, nI C, nI F, nI H, cc, mc, ce, me, rd, L, xc, xm, xs) (nI M) a :=
  ⟨C + 1, cx_at2 hC hM ht hf C 0 (by omega) (fun q h => absurd h (Nat.not_lt_zero q))⟩
theorem cx_la17 {V C F H : Nat} {cc mc ce me rd : Int32} {L xc xm xs : Nat → Int32} {post : Int32 → Prop} {M N : Nat} (hN : N ≤ 32) (hC : C ≤ 8) (hM : ∀ s, M.testBit s = true → s < C) (hp : ∀ r, ce_least (fun a => ce_all L M (nI a)) N r → post r) :
    ∀ d a : Nat, a + d = N → (∀ b, b < a → ¬ ce_all L M (nI b)) → wX_leastAssignment_17 post (nI M) (nI N) (nI V) (nI C) (nI F) (nI H) cc mc ce me rd L xc xm xs (d + 1) (nI a) := by
  intro d
  induction d with
  | zero =>
    intro a ha hb
    exact br_t (nI_le (by omega) (by omega)) (hp _ (Or.inr ⟨fun b h => hb b (by omega), rfl⟩))
  | succ d ih =>
    intro a ha hb
    refine br_f (nI_ge (by omega) (by omega)) ?_
    refine cx_at hC hM (fun h => br_f (by decide) (hp _ (Or.inl ⟨a, by omega, h, hb, rfl⟩))) (fun h => br_t rfl (nm_r (nI_1 a) ?_))
    exact ih (a + 1) (by omega) (fun b hb' => by
      by_cases e : b = a
      · subst e; exact h
      · exact hb b (by omega))
theorem cx_la {V C F H : Nat} {cc mc ce me rd : Int32} {L xc xm xs : Nat → Int32} {post : Int32 → Prop} {m : Nat} (hV : V ≤ 5) (hC : C ≤ 8) (hM : ∀ s, (m ||| H).testBit s = true → s < C) (hp : ∀ r, ce_least (fun a => ce_all L (m ||| H) (nI a)) (2 ^ V) r → post r) : wpX_leastAssignment post (nI V, nI C, nI F, nI H, cc, mc, ce, me, rd, L, xc, xm, xs) (nI m) :=
  nm_r (e' := nI (m ||| H)) (ce_or m H) (nm_r (e' := nI (2 ^ V)) (ce_sh V hV) ⟨2 ^ V + 1, cx_la17 (ce_v32 hV) hC hM hp (2 ^ V) 0 (Nat.zero_add _) (fun q h => absurd h (Nat.not_lt_zero q))⟩)
theorem cx_sub {V C F H : Nat} {cc mc ce me rd : Int32} {L xc xm xs : Nat → Int32} {post : Int32 → Prop} {x : Int32} (ht : x &&& (nI F ^^^ (-1)) = 0 → post 1) (hf : ¬ x &&& (nI F ^^^ (-1)) = 0 → post 0) : wpX_isSubset post (nI V, nI C, nI F, nI H, cc, mc, ce, me, rd, L, xc, xm, xs) x := by
  unfold wpX_isSubset
  exact br_c (fun z => ⟨rfl, ht z⟩) (fun z => ⟨rfl, hf z⟩)
theorem cx_subN {V C F H : Nat} {cc mc ce me rd : Int32} {L xc xm xs : Nat → Int32} {post : Int32 → Prop} {m : Nat} (hm : m < 256) (ht : ce_sub m F → post 1) (hf : ¬ ce_sub m F → post 0) : wpX_isSubset post (nI V, nI C, nI F, nI H, cc, mc, ce, me, rd, L, xc, xm, xs) (nI m) :=
  cx_sub (fun z => ht ((ce_inN hm).mp z)) (fun z => hf (fun q => z ((ce_inN hm).mpr q)))
