/-! the object between the law's calls -/
theorem ce_x_ne {m s i : Nat} (h : i ≠ s) : (m ^^^ 2 ^ s).testBit i = m.testBit i := by
  rw [ce_xt, decide_eq_false (fun e => h e.symm), Bool.xor_false]
theorem ce_x_f {m s : Nat} (h : m.testBit s = false) : (m ^^^ 2 ^ s).testBit s = true := by
  rw [ce_xt, h]; simp
theorem ce_x_t {m s : Nat} (h : m.testBit s = true) : (m ^^^ 2 ^ s).testBit s = false := by
  rw [ce_xt, h]; simp
theorem cx_mk0 {V C F H : Nat} {cc mc ce me rd : Int32} {L xc xm xs : Nat → Int32} {post : St2 → Prop} {s : Nat} (hs : s < 32) (h : F.testBit s = false) (hp : post (nI V, nI C, nI (F ^^^ 2 ^ s), nI H, cc, mc, ce, me, rd, L, xc, xm, xs)) : wpX_markKind post (nI V, nI C, nI F, nI H, cc, mc, ce, me, rd, L, xc, xm, xs) (nI s) 0 :=
  nm_e (br_t rfl (nm_r (ce_add hs h) hp))
theorem cx_mk1 {V C F H : Nat} {cc mc ce me rd : Int32} {L xc xm xs : Nat → Int32} {post : St2 → Prop} {s : Nat} {kd : Int32} (hk : ¬ kd = 0) (hs : s < 32) (h : H.testBit s = false) (hp : post (nI V, nI C, nI F, nI (H ^^^ 2 ^ s), cc, mc, ce, me, rd, L, xc, xm, xs)) : wpX_markKind post (nI V, nI C, nI F, nI H, cc, mc, ce, me, rd, L, xc, xm, xs) (nI s) kd :=
  nm_e (br_f hk (nm_r (ce_add hs h) hp))
theorem cx_me0 {V C F H : Nat} {cc mc ce me rd : Int32} {L xc xm xs : Nat → Int32} {post : St2 → Prop} {s : Nat} (hs : s < 32) (h : F.testBit s = true) (h2 : H.testBit s = false) (hp : post (nI V, nI C, nI (F ^^^ 2 ^ s), nI H, cc, mc, ce, me, rd, L, xc, xm, xs)) : wpX_markEmpty post (nI V, nI C, nI F, nI H, cc, mc, ce, me, rd, L, xc, xm, xs) (nI s) :=
  nm_e (nm_r (ce_del hs h) (nm_r (ce_del0 hs h2) hp))
theorem cx_me1 {V C F H : Nat} {cc mc ce me rd : Int32} {L xc xm xs : Nat → Int32} {post : St2 → Prop} {s : Nat} (hs : s < 32) (h : F.testBit s = false) (h2 : H.testBit s = true) (hp : post (nI V, nI C, nI F, nI (H ^^^ 2 ^ s), cc, mc, ce, me, rd, L, xc, xm, xs)) : wpX_markEmpty post (nI V, nI C, nI F, nI H, cc, mc, ce, me, rd, L, xc, xm, xs) (nI s) :=
  nm_e (nm_r (ce_del0 hs h) (nm_r (ce_del hs h2) hp))
/-- the fixed part: sizes, the two masks -/
def cq_B (V C F H : Nat) : Prop := V ≤ 5 ∧ C ≤ 8 ∧ F < 256 ∧ H < 256 ∧ (∀ s, F.testBit s = true → s < C) ∧ (∀ s, H.testBit s = true → s < C) ∧ (∀ s, F.testBit s = true → H.testBit s = false)
theorem cq_put {V C F H F' H' s : Nat} (b : cq_B V C F H) (hs : s < C) (h1 : F' < 256) (h2 : H' < 256) (hF : ∀ i, i ≠ s → F'.testBit i = F.testBit i) (hH : ∀ i, i ≠ s → H'.testBit i = H.testBit i) (h : F'.testBit s = true → H'.testBit s = false) : cq_B V C F' H' := by
  obtain ⟨b1, b2, b3, b4, b5, b6, b7⟩ := b
  refine ⟨b1, b2, h1, h2, fun i z => ?_, fun i z => ?_, fun i z => ?_⟩
  · by_cases e : i = s
    · subst e; exact hs
    · rw [hF i e] at z; exact b5 i z
  · by_cases e : i = s
    · subst e; exact hs
    · rw [hH i e] at z; exact b6 i z
  · by_cases e : i = s
    · subst e; exact h z
    · rw [hF i e] at z; rw [hH i e]; exact b7 i z
/-- the lists while ready -/
def cq_R (V F H : Nat) (L : Nat → Int32) (cc mc ce me rd : Int32) (xc xm : Nat → Int32) : Prop :=
  rd = 0 ∨ (rd = 1 ∧ ∃ e g : Nat, cc = nI (cp_CL (ce_S L V H) F).length ∧ mc = nI (cp_ML (ce_S L V H) F).length ∧ ce = nI e ∧ me = nI g ∧ e ≤ (cp_CL (ce_S L V H) F).length ∧ g ≤ (cp_ML (ce_S L V H) F).length ∧ ce_ar (cp_CL (ce_S L V H) F) xc ∧ ce_ar (cp_ML (ce_S L V H) F) xm)
def cq_W (u : St2) : Prop := ∃ (V C F H : Nat) (cc mc ce me rd : Int32) (L xc xm xs : Nat → Int32), u = (nI V, nI C, nI F, nI H, cc, mc, ce, me, rd, L, xc, xm, xs) ∧ cq_B V C F H ∧ cq_R V F H L cc mc ce me rd xc xm
theorem cq_mk {V C F H : Nat} {cc mc ce me rd : Int32} {L xc xm xs : Nat → Int32} (b : cq_B V C F H) (r : cq_R V F H L cc mc ce me rd xc xm) : cq_W (nI V, nI C, nI F, nI H, cc, mc, ce, me, rd, L, xc, xm, xs) := ⟨V, C, F, H, cc, mc, ce, me, rd, L, xc, xm, xs, rfl, b, r⟩
theorem cq_li {V C F H : Nat} {cc mc ce me rd : Int32} {L xc xm xs : Nat → Int32} {post : Int32 → Prop} {x : Int32} (h0 : post 0) (h1 : post 1) : wpX_isLiteralOrAbsent post (nI V, nI C, nI F, nI H, cc, mc, ce, me, rd, L, xc, xm, xs) x := br_c (fun _ => h0) (fun _ => br_c (fun _ => h0) (fun _ => h1))
theorem cq_add {u : St2} {post : Int32 → St2 → Prop} {kd a b c : Int32} (w : cq_W u) (hp : ∀ r u', cq_W u' → post r u') : wpX_addClause post u kd a b c := by
  have w' := w
  obtain ⟨V, C, F, H, cc, mc, ce, me, rd, L, xc, xm, xs, rfl, B, R⟩ := w
  obtain ⟨b1, b2, b3, b4, b5, b6, b7⟩ := id B
  unfold wpX_addClause
  have main : wpX_isLiteralOrAbsent (fun r_3 => ((r_3 = 0 → post (-13) (nI V, nI C, nI F, nI H, cc, mc, ce, me, rd, L, xc, xm, xs)) ∧ (¬ r_3 = 0 → wpX_isLiteralOrAbsent (fun r_5 => ((r_5 = 0 → post (-13) (nI V, nI C, nI F, nI H, cc, mc, ce, me, rd, L, xc, xm, xs)) ∧ (¬ r_5 = 0 → wpX_isLiteralOrAbsent (fun r_7 => ((r_7 = 0 → post (-13) (nI V, nI C, nI F, nI H, cc, mc, ce, me, rd, L, xc, xm, xs)) ∧ (¬ r_7 = 0 → wpX_lowestEmptySlot (fun r_9 => ((r_9 < nI C → (∀ x6_63 : Int32, x6_63 = r_9 * 3 → (vp_in x6_63 24 ∧ ∀ L1 : Nat → Int32, L1 = upd L x6_63.toNatClampNeg a → (vp_in (x6_63 + 1) 24 ∧ ∀ L2 : Nat → Int32, L2 = upd L1 (x6_63 + 1).toNatClampNeg b → (vp_in (x6_63 + 2) 24 ∧ ∀ L3 : Nat → Int32, L3 = upd L2 (x6_63 + 2).toNatClampNeg c → (wpX_markKind (fun u => match u with | (V', C', F', H', cc', mc', ce', me', rd', L', xc', xm', xs') => post r_9 (V', C', F', H', cc', mc', ce', me', 0, L', xc', xm', xs')) (nI V, nI C, nI F, nI H, cc, mc, ce, me, rd, L3, xc, xm, xs) r_9 kd)))))) ∧ (¬ r_9 < nI C → post (-11) (nI V, nI C, nI F, nI H, cc, mc, ce, me, rd, L, xc, xm, xs)))) (nI V, nI C, nI F, nI H, cc, mc, ce, me, rd, L, xc, xm, xs)))) (nI V, nI C, nI F, nI H, cc, mc, ce, me, rd, L, xc, xm, xs) c))) (nI V, nI C, nI F, nI H, cc, mc, ce, me, rd, L, xc, xm, xs) b))) (nI V, nI C, nI F, nI H, cc, mc, ce, me, rd, L, xc, xm, xs) a := by
    have bad := hp (-13) _ w'
    refine cq_li (br_t rfl bad) (br_f (by decide) (cq_li (br_t rfl bad) (br_f (by decide) (cq_li (br_t rfl bad) (br_f (by decide) ?_)))))
    refine cx_les b2 (fun s hs hb _ => br_t (nI_lt hs (by omega)) ?_) (fun _ => br_f (nI_nlt (Nat.le_refl _) (by omega)) (hp _ _ w'))
    have e3 : nI s * 3 = nI (s * 3) := pk_mul s 3
    have e31 : nI (s * 3) + 1 = nI (s * 3 + 1) := nI_1 _
    have e32 : nI (s * 3) + 2 = nI (s * 3 + 2) := nI_add (s * 3) 2
    refine nm_r e3 ⟨vp_in_nI (by omega) (by decide), nm_e ⟨by rw [e31]; exact vp_in_nI (by omega) (by decide), nm_e ⟨by rw [e32]; exact vp_in_nI (by omega) (by decide), nm_e ?_⟩⟩⟩
    rw [Nat.testBit_or, Bool.or_eq_false_iff] at hb
    by_cases k0 : kd = 0
    · subst k0
      exact cx_mk0 (by omega) hb.1 (hp _ _ (cq_mk (cq_put B hs (ce_xl b3 (by omega)) b4 (fun i h => ce_x_ne h) (fun i h => rfl) (fun _ => hb.2)) (Or.inl rfl)))
    · exact cx_mk1 k0 (by omega) hb.2 (hp _ _ (cq_mk (cq_put B hs b3 (ce_xl b4 (by omega)) (fun i h => rfl) (fun i h => ce_x_ne h) (fun z => by rw [hb.1] at z; cases z)) (Or.inl rfl)))
  exact br_c (fun _ => br_f (by decide) main) (fun _ => br_c (fun _ => br_f (by decide) main) (fun _ => br_t rfl (hp _ _ w')))
theorem cq_two {V C F H s : Nat} (b : cq_B V C F H) (hb : (F ||| H).testBit s = true) : (F.testBit s = true ∧ H.testBit s = false) ∨ (F.testBit s = false ∧ H.testBit s = true) := by
  rw [Nat.testBit_or] at hb
  obtain ⟨b1, b2, b3, b4, b5, b6, b7⟩ := b
  cases h : F.testBit s
  · rw [h, Bool.false_or] at hb
    exact Or.inr ⟨rfl, hb⟩
  · exact Or.inl ⟨rfl, b7 s h⟩
theorem cq_rem {u : St2} {post : Int32 → St2 → Prop} {x : Int32} (w : cq_W u) (hp : ∀ r u', cq_W u' → post r u') : wpX_removeClause post u x := by
  have w' := w
  obtain ⟨V, C, F, H, cc, mc, ce, me, rd, L, xc, xm, xs, rfl, B, R⟩ := w
  obtain ⟨b1, b2, b3, b4, b5, b6, b7⟩ := id B
  unfold wpX_removeClause
  by_cases o : ce_occ C F H x
  · obtain ⟨s, hs, rfl, hb⟩ := o
    refine cx_oc_t b2 hs hb (br_f (by decide) ?_)
    rcases cq_two B hb with ⟨q3, q4⟩ | ⟨q3, q4⟩
    · exact cx_me0 (by omega) q3 q4 (hp _ _ (cq_mk (cq_put B hs (ce_xl b3 (by omega)) b4 (fun i h => ce_x_ne h) (fun i h => rfl) (fun _ => q4)) (Or.inl rfl)))
    · exact cx_me1 (by omega) q3 q4 (hp _ _ (cq_mk (cq_put B hs b3 (ce_xl b4 (by omega)) (fun i h => rfl) (fun i h => ce_x_ne h) (fun z => by rw [q3] at z; cases z)) (Or.inl rfl)))
  · exact cx_oc_f b2 o (br_t rfl (hp _ _ w'))
theorem cq_set {u : St2} {post : Int32 → St2 → Prop} {x kd : Int32} (w : cq_W u) (hp : ∀ r u', cq_W u' → post r u') : wpX_setKind post u x kd := by
  have w' := w
  obtain ⟨V, C, F, H, cc, mc, ce, me, rd, L, xc, xm, xs, rfl, B, R⟩ := w
  obtain ⟨b1, b2, b3, b4, b5, b6, b7⟩ := id B
  unfold wpX_setKind
  by_cases o : ce_occ C F H x
  · obtain ⟨s, hs, rfl, hb⟩ := o
    refine cx_oc_t b2 hs hb (br_f (by decide) ?_)
    refine br_c (fun h0 => br_f (by decide) (br_t h0 ?_)) (fun h0 => br_c (fun h1 => br_f (by decide) (br_f h0 ?_)) (fun h1 => br_t rfl (hp _ _ w')))
    · subst h0
      refine cx_has (by omega) (fun _ => br_f (by decide) (hp _ _ w')) (fun q3 => br_t rfl ?_)
      rcases cq_two B hb with ⟨q, _⟩ | ⟨_, q4⟩
      · rw [q] at q3; cases q3
      · exact cx_me1 (by omega) q3 q4 (cx_mk0 (by omega) q3 (hp _ _ (cq_mk (cq_put B hs (ce_xl b3 (by omega)) (ce_xl b4 (by omega)) (fun i h => ce_x_ne h) (fun i h => ce_x_ne h) (fun _ => ce_x_t q4)) (Or.inl rfl))))
    · refine cx_has (by omega) (fun _ => br_f (by decide) (hp _ _ w')) (fun q4 => br_t rfl ?_)
      rcases cq_two B hb with ⟨q3, _⟩ | ⟨_, q⟩
      · exact cx_me0 (by omega) q3 q4 (cx_mk1 h0 (by omega) q4 (hp _ _ (cq_mk (cq_put B hs (ce_xl b3 (by omega)) (ce_xl b4 (by omega)) (fun i h => ce_x_ne h) (fun i h => ce_x_ne h) (fun z => by rw [ce_x_t q3] at z; cases z)) (Or.inl rfl))))
      · rw [q] at q4; cases q4
  · exact cx_oc_f b2 o (br_t rfl (hp _ _ w'))
theorem cq_en {u : St2} {post : Int32 → St2 → Prop} (w : cq_W u) (hp : ∀ (V C F H : Nat) (r : Int32) (L xc xm xs : Nat → Int32), cq_B V C F H → ce_ar (cp_CL (ce_S L V H) F) xc → ce_ar (cp_ML (ce_S L V H) F) xm → post r (nI V, nI C, nI F, nI H, nI (cp_CL (ce_S L V H) F).length, nI (cp_ML (ce_S L V H) F).length, 0, 0, 1, L, xc, xm, xs)) : wpX_enumerate post u := by
  obtain ⟨V, C, F, H, cc, mc, ce, me, rd, L, xc, xm, xs, rfl, B, R⟩ := w
  obtain ⟨b1, b2, b3, b4, b5, b6, b7⟩ := id B
  exact cx_en b1 b2 b3 b5 b6 (fun c m t A D => hp V C F H _ L c m t B A D)
theorem cq_em2 {V C F H : Nat} {L xc xm xs : Nat → Int32} {post : Int32 → St2 → Prop} {e g : Nat} (he : e ≤ (cp_CL (ce_S L V H) F).length) (A : ce_ar (cp_CL (ce_S L V H) F) xc)
    (ht : ∀ m, (cp_CL (ce_S L V H) F)[e]? = some m → e < (cp_CL (ce_S L V H) F).length → post (nI m) (nI V, nI C, nI F, nI H, nI (cp_CL (ce_S L V H) F).length, nI (cp_ML (ce_S L V H) F).length, nI (e + 1), nI g, 1, L, xc, xm, xs))
    (hf : e = (cp_CL (ce_S L V H) F).length → post (-19) (nI V, nI C, nI F, nI H, nI (cp_CL (ce_S L V H) F).length, nI (cp_ML (ce_S L V H) F).length, nI e, nI g, 1, L, xc, xm, xs)) :
    wpX_emit post (nI V, nI C, nI F, nI H, nI (cp_CL (ce_S L V H) F).length, nI (cp_ML (ce_S L V H) F).length, nI e, nI g, 1, L, xc, xm, xs) 2 := by
  unfold wpX_emit
  have l1 : (cp_CL (ce_S L V H) F).length ≤ 256 := ce_ls_len _ _ _
  refine br_t rfl (br_f (by decide) (br_f (by decide) (br_t rfl ?_)))
  by_cases c : e < (cp_CL (ce_S L V H) F).length
  · obtain ⟨m, _, hm, hx⟩ := ce_ar_get A c
    exact br_t (nI_lt c (by omega)) ⟨vp_in_nI (by omega) (by decide), nm_r (e' := nI m) (by rw [nI_clamp (by omega), hx]) (nm_r (nI_1 e) (ht m hm c))⟩
  · exact br_f (nI_nlt (by omega) (by omega)) (hf (by omega))
theorem cq_em3 {V C F H : Nat} {L xc xm xs : Nat → Int32} {post : Int32 → St2 → Prop} {e g : Nat} (hg : g ≤ (cp_ML (ce_S L V H) F).length) (A : ce_ar (cp_ML (ce_S L V H) F) xm)
    (ht : ∀ m, (cp_ML (ce_S L V H) F)[g]? = some m → g < (cp_ML (ce_S L V H) F).length → post (nI m) (nI V, nI C, nI F, nI H, nI (cp_CL (ce_S L V H) F).length, nI (cp_ML (ce_S L V H) F).length, nI e, nI (g + 1), 1, L, xc, xm, xs))
    (hf : g = (cp_ML (ce_S L V H) F).length → post (-19) (nI V, nI C, nI F, nI H, nI (cp_CL (ce_S L V H) F).length, nI (cp_ML (ce_S L V H) F).length, nI e, nI g, 1, L, xc, xm, xs)) :
    wpX_emit post (nI V, nI C, nI F, nI H, nI (cp_CL (ce_S L V H) F).length, nI (cp_ML (ce_S L V H) F).length, nI e, nI g, 1, L, xc, xm, xs) 3 := by
  unfold wpX_emit
  have l1 : (cp_ML (ce_S L V H) F).length ≤ 256 := ce_ls_len _ _ _
  refine br_f (by decide) (br_t rfl (br_f (by decide) (br_f (by decide) (br_f (by decide) ?_))))
  by_cases c : g < (cp_ML (ce_S L V H) F).length
  · obtain ⟨m, _, hm, hx⟩ := ce_ar_get A c
    exact br_t (nI_lt c (by omega)) ⟨vp_in_nI (by omega) (by decide), nm_r (e' := nI m) (by rw [nI_clamp (by omega), hx]) (nm_r (nI_1 g) (ht m hm c))⟩
  · exact br_f (nI_nlt (by omega) (by omega)) (hf (by omega))
theorem cq_emit {u : St2} {post : Int32 → St2 → Prop} {x : Int32} (hx : x = 2 ∨ x = 3) (w : cq_W u) (hp : ∀ r u', cq_W u' → post r u') : wpX_emit post u x := by
  have w' := w
  obtain ⟨V, C, F, H, cc, mc, ce, me, rd, L, xc, xm, xs, rfl, B, R⟩ := w
  rcases R with z | ⟨z, e, g, rfl, rfl, rfl, rfl, r1, r2, r3, r4⟩
  · unfold wpX_emit
    rcases hx with rfl | rfl
    · exact br_t rfl (br_f (by decide) (br_t z (hp _ _ w')))
    · exact br_f (by decide) (br_t rfl (br_f (by decide) (br_t z (hp _ _ w'))))
  · subst z
    rcases hx with rfl | rfl
    · exact cq_em2 r1 r3 (fun m _ c => hp _ _ (cq_mk B (Or.inr ⟨rfl, e + 1, g, rfl, rfl, rfl, rfl, c, r2, r3, r4⟩))) (fun _ => hp _ _ w')
    · exact cq_em3 r2 r4 (fun m _ c => hp _ _ (cq_mk B (Or.inr ⟨rfl, e, g + 1, rfl, rfl, rfl, rfl, r1, c, r3, r4⟩))) (fun _ => hp _ _ w')
theorem cq_wi {V C F H : Nat} {cc mc ce me rd : Int32} {L xc xm xs : Nat → Int32} {post : Int32 → Prop} {m : Nat} (B : cq_B V C F H) (hm : m < 256) (hs : ce_sub m F) (hp : ∀ r, (r = -19 ↔ ¬ ce_S L V H m) → post r) : wpX_witness post (nI V, nI C, nI F, nI H, cc, mc, ce, me, rd, L, xc, xm, xs) (nI m) := by
  obtain ⟨b1, b2, b3, b4, b5, b6, b7⟩ := id B
  unfold wpX_witness
  exact cx_subN hm (fun _ => br_f (by decide) (cx_la b1 b2 (ce_low b5 b6 hs) (fun r hr => hp r (ce_least_s (by have := ce_v32 b1; omega) hr)))) (fun z => absurd hs z)
theorem cq_co2 {V C F H : Nat} {cc mc ce me : Int32} {L xc xm xs : Nat → Int32} {post : Int32 → Prop} (hp : post cc) : wpX_count post (nI V, nI C, nI F, nI H, cc, mc, ce, me, 1, L, xc, xm, xs) 2 := by
  unfold wpX_count
  exact br_t rfl (br_f (by decide) (br_f (by decide) (br_t rfl hp)))
theorem cq_co3 {V C F H : Nat} {cc mc ce me : Int32} {L xc xm xs : Nat → Int32} {post : Int32 → Prop} (hp : post mc) : wpX_count post (nI V, nI C, nI F, nI H, cc, mc, ce, me, 1, L, xc, xm, xs) 3 := by
  unfold wpX_count
  exact br_f (by decide) (br_t rfl (br_f (by decide) (br_f (by decide) (br_f (by decide) hp))))
theorem cq_ed2 {V C F H : Nat} {cc mc ce me : Int32} {L xc xm xs : Nat → Int32} {post : Int32 → Prop} (hp : post ce) : wpX_emitted post (nI V, nI C, nI F, nI H, cc, mc, ce, me, 1, L, xc, xm, xs) 2 := by
  unfold wpX_emitted
  exact br_t rfl (br_f (by decide) (br_f (by decide) (br_t rfl hp)))
theorem cq_ed3 {V C F H : Nat} {cc mc ce me : Int32} {L xc xm xs : Nat → Int32} {post : Int32 → Prop} (hp : post me) : wpX_emitted post (nI V, nI C, nI F, nI H, cc, mc, ce, me, 1, L, xc, xm, xs) 3 := by
  unfold wpX_emitted
  exact br_f (by decide) (br_t rfl (br_f (by decide) (br_f (by decide) (br_f (by decide) hp))))
theorem cq_sl {V C F H : Nat} {cc mc ce me rd : Int32} {L xc xm xs : Nat → Int32} {post : Int32 → Prop} (hp : post (nI F)) : wpX_slots post (nI V, nI C, nI F, nI H, cc, mc, ce, me, rd, L, xc, xm, xs) 0 := by
  unfold wpX_slots
  exact br_t rfl (br_f (by decide) (br_t rfl hp))
theorem cq_CLb {S : Nat → Prop} {F : Nat} : ∀ x, x ∈ cp_CL S F → x < 256 := by
  intro x hx
  obtain ⟨k, hk⟩ := List.getElem?_of_mem hx
  exact (cp_CLm hk).1
theorem cq_vd {V C F H : Nat} {cc mc : Int32} {L xc xm xs : Nat → Int32} {post : Int32 → Prop} {e g m : Nat} (B : cq_B V C F H) (hm : m < 256) (hs : ce_sub m F) (he : e ≤ (cp_CL (ce_S L V H) F).length) (hg : g ≤ (cp_ML (ce_S L V H) F).length) (A : ce_ar (cp_CL (ce_S L V H) F) xc) (D : ce_ar (cp_ML (ce_S L V H) F) xm)
    (hp : ∀ r, (r = 1 → ce_S L V H m) → (r = 2 → ¬ ce_S L V H m) → post r) : wpX_verdict post (nI V, nI C, nI F, nI H, cc, mc, nI e, nI g, 1, L, xc, xm, xs) (nI m) := by
  refine br_f (by decide) (cx_subN hm (fun _ => br_f (by decide) (cx_jd hm he hg (ce_ls_len _ _ _) (ce_ls_len _ _ _) cq_CLb A D (fun r hr => hp r ?_ ?_))) (fun z => absurd hs z))
  · intro e1
    rcases hr with ⟨_, h⟩ | ⟨h2, _⟩ | ⟨h2, _⟩
    · exact cp_v1 ce_S_sub h
    · rw [e1] at h2; exact absurd h2 (by decide)
    · rw [e1] at h2; exact absurd h2 (by decide)
  · intro e1
    rcases hr with ⟨h2, _⟩ | ⟨_, _, h⟩ | ⟨h2, _⟩
    · rw [e1] at h2; exact absurd h2 (by decide)
    · exact cp_v2 ce_S_sub h
    · rw [e1] at h2; exact absurd h2 (by decide)
theorem cq_go {V C F H : Nat} {cc mc : Int32} {L xc xm xs : Nat → Int32} {post : Int32 → Prop} {e g : Nat} (B : cq_B V C F H) (he : e ≤ (cp_CL (ce_S L V H) F).length) (hg : g ≤ (cp_ML (ce_S L V H) F).length) (A : ce_ar (cp_CL (ce_S L V H) F) xc) (D : ce_ar (cp_ML (ce_S L V H) F) xm)
    (hp : ∀ r, (r = -19 ↔ e = (cp_CL (ce_S L V H) F).length ∧ g = (cp_ML (ce_S L V H) F).length) → post r) : wpX_greatestOpen post (nI V, nI C, nI F, nI H, cc, mc, nI e, nI g, 1, L, xc, xm, xs) := by
  obtain ⟨b1, b2, b3, b4, b5, b6, b7⟩ := id B
  exact br_f (by decide) (cx_go he hg (ce_ls_len _ _ _) (ce_ls_len _ _ _) cq_CLb A D (fun r hr => hp r (cp_all ce_S_sub b3 he hg hr)))
