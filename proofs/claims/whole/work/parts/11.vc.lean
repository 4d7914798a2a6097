/-! the owed statements -/
theorem i_vc0 (k0 : Int32) (k1 : Int32) : wpX_init (fun u => wpY_init (fun v => i_Rel 2 u v) k0 k1) k0 k1 := by
  have fin : ∀ x y : Int32, (∃ V, V ≤ 5 ∧ x = nI V) → (∃ C, C ≤ 8 ∧ y = nI C) → i_Rel 2 (x, y, 0, 0, 0, 0, 0, 0, 0, (fun _ => 0), (fun _ => 0), (fun _ => 0), (fun _ => 0)) (x, y, 0, 0, 0, 0, 0, (fun _ => 0), (fun _ => 0), (fun _ => 0), (fun _ => 0), (fun _ => 0), (fun _ => 0)) := by
    rintro x y ⟨V, hV, rfl⟩ ⟨C, hC, rfl⟩
    exact ci_mk (F := 0) (H := 0) hV hC (by decide) (by decide) (fun s _ => Or.inl ⟨rfl, Nat.zero_testBit s, Nat.zero_testBit s⟩) (Or.inl rfl)
  have rg : ∀ (x M : Int32) (n : Nat), M.toInt = n → 1 ≤ x → x ≤ M → ∃ V, V ≤ n ∧ x = nI V := fun x M n hM h1 h2 => nI_of2 hM (Int32.not_lt.mpr (Int32.le_trans (by decide : (0 : Int32) ≤ 1) h1)) h2
  have sec : ∀ z, (∃ V, V ≤ 5 ∧ z = nI V) → (∀ post, wY_init_75 post k1 z 0 0 0 0 0 0 0 (fun _ => 0) (fun _ => 0) (fun _ => 0) (fun _ => 0) (fun _ => 0) (fun _ => 0) → wpY_init post k0 k1) →
      wpX_clamp (fun r_2 => wpY_init (fun v => i_Rel 2 (z, r_2, 0, 0, 0, 0, 0, 0, 0, (fun _ => 0), (fun _ => 0), (fun _ => 0), (fun _ => 0)) v) k0 k1) k1 8 := by
    intro z hz hY
    exact br_c (fun b1 => br_c (fun b2 => hY _ (br_t b1 (br_t b2 (fin _ _ hz (rg k1 8 8 (by decide) b1 b2))))) (fun b2 => hY _ (br_t b1 (br_f b2 (fin _ _ hz ⟨8, by decide, rfl⟩))))) (fun b1 => hY _ (br_f b1 (fin _ _ hz ⟨1, by decide, rfl⟩)))
  unfold wpX_init
  exact br_c (fun a1 => br_c (fun a2 => sec k0 (rg k0 5 5 (by decide) a1 a2) (fun post h => br_t a1 (br_t a2 h))) (fun a2 => sec 5 ⟨5, by decide, rfl⟩ (fun post h => br_t a1 (br_f a2 h)))) (fun a1 => sec 1 ⟨1, by decide, rfl⟩ (fun post h => br_f a1 h))
theorem i_vc_variables {k : Nat} {u : SX} {v : SY} (I : i_Rel k u v) (hk : k + 5 ≤ 2562) : wpX_variables (fun r => wpY_variables (fun r' => r' = r ∧ i_Rel (k + 5) u v) v) u := by
  have J := i_up I
  obtain ⟨V, C, F, H, cc, mc, ce, me, gc, gm, ge, gf, rd, L, xc, xm, xs, U, K, ys, yc, ym, rfl, rfl, hV, hC, hF, hH, hK, hR, _⟩ := I
  exact ⟨rfl, J⟩
theorem i_vc_capacity {k : Nat} {u : SX} {v : SY} (I : i_Rel k u v) (hk : k + 5 ≤ 2562) : wpX_capacity (fun r => wpY_capacity (fun r' => r' = r ∧ i_Rel (k + 5) u v) v) u := by
  have J := i_up I
  obtain ⟨V, C, F, H, cc, mc, ce, me, gc, gm, ge, gf, rd, L, xc, xm, xs, U, K, ys, yc, ym, rfl, rfl, hV, hC, hF, hH, hK, hR, _⟩ := I
  exact ⟨rfl, J⟩
theorem ci_add {k V C F H : Nat} {cc mc ce me gc gm ge gf rd : Int32} {L xc xm xs U K ys yc ym : Nat → Int32} {kd a b c : Int32} (hkd : kd = 0 ∨ kd = 1) (hV : V ≤ 5) (hC : C ≤ 8) (hF : F < 256) (hH : H < 256) (hK : ce_K U K F H C) (J : i_Rel k (nI V, nI C, nI F, nI H, cc, mc, ce, me, rd, L, xc, xm, xs) (nI V, nI C, gc, gm, ge, gf, rd, U, K, L, ys, yc, ym)) {W : (Int32 → SY → Prop) → Prop}
    (hY : ∀ post, wY_addClause_12 post kd a b c (nI V) (nI C) gc gm ge gf rd U K L ys yc ym → W post) :
    wpX_isLiteralOrAbsent (fun r_3 => ((r_3 = 0 → W (fun r' v' => r' = -13 ∧ i_Rel k (nI V, nI C, nI F, nI H, cc, mc, ce, me, rd, L, xc, xm, xs) v')) ∧ (¬ r_3 = 0 → wpX_isLiteralOrAbsent (fun r_18 => ((r_18 = 0 → W (fun r' v' => r' = -13 ∧ i_Rel k (nI V, nI C, nI F, nI H, cc, mc, ce, me, rd, L, xc, xm, xs) v')) ∧ (¬ r_18 = 0 → wpX_isLiteralOrAbsent (fun r_33 => ((r_33 = 0 → W (fun r' v' => r' = -13 ∧ i_Rel k (nI V, nI C, nI F, nI H, cc, mc, ce, me, rd, L, xc, xm, xs) v')) ∧ (¬ r_33 = 0 → wpX_lowestEmptySlot (fun r_48 => ((r_48 < nI C → (∀ x6_63 : Int32, x6_63 = r_48 * 3 → (vp_in x6_63 24 ∧ ∀ L1 : Nat → Int32, L1 = upd L x6_63.toNatClampNeg a → (vp_in (x6_63 + 1) 24 ∧ ∀ L2 : Nat → Int32, L2 = upd L1 (x6_63 + 1).toNatClampNeg b → (vp_in (x6_63 + 2) 24 ∧ ∀ L3 : Nat → Int32, L3 = upd L2 (x6_63 + 2).toNatClampNeg c → (wpX_markKind (fun u => match u with | (V', C', F', H', cc', mc', ce', me', rd', L', xc', xm', xs') => W (fun r' v' => r' = r_48 ∧ i_Rel k (V', C', F', H', cc', mc', ce', me', 0, L', xc', xm', xs') v')) (nI V, nI C, nI F, nI H, cc, mc, ce, me, rd, L3, xc, xm, xs) r_48 kd)))))) ∧ (¬ r_48 < nI C → W (fun r' v' => r' = -11 ∧ i_Rel k (nI V, nI C, nI F, nI H, cc, mc, ce, me, rd, L, xc, xm, xs) v')))) (nI V, nI C, nI F, nI H, cc, mc, ce, me, rd, L, xc, xm, xs)))) (nI V, nI C, nI F, nI H, cc, mc, ce, me, rd, L, xc, xm, xs) c))) (nI V, nI C, nI F, nI H, cc, mc, ce, me, rd, L, xc, xm, xs) b))) (nI V, nI C, nI F, nI H, cc, mc, ce, me, rd, L, xc, xm, xs) a := by
  have bad : ¬ (ce_li V a ∧ ce_li V b ∧ ce_li V c) → W (fun r' v' => r' = -13 ∧ i_Rel k (nI V, nI C, nI F, nI H, cc, mc, ce, me, rd, L, xc, xm, xs) v') := fun h => hY _ (cy_12_f h ⟨rfl, J⟩)
  by_cases g1 : ce_li V a
  · refine cx_li_t g1 (br_f (by decide) ?_)
    by_cases g2 : ce_li V b
    · refine cx_li_t g2 (br_f (by decide) ?_)
      by_cases g3 : ce_li V c
      · refine cx_li_t g3 (br_f (by decide) (cx_les hC (fun s hs hb hq => br_t (nI_lt hs (by omega)) ?_) (fun hq => br_f (nI_nlt (Nat.le_refl _) (by omega)) (hY _ (cy_12_t ⟨g1, g2, g3⟩ ⟨C + 1, cy_71f hC (fun q h => (ce_K_occ hK (by omega)).mp (hq q h)) ⟨rfl, J⟩ C 0 (Nat.zero_add C)⟩)))))
        have e3 : nI s * 3 = nI (s * 3) := pk_mul s 3
        have e31 : nI (s * 3) + 1 = nI (s * 3 + 1) := nI_1 _
        have e32 : nI (s * 3) + 2 = nI (s * 3 + 2) := nI_add (s * 3) 2
        have c3 : (nI (s * 3)).toNatClampNeg = s * 3 := nI_clamp (by omega)
        have c31 : (nI (s * 3) + 1).toNatClampNeg = s * 3 + 1 := by rw [e31]; exact nI_clamp (by omega)
        have c32 : (nI (s * 3) + 2).toNatClampNeg = s * 3 + 2 := by rw [e32]; exact nI_clamp (by omega)
        refine nm_r e3 ⟨vp_in_nI (by omega) (by decide), nm_r (e' := upd L (s * 3) a) (by rw [c3]) ⟨by rw [e31]; exact vp_in_nI (by omega) (by decide), nm_r (e' := upd (upd L (s * 3) a) (s * 3 + 1) b) (by rw [c31]) ⟨by rw [e32]; exact vp_in_nI (by omega) (by decide), nm_r (e' := ce_L3 L s a b c) (by rw [c32]; rfl) ?_⟩⟩⟩
        have hU : U s = 0 := Classical.byContradiction (fun z => by rw [(ce_K_occ hK (by omega)).mpr z] at hb; cases hb)
        have hbf : F.testBit s = false ∧ H.testBit s = false := by
          rw [Nat.testBit_or, Bool.or_eq_false_iff] at hb
          exact hb
        have hqu : ∀ q, q < s → ¬ U q = 0 := fun q h => (ce_K_occ hK (by omega)).mp (hq q h)
        rcases hkd with rfl | rfl
        · refine cx_mk0 (by omega) hbf.1 (hY _ (cy_12_t ⟨g1, g2, g3⟩ ⟨s + 1, cy_71t hC hs hU hqu ⟨rfl, ci_mk hV hC (ce_xl hF (by omega)) hH (ce_K_put (s := s) hK (fun i h => pk_un h) (fun i h => pk_un h) (fun i h => ce_x_ne h) (fun i h => rfl) (Or.inr (Or.inl ⟨hs, by rw [pk_us]; decide, pk_us, ce_x_f hbf.1, hbf.2⟩))) (Or.inl rfl)⟩ s 0 (Nat.zero_add s)⟩))
        · refine cx_mk1 (by omega) hbf.2 (hY _ (cy_12_t ⟨g1, g2, g3⟩ ⟨s + 1, cy_71t hC hs hU hqu ⟨rfl, ci_mk hV hC hF (ce_xl hH (by omega)) (ce_K_put (s := s) hK (fun i h => pk_un h) (fun i h => pk_un h) (fun i h => rfl) (fun i h => ce_x_ne h) (Or.inr (Or.inr ⟨hs, by rw [pk_us]; decide, pk_us, hbf.1, ce_x_f hbf.2⟩))) (Or.inl rfl)⟩ s 0 (Nat.zero_add s)⟩))
      · exact cx_li_f g3 (br_t rfl (bad (fun w => g3 w.2.2)))
    · exact cx_li_f g2 (br_t rfl (bad (fun w => g2 w.2.1)))
  · exact cx_li_f g1 (br_t rfl (bad (fun w => g1 w.1)))
theorem i_vc_addClause {k : Nat} {u : SX} {v : SY} (I : i_Rel k u v) (hk : k + 5 ≤ 2562) (v1 : Int32) (v2 : Int32) (v3 : Int32) (v4 : Int32) : wpX_addClause (fun r u' => wpY_addClause (fun r' v' => r' = r ∧ i_Rel (k + 5) u' v') v v1 v2 v3 v4) u v1 v2 v3 v4 := by
  have J := i_up I
  obtain ⟨V, C, F, H, cc, mc, ce, me, gc, gm, ge, gf, rd, L, xc, xm, xs, U, K, ys, yc, ym, rfl, rfl, hV, hC, hF, hH, hK, hR, _⟩ := I
  unfold wpX_addClause
  refine br_c (fun h0 => br_f (by decide) ?_) (fun h0 => br_c (fun h1 => br_f (by decide) ?_) (fun h1 => br_t rfl (br_f h0 (br_f h1 ⟨rfl, J⟩))))
  · exact ci_add (W := fun post => wpY_addClause post (nI V, nI C, gc, gm, ge, gf, rd, U, K, L, ys, yc, ym) v1 v2 v3 v4) (Or.inl h0) hV hC hF hH hK J (fun post h => br_t h0 h)
  · exact ci_add (W := fun post => wpY_addClause post (nI V, nI C, gc, gm, ge, gf, rd, U, K, L, ys, yc, ym) v1 v2 v3 v4) (Or.inr h1) hV hC hF hH hK J (fun post h => br_f h0 (br_t h1 h))
theorem ce_K_two {U K : Nat → Int32} {F H C s : Nat} (k : ce_K U K F H C) (hs : s < 8) (hb : (F ||| H).testBit s = true) : (¬ U s = 0 ∧ K s = 0 ∧ F.testBit s = true ∧ H.testBit s = false) ∨ (¬ U s = 0 ∧ K s = 1 ∧ F.testBit s = false ∧ H.testBit s = true) := by
  rcases k s hs with ⟨a, _⟩ | ⟨_, q⟩ | ⟨_, q⟩
  · exact absurd a ((ce_K_occ k hs).mp hb)
  · exact Or.inl q
  · exact Or.inr q
theorem i_vc_removeClause {k : Nat} {u : SX} {v : SY} (I : i_Rel k u v) (hk : k + 5 ≤ 2562) (v1 : Int32) : wpX_removeClause (fun r u' => wpY_removeClause (fun r' v' => r' = r ∧ i_Rel (k + 5) u' v') v v1) u v1 := by
  have J := i_up I
  obtain ⟨V, C, F, H, cc, mc, ce, me, gc, gm, ge, gf, rd, L, xc, xm, xs, U, K, ys, yc, ym, rfl, rfl, hV, hC, hF, hH, hK, hR, _⟩ := I
  unfold wpX_removeClause
  by_cases o : ce_occ C F H v1
  · obtain ⟨s, hs, rfl, hb⟩ := o
    have hc : (nI s).toNatClampNeg = s := nI_clamp (by omega)
    have hin : vp_in (nI s) 8 := vp_in_nI (by omega) (by decide)
    refine cx_oc_t hC hs hb (br_f (by decide) ?_)
    rcases ce_K_two hK (by omega) hb with ⟨q1, q2, q3, q4⟩ | ⟨q1, q2, q3, q4⟩
    · refine cx_me0 (by omega) q3 q4 ?_
      dsimp only
      unfold wpY_removeClause
      exact cy_bd_t hK hC hs hb (br_t rfl ⟨hin, nm_r (e' := upd U s 0) (by rw [hc, ce_nb0]) ⟨rfl, ci_mk hV hC (ce_xl hF (by omega)) hH (ce_K_put (s := s) hK (fun i h => pk_un h) (fun i h => rfl) (fun i h => ce_x_ne h) (fun i h => rfl) (Or.inl ⟨pk_us, ce_x_t q3, q4⟩)) (Or.inl rfl)⟩⟩)
    · refine cx_me1 (by omega) q3 q4 ?_
      dsimp only
      unfold wpY_removeClause
      exact cy_bd_t hK hC hs hb (br_t rfl ⟨hin, nm_r (e' := upd U s 0) (by rw [hc, ce_nb0]) ⟨rfl, ci_mk hV hC hF (ce_xl hH (by omega)) (ce_K_put (s := s) hK (fun i h => pk_un h) (fun i h => rfl) (fun i h => rfl) (fun i h => ce_x_ne h) (Or.inl ⟨pk_us, q3, ce_x_t q4⟩)) (Or.inl rfl)⟩⟩)
  · refine cx_oc_f hC o (br_t rfl ?_)
    unfold wpY_removeClause
    exact cy_bd_f hK hC o (br_f (by decide) ⟨rfl, J⟩)
theorem i_vc_setKind {k : Nat} {u : SX} {v : SY} (I : i_Rel k u v) (hk : k + 5 ≤ 2562) (v1 : Int32) (v2 : Int32) : wpX_setKind (fun r u' => wpY_setKind (fun r' v' => r' = r ∧ i_Rel (k + 5) u' v') v v1 v2) u v1 v2 := by
  have J := i_up I
  obtain ⟨V, C, F, H, cc, mc, ce, me, gc, gm, ge, gf, rd, L, xc, xm, xs, U, K, ys, yc, ym, rfl, rfl, hV, hC, hF, hH, hK, hR, _⟩ := I
  unfold wpX_setKind
  by_cases o : ce_occ C F H v1
  · obtain ⟨s, hs, rfl, hb⟩ := o
    have hc : (nI s).toNatClampNeg = s := nI_clamp (by omega)
    have hin : vp_in (nI s) 8 := vp_in_nI (by omega) (by decide)
    refine cx_oc_t hC hs hb (br_f (by decide) ?_)
    have yb : ∀ post : Int32 → SY → Prop, ((v2 = 0 → wY_setKind_23 post (nI s) v2 (nI V) (nI C) gc gm ge gf rd U K L ys yc ym) ∧ (¬ v2 = 0 → ((v2 = 1 → wY_setKind_23 post (nI s) v2 (nI V) (nI C) gc gm ge gf rd U K L ys yc ym) ∧ (¬ v2 = 1 → post (-12) (nI V, nI C, gc, gm, ge, gf, rd, U, K, L, ys, yc, ym))))) → wpY_setKind post (nI V, nI C, gc, gm, ge, gf, rd, U, K, L, ys, yc, ym) (nI s) v2 := by
      intro post h
      unfold wpY_setKind
      exact cy_bd_t hK hC hs hb (br_t rfl h)
    refine br_c (fun h0 => br_f (by decide) (br_t h0 ?_)) (fun h0 => br_c (fun h1 => br_f (by decide) (br_f h0 ?_)) (fun h1 => br_t rfl (yb _ (br_f h0 (br_f h1 ⟨rfl, J⟩)))))
    · subst h0
      rcases ce_K_two hK (by omega) hb with ⟨q1, q2, q3, q4⟩ | ⟨q1, q2, q3, q4⟩
      · exact cx_has (by omega) (fun _ => br_f (by decide) (yb _ (br_t rfl ⟨hin, br_t (by rw [hc]; exact q2) ⟨rfl, J⟩⟩))) (fun z => by rw [q3] at z; cases z)
      · refine cx_has (by omega) (fun z => by rw [q3] at z; cases z) (fun _ => br_t rfl (cx_me1 (by omega) q3 q4 (cx_mk0 (by omega) q3 ?_)))
        exact yb _ (br_t rfl ⟨hin, br_f (by rw [hc, q2]; decide) ⟨hin, nm_r (e' := upd K s 0) (by rw [hc]) ⟨rfl, ci_mk hV hC (ce_xl hF (by omega)) (ce_xl hH (by omega)) (ce_K_put (s := s) hK (fun i h => rfl) (fun i h => pk_un h) (fun i h => ce_x_ne h) (fun i h => ce_x_ne h) (Or.inr (Or.inl ⟨hs, q1, pk_us, ce_x_f q3, ce_x_t q4⟩))) (Or.inl rfl)⟩⟩⟩)
    · subst h1
      rcases ce_K_two hK (by omega) hb with ⟨q1, q2, q3, q4⟩ | ⟨q1, q2, q3, q4⟩
      · refine cx_has (by omega) (fun z => by rw [q4] at z; cases z) (fun _ => br_t rfl (cx_me0 (by omega) q3 q4 (cx_mk1 (by omega) q4 ?_)))
        exact yb _ (br_f (by decide) (br_t rfl ⟨hin, br_f (by rw [hc, q2]; decide) ⟨hin, nm_r (e' := upd K s 1) (by rw [hc]) ⟨rfl, ci_mk hV hC (ce_xl hF (by omega)) (ce_xl hH (by omega)) (ce_K_put (s := s) hK (fun i h => rfl) (fun i h => pk_un h) (fun i h => ce_x_ne h) (fun i h => ce_x_ne h) (Or.inr (Or.inr ⟨hs, q1, pk_us, ce_x_t q3, ce_x_f q4⟩))) (Or.inl rfl)⟩⟩⟩))
      · exact cx_has (by omega) (fun _ => br_f (by decide) (yb _ (br_f (by decide) (br_t rfl ⟨hin, br_t (by rw [hc]; exact q2) ⟨rfl, J⟩⟩)))) (fun z => by rw [q4] at z; cases z)
  · refine cx_oc_f hC o (br_t rfl ?_)
    unfold wpY_setKind
    exact cy_bd_f hK hC o (br_f (by decide) ⟨rfl, J⟩)
theorem i_vc_literal {k : Nat} {u : SX} {v : SY} (I : i_Rel k u v) (hk : k + 5 ≤ 2562) (v1 : Int32) (v2 : Int32) : wpX_literal (fun r => wpY_literal (fun r' => r' = r ∧ i_Rel (k + 5) u v) v v1 v2) u v1 v2 := by
  have J := i_up I
  obtain ⟨V, C, F, H, cc, mc, ce, me, gc, gm, ge, gf, rd, L, xc, xm, xs, U, K, ys, yc, ym, rfl, rfl, hV, hC, hF, hH, hK, hR, _⟩ := I
  unfold wpX_literal
  by_cases o : ce_occ C F H v1
  · obtain ⟨s, hs, rfl, hb⟩ := o
    refine cx_oc_t hC hs hb (br_f (by decide) ?_)
    have yb : ∀ post : Int32 → Prop, ((v2 < 0 → post (-15)) ∧ (¬ v2 < 0 → ((v2 ≤ 2 → (vp_in ((3 * nI s) + v2) 24 ∧ post (L ((3 * nI s) + v2).toNatClampNeg))) ∧ (¬ v2 ≤ 2 → post (-15))))) → wpY_literal post (nI V, nI C, gc, gm, ge, gf, rd, U, K, L, ys, yc, ym) (nI s) v2 := by
      intro post h
      unfold wpY_literal
      exact cy_bd_t hK hC hs hb (br_t rfl h)
    refine br_c (fun z => yb _ (br_t z ⟨rfl, J⟩)) (fun z => ?_)
    obtain ⟨p, hp, rfl⟩ := nI_of z
    have e : nI s * 3 + nI p = nI (s * 3 + p) := by rw [show nI s * 3 = nI (s * 3) from pk_mul s 3, nI_add]
    have e' : 3 * nI s + nI p = nI (s * 3 + p) := by rw [show (3 : Int32) * nI s = nI (3 * s) from pk_mul 3 s, nI_add, Nat.mul_comm]
    by_cases h3 : p < 3
    · refine br_t (nI_lt (b := 3) h3 (by decide)) ⟨by rw [e]; exact vp_in_nI (by omega) (by decide), yb _ (br_f z (br_t (nI_le (b := 2) (by omega) (by decide)) ⟨by rw [e']; exact vp_in_nI (by omega) (by decide), ?_, J⟩))⟩
      rw [e, e']
    · exact br_f (nI_nlt (b := 3) (by omega) hp) (yb _ (br_f z (br_f (nI_ge (a := 2) (by omega) hp) ⟨rfl, J⟩)))
  · refine cx_oc_f hC o (br_t rfl ?_)
    unfold wpY_literal
    exact cy_bd_f hK hC o (br_f (by decide) ⟨rfl, J⟩)
theorem i_vc_slots {k : Nat} {u : SX} {v : SY} (I : i_Rel k u v) (hk : k + 5 ≤ 2562) (v1 : Int32) : wpX_slots (fun r => wpY_slots (fun r' => r' = r ∧ i_Rel (k + 5) u v) v v1) u v1 := by
  have J := i_up I
  obtain ⟨V, C, F, H, cc, mc, ce, me, gc, gm, ge, gf, rd, L, xc, xm, xs, U, K, ys, yc, ym, rfl, rfl, hV, hC, hF, hH, hK, hR, _⟩ := I
  unfold wpX_slots
  refine br_c (fun h0 => br_f (by decide) (br_t h0 ?_)) (fun h0 => br_c (fun h1 => br_f (by decide) (br_f h0 ?_)) (fun h1 => br_t rfl (br_f h0 (br_f h1 ⟨rfl, J⟩))))
  · subst h0
    exact cy_s0 hF hK ⟨rfl, J⟩
  · subst h1
    exact cy_s1 hH hK ⟨rfl, J⟩
theorem i_vc_witness {k : Nat} {u : SX} {v : SY} (I : i_Rel k u v) (hk : k + 5 ≤ 2562) (v1 : Int32) : wpX_witness (fun r => wpY_witness (fun r' => r' = r ∧ i_Rel (k + 5) u v) v v1) u v1 := by
  have J := i_up I
  obtain ⟨V, C, F, H, cc, mc, ce, me, gc, gm, ge, gf, rd, L, xc, xm, xs, U, K, ys, yc, ym, rfl, rfl, hV, hC, hF, hH, hK, hR, _⟩ := I
  unfold wpX_witness
  refine cx_sub (fun z => br_f (by decide) ?_) (fun z => br_t rfl (cy_w hV hK hF hH (fun m hm e hs => absurd (by rw [e]; exact (ce_inN hm).mpr hs) z) (fun _ => ⟨rfl, J⟩)))
  obtain ⟨m, hm, rfl, hs⟩ := ce_small hF z
  refine cx_la hV hC (ce_low (ce_K_F hK hF) (ce_K_H hK hH) hs) (fun r hr => cy_w hV hK hF hH (fun m' hm' e hs' r' hr' => ?_) (fun w => absurd z w))
  have e2 : m = m' := (nI_eq (by omega) (by omega)).mp e
  subst e2
  exact ⟨ce_least_u hr hr', J⟩
theorem i_vc_enumerate {k : Nat} {u : SX} {v : SY} (I : i_Rel k u v) (hk : k + 5 ≤ 2562) : wpX_enumerate (fun r u' => wpY_enumerate (fun r' v' => r' = r ∧ i_Rel (k + 5) u' v') v) u := by
  obtain ⟨V, C, F, H, cc, mc, ce, me, gc, gm, ge, gf, rd, L, xc, xm, xs, U, K, ys, yc, ym, rfl, rfl, hV, hC, hF, hH, hK, hR, _⟩ := I
  exact cx_en hV hC hF (ce_K_F hK hF) (ce_K_H hK hH) (fun c m t A B => cy_en hV hK hF hH (fun t' c' m' A' B' => ⟨rfl, ci_mk hV hC hF hH hK (Or.inr ⟨rfl, 0, 0, rfl, rfl, rfl, rfl, rfl, rfl, rfl, rfl, Nat.zero_le _, Nat.zero_le _, A, A', B, B'⟩)⟩))
theorem i_vc_count {k : Nat} {u : SX} {v : SY} (I : i_Rel k u v) (hk : k + 5 ≤ 2562) (v1 : Int32) : wpX_count (fun r => wpY_count (fun r' => r' = r ∧ i_Rel (k + 5) u v) v v1) u v1 := by
  have J := i_up I
  obtain ⟨V, C, F, H, cc, mc, ce, me, gc, gm, ge, gf, rd, L, xc, xm, xs, U, K, ys, yc, ym, rfl, rfl, hV, hC, hF, hH, hK, hR, _⟩ := I
  unfold wpX_count
  have two : (∀ post : Int32 → Prop, wY_count_13 post v1 (nI V) (nI C) gc gm ge gf rd U K L ys yc ym → wpY_count post (nI V, nI C, gc, gm, ge, gf, rd, U, K, L, ys, yc, ym) v1) → ((rd = 0 → wpY_count (fun r' => r' = -17 ∧ i_Rel (k + 5) (nI V, nI C, nI F, nI H, cc, mc, ce, me, rd, L, xc, xm, xs) (nI V, nI C, gc, gm, ge, gf, rd, U, K, L, ys, yc, ym)) (nI V, nI C, gc, gm, ge, gf, rd, U, K, L, ys, yc, ym) v1) ∧ (¬ rd = 0 → ((v1 = 2 → wpY_count (fun r' => r' = cc ∧ i_Rel (k + 5) (nI V, nI C, nI F, nI H, cc, mc, ce, me, rd, L, xc, xm, xs) (nI V, nI C, gc, gm, ge, gf, rd, U, K, L, ys, yc, ym)) (nI V, nI C, gc, gm, ge, gf, rd, U, K, L, ys, yc, ym) v1) ∧ (¬ v1 = 2 → wpY_count (fun r' => r' = mc ∧ i_Rel (k + 5) (nI V, nI C, nI F, nI H, cc, mc, ce, me, rd, L, xc, xm, xs) (nI V, nI C, gc, gm, ge, gf, rd, U, K, L, ys, yc, ym)) (nI V, nI C, gc, gm, ge, gf, rd, U, K, L, ys, yc, ym) v1)))) := by
    intro hY
    rcases hR with z | ⟨z, e, g, r1, r2, r3, r4, r5, r6, r7, r8, r9, r10, r11, r12, r13, r14⟩
    · exact br_t z (hY _ (br_t z ⟨rfl, J⟩))
    · have nz : ¬ rd = 0 := by rw [z]; decide
      exact br_f nz (br_c (fun h => hY _ (br_f nz (br_t h ⟨by rw [r1, r3], J⟩))) (fun h => hY _ (br_f nz (br_f h ⟨by rw [r2, r4], J⟩))))
  exact br_c (fun h0 => br_f (by decide) (two (fun post h => br_t h0 h))) (fun h0 => br_c (fun h1 => br_f (by decide) (two (fun post h => br_f h0 (br_t h1 h)))) (fun h1 => br_t rfl (br_f h0 (br_f h1 ⟨rfl, J⟩))))
theorem i_vc_emitted {k : Nat} {u : SX} {v : SY} (I : i_Rel k u v) (hk : k + 5 ≤ 2562) (v1 : Int32) : wpX_emitted (fun r => wpY_emitted (fun r' => r' = r ∧ i_Rel (k + 5) u v) v v1) u v1 := by
  have J := i_up I
  obtain ⟨V, C, F, H, cc, mc, ce, me, gc, gm, ge, gf, rd, L, xc, xm, xs, U, K, ys, yc, ym, rfl, rfl, hV, hC, hF, hH, hK, hR, _⟩ := I
  unfold wpX_emitted
  have two : (∀ post : Int32 → Prop, wY_emitted_13 post v1 (nI V) (nI C) gc gm ge gf rd U K L ys yc ym → wpY_emitted post (nI V, nI C, gc, gm, ge, gf, rd, U, K, L, ys, yc, ym) v1) → ((rd = 0 → wpY_emitted (fun r' => r' = -17 ∧ i_Rel (k + 5) (nI V, nI C, nI F, nI H, cc, mc, ce, me, rd, L, xc, xm, xs) (nI V, nI C, gc, gm, ge, gf, rd, U, K, L, ys, yc, ym)) (nI V, nI C, gc, gm, ge, gf, rd, U, K, L, ys, yc, ym) v1) ∧ (¬ rd = 0 → ((v1 = 2 → wpY_emitted (fun r' => r' = ce ∧ i_Rel (k + 5) (nI V, nI C, nI F, nI H, cc, mc, ce, me, rd, L, xc, xm, xs) (nI V, nI C, gc, gm, ge, gf, rd, U, K, L, ys, yc, ym)) (nI V, nI C, gc, gm, ge, gf, rd, U, K, L, ys, yc, ym) v1) ∧ (¬ v1 = 2 → wpY_emitted (fun r' => r' = me ∧ i_Rel (k + 5) (nI V, nI C, nI F, nI H, cc, mc, ce, me, rd, L, xc, xm, xs) (nI V, nI C, gc, gm, ge, gf, rd, U, K, L, ys, yc, ym)) (nI V, nI C, gc, gm, ge, gf, rd, U, K, L, ys, yc, ym) v1)))) := by
    intro hY
    rcases hR with z | ⟨z, e, g, r1, r2, r3, r4, r5, r6, r7, r8, r9, r10, r11, r12, r13, r14⟩
    · exact br_t z (hY _ (br_t z ⟨rfl, J⟩))
    · have nz : ¬ rd = 0 := by rw [z]; decide
      exact br_f nz (br_c (fun h => hY _ (br_f nz (br_t h ⟨by rw [r5, r6], J⟩))) (fun h => hY _ (br_f nz (br_f h ⟨by rw [r7, r8], J⟩))))
  exact br_c (fun h0 => br_f (by decide) (two (fun post h => br_t h0 h))) (fun h0 => br_c (fun h1 => br_f (by decide) (two (fun post h => br_f h0 (br_t h1 h)))) (fun h1 => br_t rfl (br_f h0 (br_f h1 ⟨rfl, J⟩))))
theorem ci_emit {k V C F H : Nat} {cc mc ce me gc gm ge gf rd : Int32} {L xc xm xs U K ys yc ym : Nat → Int32} {v1 : Int32} (hV : V ≤ 5) (hC : C ≤ 8) (hF : F < 256) (hH : H < 256) (hK : ce_K U K F H C) (hR : ce_R V F H L cc mc ce me gc gm ge gf rd xc xm yc ym) (J : i_Rel k (nI V, nI C, nI F, nI H, cc, mc, ce, me, rd, L, xc, xm, xs) (nI V, nI C, gc, gm, ge, gf, rd, U, K, L, ys, yc, ym)) {W : (Int32 → SY → Prop) → Prop}
    (hY : ∀ post, wY_emit_13 post v1 (nI V) (nI C) gc gm ge gf rd U K L ys yc ym → W post) :
    (rd = 0 → W (fun r' v' => r' = -17 ∧ i_Rel k (nI V, nI C, nI F, nI H, cc, mc, ce, me, rd, L, xc, xm, xs) v')) ∧ (¬ rd = 0 → ((v1 = 2 → wpX_nextCore (fun r u => W (fun r' v' => r' = r ∧ i_Rel k u v')) (nI V, nI C, nI F, nI H, cc, mc, ce, me, rd, L, xc, xm, xs)) ∧ (¬ v1 = 2 → wpX_nextMaximal (fun r u => W (fun r' v' => r' = r ∧ i_Rel k u v')) (nI V, nI C, nI F, nI H, cc, mc, ce, me, rd, L, xc, xm, xs)))) := by
  have hR' := hR
  rcases hR with z | ⟨z, e, g, rfl, rfl, rfl, rfl, rfl, rfl, rfl, rfl, r9, r10, r11, r12, r13, r14⟩
  · exact br_t z (hY _ (br_t z ⟨rfl, J⟩))
  · have nz : ¬ rd = 0 := by rw [z]; decide
    have l1 : (ce_CL L V F H).length ≤ 256 := ce_ls_len (ce_core (ce_S L V H) F) (fun k => k) 256
    have l2 : (ce_ML L V F H).length ≤ 256 := ce_ls_len (ce_maxi (ce_S L V H) F) (fun k => 255 - k) 256
    refine br_f nz (br_c (fun h => ?_) (fun h => ?_))
    · by_cases c : e < (ce_CL L V F H).length
      · obtain ⟨m, _, hm, hx⟩ := ce_ar_get r11 c
        have hy := r12 e m hm
        have ee : nI e + 1 - 1 = nI e := by rw [nI_1, nI_pred]
        refine br_t (nI_lt c (by omega)) ⟨vp_in_nI (by omega) (by decide), nm_r (e' := nI m) (by rw [nI_clamp (by omega), hx]) (nm_r (nI_1 e) (hY _ (br_f nz (br_t h (br_t (nI_lt c (by omega)) (nm_e ⟨by rw [ee]; exact vp_in_nI (by omega) (by decide), by rw [ee, nI_clamp (by omega), hy], ?_⟩))))))⟩
        rw [nI_1 e]
        exact ci_mk hV hC hF hH hK (Or.inr ⟨z, e + 1, g, rfl, rfl, rfl, rfl, rfl, rfl, rfl, rfl, c, r10, r11, r12, r13, r14⟩)
      · exact br_f (nI_nlt (by omega) (by omega)) (hY _ (br_f nz (br_t h (br_f (nI_nlt (by omega) (by omega)) ⟨rfl, J⟩))))
    · by_cases c : g < (ce_ML L V F H).length
      · obtain ⟨m, _, hm, hx⟩ := ce_ar_get r13 c
        have hy := r14 g m hm
        have ee : nI g + 1 - 1 = nI g := by rw [nI_1, nI_pred]
        refine br_t (nI_lt c (by omega)) ⟨vp_in_nI (by omega) (by decide), nm_r (e' := nI m) (by rw [nI_clamp (by omega), hx]) (nm_r (nI_1 g) (hY _ (br_f nz (br_f h (br_t (nI_lt c (by omega)) (nm_e ⟨by rw [ee]; exact vp_in_nI (by omega) (by decide), by rw [ee, nI_clamp (by omega), hy], ?_⟩))))))⟩
        rw [nI_1 g]
        exact ci_mk hV hC hF hH hK (Or.inr ⟨z, e, g + 1, rfl, rfl, rfl, rfl, rfl, rfl, rfl, rfl, r9, c, r11, r12, r13, r14⟩)
      · exact br_f (nI_nlt (by omega) (by omega)) (hY _ (br_f nz (br_f h (br_f (nI_nlt (by omega) (by omega)) ⟨rfl, J⟩))))
theorem i_vc_emit {k : Nat} {u : SX} {v : SY} (I : i_Rel k u v) (hk : k + 5 ≤ 2562) (v1 : Int32) : wpX_emit (fun r u' => wpY_emit (fun r' v' => r' = r ∧ i_Rel (k + 5) u' v') v v1) u v1 := by
  have J := i_up I
  obtain ⟨V, C, F, H, cc, mc, ce, me, gc, gm, ge, gf, rd, L, xc, xm, xs, U, K, ys, yc, ym, rfl, rfl, hV, hC, hF, hH, hK, hR, _⟩ := I
  unfold wpX_emit
  refine br_c (fun h0 => br_f (by decide) ?_) (fun h0 => br_c (fun h1 => br_f (by decide) ?_) (fun h1 => br_t rfl (br_f h0 (br_f h1 ⟨rfl, J⟩))))
  · exact ci_emit (W := fun post => wpY_emit post (nI V, nI C, gc, gm, ge, gf, rd, U, K, L, ys, yc, ym) v1) hV hC hF hH hK hR J (fun post h => br_t h0 h)
  · exact ci_emit (W := fun post => wpY_emit post (nI V, nI C, gc, gm, ge, gf, rd, U, K, L, ys, yc, ym) v1) hV hC hF hH hK hR J (fun post h => br_f h0 (br_t h1 h))
theorem i_vc_verdict {k : Nat} {u : SX} {v : SY} (I : i_Rel k u v) (hk : k + 5 ≤ 2562) (v1 : Int32) : wpX_verdict (fun r => wpY_verdict (fun r' => r' = r ∧ i_Rel (k + 5) u v) v v1) u v1 := by
  have J := i_up I
  obtain ⟨V, C, F, H, cc, mc, ce, me, gc, gm, ge, gf, rd, L, xc, xm, xs, U, K, ys, yc, ym, rfl, rfl, hV, hC, hF, hH, hK, hR, _⟩ := I
  rcases hR with z | ⟨z, e, g, rfl, rfl, rfl, rfl, rfl, rfl, rfl, rfl, r9, r10, r11, r12, r13, r14⟩
  · exact br_t z (br_t z ⟨rfl, J⟩)
  · subst z
    have l1 : (ce_CL L V F H).length ≤ 256 := ce_ls_len (ce_core (ce_S L V H) F) (fun k => k) 256
    have l2 : (ce_ML L V F H).length ≤ 256 := ce_ls_len (ce_maxi (ce_S L V H) F) (fun k => 255 - k) 256
    refine br_f (by decide) (cx_sub (fun z => br_f (by decide) ?_) (fun z => br_t rfl (cy_vd hK hF r9 r10 l1 l2 ce_CL_b r12 r14 (fun m hm e hs => absurd (by rw [e]; exact (ce_inN hm).mpr hs) z) (fun _ => ⟨rfl, J⟩))))
    obtain ⟨m, hm, rfl, hs⟩ := ce_small hF z
    refine cx_jd hm r9 r10 l1 l2 ce_CL_b r11 r13 (fun r hr => cy_vd hK hF r9 r10 l1 l2 ce_CL_b r12 r14 (fun m' hm' e hs' r' hr' => ?_) (fun w => absurd z w))
    have e2 : m = m' := (nI_eq (by omega) (by omega)).mp e
    subst e2
    exact ⟨ce_jd_u hr hr', J⟩
theorem i_vc_greatestOpen {k : Nat} {u : SX} {v : SY} (I : i_Rel k u v) (hk : k + 5 ≤ 2562) : wpX_greatestOpen (fun r => wpY_greatestOpen (fun r' => r' = r ∧ i_Rel (k + 5) u v) v) u := by
  have J := i_up I
  obtain ⟨V, C, F, H, cc, mc, ce, me, gc, gm, ge, gf, rd, L, xc, xm, xs, U, K, ys, yc, ym, rfl, rfl, hV, hC, hF, hH, hK, hR, _⟩ := I
  rcases hR with z | ⟨z, e, g, rfl, rfl, rfl, rfl, rfl, rfl, rfl, rfl, r9, r10, r11, r12, r13, r14⟩
  · exact br_t z (br_t z ⟨rfl, J⟩)
  · subst z
    have l1 : (ce_CL L V F H).length ≤ 256 := ce_ls_len (ce_core (ce_S L V H) F) (fun k => k) 256
    have l2 : (ce_ML L V F H).length ≤ 256 := ce_ls_len (ce_maxi (ce_S L V H) F) (fun k => 255 - k) 256
    exact br_f (by decide) (cx_go r9 r10 l1 l2 ce_CL_b r11 r13 (fun r hr => cy_go hK hF r9 r10 l1 l2 ce_CL_b r12 r14 (fun r' hr' => ⟨ce_great_u hr hr', J⟩)))
