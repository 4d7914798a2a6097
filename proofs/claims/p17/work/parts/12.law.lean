/-! the law's loops, the owed statement -/
theorem cl_K {l : List Nat} {W W' : Nat → Bool} {e m : Nat} (h : ∀ j, j < 256 → (W j = true ↔ ∃ k, k < e ∧ l[k]? = some j)) (hm : l[e]? = some m) (h' : ∀ j, j < 256 → W' j = (W j || decide (j = m))) : ∀ j, j < 256 → (W' j = true ↔ ∃ k, k < e + 1 ∧ l[k]? = some j) := by
  intro j hj
  rw [h' j hj, Bool.or_eq_true, h j hj, decide_eq_true_iff]
  constructor
  · rintro (⟨k, hk, e1⟩ | e1)
    · exact ⟨k, by omega, e1⟩
    · exact ⟨e, by omega, by rw [hm, e1]⟩
  · rintro ⟨k, hk, e1⟩
    by_cases z : k = e
    · subst z
      rw [hm] at e1
      exact Or.inr (Option.some.inj e1).symm
    · exact Or.inl ⟨k, by omega, e1⟩
theorem cl_Kc {S : Nat → Prop} {F : Nat} {W : Nat → Bool} (h : ∀ j, j < 256 → (W j = true ↔ ∃ k, k < (cp_CL S F).length ∧ (cp_CL S F)[k]? = some j)) : ∀ j, j < 256 → (W j = true ↔ ce_core S F j) := by
  intro j hj
  rw [h j hj]
  constructor
  · rintro ⟨k, hk, e⟩
    exact (cp_CLm e).2
  · exact fun z => cp_CLi hj z
theorem cl_Km {S : Nat → Prop} {F : Nat} {W : Nat → Bool} (h : ∀ j, j < 256 → (W j = true ↔ ∃ k, k < (cp_ML S F).length ∧ (cp_ML S F)[k]? = some j)) : ∀ j, j < 256 → (W j = true ↔ ce_maxi S F j) := by
  intro j hj
  rw [h j hj]
  constructor
  · rintro ⟨k, hk, e⟩
    exact (cp_MLm e).2
  · exact fun z => cp_MLi hj z
theorem cl_478 {post : Int32 → Prop} {N : Nat} {sc : Nat → Int32} {J42 : Int32 → Int32 → Int32 → Int32 → Int32 → Int32 → Int32 → Int32 → Int32 → Int32 → Int32 → (Nat → Int32) → (Nat → Int32) → (Nat → Int32) → (Nat → Int32) → Prop} {x1 x2 x5 : Int32} {x9 x11 x13 x15 : Int64} {kc ks Q : Nat} {V C F H : Nat} {L xc xm xs : Nat → Int32}
    (hN : N ≤ 260) (hQ : Q < 2 ^ 31) (B : cq_B V C F H) (A : ce_ar (cp_CL (ce_S L V H) F) xc) (D : ce_ar (cp_ML (ce_S L V H) F) xm)
    (hW : ∀ j, j < 256 → (cw_in x9 x11 x13 x15 j = true ↔ ce_sub j F ∧ ce_S L V H j))
    (hJ : ∀ q e g, q ≤ Q → e ≤ (cp_CL (ce_S L V H) F).length → g ≤ (cp_ML (ce_S L V H) F).length → J42 (nI q) (x5 + 1) (nI V) (nI C) (nI F) (nI H) (nI (cp_CL (ce_S L V H) F).length) (nI (cp_ML (ce_S L V H) F).length) (nI e) (nI g) 1 L xc xm xs) :
    ∀ (d q e g a b : Nat) (lk lx : Int32) (k0 k1 k2 k3 m0 m1 m2 m3 : Int64), e + g + a + b + d = (cp_CL (ce_S L V H) F).length + (cp_ML (ce_S L V H) F).length + 2 → a ≤ 1 → b ≤ 1 → (a = 1 → e = (cp_CL (ce_S L V H) F).length) → (b = 1 → g = (cp_ML (ce_S L V H) F).length) →
      e ≤ (cp_CL (ce_S L V H) F).length → g ≤ (cp_ML (ce_S L V H) F).length → q + d ≤ Q → (∀ m, (cp_CL (ce_S L V H) F)[e]? = some m → lk < nI m) → (∀ m, (cp_ML (ce_S L V H) F)[g]? = some m → nI m < lx) →
      (∀ j, j < 256 → (cw_in k0 k1 k2 k3 j = true ↔ ∃ k, k < e ∧ (cp_CL (ce_S L V H) F)[k]? = some j)) → (∀ j, j < 256 → (cw_in m0 m1 m2 m3 j = true ↔ ∃ k, k < g ∧ (cp_ML (ce_S L V H) F)[k]? = some j)) →
      wL_law_478 post N sc J42 x1 x2 x5 (nI F) x9 x11 x13 x15 kc ks (d + 1) (nI q) k0 k1 k2 k3 m0 m1 m2 m3 lk lx (nI e) (nI g) (nI a) (nI b) (nI (e + g + a + b)) (nI V) (nI C) (nI F) (nI H) (nI (cp_CL (ce_S L V H) F).length) (nI (cp_ML (ce_S L V H) F).length) (nI e) (nI g) 1 L xc xm xs := by
  have l1 : (cp_CL (ce_S L V H) F).length ≤ 256 := ce_ls_len _ _ _
  have l2 : (cp_ML (ce_S L V H) F).length ≤ 256 := ce_ls_len _ _ _
  have hF : F < 256 := B.2.2.1
  intro d
  induction d with
  | zero =>
    intro q e g a b lk lx k0 k1 k2 k3 m0 m1 m2 m3 hd ha hb hae hbg he hg hq hlk hlx hK hX
    have a1 : a = 1 := by omega
    have b1 : b = 1 := by omega
    have ee := hae a1
    have gg := hbg b1
    have na : ¬ nI a = 0 := nI_ne0 (by omega) (by omega)
    have nb : ¬ nI b = 0 := nI_ne0 (by omega) (by omega)
    refine cl_hd B he hg A D hW (by omega) (br_f na (br_f nb ?_))
    have hJ' := hJ q e g (by omega) he hg
    rw [ee, gg] at hJ' ⊢
    rw [ee] at hK
    rw [gg] at hX
    exact cl_849 ce_S_sub hF hW (cl_Kc hK) (cl_Km hX) hJ'
  | succ d ih =>
    intro q e g a b lk lx k0 k1 k2 k3 m0 m1 m2 m3 hd ha hb hae hbg he hg hq hlk hlx hK hX
    have core : a = 0 → wL_law_665 post N sc J42 (wL_law_478 post N sc J42 x1 x2 x5 (nI F) x9 x11 x13 x15 kc ks (d + 1)) x1 x2 (nI q) x5 (nI F) x9 x11 x13 x15 k0 k1 k2 k3 m0 m1 m2 m3 lk lx (nI e) (nI g) (nI a) (nI b) (nI (e + g + a + b)) 1 kc ks (nI V) (nI C) (nI F) (nI H) (nI (cp_CL (ce_S L V H) F).length) (nI (cp_ML (ce_S L V H) F).length) (nI e) (nI g) 1 L xc xm xs := by
      intro a0
      unfold wL_law_665
      refine nm_r (nI_1 q) (br_f (by decide) (cl_682c he A hlk (fun m hm c w0 w1 w2 w3 h => ?_) (fun c => ?_)))
      · have z := ih (q + 1) (e + 1) g a b (nI m) lx w0 w1 w2 w3 m0 m1 m2 m3 (by omega) ha hb (fun w => absurd w (by omega)) hbg (by omega) hg (by omega) (fun m' hm' => nI_lt (cp_at (cp_CLs _ _) (Nat.lt_succ_self e) hm hm') (by have := (cp_CLm hm').1; omega)) hlx (cl_K hK hm h) hX
        rw [show e + 1 + g + a + b = e + g + a + b + 1 by omega] at z
        exact z
      · have z := ih (q + 1) e g 1 b lk lx k0 k1 k2 k3 m0 m1 m2 m3 (by omega) (by omega) hb (fun _ => c) hbg he hg (by omega) hlk hlx hK hX
        rw [show e + g + 1 + b = e + g + a + b + 1 by omega] at z
        exact z
    have maxi : b = 0 → wL_law_665 post N sc J42 (wL_law_478 post N sc J42 x1 x2 x5 (nI F) x9 x11 x13 x15 kc ks (d + 1)) x1 x2 (nI q) x5 (nI F) x9 x11 x13 x15 k0 k1 k2 k3 m0 m1 m2 m3 lk lx (nI e) (nI g) (nI a) (nI b) (nI (e + g + a + b)) 0 kc ks (nI V) (nI C) (nI F) (nI H) (nI (cp_CL (ce_S L V H) F).length) (nI (cp_ML (ce_S L V H) F).length) (nI e) (nI g) 1 L xc xm xs := by
      intro b0
      unfold wL_law_665
      refine nm_r (nI_1 q) (br_t rfl (cl_682m hg D hlx (fun m hm c w0 w1 w2 w3 h => ?_) (fun c => ?_)))
      · have z := ih (q + 1) e (g + 1) a b lk (nI m) k0 k1 k2 k3 w0 w1 w2 w3 (by omega) ha hb hae (fun w => absurd w (by omega)) he (by omega) (by omega) hlk (fun m' hm' => nI_lt (cp_at (cp_MLs _ _) (Nat.lt_succ_self g) hm hm') (by have := (cp_MLm hm).1; omega)) hK (cl_K hX hm h)
        rw [show e + (g + 1) + a + b = e + g + a + b + 1 by omega] at z
        exact z
      · have z := ih (q + 1) e g a 1 lk lx k0 k1 k2 k3 m0 m1 m2 m3 (by omega) ha (by omega) hae (fun _ => c) he hg (by omega) hlk hlx hK hX
        rw [show e + g + a + 1 = e + g + a + b + 1 by omega] at z
        exact z
    have h638 : (a = 0 ∨ b = 0) → wL_law_638 post N sc J42 (wL_law_478 post N sc J42 x1 x2 x5 (nI F) x9 x11 x13 x15 kc ks (d + 1)) x1 x2 (nI q) x5 (nI F) x9 x11 x13 x15 k0 k1 k2 k3 m0 m1 m2 m3 lk lx (nI e) (nI g) (nI a) (nI b) (nI (e + g + a + b)) kc ks (nI V) (nI C) (nI F) (nI H) (nI (cp_CL (ce_S L V H) F).length) (nI (cp_ML (ce_S L V H) F).length) (nI e) (nI g) 1 L xc xm xs := by
      intro hab
      unfold wL_law_638 wL_law_660 wL_law_664
      refine pk_eq b 0 (fun hb0 => pk_eq a 0 (fun ha0 => ?_) (fun ha0 => maxi hb0)) (fun hb0 => core (by omega))
      exact cl_cell q rfl hN (by omega) (fun r => cl_ra (by decide) (fun r' => br_c (fun _ => core ha0) (fun _ => maxi hb0)))
    refine cl_hd B he hg A D hW (by omega) ?_
    exact pk_eq a 0 (fun ha0 => h638 (Or.inl ha0)) (fun ha0 => pk_eq b 0 (fun hb0 => h638 (Or.inr hb0)) (fun hb0 => absurd hd (by have := hae (by omega); have := hbg (by omega); omega)))
theorem cl_352 {post : Int32 → Prop} {N : Nat} {sc : Nat → Int32} {J42 : Int32 → Int32 → Int32 → Int32 → Int32 → Int32 → Int32 → Int32 → Int32 → Int32 → Int32 → (Nat → Int32) → (Nat → Int32) → (Nat → Int32) → (Nat → Int32) → Prop} {x1 x2 x3 x5 : Int32} {kc ks : Nat} {V C F H : Nat} {cc mc ce me rd : Int32} {L xc xm xs : Nat → Int32}
    (B : cq_B V C F H) (hend : ∀ x9 x11 x13 x15 : Int64, (∀ j, j < 256 → (cw_in x9 x11 x13 x15 j = true ↔ ce_sub j F ∧ ce_S L V H j)) → ∃ fu, wL_law_478 post N sc J42 x1 x2 x5 (nI F) x9 x11 x13 x15 kc ks fu x3 0 0 0 0 0 0 0 0 (-1) 256 0 0 0 0 0 (nI V) (nI C) (nI F) (nI H) cc mc ce me rd L xc xm xs) :
    ∀ (d i : Nat) (x9 x11 x13 x15 : Int64), i + d = 256 → (∀ j, j < 256 → (cw_in x9 x11 x13 x15 j = true ↔ j < i ∧ ce_sub j F ∧ ce_S L V H j)) → wL_law_352 post N sc J42 x1 x2 x3 x5 (nI F) kc ks (nI V) (nI C) (nI F) (nI H) cc mc ce me rd L xc xm xs (d + 1) x9 x11 x13 x15 (nI i) := by
  intro d
  induction d with
  | zero =>
    intro i x9 x11 x13 x15 hi hW
    refine br_t (nI_le (a := 256) (by omega) (by omega)) (hend x9 x11 x13 x15 (fun j hj => ?_))
    rw [hW j hj]
    exact ⟨fun z => z.2, fun z => ⟨by omega, z⟩⟩
  | succ d ih =>
    intro i x9 x11 x13 x15 hi hW
    have h8 : i < 256 := by omega
    have skip : ¬ (ce_sub i F ∧ ce_S L V H i) → wL_law_352 post N sc J42 x1 x2 x3 x5 (nI F) kc ks (nI V) (nI C) (nI F) (nI H) cc mc ce me rd L xc xm xs (d + 1) x9 x11 x13 x15 (nI i + 1) := by
      intro z
      rw [nI_1 i]
      refine ih (i + 1) x9 x11 x13 x15 (by omega) (fun j hj => ?_)
      rw [hW j hj]
      constructor
      · exact fun w => ⟨by omega, w.2⟩
      · intro w
        refine ⟨?_, w.2⟩
        by_cases e : j = i
        · subst e; exact absurd w.2 z
        · omega
    refine br_f (nI_ge (b := 256) h8 (by decide)) (br_c (fun z => ?_) (fun z => nm_e (skip (fun w => z ((ce_inN h8).mpr w.1)))))
    have hs := (ce_inN h8).mp z
    refine cq_wi B h8 hs (fun r hr => br_c (fun y => nm_e (skip (fun w => hr.mp y w.2))) (fun y => cw_put4 h8 (fun a b c d' h => nm_r (nI_1 i) (ih (i + 1) a b c d' (by omega) (fun j hj => ?_)))))
    rw [h j hj, Bool.or_eq_true, hW j hj, decide_eq_true_iff]
    constructor
    · rintro (w | w)
      · exact ⟨by omega, w.2⟩
      · subst w
        exact ⟨by omega, hs, Classical.byContradiction (fun q => y (hr.mpr q))⟩
    · intro w
      by_cases e : j = i
      · exact Or.inr e
      · exact Or.inl ⟨by omega, w.2⟩
theorem cl_m256 : ∀ F, F < 256 → nI F &&& (-256) = 0 := by decide +kernel
theorem cl_281 {post : Int32 → Prop} {N : Nat} {sc : Nat → Int32} {J42 : Int32 → Int32 → Int32 → Int32 → Int32 → Int32 → Int32 → Int32 → Int32 → Int32 → Int32 → (Nat → Int32) → (Nat → Int32) → (Nat → Int32) → (Nat → Int32) → Prop} {x1 x2 x5 : Int32} {kc ks q E : Nat} (hN : N ≤ 260) (hq : q + 600 < 2 ^ 31) (hE : E < 6)
    (hJ : ∀ q' (f1 f2 f3 f4 f5 f6 f7 f8 f9 : Int32) (a1 a2 a3 a4 : Nat → Int32), q' ≤ q + 600 → cq_W (f1, f2, f3, f4, f5, f6, f7, f8, f9, a1, a2, a3, a4) → J42 (nI q') (x5 + 1) f1 f2 f3 f4 f5 f6 f7 f8 f9 a1 a2 a3 a4) :
    ∀ (d i : Nat) (f1 f2 f3 f4 f5 f6 f7 f8 f9 : Int32) (a1 a2 a3 a4 : Nat → Int32), i + d = E → cq_W (f1, f2, f3, f4, f5, f6, f7, f8, f9, a1, a2, a3, a4) → wL_law_281 post N sc J42 x1 x2 (nI q) x5 (nI E) kc ks (d + 1) (nI i) f1 f2 f3 f4 f5 f6 f7 f8 f9 a1 a2 a3 a4 := by
  intro d
  induction d with
  | zero =>
    intro i f1 f2 f3 f4 f5 f6 f7 f8 f9 a1 a2 a3 a4 hi w
    refine br_t (nI_le (by omega) (by omega)) (cq_en w (fun V C F H r L xc xm xs B A D => ?_))
    have l1 : (cp_CL (ce_S L V H) F).length ≤ 256 := ce_ls_len _ _ _
    have l2 : (cp_ML (ce_S L V H) F).length ≤ 256 := ce_ls_len _ _ _
    refine cq_sl (br_t (cl_m256 F B.2.2.1) ⟨257, cl_352 B (fun x9 x11 x13 x15 hW => ?_) 256 0 0 0 0 0 rfl (fun j _ => by rw [cw_0]; exact ⟨fun z => (nomatch z), fun z => absurd z.1 (Nat.not_lt_zero j)⟩)⟩)
    have z := cl_478 (x1 := x1) (x2 := x2) (x5 := x5) (kc := kc) (ks := ks) (Q := q + 600) (post := post) (sc := sc) (J42 := J42) (xs := xs) (C := C) hN hq B A D hW
      (fun q' e g h1 h2 h3 => hJ q' _ _ _ _ _ _ _ _ _ _ _ _ _ h1 (cq_mk B (Or.inr ⟨rfl, e, g, rfl, rfl, rfl, rfl, h2, h3, A, D⟩)))
      ((cp_CL (ce_S L V H) F).length + (cp_ML (ce_S L V H) F).length + 2) q 0 0 0 0 (-1) 256 0 0 0 0 0 0 0 0 (by omega) (by omega) (by omega) (fun h => absurd h (by omega)) (fun h => absurd h (by omega)) (Nat.zero_le _) (Nat.zero_le _) (by omega)
      (fun m hm => Int32.lt_of_lt_of_le (by decide : (-1 : Int32) < 0) (nI_pos' (by have := (cp_CLm hm).1; omega))) (fun m hm => nI_lt (b := 256) (cp_MLm hm).1 (by decide))
      (fun j _ => by rw [cw_0]; exact ⟨fun z => (nomatch z), fun ⟨k, hk, _⟩ => absurd hk (Nat.not_lt_zero k)⟩) (fun j _ => by rw [cw_0]; exact ⟨fun z => (nomatch z), fun ⟨k, hk, _⟩ => absurd hk (Nat.not_lt_zero k)⟩)
    exact ⟨_, z⟩
  | succ d ih =>
    intro i f1 f2 f3 f4 f5 f6 f7 f8 f9 a1 a2 a3 a4 hi w
    have em : ∀ x : Int32, (x = 2 ∨ x = 3) → wL_law_302 post N sc J42 (wL_law_281 post N sc J42 x1 x2 (nI q) x5 (nI E) kc ks (d + 1)) x1 x2 (nI q) x5 (nI E) (nI i) x kc ks f1 f2 f3 f4 f5 f6 f7 f8 f9 a1 a2 a3 a4 := by
      intro x hx
      unfold wL_law_302
      refine cq_emit hx w (fun r u' w' => ?_)
      obtain ⟨g1, g2, g3, g4, g5, g6, g7, g8, g9, b1, b2, b3, b4⟩ := u'
      exact nm_r (nI_1 i) (ih (i + 1) g1 g2 g3 g4 g5 g6 g7 g8 g9 b1 b2 b3 b4 (by omega) w')
    exact br_f (nI_ge (by omega) (by omega)) ⟨by decide, br_c (fun _ => em 2 (Or.inl rfl)) (fun _ => em 3 (Or.inr rfl))⟩
theorem cl_75 {post : Int32 → Prop} {N : Nat} {sc : Nat → Int32} {J42 : Int32 → Int32 → Int32 → Int32 → Int32 → Int32 → Int32 → Int32 → Int32 → Int32 → Int32 → (Nat → Int32) → (Nat → Int32) → (Nat → Int32) → (Nat → Int32) → Prop} {x1 x2 x5 : Int32} {kc ks E Q : Nat} (hN : N ≤ 260) (hQ : Q < 100000) (hE : E ≤ 12) (hx1 : ¬ 2 * x1 + 1 = 0 ∧ ¬ 4 * x1 + 2 = 0 ∧ ¬ 8 * x1 + 4 = 0) (hx2 : ¬ x2 = 0)
    (hJ : ∀ q' (f1 f2 f3 f4 f5 f6 f7 f8 f9 : Int32) (a1 a2 a3 a4 : Nat → Int32), q' ≤ Q + 601 → cq_W (f1, f2, f3, f4, f5, f6, f7, f8, f9, a1, a2, a3, a4) → J42 (nI q') (x5 + 1) f1 f2 f3 f4 f5 f6 f7 f8 f9 a1 a2 a3 a4) :
    ∀ (d i q : Nat) (f1 f2 f3 f4 f5 f6 f7 f8 f9 : Int32) (a1 a2 a3 a4 : Nat → Int32), i + d = E → q + 4 * d ≤ Q → cq_W (f1, f2, f3, f4, f5, f6, f7, f8, f9, a1, a2, a3, a4) → wL_law_75 post N sc J42 x1 x2 x5 (nI E) kc ks (d + 1) (nI q) (nI i) f1 f2 f3 f4 f5 f6 f7 f8 f9 a1 a2 a3 a4 := by
  intro d
  induction d with
  | zero =>
    intro i q f1 f2 f3 f4 f5 f6 f7 f8 f9 a1 a2 a3 a4 hi hq w
    have go : ∀ (k : Nat), k < 6 → ∀ (f1 f2 f3 f4 f5 f6 f7 f8 f9 : Int32) (a1 a2 a3 a4 : Nat → Int32), cq_W (f1, f2, f3, f4, f5, f6, f7, f8, f9, a1, a2, a3, a4) → ∃ fu, wL_law_281 post N sc J42 x1 x2 (nI (q + 1)) x5 (nI k) kc ks fu 0 f1 f2 f3 f4 f5 f6 f7 f8 f9 a1 a2 a3 a4 :=
      fun k hk f1 f2 f3 f4 f5 f6 f7 f8 f9 a1 a2 a3 a4 w => ⟨k + 1, cl_281 hN (by omega) hk (fun q' f1 f2 f3 f4 f5 f6 f7 f8 f9 a1 a2 a3 a4 h w => hJ q' f1 f2 f3 f4 f5 f6 f7 f8 f9 a1 a2 a3 a4 (by omega) w) k 0 f1 f2 f3 f4 f5 f6 f7 f8 f9 a1 a2 a3 a4 (Nat.zero_add k) w⟩
    refine br_t (nI_le (by omega) (by omega)) (nm_r (nI_1 q) (cl_cell q rfl hN (by omega) (fun r => cl_r (n := 6) (by decide) (by decide) (fun k hk => br_c (fun _ => go k hk _ _ _ _ _ _ _ _ _ _ _ _ _ w) (fun _ => cq_en w (fun V C F H r L xc xm xs B A D => ?_))))))
    exact go k hk _ _ _ _ _ _ _ _ _ _ _ _ _ (cq_mk B (Or.inr ⟨rfl, 0, 0, rfl, rfl, rfl, rfl, Nat.zero_le _, Nat.zero_le _, A, D⟩))
  | succ d ih =>
    intro i q f1 f2 f3 f4 f5 f6 f7 f8 f9 a1 a2 a3 a4 hi hq w
    have nx : ∀ (u' : St2), cq_W u' → match u' with | (g1, g2, g3, g4, g5, g6, g7, g8, g9, b1, b2, b3, b4) => wL_law_75 post N sc J42 x1 x2 x5 (nI E) kc ks (d + 1) (nI (q + 4)) (nI (i + 1)) g1 g2 g3 g4 g5 g6 g7 g8 g9 b1 b2 b3 b4 := by
      intro u' w'
      obtain ⟨g1, g2, g3, g4, g5, g6, g7, g8, g9, b1, b2, b3, b4⟩ := u'
      exact ih (i + 1) (q + 4) g1 g2 g3 g4 g5 g6 g7 g8 g9 b1 b2 b3 b4 (by omega) (by omega) w'
    have h170 : ∀ x9 : Int32, wL_law_170 post N sc J42 (wL_law_75 post N sc J42 x1 x2 x5 (nI E) kc ks (d + 1)) x1 x2 (nI (q + 4)) x5 (nI E) (nI i) x9 kc ks f1 f2 f3 f4 f5 f6 f7 f8 f9 a1 a2 a3 a4 := by
      intro x9
      unfold wL_law_170
      refine cl_ra hx2 (fun r => cq_rem w (fun r' u' w' => ?_))
      have z := nx u' w'
      obtain ⟨g1, g2, g3, g4, g5, g6, g7, g8, g9, b1, b2, b3, b4⟩ := u'
      exact nm_r (nI_1 i) z
    have h199 : ∀ (x9 x10 x11 z0 : Int32), wL_law_199 post N sc J42 (wL_law_75 post N sc J42 x1 x2 x5 (nI E) kc ks (d + 1)) x1 x2 (nI (q + 4)) x5 (nI E) (nI i) x9 x10 x11 z0 kc ks f1 f2 f3 f4 f5 f6 f7 f8 f9 a1 a2 a3 a4 := by
      intro x9 x10 x11 z0
      unfold wL_law_199
      refine cl_lit hx1.1 (fun r1 => cl_lit hx1.2.1 (fun r2 => cl_lit hx1.2.2 (fun r3 => cq_add w (fun r' u' w' => ?_))))
      have z := nx u' w'
      obtain ⟨g1, g2, g3, g4, g5, g6, g7, g8, g9, b1, b2, b3, b4⟩ := u'
      exact nm_r (nI_1 i) z
    have h185 : ∀ (x8 x9 x10 x11 : Int32), wL_law_185 post N sc J42 (wL_law_75 post N sc J42 x1 x2 x5 (nI E) kc ks (d + 1)) x1 x2 (nI (q + 4)) x5 (nI E) (nI i) x8 x9 x10 x11 kc ks f1 f2 f3 f4 f5 f6 f7 f8 f9 a1 a2 a3 a4 := by
      intro x8 x9 x10 x11
      unfold wL_law_185
      exact br_c (fun _ => h199 x9 x10 x11 1) (fun _ => h199 x9 x10 x11 0)
    refine br_f (nI_ge (by omega) (by omega)) (cl_cell q rfl hN (by omega) (fun r213 => cl_ra (by decide) (fun r214 => cl_cell (q + 1) (nI_1 q) hN (by omega) (fun r215 => cl_cell (q + 2) (nI_add q 2) hN (by omega) (fun r216 => cl_cell (q + 3) (nI_add q 3) hN (by omega) (fun r217 => nm_r (nI_add q 4) (br_c (fun _ => br_c (fun _ => h170 r215) (fun _ => br_c (fun _ => h185 r214 r215 r216 r217) (fun _ => br_c (fun _ => h185 r214 r215 r216 r217) (fun _ => h170 r215)))) (fun _ => ?_))))))))
    refine cl_ra hx2 (fun r1 => cl_ra (by decide) (fun r2 => cq_set w (fun r' u' w' => ?_)))
    have z := nx u' w'
    obtain ⟨g1, g2, g3, g4, g5, g6, g7, g8, g9, b1, b2, b3, b4⟩ := u'
    exact nm_r (nI_1 i) z
theorem cl_42 {N : Nat} {sc : Nat → Int32} {x1 x2 : Int32} {kc ks : Nat} (hN : N ≤ 260) (hx1 : ¬ 2 * x1 + 1 = 0 ∧ ¬ 4 * x1 + 2 = 0 ∧ ¬ 8 * x1 + 4 = 0) (hx2 : ¬ x2 = 0) :
    ∀ (d i q : Nat) (f1 f2 f3 f4 f5 f6 f7 f8 f9 : Int32) (a1 a2 a3 a4 : Nat → Int32), i + d = 4 → q ≤ 2 + 700 * i → cq_W (f1, f2, f3, f4, f5, f6, f7, f8, f9, a1, a2, a3, a4) → wL_law_42 (fun r => r = 1) N sc x1 x2 kc ks (d + 1) (nI q) (nI i) f1 f2 f3 f4 f5 f6 f7 f8 f9 a1 a2 a3 a4 := by
  intro d
  induction d with
  | zero =>
    intro i q f1 f2 f3 f4 f5 f6 f7 f8 f9 a1 a2 a3 a4 hi hq w
    exact br_f (nI_ne0 (by omega) (by omega)) (br_t (nI_le (a := 4) (by omega) (by omega)) rfl)
  | succ d ih =>
    intro i q f1 f2 f3 f4 f5 f6 f7 f8 f9 a1 a2 a3 a4 hi hq w
    have hJ : ∀ q' (f1 f2 f3 f4 f5 f6 f7 f8 f9 : Int32) (a1 a2 a3 a4 : Nat → Int32), q' ≤ q + 700 → cq_W (f1, f2, f3, f4, f5, f6, f7, f8, f9, a1, a2, a3, a4) → wL_law_42 (fun r => r = 1) N sc x1 x2 kc ks (d + 1) (nI q') (nI i + 1) f1 f2 f3 f4 f5 f6 f7 f8 f9 a1 a2 a3 a4 := by
      intro q' f1 f2 f3 f4 f5 f6 f7 f8 f9 a1 a2 a3 a4 h w
      rw [nI_1 i]
      exact ih (i + 1) q' f1 f2 f3 f4 f5 f6 f7 f8 f9 a1 a2 a3 a4 (by omega) (by omega) w
    have h59 : wL_law_59 (fun r => r = 1) N sc (wL_law_42 (fun r => r = 1) N sc x1 x2 kc ks (d + 1)) x1 x2 (nI q) (nI i) kc ks f1 f2 f3 f4 f5 f6 f7 f8 f9 a1 a2 a3 a4 := by
      unfold wL_law_59
      refine br_c (fun _ => ⟨13, ?_⟩) (fun _ => ⟨6, ?_⟩)
      · exact cl_75 (E := 12) (Q := q + 48) hN (by omega) (by omega) hx1 hx2 (fun q' f1 f2 f3 f4 f5 f6 f7 f8 f9 a1 a2 a3 a4 h w => hJ q' f1 f2 f3 f4 f5 f6 f7 f8 f9 a1 a2 a3 a4 (by omega) w) 12 0 q _ _ _ _ _ _ _ _ _ _ _ _ _ rfl (by omega) w
      · exact cl_75 (E := 5) (Q := q + 48) hN (by omega) (by omega) hx1 hx2 (fun q' f1 f2 f3 f4 f5 f6 f7 f8 f9 a1 a2 a3 a4 h w => hJ q' f1 f2 f3 f4 f5 f6 f7 f8 f9 a1 a2 a3 a4 (by omega) w) 5 0 q _ _ _ _ _ _ _ _ _ _ _ _ _ rfl (by omega) w
    exact br_c (fun _ => h59) (fun _ => br_c (fun _ => rfl) (fun _ => br_c (fun _ => rfl) (fun _ => h59)))
theorem cl_v5 : ∀ k, k < 5 → ¬ (2 : Int32) * (1 + nI k) + 1 = 0 ∧ ¬ (4 : Int32) * (1 + nI k) + 2 = 0 ∧ ¬ (8 : Int32) * (1 + nI k) + 4 = 0 := by decide +kernel
theorem cl_v6 : ∀ k, k < 6 → ¬ (8 : Int32) - nI k = 0 := by decide +kernel
theorem cl_cl {post : Int32 → Prop} {x M : Int32} {n : Nat} (hM : M = nI n) (hn : 1 ≤ n) (h31 : n < 2 ^ 31) (hp : ∀ k, k ≤ n → post (nI k)) : wpX_clamp post () x M := by
  subst hM
  refine br_c (fun h => br_c (fun h2 => ?_) (fun _ => hp n (Nat.le_refl n))) (fun _ => hp 1 hn)
  obtain ⟨k, hk, rfl⟩ := nI_of2 (nI_toInt h31) (Int32.not_lt.mpr (Int32.le_trans (by decide : (0 : Int32) ≤ 1) h)) h2
  exact hp k hk
theorem i_vc (xs : Nat → Int32) (L : Nat) (hL : L ≤ 260) : wpL_law (fun r => r = 1) L xs := by
  unfold wpL_law
  refine cl_cell 0 rfl hL (by decide) (fun r1 => cl_r (n := 5) (by decide) (by decide) (fun k hk => nm_e (cl_cell 1 rfl hL (by decide) (fun r4 => cl_r (n := 6) (by decide) (by decide) (fun j hj => nm_e ⟨4, 792, by decide, by decide, ?_⟩)))))
  refine ⟨by decide, by decide, by decide, by decide, by decide, by decide, by decide, by decide, cl_cl (n := 5) rfl (by decide) (by decide) (fun V hV => cl_cl (n := 8) rfl (by decide) (by decide) (fun C hC => ⟨5, ?_⟩))⟩
  refine cl_42 hL (cl_v5 k hk) (cl_v6 j hj) 4 0 2 _ _ _ _ _ _ _ _ _ _ _ _ _ rfl (by omega) ?_
  exact cq_mk (F := 0) (H := 0) ⟨hV, hC, by decide, by decide, (fun s h => by rw [Nat.zero_testBit] at h; cases h), (fun s h => by rw [Nat.zero_testBit] at h; cases h), (fun s h => by rw [Nat.zero_testBit] at h; cases h)⟩ (Or.inl rfl)
