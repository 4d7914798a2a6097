/-! the law's helpers; the checks at the end of a round; one step of emission -/
theorem cl_cell {post : Int32 → Prop} {N : Nat} {sc : Nat → Int32} {x : Int32} (q : Nat) (hx : x = nI q) (hN : N ≤ 260) (hq : q < 2 ^ 31) (hp : ∀ r, post r) : wpL_cell post N sc () x := by
  subst hx
  exact br_c (fun _ => hp _) (fun z => ⟨vp_in_nI (Nat.not_le.mp (fun h => z (nI_le h hq))) (by omega), hp _⟩)
theorem cl_ra {post : Int32 → Prop} {x n : Int32} (h : ¬ n = 0) (hp : ∀ r, post r) : wpL_r post () x n := ⟨h, hp _⟩
theorem cl_r {post : Int32 → Prop} {x : Int32} {n : Nat} (h0 : 0 < n) (hn : n < 2 ^ 31) (hp : ∀ k, k < n → post (nI k)) : wpL_r post () x (nI n) := by
  obtain ⟨j, hj, e⟩ := pk_andE x (m := 2147483647) 31 (by decide)
  refine ⟨nI_ne0 h0 hn, ?_⟩
  rw [e, pk_rem hj h0 hn]
  exact hp _ (Nat.mod_lt _ h0)
theorem cl_lit {post : Int32 → Prop} {x v n : Int32} (h : ¬ n = 0) (hp : ∀ r, post r) : wpL_lit post () x v n := by
  unfold wpL_lit
  exact cl_ra h (fun r => br_c (fun _ => hp _) (fun _ => hp _))
noncomputable def cw_v (P : Prop) : Int32 := if ce_b P = true then 1 else 0
theorem cw_vt {P : Prop} (h : P) : cw_v P = 1 := by unfold cw_v; rw [if_pos (ce_bt h)]
theorem cw_vf {P : Prop} (h : ¬ P) : cw_v P = 0 := by unfold cw_v; rw [ce_bf h, if_neg (by decide)]
theorem cw_ve {post : Int32 → Prop} {P : Prop} (hp : post (cw_v P)) : (P → post 1) ∧ (¬ P → post 0) := ⟨fun h => by rw [cw_vt h] at hp; exact hp, fun h => by rw [cw_vf h] at hp; exact hp⟩
theorem cw_inv {post : Int32 → Prop} {a b c d : Int64} {m : Nat} {P : Prop} (hm : m < 256) (h : cw_in a b c d m = true ↔ P) (hp : post (cw_v P)) : wpL_in post () a b c d (nI m) :=
  cw_wpin hm (fun z => (cw_ve hp).1 (h.mp z)) (fun z => (cw_ve hp).2 (fun w => by rw [h.mpr w] at z; cases z))
theorem cw_corev {post : Int32 → Prop} {a b c d : Int64} {m : Nat} {P : Prop} (hm : m < 256) (h : cw_C (cw_in a b c d) m ↔ P) (hp : post (cw_v P)) : wpL_core post () a b c d (nI m) :=
  cw_core hm (fun z => (cw_ve hp).1 (h.mp z)) (fun z => (cw_ve hp).2 (fun w => z (h.mpr w)))
theorem cw_maxv {post : Int32 → Prop} {a b c d : Int64} {F m : Nat} {P : Prop} (hm : m < 256) (hF : F < 256) (h : cw_M (cw_in a b c d) F m ↔ P) (hp : post (cw_v P)) : wpL_maximal post () a b c d (nI F) (nI m) :=
  cw_maxi hm hF (fun z => (cw_ve hp).1 (h.mp z)) (fun z => (cw_ve hp).2 (fun w => z (h.mpr w)))
theorem cw_mhv {post : Int32 → Prop} {a b c d : Int64} {F m : Nat} {P : Prop} (hm : m < 256) (hs : ce_sub m F) (h : cw_N (cw_in a b c d) m ↔ P) (hp : post (cw_v P)) : wpL_minimalHit post () a b c d (nI F) (nI m) :=
  cw_mh hm hs (fun z => (cw_ve hp).1 (h.mp z)) (fun z => (cw_ve hp).2 (fun w => z (h.mpr w)))
theorem cl_876 {post : Int32 → Prop} {N : Nat} {sc : Nat → Int32} {J42 : Int32 → Int32 → Int32 → Int32 → Int32 → Int32 → Int32 → Int32 → Int32 → Int32 → Int32 → (Nat → Int32) → (Nat → Int32) → (Nat → Int32) → (Nat → Int32) → Prop} {x1 x2 x3 x5 : Int32} {x9 x11 x13 x15 x17 x19 x21 x23 x25 x27 x29 x31 : Int64} {kc ks : Nat} {V C F H : Nat} {cc mc ce me rd : Int32} {L xc xm xs : Nat → Int32} {S : Nat → Prop}
    (hS : ∀ a b, ce_sub a b → S b → S a) (hF : F < 256) (hW : ∀ j, j < 256 → (cw_in x9 x11 x13 x15 j = true ↔ ce_sub j F ∧ S j)) (hK : ∀ j, j < 256 → (cw_in x17 x19 x21 x23 j = true ↔ ce_core S F j)) (hX : ∀ j, j < 256 → (cw_in x25 x27 x29 x31 j = true ↔ ce_maxi S F j))
    (hJ : J42 x3 (x5 + 1) (nI V) (nI C) (nI F) (nI H) cc mc ce me rd L xc xm xs) : ∀ d i : Nat, i + d = 256 → wL_law_876 post N sc J42 x1 x2 x3 x5 (nI F) x9 x11 x13 x15 x17 x19 x21 x23 x25 x27 x29 x31 kc ks (nI V) (nI C) (nI F) (nI H) cc mc ce me rd L xc xm xs (d + 1) (nI i) := by
  intro d
  induction d with
  | zero =>
    intro i hi
    exact br_t (nI_le (a := 256) (by omega) (by omega)) (nm_e hJ)
  | succ d ih =>
    intro i hi
    have h8 : i < 256 := by omega
    have next := ih (i + 1) (by omega)
    refine br_f (nI_ge (b := 256) h8 (by decide)) (br_c (fun z => ?_) (fun z => nm_r (nI_1 i) next))
    have hs := (ce_inN h8).mp z
    exact cw_inv h8 (hK i h8) (cw_inv h8 (hX i h8) (cw_corev h8 (cw_C_i hW h8 hs) (br_t rfl (cw_maxv h8 hF (cw_M_i hF hW h8 hs) (br_t rfl (cw_mhv h8 hs (cw_N_i hS hF hX h8 hs) (br_t rfl (nm_r (nI_1 i) next))))))))
theorem cl_849 {post : Int32 → Prop} {N : Nat} {sc : Nat → Int32} {J42 : Int32 → Int32 → Int32 → Int32 → Int32 → Int32 → Int32 → Int32 → Int32 → Int32 → Int32 → (Nat → Int32) → (Nat → Int32) → (Nat → Int32) → (Nat → Int32) → Prop} {x1 x2 x3 x5 : Int32} {x9 x11 x13 x15 x17 x19 x21 x23 x25 x27 x29 x31 : Int64} {kc ks : Nat} {V C F H : Nat} {cc mc ce me : Int32} {L xc xm xs : Nat → Int32} {S : Nat → Prop}
    (hS : ∀ a b, ce_sub a b → S b → S a) (hF : F < 256) (hW : ∀ j, j < 256 → (cw_in x9 x11 x13 x15 j = true ↔ ce_sub j F ∧ S j)) (hK : ∀ j, j < 256 → (cw_in x17 x19 x21 x23 j = true ↔ ce_core S F j)) (hX : ∀ j, j < 256 → (cw_in x25 x27 x29 x31 j = true ↔ ce_maxi S F j))
    (hJ : J42 x3 (x5 + 1) (nI V) (nI C) (nI F) (nI H) cc mc ce me 1 L xc xm xs) : wL_law_849 post N sc J42 x1 x2 x3 x5 (nI F) x9 x11 x13 x15 x17 x19 x21 x23 x25 x27 x29 x31 cc mc kc ks (nI V) (nI C) (nI F) (nI H) cc mc ce me 1 L xc xm xs := by
  unfold wL_law_849
  exact cq_co2 (br_t rfl (cq_co3 (br_t rfl ⟨257, cl_876 hS hF hW hK hX hJ 256 0 rfl⟩)))
theorem cl_682c {post : Int32 → Prop} {N : Nat} {sc : Nat → Int32} {J42 : Int32 → Int32 → Int32 → Int32 → Int32 → Int32 → Int32 → Int32 → Int32 → Int32 → Int32 → (Nat → Int32) → (Nat → Int32) → (Nat → Int32) → (Nat → Int32) → Prop} {J478 : Int32 → Int64 → Int64 → Int64 → Int64 → Int64 → Int64 → Int64 → Int64 → Int32 → Int32 → Int32 → Int32 → Int32 → Int32 → Int32 → Int32 → Int32 → Int32 → Int32 → Int32 → Int32 → Int32 → Int32 → Int32 → (Nat → Int32) → (Nat → Int32) → (Nat → Int32) → (Nat → Int32) → Prop} {x1 x2 x3 x5 : Int32} {x9 x11 x13 x15 x17 x19 x21 x23 x25 x27 x29 x31 : Int64} {x33 x34 x36 x37 x38 : Int32} {kc ks e g t : Nat} {V C F H : Nat} {L xc xm xs : Nat → Int32}
    (he : e ≤ (cp_CL (ce_S L V H) F).length) (A : ce_ar (cp_CL (ce_S L V H) F) xc) (hlk : ∀ m, (cp_CL (ce_S L V H) F)[e]? = some m → x33 < nI m)
    (ht : ∀ m, (cp_CL (ce_S L V H) F)[e]? = some m → e < (cp_CL (ce_S L V H) F).length → ∀ a b c d, (∀ j, j < 256 → cw_in a b c d j = (cw_in x17 x19 x21 x23 j || decide (j = m))) → J478 x3 a b c d x25 x27 x29 x31 (nI m) x34 (nI (e + 1)) x36 x37 x38 (nI (t + 1)) (nI V) (nI C) (nI F) (nI H) (nI (cp_CL (ce_S L V H) F).length) (nI (cp_ML (ce_S L V H) F).length) (nI (e + 1)) (nI g) 1 L xc xm xs)
    (hf : e = (cp_CL (ce_S L V H) F).length → J478 x3 x17 x19 x21 x23 x25 x27 x29 x31 x33 x34 (nI e) x36 1 x38 (nI (t + 1)) (nI V) (nI C) (nI F) (nI H) (nI (cp_CL (ce_S L V H) F).length) (nI (cp_ML (ce_S L V H) F).length) (nI e) (nI g) 1 L xc xm xs) :
    wL_law_682 post N sc J42 J478 x1 x2 x3 x5 (nI F) x9 x11 x13 x15 x17 x19 x21 x23 x25 x27 x29 x31 x33 x34 (nI e) x36 x37 x38 (nI t) 1 2 kc ks (nI V) (nI C) (nI F) (nI H) (nI (cp_CL (ce_S L V H) F).length) (nI (cp_ML (ce_S L V H) F).length) (nI e) (nI g) 1 L xc xm xs := by
  unfold wL_law_682
  refine cq_em2 he A (fun m hm c => ?_) (fun c => br_t rfl (br_f (by decide) (nm_r (nI_1 t) (hf c))))
  obtain ⟨h8, hc⟩ := cp_CLm hm
  exact br_f (ce_n19 (by omega)) (br_t ((ce_inN h8).mpr hc.1) (br_f (by decide) (br_t (hlk m hm) (nm_r (nI_1 e) (cw_put4 h8 (fun a b c' d h => nm_r (nI_1 t) (ht m hm c a b c' d h)))))))
theorem cl_682m {post : Int32 → Prop} {N : Nat} {sc : Nat → Int32} {J42 : Int32 → Int32 → Int32 → Int32 → Int32 → Int32 → Int32 → Int32 → Int32 → Int32 → Int32 → (Nat → Int32) → (Nat → Int32) → (Nat → Int32) → (Nat → Int32) → Prop} {J478 : Int32 → Int64 → Int64 → Int64 → Int64 → Int64 → Int64 → Int64 → Int64 → Int32 → Int32 → Int32 → Int32 → Int32 → Int32 → Int32 → Int32 → Int32 → Int32 → Int32 → Int32 → Int32 → Int32 → Int32 → Int32 → (Nat → Int32) → (Nat → Int32) → (Nat → Int32) → (Nat → Int32) → Prop} {x1 x2 x3 x5 : Int32} {x9 x11 x13 x15 x17 x19 x21 x23 x25 x27 x29 x31 : Int64} {x33 x34 x35 x37 x38 : Int32} {kc ks e g t : Nat} {V C F H : Nat} {L xc xm xs : Nat → Int32}
    (hg : g ≤ (cp_ML (ce_S L V H) F).length) (D : ce_ar (cp_ML (ce_S L V H) F) xm) (hlx : ∀ m, (cp_ML (ce_S L V H) F)[g]? = some m → nI m < x34)
    (ht : ∀ m, (cp_ML (ce_S L V H) F)[g]? = some m → g < (cp_ML (ce_S L V H) F).length → ∀ a b c d, (∀ j, j < 256 → cw_in a b c d j = (cw_in x25 x27 x29 x31 j || decide (j = m))) → J478 x3 x17 x19 x21 x23 a b c d x33 (nI m) x35 (nI (g + 1)) x37 x38 (nI (t + 1)) (nI V) (nI C) (nI F) (nI H) (nI (cp_CL (ce_S L V H) F).length) (nI (cp_ML (ce_S L V H) F).length) (nI e) (nI (g + 1)) 1 L xc xm xs)
    (hf : g = (cp_ML (ce_S L V H) F).length → J478 x3 x17 x19 x21 x23 x25 x27 x29 x31 x33 x34 x35 (nI g) x37 1 (nI (t + 1)) (nI V) (nI C) (nI F) (nI H) (nI (cp_CL (ce_S L V H) F).length) (nI (cp_ML (ce_S L V H) F).length) (nI e) (nI g) 1 L xc xm xs) :
    wL_law_682 post N sc J42 J478 x1 x2 x3 x5 (nI F) x9 x11 x13 x15 x17 x19 x21 x23 x25 x27 x29 x31 x33 x34 x35 (nI g) x37 x38 (nI t) 0 3 kc ks (nI V) (nI C) (nI F) (nI H) (nI (cp_CL (ce_S L V H) F).length) (nI (cp_ML (ce_S L V H) F).length) (nI e) (nI g) 1 L xc xm xs := by
  unfold wL_law_682
  refine cq_em3 hg D (fun m hm c => ?_) (fun c => br_t rfl (br_t rfl (nm_r (nI_1 t) (hf c))))
  obtain ⟨h8, hc⟩ := cp_MLm hm
  exact br_f (ce_n19 (by omega)) (br_t ((ce_inN h8).mpr hc.1) (br_t rfl (br_t (hlx m hm) (nm_r (nI_1 g) (cw_put4 h8 (fun a b c' d h => nm_r (nI_1 t) (ht m hm c a b c' d h)))))))
theorem cl_548 {post : Int32 → Prop} {N : Nat} {sc : Nat → Int32} {J42 : Int32 → Int32 → Int32 → Int32 → Int32 → Int32 → Int32 → Int32 → Int32 → Int32 → Int32 → (Nat → Int32) → (Nat → Int32) → (Nat → Int32) → (Nat → Int32) → Prop} {J478 : Int32 → Int64 → Int64 → Int64 → Int64 → Int64 → Int64 → Int64 → Int64 → Int32 → Int32 → Int32 → Int32 → Int32 → Int32 → Int32 → Int32 → Int32 → Int32 → Int32 → Int32 → Int32 → Int32 → Int32 → Int32 → (Nat → Int32) → (Nat → Int32) → (Nat → Int32) → (Nat → Int32) → Prop} {x1 x2 x3 x5 : Int32} {x9 x11 x13 x15 x17 x19 x21 x23 x25 x27 x29 x31 : Int64} {x33 x34 x35 x36 x37 x38 x39 : Int32} {kc ks e g : Nat} {V C F H : Nat} {L xc xm xs : Nat → Int32}
    (B : cq_B V C F H) (he : e ≤ (cp_CL (ce_S L V H) F).length) (hg : g ≤ (cp_ML (ce_S L V H) F).length) (A : ce_ar (cp_CL (ce_S L V H) F) xc) (D : ce_ar (cp_ML (ce_S L V H) F) xm)
    (hW : ∀ j, j < 256 → (cw_in x9 x11 x13 x15 j = true ↔ ce_sub j F ∧ ce_S L V H j))
    (hend : (x37 = 0 → wL_law_638 post N sc J42 J478 x1 x2 x3 x5 (nI F) x9 x11 x13 x15 x17 x19 x21 x23 x25 x27 x29 x31 x33 x34 x35 x36 x37 x38 x39 kc ks (nI V) (nI C) (nI F) (nI H) (nI (cp_CL (ce_S L V H) F).length) (nI (cp_ML (ce_S L V H) F).length) (nI e) (nI g) 1 L xc xm xs) ∧ (¬ x37 = 0 → ((x38 = 0 → wL_law_638 post N sc J42 J478 x1 x2 x3 x5 (nI F) x9 x11 x13 x15 x17 x19 x21 x23 x25 x27 x29 x31 x33 x34 x35 x36 x37 x38 x39 kc ks (nI V) (nI C) (nI F) (nI H) (nI (cp_CL (ce_S L V H) F).length) (nI (cp_ML (ce_S L V H) F).length) (nI e) (nI g) 1 L xc xm xs) ∧ (¬ x38 = 0 → wL_law_849 post N sc J42 x1 x2 x3 x5 (nI F) x9 x11 x13 x15 x17 x19 x21 x23 x25 x27 x29 x31 x35 x36 kc ks (nI V) (nI C) (nI F) (nI H) (nI (cp_CL (ce_S L V H) F).length) (nI (cp_ML (ce_S L V H) F).length) (nI e) (nI g) 1 L xc xm xs)))) :
    ∀ d i : Nat, i + d = 256 → wL_law_548 post N sc J42 J478 x1 x2 x3 x5 (nI F) x9 x11 x13 x15 x17 x19 x21 x23 x25 x27 x29 x31 x33 x34 x35 x36 x37 x38 x39 kc ks (nI V) (nI C) (nI F) (nI H) (nI (cp_CL (ce_S L V H) F).length) (nI (cp_ML (ce_S L V H) F).length) (nI e) (nI g) 1 L xc xm xs (d + 1) (nI i) := by
  intro d
  induction d with
  | zero =>
    intro i hi
    exact br_t (nI_le (a := 256) (by omega) (by omega)) hend
  | succ d ih =>
    intro i hi
    have h8 : i < 256 := by omega
    have next := ih (i + 1) (by omega)
    refine br_f (nI_ge (b := 256) h8 (by decide)) (br_c (fun z => ?_) (fun z => nm_r (nI_1 i) next))
    have hs := (ce_inN h8).mp z
    refine cq_vd B h8 hs he hg A D (fun r h1 h2 => cw_inv h8 (hW i h8) ?_)
    have j6 : wL_law_606 post N sc J42 J478 (wL_law_548 post N sc J42 J478 x1 x2 x3 x5 (nI F) x9 x11 x13 x15 x17 x19 x21 x23 x25 x27 x29 x31 x33 x34 x35 x36 x37 x38 x39 kc ks (nI V) (nI C) (nI F) (nI H) (nI (cp_CL (ce_S L V H) F).length) (nI (cp_ML (ce_S L V H) F).length) (nI e) (nI g) 1 L xc xm xs (d + 1)) x1 x2 x3 x5 (nI F) x9 x11 x13 x15 x17 x19 x21 x23 x25 x27 x29 x31 x33 x34 x35 x36 x37 x38 x39 (nI i) r (cw_v (ce_sub i F ∧ ce_S L V H i)) kc ks (nI V) (nI C) (nI F) (nI H) (nI (cp_CL (ce_S L V H) F).length) (nI (cp_ML (ce_S L V H) F).length) (nI e) (nI g) 1 L xc xm xs :=
      br_c (fun e2 => br_t (cw_vf (fun w => h2 e2 w.2)) (nm_r (nI_1 i) next)) (fun _ => nm_r (nI_1 i) next)
    exact br_c (fun e1 => br_f (by rw [cw_vt ⟨hs, h1 e1⟩]; decide) j6) (fun _ => j6)
theorem cl_hd {post : Int32 → Prop} {N : Nat} {sc : Nat → Int32} {J42 : Int32 → Int32 → Int32 → Int32 → Int32 → Int32 → Int32 → Int32 → Int32 → Int32 → Int32 → (Nat → Int32) → (Nat → Int32) → (Nat → Int32) → (Nat → Int32) → Prop} {x1 x2 x3 x5 : Int32} {x9 x11 x13 x15 x17 x19 x21 x23 x25 x27 x29 x31 : Int64} {x33 x34 x35 x36 x37 x38 : Int32} {kc ks e g t n : Nat} {V C F H : Nat} {L xc xm xs : Nat → Int32}
    (B : cq_B V C F H) (he : e ≤ (cp_CL (ce_S L V H) F).length) (hg : g ≤ (cp_ML (ce_S L V H) F).length) (A : ce_ar (cp_CL (ce_S L V H) F) xc) (D : ce_ar (cp_ML (ce_S L V H) F) xm)
    (hW : ∀ j, j < 256 → (cw_in x9 x11 x13 x15 j = true ↔ ce_sub j F ∧ ce_S L V H j)) (ht : t < 600)
    (hend : (x37 = 0 → wL_law_638 post N sc J42 (wL_law_478 post N sc J42 x1 x2 x5 (nI F) x9 x11 x13 x15 kc ks n) x1 x2 x3 x5 (nI F) x9 x11 x13 x15 x17 x19 x21 x23 x25 x27 x29 x31 x33 x34 x35 x36 x37 x38 (nI t) kc ks (nI V) (nI C) (nI F) (nI H) (nI (cp_CL (ce_S L V H) F).length) (nI (cp_ML (ce_S L V H) F).length) (nI e) (nI g) 1 L xc xm xs) ∧ (¬ x37 = 0 → ((x38 = 0 → wL_law_638 post N sc J42 (wL_law_478 post N sc J42 x1 x2 x5 (nI F) x9 x11 x13 x15 kc ks n) x1 x2 x3 x5 (nI F) x9 x11 x13 x15 x17 x19 x21 x23 x25 x27 x29 x31 x33 x34 x35 x36 x37 x38 (nI t) kc ks (nI V) (nI C) (nI F) (nI H) (nI (cp_CL (ce_S L V H) F).length) (nI (cp_ML (ce_S L V H) F).length) (nI e) (nI g) 1 L xc xm xs) ∧ (¬ x38 = 0 → wL_law_849 post N sc J42 x1 x2 x3 x5 (nI F) x9 x11 x13 x15 x17 x19 x21 x23 x25 x27 x29 x31 x35 x36 kc ks (nI V) (nI C) (nI F) (nI H) (nI (cp_CL (ce_S L V H) F).length) (nI (cp_ML (ce_S L V H) F).length) (nI e) (nI g) 1 L xc xm xs)))) :
    wL_law_478 post N sc J42 x1 x2 x5 (nI F) x9 x11 x13 x15 kc ks (n + 1) x3 x17 x19 x21 x23 x25 x27 x29 x31 x33 x34 x35 x36 x37 x38 (nI t) (nI V) (nI C) (nI F) (nI H) (nI (cp_CL (ce_S L V H) F).length) (nI (cp_ML (ce_S L V H) F).length) (nI e) (nI g) 1 L xc xm xs := by
  have l1 : (cp_CL (ce_S L V H) F).length ≤ 256 := ce_ls_len _ _ _
  have l2 : (cp_ML (ce_S L V H) F).length ≤ 256 := ce_ls_len _ _ _
  have v := cl_548 B he hg A D hW hend 256 0 rfl
  have w0 : ¬ (e = (cp_CL (ce_S L V H) F).length ∧ g = (cp_ML (ce_S L V H) F).length) → wL_law_520 post N sc J42 (wL_law_478 post N sc J42 x1 x2 x5 (nI F) x9 x11 x13 x15 kc ks n) x1 x2 x3 x5 (nI F) x9 x11 x13 x15 x17 x19 x21 x23 x25 x27 x29 x31 x33 x34 x35 x36 x37 x38 (nI t) kc ks (nI V) (nI C) (nI F) (nI H) (nI (cp_CL (ce_S L V H) F).length) (nI (cp_ML (ce_S L V H) F).length) (nI e) (nI g) 1 L xc xm xs := by
    intro hn
    unfold wL_law_520 wL_law_521
    exact cq_go B he hg A D (fun r hr => br_c (fun z => absurd (hr.mp z) hn) (fun z => br_t rfl ⟨257, v⟩))
  have w1 : (e = (cp_CL (ce_S L V H) F).length ∧ g = (cp_ML (ce_S L V H) F).length) → wL_law_521 post N sc J42 (wL_law_478 post N sc J42 x1 x2 x5 (nI F) x9 x11 x13 x15 kc ks n) x1 x2 x3 x5 (nI F) x9 x11 x13 x15 x17 x19 x21 x23 x25 x27 x29 x31 x33 x34 x35 x36 x37 x38 (nI t) 1 kc ks (nI V) (nI C) (nI F) (nI H) (nI (cp_CL (ce_S L V H) F).length) (nI (cp_ML (ce_S L V H) F).length) (nI e) (nI g) 1 L xc xm xs := by
    intro hn
    unfold wL_law_521
    exact cq_go B he hg A D (fun r hr => br_c (fun z => br_t rfl ⟨257, v⟩) (fun z => absurd (hr.mpr hn) z))
  refine br_f (nI_ge (b := 600) ht (by decide)) (cq_ed2 (cq_co2 ?_))
  exact pk_eq e _ (fun h1 => cq_ed3 (cq_co3 (pk_eq g _ (fun h2 => w1 ⟨h1, h2⟩) (fun h2 => w0 (fun w => h2 w.2))))) (fun h1 => w0 (fun w => h1 w.1))
