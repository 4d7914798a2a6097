/-! Y: isCore, isMaximal, enumerate, verdict, greatestOpen -/
theorem cy_ic28 {V C : Nat} {cc mc ce me rd : Int32} {U K L ys yc ym : Nat → Int32} {F H : Nat} {post : Int32 → Prop} {m : Nat} (hm : m < 256) (hs : ce_sub m F) (T : ce_tab (ce_P L V F H) 256 ys)
    (ht : (∀ x, ce_sub x m → x ≠ m → ce_S L V H x) → post 1) (hf : ¬ (∀ x, ce_sub x m → x ≠ m → ce_S L V H x) → post 0) :
    ∀ d i : Nat, i + d = 256 → (∀ x, x < i → ce_sub x m → x ≠ m → ce_S L V H x) → wY_isCore_28 post (nI m) (nI V) (nI C) cc mc ce me rd U K L ys yc ym (d + 1) (nI i) := by
  intro d
  induction d with
  | zero =>
    intro i hi hq
    exact br_t (nI_le (a := 256) (by omega) (by omega)) (ht (fun x h1 => hq x (by have := ce_sub_lt hm h1; omega) h1))
  | succ d ih =>
    intro i hi hq
    have next : (ce_sub i m → i ≠ m → ce_S L V H i) → wY_isCore_28 post (nI m) (nI V) (nI C) cc mc ce me rd U K L ys yc ym (d + 1) (nI i + 1) := by
      intro z
      rw [nI_1 i]
      exact ih (i + 1) (by omega) (fun x h => by
        by_cases e : x = i
        · subst e; exact z
        · exact hq x (by omega))
    have hc : (nI i).toNatClampNeg = i := nI_clamp (by omega)
    have t := T i (by omega)
    refine br_f (nI_ge (b := 256) (by omega) (by decide)) (br_c (fun z => nm_e (next (fun _ w => ?_))) (fun z => br_c (fun y => ⟨vp_in_nI (by omega) (by decide), br_c (fun w => hf (fun g => ?_)) (fun w => nm_e (next (fun _ _ => ?_)))⟩) (fun y => nm_e (next (fun g => ?_)))))
    · exact absurd ((nI_eq (by omega) (by omega)).mp z) w
    · rw [hc] at w
      have hsub := (ce_inN (by omega)).mp y
      exact t.mp w ⟨ce_sub_trans hsub hs, g i hsub (fun e => z (by rw [e]))⟩
    · rw [hc] at w
      exact Classical.byContradiction (fun g => w (t.mpr (fun q => g q.2)))
    · exact absurd ((ce_inN (by omega)).mpr g) y
theorem cy_ic {V C : Nat} {cc mc ce me rd : Int32} {U K L ys yc ym : Nat → Int32} {F H : Nat} {post : Int32 → Prop} {m : Nat} (k : ce_K U K F H C) (hF : F < 256) (hm : m < 256) (T : ce_tab (ce_P L V F H) 256 ys)
    (ht : ce_core (ce_S L V H) F m → post 1) (hf : ¬ ce_core (ce_S L V H) F m → post 0) : wpY_isCore post (nI V, nI C, cc, mc, ce, me, rd, U, K, L, ys, yc, ym) (nI m) := by
  unfold wpY_isCore
  have t := T _ hm
  have hc : (nI m).toNatClampNeg = m := nI_clamp (by omega)
  have q := ce_core_all (S := ce_S L V H) (F := F) (m := m) ce_S_sub
  refine cy_subN hm hF k (fun hs => br_f (by decide) (br_f (nI_nlt (a := 255) (by omega) (by decide)) ⟨vp_in_nI hm (by decide), br_c (fun z => ?_) (fun z => ?_)⟩)) (fun hs => br_t rfl (hf (fun w => hs w.1)))
  · rw [hc] at z
    have hn : ¬ ce_S L V H m := fun w => t.mp z ⟨hs, w⟩
    exact ⟨257, cy_ic28 hm hs T (fun h => ht (q.mpr ⟨hs, hn, h⟩)) (fun h => hf (fun w => h (q.mp w).2.2)) 256 0 rfl (fun x h => absurd h (Nat.not_lt_zero x))⟩
  · rw [hc] at z
    exact hf (fun w => z (t.mpr (fun y => w.2.1 y.2)))
theorem cy_im28 {V C : Nat} {cc mc ce me rd : Int32} {U K L ys yc ym : Nat → Int32} {F H : Nat} {post : Int32 → Prop} {m : Nat} (hm : m < 256) (hF : F < 256) (T : ce_tab (ce_P L V F H) 256 ys)
    (ht : (∀ x, ce_sub m x → ce_sub x F → x ≠ m → ¬ ce_S L V H x) → post 1) (hf : ¬ (∀ x, ce_sub m x → ce_sub x F → x ≠ m → ¬ ce_S L V H x) → post 0) :
    ∀ d i : Nat, i + d = 256 → (∀ x, x < i → ce_sub m x → ce_sub x F → x ≠ m → ¬ ce_S L V H x) → wY_isMaximal_28 post (nI m) (nI V) (nI C) cc mc ce me rd U K L ys yc ym (d + 1) (nI i) := by
  intro d
  induction d with
  | zero =>
    intro i hi hq
    exact br_t (nI_le (a := 256) (by omega) (by omega)) (ht (fun x h1 h2 => hq x (by have := ce_sub_lt hF h2; omega) h1 h2))
  | succ d ih =>
    intro i hi hq
    have next : (ce_sub m i → ce_sub i F → i ≠ m → ¬ ce_S L V H i) → wY_isMaximal_28 post (nI m) (nI V) (nI C) cc mc ce me rd U K L ys yc ym (d + 1) (nI i + 1) := by
      intro z
      rw [nI_1 i]
      exact ih (i + 1) (by omega) (fun x h => by
        by_cases e : x = i
        · subst e; exact z
        · exact hq x (by omega))
    have hc : (nI i).toNatClampNeg = i := nI_clamp (by omega)
    have t := T i (by omega)
    refine br_f (nI_ge (b := 256) (by omega) (by decide)) (br_c (fun z => nm_e (next (fun _ _ w => ?_))) (fun z => br_c (fun y => ⟨vp_in_nI (by omega) (by decide), br_c (fun w => nm_e (next (fun _ g1 _ g => ?_))) (fun w => hf (fun g => ?_))⟩) (fun y => nm_e (next (fun g => ?_)))))
    · exact absurd ((nI_eq (by omega) (by omega)).mp z) w
    · rw [hc] at w
      exact t.mp w ⟨g1, g⟩
    · rw [hc] at w
      have p : ce_P L V F H i := Classical.byContradiction (fun q => w (t.mpr q))
      exact g i ((ce_inN hm).mp y) p.1 (fun e => z (by rw [e])) p.2
    · exact absurd ((ce_inN hm).mpr g) y
theorem cy_im {V C : Nat} {cc mc ce me rd : Int32} {U K L ys yc ym : Nat → Int32} {F H : Nat} {post : Int32 → Prop} {m : Nat} (k : ce_K U K F H C) (hF : F < 256) (hm : m < 256) (T : ce_tab (ce_P L V F H) 256 ys)
    (ht : ce_maxi (ce_S L V H) F m → post 1) (hf : ¬ ce_maxi (ce_S L V H) F m → post 0) : wpY_isMaximal post (nI V, nI C, cc, mc, ce, me, rd, U, K, L, ys, yc, ym) (nI m) := by
  unfold wpY_isMaximal
  have t := T _ hm
  have hc : (nI m).toNatClampNeg = m := nI_clamp (by omega)
  have q := ce_maxi_all (S := ce_S L V H) (F := F) (m := m) ce_S_sub
  refine cy_subN hm hF k (fun hs => br_f (by decide) (br_f (nI_nlt (a := 255) (by omega) (by decide)) ⟨vp_in_nI hm (by decide), br_c (fun z => ?_) (fun z => ?_)⟩)) (fun hs => br_t rfl (hf (fun w => hs w.1)))
  · rw [hc] at z
    exact hf (fun w => t.mp z ⟨hs, w.2.1⟩)
  · rw [hc] at z
    have hn : ce_S L V H m := Classical.byContradiction (fun w => z (t.mpr (fun y => w y.2)))
    exact ⟨257, cy_im28 hm hF T (fun h => ht (q.mpr ⟨hs, hn, h⟩)) (fun h => hf (fun w => h (q.mp w).2.2)) 256 0 rfl (fun x h => absurd h (Nat.not_lt_zero x))⟩
theorem cy_e106 {V C : Nat} {cc ce me rd : Int32} {U K L ys yc : Nat → Int32} {F H : Nat} {post : Int32 → SY → Prop} (k : ce_K U K F H C) (hF : F < 256) (T : ce_tab (ce_P L V F H) 256 ys)
    (hp : ∀ a, ce_ar (ce_ls (ce_maxi (ce_S L V H) F) (fun k => 255 - k) 256) a → post (cc + nI (ce_ls (ce_maxi (ce_S L V H) F) (fun k => 255 - k) 256).length) (nI V, nI C, cc, nI (ce_ls (ce_maxi (ce_S L V H) F) (fun k => 255 - k) 256).length, ce, me, rd, U, K, L, ys, yc, a)) :
    ∀ j i a, i + j = 256 → ce_ar (ce_ls (ce_maxi (ce_S L V H) F) (fun k => 255 - k) i) a → wY_enumerate_106 post (nI V) (nI C) cc ce me rd (j + 1) (nI j + (-1)) (nI (ce_ls (ce_maxi (ce_S L V H) F) (fun k => 255 - k) i).length) U K L ys yc a := by
  intro j
  induction j with
  | zero =>
    intro i a hi A
    have e : i = 256 := by omega
    subst e
    exact br_t (by decide) (hp a A)
  | succ j ih =>
    intro i a hi A
    have hl := ce_ls_len (ce_maxi (ce_S L V H) F) (fun k => 255 - k) i
    have hij : 255 - i = j := by omega
    rw [pk_m1 j]
    refine br_f (nI_pos (by omega)) ?_
    refine cy_im k hF (by omega) T (fun h => br_f (by decide) ⟨vp_in_nI (by omega) (by decide), nm_e (nm_e (nm_e ?_))⟩) (fun h => br_t rfl (nm_e ?_))
    · rw [nI_clamp (by omega), nI_1 (ce_ls (ce_maxi (ce_S L V H) F) (fun k => 255 - k) i).length]
      have q := ih (i + 1) (upd a (ce_ls (ce_maxi (ce_S L V H) F) (fun k => 255 - k) i).length (nI j)) (by omega)
      rw [ce_ls_t (P := ce_maxi (ce_S L V H) F) (f := fun k => 255 - k) (n := i) (by show ce_maxi (ce_S L V H) F (255 - i); rw [hij]; exact h), List.length_append, hij] at q
      exact q (ce_ar_put A)
    · have q := ih (i + 1) a (by omega)
      rw [ce_ls_f (P := ce_maxi (ce_S L V H) F) (f := fun k => 255 - k) (n := i) (by show ¬ ce_maxi (ce_S L V H) F (255 - i); rw [hij]; exact h)] at q
      exact q A
theorem cy_e61 {V C : Nat} {ce me rd : Int32} {U K L ys ym : Nat → Int32} {F H : Nat} {post : Int32 → SY → Prop} (k : ce_K U K F H C) (hF : F < 256) (T : ce_tab (ce_P L V F H) 256 ys)
    (hp : ∀ c a, ce_ar (ce_ls (ce_core (ce_S L V H) F) (fun k => k) 256) c → ce_ar (ce_ls (ce_maxi (ce_S L V H) F) (fun k => 255 - k) 256) a → post (nI (ce_ls (ce_core (ce_S L V H) F) (fun k => k) 256).length + nI (ce_ls (ce_maxi (ce_S L V H) F) (fun k => 255 - k) 256).length) (nI V, nI C, nI (ce_ls (ce_core (ce_S L V H) F) (fun k => k) 256).length, nI (ce_ls (ce_maxi (ce_S L V H) F) (fun k => 255 - k) 256).length, ce, me, rd, U, K, L, ys, c, a)) :
    ∀ d i c, i + d = 256 → ce_ar (ce_ls (ce_core (ce_S L V H) F) (fun k => k) i) c → wY_enumerate_61 post (nI V) (nI C) 0 ce me rd (d + 1) (nI i) (nI (ce_ls (ce_core (ce_S L V H) F) (fun k => k) i).length) U K L ys c ym := by
  intro d
  induction d with
  | zero =>
    intro i c hi A
    have e : i = 256 := by omega
    subst e
    have q := cy_e106 (ce := ce) (me := me) (rd := rd) (yc := c) (cc := nI (ce_ls (ce_core (ce_S L V H) F) (fun k => k) 256).length) (post := post) k hF T (fun a B => hp c a A B) 256 0 ym rfl (ce_ar0 _)
    rw [show nI 256 + (-1) = 255 by decide] at q
    exact br_t (nI_le (a := 256) (Nat.le_refl _) (by decide)) ⟨257, q⟩
  | succ d ih =>
    intro i c hi A
    have hl := ce_ls_len (ce_core (ce_S L V H) F) (fun k => k) i
    refine br_f (nI_ge (b := 256) (by omega) (by decide)) ?_
    refine cy_ic k hF (by omega) T (fun h => br_f (by decide) ⟨vp_in_nI (by omega) (by decide), nm_e (nm_e (nm_e ?_))⟩) (fun h => br_t rfl (nm_e ?_))
    · rw [nI_clamp (by omega), nI_1 i, nI_1 (ce_ls (ce_core (ce_S L V H) F) (fun k => k) i).length]
      have q := ih (i + 1) (upd c (ce_ls (ce_core (ce_S L V H) F) (fun k => k) i).length (nI i)) (by omega)
      rw [ce_ls_t (P := ce_core (ce_S L V H) F) (f := fun k => k) (n := i) h, List.length_append] at q
      exact q (ce_ar_put A)
    · have q := ih (i + 1) c (by omega)
      rw [ce_ls_f (P := ce_core (ce_S L V H) F) (f := fun k => k) (n := i) h] at q
      rw [nI_1 i]
      exact q A
theorem cy_e27 {V C : Nat} {ce me rd : Int32} {U K L yc ym : Nat → Int32} {F H : Nat} {post : Int32 → SY → Prop} (hV : V ≤ 5) (k : ce_K U K F H C) (hF : F < 256) (hH : H < 256)
    (hp : ∀ t c a, ce_ar (ce_ls (ce_core (ce_S L V H) F) (fun k => k) 256) c → ce_ar (ce_ls (ce_maxi (ce_S L V H) F) (fun k => 255 - k) 256) a → post (nI (ce_ls (ce_core (ce_S L V H) F) (fun k => k) 256).length + nI (ce_ls (ce_maxi (ce_S L V H) F) (fun k => 255 - k) 256).length) (nI V, nI C, nI (ce_ls (ce_core (ce_S L V H) F) (fun k => k) 256).length, nI (ce_ls (ce_maxi (ce_S L V H) F) (fun k => 255 - k) 256).length, ce, me, rd, U, K, L, t, c, a)) :
    ∀ d i t, i + d = 256 → ce_tab (ce_P L V F H) i t → wY_enumerate_27 post (nI V) (nI C) 0 0 ce me rd (d + 1) (nI i) U K L t yc ym := by
  intro d
  induction d with
  | zero =>
    intro i t hi T
    have e : i = 256 := by omega
    subst e
    exact br_t (nI_le (a := 256) (Nat.le_refl _) (by decide)) ⟨257, cy_e61 k hF T (fun c a A B => hp t c a A B) 256 0 yc rfl (ce_ar0 _)⟩
  | succ d ih =>
    intro i t hi T
    have hin : vp_in (nI i) 256 := vp_in_nI (by omega) (by decide)
    have hc : (nI i).toNatClampNeg = i := nI_clamp (by omega)
    have go : ∀ x, (x = 0 ↔ ¬ ce_P L V F H i) → wY_enumerate_27 post (nI V) (nI C) 0 0 ce me rd (d + 1) (nI i + 1) U K L (upd t (nI i).toNatClampNeg x) yc ym := by
      intro x hx
      rw [hc, nI_1 i]
      exact ih (i + 1) _ (by omega) (ce_tab_put T hx)
    refine br_f (nI_ge (b := 256) (by omega) (by decide)) ?_
    refine cy_w hV k hF hH (fun m hm em hs r hr => ?_) (fun z => br_t (by decide) ⟨hin, nm_e (nm_e (go _ ⟨fun _ w => z ((ce_inN (by omega)).mpr w.1), fun _ => ce_nb0⟩))⟩)
    have e : i = m := (nI_eq (by omega) (by omega)).mp em
    subst e
    have q := ce_least_s (by have := ce_v32 hV; omega) hr
    have n : r < 0 ↔ r = -19 := by
      rcases hr with ⟨a, ha, _, _, rfl⟩ | ⟨_, rfl⟩
      · have := ce_v32 hV
        exact ⟨fun z => absurd z (nI_pos (by omega)), fun z => absurd z (ce_n19 (by omega))⟩
      · exact ⟨fun _ => rfl, fun _ => by decide⟩
    refine br_c (fun z => ⟨hin, nm_e (nm_e (go _ ⟨fun _ w => q.mp (n.mp z) w.2, fun _ => ce_nb0⟩))⟩) (fun z => ⟨hin, nm_e (nm_e (go _ ⟨fun w => ?_, fun w => ?_⟩))⟩)
    · rw [ce_nb1] at w; exact absurd w (by decide)
    · exact absurd ⟨hs, Classical.byContradiction (fun y => z (n.mpr (q.mpr y)))⟩ w
theorem cy_en {V C : Nat} {cc mc ce me rd : Int32} {U K L ys yc ym : Nat → Int32} {F H : Nat} {post : Int32 → SY → Prop} (hV : V ≤ 5) (k : ce_K U K F H C) (hF : F < 256) (hH : H < 256)
    (hp : ∀ t c a, ce_ar (ce_ls (ce_core (ce_S L V H) F) (fun k => k) 256) c → ce_ar (ce_ls (ce_maxi (ce_S L V H) F) (fun k => 255 - k) 256) a → post (nI (ce_ls (ce_core (ce_S L V H) F) (fun k => k) 256).length + nI (ce_ls (ce_maxi (ce_S L V H) F) (fun k => 255 - k) 256).length) (nI V, nI C, nI (ce_ls (ce_core (ce_S L V H) F) (fun k => k) 256).length, nI (ce_ls (ce_maxi (ce_S L V H) F) (fun k => 255 - k) 256).length, 0, 0, 1, U, K, L, t, c, a)) : wpY_enumerate post (nI V, nI C, cc, mc, ce, me, rd, U, K, L, ys, yc, ym) :=
  ⟨257, cy_e27 hV k hF hH hp 256 0 ys rfl (ce_tab0 _ _)⟩
theorem cy_v61 {V C : Nat} {cc mc me rd : Int32} {U K L ys yc ym : Nat → Int32} {post : Int32 → Prop} {cl : List Nat} {e m : Nat} (he : e ≤ cl.length) (hl : cl.length ≤ 256) (hb : ∀ x, x ∈ cl → x < 256) (A : ce_ar cl yc)
    (ht : ce_dn1 cl e m → post 2) (hf : ¬ ce_dn1 cl e m → post 0) :
    ∀ d k : Nat, k + d = e → (∀ q x, q < k → cl[q]? = some x → ¬ ce_sub x m) → wY_verdict_61 post (nI m) (nI V) (nI C) cc mc (nI e) me rd U K L ys yc ym (d + 1) (nI k) := by
  intro d
  induction d with
  | zero =>
    intro k hk hq
    have h : post 0 := hf (fun ⟨q, x, h1, h2, h3⟩ => hq q x (by omega) h2 h3)
    exact br_c (fun _ => h) (fun _ => br_t (nI_le (by omega) (by omega)) h)
  | succ d ih =>
    intro k hk hq
    obtain ⟨x, hx, hx2, hx3⟩ := ce_ar_get A (k := k) (by omega)
    refine br_f (nI_ge (b := 256) (by omega) (by decide)) (br_f (nI_ge (by omega) (by omega)) ⟨vp_in_nI (by omega) (by decide), ?_⟩)
    rw [nI_clamp (show k < 2 ^ 31 by omega), hx3]
    refine br_c (fun hs => ht ⟨k, x, by omega, hx2, (ce_inN (hb x hx)).mp hs⟩) (fun hs => nm_r (nI_1 k) ?_)
    exact ih (k + 1) (by omega) (fun q y h h2 h3 => by
      by_cases e : q = k
      · subst e
        rw [hx2] at h2
        cases h2
        exact hs ((ce_inN (hb x hx)).mpr h3)
      · exact hq q y (by omega) h2 h3)
theorem cy_v23 {V C : Nat} {cc mc ce rd : Int32} {U K L ys yc ym : Nat → Int32} {post : Int32 → Prop} {ml : List Nat} {g m : Nat} (hm : m < 256) (hg : g ≤ ml.length) (hl : ml.length ≤ 256) (B : ce_ar ml ym)
    (ht : ce_up1 ml g m → post 1) (hf : ¬ ce_up1 ml g m → ∃ n, wY_verdict_61 post (nI m) (nI V) (nI C) cc mc ce (nI g) rd U K L ys yc ym n 0) :
    ∀ d k : Nat, k + d = g → (∀ q x, q < k → ml[q]? = some x → ¬ ce_sub m x) → wY_verdict_23 post (nI m) (nI V) (nI C) cc mc ce (nI g) rd U K L ys yc ym (d + 1) (nI k) := by
  intro d
  induction d with
  | zero =>
    intro k hk hq
    have h := hf (fun ⟨q, x, h1, h2, h3⟩ => hq q x (by omega) h2 h3)
    exact br_c (fun _ => h) (fun _ => br_t (nI_le (by omega) (by omega)) h)
  | succ d ih =>
    intro k hk hq
    obtain ⟨x, hx, hx2, hx3⟩ := ce_ar_get B (k := k) (by omega)
    refine br_f (nI_ge (b := 256) (by omega) (by decide)) (br_f (nI_ge (by omega) (by omega)) ⟨vp_in_nI (by omega) (by decide), ?_⟩)
    rw [nI_clamp (show k < 2 ^ 31 by omega), hx3]
    refine br_c (fun hs => ht ⟨k, x, by omega, hx2, (ce_inN hm).mp hs⟩) (fun hs => nm_r (nI_1 k) ?_)
    exact ih (k + 1) (by omega) (fun q y h h2 h3 => by
      by_cases e : q = k
      · subst e
        rw [hx2] at h2
        cases h2
        exact hs ((ce_inN hm).mpr h3)
      · exact hq q y (by omega) h2 h3)
theorem cy_vd {V C : Nat} {cc mc : Int32} {U K L ys yc ym : Nat → Int32} {F H : Nat} {post : Int32 → Prop} {cl ml : List Nat} {e g : Nat} {x : Int32} (k : ce_K U K F H C) (hF : F < 256) (he : e ≤ cl.length) (hg : g ≤ ml.length) (hlc : cl.length ≤ 256) (hlm : ml.length ≤ 256) (hb : ∀ x, x ∈ cl → x < 256) (A : ce_ar cl yc) (B : ce_ar ml ym)
    (ht : ∀ m, m < 256 → x = nI m → ce_sub m F → ∀ r, ce_jd cl ml e g m r → post r) (hf : ¬ x &&& (nI F ^^^ (-1)) = 0 → post (-18)) : wpY_verdict post (nI V, nI C, cc, mc, nI e, nI g, 1, U, K, L, ys, yc, ym) x := by
  refine br_f (by decide) (cy_sub hF k (fun z => br_f (by decide) ?_) (fun z => br_t rfl (hf z)))
  obtain ⟨m, hm, rfl, hs⟩ := ce_small hF z
  have hp := ht m hm rfl hs
  exact ⟨g + 1, cy_v23 hm hg hlm B (fun h => hp _ (Or.inl ⟨rfl, h⟩))
    (fun h => ⟨e + 1, cy_v61 he hlc hb A (fun h2 => hp _ (Or.inr (Or.inl ⟨rfl, h, h2⟩))) (fun h2 => hp _ (Or.inr (Or.inr ⟨rfl, h, h2⟩))) e 0 (Nat.zero_add e) (fun q _ z => absurd z (Nat.not_lt_zero q))⟩)
    g 0 (Nat.zero_add g) (fun q _ z => absurd z (Nat.not_lt_zero q))⟩
theorem cy_go14 {V C : Nat} {cc mc : Int32} {U K L ys yc ym : Nat → Int32} {F H : Nat} {post : Int32 → Prop} {cl ml : List Nat} {e g : Nat} (k : ce_K U K F H C) (hF : F < 256) (he : e ≤ cl.length) (hg : g ≤ ml.length) (hlc : cl.length ≤ 256) (hlm : ml.length ≤ 256) (hb : ∀ x, x ∈ cl → x < 256) (A : ce_ar cl yc) (B : ce_ar ml ym)
    (hp : ∀ r, ce_great (ce_op cl ml e g F) r → post r) :
    ∀ j : Nat, j ≤ 256 → (∀ m, m < 256 → j ≤ m → ¬ ce_op cl ml e g F m) → wY_greatestOpen_14 post (nI V) (nI C) cc mc (nI e) (nI g) 1 U K L ys yc ym (j + 1) (nI j + (-1)) := by
  intro j
  induction j with
  | zero =>
    intro hj hq
    exact br_t (by decide) (hp _ (Or.inr ⟨fun m hm => hq m hm (Nat.zero_le m), rfl⟩))
  | succ j ih =>
    intro hj hq
    have next : ¬ ce_op cl ml e g F j → wY_greatestOpen_14 post (nI V) (nI C) cc mc (nI e) (nI g) 1 U K L ys yc ym (j + 1) (nI j + (-1)) := by
      intro z
      exact ih (by omega) (fun m hm h => by
        by_cases e : m = j
        · subst e; exact z
        · exact hq m hm (by omega))
    rw [pk_m1 j]
    refine br_f (nI_pos (by omega)) ?_
    refine cy_vd k hF he hg hlc hlm hb A B (fun m hm em hs r hr => ?_) (fun z => br_f (by decide) (nm_e (next (fun w => z ((ce_inN (by omega)).mpr w.1)))))
    have e : j = m := (nI_eq (by omega) (by omega)).mp em
    subst e
    have q := ce_jd_0 hr
    exact br_c (fun z => hp _ (Or.inl ⟨j, by omega, ⟨hs, q.mp z⟩, fun b h1 h2 => hq b h1 (by omega), rfl⟩)) (fun z => nm_e (next (fun w => z (q.mpr w.2))))
theorem cy_go {V C : Nat} {cc mc : Int32} {U K L ys yc ym : Nat → Int32} {F H : Nat} {post : Int32 → Prop} {cl ml : List Nat} {e g : Nat} (k : ce_K U K F H C) (hF : F < 256) (he : e ≤ cl.length) (hg : g ≤ ml.length) (hlc : cl.length ≤ 256) (hlm : ml.length ≤ 256) (hb : ∀ x, x ∈ cl → x < 256) (A : ce_ar cl yc) (B : ce_ar ml ym)
    (hp : ∀ r, ce_great (ce_op cl ml e g F) r → post r) : wpY_greatestOpen post (nI V, nI C, cc, mc, nI e, nI g, 1, U, K, L, ys, yc, ym) := by
  have q := cy_go14 (V := V) (cc := cc) (mc := mc) (L := L) (ys := ys) k hF he hg hlc hlm hb A B hp 256 (Nat.le_refl _) (fun m h1 h2 => absurd h1 (by omega))
  rw [show nI 256 + (-1) = 255 by decide] at q
  exact br_f (by decide) ⟨257, q⟩
