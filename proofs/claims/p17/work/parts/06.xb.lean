/-! X: findSatisfiableSubsets, isCore, listCores, isMaximal, listMaximals, enumerate -/
/-- a subset of F that is satisfiable -/
def ce_P (L : Nat → Int32) (V F H m : Nat) : Prop := ce_sub m F ∧ ce_S L V H m
theorem ce_low {F H C m : Nat} (hF : ∀ s, F.testBit s = true → s < C) (hH : ∀ s, H.testBit s = true → s < C) (h : ce_sub m F) : ∀ s, (m ||| H).testBit s = true → s < C := by
  intro s hs
  rw [Nat.testBit_or, Bool.or_eq_true] at hs
  rcases hs with z | z
  · exact hF s (h s z)
  · exact hH s z
theorem cx_fs2 {V C F H : Nat} {cc mc ce me rd : Int32} {L xc xm : Nat → Int32} {post : St2 → Prop} (hV : V ≤ 5) (hC : C ≤ 8) (hF : ∀ s, F.testBit s = true → s < C) (hH : ∀ s, H.testBit s = true → s < C)
    (hp : ∀ t, ce_tab (ce_P L V F H) 256 t → post (nI V, nI C, nI F, nI H, cc, mc, ce, me, rd, L, xc, xm, t)) :
    ∀ d i t, i + d = 256 → ce_tab (ce_P L V F H) i t → wX_findSatisfiableSubsets_2 post (nI V) (nI C) (nI F) (nI H) cc mc ce me rd (d + 1) (nI i) L xc xm t := by
  intro d
  induction d with
  | zero =>
    intro i t hi T
    have e : i = 256 := by omega
    subst e
    exact br_t (nI_le (a := 256) (Nat.le_refl _) (by decide)) (hp t T)
  | succ d ih =>
    intro i t hi T
    have hin : vp_in (nI i) 256 := vp_in_nI (by omega) (by decide)
    have hc : (nI i).toNatClampNeg = i := nI_clamp (by omega)
    have go : ∀ x, (x = 0 ↔ ¬ ce_P L V F H i) → wX_findSatisfiableSubsets_2 post (nI V) (nI C) (nI F) (nI H) cc mc ce me rd (d + 1) (nI i + 1) L xc xm (upd t (nI i).toNatClampNeg x) := by
      intro x hx
      rw [hc, nI_1 i]
      exact ih (i + 1) _ (by omega) (ce_tab_put T hx)
    refine br_f (nI_ge (b := 256) (by omega) (by decide)) ?_
    refine cx_subN (by omega) (fun hs => br_f (by decide) ?_) (fun hs => br_t rfl ⟨hin, nm_e (nm_e (go _ ⟨fun _ z => hs z.1, fun _ => rfl⟩))⟩)
    refine cx_la hV hC (ce_low hF hH hs) (fun r hr => ?_)
    have q := ce_least_s (by have := ce_v32 hV; omega) hr
    refine br_c (fun z => ⟨hin, nm_e (nm_e (go _ ⟨fun _ w => q.mp z w.2, fun _ => rfl⟩))⟩) (fun z => ⟨hin, nm_e (nm_e (go _ ⟨fun w => ?_, fun w => ?_⟩))⟩)
    · exact absurd w (by decide)
    · exact absurd ⟨hs, Classical.byContradiction (fun y => z (q.mpr y))⟩ w
theorem cx_fs {V C F H : Nat} {cc mc ce me rd : Int32} {L xc xm xs : Nat → Int32} {post : St2 → Prop} (hV : V ≤ 5) (hC : C ≤ 8) (hF : ∀ s, F.testBit s = true → s < C) (hH : ∀ s, H.testBit s = true → s < C)
    (hp : ∀ t, ce_tab (ce_P L V F H) 256 t → post (nI V, nI C, nI F, nI H, cc, mc, ce, me, rd, L, xc, xm, t)) : wpX_findSatisfiableSubsets post (nI V, nI C, nI F, nI H, cc, mc, ce, me, rd, L, xc, xm, xs) :=
  ⟨257, cx_fs2 hV hC hF hH hp 256 0 xs rfl (ce_tab0 _ _)⟩
theorem cx_ic13 {V C F H : Nat} {cc mc ce me rd : Int32} {L xc xm xs : Nat → Int32} {post : Int32 → Prop} {m : Nat} (hC : C ≤ 8) (hm : m < 256) (hs : ce_sub m F) (hF : ∀ s, F.testBit s = true → s < C) (T : ce_tab (ce_P L V F H) 256 xs)
    (ht : (∀ s, m.testBit s = true → ce_S L V H (m ^^^ 2 ^ s)) → post 1) (hf : ¬ (∀ s, m.testBit s = true → ce_S L V H (m ^^^ 2 ^ s)) → post 0) :
    ∀ d s : Nat, s + d = C → (∀ q, q < s → m.testBit q = true → ce_S L V H (m ^^^ 2 ^ q)) → wX_isCore_13 post (nI m) (nI V) (nI C) (nI F) (nI H) cc mc ce me rd L xc xm xs (d + 1) (nI s) := by
  intro d
  induction d with
  | zero =>
    intro s hd hq
    exact br_t (nI_le (by omega) (by omega)) (ht (fun q hb => hq q (by have := hF q (hs q hb); omega) hb))
  | succ d ih =>
    intro s hd hq
    have next : (m.testBit s = true → ce_S L V H (m ^^^ 2 ^ s)) → wX_isCore_13 post (nI m) (nI V) (nI C) (nI F) (nI H) cc mc ce me rd L xc xm xs (d + 1) (nI s + 1) := by
      intro z
      rw [nI_1 s]
      exact ih (s + 1) (by omega) (fun q h hb => by
        by_cases e : q = s
        · subst e; exact z hb
        · exact hq q (by omega) hb)
    refine br_f (nI_ge (by omega) (by omega)) ?_
    refine cx_has (by omega) (fun hb => br_f (by decide) ?_) (fun hb => br_t rfl (nm_e (next (fun z => by rw [hb] at z; cases z))))
    have e := ce_del (m := m) (s := s) (by omega) hb
    have hx : m ^^^ 2 ^ s < 256 := ce_xl hm (by omega)
    have hc : (nI m &&& (((1 : Int32) <<< (nI s &&& 31)) ^^^ (-1))).toNatClampNeg = m ^^^ 2 ^ s := by rw [e]; exact nI_clamp (by omega)
    have hi : vp_in (nI m &&& (((1 : Int32) <<< (nI s &&& 31)) ^^^ (-1))) 256 := by rw [e]; exact vp_in_nI hx (by decide)
    have t := T _ hx
    have hsub : ce_sub (m ^^^ 2 ^ s) F := ce_sub_trans (ce_sub_del hb) hs
    refine ⟨hi, br_c (fun z => hf (fun w => ?_)) (fun z => nm_e (next (fun _ => ?_)))⟩
    · rw [hc] at z
      exact t.mp z ⟨hsub, w s hb⟩
    · rw [hc] at z
      exact Classical.byContradiction (fun y => z (t.mpr (fun w => y w.2)))
theorem cx_ic {V C F H : Nat} {cc mc ce me rd : Int32} {L xc xm xs : Nat → Int32} {post : Int32 → Prop} {m : Nat} (hC : C ≤ 8) (hm : m < 256) (hs : ce_sub m F) (hF : ∀ s, F.testBit s = true → s < C) (T : ce_tab (ce_P L V F H) 256 xs)
    (ht : ce_core (ce_S L V H) F m → post 1) (hf : ¬ ce_core (ce_S L V H) F m → post 0) : wpX_isCore post (nI V, nI C, nI F, nI H, cc, mc, ce, me, rd, L, xc, xm, xs) (nI m) := by
  have t := T _ hm
  have hc : (nI m).toNatClampNeg = m := nI_clamp (by omega)
  refine ⟨vp_in_nI hm (by decide), br_c (fun z => ?_) (fun z => ?_)⟩
  · rw [hc] at z
    have hn : ¬ ce_S L V H m := fun w => t.mp z ⟨hs, w⟩
    exact ⟨C + 1, cx_ic13 hC hm hs hF T (fun h => ht ⟨hs, hn, h⟩) (fun h => hf (fun w => h w.2.2)) C 0 (by omega) (fun q h => absurd h (Nat.not_lt_zero q))⟩
  · rw [hc] at z
    exact hf (fun w => z (t.mpr (fun y => w.2.1 y.2)))
theorem cx_lc7 {V C F H : Nat} {mc ce me rd : Int32} {L xm xs : Nat → Int32} {post : St2 → Prop} (hC : C ≤ 8) (hF : ∀ s, F.testBit s = true → s < C) (T : ce_tab (ce_P L V F H) 256 xs)
    (hp : ∀ a, ce_ar (ce_ls (ce_core (ce_S L V H) F) (fun k => k) 256) a → post (nI V, nI C, nI F, nI H, nI (ce_ls (ce_core (ce_S L V H) F) (fun k => k) 256).length, mc, ce, me, rd, L, a, xm, xs)) :
    ∀ d i a, i + d = 256 → ce_ar (ce_ls (ce_core (ce_S L V H) F) (fun k => k) i) a → wX_listCores_7 post (nI V) (nI C) (nI F) (nI H) mc ce me rd (d + 1) (nI i) (nI (ce_ls (ce_core (ce_S L V H) F) (fun k => k) i).length) L a xm xs := by
  intro d
  induction d with
  | zero =>
    intro i a hi A
    have e : i = 256 := by omega
    subst e
    exact br_t (nI_le (a := 256) (Nat.le_refl _) (by decide)) (hp a A)
  | succ d ih =>
    intro i a hi A
    have hl := ce_ls_len (ce_core (ce_S L V H) F) (fun k => k) i
    have no : ¬ ce_core (ce_S L V H) F i → wX_listCores_7 post (nI V) (nI C) (nI F) (nI H) mc ce me rd (d + 1) (nI i + 1) (nI (ce_ls (ce_core (ce_S L V H) F) (fun k => k) i).length) L a xm xs := by
      intro z
      have q := ih (i + 1) a (by omega)
      rw [ce_ls_f (P := ce_core (ce_S L V H) F) (f := fun k => k) (n := i) z] at q
      rw [nI_1 i]
      exact q A
    refine br_f (nI_ge (b := 256) (by omega) (by decide)) ?_
    refine cx_subN (by omega) (fun hs => br_f (by decide) ?_) (fun hs => br_t rfl (nm_e (no (fun w => hs w.1))))
    refine cx_ic hC (by omega) hs hF T (fun h => br_f (by decide) ⟨vp_in_nI (by omega) (by decide), nm_e (nm_e (nm_e ?_))⟩) (fun h => br_t rfl (nm_e (no h)))
    rw [nI_clamp (by omega), nI_1 i, nI_1 (ce_ls (ce_core (ce_S L V H) F) (fun k => k) i).length]
    have q := ih (i + 1) (upd a (ce_ls (ce_core (ce_S L V H) F) (fun k => k) i).length (nI i)) (by omega)
    rw [ce_ls_t (P := ce_core (ce_S L V H) F) (f := fun k => k) (n := i) h, List.length_append] at q
    exact q (ce_ar_put A)
theorem cx_lc {V C F H : Nat} {cc mc ce me rd : Int32} {L xc xm xs : Nat → Int32} {post : St2 → Prop} (hC : C ≤ 8) (hF : ∀ s, F.testBit s = true → s < C) (T : ce_tab (ce_P L V F H) 256 xs)
    (hp : ∀ a, ce_ar (ce_ls (ce_core (ce_S L V H) F) (fun k => k) 256) a → post (nI V, nI C, nI F, nI H, nI (ce_ls (ce_core (ce_S L V H) F) (fun k => k) 256).length, mc, ce, me, rd, L, a, xm, xs)) : wpX_listCores post (nI V, nI C, nI F, nI H, cc, mc, ce, me, rd, L, xc, xm, xs) :=
  ⟨257, cx_lc7 hC hF T hp 256 0 xc rfl (ce_ar0 _)⟩
theorem cx_im22 {V C F H : Nat} {cc mc ce me rd : Int32} {L xc xm xs : Nat → Int32} {post : Int32 → Prop} {m D : Nat} (hC : C ≤ 8) (hm : m < 256) (hs : ce_sub m F) (hF : ∀ s, F.testBit s = true → s < C) (T : ce_tab (ce_P L V F H) 256 xs)
    (hD : ∀ s, s < 8 → (D.testBit s = true ↔ F.testBit s = true ∧ m.testBit s = false))
    (ht : (∀ s, F.testBit s = true → m.testBit s = false → ¬ ce_S L V H (m ^^^ 2 ^ s)) → post 1) (hf : ¬ (∀ s, F.testBit s = true → m.testBit s = false → ¬ ce_S L V H (m ^^^ 2 ^ s)) → post 0) :
    ∀ d s : Nat, s + d = C → (∀ q, q < s → F.testBit q = true → m.testBit q = false → ¬ ce_S L V H (m ^^^ 2 ^ q)) → wX_isMaximal_22 post (nI m) (nI D) (nI V) (nI C) (nI F) (nI H) cc mc ce me rd L xc xm xs (d + 1) (nI s) := by
  intro d
  induction d with
  | zero =>
    intro s hd hq
    exact br_t (nI_le (by omega) (by omega)) (ht (fun q hb => hq q (by have := hF q hb; omega) hb))
  | succ d ih =>
    intro s hd hq
    have next : (F.testBit s = true → m.testBit s = false → ¬ ce_S L V H (m ^^^ 2 ^ s)) → wX_isMaximal_22 post (nI m) (nI D) (nI V) (nI C) (nI F) (nI H) cc mc ce me rd L xc xm xs (d + 1) (nI s + 1) := by
      intro z
      rw [nI_1 s]
      exact ih (s + 1) (by omega) (fun q h hb => by
        by_cases e : q = s
        · subst e; exact z hb
        · exact hq q (by omega) hb)
    refine br_f (nI_ge (by omega) (by omega)) ?_
    refine cx_has (by omega) (fun hb => br_f (by decide) ?_) (fun hb => br_t rfl (nm_e (next (fun z1 z2 => by rw [(hD s (by omega)).mpr ⟨z1, z2⟩] at hb; cases hb))))
    obtain ⟨hb1, hb2⟩ := (hD s (by omega)).mp hb
    have e := ce_add (m := m) (s := s) (by omega) hb2
    have hx : m ^^^ 2 ^ s < 256 := ce_xl hm (by omega)
    have hc : (nI m ||| ((1 : Int32) <<< (nI s &&& 31))).toNatClampNeg = m ^^^ 2 ^ s := by rw [e]; exact nI_clamp (by omega)
    have hi : vp_in (nI m ||| ((1 : Int32) <<< (nI s &&& 31))) 256 := by rw [e]; exact vp_in_nI hx (by decide)
    have t := T _ hx
    have hsub : ce_sub (m ^^^ 2 ^ s) F := ce_sub_ins hs hb1
    refine ⟨hi, br_c (fun z => nm_e (next (fun _ _ w => ?_))) (fun z => hf (fun w => ?_))⟩
    · rw [hc] at z
      exact t.mp z ⟨hsub, w⟩
    · rw [hc] at z
      exact z (t.mpr (fun y => w s hb1 hb2 y.2))
theorem cx_im {V C F H : Nat} {cc mc ce me rd : Int32} {L xc xm xs : Nat → Int32} {post : Int32 → Prop} {m : Nat} (hC : C ≤ 8) (hm : m < 256) (hF8 : F < 256) (hs : ce_sub m F) (hF : ∀ s, F.testBit s = true → s < C) (T : ce_tab (ce_P L V F H) 256 xs)
    (ht : ce_maxi (ce_S L V H) F m → post 1) (hf : ¬ ce_maxi (ce_S L V H) F m → post 0) : wpX_isMaximal post (nI V, nI C, nI F, nI H, cc, mc, ce, me, rd, L, xc, xm, xs) (nI m) := by
  have t := T _ hm
  have hc : (nI m).toNatClampNeg = m := nI_clamp (by omega)
  have hD : ∀ s, s < 8 → ((F &&& (255 ^^^ m)).testBit s = true ↔ F.testBit s = true ∧ m.testBit s = false) := by
    intro s hs
    have q : (255 : Nat).testBit s = true := (by decide : ∀ i, i < 8 → (255 : Nat).testBit i = true) s hs
    rw [Nat.testBit_and, Nat.testBit_xor, q]
    cases F.testBit s <;> cases m.testBit s <;> simp
  refine ⟨vp_in_nI hm (by decide), br_c (fun z => ?_) (fun z => nm_r (e' := nI (F &&& (255 ^^^ m))) (ce_diff hF8) ?_)⟩
  · rw [hc] at z
    exact hf (fun w => t.mp z ⟨hs, w.2.1⟩)
  · rw [hc] at z
    have hn : ce_S L V H m := Classical.byContradiction (fun w => z (t.mpr (fun y => w y.2)))
    exact ⟨C + 1, cx_im22 hC hm hs hF T hD (fun h => ht ⟨hs, hn, h⟩) (fun h => hf (fun w => h w.2.2)) C 0 (by omega) (fun q h => absurd h (Nat.not_lt_zero q))⟩
theorem cx_lm9 {V C F H : Nat} {cc ce me rd : Int32} {L xc xs : Nat → Int32} {post : St2 → Prop} (hC : C ≤ 8) (hF8 : F < 256) (hF : ∀ s, F.testBit s = true → s < C) (T : ce_tab (ce_P L V F H) 256 xs)
    (hp : ∀ a, ce_ar (ce_ls (ce_maxi (ce_S L V H) F) (fun k => 255 - k) 256) a → post (nI V, nI C, nI F, nI H, cc, nI (ce_ls (ce_maxi (ce_S L V H) F) (fun k => 255 - k) 256).length, ce, me, rd, L, xc, a, xs)) :
    ∀ j i a, i + j = 256 → ce_ar (ce_ls (ce_maxi (ce_S L V H) F) (fun k => 255 - k) i) a → wX_listMaximals_9 post (nI V) (nI C) (nI F) (nI H) cc ce me rd (j + 1) (nI j + (-1)) (nI (ce_ls (ce_maxi (ce_S L V H) F) (fun k => 255 - k) i).length) L xc a xs := by
  intro j
  induction j with
  | zero =>
    intro i a hi A
    have e : i = 256 := by omega
    subst e
    exact br_t (by decide) (hp a A)
  | succ j ih =>
    intro i a hi A
    have hl := ce_ls_len (ce_maxi (ce_S L V H) F) (fun k => 255 - k) i
    have hij : 255 - i = j := by omega
    have no : ¬ ce_maxi (ce_S L V H) F j → wX_listMaximals_9 post (nI V) (nI C) (nI F) (nI H) cc ce me rd (j + 1) (nI j + (-1)) (nI (ce_ls (ce_maxi (ce_S L V H) F) (fun k => 255 - k) i).length) L xc a xs := by
      intro z
      have q := ih (i + 1) a (by omega)
      rw [ce_ls_f (P := ce_maxi (ce_S L V H) F) (f := fun k => 255 - k) (n := i) (by show ¬ ce_maxi (ce_S L V H) F (255 - i); rw [hij]; exact z)] at q
      exact q A
    rw [pk_m1 j]
    refine br_f (nI_pos (by omega)) ?_
    refine cx_subN (by omega) (fun hs => br_f (by decide) ?_) (fun hs => br_t rfl (nm_e (no (fun w => hs w.1))))
    refine cx_im hC (by omega) hF8 hs hF T (fun h => br_f (by decide) ⟨vp_in_nI (by omega) (by decide), nm_e (nm_e (nm_e ?_))⟩) (fun h => br_t rfl (nm_e (no h)))
    rw [nI_clamp (by omega), nI_1 (ce_ls (ce_maxi (ce_S L V H) F) (fun k => 255 - k) i).length]
    have q := ih (i + 1) (upd a (ce_ls (ce_maxi (ce_S L V H) F) (fun k => 255 - k) i).length (nI j)) (by omega)
    rw [ce_ls_t (P := ce_maxi (ce_S L V H) F) (f := fun k => 255 - k) (n := i) (by show ce_maxi (ce_S L V H) F (255 - i); rw [hij]; exact h), List.length_append, hij] at q
    exact q (ce_ar_put A)
theorem cx_lm {V C F H : Nat} {cc mc ce me rd : Int32} {L xc xm xs : Nat → Int32} {post : St2 → Prop} (hC : C ≤ 8) (hF8 : F < 256) (hF : ∀ s, F.testBit s = true → s < C) (T : ce_tab (ce_P L V F H) 256 xs)
    (hp : ∀ a, ce_ar (ce_ls (ce_maxi (ce_S L V H) F) (fun k => 255 - k) 256) a → post (nI V, nI C, nI F, nI H, cc, nI (ce_ls (ce_maxi (ce_S L V H) F) (fun k => 255 - k) 256).length, ce, me, rd, L, xc, a, xs)) : wpX_listMaximals post (nI V, nI C, nI F, nI H, cc, mc, ce, me, rd, L, xc, xm, xs) := by
  have q := cx_lm9 (V := V) (C := C) (F := F) (H := H) (cc := cc) (ce := ce) (me := me) (rd := rd) (L := L) (xc := xc) (xs := xs) hC hF8 hF T hp 256 0 xm rfl (ce_ar0 _)
  rw [show nI 256 + (-1) = 255 by decide] at q
  exact ⟨257, q⟩
theorem cx_en {V C F H : Nat} {cc mc ce me rd : Int32} {L xc xm xs : Nat → Int32} {post : Int32 → St2 → Prop} (hV : V ≤ 5) (hC : C ≤ 8) (hF8 : F < 256) (hF : ∀ s, F.testBit s = true → s < C) (hH : ∀ s, H.testBit s = true → s < C)
    (hp : ∀ c m t, ce_ar (ce_ls (ce_core (ce_S L V H) F) (fun k => k) 256) c → ce_ar (ce_ls (ce_maxi (ce_S L V H) F) (fun k => 255 - k) 256) m →
      post (nI (ce_ls (ce_core (ce_S L V H) F) (fun k => k) 256).length + nI (ce_ls (ce_maxi (ce_S L V H) F) (fun k => 255 - k) 256).length)
        (nI V, nI C, nI F, nI H, nI (ce_ls (ce_core (ce_S L V H) F) (fun k => k) 256).length, nI (ce_ls (ce_maxi (ce_S L V H) F) (fun k => 255 - k) 256).length, 0, 0, 1, L, c, m, t)) : wpX_enumerate post (nI V, nI C, nI F, nI H, cc, mc, ce, me, rd, L, xc, xm, xs) := by
  unfold wpX_enumerate
  refine cx_fs hV hC hF hH (fun t T => ?_)
  refine cx_lc hC hF T (fun c A => ?_)
  refine cx_lm hC hF8 hF T (fun m B => ?_)
  exact hp c m t A B
