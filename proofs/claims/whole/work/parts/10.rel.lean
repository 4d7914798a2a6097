/-! the relation; the slots' changes -/
noncomputable abbrev ce_CL (L : Nat → Int32) (V F H : Nat) : List Nat := ce_ls (ce_core (ce_S L V H) F) (fun k => k) 256
noncomputable abbrev ce_ML (L : Nat → Int32) (V F H : Nat) : List Nat := ce_ls (ce_maxi (ce_S L V H) F) (fun k => 255 - k) 256
theorem ce_CL_b {L : Nat → Int32} {V F H : Nat} : ∀ x, x ∈ ce_CL L V F H → x < 256 := by
  intro x hx
  obtain ⟨k, hk, e, _⟩ := ce_ls_mem.mp hx
  have e : x = k := e
  omega
/-- the lists while both are ready -/
def ce_R (V F H : Nat) (L : Nat → Int32) (cc mc ce me gc gm ge gf rd : Int32) (xc xm yc ym : Nat → Int32) : Prop :=
  rd = 0 ∨ (rd = 1 ∧ ∃ e g : Nat, cc = nI (ce_CL L V F H).length ∧ mc = nI (ce_ML L V F H).length ∧ gc = nI (ce_CL L V F H).length ∧ gm = nI (ce_ML L V F H).length ∧ ce = nI e ∧ ge = nI e ∧ me = nI g ∧ gf = nI g ∧ e ≤ (ce_CL L V F H).length ∧ g ≤ (ce_ML L V F H).length ∧ ce_ar (ce_CL L V F H) xc ∧ ce_ar (ce_CL L V F H) yc ∧ ce_ar (ce_ML L V F H) xm ∧ ce_ar (ce_ML L V F H) ym)
/-- the relation: the same numbers and literals, Y's used and kinds are X's masks, the same lists while ready -/
def i_Rel (k : Nat) (u : SX) (v : SY) : Prop := ∃ (V C F H : Nat) (cc mc ce me gc gm ge gf rd : Int32) (L xc xm xs U K ys yc ym : Nat → Int32),
  u = (nI V, nI C, nI F, nI H, cc, mc, ce, me, rd, L, xc, xm, xs) ∧ v = (nI V, nI C, gc, gm, ge, gf, rd, U, K, L, ys, yc, ym) ∧ V ≤ 5 ∧ C ≤ 8 ∧ F < 256 ∧ H < 256 ∧ ce_K U K F H C ∧ ce_R V F H L cc mc ce me gc gm ge gf rd xc xm yc ym ∧ k = k
theorem ci_mk {k V C F H : Nat} {cc mc ce me gc gm ge gf rd : Int32} {L xc xm xs U K ys yc ym : Nat → Int32} (hV : V ≤ 5) (hC : C ≤ 8) (hF : F < 256) (hH : H < 256) (hK : ce_K U K F H C) (hR : ce_R V F H L cc mc ce me gc gm ge gf rd xc xm yc ym) : i_Rel k (nI V, nI C, nI F, nI H, cc, mc, ce, me, rd, L, xc, xm, xs) (nI V, nI C, gc, gm, ge, gf, rd, U, K, L, ys, yc, ym) :=
  ⟨V, C, F, H, cc, mc, ce, me, gc, gm, ge, gf, rd, L, xc, xm, xs, U, K, ys, yc, ym, rfl, rfl, hV, hC, hF, hH, hK, hR, rfl⟩
theorem i_up {k : Nat} {u : SX} {v : SY} (h : i_Rel k u v) : i_Rel (k + 5) u v := by
  obtain ⟨V, C, F, H, cc, mc, ce, me, gc, gm, ge, gf, rd, L, xc, xm, xs, U, K, ys, yc, ym, rfl, rfl, hV, hC, hF, hH, hK, hR, _⟩ := h
  exact ci_mk hV hC hF hH hK hR
theorem ce_x_ne {m s i : Nat} (h : i ≠ s) : (m ^^^ 2 ^ s).testBit i = m.testBit i := by
  rw [ce_xt, decide_eq_false (fun e => h e.symm), Bool.xor_false]
theorem ce_x_f {m s : Nat} (h : m.testBit s = false) : (m ^^^ 2 ^ s).testBit s = true := by
  rw [ce_xt, h]; simp
theorem ce_x_t {m s : Nat} (h : m.testBit s = true) : (m ^^^ 2 ^ s).testBit s = false := by
  rw [ce_xt, h]; simp
theorem ce_K_put {U K U' K' : Nat → Int32} {F H F' H' C s : Nat} (k : ce_K U K F H C) (hU : ∀ i, i ≠ s → U' i = U i) (hK : ∀ i, i ≠ s → K' i = K i) (hF : ∀ i, i ≠ s → F'.testBit i = F.testBit i) (hH : ∀ i, i ≠ s → H'.testBit i = H.testBit i)
    (h : (U' s = 0 ∧ F'.testBit s = false ∧ H'.testBit s = false) ∨ (s < C ∧ ¬ U' s = 0 ∧ K' s = 0 ∧ F'.testBit s = true ∧ H'.testBit s = false) ∨ (s < C ∧ ¬ U' s = 0 ∧ K' s = 1 ∧ F'.testBit s = false ∧ H'.testBit s = true)) : ce_K U' K' F' H' C := by
  intro i hi
  by_cases e : i = s
  · subst e; exact h
  · rw [hU i e, hK i e, hF i e, hH i e]; exact k i hi
/-- what slot s holds -/
theorem ce_K_occ {U K : Nat → Int32} {F H C s : Nat} (k : ce_K U K F H C) (hs : s < 8) : (F ||| H).testBit s = true ↔ ¬ U s = 0 := by
  rw [Nat.testBit_or]
  rcases k s hs with ⟨a, b, c⟩ | ⟨_, a, b, c, d⟩ | ⟨_, a, b, c, d⟩
  · rw [b, c]; exact ⟨fun z => (nomatch z), fun z => absurd a z⟩
  · rw [c, d]; exact ⟨fun _ => a, fun _ => rfl⟩
  · rw [c, d]; exact ⟨fun _ => a, fun _ => rfl⟩
theorem cx_mk0 {V C F H : Nat} {cc mc ce me rd : Int32} {L xc xm xs : Nat → Int32} {post : SX → Prop} {s : Nat} (hs : s < 32) (h : F.testBit s = false) (hp : post (nI V, nI C, nI (F ^^^ 2 ^ s), nI H, cc, mc, ce, me, rd, L, xc, xm, xs)) : wpX_markKind post (nI V, nI C, nI F, nI H, cc, mc, ce, me, rd, L, xc, xm, xs) (nI s) 0 :=
  nm_e (br_t rfl (nm_r (ce_add hs h) hp))
theorem cx_mk1 {V C F H : Nat} {cc mc ce me rd : Int32} {L xc xm xs : Nat → Int32} {post : SX → Prop} {s : Nat} (hs : s < 32) (h : H.testBit s = false) (hp : post (nI V, nI C, nI F, nI (H ^^^ 2 ^ s), cc, mc, ce, me, rd, L, xc, xm, xs)) : wpX_markKind post (nI V, nI C, nI F, nI H, cc, mc, ce, me, rd, L, xc, xm, xs) (nI s) 1 :=
  nm_e (br_f (by decide) (nm_r (ce_add hs h) hp))
theorem cx_me0 {V C F H : Nat} {cc mc ce me rd : Int32} {L xc xm xs : Nat → Int32} {post : SX → Prop} {s : Nat} (hs : s < 32) (h : F.testBit s = true) (h2 : H.testBit s = false) (hp : post (nI V, nI C, nI (F ^^^ 2 ^ s), nI H, cc, mc, ce, me, rd, L, xc, xm, xs)) : wpX_markEmpty post (nI V, nI C, nI F, nI H, cc, mc, ce, me, rd, L, xc, xm, xs) (nI s) :=
  nm_e (nm_r (ce_del hs h) (nm_r (ce_del0 hs h2) hp))
theorem cx_me1 {V C F H : Nat} {cc mc ce me rd : Int32} {L xc xm xs : Nat → Int32} {post : SX → Prop} {s : Nat} (hs : s < 32) (h : F.testBit s = false) (h2 : H.testBit s = true) (hp : post (nI V, nI C, nI F, nI (H ^^^ 2 ^ s), cc, mc, ce, me, rd, L, xc, xm, xs)) : wpX_markEmpty post (nI V, nI C, nI F, nI H, cc, mc, ce, me, rd, L, xc, xm, xs) (nI s) :=
  nm_e (nm_r (ce_del0 hs h) (nm_r (ce_del hs h2) hp))
theorem cy_bd_t {V C : Nat} {cc mc ce me rd : Int32} {U K L ys yc ym : Nat → Int32} {F H : Nat} {post : Int32 → Prop} {s : Nat} (k : ce_K U K F H C) (hC : C ≤ 8) (hs : s < C) (hb : (F ||| H).testBit s = true) (hp : post 0) : wpY_badSlot post (nI V, nI C, cc, mc, ce, me, rd, U, K, L, ys, yc, ym) (nI s) := by
  refine br_f (nI_pos (by omega)) (br_f (nI_ge hs (by omega)) ⟨vp_in_nI (by omega) (by decide), br_f ?_ hp⟩)
  rw [nI_clamp (by omega)]
  exact (ce_K_occ k (by omega)).mp hb
theorem cy_bd_f {V C : Nat} {cc mc ce me rd : Int32} {U K L ys yc ym : Nat → Int32} {F H : Nat} {post : Int32 → Prop} {x : Int32} (k : ce_K U K F H C) (hC : C ≤ 8) (h : ¬ ce_occ C F H x) (hp : post 1) : wpY_badSlot post (nI V, nI C, cc, mc, ce, me, rd, U, K, L, ys, yc, ym) x := by
  rcases pk_ix x (n := C) (by omega) with z | z | ⟨s, hs, rfl⟩
  · exact br_t z hp
  · exact br_c (fun _ => hp) (fun _ => br_t z hp)
  · refine br_f (nI_pos (by omega)) (br_f (nI_ge hs (by omega)) ⟨vp_in_nI (by omega) (by decide), br_t ?_ hp⟩)
    rw [nI_clamp (by omega)]
    exact Classical.byContradiction (fun z => h ⟨s, hs, rfl, (ce_K_occ k (by omega)).mpr z⟩)
/-- an int within the literals -/
def ce_li (V : Nat) (x : Int32) : Prop := ¬ x < -nI V ∧ ¬ nI V < x
theorem cx_li_t {V C F H : Nat} {cc mc ce me rd : Int32} {L xc xm xs : Nat → Int32} {post : Int32 → Prop} {x : Int32} (h : ce_li V x) (hp : post 1) : wpX_isLiteralOrAbsent post (nI V, nI C, nI F, nI H, cc, mc, ce, me, rd, L, xc, xm, xs) x := br_f h.1 (br_f h.2 hp)
theorem cx_li_f {V C F H : Nat} {cc mc ce me rd : Int32} {L xc xm xs : Nat → Int32} {post : Int32 → Prop} {x : Int32} (h : ¬ ce_li V x) (hp : post 0) : wpX_isLiteralOrAbsent post (nI V, nI C, nI F, nI H, cc, mc, ce, me, rd, L, xc, xm, xs) x := br_c (fun _ => hp) (fun a => br_c (fun _ => hp) (fun b => absurd ⟨a, b⟩ h))
theorem cy_12_f {V C : Nat} {cc mc ce me rd : Int32} {U K L ys yc ym : Nat → Int32} {post : Int32 → SY → Prop} {kd a b c : Int32} (h : ¬ (ce_li V a ∧ ce_li V b ∧ ce_li V c)) (hp : post (-13) (nI V, nI C, cc, mc, ce, me, rd, U, K, L, ys, yc, ym)) : wY_addClause_12 post kd a b c (nI V) (nI C) cc mc ce me rd U K L ys yc ym :=
  br_c (fun _ => hp) (fun q1 => br_c (fun _ => hp) (fun q2 => br_c (fun _ => hp) (fun q3 => br_c (fun _ => hp) (fun q4 => br_c (fun _ => hp) (fun q5 => br_c (fun q6 => absurd ⟨⟨q1, q2⟩, ⟨q3, q4⟩, q5, Int32.not_lt.mpr q6⟩ h) (fun _ => hp))))))
theorem cy_12_t {V C : Nat} {cc mc ce me rd : Int32} {U K L ys yc ym : Nat → Int32} {post : Int32 → SY → Prop} {kd a b c : Int32} (h : ce_li V a ∧ ce_li V b ∧ ce_li V c) (hp : ∃ n, wY_addClause_71 post kd a b c (nI V) (nI C) cc mc ce me rd U K L ys yc ym n 0) : wY_addClause_12 post kd a b c (nI V) (nI C) cc mc ce me rd U K L ys yc ym :=
  br_f h.1.1 (br_f h.1.2 (br_f h.2.1.1 (br_f h.2.1.2 (br_f h.2.2.1 (br_t (Int32.not_lt.mp h.2.2.2) hp)))))
/-- the literals with a new clause in slot s -/
def ce_L3 (L : Nat → Int32) (s : Nat) (a b c : Int32) : Nat → Int32 := upd (upd (upd L (s * 3) a) (s * 3 + 1) b) (s * 3 + 2) c
theorem cy_71t {V C : Nat} {cc mc ce me rd : Int32} {U K L ys yc ym : Nat → Int32} {post : Int32 → SY → Prop} {kd a b c : Int32} {s : Nat} (hC : C ≤ 8) (hs : s < C) (h0 : U s = 0) (hq : ∀ q, q < s → ¬ U q = 0) (hp : post (nI s) (nI V, nI C, cc, mc, ce, me, 0, upd U s 1, upd K s kd, ce_L3 L s a b c, ys, yc, ym)) :
    ∀ d i : Nat, i + d = s → wY_addClause_71 post kd a b c (nI V) (nI C) cc mc ce me rd U K L ys yc ym (d + 1) (nI i) := by
  intro d
  induction d with
  | zero =>
    intro i hi
    have e : i = s := by omega
    subst e
    have hc : (nI i).toNatClampNeg = i := nI_clamp (by omega)
    have hin : vp_in (nI i) 8 := vp_in_nI (by omega) (by decide)
    have e3 : (3 : Int32) * nI i = nI (i * 3) := by rw [Nat.mul_comm]; exact pk_mul 3 i
    have e31 : (3 : Int32) * nI i + 1 = nI (i * 3 + 1) := by rw [e3, nI_1]
    have e32 : (3 : Int32) * nI i + 2 = nI (i * 3 + 2) := by rw [e3]; exact nI_add (i * 3) 2
    have c3 : ((3 : Int32) * nI i).toNatClampNeg = i * 3 := by rw [e3]; exact nI_clamp (by omega)
    have c31 : ((3 : Int32) * nI i + 1).toNatClampNeg = i * 3 + 1 := by rw [e31]; exact nI_clamp (by omega)
    have c32 : ((3 : Int32) * nI i + 2).toNatClampNeg = i * 3 + 2 := by rw [e32]; exact nI_clamp (by omega)
    refine br_f (nI_ge (b := 8) (by omega) (by decide)) (br_f (nI_ge hs (by omega)) ⟨hin, br_t (by rw [hc]; exact h0) ⟨hin, nm_r (e' := upd U i 1) (by rw [hc, ce_nb1]) ⟨hin, nm_r (e' := upd K i kd) (by rw [hc]) ⟨by rw [e3]; exact vp_in_nI (by omega) (by decide), nm_r (e' := upd L (i * 3) a) (by rw [c3]) ⟨by rw [e31]; exact vp_in_nI (by omega) (by decide), nm_r (e' := upd (upd L (i * 3) a) (i * 3 + 1) b) (by rw [c31]) ⟨by rw [e32]; exact vp_in_nI (by omega) (by decide), nm_r (e' := ce_L3 L i a b c) (by rw [c32]; rfl) hp⟩⟩⟩⟩⟩⟩)
  | succ d ih =>
    intro i hi
    have hc : (nI i).toNatClampNeg = i := nI_clamp (by omega)
    exact br_f (nI_ge (b := 8) (by omega) (by decide)) (br_f (nI_ge (by omega) (by omega)) ⟨vp_in_nI (by omega) (by decide), br_f (by rw [hc]; exact hq i (by omega)) (nm_r (nI_1 i) (ih (i + 1) (by omega)))⟩)
theorem cy_71f {V C : Nat} {cc mc ce me rd : Int32} {U K L ys yc ym : Nat → Int32} {post : Int32 → SY → Prop} {kd a b c : Int32} (hC : C ≤ 8) (hq : ∀ q, q < C → ¬ U q = 0) (hp : post (-11) (nI V, nI C, cc, mc, ce, me, rd, U, K, L, ys, yc, ym)) :
    ∀ d i : Nat, i + d = C → wY_addClause_71 post kd a b c (nI V) (nI C) cc mc ce me rd U K L ys yc ym (d + 1) (nI i) := by
  intro d
  induction d with
  | zero =>
    intro i hi
    exact br_c (fun _ => hp) (fun _ => br_t (nI_le (by omega) (by omega)) hp)
  | succ d ih =>
    intro i hi
    have hc : (nI i).toNatClampNeg = i := nI_clamp (by omega)
    exact br_f (nI_ge (b := 8) (by omega) (by decide)) (br_f (nI_ge (by omega) (by omega)) ⟨vp_in_nI (by omega) (by decide), br_f (by rw [hc]; exact hq i (by omega)) (nm_r (nI_1 i) (ih (i + 1) (by omega)))⟩)
