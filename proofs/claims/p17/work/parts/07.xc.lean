/-! X: judge, verdict, greatestOpen, the slots -/
theorem cx_wi {post : Int32 → Prop} {a b : Nat} (ha : a < 256) (ht : ce_sub a b → post 1) (hf : ¬ ce_sub a b → post 0) : wpX_isWithin post () (nI a) (nI b) :=
  br_c (fun z => ht ((ce_inN ha).mp z)) (fun z => hf (fun q => z ((ce_inN ha).mpr q)))
theorem cx_j33 {V C F H : Nat} {cc mc me rd : Int32} {L xc xm xs : Nat → Int32} {post : Int32 → Prop} {cl : List Nat} {e m : Nat} (he : e ≤ cl.length) (hl : cl.length ≤ 256) (hb : ∀ x, x ∈ cl → x < 256) (A : ce_ar cl xc)
    (ht : ce_dn1 cl e m → post 2) (hf : ¬ ce_dn1 cl e m → post 0) :
    ∀ d k : Nat, k + d = e → (∀ q x, q < k → cl[q]? = some x → ¬ ce_sub x m) → wX_judge_33 post (nI m) (nI V) (nI C) (nI F) (nI H) cc mc (nI e) me rd L xc xm xs (d + 1) (nI k) := by
  intro d
  induction d with
  | zero =>
    intro k hk hq
    refine br_t (nI_le (by omega) (by omega)) (hf ?_)
    rintro ⟨q, x, h1, h2, h3⟩
    exact hq q x (by omega) h2 h3
  | succ d ih =>
    intro k hk hq
    obtain ⟨x, hx, hx2, hx3⟩ := ce_ar_get A (k := k) (by omega)
    refine br_f (nI_ge (by omega) (by omega)) ⟨vp_in_nI (by omega) (by decide), ?_⟩
    rw [nI_clamp (show k < 2 ^ 31 by omega), hx3]
    refine cx_wi (hb x hx) (fun hs => br_f (by decide) (ht ⟨k, x, by omega, hx2, hs⟩)) (fun hs => br_t rfl (nm_r (nI_1 k) ?_))
    exact ih (k + 1) (by omega) (fun q y h h2 => by
      by_cases e : q = k
      · subst e
        rw [hx2] at h2
        cases h2
        exact hs
      · exact hq q y (by omega) h2)
theorem cx_j2 {V C F H : Nat} {cc mc ce rd : Int32} {L xc xm xs : Nat → Int32} {post : Int32 → Prop} {ml : List Nat} {g m : Nat} (hm : m < 256) (hg : g ≤ ml.length) (hl : ml.length ≤ 256) (B : ce_ar ml xm)
    (ht : ce_up1 ml g m → post 1) (hf : ¬ ce_up1 ml g m → ∃ n, wX_judge_33 post (nI m) (nI V) (nI C) (nI F) (nI H) cc mc ce (nI g) rd L xc xm xs n 0) :
    ∀ d k : Nat, k + d = g → (∀ q x, q < k → ml[q]? = some x → ¬ ce_sub m x) → wX_judge_2 post (nI m) (nI V) (nI C) (nI F) (nI H) cc mc ce (nI g) rd L xc xm xs (d + 1) (nI k) := by
  intro d
  induction d with
  | zero =>
    intro k hk hq
    refine br_t (nI_le (by omega) (by omega)) (hf ?_)
    rintro ⟨q, x, h1, h2, h3⟩
    exact hq q x (by omega) h2 h3
  | succ d ih =>
    intro k hk hq
    obtain ⟨x, hx, hx2, hx3⟩ := ce_ar_get B (k := k) (by omega)
    refine br_f (nI_ge (by omega) (by omega)) ⟨vp_in_nI (by omega) (by decide), ?_⟩
    rw [nI_clamp (show k < 2 ^ 31 by omega), hx3]
    refine cx_wi hm (fun hs => br_f (by decide) (ht ⟨k, x, by omega, hx2, hs⟩)) (fun hs => br_t rfl (nm_r (nI_1 k) ?_))
    exact ih (k + 1) (by omega) (fun q y h h2 => by
      by_cases e : q = k
      · subst e
        rw [hx2] at h2
        cases h2
        exact hs
      · exact hq q y (by omega) h2)
theorem cx_jd {V C F H : Nat} {cc mc rd : Int32} {L xc xm xs : Nat → Int32} {post : Int32 → Prop} {cl ml : List Nat} {e g m : Nat} (hm : m < 256) (he : e ≤ cl.length) (hg : g ≤ ml.length) (hlc : cl.length ≤ 256) (hlm : ml.length ≤ 256) (hb : ∀ x, x ∈ cl → x < 256) (A : ce_ar cl xc) (B : ce_ar ml xm)
    (hp : ∀ r, ce_jd cl ml e g m r → post r) : wpX_judge post (nI V, nI C, nI F, nI H, cc, mc, nI e, nI g, rd, L, xc, xm, xs) (nI m) :=
  ⟨g + 1, cx_j2 hm hg hlm B (fun h => hp _ (Or.inl ⟨rfl, h⟩))
    (fun h => ⟨e + 1, cx_j33 he hlc hb A (fun h2 => hp _ (Or.inr (Or.inl ⟨rfl, h, h2⟩))) (fun h2 => hp _ (Or.inr (Or.inr ⟨rfl, h, h2⟩))) e 0 (Nat.zero_add e) (fun q _ z => absurd z (Nat.not_lt_zero q))⟩)
    g 0 (Nat.zero_add g) (fun q _ z => absurd z (Nat.not_lt_zero q))⟩
/-- a subset that is open -/
def ce_op (cl ml : List Nat) (e g F m : Nat) : Prop := ce_sub m F ∧ ¬ ce_up1 ml g m ∧ ¬ ce_dn1 cl e m
theorem cx_go14 {V C F H : Nat} {cc mc rd : Int32} {L xc xm xs : Nat → Int32} {post : Int32 → Prop} {cl ml : List Nat} {e g : Nat} (he : e ≤ cl.length) (hg : g ≤ ml.length) (hlc : cl.length ≤ 256) (hlm : ml.length ≤ 256) (hb : ∀ x, x ∈ cl → x < 256) (A : ce_ar cl xc) (B : ce_ar ml xm)
    (hp : ∀ r, ce_great (ce_op cl ml e g F) r → post r) :
    ∀ j : Nat, j ≤ 256 → (∀ m, m < 256 → j ≤ m → ¬ ce_op cl ml e g F m) → wX_greatestOpen_14 post (nI V) (nI C) (nI F) (nI H) cc mc (nI e) (nI g) rd L xc xm xs (j + 1) (nI j + (-1)) := by
  intro j
  induction j with
  | zero =>
    intro hj hq
    exact br_t (by decide) (hp _ (Or.inr ⟨fun m hm => hq m hm (Nat.zero_le m), rfl⟩))
  | succ j ih =>
    intro hj hq
    have next : ¬ ce_op cl ml e g F j → wX_greatestOpen_14 post (nI V) (nI C) (nI F) (nI H) cc mc (nI e) (nI g) rd L xc xm xs (j + 1) (nI j + (-1)) := by
      intro z
      exact ih (by omega) (fun m hm h => by
        by_cases e : m = j
        · subst e; exact z
        · exact hq m hm (by omega))
    rw [pk_m1 j]
    refine br_f (nI_pos (by omega)) ?_
    refine cx_subN (by omega) (fun hs => br_f (by decide) ?_) (fun hs => br_t rfl (nm_e (next (fun w => hs w.1))))
    refine cx_jd (by omega) he hg hlc hlm hb A B (fun r hr => ?_)
    have q := ce_jd_0 hr
    exact br_c (fun z => hp _ (Or.inl ⟨j, by omega, ⟨hs, q.mp z⟩, fun b h1 h2 => hq b h1 (by omega), rfl⟩)) (fun z => nm_e (next (fun w => z (q.mpr w.2))))
theorem cx_go {V C F H : Nat} {cc mc rd : Int32} {L xc xm xs : Nat → Int32} {post : Int32 → Prop} {cl ml : List Nat} {e g : Nat} (he : e ≤ cl.length) (hg : g ≤ ml.length) (hlc : cl.length ≤ 256) (hlm : ml.length ≤ 256) (hb : ∀ x, x ∈ cl → x < 256) (A : ce_ar cl xc) (B : ce_ar ml xm)
    (hp : ∀ r, ce_great (ce_op cl ml e g F) r → post r) : ∃ n, wX_greatestOpen_14 post (nI V) (nI C) (nI F) (nI H) cc mc (nI e) (nI g) rd L xc xm xs n 255 := by
  have q := cx_go14 (V := V) (C := C) (H := H) (cc := cc) (mc := mc) (rd := rd) (L := L) (xs := xs) he hg hlc hlm hb A B hp 256 (Nat.le_refl _) (fun m h1 h2 => absurd h1 (by omega))
  rw [show nI 256 + (-1) = 255 by decide] at q
  exact ⟨257, q⟩
/-- slot x holds a clause -/
def ce_occ (C F H : Nat) (x : Int32) : Prop := ∃ s, s < C ∧ x = nI s ∧ (F ||| H).testBit s = true
theorem cx_oc_t {V C F H : Nat} {cc mc ce me rd : Int32} {L xc xm xs : Nat → Int32} {post : Int32 → Prop} {s : Nat} (hC : C ≤ 8) (hs : s < C) (hb : (F ||| H).testBit s = true) (hp : post 1) : wpX_isOccupied post (nI V, nI C, nI F, nI H, cc, mc, ce, me, rd, L, xc, xm, xs) (nI s) := by
  refine br_f (nI_pos (by omega)) (br_f (nI_ge hs (by omega)) ?_)
  rw [ce_or F H]
  exact cx_has (by omega) (fun _ => br_f (by decide) hp) (fun z => by rw [hb] at z; cases z)
theorem cx_oc_f {V C F H : Nat} {cc mc ce me rd : Int32} {L xc xm xs : Nat → Int32} {post : Int32 → Prop} {x : Int32} (hC : C ≤ 8) (h : ¬ ce_occ C F H x) (hp : post 0) : wpX_isOccupied post (nI V, nI C, nI F, nI H, cc, mc, ce, me, rd, L, xc, xm, xs) x := by
  rcases pk_ix x (n := C) (by omega) with z | z | ⟨s, hs, rfl⟩
  · exact br_t z hp
  · exact br_c (fun _ => hp) (fun _ => br_t z hp)
  · refine br_f (nI_pos (by omega)) (br_f (nI_ge hs (by omega)) ?_)
    rw [ce_or F H]
    exact cx_has (by omega) (fun z => absurd ⟨s, hs, rfl, z⟩ h) (fun _ => br_t rfl hp)
/-- s is the lowest slot below C that is empty, or C -/
theorem cx_le12 {V C F H : Nat} {cc mc ce me rd : Int32} {L xc xm xs : Nat → Int32} {post : Int32 → Prop} {M : Nat} (hC : C ≤ 8) (ht : ∀ s, s < C → M.testBit s = false → (∀ q, q < s → M.testBit q = true) → post (nI s)) (hf : (∀ q, q < C → M.testBit q = true) → post (nI C)) :
    ∀ d s : Nat, s + d = C → (∀ q, q < s → M.testBit q = true) → wX_lowestEmptySlot_12 post (nI M) (nI V) (nI C) (nI F) (nI H) cc mc ce me rd L xc xm xs (d + 1) (nI s) := by
  intro d
  induction d with
  | zero =>
    intro s hs hq
    exact br_t (nI_le (by omega) (by omega)) (hf (fun q h => hq q (by omega)))
  | succ d ih =>
    intro s hs hq
    refine br_f (nI_ge (by omega) (by omega)) ?_
    refine cx_has (by omega) (fun hb => br_f (by decide) (nm_r (nI_1 s) ?_)) (fun hb => br_t rfl (ht s (by omega) hb hq))
    exact ih (s + 1) (by omega) (fun q h => by
      by_cases e : q = s
      · subst e; exact hb
      · exact hq q (by omega))
theorem cx_les {V C F H : Nat} {cc mc ce me rd : Int32} {L xc xm xs : Nat → Int32} {post : Int32 → Prop} (hC : C ≤ 8) (ht : ∀ s, s < C → (F ||| H).testBit s = false → (∀ q, q < s → (F ||| H).testBit q = true) → post (nI s)) (hf : (∀ q, q < C → (F ||| H).testBit q = true) → post (nI C)) : wpX_lowestEmptySlot post (nI V, nI C, nI F, nI H, cc, mc, ce, me, rd, L, xc, xm, xs) :=
  nm_r (e' := nI (F ||| H)) (ce_or F H) ⟨C + 1, cx_le12 hC ht hf C 0 (Nat.zero_add C) (fun q h => absurd h (Nat.not_lt_zero q))⟩
