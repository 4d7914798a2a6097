/-! the law's own functions: core, maximal, hits, minimalHit -/
theorem cw_tw : ∀ s, s < 8 → nI (2 ^ s) = (1 : Int32) <<< (nI s &&& 31) := by decide +kernel
theorem cw_tn : ∀ s, s < 8 → nI (2 ^ s) <<< ((1 : Int32) &&& 31) = nI (2 ^ (s + 1)) := by decide +kernel
theorem cw_th {m s : Nat} (hs : s < 8) : nI m &&& nI (2 ^ s) = 0 ↔ m.testBit s = false := by
  rw [cw_tw s hs]; exact ce_hasN m (by omega)
theorem cw_to {m s : Nat} (hs : s < 8) (h : m.testBit s = false) : nI m ||| nI (2 ^ s) = nI (m ^^^ 2 ^ s) := by
  rw [cw_tw s hs]; exact ce_add (by omega) h
/-- the law's core, maximal, hits of a set W -/
def cw_C (W : Nat → Bool) (m : Nat) : Prop := W m = false ∧ ∀ s, s < 8 → m.testBit s = true → W (m ^^^ 2 ^ s) = true
def cw_M (W : Nat → Bool) (F m : Nat) : Prop := W m = true ∧ ∀ s, s < 8 → F.testBit s = true → m.testBit s = false → W (m ^^^ 2 ^ s) = false
def cw_H (X : Nat → Bool) (m : Nat) : Prop := ∀ x, x < 256 → X x = true → ¬ ce_sub m x
def cw_N (X : Nat → Bool) (m : Nat) : Prop := cw_H X m ∧ ∀ s, s < 8 → m.testBit s = true → ¬ cw_H X (m ^^^ 2 ^ s)
theorem cw_c19 {post : Int32 → Prop} {a b c d : Int64} {m : Nat} (hm : m < 256)
    (ht : (∀ s, s < 8 → m.testBit s = true → cw_in a b c d (m ^^^ 2 ^ s) = true) → post 1) (hf : ¬ (∀ s, s < 8 → m.testBit s = true → cw_in a b c d (m ^^^ 2 ^ s) = true) → post 0) :
    ∀ k s : Nat, s + k = 8 → (∀ q, q < s → m.testBit q = true → cw_in a b c d (m ^^^ 2 ^ q) = true) → wL_core_19 post a b c d (nI m) (k + 1) (nI (2 ^ s)) := by
  intro k
  induction k with
  | zero =>
    intro s hs hq
    have e : s = 8 := by omega
    subst e
    exact br_t (nI_le (a := 256) (b := 2 ^ 8) (by decide) (by decide)) (ht hq)
  | succ k ih =>
    intro s hs hq
    have hs8 : s < 8 := by omega
    have next : (m.testBit s = true → cw_in a b c d (m ^^^ 2 ^ s) = true) → wL_core_19 post a b c d (nI m) (k + 1) (nI (2 ^ s) <<< ((1 : Int32) &&& 31)) := by
      intro z
      rw [cw_tn s hs8]
      exact ih (s + 1) (by omega) (fun q h hb => by
        by_cases e : q = s
        · subst e; exact z hb
        · exact hq q (by omega) hb)
    refine br_f (nI_ge (b := 256) (ce_pw hs8) (by decide)) (br_c (fun z => nm_e (next (fun w => ?_))) (fun z => ?_))
    · rw [(cw_th hs8).mp z] at w; cases w
    · have hb : m.testBit s = true := ce_nf (fun w => z ((cw_th hs8).mpr w))
      rw [nx_xor]
      exact cw_wpin (ce_xl hm hs8) (fun h => br_f (by decide) (nm_e (next (fun _ => h)))) (fun h => br_t rfl (hf (fun w => by rw [w s hs8 hb] at h; cases h)))
theorem cw_core {post : Int32 → Prop} {a b c d : Int64} {m : Nat} (hm : m < 256) (ht : cw_C (cw_in a b c d) m → post 1) (hf : ¬ cw_C (cw_in a b c d) m → post 0) : wpL_core post () a b c d (nI m) := by
  unfold wpL_core
  exact cw_wpin hm (fun h => br_f (by decide) (hf (fun w => by rw [w.1] at h; cases h))) (fun h => br_t rfl ⟨9, cw_c19 hm (fun w => ht ⟨h, w⟩) (fun w => hf (fun z => w z.2)) 8 0 rfl (fun q z => absurd z (Nat.not_lt_zero q))⟩)
theorem cw_m19 {post : Int32 → Prop} {a b c d : Int64} {F m : Nat} (hm : m < 256) (hF : F < 256)
    (ht : (∀ s, s < 8 → F.testBit s = true → m.testBit s = false → cw_in a b c d (m ^^^ 2 ^ s) = false) → post 1) (hf : ¬ (∀ s, s < 8 → F.testBit s = true → m.testBit s = false → cw_in a b c d (m ^^^ 2 ^ s) = false) → post 0) :
    ∀ k s : Nat, s + k = 8 → (∀ q, q < s → F.testBit q = true → m.testBit q = false → cw_in a b c d (m ^^^ 2 ^ q) = false) → wL_maximal_19 post a b c d (nI F) (nI m) (k + 1) (nI (2 ^ s)) := by
  intro k
  induction k with
  | zero =>
    intro s hs hq
    have e : s = 8 := by omega
    subst e
    exact br_t (nI_le (a := 256) (b := 2 ^ 8) (by decide) (by decide)) (ht hq)
  | succ k ih =>
    intro s hs hq
    have hs8 : s < 8 := by omega
    have hD : (F &&& (255 ^^^ m)).testBit s = true ↔ F.testBit s = true ∧ m.testBit s = false := by
      have q : (255 : Nat).testBit s = true := (by decide : ∀ i, i < 8 → (255 : Nat).testBit i = true) s hs8
      rw [Nat.testBit_and, Nat.testBit_xor, q]
      cases F.testBit s <;> cases m.testBit s <;> simp
    have next : (F.testBit s = true → m.testBit s = false → cw_in a b c d (m ^^^ 2 ^ s) = false) → wL_maximal_19 post a b c d (nI F) (nI m) (k + 1) (nI (2 ^ s) <<< ((1 : Int32) &&& 31)) := by
      intro z
      rw [cw_tn s hs8]
      exact ih (s + 1) (by omega) (fun q h hb => by
        by_cases e : q = s
        · subst e; exact z hb
        · exact hq q (by omega) hb)
    refine br_f (nI_ge (b := 256) (ce_pw hs8) (by decide)) (br_c (fun z => nm_e (next (fun w1 w2 => ?_))) (fun z => ?_))
    · rw [ce_diff hF, cw_th hs8] at z
      rw [hD.mpr ⟨w1, w2⟩] at z; cases z
    · rw [ce_diff hF, cw_th hs8] at z
      obtain ⟨h1, h2⟩ := hD.mp (ce_nf z)
      rw [cw_to hs8 h2]
      exact cw_wpin (ce_xl hm hs8) (fun h => br_f (by decide) (hf (fun w => by rw [w s hs8 h1 h2] at h; cases h))) (fun h => br_t rfl (nm_e (next (fun _ _ => h))))
theorem cw_maxi {post : Int32 → Prop} {a b c d : Int64} {F m : Nat} (hm : m < 256) (hF : F < 256) (ht : cw_M (cw_in a b c d) F m → post 1) (hf : ¬ cw_M (cw_in a b c d) F m → post 0) : wpL_maximal post () a b c d (nI F) (nI m) := by
  unfold wpL_maximal
  exact cw_wpin hm (fun h => br_f (by decide) ⟨9, cw_m19 hm hF (fun w => ht ⟨h, w⟩) (fun w => hf (fun z => w z.2)) 8 0 rfl (fun q z => absurd z (Nat.not_lt_zero q))⟩) (fun h => br_t rfl (hf (fun w => by rw [w.1] at h; cases h)))
theorem cw_subF {m F : Nat} (h : ce_sub m F) : m &&& F = m := by
  apply Nat.eq_of_testBit_eq
  intro i
  rw [Nat.testBit_and]
  have q := h i
  revert q
  cases m.testBit i <;> cases F.testBit i <;> simp
theorem cw_h3 {post : Int32 → Prop} {a b c d : Int64} {F m : Nat} (hm : m < 256) (hs : ce_sub m F) (ht : cw_H (cw_in a b c d) m → post 1) (hf : ¬ cw_H (cw_in a b c d) m → post 0) :
    ∀ k i : Nat, i + k = 256 → (∀ x, x < i → cw_in a b c d x = true → ¬ ce_sub m x) → wL_hits_3 post a b c d (nI F) (nI m) (k + 1) (nI i) := by
  intro k
  induction k with
  | zero =>
    intro i hi hq
    exact br_t (nI_le (a := 256) (by omega) (by omega)) (ht (fun x hx => hq x (by omega)))
  | succ k ih =>
    intro i hi hq
    have next : (cw_in a b c d i = true → ¬ ce_sub m i) → wL_hits_3 post a b c d (nI F) (nI m) (k + 1) (nI i + 1) := by
      intro z
      rw [nI_1 i]
      exact ih (i + 1) (by omega) (fun x h hb => by
        by_cases e : x = i
        · subst e; exact z hb
        · exact hq x (by omega) hb)
    refine br_f (nI_ge (b := 256) (by omega) (by decide)) (cw_wpin (by omega) (fun h => br_f (by decide) ?_) (fun h => br_t rfl (nm_e (next (fun w => by rw [h] at w; cases w)))))
    rw [nx_and, cw_subF hs]
    exact br_c (fun z => hf (fun w => w i (by omega) h ((ce_inN hm).mp z))) (fun z => nm_e (next (fun _ w => z ((ce_inN hm).mpr w))))
theorem cw_hits {post : Int32 → Prop} {a b c d : Int64} {F m : Nat} (hm : m < 256) (hs : ce_sub m F) (ht : cw_H (cw_in a b c d) m → post 1) (hf : ¬ cw_H (cw_in a b c d) m → post 0) : wpL_hits post () a b c d (nI F) (nI m) :=
  ⟨257, cw_h3 hm hs ht hf 256 0 rfl (fun x h => absurd h (Nat.not_lt_zero x))⟩
theorem cw_n21 {post : Int32 → Prop} {a b c d : Int64} {F m : Nat} (hm : m < 256) (hs : ce_sub m F)
    (ht : (∀ s, s < 8 → m.testBit s = true → ¬ cw_H (cw_in a b c d) (m ^^^ 2 ^ s)) → post 1) (hf : ¬ (∀ s, s < 8 → m.testBit s = true → ¬ cw_H (cw_in a b c d) (m ^^^ 2 ^ s)) → post 0) :
    ∀ k s : Nat, s + k = 8 → (∀ q, q < s → m.testBit q = true → ¬ cw_H (cw_in a b c d) (m ^^^ 2 ^ q)) → wL_minimalHit_21 post a b c d (nI F) (nI m) (k + 1) (nI (2 ^ s)) := by
  intro k
  induction k with
  | zero =>
    intro s hd hq
    have e : s = 8 := by omega
    subst e
    exact br_t (nI_le (a := 256) (b := 2 ^ 8) (by decide) (by decide)) (ht hq)
  | succ k ih =>
    intro s hd hq
    have hs8 : s < 8 := by omega
    have next : (m.testBit s = true → ¬ cw_H (cw_in a b c d) (m ^^^ 2 ^ s)) → wL_minimalHit_21 post a b c d (nI F) (nI m) (k + 1) (nI (2 ^ s) <<< ((1 : Int32) &&& 31)) := by
      intro z
      rw [cw_tn s hs8]
      exact ih (s + 1) (by omega) (fun q h hb => by
        by_cases e : q = s
        · subst e; exact z hb
        · exact hq q (by omega) hb)
    refine br_f (nI_ge (b := 256) (ce_pw hs8) (by decide)) (br_c (fun z => nm_e (next (fun w => ?_))) (fun z => ?_))
    · rw [(cw_th hs8).mp z] at w; cases w
    · have hb : m.testBit s = true := ce_nf (fun w => z ((cw_th hs8).mpr w))
      rw [nx_xor]
      exact cw_hits (ce_xl hm hs8) (ce_sub_trans (ce_sub_del hb) hs) (fun h => br_f (by decide) (hf (fun w => w s hs8 hb h))) (fun h => br_t rfl (nm_e (next (fun _ => h))))
theorem cw_mh {post : Int32 → Prop} {a b c d : Int64} {F m : Nat} (hm : m < 256) (hs : ce_sub m F) (ht : cw_N (cw_in a b c d) m → post 1) (hf : ¬ cw_N (cw_in a b c d) m → post 0) : wpL_minimalHit post () a b c d (nI F) (nI m) := by
  unfold wpL_minimalHit
  exact cw_hits hm hs (fun h => br_f (by decide) ⟨9, cw_n21 hm hs (fun w => ht ⟨h, w⟩) (fun w => hf (fun z => w z.2)) 8 0 rfl (fun q z => absurd z (Nat.not_lt_zero q))⟩) (fun h => br_t rfl (hf (fun w => h w.1)))
/-- what the three are, where W are the satisfiable subsets, X the maximals -/
theorem cw_C_i {S : Nat → Prop} {F m : Nat} {W : Nat → Bool} (hW : ∀ j, j < 256 → (W j = true ↔ ce_sub j F ∧ S j)) (hm : m < 256) (hs : ce_sub m F) : cw_C W m ↔ ce_core S F m := by
  constructor
  · rintro ⟨h1, h2⟩
    exact ⟨hs, (fun z => by rw [(hW m hm).mpr ⟨hs, z⟩] at h1; cases h1), fun s hb => ((hW _ (ce_xl hm (ce_lo hm hb))).mp (h2 s (ce_lo hm hb) hb)).2⟩
  · rintro ⟨_, h1, h2⟩
    exact ⟨ce_nt (fun z => h1 ((hW m hm).mp z).2), fun s h8 hb => (hW _ (ce_xl hm h8)).mpr ⟨ce_sub_trans (ce_sub_del hb) hs, h2 s hb⟩⟩
theorem cw_M_i {S : Nat → Prop} {F m : Nat} {W : Nat → Bool} (hF : F < 256) (hW : ∀ j, j < 256 → (W j = true ↔ ce_sub j F ∧ S j)) (hm : m < 256) (hs : ce_sub m F) : cw_M W F m ↔ ce_maxi S F m := by
  constructor
  · rintro ⟨h1, h2⟩
    refine ⟨hs, ((hW m hm).mp h1).2, fun s hb hc z => ?_⟩
    have h8 := ce_lo hF hb
    have q := h2 s h8 hb hc
    rw [(hW _ (ce_xl hm h8)).mpr ⟨ce_sub_ins hs hb, z⟩] at q
    cases q
  · rintro ⟨_, h1, h2⟩
    exact ⟨(hW m hm).mpr ⟨hs, h1⟩, fun s h8 hb hc => ce_nt (fun z => h2 s hb hc ((hW _ (ce_xl hm h8)).mp z).2)⟩
theorem cw_H_i {S : Nat → Prop} {F m : Nat} {X : Nat → Bool} (hS : ∀ a b, ce_sub a b → S b → S a) (hF : F < 256) (hX : ∀ j, j < 256 → (X j = true ↔ ce_maxi S F j)) (hs : ce_sub m F) : cw_H X m ↔ ¬ S m := by
  constructor
  · intro h z
    obtain ⟨x, hx, hk⟩ := ce_ex_max hF 256 m (by omega) hs z
    have hx256 := ce_sub_lt hF hx.1
    exact h x hx256 ((hX x hx256).mpr hx) hk
  · intro h x hx hX' hk
    exact h (hS _ _ hk ((hX x hx).mp hX').2.1)
theorem cw_N_i {S : Nat → Prop} {F m : Nat} {X : Nat → Bool} (hS : ∀ a b, ce_sub a b → S b → S a) (hF : F < 256) (hX : ∀ j, j < 256 → (X j = true ↔ ce_maxi S F j)) (hm : m < 256) (hs : ce_sub m F) : cw_N X m ↔ ce_core S F m := by
  constructor
  · rintro ⟨h1, h2⟩
    refine ⟨hs, (cw_H_i hS hF hX hs).mp h1, fun s hb => Classical.byContradiction (fun z => h2 s (ce_lo hm hb) hb ?_)⟩
    exact (cw_H_i hS hF hX (ce_sub_trans (ce_sub_del hb) hs)).mpr z
  · rintro ⟨_, h1, h2⟩
    exact ⟨(cw_H_i hS hF hX hs).mpr h1, fun s h8 hb z => (cw_H_i hS hF hX (ce_sub_trans (ce_sub_del hb) hs)).mp z (h2 s hb)⟩
