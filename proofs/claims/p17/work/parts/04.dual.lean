/-! each unsatisfiable subset holds a core, each satisfiable one lies in a maximal -/
theorem ce_del_lt {m s : Nat} (h : m.testBit s = true) : m ^^^ 2 ^ s < m := by
  have a := ce_sub_le (ce_sub_del h)
  have b : m ^^^ 2 ^ s ≠ m := by
    intro e
    have q := ce_xt m s s
    rw [e, h] at q
    simp at q
  omega
theorem ce_add_lt {m s : Nat} (h : m.testBit s = false) : m < m ^^^ 2 ^ s := by
  have a := ce_sub_le (ce_sub_add h)
  have b : m ^^^ 2 ^ s ≠ m := by
    intro e
    have q := ce_xt m s s
    rw [e, h] at q
    simp at q
  omega
theorem ce_sub_ins {m s F : Nat} (h : ce_sub m F) (hs : F.testBit s = true) : ce_sub (m ^^^ 2 ^ s) F := by
  intro i hi
  rw [ce_xt] at hi
  by_cases z : s = i
  · subst z; exact hs
  · exact h i (by simpa [z] using hi)
theorem ce_ex_core {S : Nat → Prop} {F : Nat} (m : Nat) : ce_sub m F → ¬ S m → ∃ x, ce_core S F x ∧ ce_sub x m := by
  induction m using Nat.strongRecOn with
  | ind m ih =>
    intro hF hS
    by_cases h : ∃ s, m.testBit s = true ∧ ¬ S (m ^^^ 2 ^ s)
    · obtain ⟨s, hs, n⟩ := h
      have d := ce_sub_del hs
      obtain ⟨x, hx, k⟩ := ih (m ^^^ 2 ^ s) (ce_del_lt hs) (ce_sub_trans d hF) n
      exact ⟨x, hx, ce_sub_trans k d⟩
    · exact ⟨m, ⟨hF, hS, fun s hs => Classical.byContradiction fun n => h ⟨s, hs, n⟩⟩, ce_sub_refl m⟩
theorem ce_ex_max {S : Nat → Prop} {F : Nat} (hF : F < 256) : ∀ d m, 256 - m ≤ d → ce_sub m F → S m → ∃ x, ce_maxi S F x ∧ ce_sub m x := by
  intro d
  induction d with
  | zero =>
    intro m hd hm _
    have q := ce_sub_lt hF hm
    omega
  | succ d ih =>
    intro m hd hm hs
    by_cases h : ∃ s, F.testBit s = true ∧ m.testBit s = false ∧ S (m ^^^ 2 ^ s)
    · obtain ⟨s, a, b, c⟩ := h
      have l := ce_add_lt b
      have q := ce_sub_lt hF hm
      obtain ⟨x, hx, k⟩ := ih (m ^^^ 2 ^ s) (by omega) (ce_sub_ins hm a) c
      exact ⟨x, hx, ce_sub_trans (ce_sub_add b) k⟩
    · exact ⟨m, ⟨hm, hs, fun s a b c => h ⟨s, a, b, c⟩⟩, ce_sub_refl m⟩
