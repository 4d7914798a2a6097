/-! the lists are sorted; what is open, what the verdicts tell; sets of masks in four longs -/
theorem cp_pw {P : Nat → Prop} {f : Nat → Nat} {R : Nat → Nat → Prop} : ∀ n, (∀ i j, i < j → j < n → R (f i) (f j)) → (ce_ls P f n).Pairwise R := by
  intro n
  induction n with
  | zero => intro _; exact List.Pairwise.nil
  | succ n ih =>
    intro h
    have h1 := ih (fun i j a b => h i j a (by omega))
    by_cases p : P (f n)
    · rw [ce_ls_t p, List.pairwise_append]
      refine ⟨h1, List.pairwise_singleton _ _, fun a ha b hb => ?_⟩
      rw [List.mem_singleton] at hb
      subst hb
      obtain ⟨k, hk, rfl, _⟩ := ce_ls_mem.mp ha
      exact h k n hk (by omega)
    · rw [ce_ls_f p]; exact h1
theorem cp_at {l : List Nat} {R : Nat → Nat → Prop} (h : l.Pairwise R) {i j x y : Nat} (hij : i < j) (hx : l[i]? = some x) (hy : l[j]? = some y) : R x y := by
  obtain ⟨hi, rfl⟩ := List.getElem?_eq_some_iff.mp hx
  obtain ⟨hj, rfl⟩ := List.getElem?_eq_some_iff.mp hy
  exact List.pairwise_iff_getElem.mp h i j hi hj hij
noncomputable abbrev cp_CL (S : Nat → Prop) (F : Nat) : List Nat := ce_ls (ce_core S F) (fun k => k) 256
noncomputable abbrev cp_ML (S : Nat → Prop) (F : Nat) : List Nat := ce_ls (ce_maxi S F) (fun k => 255 - k) 256
theorem cp_CLs (S : Nat → Prop) (F : Nat) : (cp_CL S F).Pairwise (fun x y => x < y) := cp_pw 256 (fun i j h _ => h)
theorem cp_MLs (S : Nat → Prop) (F : Nat) : (cp_ML S F).Pairwise (fun x y => y < x) := cp_pw 256 (fun i j h h2 => by show 255 - j < 255 - i; omega)
theorem cp_CLm {S : Nat → Prop} {F k x : Nat} (h : (cp_CL S F)[k]? = some x) : x < 256 ∧ ce_core S F x := by
  obtain ⟨j, hj, e, p⟩ := ce_ls_mem.mp (List.mem_of_getElem? h)
  have e : x = j := e
  exact ⟨by omega, p⟩
theorem cp_MLm {S : Nat → Prop} {F k x : Nat} (h : (cp_ML S F)[k]? = some x) : x < 256 ∧ ce_maxi S F x := by
  obtain ⟨j, hj, e, p⟩ := ce_ls_mem.mp (List.mem_of_getElem? h)
  have e : x = 255 - j := e
  exact ⟨by omega, p⟩
theorem cp_CLi {S : Nat → Prop} {F x : Nat} (hx : x < 256) (h : ce_core S F x) : ∃ k, k < (cp_CL S F).length ∧ (cp_CL S F)[k]? = some x := by
  obtain ⟨k, hk⟩ := List.getElem?_of_mem (ce_ls_mem.mpr ⟨x, hx, rfl, h⟩ : x ∈ cp_CL S F)
  exact ⟨k, (List.getElem?_eq_some_iff.mp hk).1, hk⟩
theorem cp_MLi {S : Nat → Prop} {F x : Nat} (hx : x < 256) (h : ce_maxi S F x) : ∃ k, k < (cp_ML S F).length ∧ (cp_ML S F)[k]? = some x := by
  obtain ⟨k, hk⟩ := List.getElem?_of_mem (ce_ls_mem.mpr ⟨255 - x, by omega, by show x = 255 - (255 - x); omega, h⟩ : x ∈ cp_ML S F)
  exact ⟨k, (List.getElem?_eq_some_iff.mp hk).1, hk⟩
theorem cp_v1 {S : Nat → Prop} {F g m : Nat} (hS : ∀ a b, ce_sub a b → S b → S a) (h : ce_up1 (cp_ML S F) g m) : S m := by
  obtain ⟨k, x, _, hx, hs⟩ := h
  exact hS _ _ hs (cp_MLm hx).2.2.1
theorem cp_v2 {S : Nat → Prop} {F e m : Nat} (hS : ∀ a b, ce_sub a b → S b → S a) (h : ce_dn1 (cp_CL S F) e m) : ¬ S m := by
  obtain ⟨k, x, _, hx, hs⟩ := h
  exact fun z => (cp_CLm hx).2.2.1 (hS _ _ hs z)
theorem cp_gr {P : Nat → Prop} {r : Int32} (h : ce_great P r) : r = -19 ↔ ∀ m, m < 256 → ¬ P m := by
  rcases h with ⟨m, hm, pm, _, rfl⟩ | ⟨h, rfl⟩
  · exact ⟨fun e => absurd e (ce_n19 (by omega)), fun z => absurd pm (z m hm)⟩
  · exact ⟨fun _ => h, fun _ => rfl⟩
theorem cp_all {S : Nat → Prop} {F e g : Nat} (hS : ∀ a b, ce_sub a b → S b → S a) (hF : F < 256) (he : e ≤ (cp_CL S F).length) (hg : g ≤ (cp_ML S F).length) {r : Int32} (hr : ce_great (ce_op (cp_CL S F) (cp_ML S F) e g F) r) :
    r = -19 ↔ e = (cp_CL S F).length ∧ g = (cp_ML S F).length := by
  rw [cp_gr hr]
  constructor
  · intro h
    constructor
    · rcases Nat.lt_or_ge e (cp_CL S F).length with z | z
      · exfalso
        have hx : (cp_CL S F)[e]? = some (cp_CL S F)[e] := List.getElem?_eq_getElem z
        generalize (cp_CL S F)[e] = x at hx
        obtain ⟨hx256, hc⟩ := cp_CLm hx
        refine h x hx256 ⟨hc.1, fun w => hc.2.1 (cp_v1 hS w), ?_⟩
        rintro ⟨k, y, hk, hy, hs⟩
        have lt := cp_at (cp_CLs S F) hk hy hx
        exact (cp_CLm hy).2.2.1 (((ce_core_all hS).mp hc).2.2 y hs (by omega))
      · omega
    · rcases Nat.lt_or_ge g (cp_ML S F).length with z | z
      · exfalso
        have hx : (cp_ML S F)[g]? = some (cp_ML S F)[g] := List.getElem?_eq_getElem z
        generalize (cp_ML S F)[g] = x at hx
        obtain ⟨hx256, hc⟩ := cp_MLm hx
        refine h x hx256 ⟨hc.1, ?_, fun w => cp_v2 hS w hc.2.1⟩
        rintro ⟨k, y, hk, hy, hs⟩
        have lt := cp_at (cp_MLs S F) hk hy hx
        have hy2 := (cp_MLm hy).2
        exact ((ce_maxi_all hS).mp hc).2.2 y hs hy2.1 (by omega) hy2.2.1
      · omega
  · rintro ⟨he1, hg1⟩ m hm ⟨h1, h2, h3⟩
    by_cases s : S m
    · obtain ⟨x, hx, hs⟩ := ce_ex_max hF 256 m (by omega) h1 s
      obtain ⟨k, hk, hk2⟩ := cp_MLi (ce_sub_lt hF hx.1) hx
      exact h2 ⟨k, x, by omega, hk2, hs⟩
    · obtain ⟨x, hx, hs⟩ := ce_ex_core (S := S) (F := F) m h1 s
      obtain ⟨k, hk, hk2⟩ := cp_CLi (ce_sub_lt hF hx.1) hx
      exact h3 ⟨k, x, by omega, hk2, hs⟩
/-- the four words of a set, a mask in it -/
def cw_w (a b c d : Int64) (q : Nat) : Int64 := if q = 0 then a else if q = 1 then b else if q = 2 then c else d
def cw_in (a b c d : Int64) (m : Nat) : Bool := (cw_w a b c d (m / 64)).toBitVec.getLsbD (m % 64)
theorem cw_s : ∀ m, m < 256 → ((nI m &&& 63).toInt64.toUInt64 &&& Int64.toUInt64 63).toNat = m % 64 := by decide +kernel
theorem cw_sh : ∀ m, m < 256 → nI m >>> ((6 : Int32) &&& 31) = nI (m / 64) := by decide +kernel
theorem cw_1 : ∀ m, m < 256 → ((1 : Int64) <<< ((nI m &&& 63).toInt64 &&& 63)).toBitVec = BitVec.twoPow 64 (m % 64) := by decide +kernel
theorem cw_wpin {post : Int32 → Prop} {a b c d : Int64} {m : Nat} (hm : m < 256) (ht : cw_in a b c d m = true → post 1) (hf : cw_in a b c d m = false → post 0) : wpL_in post () a b c d (nI m) := by
  have q : ∀ z : Int64, ((z.toUInt64 >>> ((nI m &&& 63).toInt64.toUInt64 &&& Int64.toUInt64 63)).toInt64 &&& 1) = 0 ↔ z.toBitVec.getLsbD (m % 64) = false := fun z => ts_bit (Nat.mod_lt _ (by decide)) (cw_s m hm)
  have go : ∀ z : Int64, cw_w a b c d (m / 64) = z → wL_in_39 post (nI m) z := fun z e => br_c (fun h => hf (by unfold cw_in; rw [e]; exact (q z).mp h)) (fun h => ht (by unfold cw_in; rw [e]; exact ts_nf (fun w => h ((q z).mpr w))))
  refine nm_r (e' := nI (m / 64)) (cw_sh m hm) ?_
  exact pk_eq (m / 64) 0 (fun h => go a (by rw [h]; rfl)) (fun h => pk_eq (m / 64) 1 (fun h1 => go b (by rw [h1]; rfl)) (fun h1 => pk_eq (m / 64) 2 (fun h2 => go c (by rw [h2]; rfl)) (fun h2 => go d (by rw [show m / 64 = 3 by omega]; rfl))))
theorem cw_or {w : Int64} {m j : Nat} (hm : m < 256) : (w ||| ((1 : Int64) <<< ((nI m &&& 63).toInt64 &&& 63))).toBitVec.getLsbD (j % 64) = (w.toBitVec.getLsbD (j % 64) || decide (m % 64 = j % 64)) := by
  rw [Int64.toBitVec_or, BitVec.getLsbD_or, cw_1 m hm, BitVec.getLsbD_twoPow, decide_eq_true (Nat.mod_lt m (by decide : 0 < 64)), Bool.true_and]
theorem cw_upd {a b c d a' b' c' d' : Int64} {m : Nat} (hm : m < 256) (h : ∀ q, q < 4 → cw_w a' b' c' d' q = if q = m / 64 then (cw_w a b c d q ||| ((1 : Int64) <<< ((nI m &&& 63).toInt64 &&& 63))) else cw_w a b c d q) : ∀ j, j < 256 → cw_in a' b' c' d' j = (cw_in a b c d j || decide (j = m)) := by
  intro j hj
  unfold cw_in
  rw [h (j / 64) (by omega)]
  by_cases e : j / 64 = m / 64
  · rw [if_pos e, cw_or hm]
    congr 1
    exact decide_eq_decide.mpr ⟨fun h => by omega, fun h => by rw [h]⟩
  · rw [if_neg e, decide_eq_false (fun z => e (by rw [z])), Bool.or_false]
theorem cw_put4 {post : Int64 → Int64 → Int64 → Int64 → Prop} {a b c d : Int64} {m : Nat} (hm : m < 256) (hp : ∀ a' b' c' d', (∀ j, j < 256 → cw_in a' b' c' d' j = (cw_in a b c d j || decide (j = m))) → post a' b' c' d') :
    wpL_put (fun r0 => wpL_put (fun r1 => wpL_put (fun r2 => wpL_put (fun r3 => post r0 r1 r2 r3) () d 3 (nI m)) () c 2 (nI m)) () b 1 (nI m)) () a 0 (nI m) := by
  have t : ∀ q, m / 64 = q → nI m >>> ((6 : Int32) &&& 31) = nI q := fun q h => by rw [cw_sh m hm, h]
  have f : ∀ q, q < 4 → m / 64 ≠ q → ¬ nI m >>> ((6 : Int32) &&& 31) = nI q := fun q hq h => by rw [cw_sh m hm, nI_eq (by omega) (by omega)]; exact h
  rcases (by omega : m / 64 = 0 ∨ m / 64 = 1 ∨ m / 64 = 2 ∨ m / 64 = 3) with h | h | h | h
  · refine br_t (t 0 h) (br_f (f 1 (by decide) (by omega)) (br_f (f 2 (by decide) (by omega)) (br_f (f 3 (by decide) (by omega)) (hp _ _ _ _ (cw_upd hm ?_)))))
    rw [h]
    intro q hq
    match q, hq with
    | 0, _ => rfl
    | 1, _ => rfl
    | 2, _ => rfl
    | 3, _ => rfl
  · refine br_f (f 0 (by decide) (by omega)) (br_t (t 1 h) (br_f (f 2 (by decide) (by omega)) (br_f (f 3 (by decide) (by omega)) (hp _ _ _ _ (cw_upd hm ?_)))))
    rw [h]
    intro q hq
    match q, hq with
    | 0, _ => rfl
    | 1, _ => rfl
    | 2, _ => rfl
    | 3, _ => rfl
  · refine br_f (f 0 (by decide) (by omega)) (br_f (f 1 (by decide) (by omega)) (br_t (t 2 h) (br_f (f 3 (by decide) (by omega)) (hp _ _ _ _ (cw_upd hm ?_)))))
    rw [h]
    intro q hq
    match q, hq with
    | 0, _ => rfl
    | 1, _ => rfl
    | 2, _ => rfl
    | 3, _ => rfl
  · refine br_f (f 0 (by decide) (by omega)) (br_f (f 1 (by decide) (by omega)) (br_f (f 2 (by decide) (by omega)) (br_t (t 3 h) (hp _ _ _ _ (cw_upd hm ?_)))))
    rw [h]
    intro q hq
    match q, hq with
    | 0, _ => rfl
    | 1, _ => rfl
    | 2, _ => rfl
    | 3, _ => rfl
theorem cw_0 (j : Nat) : cw_in 0 0 0 0 j = false := by
  have e : cw_w 0 0 0 0 (j / 64) = 0 := by
    unfold cw_w
    simp
  unfold cw_in
  rw [e]
  exact BitVec.getLsbD_zero
