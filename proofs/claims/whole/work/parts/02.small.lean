/-! the packed ints, the small tests of both sides -/
def ll_A (w : Int32) (r : Nat) : Nat := ((w >>> ((2 * nI r) &&& 31)) &&& 3).toNatClampNeg
def ll_H (w : Int32) (r : Nat) : Nat := ((w >>> ((4 * nI r) &&& 31)) &&& 15).toNatClampNeg
def ll_pA (pa : Nat → Int32) (s r : Nat) : Nat := ll_A (pa s) r
def ll_pH (ps : Nat → Int32) (s r : Nat) : Nat := ll_H (ps s) r
theorem ll_A_e (w : Int32) (r : Nat) : (w >>> ((2 * nI r) &&& 31)) &&& 3 = nI (ll_A w r) ∧ ll_A w r < 4 := by
  obtain ⟨j, hj, e⟩ := pk_andE (w >>> ((2 * nI r) &&& 31)) (m := 3) 2 (by decide)
  unfold ll_A
  rw [e, nI_clamp (n := j) (by omega)]
  exact ⟨rfl, hj⟩
theorem ll_H_e (w : Int32) (r : Nat) : (w >>> ((4 * nI r) &&& 31)) &&& 15 = nI (ll_H w r) ∧ ll_H w r < 16 := by
  obtain ⟨j, hj, e⟩ := pk_andE (w >>> ((4 * nI r) &&& 31)) (m := 15) 4 (by decide)
  unfold ll_H
  rw [e, nI_clamp (n := j) (by omega)]
  exact ⟨rfl, hj⟩
theorem ll_aI {post : Int32 → Prop} {w : Int32} {r : Nat} (h : post (nI (ll_A w r))) : wpX_arrayIn post w (nI r) := by
  unfold wpX_arrayIn
  rw [(ll_A_e w r).1]
  exact h
theorem ll_sI {post : Int32 → Prop} {w : Int32} {r : Nat} (h : post (nI (ll_H w r) - 4)) : wpX_shiftIn post w (nI r) := by
  unfold wpX_shiftIn
  rw [(ll_H_e w r).1]
  exact h
theorem ll_3 {P : Nat → Prop} (h0 : P 0) (h1 : P 1) (h2 : P 2) : ∀ r, r < 3 → P r := by
  intro r hr
  match r, hr with
  | 0, _ => exact h0
  | 1, _ => exact h1
  | 2, _ => exact h2
/-- both sides' test of an array's number -/
theorem ll_isA (x : Int32) : (∃ j : Nat, j < 3 ∧ x = nI j ∧ (∀ post : Int32 → Prop, post 1 → wpX_isArray post x) ∧ (∀ (post : Int32 → Prop) (v : SY), post 0 → wpY_badArray post v x)) ∨ ((∀ post : Int32 → Prop, post 0 → wpX_isArray post x) ∧ (∀ (post : Int32 → Prop) (v : SY), post 1 → wpY_badArray post v x)) := by
  by_cases h : x < 0
  · refine Or.inr ⟨fun post p => br_t h p, fun post v p => ?_⟩
    obtain ⟨v1, v2, v3, v4, v5, v6⟩ := v
    exact br_t h p
  · obtain ⟨j, hj, rfl⟩ := nI_of h
    by_cases h3 : j < 3
    · refine Or.inl ⟨j, h3, rfl, fun post p => ?_, fun post v p => ?_⟩
      · exact br_f h (pk_le 3 j (fun z => absurd z (by omega)) (fun _ => p))
      · obtain ⟨v1, v2, v3, v4, v5, v6⟩ := v
        exact br_f h (pk_le j 2 (fun _ => p) (fun z => absurd z (by omega)))
    · refine Or.inr ⟨fun post p => ?_, fun post v p => ?_⟩
      · exact br_f h (pk_le 3 j (fun _ => p) (fun z => absurd z (by omega)))
      · obtain ⟨v1, v2, v3, v4, v5, v6⟩ := v
        exact br_f h (pk_le j 2 (fun z => absurd z (by omega)) (fun _ => p))
/-- both sides' test of a cell's number -/
theorem ll_isC (x : Int32) : (∃ j : Nat, j < 32 ∧ x = nI j ∧ (∀ post : Int32 → Prop, post 1 → wpX_isCell post x) ∧ (∀ (post : Int32 → Prop) (v : SY), post 0 → wpY_badCell post v x)) ∨ ((∀ post : Int32 → Prop, post 0 → wpX_isCell post x) ∧ (∀ (post : Int32 → Prop) (v : SY), post 1 → wpY_badCell post v x)) := by
  by_cases h : x < 0
  · refine Or.inr ⟨fun post p => br_t h p, fun post v p => ?_⟩
    obtain ⟨v1, v2, v3, v4, v5, v6⟩ := v
    exact br_t h p
  · obtain ⟨j, hj, rfl⟩ := nI_of h
    by_cases h3 : j < 32
    · refine Or.inl ⟨j, h3, rfl, fun post p => ?_, fun post v p => ?_⟩
      · exact br_f h (pk_le 32 j (fun z => absurd z (by omega)) (fun _ => p))
      · obtain ⟨v1, v2, v3, v4, v5, v6⟩ := v
        exact br_f h (pk_le j 31 (fun _ => p) (fun z => absurd z (by omega)))
    · refine Or.inr ⟨fun post p => ?_, fun post v p => ?_⟩
      · exact br_f h (pk_le 32 j (fun _ => p) (fun z => absurd z (by omega)))
      · obtain ⟨v1, v2, v3, v4, v5, v6⟩ := v
        exact br_f h (pk_le j 31 (fun z => absurd z (by omega)) (fun _ => p))
/-- both sides' test of a statement's number -/
theorem ll_isS (m : Nat) (hm : m ≤ 4) (x : Int32) (c1 c2 c3 c4 c5 c6 d1 d2 d3 d4 d5 : Nat → Int32) :
    (∃ j : Nat, j < m ∧ x = nI j ∧ (∀ post : Int32 → Prop, post 1 → wpX_isStatement post (nI m, c1, c2, c3, c4, c5, c6) x) ∧ (∀ post : Int32 → Prop, post 0 → wpY_noStatement post (nI m, d1, d2, d3, d4, d5) x)) ∨
    ((∀ post : Int32 → Prop, post 0 → wpX_isStatement post (nI m, c1, c2, c3, c4, c5, c6) x) ∧ (∀ post : Int32 → Prop, post 1 → wpY_noStatement post (nI m, d1, d2, d3, d4, d5) x)) := by
  by_cases h : x < 0
  · exact Or.inr ⟨fun post p => br_t h p, fun post p => br_t h p⟩
  · obtain ⟨j, hj, rfl⟩ := nI_of h
    by_cases h3 : j < m
    · refine Or.inl ⟨j, h3, rfl, fun post p => ?_, fun post p => ?_⟩
      · exact br_f h (pk_le m j (fun z => absurd z (by omega)) (fun _ => p))
      · exact br_f h (pk_lt j m (fun _ => p) (fun z => absurd z (by omega)))
    · refine Or.inr ⟨fun post p => ?_, fun post p => ?_⟩
      · exact br_f h (pk_le m j (fun _ => p) (fun z => absurd z (by omega)))
      · exact br_f h (pk_lt j m (fun z => absurd z (by omega)) (fun _ => p))
/-- a shift added to an index, as a place -/
theorem ll_pl_e {a i h : Nat} (k : 4 ≤ i + h) : nI a * 32 + nI i + (nI h - 4) = nI (a * 32 + (i + h - 4)) := by
  have e : nI (a * 32 + (i + h - 4)) = nI (a * 32 + i + h) - nI 4 := by
    rw [pk_sub (by omega)]
    exact congrArg nI (by omega)
  rw [e, ← nI_add, ← nI_add, ← pk_mul]
  show nI a * 32 + nI i + (nI h - 4) = nI a * 32 + nI i + nI h - 4
  grind
theorem ll_sh_eq {x y d : Nat} (hx : x < 16) (hy : y < 16) (hd : d < 9) : (nI x - 4 = nI y - 4 + nI d) ↔ x = y + d := by
  have e : (nI x - 4 = nI y - 4 + nI d) ↔ nI x = nI (y + d) := by
    rw [← nI_add]
    constructor
    · intro h; grind
    · intro h; grind
  rw [e, nI_eq (by omega) (by omega)]
theorem ll_sh_le : ∀ h, h < 16 → ((nI h - 4 ≤ (4 : Int32)) ↔ h ≤ 8) := by decide +kernel
/-- an index with a shift is a cell's number just where it lies inside -/
theorem ll_ic {i h : Nat} (hi : i < 32) (hh : h < 16) : (4 ≤ i + h ∧ i + h < 36 ∧ nI i + (nI h - 4) = nI (i + h - 4)) ∨ (¬ (4 ≤ i + h ∧ i + h < 36) ∧ (nI i + (nI h - 4) < 0 ∨ ∃ j : Nat, 32 ≤ j ∧ j < 64 ∧ nI i + (nI h - 4) = nI j)) := by
  have e : nI i + (nI h - 4) = nI (i + h) - nI 4 := by
    rw [← nI_add]
    show nI i + (nI h - 4) = nI i + nI h - 4
    grind
  by_cases h4 : 4 ≤ i + h
  · have e2 : nI i + (nI h - 4) = nI (i + h - 4) := e.trans (pk_sub h4)
    by_cases h36 : i + h < 36
    · exact Or.inl ⟨h4, h36, e2⟩
    · exact Or.inr ⟨fun z => h36 z.2, Or.inr ⟨i + h - 4, by omega, by omega, e2⟩⟩
  · refine Or.inr ⟨fun z => h4 z.1, Or.inl ?_⟩
    rw [e]
    have : i + h = 0 ∨ i + h = 1 ∨ i + h = 2 ∨ i + h = 3 := by omega
    rcases this with z | z | z | z <;> rw [z] <;> decide +kernel
theorem ll_icX {post : Int32 → Prop} {i h : Nat} (hi : i < 32) (hh : h < 16) (p1 : 4 ≤ i + h ∧ i + h < 36 → post 1) (p0 : ¬ (4 ≤ i + h ∧ i + h < 36) → post 0) : wpX_isCell post (nI i + (nI h - 4)) := by
  rcases ll_ic hi hh with ⟨a, b, e⟩ | ⟨n, e | ⟨j, a, b, e⟩⟩
  · rw [e]
    exact br_f (nI_pos (by omega)) (pk_le 32 (i + h - 4) (fun z => absurd z (by omega)) (fun _ => p1 ⟨a, b⟩))
  · exact br_t e (p0 n)
  · rw [e]
    exact br_f (nI_pos (by omega)) (pk_le 32 j (fun _ => p0 n) (fun z => absurd z (by omega)))
theorem ll_icY {post : Int32 → Prop} {v : SY} {i h : Nat} (hi : i < 32) (hh : h < 16) (p1 : 4 ≤ i + h ∧ i + h < 36 → post 0) (p0 : ¬ (4 ≤ i + h ∧ i + h < 36) → post 1) : wpY_badCell post v (nI i + (nI h - 4)) := by
  obtain ⟨v1, v2, v3, v4, v5, v6⟩ := v
  rcases ll_ic hi hh with ⟨a, b, e⟩ | ⟨n, e | ⟨j, a, b, e⟩⟩
  · rw [e]
    exact br_f (nI_pos (by omega)) (pk_le (i + h - 4) 31 (fun _ => p1 ⟨a, b⟩) (fun z => absurd z (by omega)))
  · exact br_t e (p0 n)
  · rw [e]
    exact br_f (nI_pos (by omega)) (pk_le j 31 (fun z => absurd z (by omega)) (fun _ => p0 n))
