/-! the loops of statement, exchange, ramp, sum and differ on both sides -/
theorem ll_nA_X {post : Int32 → Prop} {w : Int32} (h1 : (∀ r, r < 3 → ll_A w r < 3) → post 1) (h0 : ¬ (∀ r, r < 3 → ll_A w r < 3) → post 0) : wpX_namesArrays post w := by
  refine loop_0 (fun n r (_ : Unit) => wX_namesArrays_2 post w n (nI r)) (fun k _ => ∀ r, r < k → ll_A w r < 3) 3 () lt_0 ?_ ?_
  · intro n _ I
    exact pk_le 3 3 (fun _ => h1 I) (fun z => absurd z (by omega))
  · intro n r _ hr I ih
    refine pk_le 3 r (fun z => absurd z (by omega)) (fun _ => ?_)
    have h4 := (ll_A_e w r).2
    refine ll_aI ?_
    exact pk_lt (ll_A w r) 3 (fun z => nm_r (nI_1 r) (ih () (lt_s I z))) (fun z => h0 (fun q => absurd (q r hr) (by omega)))
theorem ll_nS_X {post : Int32 → Prop} {w : Int32} (h1 : (∀ r, r < 3 → ll_H w r ≤ 8) → post 1) (h0 : ¬ (∀ r, r < 3 → ll_H w r ≤ 8) → post 0) : wpX_namesShifts post w := by
  refine loop_0 (fun n r (_ : Unit) => wX_namesShifts_2 post w n (nI r)) (fun k _ => ∀ r, r < k → ll_H w r ≤ 8) 3 () lt_0 ?_ ?_
  · intro n _ I
    exact pk_le 3 3 (fun _ => h1 I) (fun z => absurd z (by omega))
  · intro n r _ hr I ih
    refine pk_le 3 r (fun z => absurd z (by omega)) (fun _ => ?_)
    have h4 := ll_sh_le _ (ll_H_e w r).2
    refine ll_sI ?_
    exact br_c (fun z => nm_r (nI_1 r) (ih () (lt_s I (h4.mp z)))) (fun z => h0 (fun q => z (h4.mpr (q r hr))))
section
variable {ce op pa ps co la ar sh : Nat → Int32} {m : Nat} {post : Int32 → SY → Prop}
theorem ll_st3 {x1 x2 x3 x4 : Int32} (h0 : ¬ (∀ r, r < 3 → ll_A x2 r < 3) → post (-1) (nI m, op, co, ar, sh, ce))
    (h1 : (∀ r, r < 3 → ll_A x2 r < 3) → ∃ n32 : Nat, wY_statement_32 post x1 x2 x3 x4 (nI m) op co ar sh ce n32 0) :
    ∃ n3 : Nat, wY_statement_3 post x1 x2 x3 x4 (nI m) op co ar sh ce n3 0 := by
  refine loop_0 (fun n r (_ : Unit) => wY_statement_3 post x1 x2 x3 x4 (nI m) op co ar sh ce n (nI r)) (fun k _ => ∀ r, r < k → ll_A x2 r < 3) 3 () lt_0 ?_ ?_
  · intro n _ I
    exact pk_le 3 3 (fun _ => h1 I) (fun z => absurd z (by omega))
  · intro n r _ hr I ih
    refine pk_le 3 r (fun z => absurd z (by omega)) (fun _ => ?_)
    have h4 := (ll_A_e x2 r).2
    rw [(ll_A_e x2 r).1]
    exact pk_eq (ll_A x2 r) 3 (fun z => h0 (fun q => absurd (q r hr) (by omega))) (fun z => nm_r (nI_1 r) (ih () (lt_s I (by omega))))
theorem ll_st32 {x1 x2 x3 x4 : Int32} (h0 : ¬ (∀ r, r < 3 → ll_H x3 r ≤ 8) → post (-2) (nI m, op, co, ar, sh, ce))
    (h1 : (∀ r, r < 3 → ll_H x3 r ≤ 8) → (x1 < 0 → post (-3) (nI m, op, co, ar, sh, ce)) ∧ (¬ x1 < 0 → (x1 ≤ 6 → (nI m = 4 → post (-4) (nI m, op, co, ar, sh, ce)) ∧ (¬ nI m = 4 → ∃ n88 : Nat, wY_statement_88 post x1 x2 x3 x4 (nI m) n88 0 op co ar sh ce)) ∧ (¬ x1 ≤ 6 → post (-3) (nI m, op, co, ar, sh, ce)))) :
    ∃ n32 : Nat, wY_statement_32 post x1 x2 x3 x4 (nI m) op co ar sh ce n32 0 := by
  refine loop_0 (fun n r (_ : Unit) => wY_statement_32 post x1 x2 x3 x4 (nI m) op co ar sh ce n (nI r)) (fun k _ => ∀ r, r < k → ll_H x3 r ≤ 8) 3 () lt_0 ?_ ?_
  · intro n _ I
    exact pk_le 3 3 (fun _ => h1 I) (fun z => absurd z (by omega))
  · intro n r _ hr I ih
    refine pk_le 3 r (fun z => absurd z (by omega)) (fun _ => ?_)
    have h4 := (ll_H_e x3 r).2
    rw [(ll_H_e x3 r).1]
    exact pk_le (ll_H x3 r) 8 (fun z => nm_r (nI_1 r) (ih () (lt_s I z))) (fun z => h0 (fun q => absurd (q r hr) (by omega)))
theorem ll_st88 {x1 x2 x3 x4 : Int32} (hm : m < 4) (h : ∀ ar' sh' : Nat → Int32, (∀ j, j < m * 3 → ar' j = ar j ∧ sh' j = sh j) → (∀ r, r < 3 → ar' (m * 3 + r) = nI (ll_A x2 r) ∧ sh' (m * 3 + r) = nI (ll_H x3 r) - 4) → post (nI m) (nI (m + 1), upd op m x1, upd co m x4, ar', sh', ce)) :
    ∃ n88 : Nat, wY_statement_88 post x1 x2 x3 x4 (nI m) n88 0 op co ar sh ce := by
  refine loop_0 (fun n r (z : (Nat → Int32) × (Nat → Int32)) => wY_statement_88 post x1 x2 x3 x4 (nI m) n (nI r) op co z.1 z.2 ce) (fun k z => (∀ j, j < m * 3 → z.1 j = ar j ∧ z.2 j = sh j) ∧ (∀ r, r < k → z.1 (m * 3 + r) = nI (ll_A x2 r) ∧ z.2 (m * 3 + r) = nI (ll_H x3 r) - 4)) 3 (ar, sh) ⟨fun j _ => ⟨rfl, rfl⟩, lt_0⟩ ?_ ?_
  · intro n z I
    obtain ⟨g, k⟩ := z
    have cm : (nI m).toNatClampNeg = m := nI_clamp (by omega)
    refine pk_le 3 3 (fun _ => ?_) (fun z => absurd z (by omega))
    rw [cm]
    refine ⟨pk_in m 4 hm, nm_e ⟨pk_in m 4 hm, nm_e (nm_r (nI_1 m) ?_)⟩⟩
    rw [nI_pred]
    exact h g k I.1 I.2
  · intro n r z hr I ih
    obtain ⟨g, k⟩ := z
    have e : nI m * 3 + nI r = nI (m * 3 + r) := (congrArg (fun t => t + nI r) (pk_mul m 3)).trans (nI_add _ _)
    have iv : vp_in (nI (m * 3 + r)) 12 := vp_in_nI (by omega) (by decide)
    refine pk_le 3 r (fun z => absurd z (by omega)) (fun _ => ?_)
    rw [e, nI_clamp (n := m * 3 + r) (by omega), (ll_A_e x2 r).1, (ll_H_e x3 r).1]
    refine ⟨iv, nm_e ⟨iv, nm_e (nm_r (nI_1 r) (ih (_, _) ⟨fun j hj => ?_, ?_⟩))⟩⟩
    · exact ⟨(ll_un (by omega)).trans (I.1 j hj).1, (ll_un (by omega)).trans (I.1 j hj).2⟩
    · refine lt_s (fun q hq => ?_) ⟨ll_us, ll_us⟩
      exact ⟨(ll_un (by omega)).trans (I.2 q hq).1, (ll_un (by omega)).trans (I.2 q hq).2⟩
/-- a and b changed places -/
def ll_sw (a b s : Nat) : Nat := if s = b then a else if s = a then b else s
theorem ll_sw_u (f : Nat → Int32) (a b : Nat) : upd (upd f a (f b)) b (f a) = fun s => f (ll_sw a b s) := by
  funext s
  show (if s = b then f a else if s = a then f b else f s) = f (if s = b then a else if s = a then b else s)
  by_cases e1 : s = b
  · rw [if_pos e1, if_pos e1]
  · rw [if_neg e1, if_neg e1]
    by_cases e2 : s = a
    · rw [if_pos e2, if_pos e2]
    · rw [if_neg e2, if_neg e2]
theorem ll_sw_lt {a b s : Nat} (ha : a < m) (hb : b < m) (hs : s < m) : ll_sw a b s < m := by
  unfold ll_sw
  by_cases e1 : s = b
  · rw [if_pos e1]; exact ha
  · rw [if_neg e1]
    by_cases e2 : s = a
    · rw [if_pos e2]; exact hb
    · rw [if_neg e2]; exact hs
theorem ll_ex_step {g g0 : Nat → Int32} {a b i : Nat} (hi : i < 3) (I : ∀ s r, r < 3 → g (s * 3 + r) = g0 ((if r < i then ll_sw a b s else s) * 3 + r)) :
    ∀ s r, r < 3 → upd (upd g (a * 3 + i) (g (b * 3 + i))) (b * 3 + i) (g (a * 3 + i)) (s * 3 + r) = g0 ((if r < i + 1 then ll_sw a b s else s) * 3 + r) := by
  intro s r hr
  show (if s * 3 + r = b * 3 + i then g (a * 3 + i) else if s * 3 + r = a * 3 + i then g (b * 3 + i) else g (s * 3 + r)) = _
  by_cases e : r = i
  · subst e
    rw [if_pos (Nat.lt_succ_self r)]
    unfold ll_sw
    by_cases e1 : s = b
    · rw [if_pos (show s * 3 + r = b * 3 + r by omega), if_pos e1, I a r hr, if_neg (Nat.lt_irrefl r)]
    · rw [if_neg (show ¬ s * 3 + r = b * 3 + r by omega), if_neg e1]
      by_cases e2 : s = a
      · rw [if_pos (show s * 3 + r = a * 3 + r by omega), if_pos e2, I b r hr, if_neg (Nat.lt_irrefl r)]
      · rw [if_neg (show ¬ s * 3 + r = a * 3 + r by omega), if_neg e2, I s r hr, if_neg (Nat.lt_irrefl r)]
  · rw [if_neg (show ¬ s * 3 + r = b * 3 + i by omega), if_neg (show ¬ s * 3 + r = a * 3 + i by omega), I s r hr]
    by_cases q : r < i
    · rw [if_pos q, if_pos (show r < i + 1 by omega)]
    · rw [if_neg q, if_neg (show ¬ r < i + 1 by omega)]
theorem ll_ex76 {a b : Nat} (hm : m ≤ 4) (ha : a < m) (hb : b < m) (h : ∀ ar' sh' : Nat → Int32, (∀ s r, r < 3 → ar' (s * 3 + r) = ar (ll_sw a b s * 3 + r)) → (∀ s r, r < 3 → sh' (s * 3 + r) = sh (ll_sw a b s * 3 + r)) → post 0 (nI m, op, co, ar', sh', ce)) :
    ∃ n76 : Nat, wY_exchange_76 post (nI a) (nI b) (nI m) n76 0 op co ar sh ce := by
  refine loop_0 (fun n r (z : (Nat → Int32) × (Nat → Int32)) => wY_exchange_76 post (nI a) (nI b) (nI m) n (nI r) op co z.1 z.2 ce) (fun k z => (∀ s r, r < 3 → z.1 (s * 3 + r) = ar ((if r < k then ll_sw a b s else s) * 3 + r)) ∧ (∀ s r, r < 3 → z.2 (s * 3 + r) = sh ((if r < k then ll_sw a b s else s) * 3 + r))) 3 (ar, sh) ⟨fun s r _ => rfl, fun s r _ => rfl⟩ ?_ ?_
  · intro n z I
    obtain ⟨g, k⟩ := z
    refine pk_le 3 3 (fun _ => ?_) (fun z => absurd z (by omega))
    refine h g k (fun s r hr => ?_) (fun s r hr => ?_)
    · have := I.1 s r hr
      rw [if_pos hr] at this
      exact this
    · have := I.2 s r hr
      rw [if_pos hr] at this
      exact this
  · intro n r z hr I ih
    obtain ⟨g, k⟩ := z
    have ea : nI a * 3 + nI r = nI (a * 3 + r) := (congrArg (fun t => t + nI r) (pk_mul a 3)).trans (nI_add _ _)
    have eb : nI b * 3 + nI r = nI (b * 3 + r) := (congrArg (fun t => t + nI r) (pk_mul b 3)).trans (nI_add _ _)
    have ia : vp_in (nI (a * 3 + r)) 12 := vp_in_nI (by omega) (by decide)
    have ib : vp_in (nI (b * 3 + r)) 12 := vp_in_nI (by omega) (by decide)
    refine pk_le 3 r (fun z => absurd z (by omega)) (fun _ => ?_)
    rw [ea, eb, nI_clamp (n := a * 3 + r) (by omega), nI_clamp (n := b * 3 + r) (by omega)]
    exact ⟨ia, nm_e ⟨ib, ia, nm_e ⟨ib, nm_e ⟨ia, nm_e ⟨ib, ia, nm_e ⟨ib, nm_e (nm_r (nI_1 r) (ih (_, _) ⟨ll_ex_step hr I.1, ll_ex_step hr I.2⟩))⟩⟩⟩⟩⟩⟩
end
section
variable {fc : Int32} {ce op pa ps co la : Nat → Int32} {post : SX → Prop} {a b : Nat}
theorem ll_swap1 (ha : a < 4) (hb : b < 4) (h : post (fc, ce, upd (upd op a (op b)) b (op a), pa, ps, co, la)) : wpX_swap__ops post (fc, ce, op, pa, ps, co, la) (nI a) (nI b) := by
  unfold wpX_swap__ops
  dsimp only
  rw [nI_clamp (n := a) (by omega), nI_clamp (n := b) (by omega)]
  exact ⟨pk_in a 4 ha, nm_e ⟨pk_in b 4 hb, pk_in a 4 ha, nm_e ⟨pk_in b 4 hb, nm_e h⟩⟩⟩
theorem ll_swap2 (ha : a < 4) (hb : b < 4) (h : post (fc, ce, op, upd (upd pa a (pa b)) b (pa a), ps, co, la)) : wpX_swap__packedArrays post (fc, ce, op, pa, ps, co, la) (nI a) (nI b) := by
  unfold wpX_swap__packedArrays
  dsimp only
  rw [nI_clamp (n := a) (by omega), nI_clamp (n := b) (by omega)]
  exact ⟨pk_in a 4 ha, nm_e ⟨pk_in b 4 hb, pk_in a 4 ha, nm_e ⟨pk_in b 4 hb, nm_e h⟩⟩⟩
theorem ll_swap3 (ha : a < 4) (hb : b < 4) (h : post (fc, ce, op, pa, upd (upd ps a (ps b)) b (ps a), co, la)) : wpX_swap__packedShifts post (fc, ce, op, pa, ps, co, la) (nI a) (nI b) := by
  unfold wpX_swap__packedShifts
  dsimp only
  rw [nI_clamp (n := a) (by omega), nI_clamp (n := b) (by omega)]
  exact ⟨pk_in a 4 ha, nm_e ⟨pk_in b 4 hb, pk_in a 4 ha, nm_e ⟨pk_in b 4 hb, nm_e h⟩⟩⟩
theorem ll_swap4 (ha : a < 4) (hb : b < 4) (h : post (fc, ce, op, pa, ps, upd (upd co a (co b)) b (co a), la)) : wpX_swap__constants post (fc, ce, op, pa, ps, co, la) (nI a) (nI b) := by
  unfold wpX_swap__constants
  dsimp only
  rw [nI_clamp (n := a) (by omega), nI_clamp (n := b) (by omega)]
  exact ⟨pk_in a 4 ha, nm_e ⟨pk_in b 4 hb, pk_in a 4 ha, nm_e ⟨pk_in b 4 hb, nm_e h⟩⟩⟩
end
theorem ll_ix (j i : Nat) : nI j * 32 + nI i = nI (j * 32 + i) := (congrArg (fun t => t + nI i) (pk_mul j 32)).trans (nI_add _ _)
/-- ramp's first n writes -/
def ll_rp (c : Nat → Int32) (j : Nat) (f t : Int32) : Nat → Nat → Int32
  | 0 => c
  | n + 1 => upd (ll_rp c j f t n) (j * 32 + n) (f + nI n * t)
def ll_sm (c : Nat → Int32) (j : Nat) : Nat → Int32
  | 0 => 0
  | n + 1 => ll_sm c j n + c (j * 32 + n)
def ll_df (c : Nat → Int32) (i j : Nat) : Nat → Int32
  | 0 => 0
  | n + 1 => if c (i * 32 + n) = c (j * 32 + n) then ll_df c i j n else ll_df c i j n + 1
section
variable {fc : Int32} {ce op pa ps co la ar sh : Nat → Int32}
theorem ll_ramp_X {post : Int32 → SX → Prop} {j : Nat} {x2 x3 : Int32} (hj : j < 3) (h : post 0 (fc, ll_rp ce j x2 x3 32, op, pa, ps, co, la)) :
    ∃ n12 : Nat, wX_ramp_12 post (nI j) x2 x3 fc n12 0 ce op pa ps co la := by
  refine loop_0 (fun n i c => wX_ramp_12 post (nI j) x2 x3 fc n (nI i) c op pa ps co la) (fun i c => c = ll_rp ce j x2 x3 i) 32 ce rfl ?_ ?_
  · intro n c I
    subst I
    exact pk_le 32 32 (fun _ => h) (fun z => absurd z (by omega))
  · intro n i c hi I ih
    refine pk_le 32 i (fun z => absurd z (by omega)) (fun _ => ?_)
    rw [ll_ix, nI_clamp (n := j * 32 + i) (by omega)]
    refine ⟨vp_in_nI (by omega) (by decide), nm_e (nm_r (nI_1 i) (ih _ ?_))⟩
    rw [I]
    rfl
theorem ll_ramp_Y {post : Int32 → SY → Prop} {j : Nat} {x2 x3 : Int32} (hj : j < 3) (h : post 0 (fc, op, co, ar, sh, ll_rp ce j x2 x3 32)) :
    ∃ n13 : Nat, wY_ramp_13 post (nI j) x2 x3 fc n13 0 op co ar sh ce := by
  refine loop_0 (fun n i c => wY_ramp_13 post (nI j) x2 x3 fc n (nI i) op co ar sh c) (fun i c => c = ll_rp ce j x2 x3 i) 32 ce rfl ?_ ?_
  · intro n c I
    subst I
    exact pk_le 32 32 (fun _ => h) (fun z => absurd z (by omega))
  · intro n i c hi I ih
    refine pk_le 32 i (fun z => absurd z (by omega)) (fun _ => ?_)
    rw [ll_ix, nI_clamp (n := j * 32 + i) (by omega)]
    refine ⟨vp_in_nI (by omega) (by decide), nm_e (nm_r (nI_1 i) (ih _ ?_))⟩
    rw [I]
    rfl
theorem ll_sum_X {post : Int32 → Prop} {j : Nat} (hj : j < 3) (h : post (ll_sm ce j 32)) :
    ∃ n13 : Nat, wX_sum_13 post (nI j) fc ce op pa ps co la n13 0 0 := by
  refine loop_0 (fun n i t => wX_sum_13 post (nI j) fc ce op pa ps co la n t (nI i)) (fun i t => t = ll_sm ce j i) 32 0 rfl ?_ ?_
  · intro n c I
    subst I
    exact pk_le 32 32 (fun _ => h) (fun z => absurd z (by omega))
  · intro n i c hi I ih
    refine pk_le 32 i (fun z => absurd z (by omega)) (fun _ => ?_)
    rw [ll_ix, nI_clamp (n := j * 32 + i) (by omega)]
    refine ⟨vp_in_nI (by omega) (by decide), nm_e (nm_r (nI_1 i) (ih _ ?_))⟩
    rw [I]
    rfl
theorem ll_sum_Y {post : Int32 → Prop} {j : Nat} (hj : j < 3) (hb : ∀ (p : Int32 → Prop) (v : SY), p 0 → wpY_badArray p v (nI j)) (h : post (ll_sm ce j 32)) :
    ∃ n4 : Nat, wY_sum_4 post (nI j) fc op co ar sh ce n4 0 0 := by
  refine loop_0 (fun n i t => wY_sum_4 post (nI j) fc op co ar sh ce n t (nI i)) (fun i t => t = ll_sm ce j i) 32 0 rfl ?_ ?_
  · intro n c I
    subst I
    exact pk_le 32 32 (fun _ => h) (fun z => absurd z (by omega))
  · intro n i c hi I ih
    refine pk_le 32 i (fun z => absurd z (by omega)) (fun _ => ?_)
    rw [ll_ix, nI_clamp (n := j * 32 + i) (by omega)]
    refine hb _ _ ?_
    refine br_t rfl ⟨vp_in_nI (by omega) (by decide), nm_e (nm_r (nI_1 i) (ih _ ?_))⟩
    rw [I]
    rfl
theorem ll_sum_Y0 {post : Int32 → Prop} {x : Int32} (hb : ∀ (p : Int32 → Prop) (v : SY), p 1 → wpY_badArray p v x) (h : post 0) :
    ∃ n4 : Nat, wY_sum_4 post x fc op co ar sh ce n4 0 0 := by
  refine loop_0 (fun n i (_ : Unit) => wY_sum_4 post x fc op co ar sh ce n 0 (nI i)) (fun _ _ => True) 32 () trivial ?_ ?_
  · intro n _ _
    exact pk_le 32 32 (fun _ => h) (fun z => absurd z (by omega))
  · intro n i _ hi _ ih
    refine pk_le 32 i (fun z => absurd z (by omega)) (fun _ => ?_)
    refine hb _ _ ?_
    exact br_f (by decide) (nm_r (nI_1 i) (ih () trivial))
theorem ll_differ_X {post : Int32 → Prop} {a b : Nat} (ha : a < 3) (hb : b < 3) (h : post (ll_df ce a b 32)) :
    ∃ n21 : Nat, wX_differ_21 post (nI a) (nI b) fc ce op pa ps co la n21 0 0 := by
  refine loop_0 (fun n i t => wX_differ_21 post (nI a) (nI b) fc ce op pa ps co la n t (nI i)) (fun i t => t = ll_df ce a b i) 32 0 rfl ?_ ?_
  · intro n c I
    subst I
    exact pk_le 32 32 (fun _ => h) (fun z => absurd z (by omega))
  · intro n i c hi I ih
    refine pk_le 32 i (fun z => absurd z (by omega)) (fun _ => ?_)
    rw [ll_ix, ll_ix, nI_clamp (n := a * 32 + i) (by omega), nI_clamp (n := b * 32 + i) (by omega)]
    refine ⟨vp_in_nI (by omega) (by decide), vp_in_nI (by omega) (by decide), ?_⟩
    refine br_c (fun e => nm_r (nI_1 i) (ih _ ?_)) (fun e => nm_e (nm_r (nI_1 i) (ih _ ?_)))
    · exact I.trans (if_pos e).symm
    · rw [I]; exact (if_neg e).symm
theorem ll_differ_Y {post : Int32 → Prop} {a b : Nat} (ha : a < 3) (hb : b < 3) (h : post (ll_df ce a b 32)) :
    ∃ n23 : Nat, wY_differ_23 post (nI a) (nI b) fc op co ar sh ce n23 0 0 := by
  refine loop_0 (fun n i t => wY_differ_23 post (nI a) (nI b) fc op co ar sh ce n t (nI i)) (fun i t => t = ll_df ce a b i) 32 0 rfl ?_ ?_
  · intro n c I
    subst I
    exact pk_le 32 32 (fun _ => h) (fun z => absurd z (by omega))
  · intro n i c hi I ih
    refine pk_le 32 i (fun z => absurd z (by omega)) (fun _ => ?_)
    rw [ll_ix, ll_ix, nI_clamp (n := a * 32 + i) (by omega), nI_clamp (n := b * 32 + i) (by omega)]
    refine ⟨vp_in_nI (by omega) (by decide), vp_in_nI (by omega) (by decide), ?_⟩
    refine br_c (fun e => nm_r (nI_1 i) (ih _ ?_)) (fun e => nm_e (nm_r (nI_1 i) (ih _ ?_)))
    · exact I.trans (if_pos e).symm
    · rw [I]; exact (if_neg e).symm
end
