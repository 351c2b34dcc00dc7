/-! X's tests of two statements, lanesCanBeSeen -/
section
variable {ce op pa ps co la : Nat → Int32} {m : Nat} {post : Int32 → Prop}
theorem ll_same_X {a p b r d : Nat} (hm : m ≤ 4) (ha : a < m) (hb : b < m) (hd : d < 9)
    (h1 : ll_same (ll_pA pa) (ll_pH ps) a p b r d → post 1) (h0 : ¬ ll_same (ll_pA pa) (ll_pH ps) a p b r d → post 0) :
    wpX_sameCell post (nI m, ce, op, pa, ps, co, la) (nI a) (nI p) (nI b) (nI r) (nI d) := by
  unfold wpX_sameCell
  dsimp only
  rw [nI_clamp (n := a) (by omega), nI_clamp (n := b) (by omega)]
  have A1 := (ll_A_e (pa a) p).2
  have A2 := (ll_A_e (pa b) r).2
  have H1 := (ll_H_e (ps a) p).2
  have H2 := (ll_H_e (ps b) r).2
  refine ⟨pk_in a 4 (by omega), ll_aI ⟨pk_in b 4 (by omega), ll_aI ?_⟩⟩
  refine pk_eq (ll_A (pa a) p) (ll_A (pa b) r) (fun e => ?_) (fun ne => h0 (fun q => ne q.1))
  refine ⟨pk_in a 4 (by omega), ll_sI ⟨pk_in b 4 (by omega), ll_sI ?_⟩⟩
  exact ⟨fun z => h1 ⟨e, (ll_sh_eq H1 H2 hd).mp z⟩, fun z => h0 (fun q => z ((ll_sh_eq H1 H2 hd).mpr q.2))⟩
theorem ll_look1 {s : Nat} (hm : m ≤ 4) (hs : s < m) (h1 : ¬ op s = 5 → post 1) (h0 : op s = 5 → post 0) :
    wpX_looksAt post (nI m, ce, op, pa, ps, co, la) (nI s) 1 := by
  unfold wpX_looksAt
  dsimp only
  rw [nI_clamp (n := s) (by omega)]
  exact br_t rfl ⟨pk_in s 4 (by omega), h0, h1⟩
theorem ll_look2 {s : Nat} (hm : m ≤ 4) (hs : s < m) (h1 : op s ≤ 3 → post 1) (h0 : ¬ op s ≤ 3 → post 0) :
    wpX_looksAt post (nI m, ce, op, pa, ps, co, la) (nI s) 2 := by
  unfold wpX_looksAt
  dsimp only
  rw [nI_clamp (n := s) (by omega)]
  exact br_f (by decide) ⟨pk_in s 4 (by omega), fun z => h0 (Int32.not_le.mpr z), fun z => h1 (Int32.not_lt.mp z)⟩
theorem ll_wr_X {a b d : Nat} (hm : m ≤ 4) (ha : a < m) (hb : b < m) (hd : d < 9)
    (h1 : ll_wr (ll_pA pa) (ll_pH ps) op a b d → post 1) (h0 : ¬ ll_wr (ll_pA pa) (ll_pH ps) op a b d → post 0) :
    wpX_writesThenReads post (nI m, ce, op, pa, ps, co, la) (nI a) (nI b) (nI d) := by
  have H21 : ¬ (¬ op b = 5 ∧ ll_same (ll_pA pa) (ll_pH ps) a 0 b 1 d) → wX_writesThenReads_21 post (nI a) (nI b) (nI d) (nI m) ce op pa ps co la := by
    intro n1
    unfold wX_writesThenReads_21
    refine ll_look2 hm hb (fun k => ?_) (fun k => ?_)
    · refine br_f (by decide) ?_
      refine ll_same_X (p := 0) (r := 2) hm ha hb hd (fun q => ?_) (fun q => ?_)
      · exact br_f (by decide) (h1 (Or.inr ⟨k, q⟩))
      · exact br_t rfl (h0 (fun w => w.elim n1 (fun w => q w.2)))
    · exact br_t rfl (h0 (fun w => w.elim n1 (fun w => k w.1)))
  unfold wpX_writesThenReads
  dsimp only
  refine ll_look1 hm hb (fun k => ?_) (fun k => ?_)
  · refine br_f (by decide) ?_
    refine ll_same_X (p := 0) (r := 1) hm ha hb hd (fun q => ?_) (fun q => ?_)
    · exact br_f (by decide) (h1 (Or.inl ⟨k, q⟩))
    · exact br_t rfl (H21 (fun w => q w.2))
  · exact br_t rfl (H21 (fun w => w.1 k))
theorem ll_rd_X {a b d : Nat} (hm : m ≤ 4) (ha : a < m) (hb : b < m) (hd : d < 9)
    (h1 : ll_rd (ll_pA pa) (ll_pH ps) op a b d → post 1) (h0 : ¬ ll_rd (ll_pA pa) (ll_pH ps) op a b d → post 0) :
    wpX_readsThenWrites post (nI m, ce, op, pa, ps, co, la) (nI a) (nI b) (nI d) := by
  have H21 : ¬ (¬ op a = 5 ∧ ll_same (ll_pA pa) (ll_pH ps) a 1 b 0 d) → wX_readsThenWrites_21 post (nI a) (nI b) (nI d) (nI m) ce op pa ps co la := by
    intro n1
    unfold wX_readsThenWrites_21
    refine ll_look2 hm ha (fun k => ?_) (fun k => ?_)
    · refine br_f (by decide) ?_
      refine ll_same_X (p := 2) (r := 0) hm ha hb hd (fun q => ?_) (fun q => ?_)
      · exact br_f (by decide) (h1 (Or.inr ⟨k, q⟩))
      · exact br_t rfl (h0 (fun w => w.elim n1 (fun w => q w.2)))
    · exact br_t rfl (h0 (fun w => w.elim n1 (fun w => k w.1)))
  unfold wpX_readsThenWrites
  dsimp only
  refine ll_look1 hm ha (fun k => ?_) (fun k => ?_)
  · refine br_f (by decide) ?_
    refine ll_same_X (p := 1) (r := 0) hm ha hb hd (fun q => ?_) (fun q => ?_)
    · exact br_f (by decide) (h1 (Or.inl ⟨k, q⟩))
    · exact br_t rfl (H21 (fun w => q w.2))
  · exact br_t rfl (H21 (fun w => w.1 k))
theorem ll_clash_X {a b d : Nat} (hm : m ≤ 4) (ha : a < m) (hb : b < m) (hd : d < 9)
    (h1 : ll_clash (ll_pA pa) (ll_pH ps) op a b d → post 1) (h0 : ¬ ll_clash (ll_pA pa) (ll_pH ps) op a b d → post 0) :
    wpX_clash post (nI m, ce, op, pa, ps, co, la) (nI a) (nI b) (nI d) := by
  unfold wpX_clash
  dsimp only
  refine ll_same_X (p := 0) (r := 0) hm ha hb hd (fun q => ?_) (fun q => ?_)
  · exact br_f (by decide) (h1 (Or.inl q))
  · refine br_t rfl ?_
    refine ll_wr_X hm ha hb hd (fun w => ?_) (fun w => ?_)
    · exact br_f (by decide) (h1 (Or.inr (Or.inl w)))
    · refine br_t rfl ?_
      refine ll_rd_X hm ha hb hd (fun z => ?_) (fun z => ?_)
      · exact br_f (by decide) (h1 (Or.inr (Or.inr z)))
      · exact br_t rfl (h0 (fun c => c.elim q (fun c => c.elim w z)))
theorem ll_seen31 {J2 J12 : Int32 → Prop} {l d : Nat} (hm : m ≤ 4) (hl : l < m) (hd : d < 4) (h1 : post 1)
    (hJ : (∀ e, e < l → ¬ ll_clash (ll_pA pa) (ll_pH ps) op l e d) → J12 (nI (d + 1))) :
    ∃ n31 : Nat, wX_lanesCanBeSeen_31 post J2 J12 (nI l) (nI d) (nI m) ce op pa ps co la n31 0 := by
  refine loop_0 (fun n i (_ : Unit) => wX_lanesCanBeSeen_31 post J2 J12 (nI l) (nI d) (nI m) ce op pa ps co la n (nI i)) (fun i _ => ∀ e, e < i → ¬ ll_clash (ll_pA pa) (ll_pH ps) op l e d) l () lt_0 ?_ ?_
  · intro n _ I
    exact pk_le l l (fun _ => nm_r (nI_1 d) (hJ I)) (fun z => absurd z (by omega))
  · intro n i _ hi I ih
    refine pk_le l i (fun z => absurd z (by omega)) (fun _ => ?_)
    refine ll_clash_X hm hl (by omega) (by omega) (fun _ => ?_) (fun c => ?_)
    · exact br_f (by decide) h1
    · exact br_t rfl (nm_r (nI_1 i) (ih () (lt_s I c)))
theorem ll_seen12 {J2 : Int32 → Prop} {l : Nat} (hm : m ≤ 4) (hl : l < m) (h1 : post 1)
    (hJ : (∀ d, 1 ≤ d → d < 4 → ¬ ll_wr (ll_pA pa) (ll_pH ps) op l l d ∧ ∀ e, e < l → ¬ ll_clash (ll_pA pa) (ll_pH ps) op l e d) → J2 (nI (l + 1))) :
    ∃ n12 : Nat, wX_lanesCanBeSeen_12 post J2 (nI l) (nI m) ce op pa ps co la n12 1 := by
  refine pk_loop (fun n i (_ : Unit) => wX_lanesCanBeSeen_12 post J2 (nI l) (nI m) ce op pa ps co la n (nI i)) (fun i _ => 1 ≤ i ∧ ∀ d, 1 ≤ d → d < i → ¬ ll_wr (ll_pA pa) (ll_pH ps) op l l d ∧ ∀ e, e < l → ¬ ll_clash (ll_pA pa) (ll_pH ps) op l e d) 4 1 () (by omega) ⟨by omega, fun d h h' => absurd h' (by omega)⟩ ?_ ?_
  · intro n _ I
    exact pk_le 4 4 (fun _ => nm_r (nI_1 l) (hJ I.2)) (fun z => absurd z (by omega))
  · intro n i _ hi I ih
    refine pk_le 4 i (fun z => absurd z (by omega)) (fun _ => ?_)
    refine ll_wr_X hm hl hl (by omega) (fun _ => ?_) (fun w => ?_)
    · exact br_f (by decide) h1
    · refine br_t rfl ?_
      refine ll_seen31 hm hl hi h1 (fun c => ih () ⟨by omega, fun d hd hd' => ?_⟩)
      by_cases e : d = i
      · subst e; exact ⟨w, c⟩
      · exact I.2 d hd (by omega)
theorem ll_seen_X (hm : m ≤ 4) (h1 : post 1) (h0 : ll_Free (ll_pA pa) (ll_pH ps) op m → post 0) :
    wpX_lanesCanBeSeen post (nI m, ce, op, pa, ps, co, la) := by
  refine loop_0 (fun n i (_ : Unit) => wX_lanesCanBeSeen_2 post (nI m) ce op pa ps co la n (nI i)) (fun i _ => ll_Free (ll_pA pa) (ll_pH ps) op i) m () (fun l hl => absurd hl (by omega)) ?_ ?_
  · intro n _ I
    exact pk_le m m (fun _ => h0 I) (fun z => absurd z (by omega))
  · intro n i _ hi I ih
    refine pk_le m i (fun z => absurd z (by omega)) (fun _ => ?_)
    exact ll_seen12 hm hi h1 (fun c => ih () (lt_s I c))
/-- bodyStaysInside: all three parts of every statement inside -/
def ll_Ins (H : Nat → Nat → Nat) (m i : Nat) : Prop := ∀ s, s < m → ∀ r, r < 3 → 4 ≤ i + H s r ∧ i + H s r < 36
theorem ll_body12 {J2 : Int32 → Prop} {i s : Nat} (hm : m ≤ 4) (hi : i < 32) (hs : s < m)
    (h0 : ¬ ll_Ins (ll_pH ps) m i → post 0) (hJ : (∀ r, r < 3 → 4 ≤ i + ll_pH ps s r ∧ i + ll_pH ps s r < 36) → J2 (nI (s + 1))) :
    ∃ n12 : Nat, wX_bodyStaysInside_12 post J2 (nI i) (nI s) (nI m) ce op pa ps co la n12 0 := by
  refine loop_0 (fun n r (_ : Unit) => wX_bodyStaysInside_12 post J2 (nI i) (nI s) (nI m) ce op pa ps co la n (nI r)) (fun k _ => ∀ r, r < k → 4 ≤ i + ll_pH ps s r ∧ i + ll_pH ps s r < 36) 3 () lt_0 ?_ ?_
  · intro n _ I
    exact pk_le 3 3 (fun _ => nm_r (nI_1 s) (hJ I)) (fun z => absurd z (by omega))
  · intro n r _ hr I ih
    refine pk_le 3 r (fun z => absurd z (by omega)) (fun _ => ?_)
    refine ⟨pk_in s 4 (by omega), ?_⟩
    rw [nI_clamp (n := s) (by omega)]
    refine ll_sI (nm_e ?_)
    refine ll_icX hi (ll_H_e (ps s) r).2 (fun q => ?_) (fun q => ?_)
    · exact br_f (by decide) (nm_r (nI_1 r) (ih () (lt_s I q)))
    · exact br_t rfl (h0 (fun z => q (z s hs r hr)))
theorem ll_body_X {i : Nat} (hm : m ≤ 4) (hi : i < 32) (h1 : ll_Ins (ll_pH ps) m i → post 1) (h0 : ¬ ll_Ins (ll_pH ps) m i → post 0) :
    wpX_bodyStaysInside post (nI m, ce, op, pa, ps, co, la) (nI i) := by
  refine loop_0 (fun n s (_ : Unit) => wX_bodyStaysInside_2 post (nI i) (nI m) ce op pa ps co la n (nI s)) (fun k _ => ll_Ins (ll_pH ps) k i) m () lt_0 ?_ ?_
  · intro n _ I
    exact pk_le m m (fun _ => h1 I) (fun z => absurd z (by omega))
  · intro n s _ hs I ih
    refine pk_le m s (fun z => absurd z (by omega)) (fun _ => ?_)
    exact ll_body12 hm hi hs h0 (fun c => ih () (lt_s I c))
end
