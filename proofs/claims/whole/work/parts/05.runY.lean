/-! Y: a statement carried out, run's loops; mustPrecede's loops -/
/-- Y's unpacked arrays and shifts are X's packed ones -/
def ll_R (m : Nat) (pa ps ar sh : Nat → Int32) : Prop := ∀ s, s < m → ∀ r, r < 3 → ar (s * 3 + r) = nI (ll_A (pa s) r) ∧ sh (s * 3 + r) = nI (ll_H (ps s) r) - 4 ∧ ll_A (pa s) r < 3 ∧ ll_H (ps s) r ≤ 8
theorem ll_43 (x : Int32) : 4 ≤ x ↔ ¬ x ≤ 3 := by
  rw [Int32.le_iff_toInt_le, Int32.le_iff_toInt_le]
  have e4 : (4 : Int32).toInt = 4 := by decide
  have e3 : (3 : Int32).toInt = 3 := by decide
  omega
section
variable {ce op pa ps co ar sh : Nat → Int32} {m : Nat}
theorem ll_st_Y {post : SY → Prop} {s i : Nat} (hm : m ≤ 4) (hs : s < m) (hR : ll_R m pa ps ar sh) (hi : ll_In (ll_pA pa) (ll_pH ps) m i) (h : post (nI m, op, co, ar, sh, ll_st (ll_pA pa) (ll_pH ps) op co s i ce)) :
    wpY_carryOut post (nI m, op, co, ar, sh, ce) (nI s) (nI i) := by
  have p0 := ll_pl_lt hi hs (r := 0) (by decide)
  have p1 := ll_pl_lt hi hs (r := 1) (by decide)
  have p2 := ll_pl_lt hi hs (r := 2) (by decide)
  have e0 : nI s * 3 = nI (s * 3) := pk_mul s 3
  have e1 : nI (s * 3) + 1 = nI (s * 3 + 1) := nI_add _ 1
  have e2 : nI (s * 3) + 2 = nI (s * 3 + 2) := nI_add _ 2
  have r0 := hR s hs 0 (by decide)
  have r1 := hR s hs 1 (by decide)
  have r2 := hR s hs 2 (by decide)
  have a0 : ar (s * 3) = nI (ll_A (pa s) 0) := r0.1
  have b0 : sh (s * 3) = nI (ll_H (ps s) 0) - 4 := r0.2.1
  have q0 : nI (ll_A (pa s) 0) * 32 + nI i + (nI (ll_H (ps s) 0) - 4) = nI (ll_pl (ll_pA pa) (ll_pH ps) s 0 i) := ll_pl_e (hi s hs 0 (by decide)).2.1
  have q1 : nI (ll_A (pa s) 1) * 32 + nI i + (nI (ll_H (ps s) 1) - 4) = nI (ll_pl (ll_pA pa) (ll_pH ps) s 1 i) := ll_pl_e (hi s hs 1 (by decide)).2.1
  have q2 : nI (ll_A (pa s) 2) * 32 + nI i + (nI (ll_H (ps s) 2) - 4) = nI (ll_pl (ll_pA pa) (ll_pH ps) s 2 i) := ll_pl_e (hi s hs 2 (by decide)).2.1
  unfold wpY_carryOut
  dsimp only
  rw [e0, e1, e2, nI_clamp (n := s * 3) (by omega), nI_clamp (n := s * 3 + 1) (by omega), nI_clamp (n := s * 3 + 2) (by omega), nI_clamp (n := s) (by omega), a0, b0, r1.1, r1.2.1, r2.1, r2.2.1, q0, q1, q2]
  rw [nI_clamp (n := ll_pl (ll_pA pa) (ll_pH ps) s 1 i) (Nat.lt_trans p1 (by decide)), nI_clamp (n := ll_pl (ll_pA pa) (ll_pH ps) s 2 i) (Nat.lt_trans p2 (by decide))]
  have i0 : vp_in (nI (s * 3)) 12 := vp_in_nI (by omega) (by decide)
  have i1 : vp_in (nI (s * 3 + 1)) 12 := vp_in_nI (by omega) (by decide)
  have i2 : vp_in (nI (s * 3 + 2)) 12 := vp_in_nI (by omega) (by decide)
  have is : vp_in (nI s) 4 := vp_in_nI (by omega) (by decide)
  refine ⟨i0, i0, nm_e ⟨i1, i1, pk_in _ 96 p1, nm_e ⟨i2, i2, pk_in _ 96 p2, nm_e ⟨is, nm_e ⟨is, nm_e ?_⟩⟩⟩⟩⟩
  have fin : ∀ w, w = ll_V (ll_pA pa) (ll_pH ps) op co s i ce → vp_in (nI (ll_pl (ll_pA pa) (ll_pH ps) s 0 i)) 96 ∧ ∀ a : Nat → Int32, a = upd ce (nI (ll_pl (ll_pA pa) (ll_pH ps) s 0 i)).toNatClampNeg w → post (nI m, op, co, ar, sh, a) := by
    intro w ew
    refine ⟨pk_in _ 96 p0, fun a ea => ?_⟩
    rw [ea, ew, nI_clamp (Nat.lt_trans p0 (by decide))]
    exact h
  unfold ll_V ll_v at fin
  refine br_c (fun e => fin _ ?_) (fun n0 => ?_)
  · rw [if_pos e]
  refine br_c (fun e => fin _ ?_) (fun n1 => ?_)
  · rw [if_neg n0, if_pos e]
  refine br_c (fun e => fin _ ?_) (fun n2 => ?_)
  · rw [if_neg n0, if_neg n1, if_pos e]
  refine br_c (fun e => br_c (fun q => fin _ ?_) (fun q => fin _ ?_)) (fun n3 => ?_)
  · rw [if_neg n0, if_neg n1, if_neg n2, if_pos e, if_pos q]
  · rw [if_neg n0, if_neg n1, if_neg n2, if_pos e, if_neg q]
  refine br_c (fun e => fin _ ?_) (fun n4 => ?_)
  · rw [if_neg n0, if_neg n1, if_neg n2, if_neg n3, if_pos e]
  refine br_c (fun e => fin _ ?_) (fun n5 => fin _ ?_)
  · rw [if_neg n0, if_neg n1, if_neg n2, if_neg n3, if_neg n4, if_pos e]
  · rw [if_neg n0, if_neg n1, if_neg n2, if_neg n3, if_neg n4, if_neg n5]
theorem ll_run84 {post : Int32 → SY → Prop} {J75 : Int32 → Int32 → Int32 → (Nat → Int32) → (Nat → Int32) → (Nat → Int32) → (Nat → Int32) → (Nat → Int32) → Prop} {x2 : Int32} {c i : Nat} (hm : m ≤ 4) (hR : ll_R m pa ps ar sh) (hi : ll_In (ll_pA pa) (ll_pH ps) m i)
    (hJ : J75 (nI (c + m)) (nI (i + 1)) (nI m) op co ar sh (ll_bd (ll_pA pa) (ll_pH ps) op co i m ce)) :
    ∃ n84 : Nat, wY_run_84 post J75 x2 (nI i) n84 (nI c) 0 (nI m) op co ar sh ce := by
  refine loop_0 (fun n s z => wY_run_84 post J75 x2 (nI i) n (nI (c + s)) (nI s) (nI m) op co ar sh z) (fun s z => z = ll_bd (ll_pA pa) (ll_pH ps) op co i s ce) m ce rfl ?_ ?_
  · intro n z I
    subst I
    exact pk_le m m (fun _ => nm_r (nI_1 i) hJ) (fun z => absurd z (by omega))
  · intro n s z hs I ih
    refine pk_le m s (fun z => absurd z (by omega)) (fun _ => ?_)
    refine ll_st_Y hm hs hR hi ?_
    refine nm_r (nI_1 (c + s)) (nm_r (nI_1 s) (ih _ ?_))
    rw [I]
    rfl
theorem ll_run75 {post : Int32 → SY → Prop} {lo hh N : Nat} (hm : m ≤ 4) (hN : lo + N = hh + 1) (h32 : hh < 32) (hR : ll_R m pa ps ar sh) (hi : ∀ k, k < N → ll_In (ll_pA pa) (ll_pH ps) m (lo + k))
    (h : post (nI (N * m)) (nI m, op, co, ar, sh, ll_rg (ll_pA pa) (ll_pH ps) op co m lo N ce)) :
    ∃ n75 : Nat, wY_run_75 post (nI hh) n75 0 (nI lo) (nI m) op co ar sh ce := by
  refine loop_0 (fun n k z => wY_run_75 post (nI hh) n (nI (m * k)) (nI (lo + k)) (nI m) op co ar sh z) (fun k z => z = ll_rg (ll_pA pa) (ll_pH ps) op co m lo k ce) N ce rfl ?_ ?_
  · intro n z I
    subst I
    refine pk_lt hh (lo + N) (fun _ => ?_) (fun z => absurd z (by omega))
    rw [Nat.mul_comm m N]
    exact h
  · intro n k z hk I ih
    refine pk_lt hh (lo + k) (fun z => absurd z (by omega)) (fun _ => ?_)
    refine ll_run84 hm hR (hi k hk) (ih _ ?_)
    rw [I]
    rfl
theorem ll_run21 {post : Int32 → SY → Prop} {lo hh : Nat} (hm : m ≤ 4) (hR : ll_R m pa ps ar sh) (hl : lo < 32) (h32 : hh < 32)
    (h0 : ¬ (ll_Ins (ll_pH ps) m lo ∧ ll_Ins (ll_pH ps) m hh) → post (-2) (nI m, op, co, ar, sh, ce))
    (h1 : ll_Ins (ll_pH ps) m lo → ll_Ins (ll_pH ps) m hh → ∃ n75 : Nat, wY_run_75 post (nI hh) n75 0 (nI lo) (nI m) op co ar sh ce) :
    ∃ n21 : Nat, wY_run_21 post (nI lo) (nI hh) (nI m) op co ar sh ce n21 0 := by
  refine loop_0 (fun n k (_ : Unit) => wY_run_21 post (nI lo) (nI hh) (nI m) op co ar sh ce n (nI k)) (fun k _ => ∀ s r, r < 3 → s * 3 + r < k → (4 ≤ lo + ll_pH ps s r ∧ lo + ll_pH ps s r < 36) ∧ (4 ≤ hh + ll_pH ps s r ∧ hh + ll_pH ps s r < 36)) (m * 3) () (fun s r _ z => absurd z (by omega)) ?_ ?_
  · intro n _ I
    exact pk_le (m * 3) (m * 3) (fun _ => h1 (fun s hs r hr => (I s r hr (by omega)).1) (fun s hs r hr => (I s r hr (by omega)).2)) (fun z => absurd z (by omega)) (pk_mul m 3)
  · intro n k _ hk I ih
    refine pk_le (m * 3) k (fun z => absurd z (by omega)) (fun _ => ?_) (pk_mul m 3)
    obtain ⟨s, r, hs, hr, ek⟩ : ∃ s r, s < m ∧ r < 3 ∧ k = s * 3 + r := ⟨k / 3, k % 3, by omega, by omega, by omega⟩
    have hk' : sh k = nI (ll_H (ps s) r) - 4 := by rw [ek]; exact (hR s hs r hr).2.1
    have hH := (ll_H_e (ps s) r).2
    refine ⟨pk_in k 12 (by omega), ?_⟩
    rw [nI_clamp (n := k) (by omega), hk']
    refine ll_icY hl hH (fun q => ?_) (fun q => ?_)
    · refine br_t rfl ⟨pk_in k 12 (by omega), ?_⟩
      refine ll_icY h32 hH (fun q' => ?_) (fun q' => ?_)
      · refine br_t rfl (nm_r (nI_1 k) (ih () (fun s' r' hr' h' => ?_)))
        by_cases z : s' * 3 + r' < k
        · exact I s' r' hr' z
        · have es : s' = s := by omega
          have er : r' = r := by omega
          subst es er
          exact ⟨q, q'⟩
      · exact br_f (by decide) (h0 (fun z => q' (z.2 s hs r hr)))
    · exact br_f (by decide) (h0 (fun z => q (z.1 s hs r hr)))
/-- what Y looks at: part p of statement q -/
def ll_L (O : Nat → Int32) (q p : Nat) : Prop := p = 0 ∨ (p = 1 ∧ ¬ O q = 5) ∨ (p = 2 ∧ O q ≤ 3)
def ll_hit (A H : Nat → Nat → Nat) (O : Nat → Int32) (a b d p r : Nat) : Prop := (p = 0 ∨ r = 0) ∧ ll_L O a p ∧ ll_L O b r ∧ ll_same A H a p b r d
theorem ll_hit_clash {A H : Nat → Nat → Nat} {O : Nat → Int32} {a b d p r : Nat} (h : ll_hit A H O a b d p r) : ll_clash A H O a b d := by
  obtain ⟨z, la, lb, s⟩ := h
  rcases la with e | ⟨e, k⟩ | ⟨e, k⟩
  · subst e
    rcases lb with e | ⟨e, k⟩ | ⟨e, k⟩
    · subst e; exact Or.inl s
    · subst e; exact Or.inr (Or.inl (Or.inl ⟨k, s⟩))
    · subst e; exact Or.inr (Or.inl (Or.inr ⟨k, s⟩))
  · subst e
    have e : r = 0 := by omega
    subst e
    exact Or.inr (Or.inr (Or.inl ⟨k, s⟩))
  · subst e
    have e : r = 0 := by omega
    subst e
    exact Or.inr (Or.inr (Or.inr ⟨k, s⟩))
theorem ll_clash_hit {A H : Nat → Nat → Nat} {O : Nat → Int32} {a b d : Nat} (h : ∀ p, p < 3 → ∀ r, r < 3 → ¬ ll_hit A H O a b d p r) : ¬ ll_clash A H O a b d := by
  intro c
  rcases c with s | (⟨k, s⟩ | ⟨k, s⟩) | (⟨k, s⟩ | ⟨k, s⟩)
  · exact h 0 (by decide) 0 (by decide) ⟨Or.inl rfl, Or.inl rfl, Or.inl rfl, s⟩
  · exact h 0 (by decide) 1 (by decide) ⟨Or.inl rfl, Or.inl rfl, Or.inr (Or.inl ⟨rfl, k⟩), s⟩
  · exact h 0 (by decide) 2 (by decide) ⟨Or.inl rfl, Or.inl rfl, Or.inr (Or.inr ⟨rfl, k⟩), s⟩
  · exact h 1 (by decide) 0 (by decide) ⟨Or.inr rfl, Or.inr (Or.inl ⟨rfl, k⟩), Or.inl rfl, s⟩
  · exact h 2 (by decide) 0 (by decide) ⟨Or.inr rfl, Or.inr (Or.inr ⟨rfl, k⟩), Or.inl rfl, s⟩
theorem ll_looks_Y {post : Int32 → Prop} {q p : Nat} (hm : m ≤ 4) (hq : q < m) (hp : p < 3) (h1 : ll_L op q p → post 1) (h0 : ¬ ll_L op q p → post 0) :
    wpY_looks post (nI m, op, co, ar, sh, ce) (nI q) (nI p) := by
  unfold wpY_looks
  dsimp only
  rw [nI_clamp (n := q) (by omega)]
  refine pk_eq p 0 (fun e => h1 (Or.inl e)) (fun n0 => ?_)
  refine pk_eq p 1 (fun e => ⟨pk_in q 4 (by omega), fun z => h0 ?_, fun z => h1 (Or.inr (Or.inl ⟨e, z⟩))⟩) (fun n1 => ⟨pk_in q 4 (by omega), fun z => h0 ?_, fun z => h1 (Or.inr (Or.inr ⟨by omega, ?_⟩))⟩)
  · intro w
    rcases w with w | ⟨_, w⟩ | ⟨w, _⟩
    · exact n0 w
    · exact w z
    · omega
  · intro w
    rcases w with w | ⟨w, _⟩ | ⟨_, w⟩
    · exact n0 w
    · exact n1 w
    · exact (ll_43 _).mp z w
  · exact Classical.byContradiction (fun w => z ((ll_43 _).mpr w))
theorem ll_mp112 {post : Int32 → Prop} {J40 J49 : Int32 → Prop} {a b d p r : Nat} {z0 : Int32} (hm : m ≤ 4) (ha : a < m) (hb : b < m) (hp : p < 3) (hr : r < 3)
    (z1 : ll_same (ll_pA pa) (ll_pH ps) a p b r d → ¬ z0 = 0) (zz : ¬ ll_same (ll_pA pa) (ll_pH ps) a p b r d → z0 = 0)
    (h1 : ll_hit (ll_pA pa) (ll_pH ps) op a b d p r → post 1) (h0 : ¬ ll_hit (ll_pA pa) (ll_pH ps) op a b d p r → J49 (nI (r + 1))) :
    wY_mustPrecede_112 post J40 J49 (nI a) (nI b) (nI d) (nI p) (nI r) z0 (nI m) op co ar sh ce := by
  have H : (p = 0 ∨ r = 0) → wY_mustPrecede_124 post J40 J49 (nI a) (nI b) (nI d) (nI p) (nI r) z0 (nI m) op co ar sh ce := by
    intro hz
    unfold wY_mustPrecede_124
    refine ll_looks_Y hm ha hp (fun la => ?_) (fun la => ?_)
    · refine br_f (by decide) ?_
      refine ll_looks_Y hm hb hr (fun lb => ?_) (fun lb => ?_)
      · refine br_f (by decide) ?_
        by_cases s : ll_same (ll_pA pa) (ll_pH ps) a p b r d
        · exact br_f (z1 s) (h1 ⟨hz, la, lb, s⟩)
        · exact br_t (zz s) (nm_r (nI_1 r) (h0 (fun w => s w.2.2.2)))
      · exact br_t rfl (nm_r (nI_1 r) (h0 (fun w => lb w.2.2.1)))
    · exact br_t rfl (nm_r (nI_1 r) (h0 (fun w => la w.2.1)))
  unfold wY_mustPrecede_112
  refine pk_eq p 0 (fun e => H (Or.inl e)) (fun n0 => ?_)
  refine pk_eq r 0 (fun e => H (Or.inr e)) (fun n1 => ?_)
  exact nm_r (nI_1 r) (h0 (fun w => w.1.elim n0 n1))
theorem ll_mp49 {post : Int32 → Prop} {J40 : Int32 → Prop} {a b d p : Nat} (hm : m ≤ 4) (hR : ll_R m pa ps ar sh) (ha : a < m) (hb : b < m) (hd : d < 9) (hp : p < 3)
    (h1 : ∀ r, r < 3 → ll_hit (ll_pA pa) (ll_pH ps) op a b d p r → post 1) (h0 : (∀ r, r < 3 → ¬ ll_hit (ll_pA pa) (ll_pH ps) op a b d p r) → J40 (nI (p + 1))) :
    ∃ n49 : Nat, wY_mustPrecede_49 post J40 (nI a) (nI b) (nI d) (nI p) (nI m) op co ar sh ce n49 0 := by
  refine loop_0 (fun n r (_ : Unit) => wY_mustPrecede_49 post J40 (nI a) (nI b) (nI d) (nI p) (nI m) op co ar sh ce n (nI r)) (fun k _ => ∀ r, r < k → ¬ ll_hit (ll_pA pa) (ll_pH ps) op a b d p r) 3 () lt_0 ?_ ?_
  · intro n _ I
    exact pk_le 3 3 (fun _ => nm_r (nI_1 p) (h0 I)) (fun z => absurd z (by omega))
  · intro n r _ hr I ih
    refine pk_le 3 r (fun z => absurd z (by omega)) (fun _ => ?_)
    have ea : nI a * 3 + nI p = nI (a * 3 + p) := (congrArg (fun t => t + nI p) (pk_mul a 3)).trans (nI_add _ _)
    have eb : nI b * 3 + nI r = nI (b * 3 + r) := (congrArg (fun t => t + nI r) (pk_mul b 3)).trans (nI_add _ _)
    have ia : vp_in (nI (a * 3 + p)) 12 := vp_in_nI (by omega) (by decide)
    have ib : vp_in (nI (b * 3 + r)) 12 := vp_in_nI (by omega) (by decide)
    have ra := hR a ha p hp
    have rb := hR b hb r hr
    have H1 := (ll_H_e (ps a) p).2
    have H2 := (ll_H_e (ps b) r).2
    have next : ¬ ll_hit (ll_pA pa) (ll_pH ps) op a b d p r → wY_mustPrecede_49 post J40 (nI a) (nI b) (nI d) (nI p) (nI m) op co ar sh ce n (nI (r + 1)) := fun c => ih () (lt_s I c)
    rw [ea, eb, nI_clamp (n := a * 3 + p) (by omega), nI_clamp (n := b * 3 + r) (by omega), ra.1, rb.1, ra.2.1, rb.2.1, Int32.add_comm (nI d)]
    refine ⟨ia, ib, ?_⟩
    refine pk_eq (ll_A (pa a) p) (ll_A (pa b) r) (fun e => ?_) (fun ne => ?_)
    · refine ⟨ia, ib, ?_⟩
      refine br_c (fun z => ?_) (fun z => ?_)
      · exact ll_mp112 hm ha hb hp hr (fun _ => by decide) (fun w => absurd ⟨e, (ll_sh_eq H1 H2 hd).mp z⟩ w) (h1 r hr) next
      · exact ll_mp112 hm ha hb hp hr (fun w => absurd ((ll_sh_eq H1 H2 hd).mpr w.2) z) (fun _ => rfl) (h1 r hr) next
    · exact ll_mp112 hm ha hb hp hr (fun w => absurd w.1 ne) (fun _ => rfl) (h1 r hr) next
theorem ll_mp40 {post : Int32 → Prop} {a b d : Nat} (hm : m ≤ 4) (hR : ll_R m pa ps ar sh) (ha : a < m) (hb : b < m) (hd : d < 9)
    (h1 : ll_clash (ll_pA pa) (ll_pH ps) op a b d → post 1) (h0 : ¬ ll_clash (ll_pA pa) (ll_pH ps) op a b d → post 0) :
    ∃ n40 : Nat, wY_mustPrecede_40 post (nI a) (nI b) (nI d) (nI m) op co ar sh ce n40 0 := by
  refine loop_0 (fun n p (_ : Unit) => wY_mustPrecede_40 post (nI a) (nI b) (nI d) (nI m) op co ar sh ce n (nI p)) (fun k _ => ∀ p, p < k → ∀ r, r < 3 → ¬ ll_hit (ll_pA pa) (ll_pH ps) op a b d p r) 3 () lt_0 ?_ ?_
  · intro n _ I
    exact pk_le 3 3 (fun _ => h0 (ll_clash_hit I)) (fun z => absurd z (by omega))
  · intro n p _ hp I ih
    refine pk_le 3 p (fun z => absurd z (by omega)) (fun _ => ?_)
    exact ll_mp49 hm hR ha hb hd hp (fun r hr w => h1 (ll_hit_clash w)) (fun c => ih () (lt_s I c))
end
