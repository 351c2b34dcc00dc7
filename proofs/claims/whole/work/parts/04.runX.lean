/-! X: a statement's value and place, the body, the lanes, run's two loops -/
theorem ll_v_lo {k c x y : Int32} (h : k < 0) : ll_v k c x y = x * c := by
  have n0 : ¬ k = 0 := fun e => absurd h (by rw [e]; decide)
  have n1 : ¬ k = 1 := fun e => absurd h (by rw [e]; decide)
  have n2 : ¬ k = 2 := fun e => absurd h (by rw [e]; decide)
  have n3 : ¬ k = 3 := fun e => absurd h (by rw [e]; decide)
  have n4 : ¬ k = 4 := fun e => absurd h (by rw [e]; decide)
  have n5 : ¬ k = 5 := fun e => absurd h (by rw [e]; decide)
  simp only [ll_v, if_neg n0, if_neg n1, if_neg n2, if_neg n3, if_neg n4, if_neg n5]
theorem ll_v_hi {k c x y : Int32} (h : 5 < k) : ll_v k c x y = x * c := by
  have n0 : ¬ k = 0 := fun e => absurd h (by rw [e]; decide)
  have n1 : ¬ k = 1 := fun e => absurd h (by rw [e]; decide)
  have n2 : ¬ k = 2 := fun e => absurd h (by rw [e]; decide)
  have n3 : ¬ k = 3 := fun e => absurd h (by rw [e]; decide)
  have n4 : ¬ k = 4 := fun e => absurd h (by rw [e]; decide)
  have n5 : ¬ k = 5 := fun e => absurd h (by rw [e]; decide)
  simp only [ll_v, if_neg n0, if_neg n1, if_neg n2, if_neg n3, if_neg n4, if_neg n5]
section
variable {ce op pa ps co la : Nat → Int32} {m : Nat}
theorem ll_place_X {post : Int32 → Prop} {s r i : Nat} (hm : m ≤ 4) (hs : s < m) (h4 : 4 ≤ i + ll_H (ps s) r) (h : post (nI (ll_pl (ll_pA pa) (ll_pH ps) s r i))) :
    wpX_placeOf post (nI m, ce, op, pa, ps, co, la) (nI s) (nI r) (nI i) := by
  unfold wpX_placeOf
  dsimp only
  rw [nI_clamp (n := s) (by omega)]
  refine ⟨pk_in s 4 (by omega), ll_aI ⟨pk_in s 4 (by omega), ll_sI ?_⟩⟩
  rw [ll_pl_e h4]
  exact h
theorem ll_value_X {post : Int32 → Prop} {s i : Nat} (hm : m ≤ 4) (hs : s < m) (hi : ll_In (ll_pA pa) (ll_pH ps) m i) (h : post (ll_V (ll_pA pa) (ll_pH ps) op co s i ce)) :
    wpX_valueFor post (nI m, ce, op, pa, ps, co, la) (nI s) (nI i) := by
  have p1 := ll_pl_lt hi hs (r := 1) (by decide)
  have p2 := ll_pl_lt hi hs (r := 2) (by decide)
  unfold wpX_valueFor
  dsimp only
  refine ll_place_X (r := 1) hm hs (hi s hs 1 (by decide)).2.1 ⟨pk_in _ 96 p1, nm_r (congrArg ce (nI_clamp (Nat.lt_trans p1 (by decide)))) ?_⟩
  refine ll_place_X (r := 2) hm hs (hi s hs 2 (by decide)).2.1 ⟨pk_in _ 96 p2, nm_r (congrArg ce (nI_clamp (Nat.lt_trans p2 (by decide)))) ?_⟩
  have cs : (nI s).toNatClampNeg = s := nI_clamp (by omega)
  refine ⟨pk_in s 4 (by omega), nm_r (congrArg co cs) ⟨pk_in s 4 (by omega), nm_r (congrArg op cs) ?_⟩⟩
  unfold ll_V at h
  generalize ce (ll_pl (ll_pA pa) (ll_pH ps) s 1 i) = x at h ⊢
  generalize ce (ll_pl (ll_pA pa) (ll_pH ps) s 2 i) = y at h ⊢
  generalize co s = c at h ⊢
  generalize op s = k at h ⊢
  refine br_c (fun l => ?_) (fun _ => br_c (fun g => ?_) (fun _ => ?_))
  · rw [ll_v_lo l] at h; exact h
  · rw [ll_v_hi g] at h; exact h
  unfold ll_v at h
  refine br_c (fun e => ?_) (fun n0 => ?_)
  · rw [if_pos e] at h; exact h
  rw [if_neg n0] at h
  refine br_c (fun e => ?_) (fun n1 => ?_)
  · rw [if_pos e] at h; exact h
  rw [if_neg n1] at h
  refine br_c (fun e => ?_) (fun n2 => ?_)
  · rw [if_pos e] at h; exact h
  rw [if_neg n2] at h
  refine br_c (fun e => ?_) (fun n3 => ?_)
  · rw [if_pos e] at h
    refine br_c (fun q => ?_) (fun q => ?_)
    · rw [if_pos q] at h; exact h
    · rw [if_neg q] at h; exact h
  rw [if_neg n3] at h
  refine br_c (fun e => ?_) (fun n4 => ?_)
  · rw [if_pos e] at h; exact h
  rw [if_neg n4] at h
  refine br_c (fun e => ?_) (fun n5 => ?_)
  · rw [if_pos e] at h; exact h
  exact trivial
theorem ll_bd_X {post : SX → Prop} {i : Nat} (hm : m ≤ 4) (hi : ll_In (ll_pA pa) (ll_pH ps) m i) (h : post (nI m, ll_bd (ll_pA pa) (ll_pH ps) op co i m ce, op, pa, ps, co, la)) :
    wpX_carryOutBody post (nI m, ce, op, pa, ps, co, la) (nI i) := by
  refine loop_0 (fun n s c => wX_carryOutBody_2 post (nI i) (nI m) n (nI s) c op pa ps co la) (fun s c => c = ll_bd (ll_pA pa) (ll_pH ps) op co i s ce) m ce rfl ?_ ?_
  · intro n c I
    subst I
    exact pk_le m m (fun _ => h) (fun z => absurd z (by omega))
  · intro n s c hs I ih
    refine pk_le m s (fun z => absurd z (by omega)) (fun _ => ?_)
    refine ll_value_X hm hs hi ?_
    have p0 := ll_pl_lt hi hs (r := 0) (by decide)
    refine ll_place_X (r := 0) hm hs (hi s hs 0 (by decide)).2.1 ⟨pk_in _ 96 p0, ?_⟩
    rw [nI_clamp (Nat.lt_trans p0 (by decide))]
    refine nm_e (nm_r (nI_1 s) (ih _ ?_))
    rw [I]
    rfl
/-- the first n writes of a statement's four lanes -/
def ll_rwn (A H : Nat → Nat → Nat) (O C : Nat → Int32) (s f : Nat) (a : Nat → Int32) : Nat → Nat → Int32
  | 0 => a
  | n + 1 => upd (ll_rwn A H O C s f a n) (ll_pl A H s 0 (f + n)) (ll_V A H O C s (f + n) a)
theorem ll_lane39 {post : SX → Prop} {J2 : Int32 → (Nat → Int32) → (Nat → Int32) → (Nat → Int32) → (Nat → Int32) → (Nat → Int32) → (Nat → Int32) → Prop} {s f : Nat} (hm : m ≤ 4) (hs : s < m) (hi : ∀ l, l < 4 → ll_In (ll_pA pa) (ll_pH ps) m (f + l))
    (hl : ∀ l, l < 4 → la l = ll_V (ll_pA pa) (ll_pH ps) op co s (f + l) ce) (hJ : J2 (nI (s + 1)) (ll_row (ll_pA pa) (ll_pH ps) op co s f ce) op pa ps co la) :
    ∃ n39 : Nat, wX_carryOutInLanes_39 post J2 (nI f) (nI s) (nI m) n39 0 ce op pa ps co la := by
  refine loop_0 (fun n l c => wX_carryOutInLanes_39 post J2 (nI f) (nI s) (nI m) n (nI l) c op pa ps co la) (fun l c => c = ll_rwn (ll_pA pa) (ll_pH ps) op co s f ce l) 4 ce rfl ?_ ?_
  · intro n c I
    subst I
    exact pk_le 4 4 (fun _ => nm_r (nI_1 s) hJ) (fun z => absurd z (by omega))
  · intro n l c h4 I ih
    refine pk_le 4 l (fun z => absurd z (by omega)) (fun _ => ?_)
    have p0 := ll_pl_lt (hi l h4) hs (r := 0) (by decide)
    rw [nI_add f l]
    refine ll_place_X (r := 0) hm hs (hi l h4 s hs 0 (by decide)).2.1 ⟨pk_in l 4 h4, pk_in _ 96 p0, ?_⟩
    rw [nI_clamp (Nat.lt_trans p0 (by decide)), nI_clamp (n := l) (by omega), hl l h4]
    refine nm_e (nm_r (nI_1 l) (ih _ ?_))
    rw [I]
    rfl
theorem ll_lane12 {post : SX → Prop} {J2 : Int32 → (Nat → Int32) → (Nat → Int32) → (Nat → Int32) → (Nat → Int32) → (Nat → Int32) → (Nat → Int32) → Prop} {s f : Nat} (hm : m ≤ 4) (hs : s < m) (hi : ∀ l, l < 4 → ll_In (ll_pA pa) (ll_pH ps) m (f + l))
    (hJ : ∀ la', J2 (nI (s + 1)) (ll_row (ll_pA pa) (ll_pH ps) op co s f ce) op pa ps co la') :
    ∃ n12 : Nat, wX_carryOutInLanes_12 post J2 (nI f) (nI s) (nI m) n12 0 ce op pa ps co la := by
  refine loop_0 (fun n l w => wX_carryOutInLanes_12 post J2 (nI f) (nI s) (nI m) n (nI l) ce op pa ps co w) (fun k w => ∀ l, l < k → w l = ll_V (ll_pA pa) (ll_pH ps) op co s (f + l) ce) 4 la lt_0 ?_ ?_
  · intro n w I
    exact pk_le 4 4 (fun _ => ll_lane39 hm hs hi I (hJ w)) (fun z => absurd z (by omega))
  · intro n l w h4 I ih
    refine pk_le 4 l (fun z => absurd z (by omega)) (fun _ => ?_)
    rw [nI_add f l]
    refine ll_value_X hm hs (hi l h4) ⟨pk_in l 4 h4, ?_⟩
    rw [nI_clamp (n := l) (by omega)]
    refine nm_e (nm_r (nI_1 l) (ih _ ?_))
    refine lt_s (fun j hj => ?_) ll_us
    rw [ll_un (by omega)]
    exact I j hj
theorem ll_lanes_X {post : SX → Prop} {f : Nat} (hm : m ≤ 4) (hi : ∀ l, l < 4 → ll_In (ll_pA pa) (ll_pH ps) m (f + l)) (h : ∀ la', post (nI m, ll_lanes (ll_pA pa) (ll_pH ps) op co f m ce, op, pa, ps, co, la')) :
    wpX_carryOutInLanes post (nI m, ce, op, pa, ps, co, la) (nI f) := by
  refine loop_0 (fun n s (z : (Nat → Int32) × (Nat → Int32)) => wX_carryOutInLanes_2 post (nI f) (nI m) n (nI s) z.1 op pa ps co z.2) (fun s z => z.1 = ll_lanes (ll_pA pa) (ll_pH ps) op co f s ce) m (ce, la) rfl ?_ ?_
  · intro n z I
    obtain ⟨c, w⟩ := z
    cases I
    exact pk_le m m (fun _ => h w) (fun z => absurd z (by omega))
  · intro n s z hs I ih
    obtain ⟨c, w⟩ := z
    cases I
    refine pk_le m s (fun z => absurd z (by omega)) (fun _ => ?_)
    exact ll_lane12 hm hs hi (fun w' => ih (_, w') rfl)
theorem ll_run95 {post : Int32 → SX → Prop} {lo N i0 : Nat} {ce0 : Nat → Int32} (hm : m ≤ 4) (hN : N ≤ 32) (h0 : i0 ≤ N) (hi : ∀ k, k < N → ll_In (ll_pA pa) (ll_pH ps) m (lo + k)) (hc : ce = ll_rg (ll_pA pa) (ll_pH ps) op co m lo i0 ce0)
    (h : post (nI (N * m)) (nI m, ll_rg (ll_pA pa) (ll_pH ps) op co m lo N ce0, op, pa, ps, co, la)) :
    ∃ n95 : Nat, wX_run_95 post (nI lo) (nI N) n95 (nI i0) (nI m) ce op pa ps co la := by
  refine pk_loop (fun n k c => wX_run_95 post (nI lo) (nI N) n (nI k) (nI m) c op pa ps co la) (fun k c => c = ll_rg (ll_pA pa) (ll_pH ps) op co m lo k ce0) N i0 ce h0 hc ?_ ?_
  · intro n c I
    subst I
    refine pk_le N N (fun _ => ?_) (fun z => absurd z (by omega))
    rw [pk_mul]
    exact h
  · intro n k c hk I ih
    refine pk_le N k (fun z => absurd z (by omega)) (fun _ => ?_)
    rw [nI_add lo k]
    refine ll_bd_X hm (hi k hk) ?_
    refine nm_r (nI_1 k) (ih _ ?_)
    rw [I]
    rfl
theorem ll_run70 {post : Int32 → SX → Prop} {lo N e : Nat} (hm : m ≤ 4) (hN : N ≤ 32) (he : 4 * e ≤ N) (hF : e = 0 ∨ ll_Free (ll_pA pa) (ll_pH ps) op m) (hi : ∀ k, k < N → ll_In (ll_pA pa) (ll_pH ps) m (lo + k))
    (h : ∀ la', post (nI (N * m)) (nI m, ll_rg (ll_pA pa) (ll_pH ps) op co m lo N ce, op, pa, ps, co, la')) :
    ∃ n70 : Nat, wX_run_70 post (nI lo) (nI N) (nI (4 * e)) n70 0 (nI m) ce op pa ps co la := by
  refine loop_0 (fun n k (z : (Nat → Int32) × (Nat → Int32)) => wX_run_70 post (nI lo) (nI N) (nI (4 * e)) n (nI (4 * k)) (nI m) z.1 op pa ps co z.2) (fun k z => z.1 = ll_rg (ll_pA pa) (ll_pH ps) op co m lo (4 * k) ce) e (ce, la) rfl ?_ ?_
  · intro n z I
    obtain ⟨c, w⟩ := z
    exact pk_le (4 * e) (4 * e) (fun _ => ll_run95 hm hN he hi I (h w)) (fun z => absurd z (by omega))
  · intro n k z hk I ih
    obtain ⟨c, w⟩ := z
    cases I
    refine pk_le (4 * e) (4 * k) (fun z => absurd z (by omega)) (fun _ => ?_)
    have hF' : ll_Free (ll_pA pa) (ll_pH ps) op m := hF.resolve_left (by omega)
    rw [nI_add lo (4 * k)]
    refine ll_lanes_X hm (fun l hl => ?_) (fun w' => ?_)
    · rw [Nat.add_assoc]
      exact hi (4 * k + l) (by omega)
    · have e4 : nI (4 * k) + 4 = nI (4 * (k + 1)) := nI_add (4 * k) 4
      refine nm_r e4 (ih (_, w') ?_)
      exact ll_rg4 hF' (fun j hj => hi j (by omega)) ce
end
