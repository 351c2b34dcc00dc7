/-! the relation and the owed statements: all but run and mustPrecede -/
/-- the same cells, operations, constants and size on both sides; Y's arrays and shifts are X's packed ones -/
def i_Rel (k : Nat) (u : SX) (v : SY) : Prop := ∃ (m : Nat) (ce op pa ps co la ar sh : Nat → Int32), m ≤ 4 ∧ u = (nI m, ce, op, pa, ps, co, la) ∧ v = (nI m, op, co, ar, sh, ce) ∧ ll_R m pa ps ar sh
theorem ll_rel {k m : Nat} {ce op pa ps co la ar sh : Nat → Int32} (hm : m ≤ 4) (hR : ll_R m pa ps ar sh) : i_Rel k (nI m, ce, op, pa, ps, co, la) (nI m, op, co, ar, sh, ce) := ⟨m, ce, op, pa, ps, co, la, ar, sh, hm, rfl, rfl, hR⟩
theorem i_up {k : Nat} {u : SX} {v : SY} (h : i_Rel k u v) : i_Rel (k + 5) u v := h
theorem i_vc0 : wpX_init (fun u => wpY_init (fun v => i_Rel 0 u v)) := ll_rel (k := 0) (m := 0) (by omega) (fun s hs => absurd hs (by omega))
theorem i_vc_statement {k : Nat} {u : SX} {v : SY} (I : i_Rel k u v) (hk : k + 5 ≤ 2560) (v1 : Int32) (v2 : Int32) (v3 : Int32) (v4 : Int32) : wpX_statement (fun r u' => wpY_statement (fun r' v' => r' = r ∧ i_Rel (k + 5) u' v') v v1 v2 v3 v4) u v1 v2 v3 v4 := by
  obtain ⟨m, ce, op, pa, ps, co, la, ar, sh, hm, rfl, rfl, hR⟩ := I
  have J : i_Rel (k + 5) (nI m, ce, op, pa, ps, co, la) (nI m, op, co, ar, sh, ce) := ll_rel hm hR
  unfold wpX_statement
  dsimp only
  refine ll_nA_X (fun hA => ?_) (fun hA => ?_)
  · refine br_f (by decide) ?_
    refine ll_nS_X (fun hS => ?_) (fun hS => ?_)
    · refine br_f (by decide) ?_
      refine br_c (fun l => ?_) (fun nl => ?_)
      · exact ll_st3 (fun z => absurd hA z) (fun _ => ll_st32 (fun z => absurd hS z) (fun _ => br_t l ⟨rfl, J⟩))
      · refine br_c (fun g => ?_) (fun ng => ?_)
        · refine pk_lt m 4 (fun m4 => ?_) (fun m4 => ?_)
          · have cm : (nI m).toNatClampNeg = m := nI_clamp (by omega)
            have im : vp_in (nI m) 4 := vp_in_nI m4 (by decide)
            rw [cm]
            refine ⟨im, nm_e ⟨im, nm_e ⟨im, nm_e ⟨im, nm_e (nm_r (nI_1 m) ?_)⟩⟩⟩⟩
            refine ll_st3 (fun z => absurd hA z) (fun _ => ll_st32 (fun z => absurd hS z) (fun _ => br_f nl (br_t g (pk_eq m 4 (fun z => absurd z (by omega)) (fun _ => ll_st88 m4 (fun ar' sh' ho hn => ⟨(nI_pred m).symm, ll_rel m4 ?_⟩))))))
            intro s hs r hr
            by_cases e : s = m
            · subst e
              rw [ll_us, ll_us]
              exact ⟨(hn r hr).1, (hn r hr).2, hA r hr, hS r hr⟩
            · have hs' : s < m := by omega
              have q := hR s hs' r hr
              rw [ll_un e, ll_un e, (ho (s * 3 + r) (by omega)).1, (ho (s * 3 + r) (by omega)).2]
              exact q
          · exact ll_st3 (fun z => absurd hA z) (fun _ => ll_st32 (fun z => absurd hS z) (fun _ => br_f nl (br_t g (pk_eq m 4 (fun _ => ⟨rfl, J⟩) (fun z => absurd z (by omega))))))
        · exact ll_st3 (fun z => absurd hA z) (fun _ => ll_st32 (fun z => absurd hS z) (fun _ => br_f nl (br_f ng ⟨rfl, J⟩)))
    · exact br_t rfl (ll_st3 (fun z => absurd hA z) (fun _ => ll_st32 (fun _ => ⟨rfl, J⟩) (fun z => absurd z hS)))
  · exact br_t rfl (ll_st3 (fun _ => ⟨rfl, J⟩) (fun z => absurd z hA))
theorem i_vc_clear {k : Nat} {u : SX} {v : SY} (I : i_Rel k u v) (hk : k + 5 ≤ 2560) : wpX_clear (fun u' => wpY_clear (fun v' => i_Rel (k + 5) u' v') v) u := by
  obtain ⟨m, ce, op, pa, ps, co, la, ar, sh, hm, rfl, rfl, hR⟩ := I
  exact ll_rel (k := k + 5) (m := 0) (by omega) (fun s hs => absurd hs (by omega))
theorem i_vc_exchange {k : Nat} {u : SX} {v : SY} (I : i_Rel k u v) (hk : k + 5 ≤ 2560) (v1 : Int32) (v2 : Int32) : wpX_exchange (fun r u' => wpY_exchange (fun r' v' => r' = r ∧ i_Rel (k + 5) u' v') v v1 v2) u v1 v2 := by
  obtain ⟨m, ce, op, pa, ps, co, la, ar, sh, hm, rfl, rfl, hR⟩ := I
  have J : i_Rel (k + 5) (nI m, ce, op, pa, ps, co, la) (nI m, op, co, ar, sh, ce) := ll_rel hm hR
  unfold wpX_exchange wpY_exchange
  dsimp only
  rcases ll_isS m hm v1 ce op pa ps co la op co ar sh ce with ⟨a, ha, rfl, x1, y1⟩ | ⟨x1, y1⟩
  · refine x1 _ (br_f (by decide) ?_)
    rcases ll_isS m hm v2 ce op pa ps co la op co ar sh ce with ⟨b, hb, rfl, x2, y2⟩ | ⟨x2, y2⟩
    · refine x2 _ (br_f (by decide) ?_)
      have ha4 : a < 4 := by omega
      have hb4 : b < 4 := by omega
      refine ll_swap1 ha4 hb4 ?_
      refine ll_swap2 ha4 hb4 ?_
      refine ll_swap3 ha4 hb4 ?_
      refine ll_swap4 ha4 hb4 ?_
      have ca : (nI a).toNatClampNeg = a := nI_clamp (by omega)
      have cb : (nI b).toNatClampNeg = b := nI_clamp (by omega)
      have ia : vp_in (nI a) 4 := vp_in_nI ha4 (by decide)
      have ib : vp_in (nI b) 4 := vp_in_nI hb4 (by decide)
      refine y1 _ (br_t rfl ?_)
      refine y2 _ (br_t rfl ?_)
      rw [ca, cb]
      refine ⟨ia, nm_e ⟨ib, ia, nm_e ⟨ib, nm_e ⟨ia, nm_e ⟨ib, ia, nm_e ⟨ib, nm_e ?_⟩⟩⟩⟩⟩⟩
      refine ll_ex76 hm ha hb (fun ar' sh' h1 h2 => ⟨rfl, ll_rel hm ?_⟩)
      intro s hs r hr
      rw [ll_sw_u pa a b, ll_sw_u ps a b, h1 s r hr, h2 s r hr]
      exact hR (ll_sw a b s) (ll_sw_lt ha hb hs) r hr
    · refine x2 _ (br_t rfl ?_)
      refine y1 _ (br_t rfl ?_)
      exact y2 _ (br_f (by decide) ⟨rfl, J⟩)
  · refine x1 _ (br_t rfl ?_)
    exact y1 _ (br_f (by decide) ⟨rfl, J⟩)
theorem i_vc_set {k : Nat} {u : SX} {v : SY} (I : i_Rel k u v) (hk : k + 5 ≤ 2560) (v1 : Int32) (v2 : Int32) (v3 : Int32) : wpX_set (fun r u' => wpY_set (fun r' v' => r' = r ∧ i_Rel (k + 5) u' v') v v1 v2 v3) u v1 v2 v3 := by
  obtain ⟨m, ce, op, pa, ps, co, la, ar, sh, hm, rfl, rfl, hR⟩ := I
  have J : i_Rel (k + 5) (nI m, ce, op, pa, ps, co, la) (nI m, op, co, ar, sh, ce) := ll_rel hm hR
  unfold wpX_set wpY_set
  dsimp only
  rcases ll_isA v1 with ⟨a, ha, rfl, x1, y1⟩ | ⟨x1, y1⟩
  · refine x1 _ (br_f (by decide) ?_)
    rcases ll_isC v2 with ⟨c, hc, rfl, x2, y2⟩ | ⟨x2, y2⟩
    · refine x2 _ (br_f (by decide) ?_)
      have iv : vp_in (nI (a * 32 + c)) 96 := vp_in_nI (by omega) (by decide)
      rw [ll_ix, nI_clamp (n := a * 32 + c) (by omega)]
      refine ⟨iv, nm_e ⟨iv, nm_e ?_⟩⟩
      refine y1 _ _ (br_t rfl ?_)
      refine y2 _ _ (br_t rfl ?_)
      exact ⟨iv, nm_e ⟨iv, nm_e ⟨rfl, ll_rel hm hR⟩⟩⟩
    · refine x2 _ (br_t rfl ?_)
      refine y1 _ _ (br_t rfl ?_)
      exact y2 _ _ (br_f (by decide) ⟨rfl, J⟩)
  · refine x1 _ (br_t rfl ?_)
    exact y1 _ _ (br_f (by decide) ⟨rfl, J⟩)
theorem i_vc_ramp {k : Nat} {u : SX} {v : SY} (I : i_Rel k u v) (hk : k + 5 ≤ 2560) (v1 : Int32) (v2 : Int32) (v3 : Int32) : wpX_ramp (fun r u' => wpY_ramp (fun r' v' => r' = r ∧ i_Rel (k + 5) u' v') v v1 v2 v3) u v1 v2 v3 := by
  obtain ⟨m, ce, op, pa, ps, co, la, ar, sh, hm, rfl, rfl, hR⟩ := I
  have J : i_Rel (k + 5) (nI m, ce, op, pa, ps, co, la) (nI m, op, co, ar, sh, ce) := ll_rel hm hR
  unfold wpX_ramp wpY_ramp
  dsimp only
  rcases ll_isA v1 with ⟨a, ha, rfl, x1, y1⟩ | ⟨x1, y1⟩
  · refine x1 _ (br_f (by decide) ?_)
    refine ll_ramp_X ha ?_
    refine y1 _ _ (br_t rfl ?_)
    exact ll_ramp_Y ha ⟨rfl, ll_rel hm hR⟩
  · refine x1 _ (br_t rfl ?_)
    exact y1 _ _ (br_f (by decide) ⟨rfl, J⟩)
theorem i_vc_get {k : Nat} {u : SX} {v : SY} (I : i_Rel k u v) (hk : k + 5 ≤ 2560) (v1 : Int32) (v2 : Int32) : wpX_get (fun r => wpY_get (fun r' => r' = r ∧ i_Rel (k + 5) u v) v v1 v2) u v1 v2 := by
  obtain ⟨m, ce, op, pa, ps, co, la, ar, sh, hm, rfl, rfl, hR⟩ := I
  have J : i_Rel (k + 5) (nI m, ce, op, pa, ps, co, la) (nI m, op, co, ar, sh, ce) := ll_rel hm hR
  unfold wpX_get wpY_get
  dsimp only
  rcases ll_isA v1 with ⟨a, ha, rfl, x1, y1⟩ | ⟨x1, y1⟩
  · refine x1 _ (br_f (by decide) ?_)
    rcases ll_isC v2 with ⟨c, hc, rfl, x2, y2⟩ | ⟨x2, y2⟩
    · refine x2 _ (br_f (by decide) ?_)
      have iv : vp_in (nI (a * 32 + c)) 96 := vp_in_nI (by omega) (by decide)
      rw [ll_ix]
      refine ⟨iv, ?_⟩
      refine y1 _ _ (br_t rfl ?_)
      exact y2 _ _ (br_t rfl ⟨iv, rfl, J⟩)
    · refine x2 _ (br_t rfl ?_)
      refine y1 _ _ (br_t rfl ?_)
      exact y2 _ _ (br_f (by decide) ⟨rfl, J⟩)
  · refine x1 _ (br_t rfl ?_)
    exact y1 _ _ (br_f (by decide) ⟨rfl, J⟩)
theorem i_vc_sum {k : Nat} {u : SX} {v : SY} (I : i_Rel k u v) (hk : k + 5 ≤ 2560) (v1 : Int32) : wpX_sum (fun r => wpY_sum (fun r' => r' = r ∧ i_Rel (k + 5) u v) v v1) u v1 := by
  obtain ⟨m, ce, op, pa, ps, co, la, ar, sh, hm, rfl, rfl, hR⟩ := I
  have J : i_Rel (k + 5) (nI m, ce, op, pa, ps, co, la) (nI m, op, co, ar, sh, ce) := ll_rel hm hR
  unfold wpX_sum wpY_sum
  dsimp only
  rcases ll_isA v1 with ⟨a, ha, rfl, x1, y1⟩ | ⟨x1, y1⟩
  · refine x1 _ (br_f (by decide) ?_)
    refine ll_sum_X ha ?_
    exact ll_sum_Y ha y1 ⟨rfl, J⟩
  · refine x1 _ (br_t rfl ?_)
    exact ll_sum_Y0 y1 ⟨rfl, J⟩
theorem i_vc_differ {k : Nat} {u : SX} {v : SY} (I : i_Rel k u v) (hk : k + 5 ≤ 2560) (v1 : Int32) (v2 : Int32) : wpX_differ (fun r => wpY_differ (fun r' => r' = r ∧ i_Rel (k + 5) u v) v v1 v2) u v1 v2 := by
  obtain ⟨m, ce, op, pa, ps, co, la, ar, sh, hm, rfl, rfl, hR⟩ := I
  have J : i_Rel (k + 5) (nI m, ce, op, pa, ps, co, la) (nI m, op, co, ar, sh, ce) := ll_rel hm hR
  unfold wpX_differ wpY_differ
  dsimp only
  rcases ll_isA v1 with ⟨a, ha, rfl, x1, y1⟩ | ⟨x1, y1⟩
  · refine x1 _ (br_f (by decide) ?_)
    rcases ll_isA v2 with ⟨b, hb, rfl, x2, y2⟩ | ⟨x2, y2⟩
    · refine x2 _ (br_f (by decide) ?_)
      refine ll_differ_X ha hb ?_
      refine y1 _ _ (br_t rfl ?_)
      refine y2 _ _ (br_t rfl ?_)
      exact ll_differ_Y ha hb ⟨rfl, J⟩
    · refine x2 _ (br_t rfl ?_)
      refine y1 _ _ (br_t rfl ?_)
      exact y2 _ _ (br_f (by decide) ⟨rfl, J⟩)
  · refine x1 _ (br_t rfl ?_)
    exact y1 _ _ (br_f (by decide) ⟨rfl, J⟩)
theorem i_vc_size {k : Nat} {u : SX} {v : SY} (I : i_Rel k u v) (hk : k + 5 ≤ 2560) : wpX_size (fun r => wpY_size (fun r' => r' = r ∧ i_Rel (k + 5) u v) v) u := by
  obtain ⟨m, ce, op, pa, ps, co, la, ar, sh, hm, rfl, rfl, hR⟩ := I
  exact ⟨rfl, ll_rel hm hR⟩
