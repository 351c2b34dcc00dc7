/-! the owed statements of run and mustPrecede -/
theorem i_vc_run {k : Nat} {u : SX} {v : SY} (I : i_Rel k u v) (hk : k + 5 ≤ 2560) (v1 : Int32) (v2 : Int32) : wpX_run (fun r u' => wpY_run (fun r' v' => r' = r ∧ i_Rel (k + 5) u' v') v v1 v2) u v1 v2 := by
  obtain ⟨m, ce, op, pa, ps, co, la, ar, sh, hm, rfl, rfl, hR⟩ := I
  have J : i_Rel (k + 5) (nI m, ce, op, pa, ps, co, la) (nI m, op, co, ar, sh, ce) := ll_rel hm hR
  unfold wpX_run wpY_run
  dsimp only
  rcases ll_isC v1 with ⟨lo, hlo, rfl, x1, y1⟩ | ⟨x1, y1⟩
  · refine x1 _ (br_f (by decide) ?_)
    rcases ll_isC v2 with ⟨hh, hhh, rfl, x2, y2⟩ | ⟨x2, y2⟩
    · refine x2 _ (br_f (by decide) ?_)
      refine ll_body_X hm hlo (fun b1 => ?_) (fun b1 => ?_)
      · refine br_f (by decide) ?_
        refine ll_body_X hm hhh (fun b2 => ?_) (fun b2 => ?_)
        · refine br_f (by decide) ?_
          refine pk_le lo hh (fun hl => ?_) (fun hl => ?_)
          · obtain ⟨N, hN⟩ : ∃ N, lo + N = hh + 1 := ⟨hh + 1 - lo, by omega⟩
            have eN : nI hh - nI lo + 1 = nI N := by
              rw [pk_sub hl, nI_1]
              exact congrArg nI (by omega)
            have hin : ∀ j, j < N → ll_In (ll_pA pa) (ll_pH ps) m (lo + j) := by
              intro j hj s hs r hr
              have q1 := b1 s hs r hr
              have q2 := b2 s hs r hr
              exact ⟨(hR s hs r hr).2.2.1, by omega, by omega⟩
            have fin : ∀ la' : Nat → Int32, (fun (r : Int32) (u' : SX) => wpY_badCell (fun r_1 => (r_1 = 0 → wpY_badCell (fun r_9 => (r_9 = 0 → ∃ n21 : Nat, wY_run_21 (fun r' v' => r' = r ∧ i_Rel (k + 5) u' v') (nI lo) (nI hh) (nI m) op co ar sh ce n21 0) ∧ (¬ r_9 = 0 → (-5 : Int32) = r ∧ i_Rel (k + 5) u' (nI m, op, co, ar, sh, ce))) (nI m, op, co, ar, sh, ce) (nI hh)) ∧ (¬ r_1 = 0 → (-5 : Int32) = r ∧ i_Rel (k + 5) u' (nI m, op, co, ar, sh, ce))) (nI m, op, co, ar, sh, ce) (nI lo)) (nI (N * m)) (nI m, ll_rg (ll_pA pa) (ll_pH ps) op co m lo N ce, op, pa, ps, co, la') := by
              intro la'
              refine y1 _ _ (br_t rfl ?_)
              refine y2 _ _ (br_t rfl ?_)
              exact ll_run21 hm hR hlo hhh (fun z => absurd ⟨b1, b2⟩ z) (fun _ _ => ll_run75 hm hN hhh hR hin ⟨rfl, ll_rel hm hR⟩)
            refine nm_r eN ?_
            refine ll_seen_X hm ?_ (fun hF => ?_)
            · exact br_f (by decide) (ll_run70 (e := 0) hm (by omega) (by omega) (Or.inl rfl) hin fin)
            · refine br_t rfl ⟨by decide, ?_⟩
              have e4 : nI N - (nI N - nI N / 4 * 4) = nI (4 * (N / 4)) := by
                have q : nI N - nI N / 4 * 4 = nI (N % 4) := pk_rem (by omega) (by decide) (by decide)
                rw [q, pk_sub (by omega)]
                exact congrArg nI (by omega)
              refine nm_r e4 ?_
              exact ll_run70 (e := N / 4) hm (by omega) (by omega) (Or.inr hF) hin fin
          · refine y1 _ _ (br_t rfl ?_)
            refine y2 _ _ (br_t rfl ?_)
            exact ll_run21 hm hR hlo hhh (fun z => absurd ⟨b1, b2⟩ z) (fun _ _ => ⟨1, pk_lt hh lo (fun _ => ⟨rfl, J⟩) (fun z => absurd z (by omega))⟩)
        · refine br_t rfl ?_
          refine y1 _ _ (br_t rfl ?_)
          refine y2 _ _ (br_t rfl ?_)
          exact ll_run21 hm hR hlo hhh (fun _ => ⟨rfl, J⟩) (fun _ z => absurd z b2)
      · refine br_t rfl ?_
        refine y1 _ _ (br_t rfl ?_)
        refine y2 _ _ (br_t rfl ?_)
        exact ll_run21 hm hR hlo hhh (fun _ => ⟨rfl, J⟩) (fun z _ => absurd z b1)
    · refine x2 _ (br_t rfl ?_)
      refine y1 _ _ (br_t rfl ?_)
      exact y2 _ _ (br_f (by decide) ⟨rfl, J⟩)
  · refine x1 _ (br_t rfl ?_)
    exact y1 _ _ (br_f (by decide) ⟨rfl, J⟩)
theorem i_vc_mustPrecede {k : Nat} {u : SX} {v : SY} (I : i_Rel k u v) (hk : k + 5 ≤ 2560) (v1 : Int32) (v2 : Int32) (v3 : Int32) : wpX_mustPrecede (fun r => wpY_mustPrecede (fun r' => r' = r ∧ i_Rel (k + 5) u v) v v1 v2 v3) u v1 v2 v3 := by
  obtain ⟨m, ce, op, pa, ps, co, la, ar, sh, hm, rfl, rfl, hR⟩ := I
  have J : i_Rel (k + 5) (nI m, ce, op, pa, ps, co, la) (nI m, op, co, ar, sh, ce) := ll_rel hm hR
  unfold wpX_mustPrecede wpY_mustPrecede
  dsimp only
  rcases ll_isS m hm v1 ce op pa ps co la op co ar sh ce with ⟨a, ha, rfl, x1, y1⟩ | ⟨x1, y1⟩
  · refine x1 _ (br_f (by decide) ?_)
    rcases ll_isS m hm v2 ce op pa ps co la op co ar sh ce with ⟨b, hb, rfl, x2, y2⟩ | ⟨x2, y2⟩
    · refine x2 _ (br_f (by decide) ?_)
      by_cases d0 : v3 < 0
      · refine br_t d0 ?_
        refine y1 _ (br_t rfl ?_)
        exact y2 _ (br_t rfl (br_t d0 ⟨rfl, J⟩))
      · refine br_f d0 ?_
        by_cases d8 : v3 ≤ 8
        · refine br_t d8 ?_
          have d8' : ¬ 8 < v3 := Int32.not_lt.mpr d8
          obtain ⟨d, hd, rfl⟩ := nI_of d0
          have hd9 : d < 9 := by
            have := (nI_leI (b := 8) hd (by decide)).mp d8
            omega
          by_cases z : nI d = 0
          · refine br_t z ?_
            by_cases l : nI a < nI b
            · refine br_t l ?_
              unfold wX_mustPrecede_41
              refine ll_clash_X hm ha hb hd9 (fun c => ?_) (fun c => ?_)
              · refine ⟨rfl, ?_⟩
                refine y1 _ (br_t rfl ?_)
                refine y2 _ (br_t rfl (br_f d0 (br_f d8' (br_t z (br_t l ?_)))))
                exact ll_mp40 hm hR ha hb hd9 (fun _ => ⟨rfl, J⟩) (fun w => absurd c w)
              · refine ⟨rfl, ?_⟩
                refine y1 _ (br_t rfl ?_)
                refine y2 _ (br_t rfl (br_f d0 (br_f d8' (br_t z (br_t l ?_)))))
                exact ll_mp40 hm hR ha hb hd9 (fun w => absurd w c) (fun _ => ⟨rfl, J⟩)
            · refine br_f l ?_
              refine y1 _ (br_t rfl ?_)
              exact y2 _ (br_t rfl (br_f d0 (br_f d8' (br_t z (br_f l ⟨rfl, J⟩)))))
          · refine br_f z ?_
            unfold wX_mustPrecede_41
            refine ll_clash_X hm ha hb hd9 (fun c => ?_) (fun c => ?_)
            · refine ⟨rfl, ?_⟩
              refine y1 _ (br_t rfl ?_)
              refine y2 _ (br_t rfl (br_f d0 (br_f d8' (br_f z ?_))))
              exact ll_mp40 hm hR ha hb hd9 (fun _ => ⟨rfl, J⟩) (fun w => absurd c w)
            · refine ⟨rfl, ?_⟩
              refine y1 _ (br_t rfl ?_)
              refine y2 _ (br_t rfl (br_f d0 (br_f d8' (br_f z ?_))))
              exact ll_mp40 hm hR ha hb hd9 (fun w => absurd w c) (fun _ => ⟨rfl, J⟩)
        · refine br_f d8 ?_
          refine y1 _ (br_t rfl ?_)
          exact y2 _ (br_t rfl (br_f d0 (br_t (Int32.not_le.mp d8) ⟨rfl, J⟩)))
    · refine x2 _ (br_t rfl ?_)
      refine y1 _ (br_t rfl ?_)
      exact y2 _ (br_f (by decide) ⟨rfl, J⟩)
  · refine x1 _ (br_t rfl ?_)
    exact y1 _ (br_f (by decide) ⟨rfl, J⟩)
