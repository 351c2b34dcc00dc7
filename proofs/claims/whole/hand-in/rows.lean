section
/-! rows pasted from kit/rows/PURE-ROWS -/
theorem pk_us {f : Nat → Int32} {k : Nat} {x : Int32} : upd f k x k = x := if_pos rfl
theorem pk_un {f : Nat → Int32} {k j : Nat} {x : Int32} (h : j ≠ k) : upd f k x j = f j := if_neg h
theorem pk_sub {a b : Nat} (h : b ≤ a) : nI a - nI b = nI (a - b) := by
  obtain ⟨c, rfl⟩ : ∃ c, a = c + b := ⟨a - b, by omega⟩
  rw [← nI_add, Int32.add_sub_cancel, Nat.add_sub_cancel]
theorem pk_mul (a b : Nat) : nI a * nI b = nI (a * b) := (Int32.ofNat_mul a b).symm
theorem pk_div {a d : Nat} (ha : a < 2 ^ 31) (h0 : 0 < d) (hd : d < 2 ^ 31) : nI a / nI d = nI (a / d) := by
  apply Int32.toInt_inj.mp
  rw [lg_idiv_nonneg (by rw [nI_toInt ha]; omega) (by rw [nI_toInt hd]; omega), nI_toInt ha, nI_toInt hd, nI_toInt (Nat.lt_of_le_of_lt (Nat.div_le_self a d) ha)]
  first | rfl | exact (Int.natCast_ediv _ _).symm
theorem pk_rem {a d : Nat} (ha : a < 2 ^ 31) (h0 : 0 < d) (hd : d < 2 ^ 31) : nI a - nI a / nI d * nI d = nI (a % d) := by
  rw [pk_div ha h0 hd, pk_mul, pk_sub (Nat.div_mul_le_self a d)]
  exact congrArg nI (by have := Nat.div_add_mod' a d; omega)
theorem pk_le {x y : Int32} {A B : Prop} (a b : Nat) (f : a ≤ b → A) (g : b < a → B) (hx : x = nI a := by rfl) (hy : y = nI b := by rfl) (ha : a < 2 ^ 31 := by omega) (hb : b < 2 ^ 31 := by omega) : (x ≤ y → A) ∧ (¬ x ≤ y → B) := by
  subst hx hy
  rw [nI_leI ha hb]
  exact ⟨f, fun z => g (by omega)⟩
theorem pk_lt {x y : Int32} {A B : Prop} (a b : Nat) (f : a < b → A) (g : b ≤ a → B) (hx : x = nI a := by rfl) (hy : y = nI b := by rfl) (ha : a < 2 ^ 31 := by omega) (hb : b < 2 ^ 31 := by omega) : (x < y → A) ∧ (¬ x < y → B) := by
  subst hx hy
  rw [nI_ltI ha hb]
  exact ⟨f, fun z => g (by omega)⟩
theorem pk_eq {x y : Int32} {A B : Prop} (a b : Nat) (f : a = b → A) (g : a ≠ b → B) (hx : x = nI a := by rfl) (hy : y = nI b := by rfl) (ha : a < 2 ^ 31 := by omega) (hb : b < 2 ^ 31 := by omega) : (x = y → A) ∧ (¬ x = y → B) := by
  subst hx hy
  rw [nI_eq ha hb]
  exact ⟨f, g⟩
theorem pk_in {x : Int32} (n N : Nat) (h : n < N) (hx : x = nI n := by rfl) (hN : N < 2 ^ 31 := by omega) : vp_in x N := by
  subst hx
  exact vp_in_nI h hN
theorem pk_cl {x : Int32} (n : Nat) (hx : x = nI n := by rfl) (h : n < 2 ^ 31 := by omega) : x.toNatClampNeg = n := by
  subst hx
  exact nI_clamp h
theorem pk_and (x : Int32) {m : Int32} (k : Nat) (hm : m.toBitVec.toNat = 2 ^ k - 1) : x &&& m = nI (x.toBitVec.toNat % 2 ^ k) := by
  apply Int32.toBitVec_inj.mp
  apply BitVec.eq_of_toNat_eq
  rw [Int32.toBitVec_and, BitVec.toNat_and, hm, Nat.and_two_pow_sub_one_eq_mod]
  show _ = (BitVec.ofNat 32 _).toNat
  rw [BitVec.toNat_ofNat]
  exact (Nat.mod_eq_of_lt (Nat.lt_of_le_of_lt (Nat.mod_le _ _) x.toBitVec.isLt)).symm
theorem pk_andE (x : Int32) {m : Int32} (k : Nat) (hm : m.toBitVec.toNat = 2 ^ k - 1) : ∃ j : Nat, j < 2 ^ k ∧ x &&& m = nI j := ⟨_, Nat.mod_lt _ (Nat.two_pow_pos k), pk_and x k hm⟩
theorem pk_loop {σ : Type} (W : Nat → Nat → σ → Prop) (I : Nat → σ → Prop) (e i0 : Nat) (s : σ) (hi : i0 ≤ e) (h0 : I i0 s) (hx : ∀ n s, I e s → W (n + 1) e s)
    (hs : ∀ n i s, i < e → I i s → (∀ s', I (i + 1) s' → W n (i + 1) s') → W (n + 1) i s) : ∃ n, W n i0 s :=
  ⟨e + 1, loop_i W I e hx hs (e + 1) i0 s hi (by omega) h0⟩
/-! the pure picture: a statement carried out for an index, the body, four lanes; lanes are not seen where nothing clashes -/
theorem ll_us {f : Nat → Int32} {k : Nat} {x : Int32} : upd f k x k = x := if_pos rfl
theorem ll_un {f : Nat → Int32} {k j : Nat} {x : Int32} (h : j ≠ k) : upd f k x j = f j := if_neg h
theorem ll_uc {c : Nat → Int32} {t u : Nat} {w z : Int32} (h : u ≠ t) : upd (upd c t w) u z = upd (upd c u z) t w := by
  funext j
  show (if j = u then z else if j = t then w else c j) = (if j = t then w else if j = u then z else c j)
  by_cases h1 : j = u
  · rw [if_pos h1, if_neg (fun e => h (h1.symm.trans e)), if_pos h1]
  · rw [if_neg h1, if_neg h1]
/-- the value that a statement gives its target: operation, constant, x, y -/
def ll_v (o c x y : Int32) : Int32 := if o = 0 then x + y else if o = 1 then x - y else if o = 2 then x * y else if o = 3 then (if y ≤ x then y else x) else if o = 4 then x + c else if o = 5 then c else x * c
theorem ll_v_cg {o c x y x' y' : Int32} (hx : ¬ o = 5 → x = x') (hy : o ≤ 3 → y = y') : ll_v o c x y = ll_v o c x' y' := by
  by_cases h5 : o = 5
  · have n0 : ¬ o = 0 := fun e => absurd (h5.symm.trans e) (by decide)
    have n1 : ¬ o = 1 := fun e => absurd (h5.symm.trans e) (by decide)
    have n2 : ¬ o = 2 := fun e => absurd (h5.symm.trans e) (by decide)
    have n3 : ¬ o = 3 := fun e => absurd (h5.symm.trans e) (by decide)
    have n4 : ¬ o = 4 := fun e => absurd (h5.symm.trans e) (by decide)
    simp only [ll_v, if_neg n0, if_neg n1, if_neg n2, if_neg n3, if_neg n4, if_pos h5]
  · rw [hx h5]
    by_cases h3 : o ≤ 3
    · rw [hy h3]
    · have n0 : ¬ o = 0 := fun e => h3 (by rw [e]; decide)
      have n1 : ¬ o = 1 := fun e => h3 (by rw [e]; decide)
      have n2 : ¬ o = 2 := fun e => h3 (by rw [e]; decide)
      have n3 : ¬ o = 3 := fun e => h3 (by rw [e]; decide)
      simp only [ll_v, if_neg n0, if_neg n1, if_neg n2, if_neg n3]
/-- the place of statement s's role r (0 target, 1 x, 2 y) for index i: A its array, H its shift plus 4 -/
def ll_pl (A H : Nat → Nat → Nat) (s r i : Nat) : Nat := A s r * 32 + (i + H s r - 4)
def ll_V (A H : Nat → Nat → Nat) (O C : Nat → Int32) (s i : Nat) (a : Nat → Int32) : Int32 := ll_v (O s) (C s) (a (ll_pl A H s 1 i)) (a (ll_pl A H s 2 i))
def ll_st (A H : Nat → Nat → Nat) (O C : Nat → Int32) (s i : Nat) (a : Nat → Int32) : Nat → Int32 := upd a (ll_pl A H s 0 i) (ll_V A H O C s i a)
/-- the first m statements of the body for index i -/
def ll_bd (A H : Nat → Nat → Nat) (O C : Nat → Int32) (i : Nat) : Nat → (Nat → Int32) → Nat → Int32
  | 0 => fun a => a
  | m + 1 => fun a => ll_st A H O C m i (ll_bd A H O C i m a)
/-- the body of m statements for n indexes from i on -/
def ll_rg (A H : Nat → Nat → Nat) (O C : Nat → Int32) (m i : Nat) : Nat → (Nat → Int32) → Nat → Int32
  | 0 => fun a => a
  | n + 1 => fun a => ll_bd A H O C (i + n) m (ll_rg A H O C m i n a)
/-- one statement in four lanes from index f on: four reads, then four writes -/
def ll_row (A H : Nat → Nat → Nat) (O C : Nat → Int32) (s f : Nat) (a : Nat → Int32) : Nat → Int32 :=
  upd (upd (upd (upd a (ll_pl A H s 0 f) (ll_V A H O C s f a)) (ll_pl A H s 0 (f + 1)) (ll_V A H O C s (f + 1) a)) (ll_pl A H s 0 (f + 2)) (ll_V A H O C s (f + 2) a)) (ll_pl A H s 0 (f + 3)) (ll_V A H O C s (f + 3) a)
def ll_lanes (A H : Nat → Nat → Nat) (O C : Nat → Int32) (f : Nat) : Nat → (Nat → Int32) → Nat → Int32
  | 0 => fun a => a
  | m + 1 => fun a => ll_row A H O C m f (ll_lanes A H O C f m a)
def ll_same (A H : Nat → Nat → Nat) (a p b r d : Nat) : Prop := A a p = A b r ∧ H a p = H b r + d
def ll_wr (A H : Nat → Nat → Nat) (O : Nat → Int32) (a b d : Nat) : Prop := (¬ O b = 5 ∧ ll_same A H a 0 b 1 d) ∨ (O b ≤ 3 ∧ ll_same A H a 0 b 2 d)
def ll_rd (A H : Nat → Nat → Nat) (O : Nat → Int32) (a b d : Nat) : Prop := (¬ O a = 5 ∧ ll_same A H a 1 b 0 d) ∨ (O a ≤ 3 ∧ ll_same A H a 2 b 0 d)
def ll_clash (A H : Nat → Nat → Nat) (O : Nat → Int32) (a b d : Nat) : Prop := ll_same A H a 0 b 0 d ∨ ll_wr A H O a b d ∨ ll_rd A H O a b d
def ll_Free (A H : Nat → Nat → Nat) (O : Nat → Int32) (m : Nat) : Prop := ∀ l, l < m → ∀ d, 1 ≤ d → d < 4 → ¬ ll_wr A H O l l d ∧ ∀ e, e < l → ¬ ll_clash A H O l e d
/-- all places of the body for index i lie inside -/
def ll_In (A H : Nat → Nat → Nat) (m i : Nat) : Prop := ∀ s, s < m → ∀ r, r < 3 → A s r < 3 ∧ 4 ≤ i + H s r ∧ i + H s r < 36
theorem ll_pl_lt {A H : Nat → Nat → Nat} {m i s r : Nat} (h : ll_In A H m i) (hs : s < m) (hr : r < 3) : ll_pl A H s r i < 96 := by
  have := h s hs r hr
  unfold ll_pl
  omega
theorem ll_pl_same {A H : Nat → Nat → Nat} {m i a p b r d : Nat} (hi : ll_In A H m i) (hj : ll_In A H m (i + d)) (ha : a < m) (hb : b < m) (hp : p < 3) (hr : r < 3) (e : ll_pl A H a p i = ll_pl A H b r (i + d)) : ll_same A H a p b r d := by
  have h1 := hi a ha p hp
  have h2 := hj b hb r hr
  unfold ll_pl at e
  exact ⟨by omega, by omega⟩
theorem ll_comm {A H : Nat → Nat → Nat} {O C : Nat → Int32} {a b i j : Nat} (hT : ll_pl A H a 0 i ≠ ll_pl A H b 0 j)
    (h1 : ¬ O a = 5 → ll_pl A H a 1 i ≠ ll_pl A H b 0 j) (h2 : O a ≤ 3 → ll_pl A H a 2 i ≠ ll_pl A H b 0 j)
    (h3 : ¬ O b = 5 → ll_pl A H a 0 i ≠ ll_pl A H b 1 j) (h4 : O b ≤ 3 → ll_pl A H a 0 i ≠ ll_pl A H b 2 j) (c : Nat → Int32) :
    ll_st A H O C a i (ll_st A H O C b j c) = ll_st A H O C b j (ll_st A H O C a i c) := by
  have e1 : ll_V A H O C a i (ll_st A H O C b j c) = ll_V A H O C a i c := ll_v_cg (fun h => ll_un (h1 h)) (fun h => ll_un (h2 h))
  have e2 : ll_V A H O C b j (ll_st A H O C a i c) = ll_V A H O C b j c := ll_v_cg (fun h => ll_un (Ne.symm (h3 h))) (fun h => ll_un (Ne.symm (h4 h)))
  show upd (ll_st A H O C b j c) (ll_pl A H a 0 i) (ll_V A H O C a i (ll_st A H O C b j c)) = upd (ll_st A H O C a i c) (ll_pl A H b 0 j) (ll_V A H O C b j (ll_st A H O C a i c))
  rw [e1, e2]
  exact ll_uc hT
theorem ll_free_comm {A H : Nat → Nat → Nat} {O C : Nat → Int32} {m i l e d : Nat} (hF : ll_Free A H O m) (hl : l < m) (he : e < l) (h1 : 1 ≤ d) (h4 : d < 4) (hi : ll_In A H m i) (hj : ll_In A H m (i + d)) (c : Nat → Int32) :
    ll_st A H O C l i (ll_st A H O C e (i + d) c) = ll_st A H O C e (i + d) (ll_st A H O C l i c) := by
  have hc := (hF l hl d h1 h4).2 e he
  have hem : e < m := Nat.lt_trans he hl
  refine ll_comm ?_ ?_ ?_ ?_ ?_ c
  · exact fun q => hc (Or.inl (ll_pl_same hi hj hl hem (by decide) (by decide) q))
  · exact fun k q => hc (Or.inr (Or.inr (Or.inl ⟨k, ll_pl_same hi hj hl hem (by decide) (by decide) q⟩)))
  · exact fun k q => hc (Or.inr (Or.inr (Or.inr ⟨k, ll_pl_same hi hj hl hem (by decide) (by decide) q⟩)))
  · exact fun k q => hc (Or.inr (Or.inl (Or.inl ⟨k, ll_pl_same hi hj hl hem (by decide) (by decide) q⟩)))
  · exact fun k q => hc (Or.inr (Or.inl (Or.inr ⟨k, ll_pl_same hi hj hl hem (by decide) (by decide) q⟩)))
theorem ll_cb {A H : Nat → Nat → Nat} {O C : Nat → Int32} {l i j : Nat} : ∀ n : Nat, (∀ e, e < n → ∀ c : Nat → Int32, ll_st A H O C l i (ll_st A H O C e j c) = ll_st A H O C e j (ll_st A H O C l i c)) → ∀ c : Nat → Int32, ll_st A H O C l i (ll_bd A H O C j n c) = ll_bd A H O C j n (ll_st A H O C l i c) := by
  intro n
  induction n with
  | zero => intro _ c; rfl
  | succ n ih =>
    intro h c
    show ll_st A H O C l i (ll_st A H O C n j (ll_bd A H O C j n c)) = ll_st A H O C n j (ll_bd A H O C j n (ll_st A H O C l i c))
    rw [h n (Nat.lt_succ_self n), ih (fun e he => h e (Nat.lt_succ_of_lt he))]
/-- a lane that no lower lane's write reaches reads what it read before -/
theorem ll_V_un {A H : Nat → Nat → Nat} {O C : Nat → Int32} {m s i d : Nat} {w : Int32} {c : Nat → Int32} (hF : ll_Free A H O m) (hs : s < m) (h1 : 1 ≤ d) (h4 : d < 4) (hi : ll_In A H m i) (hj : ll_In A H m (i + d)) :
    ll_V A H O C s (i + d) (upd c (ll_pl A H s 0 i) w) = ll_V A H O C s (i + d) c := by
  have hc := (hF s hs d h1 h4).1
  refine ll_v_cg (fun k => ll_un fun q => ?_) (fun k => ll_un fun q => ?_)
  · exact hc (Or.inl ⟨k, ll_pl_same hi hj hs hs (by decide) (by decide) q.symm⟩)
  · exact hc (Or.inr ⟨k, ll_pl_same hi hj hs hs (by decide) (by decide) q.symm⟩)
theorem ll_row_eq {A H : Nat → Nat → Nat} {O C : Nat → Int32} {m s f : Nat} (hF : ll_Free A H O m) (hs : s < m) (i0 : ll_In A H m f) (i1 : ll_In A H m (f + 1)) (i2 : ll_In A H m (f + 2)) (i3 : ll_In A H m (f + 3)) (a : Nat → Int32) :
    ll_row A H O C s f a = ll_st A H O C s (f + 3) (ll_st A H O C s (f + 2) (ll_st A H O C s (f + 1) (ll_st A H O C s f a))) := by
  have a1 : ll_V A H O C s (f + 1) (ll_st A H O C s f a) = ll_V A H O C s (f + 1) a := ll_V_un hF hs (by decide) (by decide) i0 i1
  have a2 : ll_V A H O C s (f + 2) (ll_st A H O C s (f + 1) (ll_st A H O C s f a)) = ll_V A H O C s (f + 2) a :=
    (ll_V_un (d := 1) hF hs (by decide) (by decide) i1 i2).trans (ll_V_un (d := 2) hF hs (by decide) (by decide) i0 i2)
  have a3 : ll_V A H O C s (f + 3) (ll_st A H O C s (f + 2) (ll_st A H O C s (f + 1) (ll_st A H O C s f a))) = ll_V A H O C s (f + 3) a :=
    ((ll_V_un (d := 1) hF hs (by decide) (by decide) i2 i3).trans (ll_V_un (d := 2) hF hs (by decide) (by decide) i1 i3)).trans (ll_V_un (d := 3) hF hs (by decide) (by decide) i0 i3)
  show _ = upd (ll_st A H O C s (f + 2) (ll_st A H O C s (f + 1) (ll_st A H O C s f a))) (ll_pl A H s 0 (f + 3)) (ll_V A H O C s (f + 3) (ll_st A H O C s (f + 2) (ll_st A H O C s (f + 1) (ll_st A H O C s f a))))
  rw [a3]
  show _ = upd (upd (ll_st A H O C s (f + 1) (ll_st A H O C s f a)) (ll_pl A H s 0 (f + 2)) (ll_V A H O C s (f + 2) (ll_st A H O C s (f + 1) (ll_st A H O C s f a)))) _ _
  rw [a2]
  show _ = upd (upd (upd (ll_st A H O C s f a) (ll_pl A H s 0 (f + 1)) (ll_V A H O C s (f + 1) (ll_st A H O C s f a))) _ _) _ _
  rw [a1]
  rfl
theorem ll_lanes_eq {A H : Nat → Nat → Nat} {O C : Nat → Int32} {m f : Nat} (hF : ll_Free A H O m) (i0 : ll_In A H m f) (i1 : ll_In A H m (f + 1)) (i2 : ll_In A H m (f + 2)) (i3 : ll_In A H m (f + 3)) (a : Nat → Int32) :
    ∀ n, n ≤ m → ll_lanes A H O C f n a = ll_bd A H O C (f + 3) n (ll_bd A H O C (f + 2) n (ll_bd A H O C (f + 1) n (ll_bd A H O C f n a))) := by
  intro n
  induction n with
  | zero => intro _; rfl
  | succ n ih =>
    intro hn
    have hs : n < m := hn
    have c03 := ll_cb (A := A) (H := H) (O := O) (C := C) (l := n) (i := f) (j := f + 3) n (fun e he c => ll_free_comm hF hs he (by decide) (by decide) i0 i3 c)
    have c02 := ll_cb (A := A) (H := H) (O := O) (C := C) (l := n) (i := f) (j := f + 2) n (fun e he c => ll_free_comm hF hs he (by decide) (by decide) i0 i2 c)
    have c01 := ll_cb (A := A) (H := H) (O := O) (C := C) (l := n) (i := f) (j := f + 1) n (fun e he c => ll_free_comm hF hs he (by decide) (by decide) i0 i1 c)
    have c13 := ll_cb (A := A) (H := H) (O := O) (C := C) (l := n) (i := f + 1) (j := f + 3) n (fun e he c => ll_free_comm (d := 2) hF hs he (by decide) (by decide) i1 i3 c)
    have c12 := ll_cb (A := A) (H := H) (O := O) (C := C) (l := n) (i := f + 1) (j := f + 2) n (fun e he c => ll_free_comm (d := 1) hF hs he (by decide) (by decide) i1 i2 c)
    have c23 := ll_cb (A := A) (H := H) (O := O) (C := C) (l := n) (i := f + 2) (j := f + 3) n (fun e he c => ll_free_comm (d := 1) hF hs he (by decide) (by decide) i2 i3 c)
    show ll_row A H O C n f (ll_lanes A H O C f n a) = ll_st A H O C n (f + 3) (ll_bd A H O C (f + 3) n (ll_st A H O C n (f + 2) (ll_bd A H O C (f + 2) n (ll_st A H O C n (f + 1) (ll_bd A H O C (f + 1) n (ll_st A H O C n f (ll_bd A H O C f n a)))))))
    rw [ll_row_eq hF hs i0 i1 i2 i3, ih (Nat.le_of_lt hn), c03, c02, c01, c13, c12, c23]
/-- the run in lanes of four equals the run index by index, four indexes at a time -/
theorem ll_rg4 {A H : Nat → Nat → Nat} {O C : Nat → Int32} {m i n : Nat} (hF : ll_Free A H O m) (hI : ∀ k, k < n + 4 → ll_In A H m (i + k)) (a : Nat → Int32) :
    ll_lanes A H O C (i + n) m (ll_rg A H O C m i n a) = ll_rg A H O C m i (n + 4) a := by
  rw [ll_lanes_eq hF (hI n (by omega)) (hI (n + 1) (by omega)) (hI (n + 2) (by omega)) (hI (n + 3) (by omega)) _ m (Nat.le_refl m)]
  rfl
end
section
/-! the packed ints, the small tests of both sides -/
def ll_A (w : Int32) (r : Nat) : Nat := ((w >>> ((2 * nI r) &&& 31)) &&& 3).toNatClampNeg
def ll_H (w : Int32) (r : Nat) : Nat := ((w >>> ((4 * nI r) &&& 31)) &&& 15).toNatClampNeg
def ll_pA (pa : Nat → Int32) (s r : Nat) : Nat := ll_A (pa s) r
def ll_pH (ps : Nat → Int32) (s r : Nat) : Nat := ll_H (ps s) r
theorem ll_A_e (w : Int32) (r : Nat) : (w >>> ((2 * nI r) &&& 31)) &&& 3 = nI (ll_A w r) ∧ ll_A w r < 4 := by
  obtain ⟨j, hj, e⟩ := pk_andE (w >>> ((2 * nI r) &&& 31)) (m := 3) 2 (by decide)
  unfold ll_A
  rw [e, nI_clamp (n := j) (by omega)]
  exact ⟨rfl, hj⟩
theorem ll_H_e (w : Int32) (r : Nat) : (w >>> ((4 * nI r) &&& 31)) &&& 15 = nI (ll_H w r) ∧ ll_H w r < 16 := by
  obtain ⟨j, hj, e⟩ := pk_andE (w >>> ((4 * nI r) &&& 31)) (m := 15) 4 (by decide)
  unfold ll_H
  rw [e, nI_clamp (n := j) (by omega)]
  exact ⟨rfl, hj⟩
theorem ll_aI {post : Int32 → Prop} {w : Int32} {r : Nat} (h : post (nI (ll_A w r))) : wpX_arrayIn post w (nI r) := by
  unfold wpX_arrayIn
  rw [(ll_A_e w r).1]
  exact h
theorem ll_sI {post : Int32 → Prop} {w : Int32} {r : Nat} (h : post (nI (ll_H w r) - 4)) : wpX_shiftIn post w (nI r) := by
  unfold wpX_shiftIn
  rw [(ll_H_e w r).1]
  exact h
theorem ll_3 {P : Nat → Prop} (h0 : P 0) (h1 : P 1) (h2 : P 2) : ∀ r, r < 3 → P r := by
  intro r hr
  match r, hr with
  | 0, _ => exact h0
  | 1, _ => exact h1
  | 2, _ => exact h2
/-- both sides' test of an array's number -/
theorem ll_isA (x : Int32) : (∃ j : Nat, j < 3 ∧ x = nI j ∧ (∀ post : Int32 → Prop, post 1 → wpX_isArray post x) ∧ (∀ (post : Int32 → Prop) (v : SY), post 0 → wpY_badArray post v x)) ∨ ((∀ post : Int32 → Prop, post 0 → wpX_isArray post x) ∧ (∀ (post : Int32 → Prop) (v : SY), post 1 → wpY_badArray post v x)) := by
  by_cases h : x < 0
  · refine Or.inr ⟨fun post p => br_t h p, fun post v p => ?_⟩
    obtain ⟨v1, v2, v3, v4, v5, v6⟩ := v
    exact br_t h p
  · obtain ⟨j, hj, rfl⟩ := nI_of h
    by_cases h3 : j < 3
    · refine Or.inl ⟨j, h3, rfl, fun post p => ?_, fun post v p => ?_⟩
      · exact br_f h (pk_le 3 j (fun z => absurd z (by omega)) (fun _ => p))
      · obtain ⟨v1, v2, v3, v4, v5, v6⟩ := v
        exact br_f h (pk_le j 2 (fun _ => p) (fun z => absurd z (by omega)))
    · refine Or.inr ⟨fun post p => ?_, fun post v p => ?_⟩
      · exact br_f h (pk_le 3 j (fun _ => p) (fun z => absurd z (by omega)))
      · obtain ⟨v1, v2, v3, v4, v5, v6⟩ := v
        exact br_f h (pk_le j 2 (fun z => absurd z (by omega)) (fun _ => p))
/-- both sides' test of a cell's number -/
theorem ll_isC (x : Int32) : (∃ j : Nat, j < 32 ∧ x = nI j ∧ (∀ post : Int32 → Prop, post 1 → wpX_isCell post x) ∧ (∀ (post : Int32 → Prop) (v : SY), post 0 → wpY_badCell post v x)) ∨ ((∀ post : Int32 → Prop, post 0 → wpX_isCell post x) ∧ (∀ (post : Int32 → Prop) (v : SY), post 1 → wpY_badCell post v x)) := by
  by_cases h : x < 0
  · refine Or.inr ⟨fun post p => br_t h p, fun post v p => ?_⟩
    obtain ⟨v1, v2, v3, v4, v5, v6⟩ := v
    exact br_t h p
  · obtain ⟨j, hj, rfl⟩ := nI_of h
    by_cases h3 : j < 32
    · refine Or.inl ⟨j, h3, rfl, fun post p => ?_, fun post v p => ?_⟩
      · exact br_f h (pk_le 32 j (fun z => absurd z (by omega)) (fun _ => p))
      · obtain ⟨v1, v2, v3, v4, v5, v6⟩ := v
        exact br_f h (pk_le j 31 (fun _ => p) (fun z => absurd z (by omega)))
    · refine Or.inr ⟨fun post p => ?_, fun post v p => ?_⟩
      · exact br_f h (pk_le 32 j (fun _ => p) (fun z => absurd z (by omega)))
      · obtain ⟨v1, v2, v3, v4, v5, v6⟩ := v
        exact br_f h (pk_le j 31 (fun z => absurd z (by omega)) (fun _ => p))
/-- both sides' test of a statement's number -/
theorem ll_isS (m : Nat) (hm : m ≤ 4) (x : Int32) (c1 c2 c3 c4 c5 c6 d1 d2 d3 d4 d5 : Nat → Int32) :
    (∃ j : Nat, j < m ∧ x = nI j ∧ (∀ post : Int32 → Prop, post 1 → wpX_isStatement post (nI m, c1, c2, c3, c4, c5, c6) x) ∧ (∀ post : Int32 → Prop, post 0 → wpY_noStatement post (nI m, d1, d2, d3, d4, d5) x)) ∨
    ((∀ post : Int32 → Prop, post 0 → wpX_isStatement post (nI m, c1, c2, c3, c4, c5, c6) x) ∧ (∀ post : Int32 → Prop, post 1 → wpY_noStatement post (nI m, d1, d2, d3, d4, d5) x)) := by
  by_cases h : x < 0
  · exact Or.inr ⟨fun post p => br_t h p, fun post p => br_t h p⟩
  · obtain ⟨j, hj, rfl⟩ := nI_of h
    by_cases h3 : j < m
    · refine Or.inl ⟨j, h3, rfl, fun post p => ?_, fun post p => ?_⟩
      · exact br_f h (pk_le m j (fun z => absurd z (by omega)) (fun _ => p))
      · exact br_f h (pk_lt j m (fun _ => p) (fun z => absurd z (by omega)))
    · refine Or.inr ⟨fun post p => ?_, fun post p => ?_⟩
      · exact br_f h (pk_le m j (fun _ => p) (fun z => absurd z (by omega)))
      · exact br_f h (pk_lt j m (fun z => absurd z (by omega)) (fun _ => p))
/-- a shift added to an index, as a place -/
theorem ll_pl_e {a i h : Nat} (k : 4 ≤ i + h) : nI a * 32 + nI i + (nI h - 4) = nI (a * 32 + (i + h - 4)) := by
  have e : nI (a * 32 + (i + h - 4)) = nI (a * 32 + i + h) - nI 4 := by
    rw [pk_sub (by omega)]
    exact congrArg nI (by omega)
  rw [e, ← nI_add, ← nI_add, ← pk_mul]
  show nI a * 32 + nI i + (nI h - 4) = nI a * 32 + nI i + nI h - 4
  grind
theorem ll_sh_eq {x y d : Nat} (hx : x < 16) (hy : y < 16) (hd : d < 9) : (nI x - 4 = nI y - 4 + nI d) ↔ x = y + d := by
  have e : (nI x - 4 = nI y - 4 + nI d) ↔ nI x = nI (y + d) := by
    rw [← nI_add]
    constructor
    · intro h; grind
    · intro h; grind
  rw [e, nI_eq (by omega) (by omega)]
theorem ll_sh_le : ∀ h, h < 16 → ((nI h - 4 ≤ (4 : Int32)) ↔ h ≤ 8) := by decide +kernel
/-- an index with a shift is a cell's number just where it lies inside -/
theorem ll_ic {i h : Nat} (hi : i < 32) (hh : h < 16) : (4 ≤ i + h ∧ i + h < 36 ∧ nI i + (nI h - 4) = nI (i + h - 4)) ∨ (¬ (4 ≤ i + h ∧ i + h < 36) ∧ (nI i + (nI h - 4) < 0 ∨ ∃ j : Nat, 32 ≤ j ∧ j < 64 ∧ nI i + (nI h - 4) = nI j)) := by
  have e : nI i + (nI h - 4) = nI (i + h) - nI 4 := by
    rw [← nI_add]
    show nI i + (nI h - 4) = nI i + nI h - 4
    grind
  by_cases h4 : 4 ≤ i + h
  · have e2 : nI i + (nI h - 4) = nI (i + h - 4) := e.trans (pk_sub h4)
    by_cases h36 : i + h < 36
    · exact Or.inl ⟨h4, h36, e2⟩
    · exact Or.inr ⟨fun z => h36 z.2, Or.inr ⟨i + h - 4, by omega, by omega, e2⟩⟩
  · refine Or.inr ⟨fun z => h4 z.1, Or.inl ?_⟩
    rw [e]
    have : i + h = 0 ∨ i + h = 1 ∨ i + h = 2 ∨ i + h = 3 := by omega
    rcases this with z | z | z | z <;> rw [z] <;> decide +kernel
theorem ll_icX {post : Int32 → Prop} {i h : Nat} (hi : i < 32) (hh : h < 16) (p1 : 4 ≤ i + h ∧ i + h < 36 → post 1) (p0 : ¬ (4 ≤ i + h ∧ i + h < 36) → post 0) : wpX_isCell post (nI i + (nI h - 4)) := by
  rcases ll_ic hi hh with ⟨a, b, e⟩ | ⟨n, e | ⟨j, a, b, e⟩⟩
  · rw [e]
    exact br_f (nI_pos (by omega)) (pk_le 32 (i + h - 4) (fun z => absurd z (by omega)) (fun _ => p1 ⟨a, b⟩))
  · exact br_t e (p0 n)
  · rw [e]
    exact br_f (nI_pos (by omega)) (pk_le 32 j (fun _ => p0 n) (fun z => absurd z (by omega)))
theorem ll_icY {post : Int32 → Prop} {v : SY} {i h : Nat} (hi : i < 32) (hh : h < 16) (p1 : 4 ≤ i + h ∧ i + h < 36 → post 0) (p0 : ¬ (4 ≤ i + h ∧ i + h < 36) → post 1) : wpY_badCell post v (nI i + (nI h - 4)) := by
  obtain ⟨v1, v2, v3, v4, v5, v6⟩ := v
  rcases ll_ic hi hh with ⟨a, b, e⟩ | ⟨n, e | ⟨j, a, b, e⟩⟩
  · rw [e]
    exact br_f (nI_pos (by omega)) (pk_le (i + h - 4) 31 (fun _ => p1 ⟨a, b⟩) (fun z => absurd z (by omega)))
  · exact br_t e (p0 n)
  · rw [e]
    exact br_f (nI_pos (by omega)) (pk_le j 31 (fun z => absurd z (by omega)) (fun _ => p0 n))
end
section
/-! X's tests of two statements, lanesCanBeSeen -/
section
variable {ce op pa ps co la : Nat → Int32} {m : Nat} {post : Int32 → Prop}
theorem ll_same_X {a p b r d : Nat} (hm : m ≤ 4) (ha : a < m) (hb : b < m) (hd : d < 9)
    (h1 : ll_same (ll_pA pa) (ll_pH ps) a p b r d → post 1) (h0 : ¬ ll_same (ll_pA pa) (ll_pH ps) a p b r d → post 0) :
    wpX_sameCell post (nI m, ce, op, pa, ps, co, la) (nI a) (nI p) (nI b) (nI r) (nI d) := by
  unfold wpX_sameCell
  dsimp only
  rw [nI_clamp (n := a) (by omega), nI_clamp (n := b) (by omega)]
  have A1 := (ll_A_e (pa a) p).2
  have A2 := (ll_A_e (pa b) r).2
  have H1 := (ll_H_e (ps a) p).2
  have H2 := (ll_H_e (ps b) r).2
  refine ⟨pk_in a 4 (by omega), ll_aI ⟨pk_in b 4 (by omega), ll_aI ?_⟩⟩
  refine pk_eq (ll_A (pa a) p) (ll_A (pa b) r) (fun e => ?_) (fun ne => h0 (fun q => ne q.1))
  refine ⟨pk_in a 4 (by omega), ll_sI ⟨pk_in b 4 (by omega), ll_sI ?_⟩⟩
  exact ⟨fun z => h1 ⟨e, (ll_sh_eq H1 H2 hd).mp z⟩, fun z => h0 (fun q => z ((ll_sh_eq H1 H2 hd).mpr q.2))⟩
theorem ll_look1 {s : Nat} (hm : m ≤ 4) (hs : s < m) (h1 : ¬ op s = 5 → post 1) (h0 : op s = 5 → post 0) :
    wpX_looksAt post (nI m, ce, op, pa, ps, co, la) (nI s) 1 := by
  unfold wpX_looksAt
  dsimp only
  rw [nI_clamp (n := s) (by omega)]
  exact br_t rfl ⟨pk_in s 4 (by omega), h0, h1⟩
theorem ll_look2 {s : Nat} (hm : m ≤ 4) (hs : s < m) (h1 : op s ≤ 3 → post 1) (h0 : ¬ op s ≤ 3 → post 0) :
    wpX_looksAt post (nI m, ce, op, pa, ps, co, la) (nI s) 2 := by
  unfold wpX_looksAt
  dsimp only
  rw [nI_clamp (n := s) (by omega)]
  exact br_f (by decide) ⟨pk_in s 4 (by omega), fun z => h0 (Int32.not_le.mpr z), fun z => h1 (Int32.not_lt.mp z)⟩
theorem ll_wr_X {a b d : Nat} (hm : m ≤ 4) (ha : a < m) (hb : b < m) (hd : d < 9)
    (h1 : ll_wr (ll_pA pa) (ll_pH ps) op a b d → post 1) (h0 : ¬ ll_wr (ll_pA pa) (ll_pH ps) op a b d → post 0) :
    wpX_writesThenReads post (nI m, ce, op, pa, ps, co, la) (nI a) (nI b) (nI d) := by
  have H21 : ¬ (¬ op b = 5 ∧ ll_same (ll_pA pa) (ll_pH ps) a 0 b 1 d) → wX_writesThenReads_21 post (nI a) (nI b) (nI d) (nI m) ce op pa ps co la := by
    intro n1
    unfold wX_writesThenReads_21
    refine ll_look2 hm hb (fun k => ?_) (fun k => ?_)
    · refine br_f (by decide) ?_
      refine ll_same_X (p := 0) (r := 2) hm ha hb hd (fun q => ?_) (fun q => ?_)
      · exact br_f (by decide) (h1 (Or.inr ⟨k, q⟩))
      · exact br_t rfl (h0 (fun w => w.elim n1 (fun w => q w.2)))
    · exact br_t rfl (h0 (fun w => w.elim n1 (fun w => k w.1)))
  unfold wpX_writesThenReads
  dsimp only
  refine ll_look1 hm hb (fun k => ?_) (fun k => ?_)
  · refine br_f (by decide) ?_
    refine ll_same_X (p := 0) (r := 1) hm ha hb hd (fun q => ?_) (fun q => ?_)
    · exact br_f (by decide) (h1 (Or.inl ⟨k, q⟩))
    · exact br_t rfl (H21 (fun w => q w.2))
  · exact br_t rfl (H21 (fun w => w.1 k))
theorem ll_rd_X {a b d : Nat} (hm : m ≤ 4) (ha : a < m) (hb : b < m) (hd : d < 9)
    (h1 : ll_rd (ll_pA pa) (ll_pH ps) op a b d → post 1) (h0 : ¬ ll_rd (ll_pA pa) (ll_pH ps) op a b d → post 0) :
    wpX_readsThenWrites post (nI m, ce, op, pa, ps, co, la) (nI a) (nI b) (nI d) := by
  have H21 : ¬ (¬ op a = 5 ∧ ll_same (ll_pA pa) (ll_pH ps) a 1 b 0 d) → wX_readsThenWrites_21 post (nI a) (nI b) (nI d) (nI m) ce op pa ps co la := by
    intro n1
    unfold wX_readsThenWrites_21
    refine ll_look2 hm ha (fun k => ?_) (fun k => ?_)
    · refine br_f (by decide) ?_
      refine ll_same_X (p := 2) (r := 0) hm ha hb hd (fun q => ?_) (fun q => ?_)
      · exact br_f (by decide) (h1 (Or.inr ⟨k, q⟩))
      · exact br_t rfl (h0 (fun w => w.elim n1 (fun w => q w.2)))
    · exact br_t rfl (h0 (fun w => w.elim n1 (fun w => k w.1)))
  unfold wpX_readsThenWrites
  dsimp only
  refine ll_look1 hm ha (fun k => ?_) (fun k => ?_)
  · refine br_f (by decide) ?_
    refine ll_same_X (p := 1) (r := 0) hm ha hb hd (fun q => ?_) (fun q => ?_)
    · exact br_f (by decide) (h1 (Or.inl ⟨k, q⟩))
    · exact br_t rfl (H21 (fun w => q w.2))
  · exact br_t rfl (H21 (fun w => w.1 k))
theorem ll_clash_X {a b d : Nat} (hm : m ≤ 4) (ha : a < m) (hb : b < m) (hd : d < 9)
    (h1 : ll_clash (ll_pA pa) (ll_pH ps) op a b d → post 1) (h0 : ¬ ll_clash (ll_pA pa) (ll_pH ps) op a b d → post 0) :
    wpX_clash post (nI m, ce, op, pa, ps, co, la) (nI a) (nI b) (nI d) := by
  unfold wpX_clash
  dsimp only
  refine ll_same_X (p := 0) (r := 0) hm ha hb hd (fun q => ?_) (fun q => ?_)
  · exact br_f (by decide) (h1 (Or.inl q))
  · refine br_t rfl ?_
    refine ll_wr_X hm ha hb hd (fun w => ?_) (fun w => ?_)
    · exact br_f (by decide) (h1 (Or.inr (Or.inl w)))
    · refine br_t rfl ?_
      refine ll_rd_X hm ha hb hd (fun z => ?_) (fun z => ?_)
      · exact br_f (by decide) (h1 (Or.inr (Or.inr z)))
      · exact br_t rfl (h0 (fun c => c.elim q (fun c => c.elim w z)))
theorem ll_seen31 {J2 J12 : Int32 → Prop} {l d : Nat} (hm : m ≤ 4) (hl : l < m) (hd : d < 4) (h1 : post 1)
    (hJ : (∀ e, e < l → ¬ ll_clash (ll_pA pa) (ll_pH ps) op l e d) → J12 (nI (d + 1))) :
    ∃ n31 : Nat, wX_lanesCanBeSeen_31 post J2 J12 (nI l) (nI d) (nI m) ce op pa ps co la n31 0 := by
  refine loop_0 (fun n i (_ : Unit) => wX_lanesCanBeSeen_31 post J2 J12 (nI l) (nI d) (nI m) ce op pa ps co la n (nI i)) (fun i _ => ∀ e, e < i → ¬ ll_clash (ll_pA pa) (ll_pH ps) op l e d) l () lt_0 ?_ ?_
  · intro n _ I
    exact pk_le l l (fun _ => nm_r (nI_1 d) (hJ I)) (fun z => absurd z (by omega))
  · intro n i _ hi I ih
    refine pk_le l i (fun z => absurd z (by omega)) (fun _ => ?_)
    refine ll_clash_X hm hl (by omega) (by omega) (fun _ => ?_) (fun c => ?_)
    · exact br_f (by decide) h1
    · exact br_t rfl (nm_r (nI_1 i) (ih () (lt_s I c)))
theorem ll_seen12 {J2 : Int32 → Prop} {l : Nat} (hm : m ≤ 4) (hl : l < m) (h1 : post 1)
    (hJ : (∀ d, 1 ≤ d → d < 4 → ¬ ll_wr (ll_pA pa) (ll_pH ps) op l l d ∧ ∀ e, e < l → ¬ ll_clash (ll_pA pa) (ll_pH ps) op l e d) → J2 (nI (l + 1))) :
    ∃ n12 : Nat, wX_lanesCanBeSeen_12 post J2 (nI l) (nI m) ce op pa ps co la n12 1 := by
  refine pk_loop (fun n i (_ : Unit) => wX_lanesCanBeSeen_12 post J2 (nI l) (nI m) ce op pa ps co la n (nI i)) (fun i _ => 1 ≤ i ∧ ∀ d, 1 ≤ d → d < i → ¬ ll_wr (ll_pA pa) (ll_pH ps) op l l d ∧ ∀ e, e < l → ¬ ll_clash (ll_pA pa) (ll_pH ps) op l e d) 4 1 () (by omega) ⟨by omega, fun d h h' => absurd h' (by omega)⟩ ?_ ?_
  · intro n _ I
    exact pk_le 4 4 (fun _ => nm_r (nI_1 l) (hJ I.2)) (fun z => absurd z (by omega))
  · intro n i _ hi I ih
    refine pk_le 4 i (fun z => absurd z (by omega)) (fun _ => ?_)
    refine ll_wr_X hm hl hl (by omega) (fun _ => ?_) (fun w => ?_)
    · exact br_f (by decide) h1
    · refine br_t rfl ?_
      refine ll_seen31 hm hl hi h1 (fun c => ih () ⟨by omega, fun d hd hd' => ?_⟩)
      by_cases e : d = i
      · subst e; exact ⟨w, c⟩
      · exact I.2 d hd (by omega)
theorem ll_seen_X (hm : m ≤ 4) (h1 : post 1) (h0 : ll_Free (ll_pA pa) (ll_pH ps) op m → post 0) :
    wpX_lanesCanBeSeen post (nI m, ce, op, pa, ps, co, la) := by
  refine loop_0 (fun n i (_ : Unit) => wX_lanesCanBeSeen_2 post (nI m) ce op pa ps co la n (nI i)) (fun i _ => ll_Free (ll_pA pa) (ll_pH ps) op i) m () (fun l hl => absurd hl (by omega)) ?_ ?_
  · intro n _ I
    exact pk_le m m (fun _ => h0 I) (fun z => absurd z (by omega))
  · intro n i _ hi I ih
    refine pk_le m i (fun z => absurd z (by omega)) (fun _ => ?_)
    exact ll_seen12 hm hi h1 (fun c => ih () (lt_s I c))
/-- bodyStaysInside: all three parts of every statement inside -/
def ll_Ins (H : Nat → Nat → Nat) (m i : Nat) : Prop := ∀ s, s < m → ∀ r, r < 3 → 4 ≤ i + H s r ∧ i + H s r < 36
theorem ll_body12 {J2 : Int32 → Prop} {i s : Nat} (hm : m ≤ 4) (hi : i < 32) (hs : s < m)
    (h0 : ¬ ll_Ins (ll_pH ps) m i → post 0) (hJ : (∀ r, r < 3 → 4 ≤ i + ll_pH ps s r ∧ i + ll_pH ps s r < 36) → J2 (nI (s + 1))) :
    ∃ n12 : Nat, wX_bodyStaysInside_12 post J2 (nI i) (nI s) (nI m) ce op pa ps co la n12 0 := by
  refine loop_0 (fun n r (_ : Unit) => wX_bodyStaysInside_12 post J2 (nI i) (nI s) (nI m) ce op pa ps co la n (nI r)) (fun k _ => ∀ r, r < k → 4 ≤ i + ll_pH ps s r ∧ i + ll_pH ps s r < 36) 3 () lt_0 ?_ ?_
  · intro n _ I
    exact pk_le 3 3 (fun _ => nm_r (nI_1 s) (hJ I)) (fun z => absurd z (by omega))
  · intro n r _ hr I ih
    refine pk_le 3 r (fun z => absurd z (by omega)) (fun _ => ?_)
    refine ⟨pk_in s 4 (by omega), ?_⟩
    rw [nI_clamp (n := s) (by omega)]
    refine ll_sI (nm_e ?_)
    refine ll_icX hi (ll_H_e (ps s) r).2 (fun q => ?_) (fun q => ?_)
    · exact br_f (by decide) (nm_r (nI_1 r) (ih () (lt_s I q)))
    · exact br_t rfl (h0 (fun z => q (z s hs r hr)))
theorem ll_body_X {i : Nat} (hm : m ≤ 4) (hi : i < 32) (h1 : ll_Ins (ll_pH ps) m i → post 1) (h0 : ¬ ll_Ins (ll_pH ps) m i → post 0) :
    wpX_bodyStaysInside post (nI m, ce, op, pa, ps, co, la) (nI i) := by
  refine loop_0 (fun n s (_ : Unit) => wX_bodyStaysInside_2 post (nI i) (nI m) ce op pa ps co la n (nI s)) (fun k _ => ll_Ins (ll_pH ps) k i) m () lt_0 ?_ ?_
  · intro n _ I
    exact pk_le m m (fun _ => h1 I) (fun z => absurd z (by omega))
  · intro n s _ hs I ih
    refine pk_le m s (fun z => absurd z (by omega)) (fun _ => ?_)
    exact ll_body12 hm hi hs h0 (fun c => ih () (lt_s I c))
end
end
section
/-! X: a statement's value and place, the body, the lanes, run's two loops -/
theorem ll_v_lo {k c x y : Int32} (h : k < 0) : ll_v k c x y = x * c := by
  have n0 : ¬ k = 0 := fun e => absurd h (by rw [e]; decide)
  have n1 : ¬ k = 1 := fun e => absurd h (by rw [e]; decide)
  have n2 : ¬ k = 2 := fun e => absurd h (by rw [e]; decide)
  have n3 : ¬ k = 3 := fun e => absurd h (by rw [e]; decide)
  have n4 : ¬ k = 4 := fun e => absurd h (by rw [e]; decide)
  have n5 : ¬ k = 5 := fun e => absurd h (by rw [e]; decide)
  simp only [ll_v, if_neg n0, if_neg n1, if_neg n2, if_neg n3, if_neg n4, if_neg n5]
theorem ll_v_hi {k c x y : Int32} (h : 5 < k) : ll_v k c x y = x * c := by
  have n0 : ¬ k = 0 := fun e => absurd h (by rw [e]; decide)
  have n1 : ¬ k = 1 := fun e => absurd h (by rw [e]; decide)
  have n2 : ¬ k = 2 := fun e => absurd h (by rw [e]; decide)
  have n3 : ¬ k = 3 := fun e => absurd h (by rw [e]; decide)
  have n4 : ¬ k = 4 := fun e => absurd h (by rw [e]; decide)
  have n5 : ¬ k = 5 := fun e => absurd h (by rw [e]; decide)
  simp only [ll_v, if_neg n0, if_neg n1, if_neg n2, if_neg n3, if_neg n4, if_neg n5]
section
variable {ce op pa ps co la : Nat → Int32} {m : Nat}
theorem ll_place_X {post : Int32 → Prop} {s r i : Nat} (hm : m ≤ 4) (hs : s < m) (h4 : 4 ≤ i + ll_H (ps s) r) (h : post (nI (ll_pl (ll_pA pa) (ll_pH ps) s r i))) :
    wpX_placeOf post (nI m, ce, op, pa, ps, co, la) (nI s) (nI r) (nI i) := by
  unfold wpX_placeOf
  dsimp only
  rw [nI_clamp (n := s) (by omega)]
  refine ⟨pk_in s 4 (by omega), ll_aI ⟨pk_in s 4 (by omega), ll_sI ?_⟩⟩
  rw [ll_pl_e h4]
  exact h
theorem ll_value_X {post : Int32 → Prop} {s i : Nat} (hm : m ≤ 4) (hs : s < m) (hi : ll_In (ll_pA pa) (ll_pH ps) m i) (h : post (ll_V (ll_pA pa) (ll_pH ps) op co s i ce)) :
    wpX_valueFor post (nI m, ce, op, pa, ps, co, la) (nI s) (nI i) := by
  have p1 := ll_pl_lt hi hs (r := 1) (by decide)
  have p2 := ll_pl_lt hi hs (r := 2) (by decide)
  unfold wpX_valueFor
  dsimp only
  refine ll_place_X (r := 1) hm hs (hi s hs 1 (by decide)).2.1 ⟨pk_in _ 96 p1, nm_r (congrArg ce (nI_clamp (Nat.lt_trans p1 (by decide)))) ?_⟩
  refine ll_place_X (r := 2) hm hs (hi s hs 2 (by decide)).2.1 ⟨pk_in _ 96 p2, nm_r (congrArg ce (nI_clamp (Nat.lt_trans p2 (by decide)))) ?_⟩
  have cs : (nI s).toNatClampNeg = s := nI_clamp (by omega)
  refine ⟨pk_in s 4 (by omega), nm_r (congrArg co cs) ⟨pk_in s 4 (by omega), nm_r (congrArg op cs) ?_⟩⟩
  unfold ll_V at h
  generalize ce (ll_pl (ll_pA pa) (ll_pH ps) s 1 i) = x at h ⊢
  generalize ce (ll_pl (ll_pA pa) (ll_pH ps) s 2 i) = y at h ⊢
  generalize co s = c at h ⊢
  generalize op s = k at h ⊢
  refine br_c (fun l => ?_) (fun _ => br_c (fun g => ?_) (fun _ => ?_))
  · rw [ll_v_lo l] at h; exact h
  · rw [ll_v_hi g] at h; exact h
  unfold ll_v at h
  refine br_c (fun e => ?_) (fun n0 => ?_)
  · rw [if_pos e] at h; exact h
  rw [if_neg n0] at h
  refine br_c (fun e => ?_) (fun n1 => ?_)
  · rw [if_pos e] at h; exact h
  rw [if_neg n1] at h
  refine br_c (fun e => ?_) (fun n2 => ?_)
  · rw [if_pos e] at h; exact h
  rw [if_neg n2] at h
  refine br_c (fun e => ?_) (fun n3 => ?_)
  · rw [if_pos e] at h
    refine br_c (fun q => ?_) (fun q => ?_)
    · rw [if_pos q] at h; exact h
    · rw [if_neg q] at h; exact h
  rw [if_neg n3] at h
  refine br_c (fun e => ?_) (fun n4 => ?_)
  · rw [if_pos e] at h; exact h
  rw [if_neg n4] at h
  refine br_c (fun e => ?_) (fun n5 => ?_)
  · rw [if_pos e] at h; exact h
  exact trivial
theorem ll_bd_X {post : SX → Prop} {i : Nat} (hm : m ≤ 4) (hi : ll_In (ll_pA pa) (ll_pH ps) m i) (h : post (nI m, ll_bd (ll_pA pa) (ll_pH ps) op co i m ce, op, pa, ps, co, la)) :
    wpX_carryOutBody post (nI m, ce, op, pa, ps, co, la) (nI i) := by
  refine loop_0 (fun n s c => wX_carryOutBody_2 post (nI i) (nI m) n (nI s) c op pa ps co la) (fun s c => c = ll_bd (ll_pA pa) (ll_pH ps) op co i s ce) m ce rfl ?_ ?_
  · intro n c I
    subst I
    exact pk_le m m (fun _ => h) (fun z => absurd z (by omega))
  · intro n s c hs I ih
    refine pk_le m s (fun z => absurd z (by omega)) (fun _ => ?_)
    refine ll_value_X hm hs hi ?_
    have p0 := ll_pl_lt hi hs (r := 0) (by decide)
    refine ll_place_X (r := 0) hm hs (hi s hs 0 (by decide)).2.1 ⟨pk_in _ 96 p0, ?_⟩
    rw [nI_clamp (Nat.lt_trans p0 (by decide))]
    refine nm_e (nm_r (nI_1 s) (ih _ ?_))
    rw [I]
    rfl
/-- the first n writes of a statement's four lanes -/
def ll_rwn (A H : Nat → Nat → Nat) (O C : Nat → Int32) (s f : Nat) (a : Nat → Int32) : Nat → Nat → Int32
  | 0 => a
  | n + 1 => upd (ll_rwn A H O C s f a n) (ll_pl A H s 0 (f + n)) (ll_V A H O C s (f + n) a)
theorem ll_lane39 {post : SX → Prop} {J2 : Int32 → (Nat → Int32) → (Nat → Int32) → (Nat → Int32) → (Nat → Int32) → (Nat → Int32) → (Nat → Int32) → Prop} {s f : Nat} (hm : m ≤ 4) (hs : s < m) (hi : ∀ l, l < 4 → ll_In (ll_pA pa) (ll_pH ps) m (f + l))
    (hl : ∀ l, l < 4 → la l = ll_V (ll_pA pa) (ll_pH ps) op co s (f + l) ce) (hJ : J2 (nI (s + 1)) (ll_row (ll_pA pa) (ll_pH ps) op co s f ce) op pa ps co la) :
    ∃ n39 : Nat, wX_carryOutInLanes_39 post J2 (nI f) (nI s) (nI m) n39 0 ce op pa ps co la := by
  refine loop_0 (fun n l c => wX_carryOutInLanes_39 post J2 (nI f) (nI s) (nI m) n (nI l) c op pa ps co la) (fun l c => c = ll_rwn (ll_pA pa) (ll_pH ps) op co s f ce l) 4 ce rfl ?_ ?_
  · intro n c I
    subst I
    exact pk_le 4 4 (fun _ => nm_r (nI_1 s) hJ) (fun z => absurd z (by omega))
  · intro n l c h4 I ih
    refine pk_le 4 l (fun z => absurd z (by omega)) (fun _ => ?_)
    have p0 := ll_pl_lt (hi l h4) hs (r := 0) (by decide)
    rw [nI_add f l]
    refine ll_place_X (r := 0) hm hs (hi l h4 s hs 0 (by decide)).2.1 ⟨pk_in l 4 h4, pk_in _ 96 p0, ?_⟩
    rw [nI_clamp (Nat.lt_trans p0 (by decide)), nI_clamp (n := l) (by omega), hl l h4]
    refine nm_e (nm_r (nI_1 l) (ih _ ?_))
    rw [I]
    rfl
theorem ll_lane12 {post : SX → Prop} {J2 : Int32 → (Nat → Int32) → (Nat → Int32) → (Nat → Int32) → (Nat → Int32) → (Nat → Int32) → (Nat → Int32) → Prop} {s f : Nat} (hm : m ≤ 4) (hs : s < m) (hi : ∀ l, l < 4 → ll_In (ll_pA pa) (ll_pH ps) m (f + l))
    (hJ : ∀ la', J2 (nI (s + 1)) (ll_row (ll_pA pa) (ll_pH ps) op co s f ce) op pa ps co la') :
    ∃ n12 : Nat, wX_carryOutInLanes_12 post J2 (nI f) (nI s) (nI m) n12 0 ce op pa ps co la := by
  refine loop_0 (fun n l w => wX_carryOutInLanes_12 post J2 (nI f) (nI s) (nI m) n (nI l) ce op pa ps co w) (fun k w => ∀ l, l < k → w l = ll_V (ll_pA pa) (ll_pH ps) op co s (f + l) ce) 4 la lt_0 ?_ ?_
  · intro n w I
    exact pk_le 4 4 (fun _ => ll_lane39 hm hs hi I (hJ w)) (fun z => absurd z (by omega))
  · intro n l w h4 I ih
    refine pk_le 4 l (fun z => absurd z (by omega)) (fun _ => ?_)
    rw [nI_add f l]
    refine ll_value_X hm hs (hi l h4) ⟨pk_in l 4 h4, ?_⟩
    rw [nI_clamp (n := l) (by omega)]
    refine nm_e (nm_r (nI_1 l) (ih _ ?_))
    refine lt_s (fun j hj => ?_) ll_us
    rw [ll_un (by omega)]
    exact I j hj
theorem ll_lanes_X {post : SX → Prop} {f : Nat} (hm : m ≤ 4) (hi : ∀ l, l < 4 → ll_In (ll_pA pa) (ll_pH ps) m (f + l)) (h : ∀ la', post (nI m, ll_lanes (ll_pA pa) (ll_pH ps) op co f m ce, op, pa, ps, co, la')) :
    wpX_carryOutInLanes post (nI m, ce, op, pa, ps, co, la) (nI f) := by
  refine loop_0 (fun n s (z : (Nat → Int32) × (Nat → Int32)) => wX_carryOutInLanes_2 post (nI f) (nI m) n (nI s) z.1 op pa ps co z.2) (fun s z => z.1 = ll_lanes (ll_pA pa) (ll_pH ps) op co f s ce) m (ce, la) rfl ?_ ?_
  · intro n z I
    obtain ⟨c, w⟩ := z
    cases I
    exact pk_le m m (fun _ => h w) (fun z => absurd z (by omega))
  · intro n s z hs I ih
    obtain ⟨c, w⟩ := z
    cases I
    refine pk_le m s (fun z => absurd z (by omega)) (fun _ => ?_)
    exact ll_lane12 hm hs hi (fun w' => ih (_, w') rfl)
theorem ll_run95 {post : Int32 → SX → Prop} {lo N i0 : Nat} {ce0 : Nat → Int32} (hm : m ≤ 4) (hN : N ≤ 32) (h0 : i0 ≤ N) (hi : ∀ k, k < N → ll_In (ll_pA pa) (ll_pH ps) m (lo + k)) (hc : ce = ll_rg (ll_pA pa) (ll_pH ps) op co m lo i0 ce0)
    (h : post (nI (N * m)) (nI m, ll_rg (ll_pA pa) (ll_pH ps) op co m lo N ce0, op, pa, ps, co, la)) :
    ∃ n95 : Nat, wX_run_95 post (nI lo) (nI N) n95 (nI i0) (nI m) ce op pa ps co la := by
  refine pk_loop (fun n k c => wX_run_95 post (nI lo) (nI N) n (nI k) (nI m) c op pa ps co la) (fun k c => c = ll_rg (ll_pA pa) (ll_pH ps) op co m lo k ce0) N i0 ce h0 hc ?_ ?_
  · intro n c I
    subst I
    refine pk_le N N (fun _ => ?_) (fun z => absurd z (by omega))
    rw [pk_mul]
    exact h
  · intro n k c hk I ih
    refine pk_le N k (fun z => absurd z (by omega)) (fun _ => ?_)
    rw [nI_add lo k]
    refine ll_bd_X hm (hi k hk) ?_
    refine nm_r (nI_1 k) (ih _ ?_)
    rw [I]
    rfl
theorem ll_run70 {post : Int32 → SX → Prop} {lo N e : Nat} (hm : m ≤ 4) (hN : N ≤ 32) (he : 4 * e ≤ N) (hF : e = 0 ∨ ll_Free (ll_pA pa) (ll_pH ps) op m) (hi : ∀ k, k < N → ll_In (ll_pA pa) (ll_pH ps) m (lo + k))
    (h : ∀ la', post (nI (N * m)) (nI m, ll_rg (ll_pA pa) (ll_pH ps) op co m lo N ce, op, pa, ps, co, la')) :
    ∃ n70 : Nat, wX_run_70 post (nI lo) (nI N) (nI (4 * e)) n70 0 (nI m) ce op pa ps co la := by
  refine loop_0 (fun n k (z : (Nat → Int32) × (Nat → Int32)) => wX_run_70 post (nI lo) (nI N) (nI (4 * e)) n (nI (4 * k)) (nI m) z.1 op pa ps co z.2) (fun k z => z.1 = ll_rg (ll_pA pa) (ll_pH ps) op co m lo (4 * k) ce) e (ce, la) rfl ?_ ?_
  · intro n z I
    obtain ⟨c, w⟩ := z
    exact pk_le (4 * e) (4 * e) (fun _ => ll_run95 hm hN he hi I (h w)) (fun z => absurd z (by omega))
  · intro n k z hk I ih
    obtain ⟨c, w⟩ := z
    cases I
    refine pk_le (4 * e) (4 * k) (fun z => absurd z (by omega)) (fun _ => ?_)
    have hF' : ll_Free (ll_pA pa) (ll_pH ps) op m := hF.resolve_left (by omega)
    rw [nI_add lo (4 * k)]
    refine ll_lanes_X hm (fun l hl => ?_) (fun w' => ?_)
    · rw [Nat.add_assoc]
      exact hi (4 * k + l) (by omega)
    · have e4 : nI (4 * k) + 4 = nI (4 * (k + 1)) := nI_add (4 * k) 4
      refine nm_r e4 (ih (_, w') ?_)
      exact ll_rg4 hF' (fun j hj => hi j (by omega)) ce
end
end
section
/-! Y: a statement carried out, run's loops; mustPrecede's loops -/
/-- Y's unpacked arrays and shifts are X's packed ones -/
def ll_R (m : Nat) (pa ps ar sh : Nat → Int32) : Prop := ∀ s, s < m → ∀ r, r < 3 → ar (s * 3 + r) = nI (ll_A (pa s) r) ∧ sh (s * 3 + r) = nI (ll_H (ps s) r) - 4 ∧ ll_A (pa s) r < 3 ∧ ll_H (ps s) r ≤ 8
theorem ll_43 (x : Int32) : 4 ≤ x ↔ ¬ x ≤ 3 := by
  rw [Int32.le_iff_toInt_le, Int32.le_iff_toInt_le]
  have e4 : (4 : Int32).toInt = 4 := by decide
  have e3 : (3 : Int32).toInt = 3 := by decide
  omega
section
variable {ce op pa ps co ar sh : Nat → Int32} {m : Nat}
theorem ll_st_Y {post : SY → Prop} {s i : Nat} (hm : m ≤ 4) (hs : s < m) (hR : ll_R m pa ps ar sh) (hi : ll_In (ll_pA pa) (ll_pH ps) m i) (h : post (nI m, op, co, ar, sh, ll_st (ll_pA pa) (ll_pH ps) op co s i ce)) :
    wpY_carryOut post (nI m, op, co, ar, sh, ce) (nI s) (nI i) := by
  have p0 := ll_pl_lt hi hs (r := 0) (by decide)
  have p1 := ll_pl_lt hi hs (r := 1) (by decide)
  have p2 := ll_pl_lt hi hs (r := 2) (by decide)
  have e0 : nI s * 3 = nI (s * 3) := pk_mul s 3
  have e1 : nI (s * 3) + 1 = nI (s * 3 + 1) := nI_add _ 1
  have e2 : nI (s * 3) + 2 = nI (s * 3 + 2) := nI_add _ 2
  have r0 := hR s hs 0 (by decide)
  have r1 := hR s hs 1 (by decide)
  have r2 := hR s hs 2 (by decide)
  have a0 : ar (s * 3) = nI (ll_A (pa s) 0) := r0.1
  have b0 : sh (s * 3) = nI (ll_H (ps s) 0) - 4 := r0.2.1
  have q0 : nI (ll_A (pa s) 0) * 32 + nI i + (nI (ll_H (ps s) 0) - 4) = nI (ll_pl (ll_pA pa) (ll_pH ps) s 0 i) := ll_pl_e (hi s hs 0 (by decide)).2.1
  have q1 : nI (ll_A (pa s) 1) * 32 + nI i + (nI (ll_H (ps s) 1) - 4) = nI (ll_pl (ll_pA pa) (ll_pH ps) s 1 i) := ll_pl_e (hi s hs 1 (by decide)).2.1
  have q2 : nI (ll_A (pa s) 2) * 32 + nI i + (nI (ll_H (ps s) 2) - 4) = nI (ll_pl (ll_pA pa) (ll_pH ps) s 2 i) := ll_pl_e (hi s hs 2 (by decide)).2.1
  unfold wpY_carryOut
  dsimp only
  rw [e0, e1, e2, nI_clamp (n := s * 3) (by omega), nI_clamp (n := s * 3 + 1) (by omega), nI_clamp (n := s * 3 + 2) (by omega), nI_clamp (n := s) (by omega), a0, b0, r1.1, r1.2.1, r2.1, r2.2.1, q0, q1, q2]
  rw [nI_clamp (n := ll_pl (ll_pA pa) (ll_pH ps) s 1 i) (Nat.lt_trans p1 (by decide)), nI_clamp (n := ll_pl (ll_pA pa) (ll_pH ps) s 2 i) (Nat.lt_trans p2 (by decide))]
  have i0 : vp_in (nI (s * 3)) 12 := vp_in_nI (by omega) (by decide)
  have i1 : vp_in (nI (s * 3 + 1)) 12 := vp_in_nI (by omega) (by decide)
  have i2 : vp_in (nI (s * 3 + 2)) 12 := vp_in_nI (by omega) (by decide)
  have is : vp_in (nI s) 4 := vp_in_nI (by omega) (by decide)
  refine ⟨i0, i0, nm_e ⟨i1, i1, pk_in _ 96 p1, nm_e ⟨i2, i2, pk_in _ 96 p2, nm_e ⟨is, nm_e ⟨is, nm_e ?_⟩⟩⟩⟩⟩
  have fin : ∀ w, w = ll_V (ll_pA pa) (ll_pH ps) op co s i ce → vp_in (nI (ll_pl (ll_pA pa) (ll_pH ps) s 0 i)) 96 ∧ ∀ a : Nat → Int32, a = upd ce (nI (ll_pl (ll_pA pa) (ll_pH ps) s 0 i)).toNatClampNeg w → post (nI m, op, co, ar, sh, a) := by
    intro w ew
    refine ⟨pk_in _ 96 p0, fun a ea => ?_⟩
    rw [ea, ew, nI_clamp (Nat.lt_trans p0 (by decide))]
    exact h
  unfold ll_V ll_v at fin
  refine br_c (fun e => fin _ ?_) (fun n0 => ?_)
  · rw [if_pos e]
  refine br_c (fun e => fin _ ?_) (fun n1 => ?_)
  · rw [if_neg n0, if_pos e]
  refine br_c (fun e => fin _ ?_) (fun n2 => ?_)
  · rw [if_neg n0, if_neg n1, if_pos e]
  refine br_c (fun e => br_c (fun q => fin _ ?_) (fun q => fin _ ?_)) (fun n3 => ?_)
  · rw [if_neg n0, if_neg n1, if_neg n2, if_pos e, if_pos q]
  · rw [if_neg n0, if_neg n1, if_neg n2, if_pos e, if_neg q]
  refine br_c (fun e => fin _ ?_) (fun n4 => ?_)
  · rw [if_neg n0, if_neg n1, if_neg n2, if_neg n3, if_pos e]
  refine br_c (fun e => fin _ ?_) (fun n5 => fin _ ?_)
  · rw [if_neg n0, if_neg n1, if_neg n2, if_neg n3, if_neg n4, if_pos e]
  · rw [if_neg n0, if_neg n1, if_neg n2, if_neg n3, if_neg n4, if_neg n5]
theorem ll_run84 {post : Int32 → SY → Prop} {J75 : Int32 → Int32 → Int32 → (Nat → Int32) → (Nat → Int32) → (Nat → Int32) → (Nat → Int32) → (Nat → Int32) → Prop} {x2 : Int32} {c i : Nat} (hm : m ≤ 4) (hR : ll_R m pa ps ar sh) (hi : ll_In (ll_pA pa) (ll_pH ps) m i)
    (hJ : J75 (nI (c + m)) (nI (i + 1)) (nI m) op co ar sh (ll_bd (ll_pA pa) (ll_pH ps) op co i m ce)) :
    ∃ n84 : Nat, wY_run_84 post J75 x2 (nI i) n84 (nI c) 0 (nI m) op co ar sh ce := by
  refine loop_0 (fun n s z => wY_run_84 post J75 x2 (nI i) n (nI (c + s)) (nI s) (nI m) op co ar sh z) (fun s z => z = ll_bd (ll_pA pa) (ll_pH ps) op co i s ce) m ce rfl ?_ ?_
  · intro n z I
    subst I
    exact pk_le m m (fun _ => nm_r (nI_1 i) hJ) (fun z => absurd z (by omega))
  · intro n s z hs I ih
    refine pk_le m s (fun z => absurd z (by omega)) (fun _ => ?_)
    refine ll_st_Y hm hs hR hi ?_
    refine nm_r (nI_1 (c + s)) (nm_r (nI_1 s) (ih _ ?_))
    rw [I]
    rfl
theorem ll_run75 {post : Int32 → SY → Prop} {lo hh N : Nat} (hm : m ≤ 4) (hN : lo + N = hh + 1) (h32 : hh < 32) (hR : ll_R m pa ps ar sh) (hi : ∀ k, k < N → ll_In (ll_pA pa) (ll_pH ps) m (lo + k))
    (h : post (nI (N * m)) (nI m, op, co, ar, sh, ll_rg (ll_pA pa) (ll_pH ps) op co m lo N ce)) :
    ∃ n75 : Nat, wY_run_75 post (nI hh) n75 0 (nI lo) (nI m) op co ar sh ce := by
  refine loop_0 (fun n k z => wY_run_75 post (nI hh) n (nI (m * k)) (nI (lo + k)) (nI m) op co ar sh z) (fun k z => z = ll_rg (ll_pA pa) (ll_pH ps) op co m lo k ce) N ce rfl ?_ ?_
  · intro n z I
    subst I
    refine pk_lt hh (lo + N) (fun _ => ?_) (fun z => absurd z (by omega))
    rw [Nat.mul_comm m N]
    exact h
  · intro n k z hk I ih
    refine pk_lt hh (lo + k) (fun z => absurd z (by omega)) (fun _ => ?_)
    refine ll_run84 hm hR (hi k hk) (ih _ ?_)
    rw [I]
    rfl
theorem ll_run21 {post : Int32 → SY → Prop} {lo hh : Nat} (hm : m ≤ 4) (hR : ll_R m pa ps ar sh) (hl : lo < 32) (h32 : hh < 32)
    (h0 : ¬ (ll_Ins (ll_pH ps) m lo ∧ ll_Ins (ll_pH ps) m hh) → post (-2) (nI m, op, co, ar, sh, ce))
    (h1 : ll_Ins (ll_pH ps) m lo → ll_Ins (ll_pH ps) m hh → ∃ n75 : Nat, wY_run_75 post (nI hh) n75 0 (nI lo) (nI m) op co ar sh ce) :
    ∃ n21 : Nat, wY_run_21 post (nI lo) (nI hh) (nI m) op co ar sh ce n21 0 := by
  refine loop_0 (fun n k (_ : Unit) => wY_run_21 post (nI lo) (nI hh) (nI m) op co ar sh ce n (nI k)) (fun k _ => ∀ s r, r < 3 → s * 3 + r < k → (4 ≤ lo + ll_pH ps s r ∧ lo + ll_pH ps s r < 36) ∧ (4 ≤ hh + ll_pH ps s r ∧ hh + ll_pH ps s r < 36)) (m * 3) () (fun s r _ z => absurd z (by omega)) ?_ ?_
  · intro n _ I
    exact pk_le (m * 3) (m * 3) (fun _ => h1 (fun s hs r hr => (I s r hr (by omega)).1) (fun s hs r hr => (I s r hr (by omega)).2)) (fun z => absurd z (by omega)) (pk_mul m 3)
  · intro n k _ hk I ih
    refine pk_le (m * 3) k (fun z => absurd z (by omega)) (fun _ => ?_) (pk_mul m 3)
    obtain ⟨s, r, hs, hr, ek⟩ : ∃ s r, s < m ∧ r < 3 ∧ k = s * 3 + r := ⟨k / 3, k % 3, by omega, by omega, by omega⟩
    have hk' : sh k = nI (ll_H (ps s) r) - 4 := by rw [ek]; exact (hR s hs r hr).2.1
    have hH := (ll_H_e (ps s) r).2
    refine ⟨pk_in k 12 (by omega), ?_⟩
    rw [nI_clamp (n := k) (by omega), hk']
    refine ll_icY hl hH (fun q => ?_) (fun q => ?_)
    · refine br_t rfl ⟨pk_in k 12 (by omega), ?_⟩
      refine ll_icY h32 hH (fun q' => ?_) (fun q' => ?_)
      · refine br_t rfl (nm_r (nI_1 k) (ih () (fun s' r' hr' h' => ?_)))
        by_cases z : s' * 3 + r' < k
        · exact I s' r' hr' z
        · have es : s' = s := by omega
          have er : r' = r := by omega
          subst es er
          exact ⟨q, q'⟩
      · exact br_f (by decide) (h0 (fun z => q' (z.2 s hs r hr)))
    · exact br_f (by decide) (h0 (fun z => q (z.1 s hs r hr)))
/-- what Y looks at: part p of statement q -/
def ll_L (O : Nat → Int32) (q p : Nat) : Prop := p = 0 ∨ (p = 1 ∧ ¬ O q = 5) ∨ (p = 2 ∧ O q ≤ 3)
def ll_hit (A H : Nat → Nat → Nat) (O : Nat → Int32) (a b d p r : Nat) : Prop := (p = 0 ∨ r = 0) ∧ ll_L O a p ∧ ll_L O b r ∧ ll_same A H a p b r d
theorem ll_hit_clash {A H : Nat → Nat → Nat} {O : Nat → Int32} {a b d p r : Nat} (h : ll_hit A H O a b d p r) : ll_clash A H O a b d := by
  obtain ⟨z, la, lb, s⟩ := h
  rcases la with e | ⟨e, k⟩ | ⟨e, k⟩
  · subst e
    rcases lb with e | ⟨e, k⟩ | ⟨e, k⟩
    · subst e; exact Or.inl s
    · subst e; exact Or.inr (Or.inl (Or.inl ⟨k, s⟩))
    · subst e; exact Or.inr (Or.inl (Or.inr ⟨k, s⟩))
  · subst e
    have e : r = 0 := by omega
    subst e
    exact Or.inr (Or.inr (Or.inl ⟨k, s⟩))
  · subst e
    have e : r = 0 := by omega
    subst e
    exact Or.inr (Or.inr (Or.inr ⟨k, s⟩))
theorem ll_clash_hit {A H : Nat → Nat → Nat} {O : Nat → Int32} {a b d : Nat} (h : ∀ p, p < 3 → ∀ r, r < 3 → ¬ ll_hit A H O a b d p r) : ¬ ll_clash A H O a b d := by
  intro c
  rcases c with s | (⟨k, s⟩ | ⟨k, s⟩) | (⟨k, s⟩ | ⟨k, s⟩)
  · exact h 0 (by decide) 0 (by decide) ⟨Or.inl rfl, Or.inl rfl, Or.inl rfl, s⟩
  · exact h 0 (by decide) 1 (by decide) ⟨Or.inl rfl, Or.inl rfl, Or.inr (Or.inl ⟨rfl, k⟩), s⟩
  · exact h 0 (by decide) 2 (by decide) ⟨Or.inl rfl, Or.inl rfl, Or.inr (Or.inr ⟨rfl, k⟩), s⟩
  · exact h 1 (by decide) 0 (by decide) ⟨Or.inr rfl, Or.inr (Or.inl ⟨rfl, k⟩), Or.inl rfl, s⟩
  · exact h 2 (by decide) 0 (by decide) ⟨Or.inr rfl, Or.inr (Or.inr ⟨rfl, k⟩), Or.inl rfl, s⟩
theorem ll_looks_Y {post : Int32 → Prop} {q p : Nat} (hm : m ≤ 4) (hq : q < m) (hp : p < 3) (h1 : ll_L op q p → post 1) (h0 : ¬ ll_L op q p → post 0) :
    wpY_looks post (nI m, op, co, ar, sh, ce) (nI q) (nI p) := by
  unfold wpY_looks
  dsimp only
  rw [nI_clamp (n := q) (by omega)]
  refine pk_eq p 0 (fun e => h1 (Or.inl e)) (fun n0 => ?_)
  refine pk_eq p 1 (fun e => ⟨pk_in q 4 (by omega), fun z => h0 ?_, fun z => h1 (Or.inr (Or.inl ⟨e, z⟩))⟩) (fun n1 => ⟨pk_in q 4 (by omega), fun z => h0 ?_, fun z => h1 (Or.inr (Or.inr ⟨by omega, ?_⟩))⟩)
  · intro w
    rcases w with w | ⟨_, w⟩ | ⟨w, _⟩
    · exact n0 w
    · exact w z
    · omega
  · intro w
    rcases w with w | ⟨w, _⟩ | ⟨_, w⟩
    · exact n0 w
    · exact n1 w
    · exact (ll_43 _).mp z w
  · exact Classical.byContradiction (fun w => z ((ll_43 _).mpr w))
theorem ll_mp112 {post : Int32 → Prop} {J40 J49 : Int32 → Prop} {a b d p r : Nat} {z0 : Int32} (hm : m ≤ 4) (ha : a < m) (hb : b < m) (hp : p < 3) (hr : r < 3)
    (z1 : ll_same (ll_pA pa) (ll_pH ps) a p b r d → ¬ z0 = 0) (zz : ¬ ll_same (ll_pA pa) (ll_pH ps) a p b r d → z0 = 0)
    (h1 : ll_hit (ll_pA pa) (ll_pH ps) op a b d p r → post 1) (h0 : ¬ ll_hit (ll_pA pa) (ll_pH ps) op a b d p r → J49 (nI (r + 1))) :
    wY_mustPrecede_112 post J40 J49 (nI a) (nI b) (nI d) (nI p) (nI r) z0 (nI m) op co ar sh ce := by
  have H : (p = 0 ∨ r = 0) → wY_mustPrecede_124 post J40 J49 (nI a) (nI b) (nI d) (nI p) (nI r) z0 (nI m) op co ar sh ce := by
    intro hz
    unfold wY_mustPrecede_124
    refine ll_looks_Y hm ha hp (fun la => ?_) (fun la => ?_)
    · refine br_f (by decide) ?_
      refine ll_looks_Y hm hb hr (fun lb => ?_) (fun lb => ?_)
      · refine br_f (by decide) ?_
        by_cases s : ll_same (ll_pA pa) (ll_pH ps) a p b r d
        · exact br_f (z1 s) (h1 ⟨hz, la, lb, s⟩)
        · exact br_t (zz s) (nm_r (nI_1 r) (h0 (fun w => s w.2.2.2)))
      · exact br_t rfl (nm_r (nI_1 r) (h0 (fun w => lb w.2.2.1)))
    · exact br_t rfl (nm_r (nI_1 r) (h0 (fun w => la w.2.1)))
  unfold wY_mustPrecede_112
  refine pk_eq p 0 (fun e => H (Or.inl e)) (fun n0 => ?_)
  refine pk_eq r 0 (fun e => H (Or.inr e)) (fun n1 => ?_)
  exact nm_r (nI_1 r) (h0 (fun w => w.1.elim n0 n1))
theorem ll_mp49 {post : Int32 → Prop} {J40 : Int32 → Prop} {a b d p : Nat} (hm : m ≤ 4) (hR : ll_R m pa ps ar sh) (ha : a < m) (hb : b < m) (hd : d < 9) (hp : p < 3)
    (h1 : ∀ r, r < 3 → ll_hit (ll_pA pa) (ll_pH ps) op a b d p r → post 1) (h0 : (∀ r, r < 3 → ¬ ll_hit (ll_pA pa) (ll_pH ps) op a b d p r) → J40 (nI (p + 1))) :
    ∃ n49 : Nat, wY_mustPrecede_49 post J40 (nI a) (nI b) (nI d) (nI p) (nI m) op co ar sh ce n49 0 := by
  refine loop_0 (fun n r (_ : Unit) => wY_mustPrecede_49 post J40 (nI a) (nI b) (nI d) (nI p) (nI m) op co ar sh ce n (nI r)) (fun k _ => ∀ r, r < k → ¬ ll_hit (ll_pA pa) (ll_pH ps) op a b d p r) 3 () lt_0 ?_ ?_
  · intro n _ I
    exact pk_le 3 3 (fun _ => nm_r (nI_1 p) (h0 I)) (fun z => absurd z (by omega))
  · intro n r _ hr I ih
    refine pk_le 3 r (fun z => absurd z (by omega)) (fun _ => ?_)
    have ea : nI a * 3 + nI p = nI (a * 3 + p) := (congrArg (fun t => t + nI p) (pk_mul a 3)).trans (nI_add _ _)
    have eb : nI b * 3 + nI r = nI (b * 3 + r) := (congrArg (fun t => t + nI r) (pk_mul b 3)).trans (nI_add _ _)
    have ia : vp_in (nI (a * 3 + p)) 12 := vp_in_nI (by omega) (by decide)
    have ib : vp_in (nI (b * 3 + r)) 12 := vp_in_nI (by omega) (by decide)
    have ra := hR a ha p hp
    have rb := hR b hb r hr
    have H1 := (ll_H_e (ps a) p).2
    have H2 := (ll_H_e (ps b) r).2
    have next : ¬ ll_hit (ll_pA pa) (ll_pH ps) op a b d p r → wY_mustPrecede_49 post J40 (nI a) (nI b) (nI d) (nI p) (nI m) op co ar sh ce n (nI (r + 1)) := fun c => ih () (lt_s I c)
    rw [ea, eb, nI_clamp (n := a * 3 + p) (by omega), nI_clamp (n := b * 3 + r) (by omega), ra.1, rb.1, ra.2.1, rb.2.1, Int32.add_comm (nI d)]
    refine ⟨ia, ib, ?_⟩
    refine pk_eq (ll_A (pa a) p) (ll_A (pa b) r) (fun e => ?_) (fun ne => ?_)
    · refine ⟨ia, ib, ?_⟩
      refine br_c (fun z => ?_) (fun z => ?_)
      · exact ll_mp112 hm ha hb hp hr (fun _ => by decide) (fun w => absurd ⟨e, (ll_sh_eq H1 H2 hd).mp z⟩ w) (h1 r hr) next
      · exact ll_mp112 hm ha hb hp hr (fun w => absurd ((ll_sh_eq H1 H2 hd).mpr w.2) z) (fun _ => rfl) (h1 r hr) next
    · exact ll_mp112 hm ha hb hp hr (fun w => absurd w.1 ne) (fun _ => rfl) (h1 r hr) next
theorem ll_mp40 {post : Int32 → Prop} {a b d : Nat} (hm : m ≤ 4) (hR : ll_R m pa ps ar sh) (ha : a < m) (hb : b < m) (hd : d < 9)
    (h1 : ll_clash (ll_pA pa) (ll_pH ps) op a b d → post 1) (h0 : ¬ ll_clash (ll_pA pa) (ll_pH ps) op a b d → post 0) :
    ∃ n40 : Nat, wY_mustPrecede_40 post (nI a) (nI b) (nI d) (nI m) op co ar sh ce n40 0 := by
  refine loop_0 (fun n p (_ : Unit) => wY_mustPrecede_40 post (nI a) (nI b) (nI d) (nI m) op co ar sh ce n (nI p)) (fun k _ => ∀ p, p < k → ∀ r, r < 3 → ¬ ll_hit (ll_pA pa) (ll_pH ps) op a b d p r) 3 () lt_0 ?_ ?_
  · intro n _ I
    exact pk_le 3 3 (fun _ => h0 (ll_clash_hit I)) (fun z => absurd z (by omega))
  · intro n p _ hp I ih
    refine pk_le 3 p (fun z => absurd z (by omega)) (fun _ => ?_)
    exact ll_mp49 hm hR ha hb hd hp (fun r hr w => h1 (ll_hit_clash w)) (fun c => ih () (lt_s I c))
end
end
section
/-! the loops of statement, exchange, ramp, sum and differ on both sides -/
theorem ll_nA_X {post : Int32 → Prop} {w : Int32} (h1 : (∀ r, r < 3 → ll_A w r < 3) → post 1) (h0 : ¬ (∀ r, r < 3 → ll_A w r < 3) → post 0) : wpX_namesArrays post w := by
  refine loop_0 (fun n r (_ : Unit) => wX_namesArrays_2 post w n (nI r)) (fun k _ => ∀ r, r < k → ll_A w r < 3) 3 () lt_0 ?_ ?_
  · intro n _ I
    exact pk_le 3 3 (fun _ => h1 I) (fun z => absurd z (by omega))
  · intro n r _ hr I ih
    refine pk_le 3 r (fun z => absurd z (by omega)) (fun _ => ?_)
    have h4 := (ll_A_e w r).2
    refine ll_aI ?_
    exact pk_lt (ll_A w r) 3 (fun z => nm_r (nI_1 r) (ih () (lt_s I z))) (fun z => h0 (fun q => absurd (q r hr) (by omega)))
theorem ll_nS_X {post : Int32 → Prop} {w : Int32} (h1 : (∀ r, r < 3 → ll_H w r ≤ 8) → post 1) (h0 : ¬ (∀ r, r < 3 → ll_H w r ≤ 8) → post 0) : wpX_namesShifts post w := by
  refine loop_0 (fun n r (_ : Unit) => wX_namesShifts_2 post w n (nI r)) (fun k _ => ∀ r, r < k → ll_H w r ≤ 8) 3 () lt_0 ?_ ?_
  · intro n _ I
    exact pk_le 3 3 (fun _ => h1 I) (fun z => absurd z (by omega))
  · intro n r _ hr I ih
    refine pk_le 3 r (fun z => absurd z (by omega)) (fun _ => ?_)
    have h4 := ll_sh_le _ (ll_H_e w r).2
    refine ll_sI ?_
    exact br_c (fun z => nm_r (nI_1 r) (ih () (lt_s I (h4.mp z)))) (fun z => h0 (fun q => z (h4.mpr (q r hr))))
section
variable {ce op pa ps co la ar sh : Nat → Int32} {m : Nat} {post : Int32 → SY → Prop}
theorem ll_st3 {x1 x2 x3 x4 : Int32} (h0 : ¬ (∀ r, r < 3 → ll_A x2 r < 3) → post (-1) (nI m, op, co, ar, sh, ce))
    (h1 : (∀ r, r < 3 → ll_A x2 r < 3) → ∃ n32 : Nat, wY_statement_32 post x1 x2 x3 x4 (nI m) op co ar sh ce n32 0) :
    ∃ n3 : Nat, wY_statement_3 post x1 x2 x3 x4 (nI m) op co ar sh ce n3 0 := by
  refine loop_0 (fun n r (_ : Unit) => wY_statement_3 post x1 x2 x3 x4 (nI m) op co ar sh ce n (nI r)) (fun k _ => ∀ r, r < k → ll_A x2 r < 3) 3 () lt_0 ?_ ?_
  · intro n _ I
    exact pk_le 3 3 (fun _ => h1 I) (fun z => absurd z (by omega))
  · intro n r _ hr I ih
    refine pk_le 3 r (fun z => absurd z (by omega)) (fun _ => ?_)
    have h4 := (ll_A_e x2 r).2
    rw [(ll_A_e x2 r).1]
    exact pk_eq (ll_A x2 r) 3 (fun z => h0 (fun q => absurd (q r hr) (by omega))) (fun z => nm_r (nI_1 r) (ih () (lt_s I (by omega))))
theorem ll_st32 {x1 x2 x3 x4 : Int32} (h0 : ¬ (∀ r, r < 3 → ll_H x3 r ≤ 8) → post (-2) (nI m, op, co, ar, sh, ce))
    (h1 : (∀ r, r < 3 → ll_H x3 r ≤ 8) → (x1 < 0 → post (-3) (nI m, op, co, ar, sh, ce)) ∧ (¬ x1 < 0 → (x1 ≤ 6 → (nI m = 4 → post (-4) (nI m, op, co, ar, sh, ce)) ∧ (¬ nI m = 4 → ∃ n88 : Nat, wY_statement_88 post x1 x2 x3 x4 (nI m) n88 0 op co ar sh ce)) ∧ (¬ x1 ≤ 6 → post (-3) (nI m, op, co, ar, sh, ce)))) :
    ∃ n32 : Nat, wY_statement_32 post x1 x2 x3 x4 (nI m) op co ar sh ce n32 0 := by
  refine loop_0 (fun n r (_ : Unit) => wY_statement_32 post x1 x2 x3 x4 (nI m) op co ar sh ce n (nI r)) (fun k _ => ∀ r, r < k → ll_H x3 r ≤ 8) 3 () lt_0 ?_ ?_
  · intro n _ I
    exact pk_le 3 3 (fun _ => h1 I) (fun z => absurd z (by omega))
  · intro n r _ hr I ih
    refine pk_le 3 r (fun z => absurd z (by omega)) (fun _ => ?_)
    have h4 := (ll_H_e x3 r).2
    rw [(ll_H_e x3 r).1]
    exact pk_le (ll_H x3 r) 8 (fun z => nm_r (nI_1 r) (ih () (lt_s I z))) (fun z => h0 (fun q => absurd (q r hr) (by omega)))
theorem ll_st88 {x1 x2 x3 x4 : Int32} (hm : m < 4) (h : ∀ ar' sh' : Nat → Int32, (∀ j, j < m * 3 → ar' j = ar j ∧ sh' j = sh j) → (∀ r, r < 3 → ar' (m * 3 + r) = nI (ll_A x2 r) ∧ sh' (m * 3 + r) = nI (ll_H x3 r) - 4) → post (nI m) (nI (m + 1), upd op m x1, upd co m x4, ar', sh', ce)) :
    ∃ n88 : Nat, wY_statement_88 post x1 x2 x3 x4 (nI m) n88 0 op co ar sh ce := by
  refine loop_0 (fun n r (z : (Nat → Int32) × (Nat → Int32)) => wY_statement_88 post x1 x2 x3 x4 (nI m) n (nI r) op co z.1 z.2 ce) (fun k z => (∀ j, j < m * 3 → z.1 j = ar j ∧ z.2 j = sh j) ∧ (∀ r, r < k → z.1 (m * 3 + r) = nI (ll_A x2 r) ∧ z.2 (m * 3 + r) = nI (ll_H x3 r) - 4)) 3 (ar, sh) ⟨fun j _ => ⟨rfl, rfl⟩, lt_0⟩ ?_ ?_
  · intro n z I
    obtain ⟨g, k⟩ := z
    have cm : (nI m).toNatClampNeg = m := nI_clamp (by omega)
    refine pk_le 3 3 (fun _ => ?_) (fun z => absurd z (by omega))
    rw [cm]
    refine ⟨pk_in m 4 hm, nm_e ⟨pk_in m 4 hm, nm_e (nm_r (nI_1 m) ?_)⟩⟩
    rw [nI_pred]
    exact h g k I.1 I.2
  · intro n r z hr I ih
    obtain ⟨g, k⟩ := z
    have e : nI m * 3 + nI r = nI (m * 3 + r) := (congrArg (fun t => t + nI r) (pk_mul m 3)).trans (nI_add _ _)
    have iv : vp_in (nI (m * 3 + r)) 12 := vp_in_nI (by omega) (by decide)
    refine pk_le 3 r (fun z => absurd z (by omega)) (fun _ => ?_)
    rw [e, nI_clamp (n := m * 3 + r) (by omega), (ll_A_e x2 r).1, (ll_H_e x3 r).1]
    refine ⟨iv, nm_e ⟨iv, nm_e (nm_r (nI_1 r) (ih (_, _) ⟨fun j hj => ?_, ?_⟩))⟩⟩
    · exact ⟨(ll_un (by omega)).trans (I.1 j hj).1, (ll_un (by omega)).trans (I.1 j hj).2⟩
    · refine lt_s (fun q hq => ?_) ⟨ll_us, ll_us⟩
      exact ⟨(ll_un (by omega)).trans (I.2 q hq).1, (ll_un (by omega)).trans (I.2 q hq).2⟩
/-- a and b changed places -/
def ll_sw (a b s : Nat) : Nat := if s = b then a else if s = a then b else s
theorem ll_sw_u (f : Nat → Int32) (a b : Nat) : upd (upd f a (f b)) b (f a) = fun s => f (ll_sw a b s) := by
  funext s
  show (if s = b then f a else if s = a then f b else f s) = f (if s = b then a else if s = a then b else s)
  by_cases e1 : s = b
  · rw [if_pos e1, if_pos e1]
  · rw [if_neg e1, if_neg e1]
    by_cases e2 : s = a
    · rw [if_pos e2, if_pos e2]
    · rw [if_neg e2, if_neg e2]
theorem ll_sw_lt {a b s : Nat} (ha : a < m) (hb : b < m) (hs : s < m) : ll_sw a b s < m := by
  unfold ll_sw
  by_cases e1 : s = b
  · rw [if_pos e1]; exact ha
  · rw [if_neg e1]
    by_cases e2 : s = a
    · rw [if_pos e2]; exact hb
    · rw [if_neg e2]; exact hs
theorem ll_ex_step {g g0 : Nat → Int32} {a b i : Nat} (hi : i < 3) (I : ∀ s r, r < 3 → g (s * 3 + r) = g0 ((if r < i then ll_sw a b s else s) * 3 + r)) :
    ∀ s r, r < 3 → upd (upd g (a * 3 + i) (g (b * 3 + i))) (b * 3 + i) (g (a * 3 + i)) (s * 3 + r) = g0 ((if r < i + 1 then ll_sw a b s else s) * 3 + r) := by
  intro s r hr
  show (if s * 3 + r = b * 3 + i then g (a * 3 + i) else if s * 3 + r = a * 3 + i then g (b * 3 + i) else g (s * 3 + r)) = _
  by_cases e : r = i
  · subst e
    rw [if_pos (Nat.lt_succ_self r)]
    unfold ll_sw
    by_cases e1 : s = b
    · rw [if_pos (show s * 3 + r = b * 3 + r by omega), if_pos e1, I a r hr, if_neg (Nat.lt_irrefl r)]
    · rw [if_neg (show ¬ s * 3 + r = b * 3 + r by omega), if_neg e1]
      by_cases e2 : s = a
      · rw [if_pos (show s * 3 + r = a * 3 + r by omega), if_pos e2, I b r hr, if_neg (Nat.lt_irrefl r)]
      · rw [if_neg (show ¬ s * 3 + r = a * 3 + r by omega), if_neg e2, I s r hr, if_neg (Nat.lt_irrefl r)]
  · rw [if_neg (show ¬ s * 3 + r = b * 3 + i by omega), if_neg (show ¬ s * 3 + r = a * 3 + i by omega), I s r hr]
    by_cases q : r < i
    · rw [if_pos q, if_pos (show r < i + 1 by omega)]
    · rw [if_neg q, if_neg (show ¬ r < i + 1 by omega)]
theorem ll_ex76 {a b : Nat} (hm : m ≤ 4) (ha : a < m) (hb : b < m) (h : ∀ ar' sh' : Nat → Int32, (∀ s r, r < 3 → ar' (s * 3 + r) = ar (ll_sw a b s * 3 + r)) → (∀ s r, r < 3 → sh' (s * 3 + r) = sh (ll_sw a b s * 3 + r)) → post 0 (nI m, op, co, ar', sh', ce)) :
    ∃ n76 : Nat, wY_exchange_76 post (nI a) (nI b) (nI m) n76 0 op co ar sh ce := by
  refine loop_0 (fun n r (z : (Nat → Int32) × (Nat → Int32)) => wY_exchange_76 post (nI a) (nI b) (nI m) n (nI r) op co z.1 z.2 ce) (fun k z => (∀ s r, r < 3 → z.1 (s * 3 + r) = ar ((if r < k then ll_sw a b s else s) * 3 + r)) ∧ (∀ s r, r < 3 → z.2 (s * 3 + r) = sh ((if r < k then ll_sw a b s else s) * 3 + r))) 3 (ar, sh) ⟨fun s r _ => rfl, fun s r _ => rfl⟩ ?_ ?_
  · intro n z I
    obtain ⟨g, k⟩ := z
    refine pk_le 3 3 (fun _ => ?_) (fun z => absurd z (by omega))
    refine h g k (fun s r hr => ?_) (fun s r hr => ?_)
    · have := I.1 s r hr
      rw [if_pos hr] at this
      exact this
    · have := I.2 s r hr
      rw [if_pos hr] at this
      exact this
  · intro n r z hr I ih
    obtain ⟨g, k⟩ := z
    have ea : nI a * 3 + nI r = nI (a * 3 + r) := (congrArg (fun t => t + nI r) (pk_mul a 3)).trans (nI_add _ _)
    have eb : nI b * 3 + nI r = nI (b * 3 + r) := (congrArg (fun t => t + nI r) (pk_mul b 3)).trans (nI_add _ _)
    have ia : vp_in (nI (a * 3 + r)) 12 := vp_in_nI (by omega) (by decide)
    have ib : vp_in (nI (b * 3 + r)) 12 := vp_in_nI (by omega) (by decide)
    refine pk_le 3 r (fun z => absurd z (by omega)) (fun _ => ?_)
    rw [ea, eb, nI_clamp (n := a * 3 + r) (by omega), nI_clamp (n := b * 3 + r) (by omega)]
    exact ⟨ia, nm_e ⟨ib, ia, nm_e ⟨ib, nm_e ⟨ia, nm_e ⟨ib, ia, nm_e ⟨ib, nm_e (nm_r (nI_1 r) (ih (_, _) ⟨ll_ex_step hr I.1, ll_ex_step hr I.2⟩))⟩⟩⟩⟩⟩⟩
end
section
variable {fc : Int32} {ce op pa ps co la : Nat → Int32} {post : SX → Prop} {a b : Nat}
theorem ll_swap1 (ha : a < 4) (hb : b < 4) (h : post (fc, ce, upd (upd op a (op b)) b (op a), pa, ps, co, la)) : wpX_swap__ops post (fc, ce, op, pa, ps, co, la) (nI a) (nI b) := by
  unfold wpX_swap__ops
  dsimp only
  rw [nI_clamp (n := a) (by omega), nI_clamp (n := b) (by omega)]
  exact ⟨pk_in a 4 ha, nm_e ⟨pk_in b 4 hb, pk_in a 4 ha, nm_e ⟨pk_in b 4 hb, nm_e h⟩⟩⟩
theorem ll_swap2 (ha : a < 4) (hb : b < 4) (h : post (fc, ce, op, upd (upd pa a (pa b)) b (pa a), ps, co, la)) : wpX_swap__packedArrays post (fc, ce, op, pa, ps, co, la) (nI a) (nI b) := by
  unfold wpX_swap__packedArrays
  dsimp only
  rw [nI_clamp (n := a) (by omega), nI_clamp (n := b) (by omega)]
  exact ⟨pk_in a 4 ha, nm_e ⟨pk_in b 4 hb, pk_in a 4 ha, nm_e ⟨pk_in b 4 hb, nm_e h⟩⟩⟩
theorem ll_swap3 (ha : a < 4) (hb : b < 4) (h : post (fc, ce, op, pa, upd (upd ps a (ps b)) b (ps a), co, la)) : wpX_swap__packedShifts post (fc, ce, op, pa, ps, co, la) (nI a) (nI b) := by
  unfold wpX_swap__packedShifts
  dsimp only
  rw [nI_clamp (n := a) (by omega), nI_clamp (n := b) (by omega)]
  exact ⟨pk_in a 4 ha, nm_e ⟨pk_in b 4 hb, pk_in a 4 ha, nm_e ⟨pk_in b 4 hb, nm_e h⟩⟩⟩
theorem ll_swap4 (ha : a < 4) (hb : b < 4) (h : post (fc, ce, op, pa, ps, upd (upd co a (co b)) b (co a), la)) : wpX_swap__constants post (fc, ce, op, pa, ps, co, la) (nI a) (nI b) := by
  unfold wpX_swap__constants
  dsimp only
  rw [nI_clamp (n := a) (by omega), nI_clamp (n := b) (by omega)]
  exact ⟨pk_in a 4 ha, nm_e ⟨pk_in b 4 hb, pk_in a 4 ha, nm_e ⟨pk_in b 4 hb, nm_e h⟩⟩⟩
end
theorem ll_ix (j i : Nat) : nI j * 32 + nI i = nI (j * 32 + i) := (congrArg (fun t => t + nI i) (pk_mul j 32)).trans (nI_add _ _)
/-- ramp's first n writes -/
def ll_rp (c : Nat → Int32) (j : Nat) (f t : Int32) : Nat → Nat → Int32
  | 0 => c
  | n + 1 => upd (ll_rp c j f t n) (j * 32 + n) (f + nI n * t)
def ll_sm (c : Nat → Int32) (j : Nat) : Nat → Int32
  | 0 => 0
  | n + 1 => ll_sm c j n + c (j * 32 + n)
def ll_df (c : Nat → Int32) (i j : Nat) : Nat → Int32
  | 0 => 0
  | n + 1 => if c (i * 32 + n) = c (j * 32 + n) then ll_df c i j n else ll_df c i j n + 1
section
variable {fc : Int32} {ce op pa ps co la ar sh : Nat → Int32}
theorem ll_ramp_X {post : Int32 → SX → Prop} {j : Nat} {x2 x3 : Int32} (hj : j < 3) (h : post 0 (fc, ll_rp ce j x2 x3 32, op, pa, ps, co, la)) :
    ∃ n12 : Nat, wX_ramp_12 post (nI j) x2 x3 fc n12 0 ce op pa ps co la := by
  refine loop_0 (fun n i c => wX_ramp_12 post (nI j) x2 x3 fc n (nI i) c op pa ps co la) (fun i c => c = ll_rp ce j x2 x3 i) 32 ce rfl ?_ ?_
  · intro n c I
    subst I
    exact pk_le 32 32 (fun _ => h) (fun z => absurd z (by omega))
  · intro n i c hi I ih
    refine pk_le 32 i (fun z => absurd z (by omega)) (fun _ => ?_)
    rw [ll_ix, nI_clamp (n := j * 32 + i) (by omega)]
    refine ⟨vp_in_nI (by omega) (by decide), nm_e (nm_r (nI_1 i) (ih _ ?_))⟩
    rw [I]
    rfl
theorem ll_ramp_Y {post : Int32 → SY → Prop} {j : Nat} {x2 x3 : Int32} (hj : j < 3) (h : post 0 (fc, op, co, ar, sh, ll_rp ce j x2 x3 32)) :
    ∃ n13 : Nat, wY_ramp_13 post (nI j) x2 x3 fc n13 0 op co ar sh ce := by
  refine loop_0 (fun n i c => wY_ramp_13 post (nI j) x2 x3 fc n (nI i) op co ar sh c) (fun i c => c = ll_rp ce j x2 x3 i) 32 ce rfl ?_ ?_
  · intro n c I
    subst I
    exact pk_le 32 32 (fun _ => h) (fun z => absurd z (by omega))
  · intro n i c hi I ih
    refine pk_le 32 i (fun z => absurd z (by omega)) (fun _ => ?_)
    rw [ll_ix, nI_clamp (n := j * 32 + i) (by omega)]
    refine ⟨vp_in_nI (by omega) (by decide), nm_e (nm_r (nI_1 i) (ih _ ?_))⟩
    rw [I]
    rfl
theorem ll_sum_X {post : Int32 → Prop} {j : Nat} (hj : j < 3) (h : post (ll_sm ce j 32)) :
    ∃ n13 : Nat, wX_sum_13 post (nI j) fc ce op pa ps co la n13 0 0 := by
  refine loop_0 (fun n i t => wX_sum_13 post (nI j) fc ce op pa ps co la n t (nI i)) (fun i t => t = ll_sm ce j i) 32 0 rfl ?_ ?_
  · intro n c I
    subst I
    exact pk_le 32 32 (fun _ => h) (fun z => absurd z (by omega))
  · intro n i c hi I ih
    refine pk_le 32 i (fun z => absurd z (by omega)) (fun _ => ?_)
    rw [ll_ix, nI_clamp (n := j * 32 + i) (by omega)]
    refine ⟨vp_in_nI (by omega) (by decide), nm_e (nm_r (nI_1 i) (ih _ ?_))⟩
    rw [I]
    rfl
theorem ll_sum_Y {post : Int32 → Prop} {j : Nat} (hj : j < 3) (hb : ∀ (p : Int32 → Prop) (v : SY), p 0 → wpY_badArray p v (nI j)) (h : post (ll_sm ce j 32)) :
    ∃ n4 : Nat, wY_sum_4 post (nI j) fc op co ar sh ce n4 0 0 := by
  refine loop_0 (fun n i t => wY_sum_4 post (nI j) fc op co ar sh ce n t (nI i)) (fun i t => t = ll_sm ce j i) 32 0 rfl ?_ ?_
  · intro n c I
    subst I
    exact pk_le 32 32 (fun _ => h) (fun z => absurd z (by omega))
  · intro n i c hi I ih
    refine pk_le 32 i (fun z => absurd z (by omega)) (fun _ => ?_)
    rw [ll_ix, nI_clamp (n := j * 32 + i) (by omega)]
    refine hb _ _ ?_
    refine br_t rfl ⟨vp_in_nI (by omega) (by decide), nm_e (nm_r (nI_1 i) (ih _ ?_))⟩
    rw [I]
    rfl
theorem ll_sum_Y0 {post : Int32 → Prop} {x : Int32} (hb : ∀ (p : Int32 → Prop) (v : SY), p 1 → wpY_badArray p v x) (h : post 0) :
    ∃ n4 : Nat, wY_sum_4 post x fc op co ar sh ce n4 0 0 := by
  refine loop_0 (fun n i (_ : Unit) => wY_sum_4 post x fc op co ar sh ce n 0 (nI i)) (fun _ _ => True) 32 () trivial ?_ ?_
  · intro n _ _
    exact pk_le 32 32 (fun _ => h) (fun z => absurd z (by omega))
  · intro n i _ hi _ ih
    refine pk_le 32 i (fun z => absurd z (by omega)) (fun _ => ?_)
    refine hb _ _ ?_
    exact br_f (by decide) (nm_r (nI_1 i) (ih () trivial))
theorem ll_differ_X {post : Int32 → Prop} {a b : Nat} (ha : a < 3) (hb : b < 3) (h : post (ll_df ce a b 32)) :
    ∃ n21 : Nat, wX_differ_21 post (nI a) (nI b) fc ce op pa ps co la n21 0 0 := by
  refine loop_0 (fun n i t => wX_differ_21 post (nI a) (nI b) fc ce op pa ps co la n t (nI i)) (fun i t => t = ll_df ce a b i) 32 0 rfl ?_ ?_
  · intro n c I
    subst I
    exact pk_le 32 32 (fun _ => h) (fun z => absurd z (by omega))
  · intro n i c hi I ih
    refine pk_le 32 i (fun z => absurd z (by omega)) (fun _ => ?_)
    rw [ll_ix, ll_ix, nI_clamp (n := a * 32 + i) (by omega), nI_clamp (n := b * 32 + i) (by omega)]
    refine ⟨vp_in_nI (by omega) (by decide), vp_in_nI (by omega) (by decide), ?_⟩
    refine br_c (fun e => nm_r (nI_1 i) (ih _ ?_)) (fun e => nm_e (nm_r (nI_1 i) (ih _ ?_)))
    · exact I.trans (if_pos e).symm
    · rw [I]; exact (if_neg e).symm
theorem ll_differ_Y {post : Int32 → Prop} {a b : Nat} (ha : a < 3) (hb : b < 3) (h : post (ll_df ce a b 32)) :
    ∃ n23 : Nat, wY_differ_23 post (nI a) (nI b) fc op co ar sh ce n23 0 0 := by
  refine loop_0 (fun n i t => wY_differ_23 post (nI a) (nI b) fc op co ar sh ce n t (nI i)) (fun i t => t = ll_df ce a b i) 32 0 rfl ?_ ?_
  · intro n c I
    subst I
    exact pk_le 32 32 (fun _ => h) (fun z => absurd z (by omega))
  · intro n i c hi I ih
    refine pk_le 32 i (fun z => absurd z (by omega)) (fun _ => ?_)
    rw [ll_ix, ll_ix, nI_clamp (n := a * 32 + i) (by omega), nI_clamp (n := b * 32 + i) (by omega)]
    refine ⟨vp_in_nI (by omega) (by decide), vp_in_nI (by omega) (by decide), ?_⟩
    refine br_c (fun e => nm_r (nI_1 i) (ih _ ?_)) (fun e => nm_e (nm_r (nI_1 i) (ih _ ?_)))
    · exact I.trans (if_pos e).symm
    · rw [I]; exact (if_neg e).symm
end
end
section
/-! the relation and the owed statements: all but run and mustPrecede -/
/-- the same cells, operations, constants and size on both sides; Y's arrays and shifts are X's packed ones -/
def i_Rel (k : Nat) (u : SX) (v : SY) : Prop := ∃ (m : Nat) (ce op pa ps co la ar sh : Nat → Int32), m ≤ 4 ∧ u = (nI m, ce, op, pa, ps, co, la) ∧ v = (nI m, op, co, ar, sh, ce) ∧ ll_R m pa ps ar sh
theorem ll_rel {k m : Nat} {ce op pa ps co la ar sh : Nat → Int32} (hm : m ≤ 4) (hR : ll_R m pa ps ar sh) : i_Rel k (nI m, ce, op, pa, ps, co, la) (nI m, op, co, ar, sh, ce) := ⟨m, ce, op, pa, ps, co, la, ar, sh, hm, rfl, rfl, hR⟩
theorem i_up {k : Nat} {u : SX} {v : SY} (h : i_Rel k u v) : i_Rel (k + 5) u v := h
theorem i_vc0 : wpX_init (fun u => wpY_init (fun v => i_Rel 0 u v)) := ll_rel (k := 0) (m := 0) (by omega) (fun s hs => absurd hs (by omega))
theorem i_vc_statement {k : Nat} {u : SX} {v : SY} (I : i_Rel k u v) (hk : k + 5 ≤ 2560) (v1 : Int32) (v2 : Int32) (v3 : Int32) (v4 : Int32) : wpX_statement (fun r u' => wpY_statement (fun r' v' => r' = r ∧ i_Rel (k + 5) u' v') v v1 v2 v3 v4) u v1 v2 v3 v4 := by
  obtain ⟨m, ce, op, pa, ps, co, la, ar, sh, hm, rfl, rfl, hR⟩ := I
  have J : i_Rel (k + 5) (nI m, ce, op, pa, ps, co, la) (nI m, op, co, ar, sh, ce) := ll_rel hm hR
  unfold wpX_statement
  dsimp only
  refine ll_nA_X (fun hA => ?_) (fun hA => ?_)
  · refine br_f (by decide) ?_
    refine ll_nS_X (fun hS => ?_) (fun hS => ?_)
    · refine br_f (by decide) ?_
      refine br_c (fun l => ?_) (fun nl => ?_)
      · exact ll_st3 (fun z => absurd hA z) (fun _ => ll_st32 (fun z => absurd hS z) (fun _ => br_t l ⟨rfl, J⟩))
      · refine br_c (fun g => ?_) (fun ng => ?_)
        · refine pk_lt m 4 (fun m4 => ?_) (fun m4 => ?_)
          · have cm : (nI m).toNatClampNeg = m := nI_clamp (by omega)
            have im : vp_in (nI m) 4 := vp_in_nI m4 (by decide)
            rw [cm]
            refine ⟨im, nm_e ⟨im, nm_e ⟨im, nm_e ⟨im, nm_e (nm_r (nI_1 m) ?_)⟩⟩⟩⟩
            refine ll_st3 (fun z => absurd hA z) (fun _ => ll_st32 (fun z => absurd hS z) (fun _ => br_f nl (br_t g (pk_eq m 4 (fun z => absurd z (by omega)) (fun _ => ll_st88 m4 (fun ar' sh' ho hn => ⟨(nI_pred m).symm, ll_rel m4 ?_⟩))))))
            intro s hs r hr
            by_cases e : s = m
            · subst e
              rw [ll_us, ll_us]
              exact ⟨(hn r hr).1, (hn r hr).2, hA r hr, hS r hr⟩
            · have hs' : s < m := by omega
              have q := hR s hs' r hr
              rw [ll_un e, ll_un e, (ho (s * 3 + r) (by omega)).1, (ho (s * 3 + r) (by omega)).2]
              exact q
          · exact ll_st3 (fun z => absurd hA z) (fun _ => ll_st32 (fun z => absurd hS z) (fun _ => br_f nl (br_t g (pk_eq m 4 (fun _ => ⟨rfl, J⟩) (fun z => absurd z (by omega))))))
        · exact ll_st3 (fun z => absurd hA z) (fun _ => ll_st32 (fun z => absurd hS z) (fun _ => br_f nl (br_f ng ⟨rfl, J⟩)))
    · exact br_t rfl (ll_st3 (fun z => absurd hA z) (fun _ => ll_st32 (fun _ => ⟨rfl, J⟩) (fun z => absurd z hS)))
  · exact br_t rfl (ll_st3 (fun _ => ⟨rfl, J⟩) (fun z => absurd z hA))
theorem i_vc_clear {k : Nat} {u : SX} {v : SY} (I : i_Rel k u v) (hk : k + 5 ≤ 2560) : wpX_clear (fun u' => wpY_clear (fun v' => i_Rel (k + 5) u' v') v) u := by
  obtain ⟨m, ce, op, pa, ps, co, la, ar, sh, hm, rfl, rfl, hR⟩ := I
  exact ll_rel (k := k + 5) (m := 0) (by omega) (fun s hs => absurd hs (by omega))
theorem i_vc_exchange {k : Nat} {u : SX} {v : SY} (I : i_Rel k u v) (hk : k + 5 ≤ 2560) (v1 : Int32) (v2 : Int32) : wpX_exchange (fun r u' => wpY_exchange (fun r' v' => r' = r ∧ i_Rel (k + 5) u' v') v v1 v2) u v1 v2 := by
  obtain ⟨m, ce, op, pa, ps, co, la, ar, sh, hm, rfl, rfl, hR⟩ := I
  have J : i_Rel (k + 5) (nI m, ce, op, pa, ps, co, la) (nI m, op, co, ar, sh, ce) := ll_rel hm hR
  unfold wpX_exchange wpY_exchange
  dsimp only
  rcases ll_isS m hm v1 ce op pa ps co la op co ar sh ce with ⟨a, ha, rfl, x1, y1⟩ | ⟨x1, y1⟩
  · refine x1 _ (br_f (by decide) ?_)
    rcases ll_isS m hm v2 ce op pa ps co la op co ar sh ce with ⟨b, hb, rfl, x2, y2⟩ | ⟨x2, y2⟩
    · refine x2 _ (br_f (by decide) ?_)
      have ha4 : a < 4 := by omega
      have hb4 : b < 4 := by omega
      refine ll_swap1 ha4 hb4 ?_
      refine ll_swap2 ha4 hb4 ?_
      refine ll_swap3 ha4 hb4 ?_
      refine ll_swap4 ha4 hb4 ?_
      have ca : (nI a).toNatClampNeg = a := nI_clamp (by omega)
      have cb : (nI b).toNatClampNeg = b := nI_clamp (by omega)
      have ia : vp_in (nI a) 4 := vp_in_nI ha4 (by decide)
      have ib : vp_in (nI b) 4 := vp_in_nI hb4 (by decide)
      refine y1 _ (br_t rfl ?_)
      refine y2 _ (br_t rfl ?_)
      rw [ca, cb]
      refine ⟨ia, nm_e ⟨ib, ia, nm_e ⟨ib, nm_e ⟨ia, nm_e ⟨ib, ia, nm_e ⟨ib, nm_e ?_⟩⟩⟩⟩⟩⟩
      refine ll_ex76 hm ha hb (fun ar' sh' h1 h2 => ⟨rfl, ll_rel hm ?_⟩)
      intro s hs r hr
      rw [ll_sw_u pa a b, ll_sw_u ps a b, h1 s r hr, h2 s r hr]
      exact hR (ll_sw a b s) (ll_sw_lt ha hb hs) r hr
    · refine x2 _ (br_t rfl ?_)
      refine y1 _ (br_t rfl ?_)
      exact y2 _ (br_f (by decide) ⟨rfl, J⟩)
  · refine x1 _ (br_t rfl ?_)
    exact y1 _ (br_f (by decide) ⟨rfl, J⟩)
theorem i_vc_set {k : Nat} {u : SX} {v : SY} (I : i_Rel k u v) (hk : k + 5 ≤ 2560) (v1 : Int32) (v2 : Int32) (v3 : Int32) : wpX_set (fun r u' => wpY_set (fun r' v' => r' = r ∧ i_Rel (k + 5) u' v') v v1 v2 v3) u v1 v2 v3 := by
  obtain ⟨m, ce, op, pa, ps, co, la, ar, sh, hm, rfl, rfl, hR⟩ := I
  have J : i_Rel (k + 5) (nI m, ce, op, pa, ps, co, la) (nI m, op, co, ar, sh, ce) := ll_rel hm hR
  unfold wpX_set wpY_set
  dsimp only
  rcases ll_isA v1 with ⟨a, ha, rfl, x1, y1⟩ | ⟨x1, y1⟩
  · refine x1 _ (br_f (by decide) ?_)
    rcases ll_isC v2 with ⟨c, hc, rfl, x2, y2⟩ | ⟨x2, y2⟩
    · refine x2 _ (br_f (by decide) ?_)
      have iv : vp_in (nI (a * 32 + c)) 96 := vp_in_nI (by omega) (by decide)
      rw [ll_ix, nI_clamp (n := a * 32 + c) (by omega)]
      refine ⟨iv, nm_e ⟨iv, nm_e ?_⟩⟩
      refine y1 _ _ (br_t rfl ?_)
      refine y2 _ _ (br_t rfl ?_)
      exact ⟨iv, nm_e ⟨iv, nm_e ⟨rfl, ll_rel hm hR⟩⟩⟩
    · refine x2 _ (br_t rfl ?_)
      refine y1 _ _ (br_t rfl ?_)
      exact y2 _ _ (br_f (by decide) ⟨rfl, J⟩)
  · refine x1 _ (br_t rfl ?_)
    exact y1 _ _ (br_f (by decide) ⟨rfl, J⟩)
theorem i_vc_ramp {k : Nat} {u : SX} {v : SY} (I : i_Rel k u v) (hk : k + 5 ≤ 2560) (v1 : Int32) (v2 : Int32) (v3 : Int32) : wpX_ramp (fun r u' => wpY_ramp (fun r' v' => r' = r ∧ i_Rel (k + 5) u' v') v v1 v2 v3) u v1 v2 v3 := by
  obtain ⟨m, ce, op, pa, ps, co, la, ar, sh, hm, rfl, rfl, hR⟩ := I
  have J : i_Rel (k + 5) (nI m, ce, op, pa, ps, co, la) (nI m, op, co, ar, sh, ce) := ll_rel hm hR
  unfold wpX_ramp wpY_ramp
  dsimp only
  rcases ll_isA v1 with ⟨a, ha, rfl, x1, y1⟩ | ⟨x1, y1⟩
  · refine x1 _ (br_f (by decide) ?_)
    refine ll_ramp_X ha ?_
    refine y1 _ _ (br_t rfl ?_)
    exact ll_ramp_Y ha ⟨rfl, ll_rel hm hR⟩
  · refine x1 _ (br_t rfl ?_)
    exact y1 _ _ (br_f (by decide) ⟨rfl, J⟩)
theorem i_vc_get {k : Nat} {u : SX} {v : SY} (I : i_Rel k u v) (hk : k + 5 ≤ 2560) (v1 : Int32) (v2 : Int32) : wpX_get (fun r => wpY_get (fun r' => r' = r ∧ i_Rel (k + 5) u v) v v1 v2) u v1 v2 := by
  obtain ⟨m, ce, op, pa, ps, co, la, ar, sh, hm, rfl, rfl, hR⟩ := I
  have J : i_Rel (k + 5) (nI m, ce, op, pa, ps, co, la) (nI m, op, co, ar, sh, ce) := ll_rel hm hR
  unfold wpX_get wpY_get
  dsimp only
  rcases ll_isA v1 with ⟨a, ha, rfl, x1, y1⟩ | ⟨x1, y1⟩
  · refine x1 _ (br_f (by decide) ?_)
    rcases ll_isC v2 with ⟨c, hc, rfl, x2, y2⟩ | ⟨x2, y2⟩
    · refine x2 _ (br_f (by decide) ?_)
      have iv : vp_in (nI (a * 32 + c)) 96 := vp_in_nI (by omega) (by decide)
      rw [ll_ix]
      refine ⟨iv, ?_⟩
      refine y1 _ _ (br_t rfl ?_)
      exact y2 _ _ (br_t rfl ⟨iv, rfl, J⟩)
    · refine x2 _ (br_t rfl ?_)
      refine y1 _ _ (br_t rfl ?_)
      exact y2 _ _ (br_f (by decide) ⟨rfl, J⟩)
  · refine x1 _ (br_t rfl ?_)
    exact y1 _ _ (br_f (by decide) ⟨rfl, J⟩)
theorem i_vc_sum {k : Nat} {u : SX} {v : SY} (I : i_Rel k u v) (hk : k + 5 ≤ 2560) (v1 : Int32) : wpX_sum (fun r => wpY_sum (fun r' => r' = r ∧ i_Rel (k + 5) u v) v v1) u v1 := by
  obtain ⟨m, ce, op, pa, ps, co, la, ar, sh, hm, rfl, rfl, hR⟩ := I
  have J : i_Rel (k + 5) (nI m, ce, op, pa, ps, co, la) (nI m, op, co, ar, sh, ce) := ll_rel hm hR
  unfold wpX_sum wpY_sum
  dsimp only
  rcases ll_isA v1 with ⟨a, ha, rfl, x1, y1⟩ | ⟨x1, y1⟩
  · refine x1 _ (br_f (by decide) ?_)
    refine ll_sum_X ha ?_
    exact ll_sum_Y ha y1 ⟨rfl, J⟩
  · refine x1 _ (br_t rfl ?_)
    exact ll_sum_Y0 y1 ⟨rfl, J⟩
theorem i_vc_differ {k : Nat} {u : SX} {v : SY} (I : i_Rel k u v) (hk : k + 5 ≤ 2560) (v1 : Int32) (v2 : Int32) : wpX_differ (fun r => wpY_differ (fun r' => r' = r ∧ i_Rel (k + 5) u v) v v1 v2) u v1 v2 := by
  obtain ⟨m, ce, op, pa, ps, co, la, ar, sh, hm, rfl, rfl, hR⟩ := I
  have J : i_Rel (k + 5) (nI m, ce, op, pa, ps, co, la) (nI m, op, co, ar, sh, ce) := ll_rel hm hR
  unfold wpX_differ wpY_differ
  dsimp only
  rcases ll_isA v1 with ⟨a, ha, rfl, x1, y1⟩ | ⟨x1, y1⟩
  · refine x1 _ (br_f (by decide) ?_)
    rcases ll_isA v2 with ⟨b, hb, rfl, x2, y2⟩ | ⟨x2, y2⟩
    · refine x2 _ (br_f (by decide) ?_)
      refine ll_differ_X ha hb ?_
      refine y1 _ _ (br_t rfl ?_)
      refine y2 _ _ (br_t rfl ?_)
      exact ll_differ_Y ha hb ⟨rfl, J⟩
    · refine x2 _ (br_t rfl ?_)
      refine y1 _ _ (br_t rfl ?_)
      exact y2 _ _ (br_f (by decide) ⟨rfl, J⟩)
  · refine x1 _ (br_t rfl ?_)
    exact y1 _ _ (br_f (by decide) ⟨rfl, J⟩)
theorem i_vc_size {k : Nat} {u : SX} {v : SY} (I : i_Rel k u v) (hk : k + 5 ≤ 2560) : wpX_size (fun r => wpY_size (fun r' => r' = r ∧ i_Rel (k + 5) u v) v) u := by
  obtain ⟨m, ce, op, pa, ps, co, la, ar, sh, hm, rfl, rfl, hR⟩ := I
  exact ⟨rfl, ll_rel hm hR⟩
end
section
/-! the owed statements of run and mustPrecede -/
theorem i_vc_run {k : Nat} {u : SX} {v : SY} (I : i_Rel k u v) (hk : k + 5 ≤ 2560) (v1 : Int32) (v2 : Int32) : wpX_run (fun r u' => wpY_run (fun r' v' => r' = r ∧ i_Rel (k + 5) u' v') v v1 v2) u v1 v2 := by
  obtain ⟨m, ce, op, pa, ps, co, la, ar, sh, hm, rfl, rfl, hR⟩ := I
  have J : i_Rel (k + 5) (nI m, ce, op, pa, ps, co, la) (nI m, op, co, ar, sh, ce) := ll_rel hm hR
  unfold wpX_run wpY_run
  dsimp only
  rcases ll_isC v1 with ⟨lo, hlo, rfl, x1, y1⟩ | ⟨x1, y1⟩
  · refine x1 _ (br_f (by decide) ?_)
    rcases ll_isC v2 with ⟨hh, hhh, rfl, x2, y2⟩ | ⟨x2, y2⟩
    · refine x2 _ (br_f (by decide) ?_)
      refine ll_body_X hm hlo (fun b1 => ?_) (fun b1 => ?_)
      · refine br_f (by decide) ?_
        refine ll_body_X hm hhh (fun b2 => ?_) (fun b2 => ?_)
        · refine br_f (by decide) ?_
          refine pk_le lo hh (fun hl => ?_) (fun hl => ?_)
          · obtain ⟨N, hN⟩ : ∃ N, lo + N = hh + 1 := ⟨hh + 1 - lo, by omega⟩
            have eN : nI hh - nI lo + 1 = nI N := by
              rw [pk_sub hl, nI_1]
              exact congrArg nI (by omega)
            have hin : ∀ j, j < N → ll_In (ll_pA pa) (ll_pH ps) m (lo + j) := by
              intro j hj s hs r hr
              have q1 := b1 s hs r hr
              have q2 := b2 s hs r hr
              exact ⟨(hR s hs r hr).2.2.1, by omega, by omega⟩
            have fin : ∀ la' : Nat → Int32, (fun (r : Int32) (u' : SX) => wpY_badCell (fun r_1 => (r_1 = 0 → wpY_badCell (fun r_9 => (r_9 = 0 → ∃ n21 : Nat, wY_run_21 (fun r' v' => r' = r ∧ i_Rel (k + 5) u' v') (nI lo) (nI hh) (nI m) op co ar sh ce n21 0) ∧ (¬ r_9 = 0 → (-5 : Int32) = r ∧ i_Rel (k + 5) u' (nI m, op, co, ar, sh, ce))) (nI m, op, co, ar, sh, ce) (nI hh)) ∧ (¬ r_1 = 0 → (-5 : Int32) = r ∧ i_Rel (k + 5) u' (nI m, op, co, ar, sh, ce))) (nI m, op, co, ar, sh, ce) (nI lo)) (nI (N * m)) (nI m, ll_rg (ll_pA pa) (ll_pH ps) op co m lo N ce, op, pa, ps, co, la') := by
              intro la'
              refine y1 _ _ (br_t rfl ?_)
              refine y2 _ _ (br_t rfl ?_)
              exact ll_run21 hm hR hlo hhh (fun z => absurd ⟨b1, b2⟩ z) (fun _ _ => ll_run75 hm hN hhh hR hin ⟨rfl, ll_rel hm hR⟩)
            refine nm_r eN ?_
            refine ll_seen_X hm ?_ (fun hF => ?_)
            · exact br_f (by decide) (ll_run70 (e := 0) hm (by omega) (by omega) (Or.inl rfl) hin fin)
            · refine br_t rfl ⟨by decide, ?_⟩
              have e4 : nI N - (nI N - nI N / 4 * 4) = nI (4 * (N / 4)) := by
                have q : nI N - nI N / 4 * 4 = nI (N % 4) := pk_rem (by omega) (by decide) (by decide)
                rw [q, pk_sub (by omega)]
                exact congrArg nI (by omega)
              refine nm_r e4 ?_
              exact ll_run70 (e := N / 4) hm (by omega) (by omega) (Or.inr hF) hin fin
          · refine y1 _ _ (br_t rfl ?_)
            refine y2 _ _ (br_t rfl ?_)
            exact ll_run21 hm hR hlo hhh (fun z => absurd ⟨b1, b2⟩ z) (fun _ _ => ⟨1, pk_lt hh lo (fun _ => ⟨rfl, J⟩) (fun z => absurd z (by omega))⟩)
        · refine br_t rfl ?_
          refine y1 _ _ (br_t rfl ?_)
          refine y2 _ _ (br_t rfl ?_)
          exact ll_run21 hm hR hlo hhh (fun _ => ⟨rfl, J⟩) (fun _ z => absurd z b2)
      · refine br_t rfl ?_
        refine y1 _ _ (br_t rfl ?_)
        refine y2 _ _ (br_t rfl ?_)
        exact ll_run21 hm hR hlo hhh (fun _ => ⟨rfl, J⟩) (fun z _ => absurd z b1)
    · refine x2 _ (br_t rfl ?_)
      refine y1 _ _ (br_t rfl ?_)
      exact y2 _ _ (br_f (by decide) ⟨rfl, J⟩)
  · refine x1 _ (br_t rfl ?_)
    exact y1 _ _ (br_f (by decide) ⟨rfl, J⟩)
theorem i_vc_mustPrecede {k : Nat} {u : SX} {v : SY} (I : i_Rel k u v) (hk : k + 5 ≤ 2560) (v1 : Int32) (v2 : Int32) (v3 : Int32) : wpX_mustPrecede (fun r => wpY_mustPrecede (fun r' => r' = r ∧ i_Rel (k + 5) u v) v v1 v2 v3) u v1 v2 v3 := by
  obtain ⟨m, ce, op, pa, ps, co, la, ar, sh, hm, rfl, rfl, hR⟩ := I
  have J : i_Rel (k + 5) (nI m, ce, op, pa, ps, co, la) (nI m, op, co, ar, sh, ce) := ll_rel hm hR
  unfold wpX_mustPrecede wpY_mustPrecede
  dsimp only
  rcases ll_isS m hm v1 ce op pa ps co la op co ar sh ce with ⟨a, ha, rfl, x1, y1⟩ | ⟨x1, y1⟩
  · refine x1 _ (br_f (by decide) ?_)
    rcases ll_isS m hm v2 ce op pa ps co la op co ar sh ce with ⟨b, hb, rfl, x2, y2⟩ | ⟨x2, y2⟩
    · refine x2 _ (br_f (by decide) ?_)
      by_cases d0 : v3 < 0
      · refine br_t d0 ?_
        refine y1 _ (br_t rfl ?_)
        exact y2 _ (br_t rfl (br_t d0 ⟨rfl, J⟩))
      · refine br_f d0 ?_
        by_cases d8 : v3 ≤ 8
        · refine br_t d8 ?_
          have d8' : ¬ 8 < v3 := Int32.not_lt.mpr d8
          obtain ⟨d, hd, rfl⟩ := nI_of d0
          have hd9 : d < 9 := by
            have := (nI_leI (b := 8) hd (by decide)).mp d8
            omega
          by_cases z : nI d = 0
          · refine br_t z ?_
            by_cases l : nI a < nI b
            · refine br_t l ?_
              unfold wX_mustPrecede_41
              refine ll_clash_X hm ha hb hd9 (fun c => ?_) (fun c => ?_)
              · refine ⟨rfl, ?_⟩
                refine y1 _ (br_t rfl ?_)
                refine y2 _ (br_t rfl (br_f d0 (br_f d8' (br_t z (br_t l ?_)))))
                exact ll_mp40 hm hR ha hb hd9 (fun _ => ⟨rfl, J⟩) (fun w => absurd c w)
              · refine ⟨rfl, ?_⟩
                refine y1 _ (br_t rfl ?_)
                refine y2 _ (br_t rfl (br_f d0 (br_f d8' (br_t z (br_t l ?_)))))
                exact ll_mp40 hm hR ha hb hd9 (fun w => absurd w c) (fun _ => ⟨rfl, J⟩)
            · refine br_f l ?_
              refine y1 _ (br_t rfl ?_)
              exact y2 _ (br_t rfl (br_f d0 (br_f d8' (br_t z (br_f l ⟨rfl, J⟩)))))
          · refine br_f z ?_
            unfold wX_mustPrecede_41
            refine ll_clash_X hm ha hb hd9 (fun c => ?_) (fun c => ?_)
            · refine ⟨rfl, ?_⟩
              refine y1 _ (br_t rfl ?_)
              refine y2 _ (br_t rfl (br_f d0 (br_f d8' (br_f z ?_))))
              exact ll_mp40 hm hR ha hb hd9 (fun _ => ⟨rfl, J⟩) (fun w => absurd c w)
            · refine ⟨rfl, ?_⟩
              refine y1 _ (br_t rfl ?_)
              refine y2 _ (br_t rfl (br_f d0 (br_f d8' (br_f z ?_))))
              exact ll_mp40 hm hR ha hb hd9 (fun w => absurd w c) (fun _ => ⟨rfl, J⟩)
        · refine br_f d8 ?_
          refine y1 _ (br_t rfl ?_)
          exact y2 _ (br_t rfl (br_f d0 (br_t (Int32.not_le.mp d8) ⟨rfl, J⟩)))
    · refine x2 _ (br_t rfl ?_)
      refine y1 _ (br_t rfl ?_)
      exact y2 _ (br_f (by decide) ⟨rfl, J⟩)
  · refine x1 _ (br_t rfl ?_)
    exact y1 _ (br_f (by decide) ⟨rfl, J⟩)
end
