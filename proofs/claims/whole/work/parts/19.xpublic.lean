/-! X's public methods against the content m -/
def az_X (m : Nat → Option Int32) (u : SX) : Prop := ∃ (us dp pf ct : Nat → Nat) (sm : Nat → Int64) (fn tb cd cc tu tc : Nat → Nat) (ch : Nat → Nat → Nat) (rt : Nat),
  u = (nI rt, az_A us, az_A dp, az_A pf, az_A ct, sm, az_A fn, az_A tb, az_A cd, az_A cc, az_A tu, az_A tc) ∧ az_I (az_K m) m (az_C m 65536) us dp pf ct sm fn tb cd cc tu tc ch rt ∧ az_C m 65536 ≤ 64
theorem az_X_lt {m : Nat → Option Int32} {u : SX} (X : az_X m u) {k : Nat} (hk : az_K m k) : k < 65536 := by
  obtain ⟨us, dp, pf, ct, sm, fn, tb, cd, cc, tu, tc, ch, rt, rfl, ⟨t, _⟩, _⟩ := X
  exact t.2.2.2.2.2.2.2 k hk
theorem az_Xput {m : Nat → Option Int32} {u : SX} {post : Int32 → SX → Prop} {p0 p1 : Int32} (X : az_X m u) (hb : az_nk p0 → post (-1) u)
    (hs : ∀ x, x < 65536 → p0 = nI x → az_K m x → ∀ u', az_X (az_put m x (some p1)) u' → post 0 u')
    (hf : ∀ x, x < 65536 → p0 = nI x → ¬ az_K m x → az_C m 65536 = 64 → post (-2) u)
    (hn : ∀ x, x < 65536 → p0 = nI x → ¬ az_K m x → az_C m 65536 ≤ 63 → ∀ u', az_X (az_put m x (some p1)) u' → post 1 u') : wpX_put post u p0 p1 := by
  obtain ⟨us, dp, pf, ct, sm, fn, tb, cd, cc, tu, tc, ch, rt, rfl, I, hC⟩ := X
  have I' := I
  obtain ⟨t, hN, hL, hM, hu, hfl⟩ := I'
  have r8 := az_rt128 t
  have rC := (az_rootC t hN).1
  unfold wpX_put
  refine az_isKey (fun x hx e => br_f (by decide) ?_) (fun hk => br_t rfl (hb hk))
  subst e
  refine az_leafOf t hL hx (fun l l1 dl pl => ?_) (fun nk => br_t rfl ⟨vp_in_nI r8 (by omega), pk_lt (ct rt) 64 (fun z => ?_) (fun z => hf x hx rfl nk (by omega)) (az_at' rfl (by omega)) rfl⟩)
  · have b := t.1 l l1
    have kx : az_K m x := by rw [← pl]; exact t.2.1 l l1 dl
    obtain ⟨v, hv⟩ := az_K_some kx
    have lf := az_leaf t hN l1 dl (v := v) (by rw [pl]; exact hv)
    refine pk_eq l 0 (fun z => absurd z (by omega)) (fun _ => ⟨vp_in_nI b.2.1 (by omega), az_addOnPath t hL hx kx rfl (hs x hx rfl kx _ ?_)⟩) rfl rfl
    have ec : az_av (az_A ct) 0 (az_on us dp pf x) = az_A ct := az_av_nat (fun j _ => Int32.add_zero _) (fun j _ => rfl)
    rw [ec, nI_clamp (by omega)]
    refine ⟨us, dp, pf, ct, _, fn, tb, cd, cc, tu, tc, ch, rt, rfl, ⟨az_T_keys t (fun k => ?_), ?_, hL, by rw [az_C_set kx]; exact hM, hu, hfl⟩, by rw [az_C_set kx]; exact hC⟩
    · rw [az_K_put]
      exact ⟨fun w => w.elim id (fun y => by rw [y]; exact kx), Or.inl⟩
    · have n0 : ¬ az_on us dp pf x 0 = true := fun w => by have := (t.1 0 (az_on_iff.mp w).1).1; omega
      refine az_N_put t.1 hN (fun j hj => ?_) (fun j hj => ?_) hN.2.1 ?_
      · rw [az_c1_some (az_put_s m x (some p1)), az_c1_K kx]
        split <;> omega
      · rw [az_cq_some (az_put_s m x (some p1)), az_cq_some hv, lf.2, az_i64, ← Int64.ofInt_sub]
        unfold az_aL
        by_cases z : az_on us dp pf x j = true
        · rw [if_pos z, if_pos z]
        · rw [if_neg z, if_neg z]
          exact (Int64.add_zero _).symm
      · unfold az_aL
        rw [if_neg n0]; exact hN.2.2
  · refine az_addLeaf I rfl hx nk rfl (by omega) (fun us' dp' pf' ct' sm' fn' tb' cd' cc' tu' tc' ch' rt' I2 => ?_)
    obtain ⟨t', hN', hL', hM', hu', hf'⟩ := I2
    refine az_addOnPath t' hL' hx (Or.inr rfl) rfl (hn x hx rfl nk (by omega) _ ?_)
    have ec : az_av (az_A ct') 1 (az_on us' dp' pf' x) = az_A (fun j => if az_on us' dp' pf' x j = true then ct' j + 1 else ct' j) := by
      refine az_av_nat (fun j hj => ?_) (fun j hj => if_neg hj)
      rw [if_pos hj]
      exact nI_1 _
    have n0 : ¬ az_on us' dp' pf' x 0 = true := fun w => by have := (t'.1 0 (az_on_iff.mp w).1).1; omega
    rw [ec]
    refine ⟨us', dp', pf', _, _, fn', tb', cd', cc', tu', tc', ch', rt', rfl, ⟨az_T_keys t' (fun k => az_K_put k), ?_, hL', by rw [az_C_add hx nk]; exact hM', hu', hf'⟩, by rw [az_C_add hx nk]; omega⟩
    refine az_N_put t'.1 hN' (fun j hj => ?_) (fun j hj => ?_) ?_ ?_
    · rw [az_c1_some (az_put_s m x (some p1)), az_c1_none (az_nK nk)]
      by_cases z : az_on us' dp' pf' x j = true
      · rw [if_pos z, if_pos z]; omega
      · rw [if_neg z, if_neg z]; omega
    · rw [az_cq_some (az_put_s m x (some p1)), az_cq_none (az_nK nk), az_i64]
      unfold az_aL
      by_cases z : az_on us' dp' pf' x j = true
      · rw [if_pos z, if_pos z]
        congr 2
        omega
      · rw [if_neg z, if_neg z]
        exact (Int64.add_zero _).symm
    · rw [if_neg n0]; exact hN'.2.1
    · unfold az_aL
      rw [if_neg n0]; exact hN'.2.2
theorem az_Xremove {m : Nat → Option Int32} {u : SX} {post : Int32 → SX → Prop} {p0 : Int32} (X : az_X m u) (hb : az_nk p0 → post (-1) u)
    (h0 : ∀ x, x < 65536 → p0 = nI x → ¬ az_K m x → post (-3) u)
    (h1 : ∀ x, x < 65536 → p0 = nI x → az_K m x → ∀ u' (c : Nat), az_X (az_put m x none) u' → (c : Int) = az_C (az_put m x none) 65536 → post (nI c) u') : wpX_remove post u p0 := by
  obtain ⟨us, dp, pf, ct, sm, fn, tb, cd, cc, tu, tc, ch, rt, rfl, I, hC⟩ := X
  have I' := I
  obtain ⟨t, hN, hL, hM, hu, hfl⟩ := I'
  unfold wpX_remove
  refine az_isKey (fun x hx e => br_f (by decide) ?_) (fun hk => br_t rfl (hb hk))
  subst e
  refine az_leafOf t hL hx (fun l l1 dl pl => ?_) (fun nk => br_t rfl (h0 x hx rfl nk))
  have b := t.1 l l1
  have kx : az_K m x := by rw [← pl]; exact t.2.1 l l1 dl
  refine pk_eq l 0 (fun z => absurd z (by omega)) (fun _ => az_takeOut I rfl l1 dl rfl (fun us' dp' pf' ct' sm' fn' tb' cd' cc' tu' tc' ch' rt' I2 => ?_)) rfl rfl
  rw [pl, ← az_C_take hx kx] at I2
  have r8 := az_rt128 I2.1
  refine ⟨vp_in_nI r8 (by omega), ?_⟩
  rw [az_at' rfl (by omega)]
  exact h1 x hx rfl kx _ _ ⟨us', dp', pf', ct', sm', fn', tb', cd', cc', tu', tc', ch', rt', rfl, I2, by rw [az_C_take hx kx]; omega⟩ (az_rootC I2.1 I2.2.1).1
theorem az_rr_loop {m : Nat → Option Int32} {post : Int32 → SX → Prop} {a b fr tk : Nat} (hab : a ≤ b) (hb : b < 65536) (tk64 : tk ≤ 64)
    (h : ∀ u', az_X (az_cutout m a b) u' → post (nI tk) u') :
    ∀ d i (m' : Nat → Option Int32) (us dp pf ct : Nat → Nat) (sm : Nat → Int64) (fn tb cd cc tu tc : Nat → Nat) (ch : Nat → Nat → Nat) (rt : Nat), i + d = tk → az_I (az_K m') m' (az_C m' 65536) us dp pf ct sm fn tb cd cc tu tc ch rt → az_C m' 65536 ≤ 64 → az_less m m' a b → az_C m' a = fr → az_C m' (b + 1) - az_C m' a = d →
      wX_removeRange_41 post (nI fr) (nI tk) (d + 1) (nI i) (nI rt) (az_A us) (az_A dp) (az_A pf) (az_A ct) sm (az_A fn) (az_A tb) (az_A cd) (az_A cc) (az_A tu) (az_A tc) := by
  intro d
  induction d with
  | zero =>
    intro i m' us dp pf ct sm fn tb cd cc tu tc ch rt hi I hC hl h1 h2
    refine pk_le tk i (fun _ => h _ ?_) (fun z => absurd z (by omega))
    have e : m' = az_cutout m a b := by
      refine az_less_end hl (fun k k1 k2 k3 => ?_)
      have := az_C_gt k1 (show k < b + 1 by omega) k3
      omega
    rw [e] at I hC
    exact ⟨us, dp, pf, ct, sm, fn, tb, cd, cc, tu, tc, ch, rt, rfl, I, hC⟩
  | succ d ih =>
    intro i m' us dp pf ct sm fn tb cd cc tu tc ch rt hi I hC hl h1 h2
    have I' := I
    obtain ⟨t, hN, hL, hM, hu, hfl⟩ := I'
    have mo := az_C_mono m' (show b + 1 ≤ 65536 by omega)
    refine pk_le tk i (fun z => absurd z (by omega)) (fun _ => az_leafAtRank t hN hL hC rfl (by omega) (fun l l1 dl kl cl => ?_))
    have lb := t.1 l l1
    have ge : a ≤ pf l := by
      rcases Nat.lt_or_ge (pf l) a with w | w
      · have := az_C_gt (Nat.le_refl (pf l)) w kl; omega
      · exact w
    have le : pf l ≤ b := by
      rcases Nat.lt_or_ge b (pf l) with w | w
      · have := az_C_mono m' (show b + 1 ≤ pf l by omega); omega
      · exact w
    refine az_takeOut I rfl l1 dl rfl (fun us' dp' pf' ct' sm' fn' tb' cd' cc' tu' tc' ch' rt' I2 => nm_r (nI_1 i) ?_)
    rw [← az_C_take lb.2.2.2.1 kl] at I2
    refine ih (i + 1) _ us' dp' pf' ct' sm' fn' tb' cd' cc' tu' tc' ch' rt' (by omega) I2 (by rw [az_C_take lb.2.2.2.1 kl]; omega) (az_less_take hl ge le) ?_ ?_
    · rw [az_C_put, if_neg (by omega)]; omega
    · rw [az_C_put, az_C_put, if_pos (show pf l < b + 1 by omega), if_neg (show ¬ pf l < a by omega), az_c1_none (az_put_s m' (pf l) none), az_c1_K kl]; omega
theorem az_XremoveRange {m : Nat → Option Int32} {u : SX} {post : Int32 → SX → Prop} {p0 p1 : Int32} (X : az_X m u) (hb : (az_nk p0 ∨ az_nk p1) → post (-1) u)
    (h0 : ∀ a b, a < 65536 → b < 65536 → p0 = nI a → p1 = nI b → b < a → post 0 u)
    (h1 : ∀ a b, a ≤ b → b < 65536 → p0 = nI a → p1 = nI b → ∀ u' (c : Nat), az_X (az_cutout m a b) u' → (c : Int) = az_C m (b + 1) - az_C m a → post (nI c) u') : wpX_removeRange post u p0 p1 := by
  obtain ⟨us, dp, pf, ct, sm, fn, tb, cd, cc, tu, tc, ch, rt, rfl, I, hC⟩ := X
  have I' := I
  obtain ⟨t, hN, hL, hM, hu, hfl⟩ := I'
  unfold wpX_removeRange
  refine az_isKey (fun a ha ea => br_f (by decide) (az_isKey (fun b hb' eb => br_f (by decide) ?_) (fun hk => br_t rfl (hb (Or.inr hk))))) (fun hk => br_t rfl (hb (Or.inl hk)))
  subst ea eb
  refine pk_le a b (fun z => az_countBelow t hN hL (fun fr hfr => az_countUpTo t hN hL (fun up hup => ?_))) (fun z => h0 a b ha hb' rfl rfl z)
  rw [nI_toInt (by omega)] at hfr hup
  rw [az_cl_nat rfl (by omega)] at hfr
  rw [az_cl_nat (k := b + 1) (by omega) (by omega)] at hup
  have mo1 := az_C_mono m (show a ≤ b + 1 by omega)
  have mo2 := az_C_mono m (show b + 1 ≤ 65536 by omega)
  have nn := az_C_nn m a
  refine nm_r (pk_sub (by omega)) ⟨up - fr + 1, ?_⟩
  exact az_rr_loop z hb' (by omega) (fun u' X' => h1 a b z hb' rfl rfl u' _ X' (by omega)) (up - fr) 0 m us dp pf ct sm fn tb cd cc tu tc ch rt (by omega) I hC (az_less_refl m a b) hfr.symm (by omega)
theorem az_Xcontains {m : Nat → Option Int32} {u : SX} {post : Int32 → Prop} {p0 : Int32} (X : az_X m u) (h1 : ∀ x, x < 65536 → p0 = nI x → az_K m x → post 1) (h0 : (∀ x, x < 65536 → p0 = nI x → ¬ az_K m x) → post 0) : wpX_contains post u p0 := by
  obtain ⟨us, dp, pf, ct, sm, fn, tb, cd, cc, tu, tc, ch, rt, rfl, ⟨t, hN, hL, hM, hu, hfl⟩, hC⟩ := X
  unfold wpX_contains
  refine az_isKey (fun x hx e => br_f (by decide) ?_) (fun hk => br_t rfl (h0 (fun x hx e => absurd hk (by rw [e]; exact az_nk_of hx))))
  subst e
  refine az_leafOf t hL hx (fun l l1 dl pl => ?_) (fun nk => br_t rfl (h0 (fun y hy e => ?_)))
  · have b := t.1 l l1
    exact pk_eq l 0 (fun z => absurd z (by omega)) (fun _ => h1 x hx rfl (by rw [← pl]; exact t.2.1 l l1 dl)) rfl rfl
  · rw [nI_eq (by omega) (by omega)] at e
    rw [← e]; exact nk
theorem az_XvalueOf {m : Nat → Option Int32} {u : SX} {post : Int32 → Prop} {p0 : Int32} (X : az_X m u) (h1 : ∀ x v, x < 65536 → p0 = nI x → m x = some v → post v) (h0 : (∀ x, x < 65536 → p0 = nI x → ¬ az_K m x) → post 0) : wpX_valueOf post u p0 := by
  obtain ⟨us, dp, pf, ct, sm, fn, tb, cd, cc, tu, tc, ch, rt, rfl, ⟨t, hN, hL, hM, hu, hfl⟩, hC⟩ := X
  unfold wpX_valueOf
  refine az_isKey (fun x hx e => br_f (by decide) ?_) (fun hk => br_t rfl (h0 (fun x hx e => absurd hk (by rw [e]; exact az_nk_of hx))))
  subst e
  refine az_leafOf t hL hx (fun l l1 dl pl => ?_) (fun nk => ⟨vp_in_nI (n := 0) (by omega) (by omega), ?_⟩)
  · have b := t.1 l l1
    obtain ⟨v, hv⟩ := az_K_some (t.2.1 l l1 dl)
    refine ⟨vp_in_nI b.2.1 (by omega), ?_⟩
    rw [nI_clamp (by omega), (az_leaf t hN l1 dl hv).2, az_i32]
    exact h1 x v hx rfl (by rw [← pl]; exact hv)
  · have e : (sm (0 : Int32).toNatClampNeg).toInt32 = 0 := by
      rw [show (0 : Int32).toNatClampNeg = 0 from by decide, hN.2.2]
      decide
    rw [e]
    refine h0 (fun y hy e => ?_)
    rw [nI_eq (by omega) (by omega)] at e
    rw [← e]; exact nk
theorem az_Xsize {m : Nat → Option Int32} {u : SX} {post : Int32 → Prop} (X : az_X m u) (h : ∀ c : Nat, (c : Int) = az_C m 65536 → post (nI c)) : wpX_size post u := by
  obtain ⟨us, dp, pf, ct, sm, fn, tb, cd, cc, tu, tc, ch, rt, rfl, ⟨t, hN, hL, hM, hu, hfl⟩, hC⟩ := X
  have r8 := az_rt128 t
  refine ⟨vp_in_nI r8 (by omega), ?_⟩
  rw [az_at' rfl (by omega)]
  exact h _ (az_rootC t hN).1
theorem az_XatRank {m : Nat → Option Int32} {u : SX} {post : Int32 → Prop} {p0 : Int32} (X : az_X m u) (h : ∀ r, az_rX m p0.toInt r → post r) : wpX_atRank post u p0 := by
  obtain ⟨us, dp, pf, ct, sm, fn, tb, cd, cc, tu, tc, ch, rt, rfl, ⟨t, hN, hL, hM, hu, hfl⟩, hC⟩ := X
  have r8 := az_rt128 t
  have rC := (az_rootC t hN).1
  refine br_c (fun z => h _ (Or.inl ⟨rfl, Or.inl ((az_lt0 p0).mp z)⟩)) (fun z => ⟨vp_in_nI r8 (by omega), ?_⟩)
  obtain ⟨j, hj, rfl⟩ := nI_of z
  rw [nI_toInt hj] at h
  refine pk_lt j (ct rt) (fun y => ?_) (fun y => h _ (Or.inl ⟨rfl, Or.inr (by omega)⟩)) rfl (az_at' rfl (by omega))
  refine az_leafAtRank t hN hL hC rfl (by omega) (fun l l1 dl kl cl => ?_)
  have b := t.1 l l1
  refine ⟨vp_in_nI b.2.1 (by omega), ?_⟩
  rw [az_at' rfl (by omega)]
  exact h _ (Or.inr ⟨pf l, rfl, b.2.2.2.1, kl, cl⟩)
theorem az_Xabove {m : Nat → Option Int32} {u : SX} {post : Int32 → Prop} {p0 : Int32} (X : az_X m u) (h : ∀ r, az_rX m (az_C m (az_cl (p0.toInt + 1))) r → post r) : wpX_above post u p0 := by
  have X' := X
  obtain ⟨us, dp, pf, ct, sm, fn, tb, cd, cc, tu, tc, ch, rt, rfl, ⟨t, hN, hL, hM, hu, hfl⟩, hC⟩ := X
  unfold wpX_above
  refine az_countUpTo t hN hL (fun c hc => az_XatRank X' (fun r hr => h r ?_))
  have mo := az_C_mono m (az_cl_le (p0.toInt + 1))
  rw [nI_toInt (by omega), hc] at hr
  exact hr
theorem az_Xbelow {m : Nat → Option Int32} {u : SX} {post : Int32 → Prop} {p0 : Int32} (X : az_X m u) (h : ∀ r, az_rX m (az_C m (az_cl p0.toInt) - 1) r → post r) : wpX_below post u p0 := by
  have X' := X
  obtain ⟨us, dp, pf, ct, sm, fn, tb, cd, cc, tu, tc, ch, rt, rfl, ⟨t, hN, hL, hM, hu, hfl⟩, hC⟩ := X
  unfold wpX_below
  refine az_countBelow t hN hL (fun c hc => nm_e (az_XatRank X' (fun r hr => h r ?_)))
  have mo := az_C_mono m (az_cl_le p0.toInt)
  have e : (nI c - 1).toInt = (c : Int) - 1 := pk_sub_toInt (b := 1) (by omega) (by omega)
  rw [e, hc] at hr
  exact hr
theorem az_cl_mono {a b : Int} (h : a ≤ b) : az_cl a ≤ az_cl b := by
  unfold az_cl
  repeat' split
  all_goals omega
theorem az_XcountRange {m : Nat → Option Int32} {u : SX} {post : Int32 → Prop} {p0 p1 : Int32} (X : az_X m u) (h : ∀ c : Nat, p0.toInt ≤ p1.toInt → (c : Int) = az_C m (az_cl (p1.toInt + 1)) - az_C m (az_cl p0.toInt) → post (nI c)) (h0 : p1.toInt < p0.toInt → post 0) : wpX_countRange post u p0 p1 := by
  obtain ⟨us, dp, pf, ct, sm, fn, tb, cd, cc, tu, tc, ch, rt, rfl, ⟨t, hN, hL, hM, hu, hfl⟩, hC⟩ := X
  refine br_c (fun z => ?_) (fun z => h0 ?_)
  · rw [Int32.le_iff_toInt_le] at z
    refine az_countUpTo t hN hL (fun c hc => az_countBelow t hN hL (fun d hd => ?_))
    have mo := az_C_mono m (az_cl_mono (show p0.toInt ≤ p1.toInt + 1 by omega))
    rw [pk_sub (by omega)]
    exact h _ z (by omega)
  · rw [Int32.le_iff_toInt_le] at z
    omega
theorem az_XsharedDigits {m : Nat → Option Int32} {u : SX} {post : Int32 → Prop} {p0 : Int32} (X : az_X m u) (hb : az_nk p0 → post (-1)) (h0 : ∀ x, x < 65536 → p0 = nI x → (∀ k, ¬ az_K m k) → post (-3))
    (h1 : ∀ x r, x < 65536 → p0 = nI x → az_sd (az_K m) x r → post (nI r)) : wpX_sharedDigits post u p0 := by
  obtain ⟨us, dp, pf, ct, sm, fn, tb, cd, cc, tu, tc, ch, rt, rfl, ⟨t, hN, hL, hM, hu, hfl⟩, hC⟩ := X
  have r8 := az_rt128 t
  unfold wpX_sharedDigits
  refine az_isKey (fun x hx e => br_f (by decide) ?_) (fun hk => br_t rfl (hb hk))
  subst e
  refine pk_eq rt 0 (fun z => h0 x hx rfl (t.2.2.2.2.2.2.1.1 z)) (fun z => ⟨5, ?_⟩) rfl rfl
  exact az_sd_loop t hL hx (fun r hr => h1 x r hx rfl hr) 4 0 rt 0 rfl (Nat.zero_le _) (az_D_0 t z hx)
theorem az_XsumUnder {m : Nat → Option Int32} {u : SX} {post : Int64 → Prop} {p0 p1 : Int32} (X : az_X m u) (hb : (az_nk p0 ∨ p1.toInt < 0 ∨ 4 < p1.toInt) → post 0)
    (h1 : ∀ x d, x < 65536 → d ≤ 4 → p0 = nI x → p1 = nI d → post (Int64.ofInt (az_Q m (az_cut x d + az_w d) - az_Q m (az_cut x d)))) : wpX_sumUnder post u p0 p1 := by
  obtain ⟨us, dp, pf, ct, sm, fn, tb, cd, cc, tu, tc, ch, rt, rfl, ⟨t, hN, hL, hM, hu, hfl⟩, hC⟩ := X
  unfold wpX_sumUnder
  refine az_isKey (fun x hx e => br_f (by decide) ?_) (fun hk => br_t rfl (hb (Or.inl hk)))
  refine br_c (fun z => hb (Or.inr (Or.inl ((az_lt0 p1).mp z)))) (fun z => ?_)
  obtain ⟨d, hd, rfl⟩ := nI_of z
  subst e
  refine pk_le d 4 (fun y => ⟨5, ?_⟩) (fun y => hb (Or.inr (Or.inr ?_)))
  · exact az_su_loop t hN hL hx y (h1 x d hx y rfl rfl) 4 0 rt rfl (fun _ => Nat.zero_le _) (az_E_0 t x d)
  · rw [nI_toInt hd]; omega
