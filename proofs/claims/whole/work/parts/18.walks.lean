/-! addLeaf's walk, takeOut -/
section
variable {m : Nat → Option Int32} {us dp pf ct : Nat → Nat} {sm : Nat → Int64} {fn tb cd cc tu tc : Nat → Nat} {ch : Nat → Nat → Nat} {rt : Nat} {n : Int} {x l : Nat}
theorem az_al_loop {post : SX → Prop} (t : az_T (az_K m) us dp pf ch rt) (hN : az_N m us dp pf ct sm) (hL : az_L (az_f us l 1) fn tb cd cc tu tc ch) (hM : az_M us dp fn n) (hu : ∀ i, us i ≤ 1) (hf : ∀ i, us i = 1 → dp i = 4 → fn i = 0)
    (hx : x < 65536) (nx : ¬ az_K m x) (hl : 0 < l ∧ l < 128) (ul : us l = 0) (dl : dp l = 4) (pl : pf l = x) (cl : ct l = 0) (sl : sm l = 0) (fl : fn l = 0) (en : n = az_C m 65536) (n63 : n ≤ 63)
    (h : ∀ (us' dp' pf' ct' : Nat → Nat) (sm' : Nat → Int64) (fn' tb' cd' cc' tu' tc' : Nat → Nat) (ch' : Nat → Nat → Nat) (rt' : Nat), az_I (fun k => az_K m k ∨ k = x) m (n + 1) us' dp' pf' ct' sm' fn' tb' cd' cc' tu' tc' ch' rt' → post (nI rt', az_A us', az_A dp', az_A pf', az_A ct', sm', az_A fn', az_A tb', az_A cd', az_A cc', az_A tu', az_A tc')) :
    ∀ d lv p q, lv + d = 4 → az_at us dp pf ch rt x p q → (q ≠ 0 → lv ≤ dp q) →
      wX_addLeaf_18 post (nI x) (nI l) (nI rt) (az_A (az_f us l 1)) (az_A dp) (az_A pf) (az_A ct) sm (az_A fn) (az_A tb) (az_A cd) (az_A cc) (az_A tu) (az_A tc) (d + 1) (nI p) (nI q) (nI lv) := by
  have v1 : ∀ i, us i = 1 → az_f us l 1 i = 1 := by
    intro i hi
    rw [az_f_n (fun z => by rw [z, ul] at hi; omega)]; exact hi
  have hq1 : ∀ p q, az_at us dp pf ch rt x p q → q ≠ 0 → us q = 1 := by
    intro p q ha q0
    rcases ha with ⟨_, z⟩ | ⟨z, z2, _, z4⟩
    · rw [z] at q0 ⊢; exact az_rootu t q0
    · rw [z4] at q0 ⊢; exact (t.2.2.1 p _ z z2 (az_dg_lt _ _) q0).1
  have no4 : ∀ q, us q = 1 → dp q = 4 → ¬ az_un (dp q) (pf q) x := by
    intro q q1 q4 hu
    rw [q4] at hu
    have e := az_un4.mp hu
    exact nx (by rw [e]; exact t.2.1 q q1 q4)
  intro d
  induction d with
  | zero =>
    intro lv p q hlv ha hq
    refine pk_le 4 lv (fun _ => az_al57 t hN hL hM hu hf hx nx hl ul dl pl cl sl fl en n63 ha ?_ h) (fun z => absurd z (by omega))
    by_cases q0 : q = 0
    · exact Or.inl q0
    · have q1 := hq1 p q ha q0
      have b := t.1 q q1
      have := hq q0
      exact Or.inr (no4 q q1 (by omega))
  | succ d ih =>
    intro lv p q hlv ha hq
    have q128 : q < 128 := by
      by_cases q0 : q = 0
      · omega
      · exact (t.1 q (hq1 p q ha q0)).2.1
    refine pk_le 4 lv (fun z => absurd z (by omega)) (fun _ => pk_eq q 0 (fun q0 => az_al57 t hN hL hM hu hf hx nx hl ul dl pl cl sl fl en n63 ha (Or.inl q0) h) (fun q0 => ?_) rfl rfl)
    have q1 := hq1 p q ha q0
    have b := t.1 q q1
    have hlq := hq q0
    refine az_isUnder rfl rfl q128 b.2.2.1 hx b.2.2.2.1 (fun hun => br_f (by decide) ?_) (fun hun => br_t rfl (az_al57 t hN hL hM hu hf hx nx hl ul dl pl cl sl fl en n63 ha (Or.inr hun) h))
    refine az_childToward rfl rfl (hL.1 q (v1 q q1)).2.2.2 q128 b.2.2.1 hx (fun hd => nm_r (nI_1 lv) (ih (lv + 1) q _ (by omega) (Or.inr ⟨q1, hd, hun, rfl⟩) (fun w => ?_))) (fun hd => absurd hun (no4 q q1 hd))
    have c := t.2.2.1 q _ q1 hd (az_dg_lt _ _) w
    omega
theorem az_addLeaf {post : SX → Prop} {p : Int32} (I : az_I (az_K m) m n us dp pf ct sm fn tb cd cc tu tc ch rt) (hp : p = nI x) (hx : x < 65536) (nx : ¬ az_K m x) (en : n = az_C m 65536) (n63 : n ≤ 63)
    (h : ∀ (us' dp' pf' ct' : Nat → Nat) (sm' : Nat → Int64) (fn' tb' cd' cc' tu' tc' : Nat → Nat) (ch' : Nat → Nat → Nat) (rt' : Nat), az_I (fun k => az_K m k ∨ k = x) m (n + 1) us' dp' pf' ct' sm' fn' tb' cd' cc' tu' tc' ch' rt' → post (nI rt', az_A us', az_A dp', az_A pf', az_A ct', sm', az_A fn', az_A tb', az_A cd', az_A cc', az_A tu', az_A tc')) :
    wpX_addLeaf post (nI rt, az_A us, az_A dp, az_A pf, az_A ct, sm, az_A fn, az_A tb, az_A cd, az_A cc, az_A tu, az_A tc) p := by
  subst hp
  obtain ⟨t, hN, hL, hM, hu, hf⟩ := I
  have free : ∃ j, 1 ≤ j ∧ j < 128 ∧ us j = 0 := by
    refine az_S_free hu ?_
    have e := az_used t hL hM hu n63
    omega
  unfold wpX_addLeaf
  refine az_newNode rfl (d := 4) rfl hx (by omega) hu free (fun l l1 l2 l3 => ⟨5, ?_⟩)
  have hne : ∀ i, us i = 1 → i ≠ l := by intro i hi z; rw [z, l3] at hi; omega
  have T1 : az_T (az_K m) us (az_f dp l 4) (az_f pf l (az_cut x 4)) (az_z ch l) rt := az_T_congr t (fun i hi => az_f_n (hne i hi)) (fun i hi => az_f_n (hne i hi)) (fun i hi c => az_z_n (hne i hi))
  have N1 : az_N m us (az_f dp l 4) (az_f pf l (az_cut x 4)) (az_f ct l 0) (vp_updL sm l 0) := az_N_congr hN (fun i hi => ⟨hi, az_f_n (hne i hi), az_f_n (hne i hi), az_f_n (hne i hi), pk_uLn (hne i hi)⟩) (by rw [az_f_n (by omega)]; exact hN.2.1) (by rw [pk_uLn (by omega)]; exact hN.2.2)
  have M1 : az_M us (az_f dp l 4) (az_f fn l 0) n := az_M_congr hM (fun i hi => ⟨az_f_n (hne i hi), az_f_n (hne i hi)⟩)
  have F1 : ∀ i, us i = 1 → az_f dp l 4 i = 4 → az_f fn l 0 i = 0 := by
    intro i hi hd
    rw [az_f_n (hne i hi)] at hd ⊢
    exact hf i hi hd
  exact az_al_loop T1 N1 (az_L_new hL l3 l2) M1 hu F1 hx nx ⟨by omega, l2⟩ l3 (az_f_s _ _ _) (by rw [az_f_s, az_cut4]) (az_f_s _ _ _) pk_uLs (az_f_s _ _ _) en n63 h 4 0 0 rt rfl (Or.inl ⟨rfl, rfl⟩) (fun _ => Nat.zero_le _)
theorem az_to68 {post : SX → Prop} {p g : Nat} (t : az_T (az_K m) us dp pf ch rt) (hN : az_N (az_put m x none) us dp pf ct sm) (hL : az_L us fn tb cd cc tu tc ch) (hM : az_M us dp fn n) (hu : ∀ i, us i ≤ 1) (hf : ∀ i, us i = 1 → dp i = 4 → fn i = 0)
    (l1 : us l = 1) (dl : dp l = 4) (pl : pf l = x) (hx : x < 65536) (en : n = az_C m 65536)
    (ha : az_at us dp pf ch rt x p l) (hg : p ≠ 0 → az_at us dp pf ch rt x g p)
    (h : ∀ (us' dp' pf' ct' : Nat → Nat) (sm' : Nat → Int64) (fn' tb' cd' cc' tu' tc' : Nat → Nat) (ch' : Nat → Nat → Nat) (rt' : Nat), az_I (az_K (az_put m x none)) (az_put m x none) (n - 1) us' dp' pf' ct' sm' fn' tb' cd' cc' tu' tc' ch' rt' → post (nI rt', az_A us', az_A dp', az_A pf', az_A ct', sm', az_A fn', az_A tb', az_A cd', az_A cc', az_A tu', az_A tc')) :
    wX_takeOut_68 post (nI l) (nI x) (nI g) (nI p) (nI rt) (az_A us) (az_A dp) (az_A pf) (az_A ct) sm (az_A fn) (az_A tb) (az_A cd) (az_A cc) (az_A tu) (az_A tc) := by
  have bl := t.1 l l1
  have p128 : p < 128 := by
    rcases ha with ⟨z, _⟩ | ⟨z, _⟩
    · omega
    · exact (t.1 p z).2.1
  have tl : tb l = 0 := az_leaf_tb hL l1 (hf l l1 dl)
  refine ⟨vp_in_nI bl.2.1 (by omega), nm_r (az_updA rfl (by omega) az_b0) (pk_eq p 0 (fun p0 => ?_) (fun p0 => ?_) rfl rfl)⟩
  · have er : rt = l := by
      rcases ha with ⟨_, z⟩ | ⟨z, _⟩
      · exact z.symm
      · rw [p0] at z; have := (t.1 0 z).1; omega
    exact h _ _ _ _ _ _ _ _ _ _ _ _ _ (az_finTA t hN hL hM hu hf l1 dl pl er)
  · obtain ⟨p1, p2, p3, p4⟩ : us p = 1 ∧ dp p < 4 ∧ az_un (dp p) (pf p) x ∧ l = ch p (az_dg x (dp p)) := ha.elim (fun z => absurd z.1 p0) id
    have hg' := hg p0
    have lp : p ≠ l := by intro z; rw [z, dl] at p2; omega
    have n2 := az_n_two t p1 p2
    have f2 := az_fn2 t hL p1 p2
    have f16 := az_fn16 hL p1
    have L1 := az_L_less hL tl
    have v1 : az_f us l 0 p = 1 := by rw [az_f_n lp]; exact p1
    have i8 : vp_in (nI p) 128 := vp_in_nI p128 (by omega)
    refine az_dropChild rfl rfl L1 v1 p2 hx (by rw [← p4]; omega) (fun tb' cd' cc' tu' tc' L' => ⟨i8, pk_eq (fn p - 1) 1 (fun e1 => ?_) (fun e1 => ?_) ?_ rfl⟩)
    · have fp : az_f fn p (fn p - 1) p = 1 := by rw [az_f_s]; exact e1
      have l' := L'.1 p v1
      have t0 : tb' p = 0 := by
        rcases l'.2.2.2 with ⟨w, _⟩ | ⟨_, w⟩
        · exact w
        · omega
      obtain ⟨c1, c2, c3, c4⟩ : az_cel p 1 cd' cc' (az_h ch p (az_dg x (dp p)) 0 p) := by
        rcases l'.2.2.2 with ⟨_, w⟩ | ⟨_, w⟩
        · rw [fp] at w; exact w
        · omega
      obtain ⟨o3, o2, o1⟩ := c2 0 (by omega)
      rw [Nat.add_zero] at o3 o2 o1
      have o4 : cd' (p * 4) ≠ az_dg x (dp p) := by
        intro w
        rw [w, az_h_s] at o1
        exact o2 o1.symm
      have o1' : ch p (cd' (p * 4)) = cc' (p * 4) := by
        rw [az_h_n (fun w => o4 w.2)] at o1
        exact o1
      have o5 : ∀ c, c < 16 → c ≠ az_dg x (dp p) → ch p c ≠ 0 → c = cd' (p * 4) := by
        intro c hc w1 w2
        obtain ⟨e, he, hce⟩ := c4 c hc (by rw [az_h_n (fun w => w1 w.2)]; exact w2)
        have e0 : e = 0 := by omega
        rw [e0, Nat.add_zero] at hce
        exact hce.symm
      have ou := t.2.2.1 p _ p1 p2 o3 (by rw [o1']; exact o2)
      rw [o1'] at ou
      have bo := t.1 _ ou.1
      have ix : nI p * 4 = nI (p * 4) := pk_mul p 4
      refine ⟨pk_in (p * 4) 512 (by omega) ix, nm_r (az_at' ix (by omega)) ?_⟩
      have fin : ∀ (cc5 tc5 : Nat → Nat) (ch5 : Nat → Nat → Nat) (rt5 : Nat), az_L (az_f us l 0) (az_f fn p (fn p - 1)) tb' cd' cc5 tu' tc5 ch5 →
          (us g = 1 → ch5 g (az_dg x (dp g)) = cc' (p * 4)) → (∀ j c, us j = 1 → j ≠ p → ¬ (j = g ∧ c = az_dg x (dp g)) → ch5 j c = ch j c) → (g = 0 → rt5 = cc' (p * 4)) → (g ≠ 0 → rt5 = rt) →
          vp_in (nI p) 128 ∧ ∀ a, a = upd (az_A (az_f us l 0)) (nI p).toNatClampNeg (vp_nar .boolean 0) → post (nI rt5, a, az_A dp, az_A pf, az_A ct, sm, az_A (az_f fn p (fn p - 1)), az_A tb', az_A cd', az_A cc5, az_A tu', az_A tc5) := by
        intro cc5 tc5 ch5 rt5 L5 k1 k2 k6 k7
        refine ⟨i8, nm_r (az_updA rfl (by omega) az_b0) (h _ _ _ _ _ _ _ _ _ _ _ _ _ (az_finTC (fn := fn) t hN hM hu hf l1 dl pl p1 p2 p3 p4.symm (by omega) hg' o1' o2 o3 o4 o5 (az_L_less L5 t0) (by omega) (fun i hi => az_f_n hi) k1 k2 k6 k7))⟩
      by_cases g0 : g = 0
      · subst g0
        have nu0 : us 0 ≠ 1 := fun w => by have := (t.1 0 w).1; omega
        exact az_putInPlace0 rfl (fin cc' tc' _ _ L' (fun w => absurd w nu0) (fun j c hj w _ => az_h_n (fun y => w y.1)) (fun _ => rfl) (fun w => absurd rfl w))
      · obtain ⟨g1, g2, g3, g4⟩ : us g = 1 ∧ dp g < 4 ∧ az_un (dp g) (pf g) x ∧ p = ch g (az_dg x (dp g)) := hg'.elim (fun z => absurd z.1 g0) id
        have gu := t.2.2.1 g _ g1 g2 (az_dg_lt _ _) (by rw [← g4]; exact p0)
        rw [← g4] at gu
        have gp : g ≠ p := by intro z; rw [z] at gu; omega
        have gl : g ≠ l := by intro z; rw [z, dl] at g2; omega
        have dge : az_dg (pf (cc' (p * 4))) (dp g) = az_dg x (dp g) := az_un_dg gu.2.1 (by omega) (az_un_trans (az_un_symm p3) ou.2.2.1)
        refine az_putInPlace rfl rfl L' (by rw [az_f_n gl]; exact g1) g0 g2 bo.2.1 o2 bo.2.2.2.1 ?_ (fun cc5 tc5 L5 => ?_)
        · rw [dge, az_h_n (fun w => gp w.1), ← g4]; exact p0
        · rw [dge] at L5
          exact fin cc5 tc5 _ rt L5 (fun _ => az_h_s _ _ _ _) (fun j c hj w1 w2 => by rw [az_h_n w2, az_h_n (fun y => w1 y.1)]) (fun w => absurd w g0) (fun _ => rfl)
    · exact h _ _ _ _ _ _ _ _ _ _ _ _ _ (az_finTB t hN hM hu hf l1 dl pl p1 p2 p3 p4.symm (by omega) L' rfl (by omega))
    · rw [az_at' rfl (by omega), az_f_s]
theorem az_to_loop {post : SX → Prop} (t : az_T (az_K m) us dp pf ch rt) (hN : az_N (az_put m x none) us dp pf ct sm) (hL : az_L us fn tb cd cc tu tc ch) (hM : az_M us dp fn n) (hu : ∀ i, us i ≤ 1) (hf : ∀ i, us i = 1 → dp i = 4 → fn i = 0)
    (l1 : us l = 1) (dl : dp l = 4) (pl : pf l = x) (hx : x < 65536) (en : n = az_C m 65536)
    (h : ∀ (us' dp' pf' ct' : Nat → Nat) (sm' : Nat → Int64) (fn' tb' cd' cc' tu' tc' : Nat → Nat) (ch' : Nat → Nat → Nat) (rt' : Nat), az_I (az_K (az_put m x none)) (az_put m x none) (n - 1) us' dp' pf' ct' sm' fn' tb' cd' cc' tu' tc' ch' rt' → post (nI rt', az_A us', az_A dp', az_A pf', az_A ct', sm', az_A fn', az_A tb', az_A cd', az_A cc', az_A tu', az_A tc')) :
    ∀ d lv g p q, lv + d = 4 → us q = 1 → az_un (dp q) (pf q) x → lv ≤ dp q → az_at us dp pf ch rt x p q → (p ≠ 0 → az_at us dp pf ch rt x g p) →
      wX_takeOut_34 post (nI l) (nI x) (nI rt) (az_A us) (az_A dp) (az_A pf) (az_A ct) sm (az_A fn) (az_A tb) (az_A cd) (az_A cc) (az_A tu) (az_A tc) (d + 1) (nI g) (nI p) (nI q) (nI lv) := by
  have ulx : az_un (dp l) (pf l) x := by rw [dl, pl]; exact az_un_refl _ _
  have bl := t.1 l l1
  intro d
  induction d with
  | zero =>
    intro lv g p q hlv q1 hun hlq ha hg
    have b := t.1 q q1
    have e := az_same t q1 l1 hun ulx (by omega)
    rw [e] at ha
    exact pk_le 4 lv (fun _ => az_to68 t hN hL hM hu hf l1 dl pl hx en ha hg h) (fun z => absurd z (by omega))
  | succ d ih =>
    intro lv g p q hlv q1 hun hlq ha hg
    have b := t.1 q q1
    refine pk_le 4 lv (fun z => absurd z (by omega)) (fun _ => pk_eq q l (fun e => ?_) (fun ne => ?_) rfl rfl)
    · rw [e] at ha
      exact az_to68 t hN hL hM hu hf l1 dl pl hx en ha hg h
    · have d4 : dp q < 4 := by
        rcases Nat.lt_or_ge (dp q) 4 with w | w
        · exact w
        · exact absurd (az_same t q1 l1 hun ulx (by omega)) ne
      have pa := az_path t q1 l1 hun ulx (by omega)
      refine az_childToward rfl rfl (hL.1 q q1).2.2.2 b.2.1 b.2.2.1 hx (fun _ => nm_r (nI_1 lv) (ih (lv + 1) p q _ (by omega) pa.2.1 pa.2.2.2.2 (by omega) (Or.inr ⟨q1, d4, hun, rfl⟩) (fun _ => ha))) (fun w => by omega)
theorem az_takeOut {post : SX → Prop} {p : Int32} (I : az_I (az_K m) m n us dp pf ct sm fn tb cd cc tu tc ch rt) (hp : p = nI l) (l1 : us l = 1) (dl : dp l = 4) (en : n = az_C m 65536)
    (h : ∀ (us' dp' pf' ct' : Nat → Nat) (sm' : Nat → Int64) (fn' tb' cd' cc' tu' tc' : Nat → Nat) (ch' : Nat → Nat → Nat) (rt' : Nat), az_I (az_K (az_put m (pf l) none)) (az_put m (pf l) none) (n - 1) us' dp' pf' ct' sm' fn' tb' cd' cc' tu' tc' ch' rt' → post (nI rt', az_A us', az_A dp', az_A pf', az_A ct', sm', az_A fn', az_A tb', az_A cd', az_A cc', az_A tu', az_A tc')) :
    wpX_takeOut post (nI rt, az_A us, az_A dp, az_A pf, az_A ct, sm, az_A fn, az_A tb, az_A cd, az_A cc, az_A tu, az_A tc) p := by
  subst hp
  obtain ⟨t, hN, hL, hM, hu, hf⟩ := I
  have b := t.1 l l1
  have kx := t.2.1 l l1 dl
  obtain ⟨v, hv⟩ := az_K_some kx
  have lv := az_leaf t hN l1 dl hv
  have i8 : vp_in (nI l) 128 := vp_in_nI b.2.1 (by omega)
  refine ⟨i8, nm_r (az_at' rfl (by omega)) ⟨i8, az_addOnPath t hL b.2.2.2.1 kx rfl ⟨5, ?_⟩⟩⟩
  have on1 : ∀ j, az_on us dp pf (pf l) j = true → 1 ≤ ct j := by
    intro j hj
    obtain ⟨uj, hun⟩ := az_on_iff.mp hj
    have bj := t.1 j uj
    have iv := (az_un_iv bj.2.2.1 bj.2.2.2.2).mp hun
    have e := (hN.1 j uj).1
    have g := az_C_gt iv.1 iv.2 kx
    omega
  have ec : az_av (az_A ct) (-1) (az_on us dp pf (pf l)) = az_A (fun j => if az_on us dp pf (pf l) j = true then ct j - 1 else ct j) := by
    refine az_av_nat (fun j hj => ?_) (fun j hj => if_neg hj)
    rw [if_pos hj]
    have e1 := on1 j hj
    obtain ⟨c, hc⟩ : ∃ c, ct j = c + 1 := ⟨ct j - 1, by omega⟩
    rw [hc, pk_m1]
    rfl
  rw [ec, nI_clamp (by omega)]
  have n0 : ¬ az_on us dp pf (pf l) 0 = true := fun w => by have := (t.1 0 (az_on_iff.mp w).1).1; omega
  have hN' : az_N (az_put m (pf l) none) us dp pf (fun j => if az_on us dp pf (pf l) j = true then ct j - 1 else ct j) (az_aL sm (-(sm l)) (az_on us dp pf (pf l))) := by
    refine az_N_put t.1 hN (fun j hj => ?_) (fun j hj => ?_) ?_ ?_
    · rw [az_c1_none (az_put_s m (pf l) none), az_c1_some hv]
      by_cases z : az_on us dp pf (pf l) j = true
      · have := on1 j z
        rw [if_pos z, if_pos z]; omega
      · rw [if_neg z, if_neg z]; omega
    · rw [az_cq_none (az_put_s m (pf l) none), az_cq_some hv]
      unfold az_aL
      by_cases z : az_on us dp pf (pf l) j = true
      · rw [if_pos z, if_pos z, lv.2, ← Int64.ofInt_neg]
        congr 2
        omega
      · rw [if_neg z, if_neg z]
        exact (Int64.add_zero _).symm
    · rw [if_neg n0]; exact hN.2.1
    · unfold az_aL
      rw [if_neg n0]; exact hN.2.2
  have r := az_rootk t kx
  exact az_to_loop t hN' hL hM hu hf l1 dl rfl b.2.2.2.1 en h 4 0 0 0 rt rfl r.2.1 r.2.2 (Nat.zero_le _) (Or.inl ⟨rfl, rfl⟩) (fun w => absurd rfl w)
end
