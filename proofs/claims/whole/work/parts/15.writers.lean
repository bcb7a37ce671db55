/-! addOnPath, unusedNode, newNode, unusedTable, moveToTable -/
theorem az_b1 : vp_nar .boolean 1 = nI 1 := by rfl
theorem az_b0 : vp_nar .boolean 0 = nI 0 := by rfl
section
variable {R : Int32} {U D P C T CC V TC F : Nat → Int32} {S : Nat → Int64} {m : Nat → Option Int32} {us dp pf ct fn tb cd cc tu tc : Nat → Nat} {sm : Nat → Int64} {ch : Nat → Nat → Nat} {rt : Nat} {K : Nat → Prop}
theorem az_aop_loop {post : SX → Prop} {x : Nat} {a : Nat → Int32} {s : Nat → Int64} {k : Int32} {w : Int64} (t : az_T K us dp pf ch rt) (hL : az_L us fn tb cd cc tu tc ch) (hx : x < 65536) (kx : K x)
    (h : post (R, U, az_A dp, P, az_av a k (az_on us dp pf x), az_aL s w (az_on us dp pf x), az_A fn, az_A tb, az_A cd, az_A cc, V, az_A tc)) :
    ∀ d lv q (B : Nat → Bool), lv + d = 5 → ((q = 0 ∧ ∀ j, B j = true ↔ az_on us dp pf x j = true) ∨ (us q = 1 ∧ lv ≤ dp q ∧ az_un (dp q) (pf q) x ∧ ∀ j, B j = true ↔ az_dn us dp pf x (dp q) j = true)) →
      wX_addOnPath_9 post (nI x) k w R (d + 1) (nI q) (nI lv) U (az_A dp) P (az_av a k B) (az_aL s w B) (az_A fn) (az_A tb) (az_A cd) (az_A cc) V (az_A tc) := by
  intro d
  induction d with
  | zero =>
    intro lv q B hl hq
    refine pk_lt 4 lv (fun _ => ?_) (fun z => absurd z (by omega))
    rcases hq with ⟨_, hB⟩ | ⟨u, hlq, _⟩
    · rw [az_av_e hB, az_aL_e hB]; exact h
    · have := (t.1 q u).2.2.1; omega
  | succ d ih =>
    intro lv q B hl hq
    have q128 : q < 128 := by
      rcases hq with ⟨z, _⟩ | ⟨u, _⟩
      · omega
      · exact (t.1 q u).2.1
    refine pk_lt 4 lv (fun z => absurd z (by omega)) (fun _ => pk_eq q 0 (fun z => ?_) (fun z => ?_) rfl rfl)
    · rcases hq with ⟨_, hB⟩ | ⟨u, _⟩
      · rw [az_av_e hB, az_aL_e hB]; exact h
      · have := (t.1 q u).1; omega
    · obtain ⟨u, hlq, hu, hB⟩ : us q = 1 ∧ lv ≤ dp q ∧ az_un (dp q) (pf q) x ∧ ∀ j, B j = true ↔ az_dn us dp pf x (dp q) j = true := hq.elim (fun y => absurd y.1 z) id
      have b := t.1 q u
      have hs : ∀ j, (decide (j = q) || B j) = true ↔ (j = q ∨ B j = true) := by
        intro j
        rw [Bool.or_eq_true, decide_eq_true_iff]
      have hnq : ¬ B q = true := fun y => az_dn_self us dp pf x q ((hB q).mp y)
      refine ⟨vp_in_nI q128 (by omega), vp_in_nI q128 (by omega), nm_r (e' := az_av a k (fun j => decide (j = q) || B j)) ?_ ⟨vp_in_nI q128 (by omega), vp_in_nI q128 (by omega), nm_r (e' := az_aL s w (fun j => decide (j = q) || B j)) ?_ ?_⟩⟩
      · rw [nI_clamp (by omega)]; exact az_av_step hs hnq
      · rw [nI_clamp (by omega)]; exact az_aL_step hs hnq
      · refine az_childToward rfl rfl (hL.1 q u).2.2.2 q128 b.2.2.1 hx (fun hd => nm_r (nI_1 lv) (ih (lv + 1) _ _ (by omega) (Or.inr ?_))) (fun hd => nm_r (nI_1 lv) (ih (lv + 1) 0 _ (by omega) (Or.inl ⟨rfl, fun j => ?_⟩)))
        · have e := t.2.2.2.1 q x u hd kx hu
          have c := t.2.2.1 q _ u hd (az_dg_lt _ _) e.1
          refine ⟨c.1, by omega, e.2, fun j => ?_⟩
          rw [hs j, hB j, az_dn_step t u hu hd e.1 j]
        · rw [hs j, hB j, az_dn_last t u hu hd j]
theorem az_addOnPath {post : SX → Prop} {x : Nat} {p : Int32} {a : Nat → Int32} {s : Nat → Int64} {k : Int32} {w : Int64} (t : az_T K us dp pf ch rt) (hL : az_L us fn tb cd cc tu tc ch) (hx : x < 65536) (kx : K x) (hp : p = nI x)
    (h : post (nI rt, U, az_A dp, P, az_av a k (az_on us dp pf x), az_aL s w (az_on us dp pf x), az_A fn, az_A tb, az_A cd, az_A cc, V, az_A tc)) :
    wpX_addOnPath post (nI rt, U, az_A dp, P, a, s, az_A fn, az_A tb, az_A cd, az_A cc, V, az_A tc) p k w := by
  subst hp
  have r := az_rootk t kx
  have e := az_aop_loop (R := nI rt) (U := U) (P := P) (V := V) t hL hx kx h 5 0 rt (az_dn us dp pf x (dp rt)) rfl (Or.inr ⟨r.2.1, Nat.zero_le _, r.2.2, fun j => Iff.rfl⟩)
  rw [az_av_0 (az_dn_root t x), az_aL_0 (az_dn_root t x)] at e
  exact ⟨6, e⟩
theorem az_un_loop {post : Int32 → Prop} (hu : ∀ i, us i ≤ 1) (hex : ∃ j, 1 ≤ j ∧ j < 128 ∧ us j = 0) (h : ∀ j, 1 ≤ j → j < 128 → us j = 0 → post (nI j)) :
    ∀ d i, i + d = 128 → 1 ≤ i → (∀ i', 1 ≤ i' → i' < i → us i' ≠ 0) → wX_unusedNode_2 post R (az_A us) D P C S F T CC V TC U (d + 1) (nI i) := by
  intro d
  induction d with
  | zero =>
    intro i hi h1 hno
    obtain ⟨j, j1, j2, j3⟩ := hex
    exact absurd j3 (hno j j1 (by omega))
  | succ d ih =>
    intro i hi h1 hno
    have u := hu i
    refine pk_le 128 i (fun z => absurd z (by omega)) (fun _ => ⟨vp_in_nI (by omega) (by omega), pk_eq (us i) 0 (fun z => h i h1 (by omega) z) (fun z => nm_r (nI_1 i) (ih (i + 1) (by omega) (by omega) (fun i' a b => ?_))) (az_at' rfl (by omega)) rfl⟩)
    by_cases y : i' = i
    · rw [y]; exact z
    · exact hno i' a (by omega)
theorem az_unusedNode {post : Int32 → Prop} (hu : ∀ i, us i ≤ 1) (hex : ∃ j, 1 ≤ j ∧ j < 128 ∧ us j = 0) (h : ∀ j, 1 ≤ j → j < 128 → us j = 0 → post (nI j)) :
    wpX_unusedNode post (R, az_A us, D, P, C, S, F, T, CC, V, TC, U) :=
  ⟨128, az_un_loop hu hex h 127 1 rfl (Nat.le_refl 1) (fun i' a b => by omega)⟩
theorem az_newNode {post : Int32 → SX → Prop} {p0 p1 : Int32} {x d : Nat} (hp0 : p0 = nI x) (hp1 : p1 = nI d) (hx : x < 65536) (hd : d ≤ 4) (hu : ∀ i, us i ≤ 1) (hex : ∃ j, 1 ≤ j ∧ j < 128 ∧ us j = 0)
    (h : ∀ j, 1 ≤ j → j < 128 → us j = 0 → post (nI j) (R, az_A (az_f us j 1), az_A (az_f dp j d), az_A (az_f pf j (az_cut x d)), az_A (az_f ct j 0), vp_updL sm j 0, az_A (az_f fn j 0), az_A (az_f tb j 0), CC, V, TC, U)) :
    wpX_newNode post (R, az_A us, az_A dp, az_A pf, az_A ct, sm, az_A fn, az_A tb, CC, V, TC, U) p0 p1 := by
  subst hp0 hp1
  refine az_unusedNode hu hex (fun j j1 j2 j3 => ?_)
  have i8 : vp_in (nI j) 128 := vp_in_nI j2 (by omega)
  refine nm_e ⟨i8, nm_r (az_updA rfl (by omega) az_b1) ⟨i8, nm_r (az_updA rfl (by omega) rfl) ⟨i8, nm_r (az_updA rfl (by omega) (az_cutX hx hd)) ⟨i8, nm_r (az_updA (v := 0) rfl (by omega) rfl) ⟨i8, nm_r (e' := vp_updL sm j 0) ?_ ⟨i8, nm_r (az_updA (v := 0) rfl (by omega) rfl) ⟨i8, nm_r (az_updA (v := 0) rfl (by omega) rfl) (h j j1 j2 j3)⟩⟩⟩⟩⟩⟩⟩
  rw [nI_clamp (by omega)]
theorem az_ut_loop {post : Int32 → Prop} (hu : ∀ i, tu i ≤ 1) (hex : ∃ j, 1 ≤ j ∧ j < 16 ∧ tu j = 0) (h : ∀ j, 1 ≤ j → j < 16 → tu j = 0 → post (nI j)) :
    ∀ d i, i + d = 16 → 1 ≤ i → (∀ i', 1 ≤ i' → i' < i → tu i' ≠ 0) → wX_unusedTable_2 post R U D P C S F T CC V (az_A tu) TC (d + 1) (nI i) := by
  intro d
  induction d with
  | zero =>
    intro i hi h1 hno
    obtain ⟨j, j1, j2, j3⟩ := hex
    exact absurd j3 (hno j j1 (by omega))
  | succ d ih =>
    intro i hi h1 hno
    have u := hu i
    refine pk_le 16 i (fun z => absurd z (by omega)) (fun _ => ⟨vp_in_nI (by omega) (by omega), pk_eq (tu i) 0 (fun z => h i h1 (by omega) z) (fun z => nm_r (nI_1 i) (ih (i + 1) (by omega) (by omega) (fun i' a b => ?_))) (az_at' rfl (by omega)) rfl⟩)
    by_cases y : i' = i
    · rw [y]; exact z
    · exact hno i' a (by omega)
theorem az_unusedTable {post : Int32 → Prop} (hu : ∀ i, tu i ≤ 1) (hex : ∃ j, 1 ≤ j ∧ j < 16 ∧ tu j = 0) (h : ∀ j, 1 ≤ j → j < 16 → tu j = 0 → post (nI j)) :
    wpX_unusedTable post (R, U, D, P, C, S, F, T, CC, V, az_A tu, TC) :=
  ⟨16, az_ut_loop hu hex h 15 1 rfl (Nat.le_refl 1) (fun i' a b => by omega)⟩
theorem az_mt2_loop {post : SX → Prop} {i t : Nat} (hi : i < 128) (t2 : t < 16) (hc : ∀ e, e < 4 → cd (i * 4 + e) < 16) (hdist : ∀ e e', e < 4 → e' < 4 → cd (i * 4 + e) = cd (i * 4 + e') → e = e')
    (h : ∀ tc' : Nat → Nat, (∀ j, (j < t * 16 ∨ t * 16 + 16 ≤ j) → tc' j = tc j) → (∀ c, c < 16 → (∀ e, e < 4 → cd (i * 4 + e) ≠ c) → tc' (t * 16 + c) = 0) → (∀ e, e < 4 → tc' (t * 16 + cd (i * 4 + e)) = cc (i * 4 + e)) → post (R, U, D, P, C, S, F, az_A (az_f tb i t), az_A cd, az_A cc, V, az_A tc')) :
    ∀ d e (tcx : Nat → Nat), e + d = 4 → (∀ j, (j < t * 16 ∨ t * 16 + 16 ≤ j) → tcx j = tc j) → (∀ c, c < 16 → (∀ e', e' < e → cd (i * 4 + e') ≠ c) → tcx (t * 16 + c) = 0) → (∀ e', e' < e → tcx (t * 16 + cd (i * 4 + e')) = cc (i * 4 + e')) →
      wX_moveToTable_51 post (nI i) (nI t) (nI (t * 16)) (nI (i * 4)) R (d + 1) (nI e) U D P C S F (az_A tb) (az_A cd) (az_A cc) V (az_A tcx) := by
  intro d
  induction d with
  | zero =>
    intro e tcx he h1 h2 h3
    have e4 : e = 4 := by omega
    subst e4
    exact pk_le 4 4 (fun _ => ⟨vp_in_nI hi (by omega), nm_r (az_updA rfl (by omega) rfl) (h tcx h1 h2 h3)⟩) (fun z => absurd z (by omega))
  | succ d ih =>
    intro e tcx he h1 h2 h3
    have hce := hc e (by omega)
    have ix : nI (i * 4) + nI e = nI (i * 4 + e) := nI_add _ _
    have iy : nI (t * 16) + az_A cd (nI (i * 4) + nI e).toNatClampNeg = nI (t * 16 + cd (i * 4 + e)) := by
      rw [az_at' ix (by omega), nI_add]
    have i5 : vp_in (nI (i * 4) + nI e) 512 := pk_in (i * 4 + e) 512 (by omega) ix
    refine pk_le 4 e (fun z => absurd z (by omega)) (fun _ => ⟨i5, i5, pk_in (t * 16 + cd (i * 4 + e)) 256 (by omega) iy, nm_r (az_updA iy (by omega) (az_at' ix (by omega))) (nm_r (nI_1 e) (ih (e + 1) _ (by omega) ?_ ?_ ?_))⟩)
    · intro j hj
      rw [az_f_n (by omega)]; exact h1 j hj
    · intro c c16 hno
      have ne := hno e (by omega)
      rw [az_f_n (by omega)]
      exact h2 c c16 (fun e' he' => hno e' (by omega))
    · intro e' he'
      by_cases z : e' = e
      · rw [z, az_f_s]
      · have ne : cd (i * 4 + e') ≠ cd (i * 4 + e) := fun w => z (hdist e' e (by omega) (by omega) w)
        rw [az_f_n (by omega)]
        exact h3 e' (by omega)
theorem az_mt1_loop {post : SX → Prop} {i t : Nat} (hi : i < 128) (t2 : t < 16) (hc : ∀ e, e < 4 → cd (i * 4 + e) < 16) (hdist : ∀ e e', e < 4 → e' < 4 → cd (i * 4 + e) = cd (i * 4 + e') → e = e')
    (h : ∀ tc' : Nat → Nat, (∀ j, (j < t * 16 ∨ t * 16 + 16 ≤ j) → tc' j = tc j) → (∀ c, c < 16 → (∀ e, e < 4 → cd (i * 4 + e) ≠ c) → tc' (t * 16 + c) = 0) → (∀ e, e < 4 → tc' (t * 16 + cd (i * 4 + e)) = cc (i * 4 + e)) → post (R, U, D, P, C, S, F, az_A (az_f tb i t), az_A cd, az_A cc, V, az_A tc')) :
    ∀ d g (tcx : Nat → Nat), g + d = 16 → (∀ j, (j < t * 16 ∨ t * 16 + 16 ≤ j) → tcx j = tc j) → (∀ c, c < g → tcx (t * 16 + c) = 0) →
      wX_moveToTable_20 post (nI i) (nI t) (nI (t * 16)) R (d + 1) (nI g) U D P C S F (az_A tb) (az_A cd) (az_A cc) V (az_A tcx) := by
  intro d
  induction d with
  | zero =>
    intro g tcx hg h1 h2
    have e4 : g = 16 := by omega
    subst e4
    refine pk_le 16 16 (fun _ => nm_r (pk_mul i 4) ⟨5, ?_⟩) (fun z => absurd z (by omega))
    exact az_mt2_loop hi t2 hc hdist h 4 0 tcx rfl h1 (fun c hc _ => h2 c hc) (fun e' he' => absurd he' (Nat.not_lt_zero _))
  | succ d ih =>
    intro g tcx hg h1 h2
    have ix : nI (t * 16) + nI g = nI (t * 16 + g) := nI_add _ _
    refine pk_le 16 g (fun z => absurd z (by omega)) (fun _ => ⟨pk_in (t * 16 + g) 256 (by omega) ix, nm_r (az_updA (v := 0) ix (by omega) rfl) (nm_r (nI_1 g) (ih (g + 1) _ (by omega) ?_ ?_))⟩)
    · intro j hj
      rw [az_f_n (by omega)]; exact h1 j hj
    · intro c hc'
      by_cases z : c = g
      · rw [z, az_f_s]
      · rw [az_f_n (by omega)]; exact h2 c (by omega)
theorem az_moveToTable {post : SX → Prop} {p : Int32} {i : Nat} {h : Nat → Nat} (hp : p = nI i) (hi : i < 128) (hcel : az_cel i 4 cd cc h) (hu : ∀ t, tu t ≤ 1) (hex : ∃ t, 1 ≤ t ∧ t < 16 ∧ tu t = 0)
    (hpost : ∀ (t : Nat) (tc' : Nat → Nat), 1 ≤ t → t < 16 → tu t = 0 → (∀ c, c < 16 → tc' (t * 16 + c) = h c) → (∀ s c, s ≠ t → c < 16 → tc' (s * 16 + c) = tc (s * 16 + c)) → post (R, U, D, P, C, S, F, az_A (az_f tb i t), az_A cd, az_A cc, az_A (az_f tu t 1), az_A tc')) :
    wpX_moveToTable post (R, U, D, P, C, S, F, az_A tb, az_A cd, az_A cc, az_A tu, az_A tc) p := by
  subst hp
  refine az_unusedTable hu hex (fun t t1 t2 t3 => ⟨vp_in_nI t2 (by omega), nm_r (az_updA rfl (by omega) az_b1) (nm_r (pk_mul t 16) ⟨17, ?_⟩)⟩)
  obtain ⟨_, c2, c3, c4⟩ := hcel
  refine az_mt1_loop hi t2 (fun e he => (c2 e he).1) c3 (fun tc' h1 h2 h3 => hpost t tc' t1 t2 t3 ?_ ?_) 16 0 tc rfl (fun j _ => rfl) (fun c hc => absurd hc (Nat.not_lt_zero _))
  · intro c hc
    by_cases z : h c = 0
    · rw [z]
      refine h2 c hc (fun e he w => ?_)
      have q := c2 e he
      rw [w, z] at q
      exact q.2.1 q.2.2.symm
    · obtain ⟨e, he, hce⟩ := c4 c hc z
      have q := c2 e he
      have q3 := h3 e he
      rw [hce] at q3 q
      rw [q3, ← q.2.2]
  · intro s c hs hc
    exact h1 _ (by omega)
end
