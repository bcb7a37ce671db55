/-! addChild, putInPlace, moveToCells, dropChild -/
theorem az_fan_le (h : Nat → Nat) : az_fan h ≤ 16 := by
  have e : az_fan h ≤ az_S (fun _ => 1) 16 := az_S_le (fun i _ => by split <;> omega)
  rw [az_S_ones] at e
  exact e
theorem az_fn16 {us fn tb cd cc tu tc : Nat → Nat} {ch : Nat → Nat → Nat} (hL : az_L us fn tb cd cc tu tc ch) {i : Nat} (u : us i = 1) : fn i ≤ 16 := by
  have e := (hL.1 i u).2.2.1
  have := az_fan_le (ch i)
  omega
theorem az_tb16 {us fn tb cd cc tu tc : Nat → Nat} {ch : Nat → Nat → Nat} (hL : az_L us fn tb cd cc tu tc ch) {i : Nat} (u : us i = 1) : tb i < 16 := by
  rcases (hL.1 i u).2.2.2 with ⟨z, _⟩ | ⟨⟨_, z, _⟩, _⟩
  · omega
  · exact z
section
variable {R : Int32} {U D P C T CC V TC F : Nat → Int32} {S : Nat → Int64} {us dp pf ct fn tb cd cc tu tc : Nat → Nat} {sm : Nat → Int64} {ch : Nat → Nat → Nat}
theorem az_ac97 {post : SX → Prop} {i : Nat} (hi : i < 128) (h : post (R, U, D, P, C, S, az_A (az_f fn i (fn i + 1)), T, CC, V, TC, F)) : wX_addChild_97 post (nI i) R U D P C S (az_A fn) T CC V TC F := by
  refine ⟨vp_in_nI hi (by omega), vp_in_nI hi (by omega), nm_r (az_updA rfl (by omega) ?_) h⟩
  rw [az_at' rfl (by omega), nI_1]
/-- cells or table as they are -/
theorem az_ac24 {post : SX → Prop} {i j : Nat} (hL : az_L us fn tb cd cc tu tc ch) (u : us i = 1) (hd : dp i < 4) (hj : j < 128) (j0 : j ≠ 0) (hp : pf j < 65536) (h0 : ch i (az_dg (pf j) (dp i)) = 0) (hf : tb i = 0 → fn i < 4)
    (h : ∀ tb' cd' cc' tu' tc' : Nat → Nat, az_L us (az_f fn i (fn i + 1)) tb' cd' cc' tu' tc' (az_h ch i (az_dg (pf j) (dp i)) j) → post (R, U, az_A dp, az_A pf, C, S, az_A (az_f fn i (fn i + 1)), az_A tb', az_A cd', az_A cc', az_A tu', az_A tc')) :
    wX_addChild_24 post (nI i) (nI j) R U (az_A dp) (az_A pf) C S (az_A fn) (az_A tb) (az_A cd) (az_A cc) (az_A tu) (az_A tc) := by
  have l := hL.1 i u
  have i8 : vp_in (nI i) 128 := vp_in_nI l.1 (by omega)
  have t16 := az_tb16 hL u
  have f16 := az_fn16 hL u
  have g16 := az_dg_lt (pf j) (dp i)
  refine ⟨vp_in_nI hj (by omega), i8, az_digitAt (az_at' rfl (by omega)) (az_at' rfl (by omega)) hp hd ⟨i8, pk_eq (tb i) 0 (fun z => ?_) (fun z => ?_) (az_at' rfl (by omega)) rfl⟩⟩
  · have f4 := hf z
    have ix : nI i * 4 + az_A fn (nI i).toNatClampNeg = nI (i * 4 + fn i) := by
      rw [az_at' rfl (by omega), show nI i * 4 = nI (i * 4) from pk_mul i 4, nI_add]
    have i5 : vp_in (nI (i * 4 + fn i)) 512 := vp_in_nI (by omega) (by omega)
    refine ⟨i8, nm_r ix ⟨i5, nm_r (az_updA rfl (by omega) rfl) ⟨i5, nm_r (az_updA rfl (by omega) rfl) (az_ac97 l.1 (h _ _ _ _ _ ?_))⟩⟩⟩
    exact az_L_ca hL u z f4 g16 h0 j0 hj
  · have ix : az_A tb (nI i).toNatClampNeg * 16 + nI (az_dg (pf j) (dp i)) = nI (tb i * 16 + az_dg (pf j) (dp i)) := by
      rw [az_at' rfl (by omega), show nI (tb i) * 16 = nI (tb i * 16) from pk_mul (tb i) 16, nI_add]
    have l5 : 5 ≤ fn i := by
      rcases l.2.2.2 with ⟨w, _⟩ | ⟨_, w⟩
      · exact absurd w z
      · exact w
    refine ⟨i8, pk_in (tb i * 16 + az_dg (pf j) (dp i)) 256 (by omega) ix, nm_r (az_updA ix (by omega) rfl) (az_ac97 l.1 (h _ _ _ _ _ ?_))⟩
    refine az_L_ts hL u z g16 hj ?_ (by omega)
    rw [az_fan_add g16 h0 j0]
    have := l.2.2.1
    omega
theorem az_addChild {post : SX → Prop} {a b : Int32} {i j : Nat} (ha : a = nI i) (hb : b = nI j) (hL : az_L us fn tb cd cc tu tc ch) (u : us i = 1) (hd : dp i < 4) (hj : j < 128) (j0 : j ≠ 0) (hp : pf j < 65536) (h0 : ch i (az_dg (pf j) (dp i)) = 0)
    (hex : tb i = 0 → fn i = 4 → ∃ t, 1 ≤ t ∧ t < 16 ∧ tu t = 0)
    (h : ∀ tb' cd' cc' tu' tc' : Nat → Nat, az_L us (az_f fn i (fn i + 1)) tb' cd' cc' tu' tc' (az_h ch i (az_dg (pf j) (dp i)) j) → post (R, U, az_A dp, az_A pf, C, S, az_A (az_f fn i (fn i + 1)), az_A tb', az_A cd', az_A cc', az_A tu', az_A tc')) :
    wpX_addChild post (R, U, az_A dp, az_A pf, C, S, az_A fn, az_A tb, az_A cd, az_A cc, az_A tu, az_A tc) a b := by
  subst ha hb
  have l := hL.1 i u
  have i8 : vp_in (nI i) 128 := vp_in_nI l.1 (by omega)
  have t16 := az_tb16 hL u
  have f16 := az_fn16 hL u
  have g16 := az_dg_lt (pf j) (dp i)
  refine ⟨i8, pk_eq (tb i) 0 (fun z => ⟨i8, pk_eq (fn i) 4 (fun y => ?_) (fun y => ?_) (az_at' rfl (by omega)) rfl⟩) (fun z => az_ac24 hL u hd hj j0 hp h0 (fun w => absurd w z) h) (az_at' rfl (by omega)) rfl⟩
  · have hcel : az_cel i 4 cd cc (ch i) := by
      rcases l.2.2.2 with ⟨_, w⟩ | ⟨⟨w, _⟩, _⟩
      · rw [y] at w; exact w
      · omega
    refine az_moveToTable rfl l.1 hcel hL.2.2.2.1 (hex z y) (fun t tc' t1 t2 t3 e1 e2 => ?_)
    have ix : az_A (az_f tb i t) (nI i).toNatClampNeg * 16 + nI (az_dg (pf j) (dp i)) = nI (t * 16 + az_dg (pf j) (dp i)) := by
      rw [az_at' rfl (by omega), az_f_s, show nI t * 16 = nI (t * 16) from pk_mul t 16, nI_add]
    refine ⟨vp_in_nI hj (by omega), i8, az_digitAt (az_at' rfl (by omega)) (az_at' rfl (by omega)) hp hd ⟨i8, pk_eq t 0 (fun w => absurd w (by omega)) (fun _ => ⟨i8, pk_in (t * 16 + az_dg (pf j) (dp i)) 256 (by omega) ix, nm_r (az_updA ix (by omega) rfl) (az_ac97 l.1 (h _ _ _ _ _ ?_))⟩) ?_ rfl⟩⟩
    · have e := az_L_mt (tc' := az_f tc' (t * 16 + az_dg (pf j) (dp i)) j) hL u z y g16 h0 j0 hj (by omega) t2 t3 ?_ ?_
      · rw [y]; exact e
      · intro d hd'
        by_cases w : d = az_dg (pf j) (dp i)
        · rw [w, az_f_s, az_h_s]
        · rw [az_f_n (by omega), az_h_n (fun q => w q.2)]; exact e1 d hd'
      · intro s d hs hd'
        rw [az_f_n (by omega)]; exact e2 s d hs hd'
    · rw [az_at' rfl (by omega), az_f_s]
  · refine az_ac24 hL u hd hj j0 hp h0 (fun _ => ?_) h
    rcases l.2.2.2 with ⟨_, w, _⟩ | ⟨⟨w, _⟩, _⟩
    · omega
    · omega
/-- the cell of a child that is there -/
theorem az_putInPlace0 {post : SX → Prop} {a b : Int32} (ha : a = nI 0) (h : post (b, U, D, P, C, S, F, T, CC, V, TC, az_A tc)) : wpX_putInPlace post (R, U, D, P, C, S, F, T, CC, V, TC, az_A tc) a b := by
  subst ha
  exact br_t rfl h
theorem az_putInPlace {post : SX → Prop} {a b : Int32} {p j : Nat} (ha : a = nI p) (hb : b = nI j) (hL : az_L us fn tb cd cc tu tc ch) (u : us p = 1) (p0 : p ≠ 0) (hd : dp p < 4) (hj : j < 128) (j0 : j ≠ 0) (hp : pf j < 65536) (h0 : ch p (az_dg (pf j) (dp p)) ≠ 0)
    (h : ∀ cc' tc' : Nat → Nat, az_L us fn tb cd cc' tu tc' (az_h ch p (az_dg (pf j) (dp p)) j) → post (R, U, az_A dp, az_A pf, C, S, az_A fn, az_A tb, az_A cd, az_A cc', az_A tu, az_A tc')) :
    wpX_putInPlace post (R, U, az_A dp, az_A pf, C, S, az_A fn, az_A tb, az_A cd, az_A cc, az_A tu, az_A tc) a b := by
  subst ha hb
  have l := hL.1 p u
  have i8 : vp_in (nI p) 128 := vp_in_nI l.1 (by omega)
  have t16 := az_tb16 hL u
  have f16 := az_fn16 hL u
  have g16 := az_dg_lt (pf j) (dp p)
  refine pk_eq p 0 (fun z => absurd z p0) (fun _ => ⟨vp_in_nI hj (by omega), i8, az_digitAt (az_at' rfl (by omega)) (az_at' rfl (by omega)) hp hd ⟨i8, pk_eq (tb p) 0 (fun z => ?_) (fun z => ?_) (az_at' rfl (by omega)) rfl⟩⟩) rfl rfl
  · obtain ⟨c1, c2, c3, c4⟩ : az_cel p (fn p) cd cc (ch p) := by
      rcases l.2.2.2 with ⟨_, w⟩ | ⟨⟨w, _⟩, _⟩
      · exact w
      · omega
    refine az_cellOf rfl rfl l.1 g16 c1 (fun e he => (c2 e he).1) (fun e he hce => ?_) (fun hno => ?_)
    · refine br_f (az_ne1 (by omega)) ⟨vp_in_nI (by omega) (by omega), nm_r (az_updA rfl (by omega) rfl) (h _ _ ?_)⟩
      exact az_L_cs hL u z he hce j0 hj
    · obtain ⟨e, he, hce⟩ := c4 _ g16 h0
      exact absurd hce (hno e he)
  · have ix : az_A tb (nI p).toNatClampNeg * 16 + nI (az_dg (pf j) (dp p)) = nI (tb p * 16 + az_dg (pf j) (dp p)) := by
      rw [az_at' rfl (by omega), show nI (tb p) * 16 = nI (tb p * 16) from pk_mul (tb p) 16, nI_add]
    have l5 : 5 ≤ fn p := by
      rcases l.2.2.2 with ⟨w, _⟩ | ⟨_, w⟩
      · exact absurd w z
      · exact w
    refine ⟨i8, pk_in (tb p * 16 + az_dg (pf j) (dp p)) 256 (by omega) ix, nm_r (az_updA ix (by omega) rfl) (h _ _ ?_)⟩
    have e := az_L_ts (f := fn p) hL u z g16 hj (by rw [az_fan_rep h0 j0]; exact l.2.2.1) l5
    have ef : az_f fn p (fn p) = fn := by
      funext i
      by_cases w : i = p
      · rw [w, az_f_s]
      · exact az_f_n w
    rw [ef] at e
    exact e
/-- the first f cells hold the children with digits below g -/
def az_celp (i g f : Nat) (cd cc h : Nat → Nat) : Prop :=
  f ≤ 4 ∧ (∀ e, e < f → cd (i * 4 + e) < g ∧ cc (i * 4 + e) ≠ 0 ∧ h (cd (i * 4 + e)) = cc (i * 4 + e)) ∧ (∀ e e', e < f → e' < f → cd (i * 4 + e) = cd (i * 4 + e') → e = e') ∧ (∀ c, c < g → h c ≠ 0 → ∃ e, e < f ∧ cd (i * 4 + e) = c) ∧ (f : Int) = az_S (fun c => if h c = 0 then 0 else 1) g
theorem az_celp_end {i g f : Nat} {h : Nat → Nat} (hg : g ≤ 16) (hf : az_fan h = 4) (hc : az_celp i g f cd cc h) (he : g = 16 ∨ 4 ≤ f) : az_cel i 4 cd cc h := by
  obtain ⟨c1, c2, c3, c4, c5⟩ := hc
  have nn : ∀ k, (0 : Int) ≤ (fun c => if h c = 0 then (0 : Int) else 1) k := fun k => by dsimp only; split <;> omega
  have mono := az_S_mono nn hg
  unfold az_fan at hf
  have f4 : f = 4 := by
    rcases he with z | z
    · rw [z] at c5; omega
    · omega
  subst f4
  refine ⟨c1, fun e he => ⟨by have := (c2 e he).1; omega, (c2 e he).2⟩, c3, fun c hc h0 => ?_⟩
  by_cases z : c < g
  · exact c4 c z h0
  · have gt := az_S_gt nn (show g ≤ c by omega) hc (by rw [if_neg h0]; omega)
    omega
theorem az_mc_loop {post : SX → Prop} {i t : Nat} {h : Nat → Nat} (hi : i < 128) (t2 : t < 16) (hf : az_fan h = 4) (h128 : ∀ c, h c < 128) (htc : ∀ c, c < 16 → tc (t * 16 + c) = h c)
    (hpost : ∀ cd' cc' : Nat → Nat, az_cel i 4 cd' cc' h → (∀ i' e, i' ≠ i → e < 4 → cd' (i' * 4 + e) = cd (i' * 4 + e) ∧ cc' (i' * 4 + e) = cc (i' * 4 + e)) → post (R, U, D, P, C, S, F, az_A (az_f tb i 0), az_A cd', az_A cc', az_A (az_f tu t 0), az_A tc)) :
    ∀ d g f (cdx ccx : Nat → Nat), g + d = 16 → az_celp i g f cdx ccx h → (∀ i' e, i' ≠ i → e < 4 → cdx (i' * 4 + e) = cd (i' * 4 + e) ∧ ccx (i' * 4 + e) = cc (i' * 4 + e)) →
      wX_moveToCells_19 post (nI i) (nI t) (nI (i * 4 + 4)) R (d + 1) (nI (i * 4 + f)) (nI g) U D P C S F (az_A tb) (az_A cdx) (az_A ccx) (az_A tu) (az_A tc) := by
  have fin : ∀ g f (cdx ccx : Nat → Nat), g ≤ 16 → az_celp i g f cdx ccx h → (∀ i' e, i' ≠ i → e < 4 → cdx (i' * 4 + e) = cd (i' * 4 + e) ∧ ccx (i' * 4 + e) = cc (i' * 4 + e)) → (g = 16 ∨ 4 ≤ f) → wX_moveToCells_76 post (nI i) (nI t) R U D P C S F (az_A tb) (az_A cdx) (az_A ccx) (az_A tu) (az_A tc) := by
    intro g f cdx ccx hg hc ho he
    exact ⟨vp_in_nI t2 (by omega), nm_r (az_updA rfl (by omega) az_b0) ⟨vp_in_nI hi (by omega), nm_r (az_updA (v := 0) rfl (by omega) rfl) (hpost cdx ccx (az_celp_end hg hf hc he) ho)⟩⟩
  intro d
  induction d with
  | zero =>
    intro g f cdx ccx hg hc ho
    exact pk_le 16 g (fun _ => fin g f cdx ccx (by omega) hc ho (Or.inl (by omega))) (fun z => absurd z (by omega))
  | succ d ih =>
    intro g f cdx ccx hg hc ho
    have f4 := hc.1
    have ix : nI t * 16 + nI g = nI (t * 16 + g) := by
      rw [show nI t * 16 = nI (t * 16) from pk_mul t 16, nI_add]
    have hb := h128 g
    refine pk_le 16 g (fun z => absurd z (by omega)) (fun _ => pk_le (i * 4 + 4) (i * 4 + f) (fun z => fin g f cdx ccx (by omega) hc ho (Or.inr (by omega))) (fun z => ⟨pk_in (t * 16 + g) 256 (by omega) ix, nm_r (e' := nI (h g)) ?_ ?_⟩) rfl rfl)
    · rw [az_at' ix (by omega), htc g (by omega)]
    · obtain ⟨c1, c2, c3, c4, c5⟩ := hc
      refine pk_eq (h g) 0 (fun y => ?_) (fun y => ?_) rfl rfl
      · refine nm_r (nI_1 g) (ih (g + 1) f cdx ccx (by omega) ⟨c1, fun e he => ⟨by have := (c2 e he).1; omega, (c2 e he).2⟩, c3, fun c hc' h0 => ?_, ?_⟩ ho)
        · by_cases w : c = g
          · rw [w] at h0; exact absurd y h0
          · exact c4 c (by omega) h0
        · rw [az_S_succ, if_pos y]; omega
      · have i5 : vp_in (nI (i * 4 + f)) 512 := vp_in_nI (by omega) (by omega)
        refine ⟨i5, nm_r (az_updA rfl (by omega) rfl) ⟨i5, nm_r (az_updA rfl (by omega) rfl) (nm_r (nI_1 (i * 4 + f)) (nm_r (nI_1 g) (ih (g + 1) (f + 1) _ _ (by omega) ⟨by omega, ?_, ?_, ?_, ?_⟩ ?_)))⟩⟩
        · intro e he
          by_cases w : e = f
          · rw [w, az_f_s, az_f_s]
            exact ⟨by omega, y, rfl⟩
          · rw [az_f_n (by omega), az_f_n (by omega)]
            have q := c2 e (by omega)
            exact ⟨by omega, q.2⟩
        · intro e e' he he' hee
          by_cases w : e = f
          · by_cases v : e' = f
            · rw [w, v]
            · rw [w, az_f_s, az_f_n (by omega)] at hee
              have := (c2 e' (by omega)).1
              omega
          · by_cases v : e' = f
            · rw [v, az_f_s, az_f_n (by omega)] at hee
              have := (c2 e (by omega)).1
              omega
            · rw [az_f_n (by omega), az_f_n (by omega)] at hee
              exact c3 e e' (by omega) (by omega) hee
        · intro c hc' h0
          by_cases w : c = g
          · exact ⟨f, by omega, by rw [az_f_s, w]⟩
          · obtain ⟨e, he, hce⟩ := c4 c (by omega) h0
            exact ⟨e, by omega, by rw [az_f_n (by omega)]; exact hce⟩
        · rw [az_S_succ, if_neg y]; omega
        · intro i' e hi' he
          rw [az_f_n (by omega), az_f_n (by omega)]
          exact ho i' e hi' he
theorem az_moveToCells {post : SX → Prop} {p : Int32} {i t : Nat} {h : Nat → Nat} (hp : p = nI i) (hi : i < 128) (ht : tb i = t) (t2 : t < 16) (hf : az_fan h = 4) (h128 : ∀ c, h c < 128) (htc : ∀ c, c < 16 → tc (t * 16 + c) = h c)
    (hpost : ∀ cd' cc' : Nat → Nat, az_cel i 4 cd' cc' h → (∀ i' e, i' ≠ i → e < 4 → cd' (i' * 4 + e) = cd (i' * 4 + e) ∧ cc' (i' * 4 + e) = cc (i' * 4 + e)) → post (R, U, D, P, C, S, F, az_A (az_f tb i 0), az_A cd', az_A cc', az_A (az_f tu t 0), az_A tc)) :
    wpX_moveToCells post (R, U, D, P, C, S, F, az_A tb, az_A cd, az_A cc, az_A tu, az_A tc) p := by
  subst hp
  refine ⟨vp_in_nI hi (by omega), nm_r (e' := nI t) ?_ (nm_r (pk_mul i 4) (nm_r (nI_add (i * 4) 4) ⟨17, ?_⟩))⟩
  · rw [az_at' rfl (by omega), ht]
  · refine az_mc_loop hi t2 hf h128 htc hpost 16 0 0 cd cc rfl ⟨by omega, fun e he => absurd he (Nat.not_lt_zero _), fun e e' he => absurd he (Nat.not_lt_zero _), fun c hc => absurd hc (Nat.not_lt_zero _), rfl⟩ (fun i' e _ _ => ⟨rfl, rfl⟩)
theorem az_dropChild {post : SX → Prop} {a b : Int32} {i x : Nat} (ha : a = nI i) (hb : b = nI x) (hL : az_L us fn tb cd cc tu tc ch) (u : us i = 1) (hd : dp i < 4) (hx : x < 65536) (h0 : ch i (az_dg x (dp i)) ≠ 0)
    (h : ∀ tb' cd' cc' tu' tc' : Nat → Nat, az_L us (az_f fn i (fn i - 1)) tb' cd' cc' tu' tc' (az_h ch i (az_dg x (dp i)) 0) → post (R, U, az_A dp, P, C, S, az_A (az_f fn i (fn i - 1)), az_A tb', az_A cd', az_A cc', az_A tu', az_A tc')) :
    wpX_dropChild post (R, U, az_A dp, P, C, S, az_A fn, az_A tb, az_A cd, az_A cc, az_A tu, az_A tc) a b := by
  subst ha hb
  have l := hL.1 i u
  have i8 : vp_in (nI i) 128 := vp_in_nI l.1 (by omega)
  have t16 := az_tb16 hL u
  have f16 := az_fn16 hL u
  have g16 := az_dg_lt x (dp i)
  refine ⟨i8, az_digitAt rfl (az_at' rfl (by omega)) hx hd ⟨i8, pk_eq (tb i) 0 (fun z => ?_) (fun z => ?_) (az_at' rfl (by omega)) rfl⟩⟩
  · obtain ⟨c1, c2, c3, c4⟩ : az_cel i (fn i) cd cc (ch i) := by
      rcases l.2.2.2 with ⟨_, w⟩ | ⟨⟨w, _⟩, _⟩
      · exact w
      · omega
    refine az_cellOf rfl rfl l.1 g16 c1 (fun e he => (c2 e he).1) (fun e he hce => ?_) (fun hno => ?_)
    · have i5 : vp_in (nI (i * 4 + e)) 512 := vp_in_nI (by omega) (by omega)
      have j5 : vp_in (nI (i * 4 + (fn i - 1))) 512 := vp_in_nI (by omega) (by omega)
      have sb : az_A fn (nI i).toNatClampNeg - 1 = nI (fn i - 1) := by
        rw [az_at' rfl (by omega)]; exact pk_sub (b := 1) (by omega)
      have ix : nI i * 4 + az_A (az_f fn i (fn i - 1)) (nI i).toNatClampNeg = nI (i * 4 + (fn i - 1)) := by
        rw [az_at' rfl (by omega), az_f_s, show nI i * 4 = nI (i * 4) from pk_mul i 4, nI_add]
      refine br_f (az_ne1 (by omega)) ⟨i8, i8, nm_r (az_updA rfl (by omega) sb) ⟨i8, nm_r ix ⟨j5, i5, nm_r (az_updA rfl (by omega) (az_at' rfl (by omega))) ⟨j5, i5, nm_r (az_updA rfl (by omega) (az_at' rfl (by omega))) (h _ _ _ _ _ ?_)⟩⟩⟩⟩
      exact az_L_cd hL u z he hce
    · obtain ⟨e, he, hce⟩ := c4 _ g16 h0
      exact absurd hce (hno e he)
  · have ix : az_A tb (nI i).toNatClampNeg * 16 + nI (az_dg x (dp i)) = nI (tb i * 16 + az_dg x (dp i)) := by
      rw [az_at' rfl (by omega), show nI (tb i) * 16 = nI (tb i * 16) from pk_mul (tb i) 16, nI_add]
    obtain ⟨⟨q1, q2, q3, q4⟩, l5⟩ : az_tab (tb i) tu tc (ch i) ∧ 5 ≤ fn i := by
      rcases l.2.2.2 with ⟨w, _⟩ | w
      · exact absurd w z
      · exact w
    have sb : az_A fn (nI i).toNatClampNeg - 1 = nI (fn i - 1) := by
      rw [az_at' rfl (by omega)]; exact pk_sub (b := 1) (by omega)
    have fd := az_fan_drop (ch := ch) (p := i) g16 h0
    have lf := l.2.2.1
    refine ⟨i8, pk_in (tb i * 16 + az_dg x (dp i)) 256 (by omega) ix, nm_r (az_updA (v := 0) ix (by omega) rfl) ⟨i8, i8, nm_r (az_updA rfl (by omega) sb) ⟨i8, pk_lt 4 (fn i - 1) (fun y => ?_) (fun y => ?_) rfl ?_⟩⟩⟩
    · refine h _ _ _ _ _ (az_L_ts hL u z g16 (by omega) ?_ (by omega))
      rw [fd]; omega
    · have f5 : fn i = 5 := by omega
      refine az_moveToCells (h := az_h ch i (az_dg x (dp i)) 0 i) rfl l.1 rfl q2 (by rw [fd]; omega) (fun c => az_h_lt hL u (by omega) c) ?_ (fun cd' cc' e1 e2 => h _ _ _ _ _ ?_)
      · intro c hc
        by_cases w : c = az_dg x (dp i)
        · rw [w, az_f_s, az_h_s]
        · rw [az_f_n (by omega), az_h_n (fun q => w q.2)]; exact q4 c hc
      · have e := az_L_mc hL u z f5 g16 h0 e1 e2
        rw [f5]
        exact e
    · rw [az_at' rfl (by omega), az_f_s]
end
