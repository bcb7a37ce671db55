/-! countBeforeChild, countBelow, countUpTo, leafAtRank, sharedDigits, sumUnder -/
section
variable {R : Int32} {U D P C T CC V TC F : Nat → Int32} {S : Nat → Int64} {m : Nat → Option Int32} {us dp pf ct fn tb cd cc tu tc : Nat → Nat} {sm : Nat → Int64} {ch : Nat → Nat → Nat} {rt : Nat} {K : Nat → Prop}
theorem az_cbc_loop {post : Int32 → Prop} {i en : Nat} (t : az_T (az_K m) us dp pf ch rt) (hn : az_N m us dp pf ct sm) (hL : az_L us fn tb cd cc tu tc ch) (u : us i = 1) (hd : dp i < 4) (he : en < 16)
    (h : ∀ tot : Nat, (tot : Int) = az_C m (pf i + en * az_w (dp i + 1)) - az_C m (pf i) → post (nI tot)) :
    ∀ d g (tot : Nat), g + d = en → (tot : Int) = az_C m (pf i + g * az_w (dp i + 1)) - az_C m (pf i) → wX_countBeforeChild_29 post (nI i) (nI en) R U D P (az_A ct) S (az_A fn) (az_A tb) (az_A cd) (az_A cc) V (az_A tc) (d + 1) (nI tot) (nI g) := by
  intro d
  induction d with
  | zero =>
    intro g tot hg ht
    have e : g = en := by omega
    subst e
    exact pk_le g g (fun _ => h tot ht) (fun z => absurd z (by omega))
  | succ d ih =>
    intro g tot hg ht
    have l := hL.1 i u
    have c8 := l.2.1 g
    refine pk_le en g (fun z => absurd z (by omega)) (fun _ => az_childAt rfl rfl l.2.2.2 l.1 (by omega) ⟨vp_in_nI c8 (by omega), nm_r (e' := nI (tot + ct (ch i g))) ?_ (nm_r (nI_1 g) (ih (g + 1) _ (by omega) ?_))⟩)
    · rw [az_at' rfl (by omega), nI_add]
    · have s := (az_sub t hn u hd (show g < 16 by omega)).1
      omega
theorem az_cbc {post : Int32 → Prop} {a b : Int32} {i x : Nat} (t : az_T (az_K m) us dp pf ch rt) (hn : az_N m us dp pf ct sm) (hL : az_L us fn tb cd cc tu tc ch) (u : us i = 1) (ha : a = nI i) (hb : b = nI x) (hx : x < 65536)
    (h : dp i < 4 → ∀ tot : Nat, (tot : Int) = az_C m (pf i + az_dg x (dp i) * az_w (dp i + 1)) - az_C m (pf i) → post (nI tot)) (h0 : dp i = 4 → post 0) :
    wpX_countBeforeChild post (R, U, az_A dp, P, az_A ct, S, az_A fn, az_A tb, az_A cd, az_A cc, V, az_A tc) a b := by
  subst ha hb
  have b := t.1 i u
  refine ⟨vp_in_nI b.2.1 (by omega), pk_lt (dp i) 4 (fun z => ⟨vp_in_nI b.2.1 (by omega), ?_⟩) (fun z => h0 (by omega)) (az_at' rfl (by omega)) rfl⟩
  refine az_digitAt rfl (az_at' rfl (by omega)) hx z ?_
  refine ⟨az_dg x (dp i) + 1, az_cbc_loop t hn hL u z (az_dg_lt _ _) (h z) (az_dg x (dp i)) 0 0 (by omega) ?_⟩
  rw [Nat.zero_mul, Nat.add_zero]
  omega
theorem az_cb_loop {post : Int32 → Prop} {x : Nat} (t : az_T (az_K m) us dp pf ch rt) (hn : az_N m us dp pf ct sm) (hL : az_L us fn tb cd cc tu tc ch) (hx : x < 65536)
    (h : ∀ c : Nat, (c : Int) = az_C m x → post (nI c)) :
    ∀ d lv q (tot : Nat), lv + d = 5 → (q ≠ 0 → lv ≤ dp q) → az_J m us dp pf x q tot → wX_countBelow_32 post (nI x) R U (az_A dp) (az_A pf) (az_A ct) S (az_A fn) (az_A tb) (az_A cd) (az_A cc) V (az_A tc) (d + 1) (nI tot) (nI q) (nI lv) := by
  intro d
  induction d with
  | zero =>
    intro lv q tot hl hq hJ
    refine pk_lt 4 lv (fun _ => ?_) (fun z => absurd z (by omega))
    rcases hJ with ⟨_, e⟩ | ⟨u, _⟩
    · exact h tot e
    · have b := t.1 q u
      have := hq (by omega)
      omega
  | succ d ih =>
    intro lv q tot hl hq hJ
    have q128 : q < 128 := by
      rcases hJ with ⟨z, _⟩ | ⟨u, _⟩
      · omega
      · exact (t.1 q u).2.1
    refine pk_lt 4 lv (fun z => absurd z (by omega)) (fun _ => pk_eq q 0 (fun z => ?_) (fun z => ?_) rfl rfl)
    · rcases hJ with ⟨_, e⟩ | ⟨u, _⟩
      · exact h tot e
      · have := (t.1 q u).1; omega
    · have u : us q = 1 := by
        rcases hJ with ⟨y, _⟩ | ⟨u, _⟩
        · exact absurd y z
        · exact u
      have b := t.1 q u
      have hlq := hq z
      refine az_isUnder rfl rfl q128 b.2.2.1 hx b.2.2.2.1 (fun hu => br_f (by decide) ?_) (fun hu => br_t rfl ⟨vp_in_nI q128 (by omega), ?_⟩)
      · refine az_cbc t hn hL u rfl rfl hx (fun hd c hc => ?_) (fun hd => ?_)
        · refine nm_r (nI_add _ _) (az_childToward rfl rfl (hL.1 q u).2.2.2 q128 b.2.2.1 hx (fun _ => nm_r (nI_1 lv) (ih (lv + 1) _ _ (by omega) ?_ ?_)) (fun w => by omega))
          · intro w
            have cc := t.2.2.1 q _ u hd (az_dg_lt _ _) w
            omega
          · have j := az_J_step t hJ z hu hd
            rw [show ((tot + c : Nat) : Int) = tot + (az_C m (pf q + az_dg x (dp q) * az_w (dp q + 1)) - az_C m (pf q)) by omega]
            exact j
        · refine nm_r (e' := nI tot) (Int32.add_zero _) (az_childToward rfl rfl (hL.1 q u).2.2.2 q128 b.2.2.1 hx (fun w => by omega) (fun _ => nm_r (nI_1 lv) (ih (lv + 1) 0 tot (by omega) (fun w => absurd rfl w) ?_)))
          exact Or.inl ⟨rfl, az_J_leaf t hJ z hu hd⟩
      · have o := az_J_out t hn hJ z hu
        refine pk_le x (pf q) (fun w => h tot (o.2 (by omega))) (fun w => ⟨vp_in_nI q128 (by omega), ?_⟩) rfl (az_at' rfl (by omega))
        rw [az_at' rfl (by omega), nI_add]
        exact h _ (by have := o.1 w; omega)
theorem az_rt128 (t : az_T K us dp pf ch rt) : rt < 128 := by
  by_cases z : rt = 0
  · omega
  · exact (t.1 rt (az_rootu t z)).2.1
theorem az_countBelow {post : Int32 → Prop} {b : Int32} (t : az_T (az_K m) us dp pf ch rt) (hn : az_N m us dp pf ct sm) (hL : az_L us fn tb cd cc tu tc ch)
    (h : ∀ c : Nat, (c : Int) = az_C m (az_cl b.toInt) → post (nI c)) :
    wpX_countBelow post (nI rt, U, az_A dp, az_A pf, az_A ct, S, az_A fn, az_A tb, az_A cd, az_A cc, V, az_A tc) b := by
  have r := az_rt128 t
  refine br_c (fun z => ?_) (fun z => ?_)
  · obtain ⟨x, hx, rfl, ex⟩ := az_nat b ((az_le0 b).mp z)
    rw [ex] at h
    refine pk_le x 65535 (fun y => ?_) (fun y => ⟨vp_in_nI r (by omega), ?_⟩)
    · rw [az_cl_nat rfl (by omega)] at h
      exact ⟨6, az_cb_loop t hn hL (by omega) h 5 0 rt 0 rfl (fun _ => Nat.zero_le _) (az_J_0 t x)⟩
    · rw [az_cl_big (by omega)] at h
      rw [az_at' rfl (by omega)]
      exact h _ (az_rootC t hn).1
  · rw [az_le0] at z
    rw [az_cl_neg (by omega)] at h
    exact h 0 rfl
theorem az_succ {b : Int32} (h : b.toInt < 65535) : (b + 1).toInt = b.toInt + 1 := by
  have h1 := Int32.le_toInt b
  rw [Int32.toInt_add, show (1 : Int32).toInt = 1 from by decide]
  exact Int.bmod_eq_of_le (by omega) (by omega)
theorem az_countUpTo {post : Int32 → Prop} {b : Int32} (t : az_T (az_K m) us dp pf ch rt) (hn : az_N m us dp pf ct sm) (hL : az_L us fn tb cd cc tu tc ch)
    (h : ∀ c : Nat, (c : Int) = az_C m (az_cl (b.toInt + 1)) → post (nI c)) :
    wpX_countUpTo post (nI rt, U, az_A dp, az_A pf, az_A ct, S, az_A fn, az_A tb, az_A cd, az_A cc, V, az_A tc) b := by
  have r := az_rt128 t
  have e : b < 65535 ↔ b.toInt < 65535 := by
    rw [Int32.lt_iff_toInt_lt, show (65535 : Int32).toInt = 65535 from by decide]
  refine br_c (fun z => ?_) (fun z => ⟨vp_in_nI r (by omega), ?_⟩)
  · refine az_countBelow t hn hL ?_
    rw [az_succ (e.mp z)]
    exact h
  · rw [e] at z
    rw [az_cl_big (by omega)] at h
    rw [az_at' rfl (by omega)]
    exact h _ (az_rootC t hn).1
theorem az_ct64 (t : az_T (az_K m) us dp pf ch rt) (hn : az_N m us dp pf ct sm) (hC : az_C m 65536 ≤ 64) {i : Nat} (h : i = 0 ∨ us i = 1) : ct i ≤ 64 := by
  rcases h with z | u
  · rw [z, hn.2.1]; omega
  · have b := t.1 i u
    have e := (hn.1 i u).1
    have a1 := az_C_mono m (az_top b.2.2.1 b.2.2.2.2 b.2.2.2.1)
    have a2 := az_C_nn m (pf i)
    omega
theorem az_ch_or (t : az_T K us dp pf ch rt) {i c : Nat} (u : us i = 1) (hd : dp i < 4) (hc : c < 16) : ch i c = 0 ∨ us (ch i c) = 1 := by
  by_cases z : ch i c = 0
  · exact Or.inl z
  · exact Or.inr (t.2.2.1 i c u hd hc z).1
theorem az_lar_in {post : Int32 → Prop} {J : Int32 → Int32 → Int32 → Prop} {rank : Int} {q lv : Nat} (t : az_T (az_K m) us dp pf ch rt) (hn : az_N m us dp pf ct sm) (hL : az_L us fn tb cd cc tu tc ch) (hC : az_C m 65536 ≤ 64) (u : us q = 1) (hd : dp q < 4)
    (hJ : ∀ c left, c < 16 → az_R m us pf ct rank (ch q c) left → dp q < dp (ch q c) → J (nI (ch q c)) (nI left) (nI (lv + 1))) :
    ∀ d c left, c + d = 15 → az_Rc m dp pf rank q c left → wX_leafAtRank_37 post J (nI q) (nI lv) R U D P (az_A ct) S (az_A fn) (az_A tb) (az_A cd) (az_A cc) V (az_A tc) (d + 1) (nI left) (nI (ch q c)) (nI (c + 1)) := by
  intro d
  induction d with
  | zero =>
    intro c left hc hR
    have e : c = 15 := by omega
    subst e
    refine pk_le 16 16 (fun _ => nm_r (nI_1 lv) ?_) (fun z => absurd z (by omega))
    have s := az_Rc_stop t hn u hd (by omega) hR (Or.inl rfl)
    exact hJ 15 left (by omega) s.1 s.2
  | succ d ih =>
    intro c left hc hR
    have l := hL.1 q u
    have c8 := l.2.1 c
    have b := t.1 q u
    have cb := az_ct64 t hn hC (az_ch_or t u hd (show c < 16 by omega))
    have lb : left ≤ 64 := by
      have a1 := az_C_mono m (az_top b.2.2.1 b.2.2.2.2 b.2.2.2.1)
      have a2 := az_C_nn m (pf q + c * az_w (dp q + 1))
      have a3 := hR.1
      have a4 := hR.2
      omega
    refine pk_le 16 (c + 1) (fun z => absurd z (by omega)) (fun _ => ⟨vp_in_nI c8 (by omega), pk_lt left (ct (ch q c)) (fun z => nm_r (nI_1 lv) ?_) (fun z => ⟨vp_in_nI c8 (by omega), nm_r (e' := nI (left - ct (ch q c))) ?_ ?_⟩) rfl (az_at' rfl (by omega))⟩)
    · have s := az_Rc_stop t hn u hd (by omega) hR (Or.inr z)
      exact hJ c left (by omega) s.1 s.2
    · rw [az_at' rfl (by omega)]; exact pk_sub z
    · exact az_childAt rfl rfl l.2.2.2 l.1 (by omega) (nm_r (nI_1 (c + 1)) (ih (c + 1) _ (by omega) (az_Rc_next t hn u hd (by omega) hR z)))
theorem az_lar_loop {post : Int32 → Prop} {rank : Int} (t : az_T (az_K m) us dp pf ch rt) (hn : az_N m us dp pf ct sm) (hL : az_L us fn tb cd cc tu tc ch) (hC : az_C m 65536 ≤ 64)
    (h : ∀ l, us l = 1 → dp l = 4 → az_K m (pf l) → az_C m (pf l) = rank → post (nI l)) :
    ∀ d lv q left, lv + d = 4 → lv ≤ dp q → az_R m us pf ct rank q left → wX_leafAtRank_10 post R U (az_A dp) P (az_A ct) S (az_A fn) (az_A tb) (az_A cd) (az_A cc) V (az_A tc) (d + 1) (nI q) (nI left) (nI lv) := by
  intro d
  induction d with
  | zero =>
    intro lv q left hl hq hR
    have b := t.1 q hR.1
    have d4 : dp q = 4 := by omega
    have e := az_R_leaf t hn hR d4
    exact pk_le 4 lv (fun _ => h q hR.1 d4 e.1 e.2) (fun z => absurd z (by omega))
  | succ d ih =>
    intro lv q left hl hq hR
    have u := hR.1
    have b := t.1 q u
    have l := hL.1 q u
    refine pk_le 4 lv (fun z => absurd z (by omega)) (fun _ => ⟨vp_in_nI b.2.1 (by omega), pk_le 4 (dp q) (fun z => ?_) (fun z => ?_) rfl (az_at' rfl (by omega))⟩)
    · have d4 : dp q = 4 := by omega
      have e := az_R_leaf t hn hR d4
      exact h q u d4 e.1 e.2
    · refine az_childAt rfl (c := 0) rfl l.2.2.2 l.1 (by omega) ⟨16, ?_⟩
      exact az_lar_in t hn hL hC u z (fun c left' hc hR' hd' => ih (lv + 1) _ _ (by omega) (by omega) hR') 15 0 left (by omega) (az_Rc_0 hn hR)
theorem az_leafAtRank {post : Int32 → Prop} {b : Int32} {rank : Nat} (t : az_T (az_K m) us dp pf ch rt) (hn : az_N m us dp pf ct sm) (hL : az_L us fn tb cd cc tu tc ch) (hC : az_C m 65536 ≤ 64) (hb : b = nI rank) (hr : (rank : Int) < az_C m 65536)
    (h : ∀ l, us l = 1 → dp l = 4 → az_K m (pf l) → az_C m (pf l) = rank → post (nI l)) :
    wpX_leafAtRank post (nI rt, U, az_A dp, P, az_A ct, S, az_A fn, az_A tb, az_A cd, az_A cc, V, az_A tc) b := by
  subst hb
  exact ⟨5, az_lar_loop t hn hL hC h 4 0 rt rank rfl (Nat.zero_le _) (az_R_0 t hn hr)⟩
theorem az_sd_loop {post : Int32 → Prop} {x : Nat} (t : az_T K us dp pf ch rt) (hL : az_L us fn tb cd cc tu tc ch) (hx : x < 65536) (h : ∀ r, az_sd K x r → post (nI r)) :
    ∀ d lv q dd, lv + d = 4 → lv ≤ dp q → az_D K us dp pf x q dd → wX_sharedDigits_26 post (nI x) R U (az_A dp) (az_A pf) C S (az_A fn) (az_A tb) (az_A cd) (az_A cc) V (az_A tc) (d + 1) (nI q) (nI lv) := by
  intro d
  induction d with
  | zero =>
    intro lv q dd hl hq hD
    have b := t.1 q hD.1
    refine pk_le 4 lv (fun _ => ⟨vp_in_nI b.2.1 (by omega), az_common (az_at' rfl (by omega)) rfl b.2.2.2.1 hx (fun r hr => h r (az_D_out t hD hr (Or.inr (by omega))))⟩) (fun z => absurd z (by omega))
  | succ d ih =>
    intro lv q dd hl hq hD
    have u := hD.1
    have b := t.1 q u
    refine pk_le 4 lv (fun z => absurd z (by omega)) (fun _ => az_isUnder rfl rfl b.2.1 b.2.2.1 hx b.2.2.2.1 (fun hu => br_f (by decide) ?_) (fun hu => br_t rfl ?_))
    · refine az_childToward rfl rfl (hL.1 q u).2.2.2 b.2.1 b.2.2.1 hx (fun hd => ?_) (fun hd => br_t rfl ⟨vp_in_nI b.2.1 (by omega), ?_⟩)
      · have c8 := (hL.1 q u).2.1 (az_dg x (dp q))
        refine pk_eq (ch q (az_dg x (dp q))) 0 (fun z => ⟨vp_in_nI b.2.1 (by omega), ?_⟩) (fun z => ?_) rfl rfl
        · rw [az_at' rfl (by omega)]
          exact h _ (az_D_stop t hD hu (fun _ => z))
        · have c := t.2.2.1 q _ u hd (az_dg_lt _ _) z
          exact nm_r (nI_1 lv) (ih (lv + 1) _ _ (by omega) (by omega) (az_D_step t hD hu hd z))
      · rw [az_at' rfl (by omega)]
        exact h _ (az_D_stop t hD hu (fun w => by omega))
    · exact ⟨vp_in_nI b.2.1 (by omega), az_common (az_at' rfl (by omega)) rfl b.2.2.2.1 hx (fun r hr => h r (az_D_out t hD hr (Or.inl hu)))⟩
theorem az_su_end {post : Int64 → Prop} {x d q : Nat} (t : az_T (az_K m) us dp pf ch rt) (hn : az_N m us dp pf ct sm) (hx : x < 65536) (hd : d ≤ 4) (hE : az_E (az_K m) us dp pf x d q) (hq : q = 0 ∨ d ≤ dp q)
    (h : post (Int64.ofInt (az_Q m (az_cut x d + az_w d) - az_Q m (az_cut x d)))) : wX_sumUnder_59 post (nI x) (nI d) (nI q) R U D (az_A pf) C sm P T CC V TC F := by
  by_cases z : q = 0
  · rw [az_E_none t hd hE (Or.inl z)] at h
    subst z
    have e : sm (nI 0).toNatClampNeg = 0 := by rw [nI_clamp (by omega)]; exact hn.2.2
    exact ⟨vp_in_nI (by omega) (by omega), fun _ => ⟨vp_in_nI (by omega) (by omega), by rw [e]; exact h⟩, fun _ => h⟩
  · have u : us q = 1 := hE.1.elim (fun w => absurd w z) id
    have hdq : d ≤ dp q := hq.elim (fun w => absurd w z) id
    have b := t.1 q u
    refine ⟨vp_in_nI b.2.1 (by omega), az_firstDigits (az_at' rfl (by omega)) rfl b.2.2.2.1 hd (az_firstDigits rfl rfl hx hd ?_)⟩
    refine pk_eq (pf q / az_w d) (x / az_w d) (fun w => ⟨vp_in_nI b.2.1 (by omega), ?_⟩) (fun w => ?_) rfl rfl (az_div_lt _ b.2.2.2.1) (az_div_lt _ hx)
    · rw [az_E_some t hd hE u hdq w, ← (hn.1 q u).2] at h
      rw [nI_clamp (by omega)]
      exact h
    · rw [az_E_none t hd hE (Or.inr ⟨hdq, w⟩)] at h
      exact h
theorem az_su_loop {post : Int64 → Prop} {x d : Nat} (t : az_T (az_K m) us dp pf ch rt) (hn : az_N m us dp pf ct sm) (hL : az_L us fn tb cd cc tu tc ch) (hx : x < 65536) (hd : d ≤ 4)
    (h : post (Int64.ofInt (az_Q m (az_cut x d + az_w d) - az_Q m (az_cut x d)))) :
    ∀ g lv q, lv + g = 4 → (q ≠ 0 → lv ≤ dp q) → az_E (az_K m) us dp pf x d q → wX_sumUnder_26 post (nI x) (nI d) R U (az_A dp) (az_A pf) C sm (az_A fn) (az_A tb) (az_A cd) (az_A cc) V (az_A tc) (g + 1) (nI q) (nI lv) := by
  intro g
  induction g with
  | zero =>
    intro lv q hl hq hE
    refine pk_le 4 lv (fun _ => az_su_end t hn hx hd hE ?_ h) (fun z => absurd z (by omega))
    by_cases z : q = 0
    · exact Or.inl z
    · have := hq z
      exact Or.inr (by omega)
  | succ g ih =>
    intro lv q hl hq hE
    have q128 : q < 128 := by
      rcases hE.1 with z | u
      · omega
      · exact (t.1 q u).2.1
    refine pk_le 4 lv (fun z => absurd z (by omega)) (fun _ => pk_eq q 0 (fun z => az_su_end t hn hx hd hE (Or.inl z) h) (fun z => ⟨vp_in_nI q128 (by omega), ?_⟩) rfl rfl)
    have u : us q = 1 := hE.1.elim (fun w => absurd w z) id
    have b := t.1 q u
    have hlq := hq z
    refine pk_le d (dp q) (fun y => az_su_end t hn hx hd hE (Or.inr y) h) (fun y => ?_) rfl (az_at' rfl (by omega))
    refine az_childToward rfl rfl (hL.1 q u).2.2.2 q128 b.2.2.1 hx (fun w => nm_r (nI_1 lv) (ih (lv + 1) _ (by omega) ?_ (az_E_step t hE z y hd))) (fun w => by omega)
    intro v
    have c := t.2.2.1 q _ u w (az_dg_lt _ _) v
    omega
end
