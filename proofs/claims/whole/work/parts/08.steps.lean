/-! the whole of X's state, and its three ways of putting a leaf in and of taking one out -/
theorem az_K_put {m : Nat → Option Int32} {x : Nat} {v : Int32} (k : Nat) : az_K (az_put m x (some v)) k ↔ az_K m k ∨ k = x := by
  unfold az_K
  by_cases z : k = x
  · rw [z, az_put_s]
    exact ⟨fun _ => Or.inr rfl, fun _ w => nomatch w⟩
  · rw [az_put_n z]
    exact ⟨fun w => Or.inl w, fun w => w.elim id (fun y => absurd y z)⟩
theorem az_K_take {m : Nat → Option Int32} {x : Nat} (k : Nat) : az_K (az_put m x none) k ↔ az_K m k ∧ k ≠ x := by
  unfold az_K
  by_cases z : k = x
  · rw [z, az_put_s]
    exact ⟨fun w => absurd rfl w, fun w => absurd rfl w.2⟩
  · rw [az_put_n z]
    exact ⟨fun w => ⟨w, z⟩, fun w => w.1⟩
theorem az_C_add {m : Nat → Option Int32} {x : Nat} {v : Int32} (hx : x < 65536) (nx : ¬ az_K m x) : az_C (az_put m x (some v)) 65536 = az_C m 65536 + 1 := by
  rw [az_C_put, if_pos hx, az_c1_some (az_put_s m x (some v)), az_c1_none (az_nK nx)]
  rfl
theorem az_C_set {m : Nat → Option Int32} {x : Nat} {v : Int32} (kx : az_K m x) : az_C (az_put m x (some v)) 65536 = az_C m 65536 := by
  rw [az_C_put, az_c1_some (az_put_s m x (some v)), az_c1_K kx]
  split <;> omega
theorem az_C_take {m : Nat → Option Int32} {x : Nat} (hx : x < 65536) (kx : az_K m x) : az_C (az_put m x none) 65536 = az_C m 65536 - 1 := by
  rw [az_C_put, if_pos hx, az_c1_none (az_put_s m x none), az_c1_K kx]
  omega
theorem az_M_congr {us dp fn dp' fn' : Nat → Nat} {n : Int} (h : az_M us dp fn n) (e : ∀ i, us i = 1 → dp' i = dp i ∧ fn' i = fn i) : az_M us dp' fn' n := by
  have e1 : az_lf us dp' = az_lf us dp := by
    funext i
    unfold az_lf
    by_cases z : us i = 1
    · rw [(e i z).1]
    · rw [if_neg (fun w => z w.1), if_neg (fun w => z w.1)]
  have e2 : az_bf us dp' fn' = az_bf us dp fn := by
    funext i
    unfold az_bf
    by_cases z : us i = 1
    · rw [(e i z).1, (e i z).2]
    · rw [if_neg (fun w => z w.1), if_neg (fun w => z w.1)]
  unfold az_M
  rw [e1, e2]
  exact h
theorem az_M_at {us dp fn us' dp' fn' : Nat → Nat} {n : Int} {l q : Nat} (hm : az_M us dp fn n) (hl : l < 128) (hq : q < 128) (h1 : ∀ i, i ≠ l → az_lf us' dp' i = az_lf us dp i) (h2 : ∀ i, i ≠ q → az_bf us' dp' fn' i = az_bf us dp fn i) :
    az_S (az_lf us' dp') 128 = n + (az_lf us' dp' l - az_lf us dp l) ∧ az_S (az_bf us' dp' fn') 128 = (if n = 0 then 0 else n - 1) + (az_bf us' dp' fn' q - az_bf us dp fn q) := by
  rw [az_S_at l hl h1, az_S_at q hq h2, hm.1, hm.2]
  exact ⟨rfl, rfl⟩
def az_I (K : Nat → Prop) (m : Nat → Option Int32) (n : Int) (us dp pf ct : Nat → Nat) (sm : Nat → Int64) (fn tb cd cc tu tc : Nat → Nat) (ch : Nat → Nat → Nat) (rt : Nat) : Prop :=
  az_T K us dp pf ch rt ∧ az_N m us dp pf ct sm ∧ az_L us fn tb cd cc tu tc ch ∧ az_M us dp fn n ∧ (∀ i, us i ≤ 1) ∧ (∀ i, us i = 1 → dp i = 4 → fn i = 0)
theorem az_u1 {us : Nat → Nat} (h : ∀ i, us i ≤ 1) (j : Nat) {v : Nat} (hv : v ≤ 1) : ∀ i, az_f us j v i ≤ 1 := by
  intro i
  by_cases z : i = j
  · rw [z, az_f_s]; exact hv
  · rw [az_f_n z]; exact h i
section
variable {m : Nat → Option Int32} {us dp pf ct : Nat → Nat} {sm : Nat → Int64} {fn tb cd cc tu tc : Nat → Nat} {ch : Nat → Nat → Nat} {rt : Nat} {n : Int} {x l : Nat}
/-- the new leaf's counts, ahead of its being counted -/
theorem az_N_leaf (hn : az_N m us dp pf ct sm) (nx : ¬ az_K m x) (dl : dp l = 4) (pl : pf l = x) (cl : ct l = 0) (sl : sm l = 0) : az_N m (az_f us l 1) dp pf ct sm := by
  refine ⟨fun i hi => ?_, hn.2⟩
  by_cases z : i = l
  · rw [z, dl, pl, cl, sl, az_w4, az_C_succ, az_Q_succ, az_c1_none (az_nK nx), az_cq_none (az_nK nx)]
    refine ⟨by omega, ?_⟩
    rw [show az_Q m x + 0 - az_Q m x = 0 by omega]
    rfl
  · rw [az_f_n z] at hi
    exact hn.1 i hi
theorem az_finC (t : az_T (az_K m) us dp pf ch rt) (hn : az_N m us dp pf ct sm) (hL : az_L (az_f us l 1) fn tb cd cc tu tc ch) (hm : az_M us dp fn n) (hu : ∀ i, us i ≤ 1) (hf : ∀ i, us i = 1 → dp i = 4 → fn i = 0)
    (hx : x < 65536) (nx : ¬ az_K m x) (hl : 0 < l ∧ l < 128) (ul : us l = 0) (dl : dp l = 4) (pl : pf l = x) (cl : ct l = 0) (sl : sm l = 0) (fl : fn l = 0) (hr : rt = 0) (hn0 : n = 0) :
    az_I (fun k => az_K m k ∨ k = x) m (n + 1) (az_f us l 1) dp pf ct sm fn tb cd cc tu tc ch l := by
  refine ⟨az_addC t hx hl dl pl hr (az_f_s us l 1) (fun j hj => az_f_n hj), az_N_leaf hn nx dl pl cl sl, hL, ?_, az_u1 hu l (Nat.le_refl 1), ?_⟩
  · have e := az_M_at (us' := az_f us l 1) (dp' := dp) (fn' := fn) hm hl.2 hl.2 (fun i hi => az_lf_e (az_f_n hi) rfl) (fun i hi => az_bf_e (az_f_n hi) rfl rfl)
    rw [az_lf_1 (az_f_s us l 1) dl, az_lf_0 (Or.inl (by omega)), az_bf_0 (Or.inr dl), az_bf_0 (Or.inr dl), if_pos hn0] at e
    refine ⟨by omega, ?_⟩
    rw [e.2, if_neg (by omega)]
    omega
  · intro i hi hd
    by_cases z : i = l
    · rw [z]; exact fl
    · rw [az_f_n z] at hi; exact hf i hi hd
theorem az_n_pos (t : az_T (az_K m) us dp pf ch rt) {p : Nat} (p1 : us p = 1) : 1 ≤ az_C m 65536 := by
  obtain ⟨k, k1, _⟩ := az_inh' t p1
  have := az_C_gt (Nat.zero_le k) (t.2.2.2.2.2.2.2 k k1) k1
  have e : az_C m 0 = 0 := rfl
  omega
theorem az_n_two (t : az_T (az_K m) us dp pf ch rt) {p : Nat} (p1 : us p = 1) (p2 : dp p < 4) : 2 ≤ az_C m 65536 := by
  obtain ⟨k, k', k1, k2, _, _, k5⟩ := az_two t p1 p2
  have e : az_C m 0 = 0 := rfl
  have b1 := t.2.2.2.2.2.2.2 k k1
  have b2 := t.2.2.2.2.2.2.2 k' k2
  rcases Nat.lt_trichotomy k k' with z | z | z
  · have a1 := az_C_gt (Nat.zero_le k) z k1
    have a2 := az_C_gt (Nat.le_refl k') b2 k2
    omega
  · rw [z] at k5; exact absurd rfl k5
  · have a1 := az_C_gt (Nat.zero_le k') z k2
    have a2 := az_C_gt (Nat.le_refl k) b1 k1
    omega
theorem az_finB {p : Nat} {fn' tb' cd' cc' tu' tc' : Nat → Nat} (t : az_T (az_K m) us dp pf ch rt) (hn : az_N m us dp pf ct sm) (hm : az_M us dp fn n) (hu : ∀ i, us i ≤ 1) (hf : ∀ i, us i = 1 → dp i = 4 → fn i = 0)
    (hx : x < 65536) (nx : ¬ az_K m x) (hl : 0 < l ∧ l < 128) (ul : us l = 0) (dl : dp l = 4) (pl : pf l = x) (cl : ct l = 0) (sl : sm l = 0) (fl : fn l = 0)
    (p1 : us p = 1) (p2 : dp p < 4) (p3 : az_un (dp p) (pf p) x) (p4 : ch p (az_dg x (dp p)) = 0) (hn0 : 1 ≤ n)
    (hL : az_L (az_f us l 1) fn' tb' cd' cc' tu' tc' (az_h ch p (az_dg x (dp p)) l)) (hF : fn' = az_f fn p (fn p + 1)) :
    az_I (fun k => az_K m k ∨ k = x) m (n + 1) (az_f us l 1) dp pf ct sm fn' tb' cd' cc' tu' tc' (az_h ch p (az_dg x (dp p)) l) rt := by
  have pl' : p ≠ l := by intro z; rw [z, ul] at p1; omega
  refine ⟨az_addB t hx nx hl ul dl pl p1 p2 p3 p4 (az_f_s us l 1) (fun j hj => az_f_n hj) (az_h_s _ _ _ _) (fun j c _ hj => az_h_n hj), az_N_leaf hn nx dl pl cl sl, hL, ?_, az_u1 hu l (Nat.le_refl 1), ?_⟩
  · subst hF
    have hp := (t.1 p p1).2.1
    have e := az_M_at (us' := az_f us l 1) (dp' := dp) (fn' := az_f fn p (fn p + 1)) (l := l) (q := p) hm hl.2 hp (fun i hi => az_lf_e (az_f_n hi) rfl)
      (fun i hi => by
        by_cases z : i = l
        · rw [az_bf_0 (Or.inr (by rw [z]; exact dl)), az_bf_0 (Or.inr (by rw [z]; exact dl))]
        · exact az_bf_e (az_f_n z) rfl (az_f_n hi))
    rw [az_lf_1 (az_f_s us l 1) dl, az_lf_0 (us := us) (Or.inl (by omega)), az_bf_1 (us := az_f us l 1) (by rw [az_f_n pl']; exact p1) p2, az_bf_1 p1 p2, az_f_s, if_neg (by omega)] at e
    refine ⟨by omega, ?_⟩
    rw [e.2, if_neg (by omega)]
    omega
  · intro i hi hd
    subst hF
    have ip : i ≠ p := by intro z; rw [z] at hd; omega
    rw [az_f_n ip]
    by_cases z : i = l
    · rw [z]; exact fl
    · rw [az_f_n z] at hi; exact hf i hi hd
/-- the new branch's counts, ahead of the new leaf's being counted -/
theorem az_N_branch {p q r b : Nat} (t : az_T (az_K m) us dp pf ch rt) (hn : az_N m us dp pf ct sm) (ha : az_at us dp pf ch rt x p q) (hq : q ≠ 0) (hqu : ¬ az_un (dp q) (pf q) x) (hr : az_com (pf q) x r) (hx : x < 65536)
    (db : dp b = r) (pb : pf b = az_cut x r) (cb : ct b = ct q) (sb : sm b = sm q) : (ct b : Int) = az_C m (pf b + az_w (dp b)) - az_C m (pf b) ∧ sm b = Int64.ofInt (az_Q m (pf b + az_w (dp b)) - az_Q m (pf b)) := by
  obtain ⟨q1, hlt, hpr, hK⟩ := az_joint t ha hq hqu hr
  have a := t.1 q q1
  have e := hn.1 q q1
  have al : az_cut x r % az_w r = 0 := az_cut_al x r
  have u : az_un r (az_cut x r) (pf q) := az_un_trans (az_cut_un x r) (az_un_symm hr.2.1)
  have iv := az_iv_in (Nat.le_of_lt hlt) a.2.2.1 al a.2.2.2.2 u
  have hwp := az_w_pos (dp q)
  have hin : ∀ k, az_cut x r ≤ k → k < az_cut x r + az_w r → az_K m k → pf q ≤ k ∧ k < pf q + az_w (dp q) := by
    intro k h1 h2 hk
    have w := hK k hk ((az_un_iv (by omega) al).mpr ⟨h1, h2⟩)
    exact (az_un_iv a.2.2.1 a.2.2.2.2).mp w
  rw [cb, sb, db, pb, e.1, e.2, az_C_shrink iv.1 (by omega) iv.2 hin, az_Q_shrink iv.1 (by omega) iv.2 hin]
  exact ⟨rfl, rfl⟩
theorem az_finA {p q r b : Nat} {fn' tb' cd' cc' tu' tc' : Nat → Nat} {ch' : Nat → Nat → Nat} {rt' : Nat} (t : az_T (az_K m) us dp pf ch rt) (hn : az_N m us dp pf ct sm) (hm : az_M us dp fn n) (hu : ∀ i, us i ≤ 1) (hf : ∀ i, us i = 1 → dp i = 4 → fn i = 0)
    (hx : x < 65536) (nx : ¬ az_K m x) (hl : 0 < l ∧ l < 128) (ul : us l = 0) (dl : dp l = 4) (pl : pf l = x) (cl : ct l = 0) (sl : sm l = 0)
    (hb : 0 < b ∧ b < 128) (ub : us b = 0) (db : dp b = r) (pb : pf b = az_cut x r) (cb : ct b = ct q) (sb : sm b = sm q) (hbl : b ≠ l)
    (ha : az_at us dp pf ch rt x p q) (hq : q ≠ 0) (hqu : ¬ az_un (dp q) (pf q) x) (hr : az_com (pf q) x r) (hn0 : 1 ≤ n)
    (hL : az_L (az_f (az_f us l 1) b 1) fn' tb' cd' cc' tu' tc' ch') (f1 : fn' b = 2) (f2 : fn' l = 0) (f3 : ∀ i, us i = 1 → fn' i = fn i)
    (c3 : ch' b (az_dg (pf q) r) = q) (c4 : ch' b (az_dg x r) = l) (c5 : ∀ c, c ≠ az_dg (pf q) r → c ≠ az_dg x r → ch' b c = 0)
    (c1 : us p = 1 → ch' p (az_dg x (dp p)) = b) (c2 : ∀ j c, us j = 1 → ¬ (j = p ∧ c = az_dg x (dp p)) → ch' j c = ch j c)
    (r1 : p = 0 → rt' = b) (r2 : p ≠ 0 → rt' = rt) :
    az_I (fun k => az_K m k ∨ k = x) m (n + 1) (az_f (az_f us l 1) b 1) dp pf ct sm fn' tb' cd' cc' tu' tc' ch' rt' := by
  have hlt := (az_joint t ha hq hqu hr).2.1
  have q4 := (t.1 q (az_joint t ha hq hqu hr).1).2.2.1
  have v1 : az_f (az_f us l 1) b 1 l = 1 := by rw [az_f_n (fun z => hbl z.symm), az_f_s]
  have v2 : az_f (az_f us l 1) b 1 b = 1 := az_f_s _ _ _
  have v3 : ∀ j, j ≠ l → j ≠ b → az_f (az_f us l 1) b 1 j = us j := fun j h1 h2 => by rw [az_f_n h2, az_f_n h1]
  have nb := az_N_branch t hn ha hq hqu hr hx db pb cb sb
  have nl := az_N_leaf (l := l) hn nx dl pl cl sl
  refine ⟨az_addA t hx nx hl ul dl pl hb ub db pb hbl ha hq hqu hr v1 v2 v3 c3 c4 c5 c1 c2 r1 r2, ⟨fun i hi => ?_, hn.2⟩, hL, ?_, az_u1 (az_u1 hu l (Nat.le_refl 1)) b (Nat.le_refl 1), ?_⟩
  · by_cases z : i = b
    · rw [z]; exact nb
    · rw [az_f_n z] at hi
      exact nl.1 i hi
  · have e := az_M_at (us' := az_f (az_f us l 1) b 1) (dp' := dp) (fn' := fn') (l := l) (q := b) hm hl.2 hb.2
      (fun i hi => by
        by_cases z : i = b
        · rw [az_lf_0 (Or.inr (by rw [z]; omega)), az_lf_0 (Or.inr (by rw [z]; omega))]
        · exact az_lf_e (v3 i hi z) rfl)
      (fun i hi => by
        by_cases z : i = l
        · rw [az_bf_0 (Or.inr (by rw [z]; exact dl)), az_bf_0 (Or.inr (by rw [z]; exact dl))]
        · by_cases y : us i = 1
          · exact az_bf_e (v3 i z hi) rfl (f3 i y)
          · rw [az_bf_0 (Or.inl (by rw [v3 i z hi]; exact y)), az_bf_0 (Or.inl y)])
    rw [az_lf_1 v1 dl, az_lf_0 (us := us) (Or.inl (by omega)), az_bf_1 v2 (by omega), az_bf_0 (us := us) (Or.inl (by omega)), f1, if_neg (by omega)] at e
    refine ⟨by omega, ?_⟩
    rw [e.2, if_neg (by omega)]
    omega
  · intro i hi hd
    by_cases z : i = l
    · rw [z]; exact f2
    · by_cases y : i = b
      · rw [y, db] at hd; omega
      · rw [v3 i z y] at hi
        rw [f3 i hi]; exact hf i hi hd
theorem az_leaf_tb (hL : az_L us fn tb cd cc tu tc ch) (l1 : us l = 1) (fl : fn l = 0) : tb l = 0 := by
  rcases (hL.1 l l1).2.2.2 with ⟨z, _⟩ | ⟨_, z⟩
  · exact z
  · omega
theorem az_finTA (t : az_T (az_K m) us dp pf ch rt) (hn : az_N (az_put m x none) us dp pf ct sm) (hL : az_L us fn tb cd cc tu tc ch) (hm : az_M us dp fn n) (hu : ∀ i, us i ≤ 1) (hf : ∀ i, us i = 1 → dp i = 4 → fn i = 0)
    (l1 : us l = 1) (dl : dp l = 4) (pl : pf l = x) (hr : rt = l) :
    az_I (az_K (az_put m x none)) (az_put m x none) (n - 1) (az_f us l 0) dp pf ct sm fn tb cd cc tu tc ch 0 := by
  have T := az_T_keys (az_takeA t l1 dl pl hr (az_f_s us l 0) (fun j hj => az_f_n hj) ch) (K' := az_K (az_put m x none)) (fun k => az_K_take k)
  have hno : ∀ i, az_f us l 0 i ≠ 1 := fun i hi => az_root0 T hi rfl
  have hl2 := (t.1 l l1).2.1
  refine ⟨T, ⟨fun i hi => absurd hi (hno i), hn.2⟩, az_L_less hL (az_leaf_tb hL l1 (hf l l1 dl)), ?_, az_u1 hu l (Nat.zero_le 1), fun i hi => absurd hi (hno i)⟩
  have e := az_M_at (us' := az_f us l 0) (dp' := dp) (fn' := fn) (l := l) (q := l) hm hl2 hl2 (fun i hi => az_lf_e (az_f_n hi) rfl) (fun i hi => az_bf_e (az_f_n hi) rfl rfl)
  rw [az_lf_0 (us := az_f us l 0) (Or.inl (hno l)), az_lf_1 l1 dl, az_bf_0 (Or.inr dl), az_bf_0 (Or.inr dl)] at e
  have z1 : az_S (az_lf (az_f us l 0) dp) 128 = 0 := by
    rw [az_S_congr (g := fun _ => 0) (fun i _ => az_lf_0 (Or.inl (hno i))), az_S_const0]
  refine ⟨by omega, ?_⟩
  rw [e.2, if_neg (by omega), if_pos (by omega)]
  omega
theorem az_finTB {p : Nat} {fn' tb' cd' cc' tu' tc' : Nat → Nat} (t : az_T (az_K m) us dp pf ch rt) (hn : az_N (az_put m x none) us dp pf ct sm) (hm : az_M us dp fn n) (hu : ∀ i, us i ≤ 1) (hf : ∀ i, us i = 1 → dp i = 4 → fn i = 0)
    (l1 : us l = 1) (dl : dp l = 4) (pl : pf l = x) (p1 : us p = 1) (p2 : dp p < 4) (p3 : az_un (dp p) (pf p) x) (p4 : ch p (az_dg x (dp p)) = l) (hn0 : 2 ≤ n)
    (hL : az_L (az_f us l 0) fn' tb' cd' cc' tu' tc' (az_h ch p (az_dg x (dp p)) 0)) (hF : fn' = az_f fn p (fn p - 1)) (h3 : 3 ≤ fn p) :
    az_I (az_K (az_put m x none)) (az_put m x none) (n - 1) (az_f us l 0) dp pf ct sm fn' tb' cd' cc' tu' tc' (az_h ch p (az_dg x (dp p)) 0) rt := by
  have pl' : p ≠ l := by intro z; rw [z, dl] at p2; omega
  have hl2 := (t.1 l l1).2.1
  have hp2 := (t.1 p p1).2.1
  have u2 : az_f us l 0 p = 1 := by rw [az_f_n pl']; exact p1
  have u3 : az_f us l 0 l ≠ 1 := by rw [az_f_s]; omega
  have c3 : ∃ a b, a < 16 ∧ b < 16 ∧ a ≠ b ∧ az_h ch p (az_dg x (dp p)) 0 p a ≠ 0 ∧ az_h ch p (az_dg x (dp p)) 0 p b ≠ 0 := by
    refine az_fan_two ?_
    rw [← (hL.1 p u2).2.2.1, hF, az_f_s]
    omega
  have T := az_T_keys (az_takeB t l1 dl pl p1 p2 p3 p4 (az_f_s us l 0) (fun j hj => az_f_n hj) (az_h_s _ _ _ _) (fun j c _ hj => az_h_n hj) c3) (K' := az_K (az_put m x none)) (fun k => az_K_take k)
  have old : ∀ i, az_f us l 0 i = 1 → us i = 1 := by
    intro i hi
    by_cases z : i = l
    · rw [z] at hi; exact absurd hi u3
    · rw [az_f_n z] at hi; exact hi
  refine ⟨T, az_N_congr hn (fun i hi => ⟨old i hi, rfl, rfl, rfl, rfl⟩) hn.2.1 hn.2.2, hL, ?_, az_u1 hu l (Nat.zero_le 1), ?_⟩
  · subst hF
    have e := az_M_at (us' := az_f us l 0) (dp' := dp) (fn' := az_f fn p (fn p - 1)) (l := l) (q := p) hm hl2 hp2 (fun i hi => az_lf_e (az_f_n hi) rfl)
      (fun i hi => by
        by_cases z : i = l
        · rw [az_bf_0 (Or.inr (by rw [z]; exact dl)), az_bf_0 (Or.inr (by rw [z]; exact dl))]
        · exact az_bf_e (az_f_n z) rfl (az_f_n hi))
    rw [az_lf_0 (us := az_f us l 0) (Or.inl u3), az_lf_1 l1 dl, az_bf_1 u2 p2, az_bf_1 p1 p2, az_f_s, if_neg (by omega)] at e
    refine ⟨by omega, ?_⟩
    rw [e.2, if_neg (by omega)]
    omega
  · intro i hi hd
    subst hF
    have ip : i ≠ p := by intro z; rw [z] at hd; omega
    rw [az_f_n ip]
    exact hf i (old i hi) hd
theorem az_finTC {p g o co : Nat} {fn' tb' cd' cc' tu' tc' : Nat → Nat} {ch' : Nat → Nat → Nat} {rt' : Nat} (t : az_T (az_K m) us dp pf ch rt) (hn : az_N (az_put m x none) us dp pf ct sm) (hm : az_M us dp fn n) (hu : ∀ i, us i ≤ 1) (hf : ∀ i, us i = 1 → dp i = 4 → fn i = 0)
    (l1 : us l = 1) (dl : dp l = 4) (pl : pf l = x) (p1 : us p = 1) (p2 : dp p < 4) (p3 : az_un (dp p) (pf p) x) (p4 : ch p (az_dg x (dp p)) = l) (hn0 : 2 ≤ n)
    (hg : az_at us dp pf ch rt x g p) (o1 : ch p co = o) (o2 : o ≠ 0) (o3 : co < 16) (o4 : co ≠ az_dg x (dp p)) (o5 : ∀ c, c < 16 → c ≠ az_dg x (dp p) → ch p c ≠ 0 → c = co)
    (hL : az_L (az_f (az_f us l 0) p 0) fn' tb' cd' cc' tu' tc' ch') (f1 : fn p = 2) (f3 : ∀ i, i ≠ p → fn' i = fn i)
    (c1 : us g = 1 → ch' g (az_dg x (dp g)) = o) (c2 : ∀ j c, us j = 1 → j ≠ p → ¬ (j = g ∧ c = az_dg x (dp g)) → ch' j c = ch j c)
    (r1 : g = 0 → rt' = o) (r2 : g ≠ 0 → rt' = rt) :
    az_I (az_K (az_put m x none)) (az_put m x none) (n - 1) (az_f (az_f us l 0) p 0) dp pf ct sm fn' tb' cd' cc' tu' tc' ch' rt' := by
  have pl' : p ≠ l := by intro z; rw [z, dl] at p2; omega
  have hl2 := (t.1 l l1).2.1
  have hp2 := (t.1 p p1).2.1
  have v1 : az_f (az_f us l 0) p 0 l = 0 := by rw [az_f_n (fun z => pl' z.symm), az_f_s]
  have v2 : az_f (az_f us l 0) p 0 p = 0 := az_f_s _ _ _
  have v3 : ∀ j, j ≠ l → j ≠ p → az_f (az_f us l 0) p 0 j = us j := fun j h1 h2 => by rw [az_f_n h2, az_f_n h1]
  have T := az_T_keys (az_takeC t l1 dl pl p1 p2 p3 p4 hg o1 o2 o3 o4 o5 v1 v2 v3 c1 c2 r1 r2) (K' := az_K (az_put m x none)) (fun k => az_K_take k)
  have old : ∀ i, az_f (az_f us l 0) p 0 i = 1 → us i = 1 ∧ i ≠ p := by
    intro i hi
    by_cases z : i = l
    · rw [z, v1] at hi; omega
    · by_cases y : i = p
      · rw [y, v2] at hi; omega
      · rw [v3 i z y] at hi; exact ⟨hi, y⟩
  refine ⟨T, az_N_congr hn (fun i hi => ⟨(old i hi).1, rfl, rfl, rfl, rfl⟩) hn.2.1 hn.2.2, hL, ?_, az_u1 (az_u1 hu l (Nat.zero_le 1)) p (Nat.zero_le 1), ?_⟩
  · have e := az_M_at (us' := az_f (az_f us l 0) p 0) (dp' := dp) (fn' := fn') (l := l) (q := p) hm hl2 hp2
      (fun i hi => by
        by_cases z : i = p
        · rw [az_lf_0 (Or.inr (by rw [z]; omega)), az_lf_0 (Or.inr (by rw [z]; omega))]
        · exact az_lf_e (v3 i hi z) rfl)
      (fun i hi => by
        by_cases z : i = l
        · rw [az_bf_0 (Or.inr (by rw [z]; exact dl)), az_bf_0 (Or.inr (by rw [z]; exact dl))]
        · exact az_bf_e (v3 i z hi) rfl (f3 i hi))
    rw [az_lf_0 (us := az_f (az_f us l 0) p 0) (Or.inl (by omega)), az_lf_1 l1 dl, az_bf_0 (us := az_f (az_f us l 0) p 0) (Or.inl (by omega)), az_bf_1 p1 p2, f1, if_neg (by omega)] at e
    refine ⟨by omega, ?_⟩
    rw [e.2, if_neg (by omega)]
    omega
  · intro i hi hd
    have w := old i hi
    rw [f3 i w.2]
    exact hf i w.1 hd
end
