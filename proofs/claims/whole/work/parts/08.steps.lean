/-! the whole of X's state, and its three ways of putting a leaf in and of taking one out -/
theorem az_K_put {m : Nat → Option Int32} {x : Nat} {v : Int32} (k : Nat) : az_K (az_put m x (some v)) k ↔ az_K m k ∨ k = x := by
  unfold az_K
  by_cases z : k = x
  · rw [z, az_put_s]
    exact ⟨fun _ => Or.inr rfl, fun _ w => nomatch w⟩
  · rw [az_put_n z]
    exact ⟨fun w => Or.inl w, fun w => w.elim id (fun y => absurd y z)⟩
theorem az_K_take {m : Nat → Option Int32} {x : Nat} (k : Nat) : az_K (az_put m x none) k ↔ az_K m k ∧ k ≠ x := by
  unfold az_K
  by_cases z : k = x
  · rw [z, az_put_s]
    exact ⟨fun w => absurd rfl w, fun w => absurd rfl w.2⟩
  · rw [az_put_n z]
    exact ⟨fun w => ⟨w, z⟩, fun w => w.1⟩
theorem az_C_add {m : Nat → Option Int32} {x : Nat} {v : Int32} (hx : x < 65536) (nx : ¬ az_K m x) : az_C (az_put m x (some v)) 65536 = az_C m 65536 + 1 := by
  rw [az_C_put, if_pos hx, az_c1_some (az_put_s m x (some v)), az_c1_none (az_nK nx)]
  rfl
theorem az_C_set {m : Nat → Option Int32} {x : Nat} {v : Int32} (kx : az_K m x) : az_C (az_put m x (some v)) 65536 = az_C m 65536 := by
  rw [az_C_put, az_c1_some (az_put_s m x (some v)), az_c1_K kx]
  split <;> omega
theorem az_C_take {m : Nat → Option Int32} {x : Nat} (hx : x < 65536) (kx : az_K m x) : az_C (az_put m x none) 65536 = az_C m 65536 - 1 := by
  rw [az_C_put, if_pos hx, az_c1_none (az_put_s m x none), az_c1_K kx]
  omega
theorem az_M_congr {us dp fn dp' fn' : Nat → Nat} {n : Int} (h : az_M us dp fn n) (e : ∀ i, us i = 1 → dp' i = dp i ∧ fn' i = fn i) : az_M us dp' fn' n := by
  have e1 : az_lf us dp' = az_lf us dp := by
    funext i
    unfold az_lf
    by_cases z : us i = 1
    · rw [(e i z).1]
    · rw [if_neg (fun w => z w.1), if_neg (fun w => z w.1)]
  have e2 : az_bf us dp' fn' = az_bf us dp fn := by
    funext i
    unfold az_bf
    by_cases z : us i = 1
    · rw [(e i z).1, (e i z).2]
    · rw [if_neg (fun w => z w.1), if_neg (fun w => z w.1)]
  unfold az_M
  rw [e1, e2]
  exact h
theorem az_M_at {us dp fn us' dp' fn' : Nat → Nat} {n : Int} {l q : Nat} (hm : az_M us dp fn n) (hl : l < 128) (hq : q < 128) (h1 : ∀ i, i ≠ l → az_lf us' dp' i = az_lf us dp i) (h2 : ∀ i, i ≠ q → az_bf us' dp' fn' i = az_bf us dp fn i) :
    az_S (az_lf us' dp') 128 = n + (az_lf us' dp' l - az_lf us dp l) ∧ az_S (az_bf us' dp' fn') 128 = (if n = 0 then 0 else n - 1) + (az_bf us' dp' fn' q - az_bf us dp fn q) := by
  rw [az_S_at l hl h1, az_S_at q hq h2, hm.1, hm.2]
  exact ⟨rfl, rfl⟩
theorem az_lf_0 {us dp : Nat → Nat} {i : Nat} (h : us i ≠ 1 ∨ dp i ≠ 4) : az_lf us dp i = 0 := if_neg (fun w => h.elim (fun z => z w.1) (fun z => z w.2))
theorem az_lf_1 {us dp : Nat → Nat} {i : Nat} (h : us i = 1) (h2 : dp i = 4) : az_lf us dp i = 1 := if_pos ⟨h, h2⟩
theorem az_bf_0 {us dp fn : Nat → Nat} {i : Nat} (h : us i ≠ 1 ∨ dp i = 4) : az_bf us dp fn i = 0 := if_neg (fun w => h.elim (fun z => z w.1) (fun z => by omega))
theorem az_bf_1 {us dp fn : Nat → Nat} {i : Nat} (h : us i = 1) (h2 : dp i < 4) : az_bf us dp fn i = (fn i : Int) - 1 := if_pos ⟨h, h2⟩
theorem az_lf_e {us dp us' dp' : Nat → Nat} {i : Nat} (h : us' i = us i) (h2 : dp' i = dp i) : az_lf us' dp' i = az_lf us dp i := by unfold az_lf; rw [h, h2]
theorem az_bf_e {us dp fn us' dp' fn' : Nat → Nat} {i : Nat} (h : us' i = us i) (h2 : dp' i = dp i) (h3 : fn' i = fn i) : az_bf us' dp' fn' i = az_bf us dp fn i := by unfold az_bf; rw [h, h2, h3]
def az_I (K : Nat → Prop) (m : Nat → Option Int32) (n : Int) (us dp pf ct : Nat → Nat) (sm : Nat → Int64) (fn tb cd cc tu tc : Nat → Nat) (ch : Nat → Nat → Nat) (rt : Nat) : Prop :=
  az_T K us dp pf ch rt ∧ az_N m us dp pf ct sm ∧ az_L us fn tb cd cc tu tc ch ∧ az_M us dp fn n ∧ (∀ i, us i ≤ 1) ∧ (∀ i, us i = 1 → dp i = 4 → fn i = 0)
theorem az_u1 {us : Nat → Nat} (h : ∀ i, us i ≤ 1) (j : Nat) {v : Nat} (hv : v ≤ 1) : ∀ i, az_f us j v i ≤ 1 := by
  intro i
  by_cases z : i = j
  · rw [z, az_f_s]; exact hv
  · rw [az_f_n z]; exact h i
section
variable {m : Nat → Option Int32} {us dp pf ct : Nat → Nat} {sm : Nat → Int64} {fn tb cd cc tu tc : Nat → Nat} {ch : Nat → Nat → Nat} {rt : Nat} {n : Int} {x l : Nat}
/-- the new leaf's counts, ahead of its being counted -/
theorem az_N_leaf (hn : az_N m us dp pf ct sm) (nx : ¬ az_K m x) (dl : dp l = 4) (pl : pf l = x) (cl : ct l = 0) (sl : sm l = 0) : az_N m (az_f us l 1) dp pf ct sm := by
  refine ⟨fun i hi => ?_, hn.2⟩
  by_cases z : i = l
  · rw [z, dl, pl, cl, sl, az_w4, az_C_succ, az_Q_succ, az_c1_none (az_nK nx), az_cq_none (az_nK nx)]
    refine ⟨by omega, ?_⟩
    rw [show az_Q m x + 0 - az_Q m x = 0 by omega]
    rfl
  · rw [az_f_n z] at hi
    exact hn.1 i hi
theorem az_finC (t : az_T (az_K m) us dp pf ch rt) (hn : az_N m us dp pf ct sm) (hL : az_L (az_f us l 1) fn tb cd cc tu tc ch) (hm : az_M us dp fn n) (hu : ∀ i, us i ≤ 1) (hf : ∀ i, us i = 1 → dp i = 4 → fn i = 0)
    (hx : x < 65536) (nx : ¬ az_K m x) (hl : 0 < l ∧ l < 128) (ul : us l = 0) (dl : dp l = 4) (pl : pf l = x) (cl : ct l = 0) (sl : sm l = 0) (fl : fn l = 0) (hr : rt = 0) (hn0 : n = 0) :
    az_I (fun k => az_K m k ∨ k = x) m (n + 1) (az_f us l 1) dp pf ct sm fn tb cd cc tu tc ch l := by
  refine ⟨az_addC t hx hl dl pl hr (az_f_s us l 1) (fun j hj => az_f_n hj), az_N_leaf hn nx dl pl cl sl, hL, ?_, az_u1 hu l (Nat.le_refl 1), ?_⟩
  · have e := az_M_at (us' := az_f us l 1) (dp' := dp) (fn' := fn) hm hl.2 hl.2 (fun i hi => az_lf_e (az_f_n hi) rfl) (fun i hi => az_bf_e (az_f_n hi) rfl rfl)
    rw [az_lf_1 (az_f_s us l 1) dl, az_lf_0 (Or.inl (by omega)), az_bf_0 (Or.inr dl), az_bf_0 (Or.inr dl), if_pos hn0] at e
    refine ⟨by omega, ?_⟩
    rw [e.2, if_neg (by omega)]
    omega
  · intro i hi hd
    by_cases z : i = l
    · rw [z]; exact fl
    · rw [az_f_n z] at hi; exact hf i hi hd
theorem az_n_pos (t : az_T (az_K m) us dp pf ch rt) {p : Nat} (p1 : us p = 1) : 1 ≤ az_C m 65536 := by
  obtain ⟨k, k1, _⟩ := az_inh' t p1
  have := az_C_gt (Nat.zero_le k) (t.2.2.2.2.2.2.2 k k1) k1
  have e : az_C m 0 = 0 := rfl
  omega
theorem az_n_two (t : az_T (az_K m) us dp pf ch rt) {p : Nat} (p1 : us p = 1) (p2 : dp p < 4) : 2 ≤ az_C m 65536 := by
  obtain ⟨k, k', k1, k2, _, _, k5⟩ := az_two t p1 p2
  have e : az_C m 0 = 0 := rfl
  have b1 := t.2.2.2.2.2.2.2 k k1
  have b2 := t.2.2.2.2.2.2.2 k' k2
  rcases Nat.lt_trichotomy k k' with z | z | z
  · have a1 := az_C_gt (Nat.zero_le k) z k1
    have a2 := az_C_gt (Nat.le_refl k') b2 k2
    omega
  · rw [z] at k5; exact absurd rfl k5
  · have a1 := az_C_gt (Nat.zero_le k') z k2
    have a2 := az_C_gt (Nat.le_refl k) b1 k1
    omega
theorem az_finB {p : Nat} {fn' tb' cd' cc' tu' tc' : Nat → Nat} (t : az_T (az_K m) us dp pf ch rt) (hn : az_N m us dp pf ct sm) (hm : az_M us dp fn n) (hu : ∀ i, us i ≤ 1) (hf : ∀ i, us i = 1 → dp i = 4 → fn i = 0)
    (hx : x < 65536) (nx : ¬ az_K m x) (hl : 0 < l ∧ l < 128) (ul : us l = 0) (dl : dp l = 4) (pl : pf l = x) (cl : ct l = 0) (sl : sm l = 0) (fl : fn l = 0)
    (p1 : us p = 1) (p2 : dp p < 4) (p3 : az_un (dp p) (pf p) x) (p4 : ch p (az_dg x (dp p)) = 0) (hn0 : 1 ≤ n)
    (hL : az_L (az_f us l 1) fn' tb' cd' cc' tu' tc' (az_h ch p (az_dg x (dp p)) l)) (hF : fn' = az_f fn p (fn p + 1)) :
    az_I (fun k => az_K m k ∨ k = x) m (n + 1) (az_f us l 1) dp pf ct sm fn' tb' cd' cc' tu' tc' (az_h ch p (az_dg x (dp p)) l) rt := by
  have pl' : p ≠ l := by intro z; rw [z, ul] at p1; omega
  refine ⟨az_addB t hx nx hl ul dl pl p1 p2 p3 p4 (az_f_s us l 1) (fun j hj => az_f_n hj) (az_h_s _ _ _ _) (fun j c _ hj => az_h_n hj), az_N_leaf hn nx dl pl cl sl, hL, ?_, az_u1 hu l (Nat.le_refl 1), ?_⟩
  · subst hF
    have hp := (t.1 p p1).2.1
    have e := az_M_at (us' := az_f us l 1) (dp' := dp) (fn' := az_f fn p (fn p + 1)) (l := l) (q := p) hm hl.2 hp (fun i hi => az_lf_e (az_f_n hi) rfl)
      (fun i hi => by
        by_cases z : i = l
        · rw [az_bf_0 (Or.inr (by rw [z]; exact dl)), az_bf_0 (Or.inr (by rw [z]; exact dl))]
        · exact az_bf_e (az_f_n z) rfl (az_f_n hi))
    rw [az_lf_1 (az_f_s us l 1) dl, az_lf_0 (us := us) (Or.inl (by omega)), az_bf_1 (us := az_f us l 1) (by rw [az_f_n pl']; exact p1) p2, az_bf_1 p1 p2, az_f_s, if_neg (by omega)] at e
    refine ⟨by omega, ?_⟩
    rw [e.2, if_neg (by omega)]
    omega
  · intro i hi hd
    subst hF
    have ip : i ≠ p := by intro z; rw [z] at hd; omega
    rw [az_f_n ip]
    by_cases z : i = l
    · rw [z]; exact fl
    · rw [az_f_n z] at hi; exact hf i hi hd
/-- the new branch's counts, ahead of the new leaf's being counted -/
theorem az_N_branch {p q r b : Nat} (t : az_T (az_K m) us dp pf ch rt) (hn : az_N m us dp pf ct sm) (ha : az_at us dp pf ch rt x p q) (hq : q ≠ 0) (hqu : ¬ az_un (dp q) (pf q) x) (hr : az_com (pf q) x r) (hx : x < 65536)
    (db : dp b = r) (pb : pf b = az_cut x r) (cb : ct b = ct q) (sb : sm b = sm q) : (ct b : Int) = az_C m (pf b + az_w (dp b)) - az_C m (pf b) ∧ sm b = Int64.ofInt (az_Q m (pf b + az_w (dp b)) - az_Q m (pf b)) := by
  obtain ⟨q1, hlt, hpr, hK⟩ := az_joint t ha hq hqu hr
  have a := t.1 q q1
  have e := hn.1 q q1
  have al : az_cut x r % az_w r = 0 := az_cut_al x r
  have u : az_un r (az_cut x r) (pf q) := az_un_trans (az_cut_un x r) (az_un_symm hr.2.1)
  have iv := az_iv_in (Nat.le_of_lt hlt) a.2.2.1 al a.2.2.2.2 u
  have hwp := az_w_pos (dp q)
  have hin : ∀ k, az_cut x r ≤ k → k < az_cut x r + az_w r → az_K m k → pf q ≤ k ∧ k < pf q + az_w (dp q) := by
    intro k h1 h2 hk
    have w := hK k hk ((az_un_iv (by omega) al).mpr ⟨h1, h2⟩)
    exact (az_un_iv a.2.2.1 a.2.2.2.2).mp w
  rw [cb, sb, db, pb, e.1, e.2, az_C_shrink iv.1 (by omega) iv.2 hin, az_Q_shrink iv.1 (by omega) iv.2 hin]
  exact ⟨rfl, rfl⟩
end
