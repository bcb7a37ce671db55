/-! what the walks down the tree answer -/
section
variable {m : Nat → Option Int32} {us dp pf ct : Nat → Nat} {sm : Nat → Int64} {ch : Nat → Nat → Nat} {rt : Nat}
/-- the walk that counts the keys below b: at the node nd, with tot counted so far -/
def az_J (m : Nat → Option Int32) (us dp pf : Nat → Nat) (b nd : Nat) (tot : Int) : Prop :=
  (nd = 0 ∧ tot = az_C m b) ∨ (us nd = 1 ∧ ∃ a, tot = az_C m a ∧ a ≤ b ∧ a ≤ pf nd ∧ ∀ k, a ≤ k → k < b → az_K m k → az_un (dp nd) (pf nd) k)
theorem az_J_0 (t : az_T (az_K m) us dp pf ch rt) (b : Nat) : az_J m us dp pf b rt 0 := by
  by_cases z : rt = 0
  · refine Or.inl ⟨z, ?_⟩
    rw [az_C_eq (Nat.zero_le b) (fun k _ _ => t.2.2.2.2.2.2.1.1 z k)]
    rfl
  · exact Or.inr ⟨az_rootu t z, 0, rfl, Nat.zero_le b, Nat.zero_le _, fun k _ _ hk => (az_rootk t hk).2.2⟩
theorem az_J_out (t : az_T (az_K m) us dp pf ch rt) (hn : az_N m us dp pf ct sm) {b nd : Nat} {tot : Int} (h : az_J m us dp pf b nd tot) (h0 : nd ≠ 0) (hu : ¬ az_un (dp nd) (pf nd) b) :
    (pf nd < b → tot + ct nd = az_C m b) ∧ (¬ pf nd < b → tot = az_C m b) := by
  rcases h with ⟨z, _⟩ | ⟨u, a, h1, h2, h3, h4⟩
  · exact absurd z h0
  · have q := t.1 nd u
    have iv : ∀ k, az_un (dp nd) (pf nd) k ↔ pf nd ≤ k ∧ k < pf nd + az_w (dp nd) := fun k => az_un_iv q.2.2.1 q.2.2.2.2
    rw [iv] at hu
    have wp := az_w_pos (dp nd)
    refine ⟨fun z => ?_, fun z => ?_⟩
    · have e := az_C_shrink (m := m) (a := a) (p := pf nd) (q := pf nd + az_w (dp nd)) (b := b) h3 (by omega) (by omega) (fun k k1 k2 k3 => (iv k).mp (h4 k k1 k2 k3))
      rw [(hn.1 nd u).1, h1]
      omega
    · rw [h1]
      refine (az_C_eq h2 (fun k k1 k2 k3 => ?_)).symm
      have := (iv k).mp (h4 k k1 k2 k3)
      omega
theorem az_J_leaf (t : az_T (az_K m) us dp pf ch rt) {b nd : Nat} {tot : Int} (h : az_J m us dp pf b nd tot) (h0 : nd ≠ 0) (hu : az_un (dp nd) (pf nd) b) (hd : dp nd = 4) : tot = az_C m b := by
  rcases h with ⟨z, _⟩ | ⟨u, a, h1, h2, h3, h4⟩
  · exact absurd z h0
  · rw [h1]
    rw [hd] at hu h4
    have e := az_un4.mp hu
    refine (az_C_eq h2 (fun k k1 k2 k3 => ?_)).symm
    have := az_un4.mp (h4 k k1 k2 k3)
    omega
theorem az_J_step (t : az_T (az_K m) us dp pf ch rt) {b nd : Nat} {tot : Int} (h : az_J m us dp pf b nd tot) (h0 : nd ≠ 0) (hu : az_un (dp nd) (pf nd) b) (hd : dp nd < 4) :
    az_J m us dp pf b (ch nd (az_dg b (dp nd))) (tot + (az_C m (pf nd + az_dg b (dp nd) * az_w (dp nd + 1)) - az_C m (pf nd))) := by
  rcases h with ⟨z, _⟩ | ⟨u, a, h1, h2, h3, h4⟩
  · exact absurd z h0
  · have q := t.1 nd u
    have iv : ∀ k, az_un (dp nd) (pf nd) k ↔ pf nd ≤ k ∧ k < pf nd + az_w (dp nd) := fun k => az_un_iv q.2.2.1 q.2.2.2.2
    have bi := (iv b).mp hu
    have e1 : az_C m (pf nd) = az_C m a := by
      refine az_C_eq h3 (fun k k1 k2 k3 => ?_)
      have := (iv k).mp (h4 k k1 (by omega) k3)
      omega
    have sb := (az_sub_iv (k := b) hd q.2.2.2.2 (az_dg_lt b (dp nd))).mp ⟨hu, rfl⟩
    have key : ∀ k, pf nd + az_dg b (dp nd) * az_w (dp nd + 1) ≤ k → k < b → az_K m k → ch nd (az_dg b (dp nd)) ≠ 0 ∧ az_un (dp (ch nd (az_dg b (dp nd)))) (pf (ch nd (az_dg b (dp nd)))) k := by
      intro k k1 k2 k3
      have s := (az_sub_iv (k := k) hd q.2.2.2.2 (az_dg_lt b (dp nd))).mpr ⟨k1, by omega⟩
      have h5 := t.2.2.2.1 nd k u hd k3 s.1
      rw [s.2] at h5
      exact h5
    have e2 : tot + (az_C m (pf nd + az_dg b (dp nd) * az_w (dp nd + 1)) - az_C m (pf nd)) = az_C m (pf nd + az_dg b (dp nd) * az_w (dp nd + 1)) := by omega
    rw [e2]
    by_cases z : ch nd (az_dg b (dp nd)) = 0
    · exact Or.inl ⟨z, (az_C_eq sb.1 (fun k k1 k2 k3 => (key k k1 k2 k3).1 z)).symm⟩
    · have c := t.2.2.1 nd _ u hd (az_dg_lt b (dp nd)) z
      have cq := t.1 _ c.1
      have ip := az_in_part c.2.1 cq.2.2.1 q.2.2.2.2 cq.2.2.2.2 c.2.2.1
      rw [c.2.2.2] at ip
      exact Or.inr ⟨c.1, _, rfl, sb.1, ip.1, fun k k1 k2 k3 => (key k k1 k2 k3).2⟩
/-- the walk to the key of a rank -/
def az_R (m : Nat → Option Int32) (us pf ct : Nat → Nat) (rank : Int) (nd left : Nat) : Prop := us nd = 1 ∧ left < ct nd ∧ az_C m (pf nd) + left = rank
theorem az_R_0 (t : az_T (az_K m) us dp pf ch rt) (hn : az_N m us dp pf ct sm) {rank : Nat} (h : (rank : Int) < az_C m 65536) : az_R m us pf ct rank rt rank := by
  have r := az_rootC t hn
  have z : rt ≠ 0 := by
    intro z
    rw [z, hn.2.1] at r
    omega
  refine ⟨az_rootu t z, by omega, ?_⟩
  rw [(r.2 z).1]; omega
theorem az_R_leaf (t : az_T (az_K m) us dp pf ch rt) (hn : az_N m us dp pf ct sm) {rank : Int} {nd left : Nat} (h : az_R m us pf ct rank nd left) (hd : dp nd = 4) : az_K m (pf nd) ∧ az_C m (pf nd) = rank := by
  obtain ⟨u, h1, h2⟩ := h
  have k := t.2.1 nd u hd
  obtain ⟨v, hv⟩ := az_K_some k
  have := (az_leaf t hn u hd hv).1
  exact ⟨k, by omega⟩
/-- among the children of nd: at digit c -/
def az_Rc (m : Nat → Option Int32) (dp pf : Nat → Nat) (rank : Int) (nd c left : Nat) : Prop := az_C m (pf nd + c * az_w (dp nd + 1)) + left = rank ∧ rank < az_C m (pf nd + az_w (dp nd))
theorem az_Rc_0 (hn : az_N m us dp pf ct sm) {rank : Int} {nd left : Nat} (h : az_R m us pf ct rank nd left) : az_Rc m dp pf rank nd 0 left := by
  obtain ⟨u, h1, h2⟩ := h
  have e := (hn.1 nd u).1
  refine ⟨?_, by omega⟩
  rw [Nat.zero_mul, Nat.add_zero]
  exact h2
theorem az_Rc_next (t : az_T (az_K m) us dp pf ch rt) (hn : az_N m us dp pf ct sm) {rank : Int} {nd c left : Nat} (u : us nd = 1) (hd : dp nd < 4) (hc : c < 16) (h : az_Rc m dp pf rank nd c left) (hl : ct (ch nd c) ≤ left) : az_Rc m dp pf rank nd (c + 1) (left - ct (ch nd c)) := by
  have e := (az_sub t hn u hd hc).1
  obtain ⟨h1, h2⟩ := h
  exact ⟨by omega, h2⟩
theorem az_Rc_stop (t : az_T (az_K m) us dp pf ch rt) (hn : az_N m us dp pf ct sm) {rank : Int} {nd c left : Nat} (u : us nd = 1) (hd : dp nd < 4) (hc : c < 16) (h : az_Rc m dp pf rank nd c left) (hl : c = 15 ∨ left < ct (ch nd c)) : az_R m us pf ct rank (ch nd c) left ∧ dp nd < dp (ch nd c) := by
  have e := az_sub t hn u hd hc
  obtain ⟨h1, h2⟩ := h
  have hlt : left < ct (ch nd c) := by
    rcases hl with z | z
    · subst z
      have w := az_w_succ hd
      have e1 := e.1
      rw [show (15 + 1) * az_w (dp nd + 1) = az_w (dp nd) by omega] at e1
      omega
    · exact z
  have z : ch nd c ≠ 0 := by
    intro z
    rw [z, hn.2.1] at hlt
    omega
  have q := t.2.2.1 nd c u hd hc z
  refine ⟨⟨q.1, hlt, ?_⟩, q.2.1⟩
  rw [e.2 z]
  exact h1
/-- the greatest number of first digits that x shares with a key -/
def az_sd (K : Nat → Prop) (x r : Nat) : Prop := r ≤ 4 ∧ (∃ k, K k ∧ az_un r x k) ∧ (r < 4 → ∀ k, K k → ¬ az_un (r + 1) x k)
theorem az_sd_uniq {K : Nat → Prop} {x r r' : Nat} (h : az_sd K x r) (h' : az_sd K x r') : r = r' := by
  obtain ⟨a1, ⟨k, k1, k2⟩, a3⟩ := h
  obtain ⟨b1, ⟨k', k3, k4⟩, b3⟩ := h'
  rcases Nat.lt_trichotomy r r' with z | z | z
  · exact absurd (az_un_le z b1 k4) (a3 (by omega) k' k3)
  · exact z
  · exact absurd (az_un_le z a1 k2) (b3 (by omega) k k1)
variable {K : Nat → Prop}
def az_D (K : Nat → Prop) (us dp pf : Nat → Nat) (x nd D : Nat) : Prop := us nd = 1 ∧ D ≤ dp nd ∧ az_un D (pf nd) x ∧ ∀ k, K k → az_un D x k → az_un (dp nd) (pf nd) k
theorem az_D_0 (t : az_T K us dp pf ch rt) (z : rt ≠ 0) {x : Nat} (hx : x < 65536) : az_D K us dp pf x rt 0 := by
  have u := az_rootu t z
  exact ⟨u, Nat.zero_le _, az_un0 (t.1 rt u).2.2.2.1 hx, fun k hk _ => (az_rootk t hk).2.2⟩
theorem az_D_out (t : az_T K us dp pf ch rt) {x nd D r : Nat} (h : az_D K us dp pf x nd D) (hr : az_com (pf nd) x r) (hd : ¬ az_un (dp nd) (pf nd) x ∨ dp nd = 4) : az_sd K x r := by
  obtain ⟨u, h1, h2, h3⟩ := h
  have d4 := (t.1 nd u).2.2.1
  have hle : r ≤ dp nd := by
    rcases hd with z | z
    · exact Nat.le_of_lt (az_com_lt hr d4 z)
    · have := hr.1; omega
  obtain ⟨k, k1, k2⟩ := az_inh' t u
  refine ⟨hr.1, ⟨k, k1, az_un_trans (az_un_symm hr.2.1) (az_un_le hle d4 k2)⟩, fun r4 k' k3 k4 => ?_⟩
  have dr := az_com_ge hr (by omega) h2
  have e1 := h3 k' k3 (az_un_le (by omega) (by omega) k4)
  have rlt : r < dp nd := by
    rcases hd with z | z
    · exact az_com_lt hr d4 z
    · omega
  have e2 : az_un (r + 1) (pf nd) x := az_un_trans (az_un_le rlt d4 e1) (az_un_symm k4)
  have := az_com_ge hr (by omega) e2
  omega
theorem az_D_stop (t : az_T K us dp pf ch rt) {x nd D : Nat} (h : az_D K us dp pf x nd D) (hu : az_un (dp nd) (pf nd) x) (hc : dp nd < 4 → ch nd (az_dg x (dp nd)) = 0) : az_sd K x (dp nd) := by
  obtain ⟨u, h1, h2, h3⟩ := h
  have d4 := (t.1 nd u).2.2.1
  obtain ⟨k, k1, k2⟩ := az_inh' t u
  refine ⟨d4, ⟨k, k1, az_un_trans (az_un_symm hu) k2⟩, fun r4 k' k3 k4 => ?_⟩
  have e1 := h3 k' k3 (az_un_le (by omega) (by omega) k4)
  have e2 := t.2.2.2.1 nd k' u r4 k3 e1
  rw [az_un_dg (Nat.lt_succ_self (dp nd)) (by omega) k4] at e2
  exact e2.1 (hc r4)
theorem az_D_step (t : az_T K us dp pf ch rt) {x nd D : Nat} (h : az_D K us dp pf x nd D) (hu : az_un (dp nd) (pf nd) x) (hd : dp nd < 4) (hc : ch nd (az_dg x (dp nd)) ≠ 0) : az_D K us dp pf x (ch nd (az_dg x (dp nd))) (dp nd + 1) := by
  obtain ⟨u, h1, h2, h3⟩ := h
  have c := t.2.2.1 nd _ u hd (az_dg_lt x (dp nd)) hc
  refine ⟨c.1, c.2.1, ?_, fun k k1 k2 => ?_⟩
  · exact az_un_step hd (az_un_trans (az_un_symm c.2.2.1) hu) c.2.2.2.symm
  · have e1 := h3 k k1 (az_un_le (by omega) (by omega) k2)
    have e2 := t.2.2.2.1 nd k u hd k1 e1
    rw [az_un_dg (Nat.lt_succ_self (dp nd)) (by omega) k2] at e2
    exact e2.2
/-- the walk to the node over all keys that share d digits with x -/
def az_E (K : Nat → Prop) (us dp pf : Nat → Nat) (x d nd : Nat) : Prop := (nd = 0 ∨ us nd = 1) ∧ ∀ k, K k → az_un d x k → us nd = 1 ∧ az_un (dp nd) (pf nd) k
theorem az_E_0 (t : az_T K us dp pf ch rt) (x d : Nat) : az_E K us dp pf x d rt := by
  refine ⟨?_, fun k hk _ => (az_rootk t hk).2⟩
  by_cases z : rt = 0
  · exact Or.inl z
  · exact Or.inr (az_rootu t z)
theorem az_E_step (t : az_T K us dp pf ch rt) {x d nd : Nat} (h : az_E K us dp pf x d nd) (h0 : nd ≠ 0) (hd : dp nd < d) (h4 : d ≤ 4) : az_E K us dp pf x d (ch nd (az_dg x (dp nd))) := by
  have u : us nd = 1 := h.1.elim (fun z => absurd z h0) id
  refine ⟨?_, fun k k1 k2 => ?_⟩
  · by_cases z : ch nd (az_dg x (dp nd)) = 0
    · exact Or.inl z
    · exact Or.inr (t.2.2.1 nd _ u (by omega) (az_dg_lt x (dp nd)) z).1
  · have e1 := h.2 k k1 k2
    have e2 := t.2.2.2.1 nd k u (by omega) k1 e1.2
    rw [az_un_dg hd h4 k2] at e2
    exact ⟨(t.2.2.1 nd _ u (by omega) (az_dg_lt x (dp nd)) e2.1).1, e2.2⟩
theorem az_E_none (t : az_T (az_K m) us dp pf ch rt) {x d nd : Nat} (hd4 : d ≤ 4) (h : az_E (az_K m) us dp pf x d nd) (hz : nd = 0 ∨ (d ≤ dp nd ∧ ¬ az_un d x (pf nd))) : az_Q m (az_cut x d + az_w d) - az_Q m (az_cut x d) = 0 := by
  have e := az_Q_eq (m := m) (a := az_cut x d) (b := az_cut x d + az_w d) (by omega) (fun k k1 k2 k3 => by
    have hk : az_un d x k := az_un_trans (az_un_symm (az_cut_un x d)) ((az_un_iv hd4 (az_cut_al x d)).mpr ⟨k1, k2⟩)
    have e1 := h.2 k k3 hk
    have q := t.1 nd e1.1
    rcases hz with z | ⟨z1, z2⟩
    · omega
    · exact z2 (az_un_trans hk (az_un_symm (az_un_le z1 q.2.2.1 e1.2))))
  omega
theorem az_E_some (t : az_T (az_K m) us dp pf ch rt) {x d nd : Nat} (hd4 : d ≤ 4) (h : az_E (az_K m) us dp pf x d nd) (u : us nd = 1) (hd : d ≤ dp nd) (hu : az_un d x (pf nd)) : az_Q m (az_cut x d + az_w d) - az_Q m (az_cut x d) = az_Q m (pf nd + az_w (dp nd)) - az_Q m (pf nd) := by
  have q := t.1 nd u
  have iv := az_iv_in hd q.2.2.1 (az_cut_al x d) q.2.2.2.2 (az_un_trans (az_cut_un x d) hu)
  have wp := az_w_pos (dp nd)
  refine az_Q_shrink iv.1 (by omega) iv.2 (fun k k1 k2 k3 => ?_)
  have hk : az_un d x k := az_un_trans (az_un_symm (az_cut_un x d)) ((az_un_iv hd4 (az_cut_al x d)).mpr ⟨k1, k2⟩)
  exact (az_un_iv q.2.2.1 q.2.2.2.2).mp (h.2 k k3 hk).2
end
