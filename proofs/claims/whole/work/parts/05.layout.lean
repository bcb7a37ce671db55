/-! counts of the nodes; the layout of the children; numbers of nodes and tables -/
def az_f (f : Nat → Nat) (k v : Nat) : Nat → Nat := fun j => if j = k then v else f j
theorem az_f_s (f : Nat → Nat) (k v : Nat) : az_f f k v k = v := if_pos rfl
theorem az_f_n {f : Nat → Nat} {k v j : Nat} (h : j ≠ k) : az_f f k v j = f j := if_neg h
def az_h (ch : Nat → Nat → Nat) (i c v : Nat) : Nat → Nat → Nat := fun j e => if j = i ∧ e = c then v else ch j e
theorem az_h_s (ch : Nat → Nat → Nat) (i c v : Nat) : az_h ch i c v i c = v := if_pos ⟨rfl, rfl⟩
theorem az_h_n {ch : Nat → Nat → Nat} {i c v j e : Nat} (h : ¬ (j = i ∧ e = c)) : az_h ch i c v j e = ch j e := if_neg h
/-! counts -/
def az_on (us dp pf : Nat → Nat) (x j : Nat) : Bool := us j == 1 && x / az_w (dp j) == pf j / az_w (dp j)
theorem az_on_iff {us dp pf : Nat → Nat} {x j : Nat} : az_on us dp pf x j = true ↔ us j = 1 ∧ az_un (dp j) (pf j) x := by
  unfold az_on az_un
  rw [Bool.and_eq_true, beq_iff_eq, beq_iff_eq]
def az_N (m : Nat → Option Int32) (us dp pf ct : Nat → Nat) (sm : Nat → Int64) : Prop :=
  (∀ i, us i = 1 → (ct i : Int) = az_C m (pf i + az_w (dp i)) - az_C m (pf i) ∧ sm i = Int64.ofInt (az_Q m (pf i + az_w (dp i)) - az_Q m (pf i))) ∧ ct 0 = 0 ∧ sm 0 = 0
section
variable {m : Nat → Option Int32} {us dp pf ct : Nat → Nat} {sm : Nat → Int64} {ch : Nat → Nat → Nat} {rt : Nat}
/-- the count of the c-th child, there or not -/
theorem az_sub (h : az_T (az_K m) us dp pf ch rt) (hn : az_N m us dp pf ct sm) {i c : Nat} (hi : us i = 1) (hd : dp i < 4) (hc : c < 16) :
    (ct (ch i c) : Int) = az_C m (pf i + (c + 1) * az_w (dp i + 1)) - az_C m (pf i + c * az_w (dp i + 1)) ∧ (ch i c ≠ 0 → az_C m (pf (ch i c)) = az_C m (pf i + c * az_w (dp i + 1))) := by
  have a := h.1 i hi
  have hin : ∀ k, pf i + c * az_w (dp i + 1) ≤ k → k < pf i + (c + 1) * az_w (dp i + 1) → az_K m k → ch i c ≠ 0 ∧ az_un (dp (ch i c)) (pf (ch i c)) k := by
    intro k h1 h2 hk
    have e := (az_sub_iv hd a.2.2.2.2 hc).mpr ⟨h1, h2⟩
    have h4 := h.2.2.2.1 i k hi hd hk e.1
    rw [e.2] at h4
    exact h4
  have hw : pf i + c * az_w (dp i + 1) ≤ pf i + (c + 1) * az_w (dp i + 1) := by
    have := Nat.mul_le_mul_right (az_w (dp i + 1)) (show c ≤ c + 1 by omega)
    omega
  by_cases z : ch i c = 0
  · refine ⟨?_, fun y => absurd z y⟩
    rw [z, hn.2.1, az_C_eq hw (fun k h1 h2 hk => (hin k h1 h2 hk).1 z)]
    omega
  · have u := h.2.2.1 i c hi hd hc z
    have b := h.1 _ u.1
    have ip := az_in_part u.2.1 b.2.2.1 a.2.2.2.2 b.2.2.2.2 u.2.2.1
    rw [u.2.2.2] at ip
    have hin2 : ∀ k, pf i + c * az_w (dp i + 1) ≤ k → k < pf i + (c + 1) * az_w (dp i + 1) → az_K m k → pf (ch i c) ≤ k ∧ k < pf (ch i c) + az_w (dp (ch i c)) := by
      intro k h1 h2 hk
      exact (az_un_iv b.2.2.1 b.2.2.2.2).mp (hin k h1 h2 hk).2
    have hwp := az_w_pos (dp (ch i c))
    refine ⟨?_, fun _ => ?_⟩
    · rw [(hn.1 _ u.1).1]
      exact (az_C_shrink ip.1 (by omega) ip.2 hin2).symm
    · refine az_C_eq ip.1 (fun k h1 h2 hk => ?_)
      have := hin2 k h1 (by omega) hk
      omega
/-- the root's count is the number of keys -/
theorem az_rootC (h : az_T (az_K m) us dp pf ch rt) (hn : az_N m us dp pf ct sm) : (ct rt : Int) = az_C m 65536 ∧ (rt ≠ 0 → az_C m (pf rt) = 0 ∧ az_C m (pf rt + az_w (dp rt)) = az_C m 65536) := by
  by_cases z : rt = 0
  · refine ⟨?_, fun y => absurd z y⟩
    rw [z, hn.2.1, az_C_eq (Nat.zero_le 65536) (fun k _ _ => h.2.2.2.2.2.2.1.1 z k)]
    rfl
  · have r := h.2.2.2.2.2.2.1.2 z
    have b := h.1 _ r.1
    have tp := az_top b.2.2.1 b.2.2.2.2 b.2.2.2.1
    have e1 : az_C m (pf rt) = 0 := by
      rw [az_C_eq (Nat.zero_le (pf rt)) (fun k _ h2 hk => by have := (az_un_iv b.2.2.1 b.2.2.2.2).mp (r.2 k hk); omega)]
      rfl
    have e2 : az_C m (pf rt + az_w (dp rt)) = az_C m 65536 :=
      (az_C_eq tp (fun k h1 _ hk => by have := (az_un_iv b.2.2.1 b.2.2.2.2).mp (r.2 k hk); omega)).symm
    refine ⟨?_, fun _ => ⟨e1, e2⟩⟩
    rw [(hn.1 _ r.1).1, e1, e2]
    omega
theorem az_leaf (h : az_T (az_K m) us dp pf ch rt) (hn : az_N m us dp pf ct sm) {l : Nat} (hl : us l = 1) (dl : dp l = 4) {v : Int32} (hv : m (pf l) = some v) : ct l = 1 ∧ sm l = Int64.ofInt v.toInt := by
  have e := hn.1 l hl
  rw [dl, az_w4, az_C_succ, az_Q_succ, az_c1_some hv, az_cq_some hv] at e
  refine ⟨by omega, ?_⟩
  rw [e.2]
  congr 1
  omega
theorem az_N_put (t1 : az_T1 us dp pf) (hn : az_N m us dp pf ct sm) {x : Nat} {o : Option Int32} {ct' : Nat → Nat} {sm' : Nat → Int64}
    (e1 : ∀ j, us j = 1 → (ct' j : Int) = ct j + (if az_on us dp pf x j = true then az_c1 (az_put m x o) x - az_c1 m x else 0))
    (e2 : ∀ j, us j = 1 → sm' j = sm j + Int64.ofInt (if az_on us dp pf x j = true then az_cq (az_put m x o) x - az_cq m x else 0))
    (e3 : ct' 0 = 0) (e4 : sm' 0 = 0) : az_N (az_put m x o) us dp pf ct' sm' := by
  refine ⟨fun j hj => ?_, e3, e4⟩
  have t := t1 j hj
  have iv := az_un_iv (k := x) t.2.2.1 t.2.2.2.2
  rw [az_C_put, az_C_put, az_Q_put, az_Q_put, e1 j hj, e2 j hj, (hn.1 j hj).1, (hn.1 j hj).2, ← Int64.ofInt_add]
  have wp := az_w_pos (dp j)
  by_cases z : az_on us dp pf x j = true
  · have q := iv.mp (az_on_iff.mp z).2
    have h1 : x < pf j + az_w (dp j) := q.2
    have h2 : ¬ x < pf j := by omega
    refine ⟨?_, ?_⟩
    · rw [if_pos z, if_pos h1, if_neg h2]; omega
    · rw [if_pos z, if_pos h1, if_neg h2]; congr 1; omega
  · have q : ¬ (pf j ≤ x ∧ x < pf j + az_w (dp j)) := fun w => z (az_on_iff.mpr ⟨hj, iv.mpr w⟩)
    by_cases h2 : x < pf j
    · have h1 : x < pf j + az_w (dp j) := by omega
      refine ⟨?_, ?_⟩
      · rw [if_neg z, if_pos h1, if_pos h2]; omega
      · rw [if_neg z, if_pos h1, if_pos h2]; congr 1; omega
    · have h1 : ¬ x < pf j + az_w (dp j) := by omega
      refine ⟨?_, ?_⟩
      · rw [if_neg z, if_neg h1, if_neg h2]; omega
      · rw [if_neg z, if_neg h1, if_neg h2]; congr 1; omega
/-- counts over fewer nodes, or others that stand the same -/
theorem az_N_congr (hn : az_N m us dp pf ct sm) {us' dp' pf' ct' : Nat → Nat} {sm' : Nat → Int64} (e : ∀ i, us' i = 1 → us i = 1 ∧ dp' i = dp i ∧ pf' i = pf i ∧ ct' i = ct i ∧ sm' i = sm i) (e3 : ct' 0 = 0) (e4 : sm' 0 = 0) : az_N m us' dp' pf' ct' sm' := by
  refine ⟨fun i hi => ?_, e3, e4⟩
  obtain ⟨a, b, c, d, f⟩ := e i hi
  rw [b, c, d, f]
  exact hn.1 i a
end
/-! layout -/
def az_fan (h : Nat → Nat) : Int := az_S (fun c => if h c = 0 then 0 else 1) 16
theorem az_fan_0 {h : Nat → Nat} (e : ∀ c, h c = 0) : az_fan h = 0 := by
  unfold az_fan
  rw [az_S_congr (g := fun _ => 0) (fun i _ => if_pos (e i)), az_S_const0]
theorem az_fan_set {h h' : Nat → Nat} {c : Nat} (hc : c < 16) (e : ∀ d, d ≠ c → h' d = h d) : az_fan h' = az_fan h + ((if h' c = 0 then 0 else 1) - (if h c = 0 then 0 else 1)) := by
  unfold az_fan
  exact az_S_at c hc (fun i hi => by rw [e i hi])
theorem az_fan_same {h h' : Nat → Nat} (e : ∀ d, d < 16 → (h' d = 0 ↔ h d = 0)) : az_fan h' = az_fan h := by
  unfold az_fan
  refine az_S_congr (fun i hi => ?_)
  by_cases z : h i = 0
  · rw [if_pos z, if_pos ((e i hi).mpr z)]
  · rw [if_neg z, if_neg (fun w => z ((e i hi).mp w))]
theorem az_fan_two {h : Nat → Nat} (e : 2 ≤ az_fan h) : ∃ a b, a < 16 ∧ b < 16 ∧ a ≠ b ∧ h a ≠ 0 ∧ h b ≠ 0 := by
  have hs : ∀ c, (1 : Int) ≤ (if h c = 0 then 0 else 1) → h c ≠ 0 := by
    intro c hc z
    rw [if_pos z] at hc
    omega
  obtain ⟨a, b, x1, x2, x3, x4, x5⟩ := az_S_two (f := fun c => if h c = 0 then 0 else 1) (n := 16) (fun i => by split <;> omega) e
  exact ⟨a, b, x1, x2, x3, hs a x4, hs b x5⟩
theorem az_two_fan {h : Nat → Nat} {a b : Nat} (ha : a < 16) (hb : b < 16) (hab : a ≠ b) (h1 : h a ≠ 0) (h2 : h b ≠ 0) : 2 ≤ az_fan h := by
  have key : ∀ a b, a < b → b < 16 → h a ≠ 0 → h b ≠ 0 → 2 ≤ az_fan h := by
    intro a b hab hb h1 h2
    have nn : ∀ i, (0 : Int) ≤ (fun c => if h c = 0 then (0 : Int) else 1) i := fun i => by dsimp only; split <;> omega
    have e1 := az_S_gt nn (Nat.zero_le a) (show a < b from hab) (by rw [if_neg h1]; omega)
    have e2 := az_S_gt nn (Nat.le_refl b) hb (by rw [if_neg h2]; omega)
    rw [az_S_0] at e1
    unfold az_fan
    omega
  rcases Nat.lt_or_gt_of_ne hab with z | z
  · exact key a b z hb h1 h2
  · exact key b a z ha h2 h1
def az_cel (i f : Nat) (cd cc h : Nat → Nat) : Prop :=
  f ≤ 4 ∧ (∀ e, e < f → cd (i * 4 + e) < 16 ∧ cc (i * 4 + e) ≠ 0 ∧ h (cd (i * 4 + e)) = cc (i * 4 + e)) ∧ (∀ e e', e < f → e' < f → cd (i * 4 + e) = cd (i * 4 + e') → e = e') ∧ (∀ c, c < 16 → h c ≠ 0 → ∃ e, e < f ∧ cd (i * 4 + e) = c)
def az_tab (t : Nat) (tu tc h : Nat → Nat) : Prop := 0 < t ∧ t < 16 ∧ tu t = 1 ∧ ∀ c, c < 16 → tc (t * 16 + c) = h c
def az_ln (i f t : Nat) (cd cc tu tc h : Nat → Nat) : Prop := (t = 0 ∧ az_cel i f cd cc h) ∨ (az_tab t tu tc h ∧ 5 ≤ f)
def az_L (us fn tb cd cc tu tc : Nat → Nat) (ch : Nat → Nat → Nat) : Prop :=
  (∀ i, us i = 1 → i < 128 ∧ (∀ c, ch i c < 128) ∧ (fn i : Int) = az_fan (ch i) ∧ az_ln i (fn i) (tb i) cd cc tu tc (ch i)) ∧
  (∀ i j, us i = 1 → us j = 1 → tb i = tb j → tb i ≠ 0 → i = j) ∧
  (∀ i, tb i ≠ 0 → us i = 1) ∧ (∀ t, tu t ≤ 1) ∧ tu 0 = 0 ∧
  az_S (fun t => (tu t : Int)) 16 = az_S (fun i => if tb i = 0 then 0 else 1) 128
theorem az_ln_congr {i f t : Nat} {cd cc tu tc h cd' cc' tu' tc' h' : Nat → Nat} (hl : az_ln i f t cd cc tu tc h) (e1 : ∀ c, h' c = h c) (e2 : ∀ e, e < 4 → cd' (i * 4 + e) = cd (i * 4 + e) ∧ cc' (i * 4 + e) = cc (i * 4 + e)) (e3 : t ≠ 0 → tu' t = 1 ∧ ∀ c, c < 16 → tc' (t * 16 + c) = tc (t * 16 + c)) : az_ln i f t cd' cc' tu' tc' h' := by
  rcases hl with ⟨h0, c1, c2, c3, c4⟩ | ⟨⟨t1, t2, t3, t4⟩, h5⟩
  · left
    refine ⟨h0, c1, ?_, ?_, ?_⟩
    · intro e he
      rw [(e2 e (by omega)).1, (e2 e (by omega)).2, e1]
      exact c2 e he
    · intro e e' he he'
      rw [(e2 e (by omega)).1, (e2 e' (by omega)).1]
      exact c3 e e' he he'
    · intro c hc h0
      rw [e1] at h0
      obtain ⟨e, he, h3⟩ := c4 c hc h0
      exact ⟨e, he, by rw [(e2 e (by omega)).1]; exact h3⟩
  · right
    have q := e3 (by omega)
    exact ⟨⟨t1, t2, q.1, fun c hc => by rw [q.2 c hc, e1]; exact t4 c hc⟩, h5⟩
/-- a change at the node p alone -/
theorem az_L_at {us fn tb cd cc tu tc fn' tb' cd' cc' tu' tc' : Nat → Nat} {ch ch' : Nat → Nat → Nat} (h : az_L us fn tb cd cc tu tc ch) (p : Nat)
    (hp : (∀ c, ch' p c < 128) ∧ (fn' p : Int) = az_fan (ch' p) ∧ az_ln p (fn' p) (tb' p) cd' cc' tu' tc' (ch' p))
    (ho : ∀ i, us i = 1 → i ≠ p → fn' i = fn i ∧ tb' i = tb i ∧ (∀ c, ch' i c = ch i c) ∧ (∀ e, e < 4 → cd' (i * 4 + e) = cd (i * 4 + e) ∧ cc' (i * 4 + e) = cc (i * 4 + e)) ∧ (tb i ≠ 0 → tu' (tb i) = 1 ∧ ∀ c, c < 16 → tc' (tb i * 16 + c) = tc (tb i * 16 + c)))
    (hd : ∀ i, us i = 1 → i ≠ p → tb i = tb' p → tb' p = 0)
    (hu : ∀ i, tb' i ≠ 0 → us i = 1) (h1 : ∀ t, tu' t ≤ 1) (h2 : tu' 0 = 0)
    (h3 : az_S (fun t => (tu' t : Int)) 16 = az_S (fun i => if tb' i = 0 then 0 else 1) 128) : az_L us fn' tb' cd' cc' tu' tc' ch' := by
  refine ⟨?_, ?_, hu, h1, h2, h3⟩
  · intro i hi
    refine ⟨(h.1 i hi).1, ?_⟩
    by_cases z : i = p
    · rw [z]; exact hp
    · obtain ⟨o1, o2, o3, o4, o5⟩ := ho i hi z
      have a := (h.1 i hi).2
      have e : ch' i = ch i := funext o3
      rw [o1, o2, e]
      exact ⟨a.1, a.2.1, az_ln_congr a.2.2 (fun _ => rfl) o4 o5⟩
  · intro i j hi hj he h0
    by_cases z : i = p
    · by_cases y : j = p
      · rw [z, y]
      · rw [(ho j hj y).2.1, z] at he
        rw [z] at h0
        exact absurd (hd j hj y he.symm) h0
    · by_cases y : j = p
      · rw [(ho i hi z).2.1, y] at he
        rw [(ho i hi z).2.1, he] at h0
        exact absurd (hd i hi z he) h0
      · rw [(ho i hi z).2.1] at he h0
        rw [(ho j hj y).2.1] at he
        exact h.2.1 i j hi hj he h0
