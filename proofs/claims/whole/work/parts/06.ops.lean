/-! what the writes do to the layout; the numbers of leaves and of branches -/
def az_z (ch : Nat → Nat → Nat) (j : Nat) : Nat → Nat → Nat := fun i c => if i = j then 0 else ch i c
theorem az_z_s (ch : Nat → Nat → Nat) (j c : Nat) : az_z ch j j c = 0 := if_pos rfl
theorem az_z_n {ch : Nat → Nat → Nat} {j i c : Nat} (h : i ≠ j) : az_z ch j i c = ch i c := if_neg h
section
variable {us fn tb cd cc tu tc : Nat → Nat} {ch : Nat → Nat → Nat}
theorem az_L_new (h : az_L us fn tb cd cc tu tc ch) {j : Nat} (hj : us j = 0) (hj2 : j < 128) : az_L (az_f us j 1) (az_f fn j 0) (az_f tb j 0) cd cc tu tc (az_z ch j) := by
  have t0 : tb j = 0 := by
    rcases Nat.eq_zero_or_pos (tb j) with z | z
    · exact z
    · have := h.2.2.1 j (by omega); omega
  have e : az_f tb j 0 = tb := by
    funext i
    by_cases z : i = j
    · rw [z, az_f_s, t0]
    · exact az_f_n z
  have old : ∀ i, az_f us j 1 i = 1 → i ≠ j → us i = 1 := by
    intro i hi z
    rw [az_f_n z] at hi; exact hi
  rw [e]
  refine ⟨?_, ?_, ?_, h.2.2.2.1, h.2.2.2.2.1, h.2.2.2.2.2⟩
  · intro i hi
    by_cases z : i = j
    · subst z
      refine ⟨hj2, fun c => by rw [az_z_s]; omega, ?_, ?_⟩
      · rw [az_f_s, az_fan_0 (fun c => az_z_s ch i c)]; rfl
      · left
        refine ⟨t0, ?_⟩
        rw [az_f_s]
        refine ⟨by omega, fun e he => by omega, fun e e' he => by omega, ?_⟩
        intro c _ h0
        exact absurd (az_z_s ch i c) h0
    · have a := h.1 i (old i hi z)
      have e3 : az_z ch j i = ch i := funext fun c => az_z_n z
      rw [e3, az_f_n z]
      exact a
  · intro i k hi hk he h0
    have hi' : us i = 1 := h.2.2.1 i h0
    have hk' : us k = 1 := h.2.2.1 k (by omega)
    exact h.2.1 i k hi' hk' he h0
  · intro i h0
    have hi' : us i = 1 := h.2.2.1 i h0
    have : i ≠ j := by intro z; rw [z] at h0; exact h0 t0
    rw [az_f_n this]; exact hi'
/-- a node less -/
theorem az_L_less (h : az_L us fn tb cd cc tu tc ch) {j : Nat} (hj : tb j = 0) : az_L (az_f us j 0) fn tb cd cc tu tc ch := by
  have old : ∀ i, az_f us j 0 i = 1 → us i = 1 := by
    intro i hi
    by_cases z : i = j
    · rw [z, az_f_s] at hi; omega
    · rw [az_f_n z] at hi; exact hi
  refine ⟨fun i hi => h.1 i (old i hi), fun i k hi hk => h.2.1 i k (old i hi) (old k hk), ?_, h.2.2.2⟩
  intro i h0
  have : i ≠ j := by intro z; rw [z] at h0; exact h0 hj
  rw [az_f_n this]; exact h.2.2.1 i h0
theorem az_fan_add {p c v : Nat} (hc : c < 16) (h0 : ch p c = 0) (hv : v ≠ 0) : az_fan (az_h ch p c v p) = az_fan (ch p) + 1 := by
  rw [az_fan_set (h := ch p) (h' := az_h ch p c v p) hc (fun d hd => az_h_n (fun w => hd w.2)), az_h_s, if_neg hv, if_pos h0]
  omega
theorem az_fan_drop {p c : Nat} (hc : c < 16) (h0 : ch p c ≠ 0) : az_fan (az_h ch p c 0 p) = az_fan (ch p) - 1 := by
  rw [az_fan_set (h := ch p) (h' := az_h ch p c 0 p) hc (fun d hd => az_h_n (fun w => hd w.2)), az_h_s, if_pos rfl, if_neg h0]
  omega
theorem az_fan_rep {p c v : Nat} (h0 : ch p c ≠ 0) (hv : v ≠ 0) : az_fan (az_h ch p c v p) = az_fan (ch p) := by
  refine az_fan_same (fun d _ => ?_)
  by_cases z : d = c
  · rw [z, az_h_s]
    exact ⟨fun w => absurd w hv, fun w => absurd w h0⟩
  · rw [az_h_n (fun w => z w.2)]
theorem az_h_lt (h : az_L us fn tb cd cc tu tc ch) {p c v : Nat} (hp : us p = 1) (hv : v < 128) (d : Nat) : az_h ch p c v p d < 128 := by
  by_cases z : d = c
  · rw [z, az_h_s]; exact hv
  · rw [az_h_n (fun w => z w.2)]; exact (h.1 p hp).2.1 d
/-- a write into the table of p -/
theorem az_L_ts (h : az_L us fn tb cd cc tu tc ch) {p c v f : Nat} (hp : us p = 1) (ht : tb p ≠ 0) (hc : c < 16) (hv : v < 128) (hf : (f : Int) = az_fan (az_h ch p c v p)) (h5 : 5 ≤ f) :
    az_L us (az_f fn p f) tb cd cc tu (az_f tc (tb p * 16 + c) v) (az_h ch p c v) := by
  have a := h.1 p hp
  refine az_L_at h p ⟨az_h_lt h hp hv, ?_, ?_⟩ ?_ ?_ h.2.2.1 h.2.2.2.1 h.2.2.2.2.1 h.2.2.2.2.2
  · rw [az_f_s]; exact hf
  · right
    rcases a.2.2.2 with ⟨z, _⟩ | ⟨⟨q1, q2, q3, q4⟩, _⟩
    · exact absurd z ht
    · refine ⟨⟨q1, q2, q3, ?_⟩, by rw [az_f_s]; exact h5⟩
      intro d hd
      by_cases z : d = c
      · rw [z, az_f_s, az_h_s]
      · rw [az_f_n (by omega), az_h_n (fun w => z w.2)]; exact q4 d hd
  · intro i hi z
    refine ⟨az_f_n z, rfl, fun d => az_h_n (fun w => z w.1), fun e _ => ⟨rfl, rfl⟩, fun t0 => ?_⟩
    have b := h.1 i hi
    have ne : tb i ≠ tb p := fun w => z (h.2.1 i p hi hp w t0)
    rcases b.2.2.2 with ⟨y, _⟩ | ⟨⟨q1, q2, q3, q4⟩, _⟩
    · exact absurd y t0
    · exact ⟨q3, fun d hd => az_f_n (by omega)⟩
  · intro i hi z w
    rcases Nat.eq_zero_or_pos (tb p) with y | y
    · exact y
    · exact absurd (h.2.1 i p hi hp w (by omega)) z
/-- a child more in the cells of p -/
theorem az_L_ca (h : az_L us fn tb cd cc tu tc ch) {p c v : Nat} (hp : us p = 1) (ht : tb p = 0) (hf : fn p < 4) (hc : c < 16) (h0 : ch p c = 0) (hv0 : v ≠ 0) (hv : v < 128) :
    az_L us (az_f fn p (fn p + 1)) tb (az_f cd (p * 4 + fn p) c) (az_f cc (p * 4 + fn p) v) tu tc (az_h ch p c v) := by
  have a := h.1 p hp
  refine az_L_at h p ⟨az_h_lt h hp hv, ?_, ?_⟩ ?_ ?_ h.2.2.1 h.2.2.2.1 h.2.2.2.2.1 h.2.2.2.2.2
  · rw [az_f_s, az_fan_add hc h0 hv0]
    have := a.2.2.1
    omega
  · left
    refine ⟨ht, ?_⟩
    rw [az_f_s]
    rcases a.2.2.2 with ⟨_, q1, q2, q3, q4⟩ | ⟨⟨q1, _⟩, _⟩
    · have ne : ∀ e, e < fn p → cd (p * 4 + e) ≠ c := by
        intro e he z
        have := q2 e he
        rw [z, h0] at this
        exact this.2.1 this.2.2.symm
      refine ⟨by omega, ?_, ?_, ?_⟩
      · intro e he
        by_cases z : e = fn p
        · subst z
          rw [az_f_s, az_f_s, az_h_s]
          exact ⟨hc, hv0, rfl⟩
        · rw [az_f_n (by omega), az_f_n (by omega), az_h_n (fun w => ne e (by omega) w.2)]
          exact q2 e (by omega)
      · intro e e' he he' hee
        by_cases z : e = fn p
        · by_cases y : e' = fn p
          · rw [z, y]
          · rw [z, az_f_s, az_f_n (by omega)] at hee
            exact absurd hee.symm (ne e' (by omega))
        · by_cases y : e' = fn p
          · rw [y, az_f_s, az_f_n (by omega)] at hee
            exact absurd hee (ne e (by omega))
          · rw [az_f_n (by omega), az_f_n (by omega)] at hee
            exact q3 e e' (by omega) (by omega) hee
      · intro d hd hd0
        by_cases z : d = c
        · exact ⟨fn p, by omega, by rw [az_f_s, z]⟩
        · rw [az_h_n (fun w => z w.2)] at hd0
          obtain ⟨e, he, he2⟩ := q4 d hd hd0
          exact ⟨e, by omega, by rw [az_f_n (by omega)]; exact he2⟩
    · omega
  · intro i hi z
    refine ⟨az_f_n z, rfl, fun d => az_h_n (fun w => z w.1), fun e _ => ⟨az_f_n (by omega), az_f_n (by omega)⟩, fun t0 => ?_⟩
    have b := h.1 i hi
    rcases b.2.2.2 with ⟨y, _⟩ | ⟨⟨q1, q2, q3, q4⟩, _⟩
    · exact absurd y t0
    · exact ⟨q3, fun d hd => rfl⟩
  · intro i hi z w
    exact ht
/-- another child in a cell of p -/
theorem az_L_cs (h : az_L us fn tb cd cc tu tc ch) {p c v e0 : Nat} (hp : us p = 1) (ht : tb p = 0) (he0 : e0 < fn p) (hc : cd (p * 4 + e0) = c) (hv0 : v ≠ 0) (hv : v < 128) :
    az_L us fn tb cd (az_f cc (p * 4 + e0) v) tu tc (az_h ch p c v) := by
  have a := h.1 p hp
  rcases a.2.2.2 with ⟨_, q1, q2, q3, q4⟩ | ⟨⟨q1, _⟩, _⟩
  · have qe := q2 e0 he0
    have h0 : ch p c ≠ 0 := by rw [← hc, qe.2.2]; exact qe.2.1
    refine az_L_at h p ⟨az_h_lt h hp hv, ?_, ?_⟩ ?_ ?_ h.2.2.1 h.2.2.2.1 h.2.2.2.2.1 h.2.2.2.2.2
    · rw [az_fan_rep h0 hv0]; exact a.2.2.1
    · left
      refine ⟨ht, q1, ?_, q3, ?_⟩
      · intro e he
        by_cases z : e = e0
        · subst z
          rw [az_f_s, hc, az_h_s]
          exact ⟨by rw [← hc]; exact qe.1, hv0, rfl⟩
        · have ne : cd (p * 4 + e) ≠ c := fun w => z (q3 e e0 he he0 (by rw [w, hc]))
          rw [az_f_n (by omega), az_h_n (fun w => ne w.2)]
          exact q2 e he
      · intro d hd hd0
        by_cases z : d = c
        · exact ⟨e0, he0, by rw [z]; exact hc⟩
        · rw [az_h_n (fun w => z w.2)] at hd0
          exact q4 d hd hd0
    · intro i hi z
      refine ⟨rfl, rfl, fun d => az_h_n (fun w => z w.1), fun e _ => ⟨rfl, az_f_n (by omega)⟩, fun t0 => ?_⟩
      have b := h.1 i hi
      rcases b.2.2.2 with ⟨y, _⟩ | ⟨⟨q1, q2, q3, q4⟩, _⟩
      · exact absurd y t0
      · exact ⟨q3, fun d hd => rfl⟩
    · intro i hi z w
      exact ht
  · omega
/-- a child less in the cells of p: the last cell in its place -/
theorem az_L_cd (h : az_L us fn tb cd cc tu tc ch) {p c e0 : Nat} (hp : us p = 1) (ht : tb p = 0) (he0 : e0 < fn p) (hc : cd (p * 4 + e0) = c) :
    az_L us (az_f fn p (fn p - 1)) tb (az_f cd (p * 4 + e0) (cd (p * 4 + (fn p - 1)))) (az_f cc (p * 4 + e0) (cc (p * 4 + (fn p - 1)))) tu tc (az_h ch p c 0) := by
  have a := h.1 p hp
  rcases a.2.2.2 with ⟨_, q1, q2, q3, q4⟩ | ⟨⟨q1, _⟩, _⟩
  · have qe := q2 e0 he0
    have h0 : ch p c ≠ 0 := by rw [← hc, qe.2.2]; exact qe.2.1
    have hc16 : c < 16 := by rw [← hc]; exact qe.1
    refine az_L_at h p ⟨az_h_lt h hp (by omega), ?_, ?_⟩ ?_ ?_ h.2.2.1 h.2.2.2.1 h.2.2.2.2.1 h.2.2.2.2.2
    · rw [az_f_s, az_fan_drop hc16 h0]
      have := a.2.2.1
      omega
    · left
      refine ⟨ht, ?_⟩
      rw [az_f_s]
      -- where the cell e of the new row stood
      have w : ∀ e, e < fn p - 1 → ∃ e2, e2 < fn p ∧ e2 ≠ e0 ∧ az_f cd (p * 4 + e0) (cd (p * 4 + (fn p - 1))) (p * 4 + e) = cd (p * 4 + e2) ∧ az_f cc (p * 4 + e0) (cc (p * 4 + (fn p - 1))) (p * 4 + e) = cc (p * 4 + e2) ∧ (e = e0 → e2 = fn p - 1) ∧ (e ≠ e0 → e2 = e) := by
        intro e he
        by_cases z : e = e0
        · subst z
          exact ⟨fn p - 1, by omega, by omega, by rw [az_f_s], by rw [az_f_s], fun _ => rfl, fun y => absurd rfl y⟩
        · exact ⟨e, by omega, z, by rw [az_f_n (by omega)], by rw [az_f_n (by omega)], fun y => absurd y z, fun _ => rfl⟩
      refine ⟨by omega, ?_, ?_, ?_⟩
      · intro e he
        obtain ⟨e2, x1, x2, x3, x4, _, _⟩ := w e he
        have ne : cd (p * 4 + e2) ≠ c := fun y => x2 (q3 e2 e0 x1 he0 (by rw [y, hc]))
        rw [x3, x4, az_h_n (fun y => ne y.2)]
        exact q2 e2 x1
      · intro e e' he he' hee
        obtain ⟨e2, x1, x2, x3, x4, x5, x6⟩ := w e he
        obtain ⟨e3, y1, y2, y3, y4, y5, y6⟩ := w e' he'
        rw [x3, y3] at hee
        have e23 := q3 e2 e3 x1 y1 hee
        by_cases z : e = e0
        · have := x5 z
          by_cases y : e' = e0
          · omega
          · have := y6 y; omega
        · have := x6 z
          by_cases y : e' = e0
          · have := y5 y; omega
          · have := y6 y; omega
      · intro d hd hd0
        by_cases z : d = c
        · rw [z, az_h_s] at hd0; exact absurd rfl hd0
        · rw [az_h_n (fun y => z y.2)] at hd0
          obtain ⟨e, he, he2⟩ := q4 d hd hd0
          have ee0 : e ≠ e0 := by intro y; rw [y, hc] at he2; exact z he2.symm
          by_cases y : e = fn p - 1
          · refine ⟨e0, by omega, ?_⟩
            rw [az_f_s, ← y]; exact he2
          · exact ⟨e, by omega, by rw [az_f_n (by omega)]; exact he2⟩
    · intro i hi z
      refine ⟨az_f_n z, rfl, fun d => az_h_n (fun w => z w.1), fun e _ => ⟨az_f_n (by omega), az_f_n (by omega)⟩, fun t0 => ?_⟩
      have b := h.1 i hi
      rcases b.2.2.2 with ⟨y, _⟩ | ⟨⟨q1, q2, q3, q4⟩, _⟩
      · exact absurd y t0
      · exact ⟨q3, fun d hd => rfl⟩
    · intro i hi z w
      exact ht
  · omega
/-- the fifth child: a table for p -/
theorem az_L_mt (h : az_L us fn tb cd cc tu tc ch) {p c v t : Nat} {tc' : Nat → Nat} (hp : us p = 1) (ht : tb p = 0) (hf : fn p = 4) (hc : c < 16) (h0 : ch p c = 0) (hv0 : v ≠ 0) (hv : v < 128)
    (t1 : 0 < t) (t2 : t < 16) (t3 : tu t = 0) (e1 : ∀ d, d < 16 → tc' (t * 16 + d) = az_h ch p c v p d) (e2 : ∀ s d, s ≠ t → d < 16 → tc' (s * 16 + d) = tc (s * 16 + d)) :
    az_L us (az_f fn p 5) (az_f tb p t) cd cc (az_f tu t 1) tc' (az_h ch p c v) := by
  have a := h.1 p hp
  have ne : ∀ i, us i = 1 → tb i ≠ 0 → tb i ≠ t ∧ tu (tb i) = 1 := by
    intro i hi i0
    rcases (h.1 i hi).2.2.2 with ⟨y, _⟩ | ⟨⟨q1, q2, q3, q4⟩, _⟩
    · exact absurd y i0
    · refine ⟨fun w => ?_, q3⟩
      rw [w, t3] at q3; omega
  refine az_L_at h p ⟨az_h_lt h hp hv, ?_, ?_⟩ ?_ ?_ ?_ ?_ ?_ ?_
  · rw [az_f_s, az_fan_add hc h0 hv0]
    have := a.2.2.1
    omega
  · right
    rw [az_f_s, az_f_s]
    exact ⟨⟨t1, t2, by rw [az_f_s], e1⟩, by omega⟩
  · intro i hi z
    refine ⟨az_f_n z, az_f_n z, fun d => az_h_n (fun w => z w.1), fun e _ => ⟨rfl, rfl⟩, fun i0 => ?_⟩
    have q := ne i hi i0
    exact ⟨by rw [az_f_n q.1]; exact q.2, fun d hd => e2 _ d q.1 hd⟩
  · intro i hi z w
    rw [az_f_s] at w ⊢
    exact absurd w (ne i hi (by omega)).1
  · intro i i0
    by_cases z : i = p
    · rw [z]; exact hp
    · rw [az_f_n z] at i0; exact h.2.2.1 i i0
  · intro s
    by_cases z : s = t
    · rw [z, az_f_s]; omega
    · rw [az_f_n z]; exact h.2.2.2.1 s
  · rw [az_f_n (by omega)]; exact h.2.2.2.2.1
  · have s1 := az_S_at (f := fun s => (az_f tu t 1 s : Int)) (g := fun s => (tu s : Int)) t (n := 16) t2 (fun i hi => by rw [az_f_n hi])
    have s2 := az_S_at (f := fun i => if az_f tb p t i = 0 then (0 : Int) else 1) (g := fun i => if tb i = 0 then (0 : Int) else 1) p (n := 128) a.1 (fun i hi => by rw [az_f_n hi])
    have s3 := h.2.2.2.2.2
    rw [az_f_s, t3] at s1
    rw [az_f_s, if_neg (by omega), if_pos ht] at s2
    omega
/-- the fifth child goes: cells again -/
theorem az_L_mc (h : az_L us fn tb cd cc tu tc ch) {p c : Nat} {cd' cc' : Nat → Nat} (hp : us p = 1) (ht : tb p ≠ 0) (hf : fn p = 5) (hc : c < 16) (h0 : ch p c ≠ 0)
    (e1 : az_cel p 4 cd' cc' (az_h ch p c 0 p)) (e2 : ∀ i e, i ≠ p → e < 4 → cd' (i * 4 + e) = cd (i * 4 + e) ∧ cc' (i * 4 + e) = cc (i * 4 + e)) :
    az_L us (az_f fn p 4) (az_f tb p 0) cd' cc' (az_f tu (tb p) 0) (az_f tc (tb p * 16 + c) 0) (az_h ch p c 0) := by
  have a := h.1 p hp
  obtain ⟨q1, q2, q3, q4⟩ : az_tab (tb p) tu tc (ch p) := by
    rcases a.2.2.2 with ⟨y, _⟩ | ⟨q, _⟩
    · exact absurd y ht
    · exact q
  refine az_L_at h p ⟨az_h_lt h hp (by omega), ?_, ?_⟩ ?_ ?_ ?_ ?_ ?_ ?_
  · rw [az_f_s, az_fan_drop hc h0]
    have := a.2.2.1
    omega
  · left
    rw [az_f_s, az_f_s]
    exact ⟨rfl, e1⟩
  · intro i hi z
    refine ⟨az_f_n z, az_f_n z, fun d => az_h_n (fun w => z w.1), fun e he => e2 i e z he, fun i0 => ?_⟩
    have ne : tb i ≠ tb p := fun w => z (h.2.1 i p hi hp w i0)
    rcases (h.1 i hi).2.2.2 with ⟨y, _⟩ | ⟨⟨w1, w2, w3, w4⟩, _⟩
    · exact absurd y i0
    · exact ⟨by rw [az_f_n ne]; exact w3, fun d hd => az_f_n (by omega)⟩
  · intro i hi z w
    rw [az_f_s]
  · intro i i0
    by_cases z : i = p
    · rw [z]; exact hp
    · rw [az_f_n z] at i0; exact h.2.2.1 i i0
  · intro s
    by_cases z : s = tb p
    · rw [z, az_f_s]; omega
    · rw [az_f_n z]; exact h.2.2.2.1 s
  · rw [az_f_n (by omega)]; exact h.2.2.2.2.1
  · have s1 := az_S_at (f := fun s => (az_f tu (tb p) 0 s : Int)) (g := fun s => (tu s : Int)) (tb p) (n := 16) q2 (fun i hi => by rw [az_f_n hi])
    have s2 := az_S_at (f := fun i => if az_f tb p 0 i = 0 then (0 : Int) else 1) (g := fun i => if tb i = 0 then (0 : Int) else 1) p (n := 128) a.1 (fun i hi => by rw [az_f_n hi])
    have s3 := h.2.2.2.2.2
    rw [az_f_s, q3] at s1
    rw [az_f_s, if_pos rfl, if_neg ht] at s2
    omega
end
/-! numbers -/
def az_lf (us dp : Nat → Nat) (i : Nat) : Int := if us i = 1 ∧ dp i = 4 then 1 else 0
def az_bf (us dp fn : Nat → Nat) (i : Nat) : Int := if us i = 1 ∧ dp i < 4 then (fn i : Int) - 1 else 0
def az_M (us dp fn : Nat → Nat) (n : Int) : Prop := az_S (az_lf us dp) 128 = n ∧ az_S (az_bf us dp fn) 128 = if n = 0 then 0 else n - 1
theorem az_lf_0 {us dp : Nat → Nat} {i : Nat} (h : us i ≠ 1 ∨ dp i ≠ 4) : az_lf us dp i = 0 := if_neg (fun w => h.elim (fun z => z w.1) (fun z => z w.2))
theorem az_lf_1 {us dp : Nat → Nat} {i : Nat} (h : us i = 1) (h2 : dp i = 4) : az_lf us dp i = 1 := if_pos ⟨h, h2⟩
theorem az_bf_0 {us dp fn : Nat → Nat} {i : Nat} (h : us i ≠ 1 ∨ dp i = 4) : az_bf us dp fn i = 0 := if_neg (fun w => h.elim (fun z => z w.1) (fun z => by omega))
theorem az_bf_1 {us dp fn : Nat → Nat} {i : Nat} (h : us i = 1) (h2 : dp i < 4) : az_bf us dp fn i = (fn i : Int) - 1 := if_pos ⟨h, h2⟩
theorem az_lf_e {us dp us' dp' : Nat → Nat} {i : Nat} (h : us' i = us i) (h2 : dp' i = dp i) : az_lf us' dp' i = az_lf us dp i := by unfold az_lf; rw [h, h2]
theorem az_bf_e {us dp fn us' dp' fn' : Nat → Nat} {i : Nat} (h : us' i = us i) (h2 : dp' i = dp i) (h3 : fn' i = fn i) : az_bf us' dp' fn' i = az_bf us dp fn i := by unfold az_bf; rw [h, h2, h3]
section
variable {K : Nat → Prop} {us dp pf fn tb cd cc tu tc : Nat → Nat} {ch : Nat → Nat → Nat} {rt : Nat} {n : Int}
theorem az_fn2 (h : az_T K us dp pf ch rt) (hl : az_L us fn tb cd cc tu tc ch) {i : Nat} (hi : us i = 1) (hd : dp i < 4) : 2 ≤ fn i := by
  obtain ⟨a, b, x1, x2, x3, x4, x5⟩ := h.2.2.2.2.1 i hi hd
  have e := az_two_fan x1 x2 x3 x4 x5
  have := (hl.1 i hi).2.2.1
  omega
theorem az_used (h : az_T K us dp pf ch rt) (hl : az_L us fn tb cd cc tu tc ch) (hm : az_M us dp fn n) (hu : ∀ i, us i ≤ 1) (hn : n ≤ 63) : az_S (fun i => (us i : Int)) 128 ≤ 125 := by
  have e : az_S (fun i => (us i : Int)) 128 ≤ az_S (fun i => az_lf us dp i + az_bf us dp fn i) 128 := by
    refine az_S_le (fun i _ => ?_)
    show (us i : Int) ≤ az_lf us dp i + az_bf us dp fn i
    have h1 := hu i
    by_cases z : us i = 1
    · have d := (h.1 i z).2.2.1
      by_cases y : dp i = 4
      · rw [az_lf_1 z y, az_bf_0 (Or.inr y)]
        omega
      · have w : dp i < 4 := by omega
        have f := az_fn2 h hl z w
        rw [az_lf_0 (Or.inr y), az_bf_1 z w]
        omega
    · rw [az_lf_0 (Or.inl z), az_bf_0 (Or.inl z)]
      omega
  rw [az_S_add (az_lf us dp) (az_bf us dp fn), hm.1, hm.2] at e
  split at e <;> omega
theorem az_tables (h : az_T K us dp pf ch rt) (hl : az_L us fn tb cd cc tu tc ch) (hm : az_M us dp fn n) (hn : n ≤ 63) {p : Nat} (hp : us p = 1) (hd : dp p < 4) (ht : tb p = 0) (hf : fn p = 4) (hlf : ∀ i, us i = 1 → dp i = 4 → tb i = 0) : ∃ t, 1 ≤ t ∧ t < 16 ∧ tu t = 0 := by
  refine az_S_free hl.2.2.2.1 ?_
  rw [hl.2.2.2.2.2]
  have h128 := (h.1 p hp).2.1
  have nn : ∀ i, 0 ≤ az_bf us dp fn i := by
    intro i
    unfold az_bf
    split
    · next w => have := az_fn2 h hl w.1 w.2; omega
    · omega
  have e : az_S (fun i => 4 * (if tb i = 0 then (0 : Int) else 1) + (if i = p then 3 else 0)) 128 ≤ az_S (az_bf us dp fn) 128 := by
    refine az_S_le (fun i _ => ?_)
    show 4 * (if tb i = 0 then (0 : Int) else 1) + (if i = p then 3 else 0) ≤ az_bf us dp fn i
    by_cases z : i = p
    · subst z
      rw [if_pos ht, if_pos rfl, az_bf_1 hp hd, hf]
      omega
    · by_cases y : tb i = 0
      · have := nn i
        rw [if_pos y, if_neg z]
        omega
      · have ui := hl.2.2.1 i y
        have di := (h.1 i ui).2.2.1
        have d4 : dp i < 4 := by
          rcases Nat.lt_or_ge (dp i) 4 with w | w
          · exact w
          · exact absurd (hlf i ui (by omega)) y
        have f5 : 5 ≤ fn i := by
          rcases (hl.1 i ui).2.2.2 with ⟨w, _⟩ | ⟨_, w⟩
          · exact absurd w y
          · exact w
        rw [if_neg y, if_neg z, az_bf_1 ui d4]
        omega
  have e2 : az_S (fun i => 4 * (if tb i = 0 then (0 : Int) else 1) + (if i = p then 3 else 0)) 128 = 4 * az_S (fun i => if tb i = 0 then (0 : Int) else 1) 128 + 3 := by
    rw [az_S_add (fun i => 4 * (if tb i = 0 then (0 : Int) else 1)) (fun i => if i = p then (3 : Int) else 0)]
    have e3 : az_S (fun i => if i = p then (3 : Int) else 0) 128 = 3 := by
      have e7 : az_S (fun i => if i = p then (3 : Int) else 0) 128 = az_S (fun i => if p = i then (3 : Int) else 0) 128 := by
        refine az_S_congr (fun i _ => ?_)
        by_cases w : i = p
        · rw [if_pos w, if_pos w.symm]
        · rw [if_neg w, if_neg (fun q => w q.symm)]
      rw [e7, az_S_single, if_pos h128]
    have e4 : ∀ k, az_S (fun i => 4 * (if tb i = 0 then (0 : Int) else 1)) k = 4 * az_S (fun i => if tb i = 0 then (0 : Int) else 1) k := by
      intro k
      induction k with
      | zero => rfl
      | succ k ih => rw [az_S_succ, az_S_succ, ih]; omega
    rw [e3, e4]
  rw [e2, hm.2] at e
  have e5 : (if n = 0 then (0 : Int) else n - 1) ≤ 62 := by split <;> omega
  have e6 : (16 : Nat) = (16 : Int) := rfl
  omega
end
