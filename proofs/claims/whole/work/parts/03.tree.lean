/-! the tree: us used, dp depth, pf first digits, ch child by digit, rt root, over a set K of keys -/
def az_T1 (us dp pf : Nat → Nat) : Prop := ∀ i, us i = 1 → 0 < i ∧ i < 128 ∧ dp i ≤ 4 ∧ pf i < 65536 ∧ pf i % az_w (dp i) = 0
def az_T2 (K : Nat → Prop) (us dp pf : Nat → Nat) : Prop := ∀ i, us i = 1 → dp i = 4 → K (pf i)
def az_T3 (us dp pf : Nat → Nat) (ch : Nat → Nat → Nat) : Prop := ∀ i c, us i = 1 → dp i < 4 → c < 16 → ch i c ≠ 0 → us (ch i c) = 1 ∧ dp i < dp (ch i c) ∧ az_un (dp i) (pf i) (pf (ch i c)) ∧ az_dg (pf (ch i c)) (dp i) = c
def az_T4 (K : Nat → Prop) (us dp pf : Nat → Nat) (ch : Nat → Nat → Nat) : Prop := ∀ i k, us i = 1 → dp i < 4 → K k → az_un (dp i) (pf i) k → ch i (az_dg k (dp i)) ≠ 0 ∧ az_un (dp (ch i (az_dg k (dp i)))) (pf (ch i (az_dg k (dp i)))) k
def az_T5 (us dp : Nat → Nat) (ch : Nat → Nat → Nat) : Prop := ∀ i, us i = 1 → dp i < 4 → ∃ a b, a < 16 ∧ b < 16 ∧ a ≠ b ∧ ch i a ≠ 0 ∧ ch i b ≠ 0
def az_T6 (us dp pf : Nat → Nat) : Prop := ∀ i j, us i = 1 → us j = 1 → dp i = dp j → az_un (dp i) (pf i) (pf j) → i = j
def az_T7 (K : Nat → Prop) (us dp pf : Nat → Nat) (rt : Nat) : Prop := (rt = 0 → ∀ k, ¬ K k) ∧ (rt ≠ 0 → us rt = 1 ∧ ∀ k, K k → az_un (dp rt) (pf rt) k)
def az_T (K : Nat → Prop) (us dp pf : Nat → Nat) (ch : Nat → Nat → Nat) (rt : Nat) : Prop :=
  az_T1 us dp pf ∧ az_T2 K us dp pf ∧ az_T3 us dp pf ch ∧ az_T4 K us dp pf ch ∧ az_T5 us dp ch ∧ az_T6 us dp pf ∧ az_T7 K us dp pf rt ∧ (∀ k, K k → k < 65536)
section
variable {K : Nat → Prop} {us dp pf : Nat → Nat} {ch : Nat → Nat → Nat} {rt : Nat}
/-- every used node has a key under it -/
theorem az_inh (h : az_T K us dp pf ch rt) : ∀ (n i : Nat), 4 - dp i ≤ n → us i = 1 → ∃ k, K k ∧ az_un (dp i) (pf i) k := by
  obtain ⟨t1, t2, t3, t4, t5, t6, t7, t8⟩ := h
  intro n
  induction n with
  | zero =>
    intro i hn hi
    have h1 := t1 i hi
    exact ⟨pf i, t2 i hi (by omega), az_un_refl _ _⟩
  | succ n ih =>
    intro i hn hi
    have h1 := t1 i hi
    by_cases z : dp i = 4
    · exact ⟨pf i, t2 i hi z, az_un_refl _ _⟩
    · obtain ⟨a, b, ha, hb, hab, ca, cb⟩ := t5 i hi (by omega)
      obtain ⟨u1, u2, u3, u4⟩ := t3 i a hi (by omega) ha ca
      obtain ⟨k, k1, k2⟩ := ih (ch i a) (by omega) u1
      have h2 := t1 _ u1
      exact ⟨k, k1, az_un_trans u3 (az_un_le (by omega) h2.2.2.1 k2)⟩
theorem az_inh' (h : az_T K us dp pf ch rt) {i : Nat} (hi : us i = 1) : ∃ k, K k ∧ az_un (dp i) (pf i) k :=
  az_inh h (4 - dp i) i (Nat.le_refl _) hi
/-- a used branch has two keys that part at its depth -/
theorem az_two (h : az_T K us dp pf ch rt) {i : Nat} (hi : us i = 1) (hd : dp i < 4) : ∃ k k', K k ∧ K k' ∧ az_un (dp i) (pf i) k ∧ az_un (dp i) (pf i) k' ∧ az_dg k (dp i) ≠ az_dg k' (dp i) := by
  obtain ⟨a, b, ha, hb, hab, ca, cb⟩ := h.2.2.2.2.1 i hi hd
  obtain ⟨u1, u2, u3, u4⟩ := h.2.2.1 i a hi hd ha ca
  obtain ⟨w1, w2, w3, w4⟩ := h.2.2.1 i b hi hd hb cb
  obtain ⟨k, k1, k2⟩ := az_inh' h u1
  obtain ⟨k', k3, k4⟩ := az_inh' h w1
  have e1 := (h.1 _ u1).2.2.1
  have e2 := (h.1 _ w1).2.2.1
  have e3 := az_un_dg u2 e1 k2
  have e4 := az_un_dg w2 e2 k4
  exact ⟨k, k', k1, k3, az_un_trans u3 (az_un_le (by omega) e1 k2), az_un_trans w3 (az_un_le (by omega) e2 k4), by omega⟩
theorem az_root0 (h : az_T K us dp pf ch rt) {i : Nat} (hi : us i = 1) : rt ≠ 0 := by
  intro z
  obtain ⟨k, k1, _⟩ := az_inh' h hi
  exact h.2.2.2.2.2.2.1.1 z k k1
theorem az_rootu (h : az_T K us dp pf ch rt) (z : rt ≠ 0) : us rt = 1 := (h.2.2.2.2.2.2.1.2 z).1
theorem az_rootk (h : az_T K us dp pf ch rt) {k : Nat} (hk : K k) : rt ≠ 0 ∧ us rt = 1 ∧ az_un (dp rt) (pf rt) k := by
  have z : rt ≠ 0 := fun z => h.2.2.2.2.2.2.1.1 z k hk
  exact ⟨z, (h.2.2.2.2.2.2.1.2 z).1, (h.2.2.2.2.2.2.1.2 z).2 k hk⟩
/-- every used node lies under the root -/
theorem az_root (h : az_T K us dp pf ch rt) {i : Nat} (hi : us i = 1) : dp rt ≤ dp i ∧ az_un (dp rt) (pf rt) (pf i) := by
  have z := az_root0 h hi
  have hr := az_rootu h z
  have d1 := (h.1 _ hi).2.2.1
  have d2 := (h.1 _ hr).2.2.1
  have hle : dp rt ≤ dp i := by
    rcases Nat.lt_or_ge (dp i) (dp rt) with y | y
    · obtain ⟨k, k', k1, k2, k3, k4, k5⟩ := az_two h hi (by omega)
      exact absurd (az_un_dg y d2 (az_un_trans (az_un_symm (az_rootk h k2).2.2) (az_rootk h k1).2.2)) k5
    · exact y
  obtain ⟨k, k1, k2⟩ := az_inh' h hi
  exact ⟨hle, az_un_trans (az_rootk h k1).2.2 (az_un_symm (az_un_le hle d1 k2))⟩
/-- of two used nodes over x the upper one's child toward x is over x, and not below the lower one -/
theorem az_path (h : az_T K us dp pf ch rt) {i j x : Nat} (hi : us i = 1) (hj : us j = 1) (ui : az_un (dp i) (pf i) x) (uj : az_un (dp j) (pf j) x) (hd : dp i < dp j) :
    ch i (az_dg x (dp i)) ≠ 0 ∧ us (ch i (az_dg x (dp i))) = 1 ∧ dp i < dp (ch i (az_dg x (dp i))) ∧ dp (ch i (az_dg x (dp i))) ≤ dp j ∧ az_un (dp (ch i (az_dg x (dp i)))) (pf (ch i (az_dg x (dp i)))) x := by
  have dj := (h.1 _ hj).2.2.1
  have key : ∀ k, K k → az_un (dp j) (pf j) k → ch i (az_dg x (dp i)) ≠ 0 ∧ az_un (dp (ch i (az_dg x (dp i)))) (pf (ch i (az_dg x (dp i)))) k := by
    intro k k1 k2
    have e1 : az_un (dp j) x k := az_un_trans (az_un_symm uj) k2
    have e2 : az_un (dp i) (pf i) k := az_un_trans ui (az_un_le (by omega) dj e1)
    have e3 : az_dg k (dp i) = az_dg x (dp i) := az_un_dg hd dj e1
    have e4 := h.2.2.2.1 i k hi (by omega) k1 e2
    rw [e3] at e4
    exact e4
  obtain ⟨k, k1, k2⟩ := az_inh' h hj
  obtain ⟨c0, c1⟩ := key k k1 k2
  obtain ⟨u1, u2, u3, u4⟩ := h.2.2.1 i _ hi (by omega) (az_dg_lt x (dp i)) c0
  have dc := (h.1 _ u1).2.2.1
  have hle : dp (ch i (az_dg x (dp i))) ≤ dp j := by
    rcases Nat.lt_or_ge (dp j) (dp (ch i (az_dg x (dp i)))) with y | y
    · obtain ⟨a, b, a1, b1, a2, b2, ab⟩ := az_two h hj (by omega)
      exact absurd (az_un_dg y dc (az_un_trans (az_un_symm (key b b1 b2).2) (key a a1 a2).2)) ab
    · exact y
  refine ⟨c0, u1, u2, hle, ?_⟩
  have e1 : az_un (dp j) k x := az_un_trans (az_un_symm k2) uj
  exact az_un_trans c1 (az_un_le hle dj e1)
/-- a used node over x at the depth of another used node over x is that node -/
theorem az_same (h : az_T K us dp pf ch rt) {i j x : Nat} (hi : us i = 1) (hj : us j = 1) (ui : az_un (dp i) (pf i) x) (uj : az_un (dp j) (pf j) x) (hd : dp i = dp j) : i = j :=
  h.2.2.2.2.2.1 i j hi hj hd (az_un_trans ui (by rw [hd]; exact az_un_symm uj))
/-- only used nodes count -/
theorem az_T_congr (h : az_T K us dp pf ch rt) {dp' pf' : Nat → Nat} {ch' : Nat → Nat → Nat} (e1 : ∀ i, us i = 1 → dp' i = dp i) (e2 : ∀ i, us i = 1 → pf' i = pf i) (e3 : ∀ i, us i = 1 → ∀ c, ch' i c = ch i c) : az_T K us dp' pf' ch' rt := by
  obtain ⟨t1, t2, t3, t4, t5, t6, t7, t8⟩ := h
  refine ⟨?_, ?_, ?_, ?_, ?_, ?_, ?_, t8⟩
  · intro i hi
    rw [e1 i hi, e2 i hi]; exact t1 i hi
  · intro i hi
    rw [e1 i hi, e2 i hi]; exact t2 i hi
  · intro i c hi hd hc h0
    rw [e3 i hi c] at h0 ⊢
    rw [e1 i hi] at hd ⊢
    have hu := t3 i c hi hd hc h0
    rw [e2 i hi, e1 _ hu.1, e2 _ hu.1]; exact hu
  · intro i k hi hd hk hu
    rw [e1 i hi] at hd hu ⊢
    rw [e2 i hi] at hu
    rw [e3 i hi]
    have h4 := t4 i k hi hd hk hu
    have hv := t3 i _ hi hd (az_dg_lt k (dp i)) h4.1
    rw [e1 _ hv.1, e2 _ hv.1]; exact h4
  · intro i hi hd
    rw [e1 i hi] at hd
    obtain ⟨a, b, x1, x2, x3, x4, x5⟩ := t5 i hi hd
    exact ⟨a, b, x1, x2, x3, by rw [e3 i hi]; exact x4, by rw [e3 i hi]; exact x5⟩
  · intro i j hi hj hd hu
    rw [e1 i hi, e1 j hj] at hd
    rw [e1 i hi, e2 i hi, e2 j hj] at hu
    exact t6 i j hi hj hd hu
  · refine ⟨t7.1, fun z => ?_⟩
    have hr := t7.2 z
    rw [e1 _ hr.1, e2 _ hr.1]; exact hr
/-- the same keys -/
theorem az_T_keys (h : az_T K us dp pf ch rt) {K' : Nat → Prop} (e : ∀ k, K' k ↔ K k) : az_T K' us dp pf ch rt := by
  have z : K' = K := funext fun k => propext (e k)
  rw [z]; exact h
/-- where a walk toward x stands: p the last node over x (0: none), n the next -/
def az_at (us dp pf : Nat → Nat) (ch : Nat → Nat → Nat) (rt x p n : Nat) : Prop :=
  (p = 0 ∧ n = rt) ∨ (us p = 1 ∧ dp p < 4 ∧ az_un (dp p) (pf p) x ∧ n = ch p (az_dg x (dp p)))
/-- where the walk ends, every used node over x is p or above p -/
theorem az_end (h : az_T K us dp pf ch rt) {x p n : Nat} (ha : az_at us dp pf ch rt x p n) (he : n = 0 ∨ ¬ az_un (dp n) (pf n) x) {j : Nat} (hj : us j = 1) (uj : az_un (dp j) (pf j) x) :
    us p = 1 ∧ dp p < 4 ∧ az_un (dp p) (pf p) x ∧ n = ch p (az_dg x (dp p)) ∧ dp j ≤ dp p ∧ (j ≠ p → ch j (az_dg x (dp j)) ≠ 0 ∧ az_un (dp (ch j (az_dg x (dp j)))) (pf (ch j (az_dg x (dp j)))) x) := by
  rcases ha with ⟨rfl, rfl⟩ | ⟨p1, p2, p3, p4⟩
  · have r0 := az_root0 h hj
    have r1 := az_root h hj
    have dj := (h.1 _ hj).2.2.1
    rcases he with z | z
    · exact absurd z r0
    · exact absurd (az_un_trans r1.2 (az_un_le r1.1 dj uj)) z
  · have hle : dp j ≤ dp p := by
      rcases Nat.lt_or_ge (dp p) (dp j) with y | y
      · have hp := az_path h p1 hj p3 uj y
        rw [← p4] at hp
        rcases he with z | z
        · exact absurd z hp.1
        · exact absurd hp.2.2.2.2 z
      · exact y
    refine ⟨p1, p2, p3, p4, hle, fun hne => ?_⟩
    have hlt : dp j < dp p := by
      rcases Nat.lt_or_ge (dp j) (dp p) with y | y
      · exact y
      · exact absurd (az_same h hj p1 uj p3 (by omega)) hne
    have hp := az_path h hj p1 uj p3 hlt
    exact ⟨hp.1, hp.2.2.2.2⟩
end
