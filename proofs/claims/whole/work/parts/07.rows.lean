/-! the reference's rows of keys and values against the content m -/
def az_Y (m : Nat → Option Int32) (n : Nat) (ks : Nat → Nat) (vs : Nat → Int32) : Prop :=
  n ≤ 64 ∧ (∀ i, i < n → ks i < 65536 ∧ m (ks i) = some (vs i)) ∧ (∀ i j, i < n → j < n → ks i = ks j → i = j) ∧ (∀ k, az_K m k → ∃ i, i < n ∧ ks i = k)
def az_G (m : Nat → Option Int32) (g : Nat → Int32 → Int) (k : Nat) : Int := match m k with
  | none => 0
  | some v => g k v
theorem az_G_none {m : Nat → Option Int32} {g : Nat → Int32 → Int} {k : Nat} (h : m k = none) : az_G m g k = 0 := by unfold az_G; rw [h]
theorem az_G_some {m : Nat → Option Int32} {g : Nat → Int32 → Int} {k : Nat} {v : Int32} (h : m k = some v) : az_G m g k = g k v := by unfold az_G; rw [h]
theorem az_S_swap (G : Nat → Int) (ks : Nat → Nat) : ∀ j, (∀ i, i < j → ks i < 65536) → az_S (fun k => az_S (fun i => if ks i = k then G k else 0) j) 65536 = az_S (fun i => G (ks i)) j := by
  intro j
  induction j with
  | zero =>
    intro _
    rw [az_S_0]
    exact az_S_const0 65536
  | succ j ih =>
    intro h
    have e1 : az_S (fun k => az_S (fun i => if ks i = k then G k else 0) (j + 1)) 65536 = az_S (fun k => az_S (fun i => if ks i = k then G k else 0) j + (if ks j = k then G k else 0)) 65536 := rfl
    rw [e1, az_S_add (fun k => az_S (fun i => if ks i = k then G k else 0) j) (fun k => if ks j = k then G k else 0), ih (fun i hi => h i (by omega)), az_S_succ (fun i => G (ks i)) j]
    have e2 : az_S (fun k => if ks j = k then G k else 0) 65536 = az_S (fun k => if ks j = k then G (ks j) else 0) 65536 := by
      refine az_S_congr (fun k _ => ?_)
      by_cases z : ks j = k
      · rw [if_pos z, if_pos z, z]
      · rw [if_neg z, if_neg z]
    rw [e2, az_S_single, if_pos (h j (by omega))]
section
variable {m : Nat → Option Int32} {n : Nat} {ks : Nat → Nat} {vs : Nat → Int32}
theorem az_Y_sum (h : az_Y m n ks vs) (g : Nat → Int32 → Int) : az_S (fun i => g (ks i) (vs i)) n = az_S (az_G m g) 65536 := by
  have e1 : az_S (fun i => g (ks i) (vs i)) n = az_S (fun i => az_G m g (ks i)) n :=
    az_S_congr (fun i hi => (az_G_some (h.2.1 i hi).2).symm)
  rw [e1, ← az_S_swap (az_G m g) ks n (fun i hi => (h.2.1 i hi).1)]
  refine az_S_congr (fun k _ => ?_)
  by_cases z : az_K m k
  · obtain ⟨i0, h1, h2⟩ := h.2.2.2 k z
    have e2 : az_S (fun i => if ks i = k then az_G m g k else 0) n = az_S (fun i => if i0 = i then az_G m g k else 0) n := by
      refine az_S_congr (fun i hi => ?_)
      by_cases y : i0 = i
      · rw [if_pos y, if_pos (by rw [← y]; exact h2)]
      · rw [if_neg y, if_neg (fun w => y (h.2.2.1 i0 i h1 hi (by rw [h2, w])))]
    rw [e2, az_S_single, if_pos h1]
  · have e2 : az_S (fun i => if ks i = k then az_G m g k else 0) n = az_S (fun _ => 0) n := by
      refine az_S_congr (fun i hi => ?_)
      rw [az_G_none (az_nK z)]
      split <;> rfl
    rw [e2, az_S_const0, az_G_none (az_nK z)]
theorem az_S_cut {f : Nat → Int} {x N : Nat} (h : x ≤ N) : az_S (fun k => if k < x then f k else 0) N = az_S f x := by
  rw [az_S_zero (f := fun k => if k < x then f k else 0) h (fun i h1 _ => if_neg (by omega))]
  exact az_S_congr (fun i hi => if_pos hi)
theorem az_S_ones (n : Nat) : az_S (fun _ => 1) n = n := by
  induction n with
  | zero => rfl
  | succ n ih => rw [az_S_succ, ih]; omega
theorem az_Y_rank (h : az_Y m n ks vs) {x : Nat} (hx : x ≤ 65536) : az_S (fun i => if ks i < x then 1 else 0) n = az_C m x := by
  have e := az_Y_sum h (fun k _ => if k < x then 1 else 0)
  rw [e]
  unfold az_C
  rw [← az_S_cut hx]
  refine az_S_congr (fun k _ => ?_)
  by_cases z : az_K m k
  · obtain ⟨v, hv⟩ := az_K_some z
    rw [az_G_some hv, az_c1_some hv]
  · rw [az_G_none (az_nK z), az_c1_none (az_nK z)]
    split <;> rfl
theorem az_Y_n (h : az_Y m n ks vs) : (n : Int) = az_C m 65536 := by
  rw [← az_Y_rank h (Nat.le_refl 65536), az_S_congr (g := fun _ => 1) (fun i hi => if_pos (h.2.1 i hi).1), az_S_ones]
theorem az_Y_K (h : az_Y m n ks vs) {i : Nat} (hi : i < n) : az_K m (ks i) := az_K_of (h.2.1 i hi).2
theorem az_Y_lt (h : az_Y m n ks vs) {k : Nat} (hk : az_K m k) : k < 65536 := by
  obtain ⟨i, h1, h2⟩ := h.2.2.2 k hk
  rw [← h2]; exact (h.2.1 i h1).1
/-- another value for the key in row i -/
theorem az_Y_set (h : az_Y m n ks vs) {i x : Nat} {v : Int32} (hi : i < n) (hx : ks i = x) : az_Y (az_put m x (some v)) n ks (upd vs i v) := by
  refine ⟨h.1, ?_, h.2.2.1, ?_⟩
  · intro j hj
    refine ⟨(h.2.1 j hj).1, ?_⟩
    by_cases z : j = i
    · rw [z, hx, az_put_s, pk_us]
    · rw [az_put_n (fun w => z (h.2.2.1 j i hj hi (by rw [w, hx]))), pk_un z]
      exact (h.2.1 j hj).2
  · intro k hk
    by_cases z : k = x
    · exact ⟨i, hi, by rw [z]; exact hx⟩
    · unfold az_K at hk
      rw [az_put_n z] at hk
      exact h.2.2.2 k hk
/-- a key more -/
theorem az_Y_add (h : az_Y m n ks vs) {x : Nat} {v : Int32} (hn : n < 64) (hx : x < 65536) (nx : ¬ az_K m x) : az_Y (az_put m x (some v)) (n + 1) (az_f ks n x) (upd vs n v) := by
  have ne : ∀ j, j < n → ks j ≠ x := by
    intro j hj z
    exact nx (by rw [← z]; exact az_Y_K h hj)
  refine ⟨by omega, ?_, ?_, ?_⟩
  · intro j hj
    by_cases z : j = n
    · rw [z, az_f_s, az_put_s, pk_us]; exact ⟨hx, rfl⟩
    · rw [az_f_n z, pk_un z, az_put_n (ne j (by omega))]
      exact h.2.1 j (by omega)
  · intro i j hi hj e
    by_cases z : i = n
    · by_cases y : j = n
      · rw [z, y]
      · rw [z, az_f_s, az_f_n y] at e
        exact absurd e.symm (ne j (by omega))
    · by_cases y : j = n
      · rw [y, az_f_s, az_f_n z] at e
        exact absurd e (ne i (by omega))
      · rw [az_f_n z, az_f_n y] at e
        exact h.2.2.1 i j (by omega) (by omega) e
  · intro k hk
    by_cases z : k = x
    · exact ⟨n, by omega, by rw [az_f_s, z]⟩
    · unfold az_K at hk
      rw [az_put_n z] at hk
      obtain ⟨i, h1, h2⟩ := h.2.2.2 k hk
      exact ⟨i, by omega, by rw [az_f_n (by omega)]; exact h2⟩
/-- a key less: the last row in its place -/
theorem az_Y_drop (h : az_Y m n ks vs) {i : Nat} (hi : i < n) : az_Y (az_put m (ks i) none) (n - 1) (az_f ks i (ks (n - 1))) (upd vs i (vs (n - 1))) := by
  have w : ∀ j, j < n - 1 → ∃ j2, j2 < n ∧ j2 ≠ i ∧ az_f ks i (ks (n - 1)) j = ks j2 ∧ upd vs i (vs (n - 1)) j = vs j2 ∧ (j = i → j2 = n - 1) ∧ (j ≠ i → j2 = j) := by
    intro j hj
    by_cases z : j = i
    · subst z
      exact ⟨n - 1, by omega, by omega, by rw [az_f_s], by rw [pk_us], fun _ => rfl, fun y => absurd rfl y⟩
    · exact ⟨j, by omega, z, by rw [az_f_n z], by rw [pk_un z], fun y => absurd y z, fun _ => rfl⟩
  refine ⟨by have := h.1; omega, ?_, ?_, ?_⟩
  · intro j hj
    obtain ⟨j2, x1, x2, x3, x4, _, _⟩ := w j hj
    rw [x3, x4, az_put_n (fun y => x2 (h.2.2.1 j2 i x1 hi y))]
    exact h.2.1 j2 x1
  · intro j k hj hk e
    obtain ⟨j2, x1, x2, x3, x4, x5, x6⟩ := w j hj
    obtain ⟨k2, y1, y2, y3, y4, y5, y6⟩ := w k hk
    rw [x3, y3] at e
    have e2 := h.2.2.1 j2 k2 x1 y1 e
    by_cases z : j = i
    · have := x5 z
      by_cases y : k = i
      · omega
      · have := y6 y; omega
    · have := x6 z
      by_cases y : k = i
      · have := y5 y; omega
      · have := y6 y; omega
  · intro k hk
    unfold az_K at hk
    by_cases z : k = ks i
    · rw [z, az_put_s] at hk; exact absurd rfl hk
    · rw [az_put_n z] at hk
      obtain ⟨j, h1, h2⟩ := h.2.2.2 k hk
      have ji : j ≠ i := by intro y; rw [y] at h2; exact z h2.symm
      by_cases y : j = n - 1
      · refine ⟨i, by omega, ?_⟩
        rw [az_f_s, ← y]; exact h2
      · exact ⟨j, by omega, by rw [az_f_n ji]; exact h2⟩
end
