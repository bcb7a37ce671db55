/-! answers of the two sides, as the content has them -/
def az_cl (z : Int) : Nat := if z < 0 then 0 else if 65536 ≤ z then 65536 else z.toNat
theorem az_cl_le (z : Int) : az_cl z ≤ 65536 := by
  unfold az_cl
  repeat' split
  all_goals omega
theorem az_cl_lt {z : Int} {k : Nat} (hk : k < 65536) : k < az_cl z ↔ (k : Int) < z := by
  unfold az_cl
  repeat' split
  all_goals omega
theorem az_cl_nat {z : Int} {k : Nat} (hz : z = k) (hk : k ≤ 65536) : az_cl z = k := by
  unfold az_cl
  repeat' split
  all_goals omega
theorem az_cl_neg {z : Int} (hz : z ≤ 0) : az_cl z = 0 := by
  unfold az_cl
  repeat' split
  all_goals omega
theorem az_cl_big {z : Int} (hz : 65536 ≤ z) : az_cl z = 65536 := by
  unfold az_cl
  repeat' split
  all_goals omega
/-- X's answer at a rank; the reference's -/
def az_rX (m : Nat → Option Int32) (z : Int) (r : Int32) : Prop := (r = -3 ∧ (z < 0 ∨ az_C m 65536 ≤ z)) ∨ ∃ k, r = nI k ∧ k < 65536 ∧ az_K m k ∧ az_C m k = z
def az_rY (m : Nat → Option Int32) (z : Int) (r : Int32) : Prop := (r = -3 ∧ ∀ k, k < 65536 → az_K m k → az_C m k ≠ z) ∨ ∃ k, r = nI k ∧ k < 65536 ∧ az_K m k ∧ az_C m k = z
def az_aY (m : Nat → Option Int32) (b : Int) (r : Int32) : Prop := (r = -3 ∧ ∀ k : Nat, k < 65536 → az_K m k → ¬ b < k) ∨ ∃ k : Nat, r = nI k ∧ k < 65536 ∧ az_K m k ∧ b < k ∧ ∀ k' : Nat, k' < 65536 → az_K m k' → b < k' → k ≤ k'
def az_bY (m : Nat → Option Int32) (b : Int) (r : Int32) : Prop := (r = -3 ∧ ∀ k : Nat, k < 65536 → az_K m k → ¬ (k : Int) < b) ∨ ∃ k : Nat, r = nI k ∧ k < 65536 ∧ az_K m k ∧ (k : Int) < b ∧ ∀ k' : Nat, k' < 65536 → az_K m k' → (k' : Int) < b → k' ≤ k
theorem az_r_eq {m : Nat → Option Int32} {z : Int} {r r' : Int32} (h : az_rX m z r) (h' : az_rY m z r') : r' = r := by
  rcases h with ⟨e, h1⟩ | ⟨k, e, k1, k2, k3⟩
  · rcases h' with ⟨e', _⟩ | ⟨k', e', k1', k2', k3'⟩
    · rw [e, e']
    · have a := az_C_gt (Nat.le_refl k') k1' k2'
      have b := az_C_nn m k'
      omega
  · rcases h' with ⟨e', h2⟩ | ⟨k', e', k1', k2', k3'⟩
    · exact absurd k3 (h2 k k1 k2)
    · rw [e, e', az_C_inj k2 k2' (by rw [k3, k3'])]
theorem az_a_eq {m : Nat → Option Int32} {b : Int} {r r' : Int32} (h : az_rX m (az_C m (az_cl (b + 1))) r) (h' : az_aY m b r') : r' = r := by
  have c1 := az_cl_le (b + 1)
  rcases h with ⟨e, h1⟩ | ⟨k, e, k1, k2, k3⟩
  · rcases h' with ⟨e', _⟩ | ⟨k', e', k1', k2', k3', _⟩
    · rw [e, e']
    · have a := az_C_nn m (az_cl (b + 1))
      have q : ¬ k' < az_cl (b + 1) := by rw [az_cl_lt k1']; omega
      have g := az_C_gt (a := az_cl (b + 1)) (by omega) k1' k2'
      omega
  · have q : ¬ k < az_cl (b + 1) := by
      intro w
      have := az_C_gt (Nat.le_refl k) w k2
      omega
    rw [az_cl_lt k1] at q
    rcases h' with ⟨e', h2⟩ | ⟨k', e', k1', k2', k3', k4'⟩
    · exact absurd (by omega) (h2 k k1 k2)
    · have q' : ¬ k' < az_cl (b + 1) := by rw [az_cl_lt k1']; omega
      have e2 : az_C m k' = az_C m (az_cl (b + 1)) := by
        refine az_C_eq (by omega) (fun j j1 j2 j3 => ?_)
        have w : ¬ j < az_cl (b + 1) := by omega
        rw [az_cl_lt (by omega)] at w
        have := k4' j (by omega) j3 (by omega)
        omega
      rw [e, e', az_C_inj k2 k2' (by rw [k3, e2])]
theorem az_b_eq {m : Nat → Option Int32} {b : Int} {r r' : Int32} (h : az_rX m (az_C m (az_cl b) - 1) r) (h' : az_bY m b r') : r' = r := by
  have c1 := az_cl_le b
  have mo := az_C_mono m c1
  rcases h with ⟨e, h1⟩ | ⟨k, e, k1, k2, k3⟩
  · rcases h' with ⟨e', _⟩ | ⟨k', e', k1', k2', k3', _⟩
    · rw [e, e']
    · have q : k' < az_cl b := by rw [az_cl_lt k1']; omega
      have g := az_C_gt (Nat.le_refl k') q k2'
      have nn := az_C_nn m k'
      omega
  · rcases h' with ⟨e', h2⟩ | ⟨k', e', k1', k2', k3', k4'⟩
    · have e2 : az_C m (az_cl b) = az_C m 0 := by
        refine az_C_eq (Nat.zero_le _) (fun j j1 j2 j3 => ?_)
        have w := j2
        rw [az_cl_lt (by omega)] at w
        exact h2 j (by omega) j3 w
      have e3 : az_C m 0 = 0 := rfl
      have nn := az_C_nn m k
      omega
    · have q : k' < az_cl b := by rw [az_cl_lt k1']; omega
      have e2 : az_C m (az_cl b) = az_C m (k' + 1) := by
        refine az_C_eq (by omega) (fun j j1 j2 j3 => ?_)
        have w := j2
        rw [az_cl_lt (by omega)] at w
        have := k4' j (by omega) j3 w
        omega
      rw [az_C_succ, az_c1_K k2'] at e2
      rw [e, e', az_C_inj k2 k2' (by omega)]
section
variable {m : Nat → Option Int32} {n : Nat} {ks : Nat → Nat} {vs : Nat → Int32}
theorem az_Y_range (h : az_Y m n ks vs) {lo hi : Int} (hle : lo ≤ hi) : az_S (fun i => if lo ≤ (ks i : Int) ∧ (ks i : Int) ≤ hi then 1 else 0) n = az_C m (az_cl (hi + 1)) - az_C m (az_cl lo) := by
  rw [← az_Y_rank h (az_cl_le (hi + 1)), ← az_Y_rank h (az_cl_le lo)]
  have e : az_S (fun i => (if lo ≤ (ks i : Int) ∧ (ks i : Int) ≤ hi then 1 else 0) + (if ks i < az_cl lo then 1 else 0)) n = az_S (fun i => if ks i < az_cl (hi + 1) then 1 else 0) n := by
    refine az_S_congr (fun i hi' => ?_)
    have b := (h.2.1 i hi').1
    have e1 := az_cl_lt (z := lo) b
    have e2 := az_cl_lt (z := hi + 1) b
    by_cases z1 : (ks i : Int) < lo
    · rw [if_neg (by omega), if_pos (e1.mpr z1), if_pos (e2.mpr (by omega))]; omega
    · by_cases z2 : (ks i : Int) < hi + 1
      · rw [if_pos (by omega), if_neg (fun w => z1 (e1.mp w)), if_pos (e2.mpr z2)]; omega
      · rw [if_neg (by omega), if_neg (fun w => z1 (e1.mp w)), if_neg (fun w => z2 (e2.mp w))]; omega
  rw [az_S_add (fun i => if lo ≤ (ks i : Int) ∧ (ks i : Int) ≤ hi then 1 else 0) (fun i => if ks i < az_cl lo then 1 else 0)] at e
  omega
theorem az_Y_under (h : az_Y m n ks vs) {x d : Nat} (hx : x < 65536) (hd : d ≤ 4) : az_S (fun i => if ks i / az_w d = x / az_w d then (vs i).toInt else 0) n = az_Q m (az_cut x d + az_w d) - az_Q m (az_cut x d) := by
  have e := az_Y_sum h (fun k v => if k / az_w d = x / az_w d then v.toInt else 0)
  rw [e]
  have al := az_cut_al x d
  have tp := az_top hd al (Nat.lt_of_le_of_lt (az_cut_le x d) hx)
  have iv : ∀ k, k / az_w d = x / az_w d ↔ az_cut x d ≤ k ∧ k < az_cut x d + az_w d := by
    intro k
    rw [← az_un_iv hd al]
    have u := az_cut_un x d
    unfold az_un at u ⊢
    rw [u]
  have s1 := az_S_shrink (f := az_G m (fun k v => if k / az_w d = x / az_w d then v.toInt else 0)) (a := 0) (p := az_cut x d) (q := az_cut x d + az_w d) (b := 65536) (Nat.zero_le _) (by omega) tp (fun i _ _ hi => by
    by_cases z : az_K m i
    · obtain ⟨v, hv⟩ := az_K_some z
      rw [az_G_some hv, if_neg (fun w => hi ((iv i).mp w))]
    · exact az_G_none (az_nK z))
  have s2 := az_S_seg (f := az_G m (fun k v => if k / az_w d = x / az_w d then v.toInt else 0)) (g := az_cq m) (a := az_cut x d) (b := az_cut x d + az_w d) (by omega) (fun i h1 h2 => by
    by_cases z : az_K m i
    · obtain ⟨v, hv⟩ := az_K_some z
      rw [az_G_some hv, az_cq_some hv, if_pos ((iv i).mpr ⟨h1, h2⟩)]
    · rw [az_G_none (az_nK z), az_cq_none (az_nK z)])
  rw [az_S_0] at s1
  unfold az_Q
  omega
end
/-- the content without the keys from lo to hi -/
def az_cutout (m : Nat → Option Int32) (lo hi : Nat) : Nat → Option Int32 := fun k => if lo ≤ k ∧ k ≤ hi then none else m k
/-- m' is m without some of the keys from lo to hi -/
def az_less (m m' : Nat → Option Int32) (lo hi : Nat) : Prop := ∀ k, m' k = m k ∨ (m' k = none ∧ lo ≤ k ∧ k ≤ hi)
theorem az_less_refl (m : Nat → Option Int32) (lo hi : Nat) : az_less m m lo hi := fun _ => Or.inl rfl
theorem az_less_take {m m' : Nat → Option Int32} {lo hi x : Nat} (h : az_less m m' lo hi) (h1 : lo ≤ x) (h2 : x ≤ hi) : az_less m (az_put m' x none) lo hi := by
  intro k
  by_cases z : k = x
  · rw [z, az_put_s]; exact Or.inr ⟨rfl, h1, h2⟩
  · rw [az_put_n z]; exact h k
theorem az_less_end {m m' : Nat → Option Int32} {lo hi : Nat} (h : az_less m m' lo hi) (h2 : ∀ k, lo ≤ k → k ≤ hi → ¬ az_K m' k) : m' = az_cutout m lo hi := by
  funext k
  unfold az_cutout
  by_cases z : lo ≤ k ∧ k ≤ hi
  · rw [if_pos z]; exact az_nK (h2 k z.1 z.2)
  · rw [if_neg z]
    rcases h k with w | w
    · exact w
    · exact absurd w.2 z
theorem az_C_cutout {m : Nat → Option Int32} {lo hi : Nat} (h1 : lo ≤ hi + 1) (h2 : hi + 1 ≤ 65536) : az_C (az_cutout m lo hi) 65536 = az_C m 65536 - (az_C m (hi + 1) - az_C m lo) := by
  have out : ∀ k, ¬ (lo ≤ k ∧ k ≤ hi) → az_c1 (az_cutout m lo hi) k = az_c1 m k := by
    intro k hk
    unfold az_c1 az_cutout
    rw [if_neg hk]
  have s1 := az_S_seg (f := az_c1 (az_cutout m lo hi)) (g := az_c1 m) (Nat.zero_le lo) (fun i _ hi' => out i (by omega))
  have s2 := az_S_seg (f := az_c1 (az_cutout m lo hi)) (g := az_c1 m) h2 (fun i hi' _ => out i (by omega))
  have s3 := az_S_zero (f := az_c1 (az_cutout m lo hi)) h1 (fun i i1 i2 => by
    refine az_c1_none ?_
    unfold az_cutout
    rw [if_pos ⟨i1, by omega⟩])
  rw [az_S_0, az_S_0] at s1
  unfold az_C
  omega
