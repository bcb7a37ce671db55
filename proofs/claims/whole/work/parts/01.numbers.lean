/-! numbers: widths of a depth, digits, 'k has the first d digits of p' -/
def az_w (d : Nat) : Nat := if d = 0 then 65536 else if d = 1 then 4096 else if d = 2 then 256 else if d = 3 then 16 else 1
theorem az_w0 : az_w 0 = 65536 := rfl
theorem az_w1 : az_w 1 = 4096 := rfl
theorem az_w2 : az_w 2 = 256 := rfl
theorem az_w3 : az_w 3 = 16 := rfl
theorem az_w4 : az_w 4 = 1 := rfl
theorem az_w_pos (d : Nat) : 0 < az_w d := by
  unfold az_w
  repeat' split
  all_goals decide
def az_dg (k d : Nat) : Nat := k / az_w (d + 1) % 16
def az_un (d p k : Nat) : Prop := k / az_w d = p / az_w d
theorem az_le4 {d : Nat} (h : d ≤ 4) : d = 0 ∨ d = 1 ∨ d = 2 ∨ d = 3 ∨ d = 4 := by omega
theorem az_lt4 {d : Nat} (h : d < 4) : d = 0 ∨ d = 1 ∨ d = 2 ∨ d = 3 := by omega
theorem az_un_refl (d p : Nat) : az_un d p p := rfl
theorem az_un_symm {d p k : Nat} (h : az_un d p k) : az_un d k p := Eq.symm h
theorem az_un_trans {d a b c : Nat} (h : az_un d a b) (g : az_un d b c) : az_un d a c := Eq.trans g h
theorem az_un_pred {d p k : Nat} (hd : d < 4) (h : az_un (d + 1) p k) : az_un d p k := by
  rcases az_lt4 hd with rfl | rfl | rfl | rfl <;> simp only [az_un, Nat.reduceAdd, az_w0, az_w1, az_w2, az_w3, az_w4] at * <;> omega
theorem az_un_le {d p k : Nat} : ∀ {e : Nat}, d ≤ e → e ≤ 4 → az_un e p k → az_un d p k := by
  intro e
  induction e with
  | zero =>
    intro hd _ h
    have z : d = 0 := by omega
    subst z
    exact h
  | succ e ih =>
    intro hd he h
    by_cases z : d = e + 1
    · subst z; exact h
    · exact ih (by omega) (by omega) (az_un_pred (by omega) h)
theorem az_un_step {d p k : Nat} (hd : d < 4) (h : az_un d p k) (hg : az_dg k d = az_dg p d) : az_un (d + 1) p k := by
  rcases az_lt4 hd with rfl | rfl | rfl | rfl <;> simp only [az_un, az_dg, Nat.reduceAdd, az_w0, az_w1, az_w2, az_w3, az_w4] at * <;> omega
theorem az_un_dg {d e p k : Nat} (hd : d < e) (he : e ≤ 4) (h : az_un e p k) : az_dg k d = az_dg p d := by
  have h1 : az_un (d + 1) p k := az_un_le hd he h
  unfold az_un at h1
  unfold az_dg
  rw [h1]
theorem az_dg_lt (k d : Nat) : az_dg k d < 16 := Nat.mod_lt _ (by decide)
theorem az_un4 {p k : Nat} : az_un 4 p k ↔ k = p := by
  simp only [az_un, az_w4, Nat.div_one]
theorem az_un0 {p k : Nat} (hp : p < 65536) (hk : k < 65536) : az_un 0 p k := by
  simp only [az_un, az_w0]; omega
theorem az_un_iv {d p k : Nat} (hd : d ≤ 4) (hp : p % az_w d = 0) : az_un d p k ↔ p ≤ k ∧ k < p + az_w d := by
  rcases az_le4 hd with rfl | rfl | rfl | rfl | rfl <;> simp only [az_un, az_w0, az_w1, az_w2, az_w3, az_w4] at * <;> omega
theorem az_top {d p : Nat} (hd : d ≤ 4) (hp : p % az_w d = 0) (h : p < 65536) : p + az_w d ≤ 65536 := by
  rcases az_le4 hd with rfl | rfl | rfl | rfl | rfl <;> simp only [az_w0, az_w1, az_w2, az_w3, az_w4] at * <;> omega
theorem az_w_succ {d : Nat} (hd : d < 4) : az_w d = 16 * az_w (d + 1) := by
  rcases az_lt4 hd with rfl | rfl | rfl | rfl <;> rfl
theorem az_sub_iv {d p k c : Nat} (hd : d < 4) (hp : p % az_w d = 0) (hc : c < 16) : (az_un d p k ∧ az_dg k d = c) ↔ (p + c * az_w (d + 1) ≤ k ∧ k < p + (c + 1) * az_w (d + 1)) := by
  rcases az_lt4 hd with rfl | rfl | rfl | rfl <;> simp only [az_un, az_dg, Nat.reduceAdd, az_w0, az_w1, az_w2, az_w3, az_w4] at * <;> omega
theorem az_in_part {d e p q : Nat} (hd : d < e) (he : e ≤ 4) (hp : p % az_w d = 0) (hq : q % az_w e = 0) (hu : az_un d p q) : p + az_dg q d * az_w (d + 1) ≤ q ∧ q + az_w e ≤ p + (az_dg q d + 1) * az_w (d + 1) := by
  have hd4 : d < 4 := by omega
  have h1 := (az_sub_iv (k := q) hd4 hp (az_dg_lt q d)).mp ⟨hu, rfl⟩
  have h2 : az_un d p (q + (az_w e - 1)) ∧ az_dg (q + (az_w e - 1)) d = az_dg q d := by
    have h3 : az_un e q (q + (az_w e - 1)) := (az_un_iv he hq).mpr ⟨by omega, by have := az_w_pos e; omega⟩
    exact ⟨az_un_trans hu (az_un_le (by omega) he h3), az_un_dg hd he h3⟩
  have h4 := (az_sub_iv hd4 hp (az_dg_lt q d)).mp h2
  have := az_w_pos e
  exact ⟨h1.1, by omega⟩
theorem az_iv_in {d e p q : Nat} (hd : d ≤ e) (he : e ≤ 4) (hp : p % az_w d = 0) (hq : q % az_w e = 0) (hu : az_un d p q) : p ≤ q ∧ q + az_w e ≤ p + az_w d := by
  have h1 := (az_un_iv (by omega) hp).mp hu
  have h3 : az_un e q (q + (az_w e - 1)) := (az_un_iv he hq).mpr ⟨by omega, by have := az_w_pos e; omega⟩
  have h4 := (az_un_iv (by omega) hp).mp (az_un_trans hu (az_un_le hd he h3))
  have := az_w_pos e
  exact ⟨h1.1, by omega⟩
def az_cut (k d : Nat) : Nat := k / az_w d * az_w d
theorem az_cut_al (k d : Nat) : az_cut k d % az_w d = 0 := Nat.mul_mod_left _ _
theorem az_cut_un (k d : Nat) : az_un d (az_cut k d) k := (Nat.mul_div_cancel _ (az_w_pos d)).symm
theorem az_cut_le (k d : Nat) : az_cut k d ≤ k := Nat.div_mul_le_self _ _
theorem az_cut4 (k : Nat) : az_cut k 4 = k := by
  simp only [az_cut, az_w4, Nat.div_one, Nat.mul_one]
/-- the number of leading digits in which a and b agree: r -/
def az_com (a b r : Nat) : Prop := r ≤ 4 ∧ az_un r a b ∧ (r < 4 → ¬ az_dg a r = az_dg b r)
theorem az_com_lt {a b r d : Nat} (h : az_com a b r) (hd : d ≤ 4) (hn : ¬ az_un d a b) : r < d := by
  rcases Nat.lt_or_ge r d with h1 | h1
  · exact h1
  · exact absurd (az_un_le h1 h.1 h.2.1) hn
theorem az_com_ge {a b r d : Nat} (h : az_com a b r) (hd : d ≤ 4) (hu : az_un d a b) : d ≤ r := by
  rcases Nat.lt_or_ge r d with h1 | h1
  · exact absurd (az_un_dg h1 hd hu).symm (h.2.2 (by omega))
  · exact h1
