section
/-! rows pasted from the kit's PURE-ROWS and BITS -/
theorem pk_us {f : Nat → Int32} {k : Nat} {x : Int32} : upd f k x k = x := if_pos rfl
theorem pk_un {f : Nat → Int32} {k j : Nat} {x : Int32} (h : j ≠ k) : upd f k x j = f j := if_neg h
theorem pk_uLs {f : Nat → Int64} {k : Nat} {x : Int64} : vp_updL f k x k = x := if_pos rfl
theorem pk_uLn {f : Nat → Int64} {k j : Nat} {x : Int64} (h : j ≠ k) : vp_updL f k x j = f j := if_neg h
theorem pk_sub {a b : Nat} (h : b ≤ a) : nI a - nI b = nI (a - b) := by
  obtain ⟨c, rfl⟩ : ∃ c, a = c + b := ⟨a - b, by omega⟩
  rw [← nI_add, Int32.add_sub_cancel, Nat.add_sub_cancel]
theorem pk_m1 (n : Nat) : nI (n + 1) + (-1) = nI n := by
  rw [← nI_1, Int32.add_assoc, show (1 : Int32) + (-1) = 0 from rfl, Int32.add_zero]
theorem pk_mul (a b : Nat) : nI a * nI b = nI (a * b) := (Int32.ofNat_mul a b).symm
theorem pk_sub_toInt {a b : Nat} (ha : a < 2 ^ 30) (hb : b < 2 ^ 30) : (nI a - nI b).toInt = (a : Int) - b := by
  rw [Int32.toInt_sub, nI_toInt (by omega), nI_toInt (by omega)]
  exact Int.bmod_eq_of_le (by omega) (by omega)
theorem pk_sneg {a b : Nat} (hb : b < 2 ^ 30) (h : a < b) : nI a - nI b < 0 := by
  rw [Int32.lt_iff_toInt_lt, pk_sub_toInt (by omega) hb, show (0 : Int32).toInt = 0 from by decide]
  omega
theorem pk_ix (x : Int32) {n : Nat} (hn : n < 2 ^ 31) : x < 0 ∨ nI n ≤ x ∨ ∃ j : Nat, j < n ∧ x = nI j := by
  by_cases h : x < 0
  · exact Or.inl h
  · obtain ⟨j, hj, rfl⟩ := nI_of h
    by_cases h2 : j < n
    · exact Or.inr (Or.inr ⟨j, h2, rfl⟩)
    · exact Or.inr (Or.inl (nI_le (by omega) hj))
theorem pk_le {x y : Int32} {A B : Prop} (a b : Nat) (f : a ≤ b → A) (g : b < a → B) (hx : x = nI a := by rfl) (hy : y = nI b := by rfl) (ha : a < 2 ^ 31 := by omega) (hb : b < 2 ^ 31 := by omega) : (x ≤ y → A) ∧ (¬ x ≤ y → B) := by
  subst hx hy
  rw [nI_leI ha hb]
  exact ⟨f, fun z => g (by omega)⟩
theorem pk_lt {x y : Int32} {A B : Prop} (a b : Nat) (f : a < b → A) (g : b ≤ a → B) (hx : x = nI a := by rfl) (hy : y = nI b := by rfl) (ha : a < 2 ^ 31 := by omega) (hb : b < 2 ^ 31 := by omega) : (x < y → A) ∧ (¬ x < y → B) := by
  subst hx hy
  rw [nI_ltI ha hb]
  exact ⟨f, fun z => g (by omega)⟩
theorem pk_eq {x y : Int32} {A B : Prop} (a b : Nat) (f : a = b → A) (g : a ≠ b → B) (hx : x = nI a := by rfl) (hy : y = nI b := by rfl) (ha : a < 2 ^ 31 := by omega) (hb : b < 2 ^ 31 := by omega) : (x = y → A) ∧ (¬ x = y → B) := by
  subst hx hy
  rw [nI_eq ha hb]
  exact ⟨f, g⟩
theorem pk_in {x : Int32} (n N : Nat) (h : n < N) (hx : x = nI n := by rfl) (hN : N < 2 ^ 31 := by omega) : vp_in x N := by
  subst hx
  exact vp_in_nI h hN
theorem pk_cl {x : Int32} (n : Nat) (hx : x = nI n := by rfl) (h : n < 2 ^ 31 := by omega) : x.toNatClampNeg = n := by
  subst hx
  exact nI_clamp h
theorem pk_tn {n : Nat} (h : n < 2 ^ 32) : (nI n).toBitVec.toNat = n := Nat.mod_eq_of_lt h
theorem pk_and (x : Int32) {m : Int32} (k : Nat) (hm : m.toBitVec.toNat = 2 ^ k - 1) : x &&& m = nI (x.toBitVec.toNat % 2 ^ k) := by
  apply Int32.toBitVec_inj.mp
  apply BitVec.eq_of_toNat_eq
  rw [Int32.toBitVec_and, BitVec.toNat_and, hm, Nat.and_two_pow_sub_one_eq_mod]
  show _ = (BitVec.ofNat 32 _).toNat
  rw [BitVec.toNat_ofNat]
  exact (Nat.mod_eq_of_lt (Nat.lt_of_le_of_lt (Nat.mod_le _ _) x.toBitVec.isLt)).symm
theorem pk_andN {n : Nat} (h : n < 2 ^ 32) {m : Int32} (k : Nat) (hm : m.toBitVec.toNat = 2 ^ k - 1) : nI n &&& m = nI (n % 2 ^ k) := by
  rw [pk_and _ k hm, pk_tn h]
theorem pk_shl (a s : Int32) (k : Nat) (hs : (s.toBitVec.smod 32).toNat = k) : (a <<< s).toBitVec.toNat = a.toBitVec.toNat * 2 ^ k % 2 ^ 32 := by
  show (a.toBitVec <<< (s.toBitVec.smod 32).toNat).toNat = _
  rw [hs, BitVec.toNat_shiftLeft, Nat.shiftLeft_eq]
theorem pk_shlN {n : Nat} (s : Int32) (k : Nat) (hs : (s.toBitVec.smod 32).toNat = k) (h : n * 2 ^ k < 2 ^ 32) : nI n <<< s = nI (n * 2 ^ k) := by
  apply Int32.toBitVec_inj.mp
  apply BitVec.eq_of_toNat_eq
  have hn : n < 2 ^ 32 := Nat.lt_of_le_of_lt (Nat.le_mul_of_pos_right n (Nat.two_pow_pos k)) h
  rw [pk_shl _ _ k hs, pk_tn hn, pk_tn h, Nat.mod_eq_of_lt h]
theorem pk_shr (a s : Int32) (k : Nat) (hs : (s.toBitVec.smod 32).toNat = k) : (a >>> s).toInt = a.toInt >>> k := by
  show (a.toBitVec.sshiftRight (s.toBitVec.smod 32).toNat).toInt = _
  rw [hs, BitVec.toInt_sshiftRight]
  rfl
theorem pk_shrN {n : Nat} (h : n < 2 ^ 31) (s : Int32) (k : Nat) (hs : (s.toBitVec.smod 32).toNat = k) : nI n >>> s = nI (n / 2 ^ k) := by
  apply Int32.toInt_inj.mp
  have h2 : n / 2 ^ k ≤ n := Nat.div_le_self _ _
  rw [pk_shr _ _ k hs, nI_toInt h, nI_toInt (by omega), Int.shiftRight_eq_div_pow]
  rfl
theorem s_l : ∀ n, n < 32 → ((nI n &&& 31).toBitVec.smod 32).toNat = n := by decide +kernel
end
section
/-! numbers: widths of a depth, digits, 'k has the first d digits of p' -/
def az_w (d : Nat) : Nat := if d = 0 then 65536 else if d = 1 then 4096 else if d = 2 then 256 else if d = 3 then 16 else 1
theorem az_w0 : az_w 0 = 65536 := rfl
theorem az_w1 : az_w 1 = 4096 := rfl
theorem az_w2 : az_w 2 = 256 := rfl
theorem az_w3 : az_w 3 = 16 := rfl
theorem az_w4 : az_w 4 = 1 := rfl
theorem az_w_pos (d : Nat) : 0 < az_w d := by
  unfold az_w
  repeat' split
  all_goals decide
def az_dg (k d : Nat) : Nat := k / az_w (d + 1) % 16
def az_un (d p k : Nat) : Prop := k / az_w d = p / az_w d
theorem az_le4 {d : Nat} (h : d ≤ 4) : d = 0 ∨ d = 1 ∨ d = 2 ∨ d = 3 ∨ d = 4 := by omega
theorem az_lt4 {d : Nat} (h : d < 4) : d = 0 ∨ d = 1 ∨ d = 2 ∨ d = 3 := by omega
theorem az_un_refl (d p : Nat) : az_un d p p := rfl
theorem az_un_symm {d p k : Nat} (h : az_un d p k) : az_un d k p := Eq.symm h
theorem az_un_trans {d a b c : Nat} (h : az_un d a b) (g : az_un d b c) : az_un d a c := Eq.trans g h
theorem az_un_pred {d p k : Nat} (hd : d < 4) (h : az_un (d + 1) p k) : az_un d p k := by
  rcases az_lt4 hd with rfl | rfl | rfl | rfl <;> simp only [az_un, Nat.reduceAdd, az_w0, az_w1, az_w2, az_w3, az_w4] at * <;> omega
theorem az_un_le {d p k : Nat} : ∀ {e : Nat}, d ≤ e → e ≤ 4 → az_un e p k → az_un d p k := by
  intro e
  induction e with
  | zero =>
    intro hd _ h
    have z : d = 0 := by omega
    subst z
    exact h
  | succ e ih =>
    intro hd he h
    by_cases z : d = e + 1
    · subst z; exact h
    · exact ih (by omega) (by omega) (az_un_pred (by omega) h)
theorem az_un_step {d p k : Nat} (hd : d < 4) (h : az_un d p k) (hg : az_dg k d = az_dg p d) : az_un (d + 1) p k := by
  rcases az_lt4 hd with rfl | rfl | rfl | rfl <;> simp only [az_un, az_dg, Nat.reduceAdd, az_w0, az_w1, az_w2, az_w3, az_w4] at * <;> omega
theorem az_un_dg {d e p k : Nat} (hd : d < e) (he : e ≤ 4) (h : az_un e p k) : az_dg k d = az_dg p d := by
  have h1 : az_un (d + 1) p k := az_un_le hd he h
  unfold az_un at h1
  unfold az_dg
  rw [h1]
theorem az_dg_lt (k d : Nat) : az_dg k d < 16 := Nat.mod_lt _ (by decide)
theorem az_un4 {p k : Nat} : az_un 4 p k ↔ k = p := by
  simp only [az_un, az_w4, Nat.div_one]
theorem az_un0 {p k : Nat} (hp : p < 65536) (hk : k < 65536) : az_un 0 p k := by
  simp only [az_un, az_w0]; omega
theorem az_un_iv {d p k : Nat} (hd : d ≤ 4) (hp : p % az_w d = 0) : az_un d p k ↔ p ≤ k ∧ k < p + az_w d := by
  rcases az_le4 hd with rfl | rfl | rfl | rfl | rfl <;> simp only [az_un, az_w0, az_w1, az_w2, az_w3, az_w4] at * <;> omega
theorem az_top {d p : Nat} (hd : d ≤ 4) (hp : p % az_w d = 0) (h : p < 65536) : p + az_w d ≤ 65536 := by
  rcases az_le4 hd with rfl | rfl | rfl | rfl | rfl <;> simp only [az_w0, az_w1, az_w2, az_w3, az_w4] at * <;> omega
theorem az_w_succ {d : Nat} (hd : d < 4) : az_w d = 16 * az_w (d + 1) := by
  rcases az_lt4 hd with rfl | rfl | rfl | rfl <;> rfl
theorem az_sub_iv {d p k c : Nat} (hd : d < 4) (hp : p % az_w d = 0) (hc : c < 16) : (az_un d p k ∧ az_dg k d = c) ↔ (p + c * az_w (d + 1) ≤ k ∧ k < p + (c + 1) * az_w (d + 1)) := by
  rcases az_lt4 hd with rfl | rfl | rfl | rfl <;> simp only [az_un, az_dg, Nat.reduceAdd, az_w0, az_w1, az_w2, az_w3, az_w4] at * <;> omega
theorem az_in_part {d e p q : Nat} (hd : d < e) (he : e ≤ 4) (hp : p % az_w d = 0) (hq : q % az_w e = 0) (hu : az_un d p q) : p + az_dg q d * az_w (d + 1) ≤ q ∧ q + az_w e ≤ p + (az_dg q d + 1) * az_w (d + 1) := by
  have hd4 : d < 4 := by omega
  have h1 := (az_sub_iv (k := q) hd4 hp (az_dg_lt q d)).mp ⟨hu, rfl⟩
  have h2 : az_un d p (q + (az_w e - 1)) ∧ az_dg (q + (az_w e - 1)) d = az_dg q d := by
    have h3 : az_un e q (q + (az_w e - 1)) := (az_un_iv he hq).mpr ⟨by omega, by have := az_w_pos e; omega⟩
    exact ⟨az_un_trans hu (az_un_le (by omega) he h3), az_un_dg hd he h3⟩
  have h4 := (az_sub_iv hd4 hp (az_dg_lt q d)).mp h2
  have := az_w_pos e
  exact ⟨h1.1, by omega⟩
theorem az_iv_in {d e p q : Nat} (hd : d ≤ e) (he : e ≤ 4) (hp : p % az_w d = 0) (hq : q % az_w e = 0) (hu : az_un d p q) : p ≤ q ∧ q + az_w e ≤ p + az_w d := by
  have h1 := (az_un_iv (by omega) hp).mp hu
  have h3 : az_un e q (q + (az_w e - 1)) := (az_un_iv he hq).mpr ⟨by omega, by have := az_w_pos e; omega⟩
  have h4 := (az_un_iv (by omega) hp).mp (az_un_trans hu (az_un_le hd he h3))
  have := az_w_pos e
  exact ⟨h1.1, by omega⟩
def az_cut (k d : Nat) : Nat := k / az_w d * az_w d
theorem az_cut_al (k d : Nat) : az_cut k d % az_w d = 0 := Nat.mul_mod_left _ _
theorem az_cut_un (k d : Nat) : az_un d (az_cut k d) k := (Nat.mul_div_cancel _ (az_w_pos d)).symm
theorem az_cut_le (k d : Nat) : az_cut k d ≤ k := Nat.div_mul_le_self _ _
theorem az_cut4 (k : Nat) : az_cut k 4 = k := by
  simp only [az_cut, az_w4, Nat.div_one, Nat.mul_one]
/-- the number of leading digits in which a and b agree: r -/
def az_com (a b r : Nat) : Prop := r ≤ 4 ∧ az_un r a b ∧ (r < 4 → ¬ az_dg a r = az_dg b r)
theorem az_com_lt {a b r d : Nat} (h : az_com a b r) (hd : d ≤ 4) (hn : ¬ az_un d a b) : r < d := by
  rcases Nat.lt_or_ge r d with h1 | h1
  · exact h1
  · exact absurd (az_un_le h1 h.1 h.2.1) hn
theorem az_com_ge {a b r d : Nat} (h : az_com a b r) (hd : d ≤ 4) (hu : az_un d a b) : d ≤ r := by
  rcases Nat.lt_or_ge r d with h1 | h1
  · exact absurd (az_un_dg h1 hd hu).symm (h.2.2 (by omega))
  · exact h1
end
section
/-! sums over a range; the content m, its counts C and its sums Q -/
def az_S (f : Nat → Int) : Nat → Int
  | 0 => 0
  | n + 1 => az_S f n + f n
theorem az_S_succ (f : Nat → Int) (n : Nat) : az_S f (n + 1) = az_S f n + f n := rfl
theorem az_S_0 (f : Nat → Int) : az_S f 0 = 0 := rfl
theorem az_S_seg {f g : Nat → Int} {a : Nat} : ∀ {b : Nat}, a ≤ b → (∀ i, a ≤ i → i < b → f i = g i) → az_S f b - az_S f a = az_S g b - az_S g a := by
  intro b
  induction b with
  | zero =>
    intro h _
    have z : a = 0 := by omega
    subst z
    omega
  | succ b ih =>
    intro h he
    by_cases z : a = b + 1
    · subst z; omega
    · have h1 := ih (by omega) (fun i h1 h2 => he i h1 (by omega))
      have h2 := he b (by omega) (by omega)
      rw [az_S_succ, az_S_succ]
      omega
theorem az_S_congr {f g : Nat → Int} {n : Nat} (h : ∀ i, i < n → f i = g i) : az_S f n = az_S g n := by
  have h1 := az_S_seg (f := f) (g := g) (Nat.zero_le n) (fun i _ h2 => h i h2)
  rw [az_S_0, az_S_0] at h1
  omega
theorem az_S_zero {f : Nat → Int} {a : Nat} : ∀ {b : Nat}, a ≤ b → (∀ i, a ≤ i → i < b → f i = 0) → az_S f b = az_S f a := by
  intro b
  induction b with
  | zero =>
    intro h _
    have z : a = 0 := by omega
    subst z
    rfl
  | succ b ih =>
    intro h he
    by_cases z : a = b + 1
    · subst z; rfl
    · have h1 := ih (by omega) (fun i h1 h2 => he i h1 (by omega))
      have h2 := he b (by omega) (by omega)
      rw [az_S_succ]
      omega
theorem az_S_shrink {f : Nat → Int} {a p q b : Nat} (h1 : a ≤ p) (h2 : p ≤ q) (h3 : q ≤ b) (h : ∀ i, a ≤ i → i < b → ¬ (p ≤ i ∧ i < q) → f i = 0) : az_S f b - az_S f a = az_S f q - az_S f p := by
  have e1 := az_S_zero (f := f) h1 (fun i x y => h i x (by omega) (by omega))
  have e2 := az_S_zero (f := f) h3 (fun i x y => h i (by omega) y (by omega))
  omega
theorem az_S_le {f g : Nat → Int} : ∀ {n : Nat}, (∀ i, i < n → f i ≤ g i) → az_S f n ≤ az_S g n := by
  intro n
  induction n with
  | zero => intro _; exact Int.le_refl _
  | succ n ih =>
    intro h
    have h1 := ih (fun i hi => h i (by omega))
    have h2 := h n (by omega)
    rw [az_S_succ, az_S_succ]
    omega
theorem az_S_mono {f : Nat → Int} (h0 : ∀ i, 0 ≤ f i) {a : Nat} : ∀ {b : Nat}, a ≤ b → az_S f a ≤ az_S f b := by
  intro b
  induction b with
  | zero =>
    intro h
    have z : a = 0 := by omega
    subst z
    exact Int.le_refl _
  | succ b ih =>
    intro h
    by_cases z : a = b + 1
    · subst z; exact Int.le_refl _
    · have h1 := ih (by omega)
      have h2 := h0 b
      rw [az_S_succ]
      omega
theorem az_S_one {f g : Nat → Int} (k : Nat) (h : ∀ i, i ≠ k → f i = g i) (n : Nat) : az_S f n = az_S g n + (if k < n then f k - g k else 0) := by
  induction n with
  | zero => rw [az_S_0, az_S_0, if_neg (by omega)]; rfl
  | succ n ih =>
    rw [az_S_succ, az_S_succ, ih]
    by_cases z : k = n
    · subst z
      rw [if_neg (by omega), if_pos (by omega)]
      omega
    · have h1 := h n (by omega)
      by_cases y : k < n
      · rw [if_pos y, if_pos (by omega)]; omega
      · rw [if_neg y, if_neg (by omega)]; omega
theorem az_S_at {f g : Nat → Int} (k : Nat) {n : Nat} (hk : k < n) (h : ∀ i, i ≠ k → f i = g i) : az_S f n = az_S g n + (f k - g k) := by
  rw [az_S_one k h n, if_pos hk]
theorem az_S_add (f g : Nat → Int) (n : Nat) : az_S (fun i => f i + g i) n = az_S f n + az_S g n := by
  induction n with
  | zero => rfl
  | succ n ih => rw [az_S_succ, az_S_succ, az_S_succ, ih]; omega
theorem az_S_const0 (n : Nat) : az_S (fun _ => 0) n = 0 := by
  induction n with
  | zero => rfl
  | succ n ih => rw [az_S_succ, ih]; rfl
theorem az_S_gt {f : Nat → Int} (h0 : ∀ i, 0 ≤ f i) {a b k : Nat} (ha : a ≤ k) (hb : k < b) (hk : 1 ≤ f k) : az_S f a + 1 ≤ az_S f b := by
  have h1 := az_S_mono h0 ha
  have h2 := az_S_mono h0 (show k + 1 ≤ b from hb)
  rw [az_S_succ] at h2
  omega
theorem az_S_some {f : Nat → Int} {n : Nat} (h : 1 ≤ az_S f n) : ∃ a, a < n ∧ 1 ≤ f a := by
  induction n with
  | zero => rw [az_S_0] at h; omega
  | succ n ih =>
    by_cases z : 1 ≤ f n
    · exact ⟨n, by omega, z⟩
    · rw [az_S_succ] at h
      obtain ⟨a, h1, h2⟩ := ih (by omega)
      exact ⟨a, by omega, h2⟩
theorem az_S_two {f : Nat → Int} {n : Nat} (h1 : ∀ i, f i ≤ 1) (h : 2 ≤ az_S f n) : ∃ a b, a < n ∧ b < n ∧ a ≠ b ∧ 1 ≤ f a ∧ 1 ≤ f b := by
  induction n with
  | zero => rw [az_S_0] at h; omega
  | succ n ih =>
    rw [az_S_succ] at h
    by_cases z : 1 ≤ f n
    · have := h1 n
      obtain ⟨a, h2, h3⟩ := az_S_some (f := f) (n := n) (by omega)
      exact ⟨a, n, by omega, by omega, by omega, h3, z⟩
    · obtain ⟨a, b, x1, x2, x3, x4, x5⟩ := ih (by omega)
      exact ⟨a, b, by omega, by omega, x3, x4, x5⟩
theorem az_S_single (a : Nat) (x : Int) (n : Nat) : az_S (fun k => if a = k then x else 0) n = if a < n then x else 0 := by
  induction n with
  | zero => rw [az_S_0, if_neg (by omega)]
  | succ n ih =>
    rw [az_S_succ, ih]
    by_cases z : a = n
    · subst z; rw [if_neg (by omega), if_pos rfl, if_pos (by omega)]; omega
    · by_cases y : a < n
      · rw [if_pos y, if_neg z, if_pos (by omega)]; omega
      · rw [if_neg y, if_neg z, if_neg (by omega)]; omega
/-- n - 1 cells of 1 .. n - 1 can't all be 1 if the sum is less -/
theorem az_S_free {f : Nat → Nat} {n : Nat} (hf : ∀ i, f i ≤ 1) (h : az_S (fun i => (f i : Int)) n + 1 < n) : ∃ j, 1 ≤ j ∧ j < n ∧ f j = 0 := by
  induction n with
  | zero => rw [az_S_0] at h; omega
  | succ n ih =>
    rw [az_S_succ] at h
    by_cases z : f n = 0
    · by_cases y : n = 0
      · subst y; rw [az_S_0] at h; omega
      · exact ⟨n, by omega, by omega, z⟩
    · have h1 := hf n
      have h2 : f n = 1 := by omega
      obtain ⟨j, x1, x2, x3⟩ := ih (by rw [h2] at h; omega)
      exact ⟨j, x1, by omega, x3⟩
/-! content -/
def az_c1 (m : Nat → Option Int32) (k : Nat) : Int := match m k with
  | none => 0
  | some _ => 1
def az_cq (m : Nat → Option Int32) (k : Nat) : Int := match m k with
  | none => 0
  | some v => v.toInt
def az_C (m : Nat → Option Int32) (x : Nat) : Int := az_S (az_c1 m) x
def az_Q (m : Nat → Option Int32) (x : Nat) : Int := az_S (az_cq m) x
def az_K (m : Nat → Option Int32) (k : Nat) : Prop := m k ≠ none
def az_put (m : Nat → Option Int32) (k : Nat) (o : Option Int32) : Nat → Option Int32 := fun j => if j = k then o else m j
theorem az_put_s (m : Nat → Option Int32) (k : Nat) (o : Option Int32) : az_put m k o k = o := if_pos rfl
theorem az_put_n {m : Nat → Option Int32} {k j : Nat} {o : Option Int32} (h : j ≠ k) : az_put m k o j = m j := if_neg h
theorem az_c1_none {m : Nat → Option Int32} {k : Nat} (h : m k = none) : az_c1 m k = 0 := by unfold az_c1; rw [h]
theorem az_c1_some {m : Nat → Option Int32} {k : Nat} {v : Int32} (h : m k = some v) : az_c1 m k = 1 := by unfold az_c1; rw [h]
theorem az_cq_none {m : Nat → Option Int32} {k : Nat} (h : m k = none) : az_cq m k = 0 := by unfold az_cq; rw [h]
theorem az_cq_some {m : Nat → Option Int32} {k : Nat} {v : Int32} (h : m k = some v) : az_cq m k = v.toInt := by unfold az_cq; rw [h]
theorem az_K_some {m : Nat → Option Int32} {k : Nat} (h : az_K m k) : ∃ v, m k = some v := by
  unfold az_K at h
  cases e : m k with
  | none => exact absurd e h
  | some v => exact ⟨v, rfl⟩
theorem az_K_of {m : Nat → Option Int32} {k : Nat} {v : Int32} (h : m k = some v) : az_K m k := by
  unfold az_K; rw [h]; exact fun z => nomatch z
theorem az_nK {m : Nat → Option Int32} {k : Nat} (h : ¬ az_K m k) : m k = none := by
  unfold az_K at h
  exact Classical.byContradiction fun z => h z
theorem az_c1_K {m : Nat → Option Int32} {k : Nat} (h : az_K m k) : az_c1 m k = 1 := by
  obtain ⟨v, e⟩ := az_K_some h
  exact az_c1_some e
theorem az_c1_nn (m : Nat → Option Int32) (k : Nat) : 0 ≤ az_c1 m k := by
  unfold az_c1
  split <;> omega
theorem az_c1_le (m : Nat → Option Int32) (k : Nat) : az_c1 m k ≤ 1 := by
  unfold az_c1
  split <;> omega
theorem az_C_succ (m : Nat → Option Int32) (x : Nat) : az_C m (x + 1) = az_C m x + az_c1 m x := rfl
theorem az_Q_succ (m : Nat → Option Int32) (x : Nat) : az_Q m (x + 1) = az_Q m x + az_cq m x := rfl
theorem az_C_mono (m : Nat → Option Int32) {a b : Nat} (h : a ≤ b) : az_C m a ≤ az_C m b := az_S_mono (az_c1_nn m) h
theorem az_C_gt {m : Nat → Option Int32} {a b k : Nat} (ha : a ≤ k) (hb : k < b) (hk : az_K m k) : az_C m a + 1 ≤ az_C m b :=
  az_S_gt (az_c1_nn m) ha hb (by rw [az_c1_K hk]; omega)
theorem az_C_nn (m : Nat → Option Int32) (a : Nat) : 0 ≤ az_C m a := az_C_mono m (Nat.zero_le a)
theorem az_C_eq {m : Nat → Option Int32} {a b : Nat} (h : a ≤ b) (hk : ∀ k, a ≤ k → k < b → ¬ az_K m k) : az_C m b = az_C m a :=
  az_S_zero h (fun i x y => az_c1_none (az_nK (hk i x y)))
theorem az_Q_eq {m : Nat → Option Int32} {a b : Nat} (h : a ≤ b) (hk : ∀ k, a ≤ k → k < b → ¬ az_K m k) : az_Q m b = az_Q m a :=
  az_S_zero h (fun i x y => az_cq_none (az_nK (hk i x y)))
theorem az_C_shrink {m : Nat → Option Int32} {a p q b : Nat} (h1 : a ≤ p) (h2 : p ≤ q) (h3 : q ≤ b) (h : ∀ i, a ≤ i → i < b → az_K m i → p ≤ i ∧ i < q) : az_C m b - az_C m a = az_C m q - az_C m p :=
  az_S_shrink h1 h2 h3 (fun i x y z => az_c1_none (az_nK (fun w => z (h i x y w))))
theorem az_Q_shrink {m : Nat → Option Int32} {a p q b : Nat} (h1 : a ≤ p) (h2 : p ≤ q) (h3 : q ≤ b) (h : ∀ i, a ≤ i → i < b → az_K m i → p ≤ i ∧ i < q) : az_Q m b - az_Q m a = az_Q m q - az_Q m p :=
  az_S_shrink h1 h2 h3 (fun i x y z => az_cq_none (az_nK (fun w => z (h i x y w))))
/-- two keys of the same rank are one -/
theorem az_C_inj {m : Nat → Option Int32} {a b : Nat} (ha : az_K m a) (hb : az_K m b) (h : az_C m a = az_C m b) : a = b := by
  rcases Nat.lt_trichotomy a b with z | z | z
  · have := az_C_gt (Nat.le_refl a) z ha; omega
  · exact z
  · have := az_C_gt (Nat.le_refl b) z hb; omega
theorem az_C_put (m : Nat → Option Int32) (k : Nat) (o : Option Int32) (x : Nat) : az_C (az_put m k o) x = az_C m x + (if k < x then az_c1 (az_put m k o) k - az_c1 m k else 0) :=
  az_S_one k (fun i hi => by unfold az_c1; rw [az_put_n hi]) x
theorem az_Q_put (m : Nat → Option Int32) (k : Nat) (o : Option Int32) (x : Nat) : az_Q (az_put m k o) x = az_Q m x + (if k < x then az_cq (az_put m k o) k - az_cq m k else 0) :=
  az_S_one k (fun i hi => by unfold az_cq; rw [az_put_n hi]) x
end
section
/-! the tree: us used, dp depth, pf first digits, ch child by digit, rt root, over a set K of keys -/
def az_T1 (us dp pf : Nat → Nat) : Prop := ∀ i, us i = 1 → 0 < i ∧ i < 128 ∧ dp i ≤ 4 ∧ pf i < 65536 ∧ pf i % az_w (dp i) = 0
def az_T2 (K : Nat → Prop) (us dp pf : Nat → Nat) : Prop := ∀ i, us i = 1 → dp i = 4 → K (pf i)
def az_T3 (us dp pf : Nat → Nat) (ch : Nat → Nat → Nat) : Prop := ∀ i c, us i = 1 → dp i < 4 → c < 16 → ch i c ≠ 0 → us (ch i c) = 1 ∧ dp i < dp (ch i c) ∧ az_un (dp i) (pf i) (pf (ch i c)) ∧ az_dg (pf (ch i c)) (dp i) = c
def az_T4 (K : Nat → Prop) (us dp pf : Nat → Nat) (ch : Nat → Nat → Nat) : Prop := ∀ i k, us i = 1 → dp i < 4 → K k → az_un (dp i) (pf i) k → ch i (az_dg k (dp i)) ≠ 0 ∧ az_un (dp (ch i (az_dg k (dp i)))) (pf (ch i (az_dg k (dp i)))) k
def az_T5 (us dp : Nat → Nat) (ch : Nat → Nat → Nat) : Prop := ∀ i, us i = 1 → dp i < 4 → ∃ a b, a < 16 ∧ b < 16 ∧ a ≠ b ∧ ch i a ≠ 0 ∧ ch i b ≠ 0
def az_T6 (us dp pf : Nat → Nat) : Prop := ∀ i j, us i = 1 → us j = 1 → dp i = dp j → az_un (dp i) (pf i) (pf j) → i = j
def az_T7 (K : Nat → Prop) (us dp pf : Nat → Nat) (rt : Nat) : Prop := (rt = 0 → ∀ k, ¬ K k) ∧ (rt ≠ 0 → us rt = 1 ∧ ∀ k, K k → az_un (dp rt) (pf rt) k)
def az_T (K : Nat → Prop) (us dp pf : Nat → Nat) (ch : Nat → Nat → Nat) (rt : Nat) : Prop :=
  az_T1 us dp pf ∧ az_T2 K us dp pf ∧ az_T3 us dp pf ch ∧ az_T4 K us dp pf ch ∧ az_T5 us dp ch ∧ az_T6 us dp pf ∧ az_T7 K us dp pf rt ∧ (∀ k, K k → k < 65536)
section
variable {K : Nat → Prop} {us dp pf : Nat → Nat} {ch : Nat → Nat → Nat} {rt : Nat}
/-- every used node has a key under it -/
theorem az_inh (h : az_T K us dp pf ch rt) : ∀ (n i : Nat), 4 - dp i ≤ n → us i = 1 → ∃ k, K k ∧ az_un (dp i) (pf i) k := by
  obtain ⟨t1, t2, t3, t4, t5, t6, t7, t8⟩ := h
  intro n
  induction n with
  | zero =>
    intro i hn hi
    have h1 := t1 i hi
    exact ⟨pf i, t2 i hi (by omega), az_un_refl _ _⟩
  | succ n ih =>
    intro i hn hi
    have h1 := t1 i hi
    by_cases z : dp i = 4
    · exact ⟨pf i, t2 i hi z, az_un_refl _ _⟩
    · obtain ⟨a, b, ha, hb, hab, ca, cb⟩ := t5 i hi (by omega)
      obtain ⟨u1, u2, u3, u4⟩ := t3 i a hi (by omega) ha ca
      obtain ⟨k, k1, k2⟩ := ih (ch i a) (by omega) u1
      have h2 := t1 _ u1
      exact ⟨k, k1, az_un_trans u3 (az_un_le (by omega) h2.2.2.1 k2)⟩
theorem az_inh' (h : az_T K us dp pf ch rt) {i : Nat} (hi : us i = 1) : ∃ k, K k ∧ az_un (dp i) (pf i) k :=
  az_inh h (4 - dp i) i (Nat.le_refl _) hi
/-- a used branch has two keys that part at its depth -/
theorem az_two (h : az_T K us dp pf ch rt) {i : Nat} (hi : us i = 1) (hd : dp i < 4) : ∃ k k', K k ∧ K k' ∧ az_un (dp i) (pf i) k ∧ az_un (dp i) (pf i) k' ∧ az_dg k (dp i) ≠ az_dg k' (dp i) := by
  obtain ⟨a, b, ha, hb, hab, ca, cb⟩ := h.2.2.2.2.1 i hi hd
  obtain ⟨u1, u2, u3, u4⟩ := h.2.2.1 i a hi hd ha ca
  obtain ⟨w1, w2, w3, w4⟩ := h.2.2.1 i b hi hd hb cb
  obtain ⟨k, k1, k2⟩ := az_inh' h u1
  obtain ⟨k', k3, k4⟩ := az_inh' h w1
  have e1 := (h.1 _ u1).2.2.1
  have e2 := (h.1 _ w1).2.2.1
  have e3 := az_un_dg u2 e1 k2
  have e4 := az_un_dg w2 e2 k4
  exact ⟨k, k', k1, k3, az_un_trans u3 (az_un_le (by omega) e1 k2), az_un_trans w3 (az_un_le (by omega) e2 k4), by omega⟩
theorem az_root0 (h : az_T K us dp pf ch rt) {i : Nat} (hi : us i = 1) : rt ≠ 0 := by
  intro z
  obtain ⟨k, k1, _⟩ := az_inh' h hi
  exact h.2.2.2.2.2.2.1.1 z k k1
theorem az_rootu (h : az_T K us dp pf ch rt) (z : rt ≠ 0) : us rt = 1 := (h.2.2.2.2.2.2.1.2 z).1
theorem az_rootk (h : az_T K us dp pf ch rt) {k : Nat} (hk : K k) : rt ≠ 0 ∧ us rt = 1 ∧ az_un (dp rt) (pf rt) k := by
  have z : rt ≠ 0 := fun z => h.2.2.2.2.2.2.1.1 z k hk
  exact ⟨z, (h.2.2.2.2.2.2.1.2 z).1, (h.2.2.2.2.2.2.1.2 z).2 k hk⟩
/-- every used node lies under the root -/
theorem az_root (h : az_T K us dp pf ch rt) {i : Nat} (hi : us i = 1) : dp rt ≤ dp i ∧ az_un (dp rt) (pf rt) (pf i) := by
  have z := az_root0 h hi
  have hr := az_rootu h z
  have d1 := (h.1 _ hi).2.2.1
  have d2 := (h.1 _ hr).2.2.1
  have hle : dp rt ≤ dp i := by
    rcases Nat.lt_or_ge (dp i) (dp rt) with y | y
    · obtain ⟨k, k', k1, k2, k3, k4, k5⟩ := az_two h hi (by omega)
      exact absurd (az_un_dg y d2 (az_un_trans (az_un_symm (az_rootk h k2).2.2) (az_rootk h k1).2.2)) k5
    · exact y
  obtain ⟨k, k1, k2⟩ := az_inh' h hi
  exact ⟨hle, az_un_trans (az_rootk h k1).2.2 (az_un_symm (az_un_le hle d1 k2))⟩
/-- of two used nodes over x the upper one's child toward x is over x, and not below the lower one -/
theorem az_path (h : az_T K us dp pf ch rt) {i j x : Nat} (hi : us i = 1) (hj : us j = 1) (ui : az_un (dp i) (pf i) x) (uj : az_un (dp j) (pf j) x) (hd : dp i < dp j) :
    ch i (az_dg x (dp i)) ≠ 0 ∧ us (ch i (az_dg x (dp i))) = 1 ∧ dp i < dp (ch i (az_dg x (dp i))) ∧ dp (ch i (az_dg x (dp i))) ≤ dp j ∧ az_un (dp (ch i (az_dg x (dp i)))) (pf (ch i (az_dg x (dp i)))) x := by
  have dj := (h.1 _ hj).2.2.1
  have key : ∀ k, K k → az_un (dp j) (pf j) k → ch i (az_dg x (dp i)) ≠ 0 ∧ az_un (dp (ch i (az_dg x (dp i)))) (pf (ch i (az_dg x (dp i)))) k := by
    intro k k1 k2
    have e1 : az_un (dp j) x k := az_un_trans (az_un_symm uj) k2
    have e2 : az_un (dp i) (pf i) k := az_un_trans ui (az_un_le (by omega) dj e1)
    have e3 : az_dg k (dp i) = az_dg x (dp i) := az_un_dg hd dj e1
    have e4 := h.2.2.2.1 i k hi (by omega) k1 e2
    rw [e3] at e4
    exact e4
  obtain ⟨k, k1, k2⟩ := az_inh' h hj
  obtain ⟨c0, c1⟩ := key k k1 k2
  obtain ⟨u1, u2, u3, u4⟩ := h.2.2.1 i _ hi (by omega) (az_dg_lt x (dp i)) c0
  have dc := (h.1 _ u1).2.2.1
  have hle : dp (ch i (az_dg x (dp i))) ≤ dp j := by
    rcases Nat.lt_or_ge (dp j) (dp (ch i (az_dg x (dp i)))) with y | y
    · obtain ⟨a, b, a1, b1, a2, b2, ab⟩ := az_two h hj (by omega)
      exact absurd (az_un_dg y dc (az_un_trans (az_un_symm (key b b1 b2).2) (key a a1 a2).2)) ab
    · exact y
  refine ⟨c0, u1, u2, hle, ?_⟩
  have e1 : az_un (dp j) k x := az_un_trans (az_un_symm k2) uj
  exact az_un_trans c1 (az_un_le hle dj e1)
/-- a used node over x at the depth of another used node over x is that node -/
theorem az_same (h : az_T K us dp pf ch rt) {i j x : Nat} (hi : us i = 1) (hj : us j = 1) (ui : az_un (dp i) (pf i) x) (uj : az_un (dp j) (pf j) x) (hd : dp i = dp j) : i = j :=
  h.2.2.2.2.2.1 i j hi hj hd (az_un_trans ui (by rw [hd]; exact az_un_symm uj))
/-- only used nodes count -/
theorem az_T_congr (h : az_T K us dp pf ch rt) {dp' pf' : Nat → Nat} {ch' : Nat → Nat → Nat} (e1 : ∀ i, us i = 1 → dp' i = dp i) (e2 : ∀ i, us i = 1 → pf' i = pf i) (e3 : ∀ i, us i = 1 → ∀ c, ch' i c = ch i c) : az_T K us dp' pf' ch' rt := by
  obtain ⟨t1, t2, t3, t4, t5, t6, t7, t8⟩ := h
  refine ⟨?_, ?_, ?_, ?_, ?_, ?_, ?_, t8⟩
  · intro i hi
    rw [e1 i hi, e2 i hi]; exact t1 i hi
  · intro i hi
    rw [e1 i hi, e2 i hi]; exact t2 i hi
  · intro i c hi hd hc h0
    rw [e3 i hi c] at h0 ⊢
    rw [e1 i hi] at hd ⊢
    have hu := t3 i c hi hd hc h0
    rw [e2 i hi, e1 _ hu.1, e2 _ hu.1]; exact hu
  · intro i k hi hd hk hu
    rw [e1 i hi] at hd hu ⊢
    rw [e2 i hi] at hu
    rw [e3 i hi]
    have h4 := t4 i k hi hd hk hu
    have hv := t3 i _ hi hd (az_dg_lt k (dp i)) h4.1
    rw [e1 _ hv.1, e2 _ hv.1]; exact h4
  · intro i hi hd
    rw [e1 i hi] at hd
    obtain ⟨a, b, x1, x2, x3, x4, x5⟩ := t5 i hi hd
    exact ⟨a, b, x1, x2, x3, by rw [e3 i hi]; exact x4, by rw [e3 i hi]; exact x5⟩
  · intro i j hi hj hd hu
    rw [e1 i hi, e1 j hj] at hd
    rw [e1 i hi, e2 i hi, e2 j hj] at hu
    exact t6 i j hi hj hd hu
  · refine ⟨t7.1, fun z => ?_⟩
    have hr := t7.2 z
    rw [e1 _ hr.1, e2 _ hr.1]; exact hr
/-- the same keys -/
theorem az_T_keys (h : az_T K us dp pf ch rt) {K' : Nat → Prop} (e : ∀ k, K' k ↔ K k) : az_T K' us dp pf ch rt := by
  have z : K' = K := funext fun k => propext (e k)
  rw [z]; exact h
/-- where a walk toward x stands: p the last node over x (0: none), n the next -/
def az_at (us dp pf : Nat → Nat) (ch : Nat → Nat → Nat) (rt x p n : Nat) : Prop :=
  (p = 0 ∧ n = rt) ∨ (us p = 1 ∧ dp p < 4 ∧ az_un (dp p) (pf p) x ∧ n = ch p (az_dg x (dp p)))
/-- where the walk ends, every used node over x is p or above p -/
theorem az_end (h : az_T K us dp pf ch rt) {x p n : Nat} (ha : az_at us dp pf ch rt x p n) (he : n = 0 ∨ ¬ az_un (dp n) (pf n) x) {j : Nat} (hj : us j = 1) (uj : az_un (dp j) (pf j) x) :
    us p = 1 ∧ dp p < 4 ∧ az_un (dp p) (pf p) x ∧ n = ch p (az_dg x (dp p)) ∧ dp j ≤ dp p ∧ (j ≠ p → ch j (az_dg x (dp j)) ≠ 0 ∧ az_un (dp (ch j (az_dg x (dp j)))) (pf (ch j (az_dg x (dp j)))) x) := by
  rcases ha with ⟨rfl, rfl⟩ | ⟨p1, p2, p3, p4⟩
  · have r0 := az_root0 h hj
    have r1 := az_root h hj
    have dj := (h.1 _ hj).2.2.1
    rcases he with z | z
    · exact absurd z r0
    · exact absurd (az_un_trans r1.2 (az_un_le r1.1 dj uj)) z
  · have hle : dp j ≤ dp p := by
      rcases Nat.lt_or_ge (dp p) (dp j) with y | y
      · have hp := az_path h p1 hj p3 uj y
        rw [← p4] at hp
        rcases he with z | z
        · exact absurd z hp.1
        · exact absurd hp.2.2.2.2 z
      · exact y
    refine ⟨p1, p2, p3, p4, hle, fun hne => ?_⟩
    have hlt : dp j < dp p := by
      rcases Nat.lt_or_ge (dp j) (dp p) with y | y
      · exact y
      · exact absurd (az_same h hj p1 uj p3 (by omega)) hne
    have hp := az_path h hj p1 uj p3 hlt
    exact ⟨hp.1, hp.2.2.2.2⟩
end
end
section
/-! the tree after a leaf has been put in, or taken out -/
section
variable {K : Nat → Prop} {us dp pf : Nat → Nat} {ch : Nat → Nat → Nat} {rt : Nat}
/-- the first leaf -/
theorem az_addC (h : az_T K us dp pf ch rt) {x l : Nat} (hx : x < 65536) (hl : 0 < l ∧ l < 128) (dl : dp l = 4) (pl : pf l = x) (hr : rt = 0)
    {us' : Nat → Nat} (u1 : us' l = 1) (u2 : ∀ j, j ≠ l → us' j = us j) : az_T (fun k => K k ∨ k = x) us' dp pf ch l := by
  have hz : ∀ j, us' j = 1 → j = l := by
    intro j hj
    by_cases z : j = l
    · exact z
    · rw [u2 j z] at hj
      exact absurd hr (az_root0 h hj)
  have hk : ∀ k, ¬ K k := h.2.2.2.2.2.2.1.1 hr
  refine ⟨?_, ?_, ?_, ?_, ?_, ?_, ?_, ?_⟩
  · intro i hi
    rw [hz i hi, dl, pl, az_w4]
    exact ⟨hl.1, hl.2, Nat.le_refl _, hx, Nat.mod_one _⟩
  · intro i hi _
    rw [hz i hi, pl]
    exact Or.inr rfl
  · intro i c hi hd
    rw [hz i hi, dl] at hd
    omega
  · intro i k hi hd
    rw [hz i hi, dl] at hd
    omega
  · intro i hi hd
    rw [hz i hi, dl] at hd
    omega
  · intro i j hi hj _ _
    rw [hz i hi, hz j hj]
  · refine ⟨fun z => by omega, fun _ => ⟨u1, ?_⟩⟩
    intro k hk'
    rcases hk' with z | z
    · exact absurd z (hk k)
    · rw [dl, pl, z]; exact az_un_refl _ _
  · intro k hk'
    rcases hk' with z | z
    · exact absurd z (hk k)
    · omega
/-- a leaf more under the branch p -/
theorem az_addB (h : az_T K us dp pf ch rt) {x l p : Nat} (hx : x < 65536) (nx : ¬ K x) (hl : 0 < l ∧ l < 128) (ul : us l = 0) (dl : dp l = 4) (pl : pf l = x)
    (p1 : us p = 1) (p2 : dp p < 4) (p3 : az_un (dp p) (pf p) x) (p4 : ch p (az_dg x (dp p)) = 0)
    {us' : Nat → Nat} (u1 : us' l = 1) (u2 : ∀ j, j ≠ l → us' j = us j)
    {ch' : Nat → Nat → Nat} (c1 : ch' p (az_dg x (dp p)) = l) (c2 : ∀ j c, us j = 1 → ¬ (j = p ∧ c = az_dg x (dp p)) → ch' j c = ch j c) :
    az_T (fun k => K k ∨ k = x) us' dp pf ch' rt := by
  have ha : az_at us dp pf ch rt x p 0 := Or.inr ⟨p1, p2, p3, p4.symm⟩
  have hne : ∀ j, us j = 1 → j ≠ l := by
    intro j hj z
    rw [z, ul] at hj
    omega
  have hold : ∀ j, us' j = 1 → j ≠ l → us j = 1 := by
    intro j hj z
    rw [← u2 j z]; exact hj
  have hnew : ∀ j, us j = 1 → us' j = 1 := by
    intro j hj
    rw [u2 j (hne j hj)]; exact hj
  have hnz : ∀ i c, us i = 1 → ch i c ≠ 0 → ch' i c ≠ 0 := by
    intro i c hi hc
    by_cases z : i = p ∧ c = az_dg x (dp p)
    · rw [z.1, z.2, c1]; omega
    · rw [c2 i c hi z]; exact hc
  have hall := h
  obtain ⟨t1, t2, t3, t4, t5, t6, t7, t8⟩ := h
  refine ⟨?_, ?_, ?_, ?_, ?_, ?_, ?_, ?_⟩
  · intro i hi
    by_cases z : i = l
    · rw [z, dl, pl, az_w4]
      exact ⟨hl.1, hl.2, Nat.le_refl _, hx, Nat.mod_one _⟩
    · exact t1 i (hold i hi z)
  · intro i hi hd
    by_cases z : i = l
    · rw [z, pl]; exact Or.inr rfl
    · exact Or.inl (t2 i (hold i hi z) hd)
  · intro i c hi hd hc h0
    by_cases z : i = l
    · rw [z, dl] at hd; omega
    · have hi' := hold i hi z
      by_cases y : i = p ∧ c = az_dg x (dp p)
      · obtain ⟨rfl, rfl⟩ := y
        rw [c1, dl, pl]
        exact ⟨u1, p2, p3, rfl⟩
      · rw [c2 i c hi' y] at h0 ⊢
        have hu := t3 i c hi' hd hc h0
        exact ⟨hnew _ hu.1, hu.2⟩
  · intro i k hi hd hk hu
    by_cases z : i = l
    · rw [z, dl] at hd; omega
    · have hi' := hold i hi z
      rcases hk with hk | hk
      · have h4 := t4 i k hi' hd hk hu
        by_cases y : i = p ∧ az_dg k (dp i) = az_dg x (dp p)
        · obtain ⟨rfl, y2⟩ := y
          rw [y2, p4] at h4
          exact absurd rfl h4.1
        · rw [c2 i _ hi' y]; exact h4
      · subst hk
        by_cases y : i = p
        · subst y
          rw [c1, dl, pl]
          exact ⟨by omega, az_un_refl _ _⟩
        · have he := (az_end hall ha (Or.inl rfl) hi' hu).2.2.2.2.2 y
          rw [c2 i _ hi' (fun w => y w.1)]
          exact he
  · intro i hi hd
    by_cases z : i = l
    · rw [z, dl] at hd; omega
    · have hi' := hold i hi z
      obtain ⟨a, b, x1, x2, x3, x4, x5⟩ := t5 i hi' hd
      exact ⟨a, b, x1, x2, x3, hnz i a hi' x4, hnz i b hi' x5⟩
  · intro i j hi hj hd hu
    by_cases z : i = l
    · by_cases y : j = l
      · rw [z, y]
      · have hj' := hold j hj y
        rw [z, dl, pl] at hu
        rw [z, dl] at hd
        have e := az_un4.mp hu
        have := t2 j hj' hd.symm
        rw [e] at this
        exact absurd this nx
    · have hi' := hold i hi z
      by_cases y : j = l
      · rw [y, dl] at hd
        rw [y, pl, hd] at hu
        have e := az_un4.mp hu
        have := t2 i hi' hd
        rw [← e] at this
        exact absurd this nx
      · exact t6 i j hi' (hold j hj y) hd hu
  · have r0 := az_root0 hall p1
    refine ⟨fun z => absurd z r0, fun _ => ⟨hnew _ (az_rootu hall r0), ?_⟩⟩
    intro k hk
    rcases hk with hk | hk
    · exact (az_rootk hall hk).2.2
    · subst hk
      have r1 := az_root hall p1
      exact az_un_trans r1.2 (az_un_le r1.1 (by omega) p3)
  · intro k hk
    rcases hk with hk | hk
    · exact t8 k hk
    · omega
/-- where a branch b of depth r is set over the node n, and the leaf l beside n -/
theorem az_joint (h : az_T K us dp pf ch rt) {x p n r : Nat} (ha : az_at us dp pf ch rt x p n) (hn : n ≠ 0) (hnu : ¬ az_un (dp n) (pf n) x) (hr : az_com (pf n) x r) :
    us n = 1 ∧ r < dp n ∧ (us p = 1 → dp p < r) ∧ (∀ k, K k → az_un r (az_cut x r) k → az_un (dp n) (pf n) k) := by
  have n1 : us n = 1 := by
    rcases ha with ⟨_, rfl⟩ | ⟨p1, p2, p3, p4⟩
    · exact az_rootu h hn
    · rw [p4] at hn ⊢
      exact (h.2.2.1 p _ p1 p2 (az_dg_lt _ _) hn).1
  have dn := (h.1 n n1).2.2.1
  have hlt := az_com_lt hr dn hnu
  have hpr : us p = 1 → dp p < r := by
    intro hp
    rcases ha with ⟨rfl, _⟩ | ⟨p1, p2, p3, p4⟩
    · have := (h.1 0 hp).1; omega
    · have hu := h.2.2.1 p (az_dg x (dp p)) p1 p2 (az_dg_lt _ _) (by rw [← p4]; exact hn)
      rw [← p4] at hu
      have e1 : az_un (dp p) (pf n) x := az_un_trans (az_un_symm hu.2.2.1) p3
      have e2 : az_un (dp p + 1) (pf n) x := az_un_step p2 e1 hu.2.2.2.symm
      have := az_com_ge hr (by omega) e2
      omega
  refine ⟨n1, hlt, hpr, ?_⟩
  intro k hk hu
  rcases ha with ⟨_, rfl⟩ | ⟨p1, p2, p3, p4⟩
  · exact (az_rootk h hk).2.2
  · have e1 : az_un r x k := az_un_trans (az_un_symm (az_cut_un x r)) hu
    have e2 : az_un (dp p) (pf p) k := az_un_trans p3 (az_un_le (by have := hpr p1; omega) (by omega) e1)
    have e3 := az_un_dg (hpr p1) (by omega) e1
    have e4 := h.2.2.2.1 p k p1 p2 hk e2
    rw [e3, ← p4] at e4
    exact e4.2
theorem az_addA (h : az_T K us dp pf ch rt) {x l b p n r : Nat} (hx : x < 65536) (nx : ¬ K x) (hl : 0 < l ∧ l < 128) (ul : us l = 0) (dl : dp l = 4) (pl : pf l = x)
    (hb : 0 < b ∧ b < 128) (ub : us b = 0) (db : dp b = r) (pb : pf b = az_cut x r) (hbl : b ≠ l)
    (ha : az_at us dp pf ch rt x p n) (hn : n ≠ 0) (hnu : ¬ az_un (dp n) (pf n) x) (hr : az_com (pf n) x r)
    {us' : Nat → Nat} (u1 : us' l = 1) (u3 : us' b = 1) (u2 : ∀ j, j ≠ l → j ≠ b → us' j = us j)
    {ch' : Nat → Nat → Nat} (c3 : ch' b (az_dg (pf n) r) = n) (c4 : ch' b (az_dg x r) = l) (c5 : ∀ c, c ≠ az_dg (pf n) r → c ≠ az_dg x r → ch' b c = 0)
    (c1 : us p = 1 → ch' p (az_dg x (dp p)) = b) (c2 : ∀ j c, us j = 1 → ¬ (j = p ∧ c = az_dg x (dp p)) → ch' j c = ch j c)
    {rt' : Nat} (r1 : p = 0 → rt' = b) (r2 : p ≠ 0 → rt' = rt) :
    az_T (fun k => K k ∨ k = x) us' dp pf ch' rt' := by
  obtain ⟨n1, hlt, hpr, hKn⟩ := az_joint h ha hn hnu hr
  have dn := (h.1 n n1).2.2.1
  have ubx : az_un r (pf b) x := by rw [pb]; exact az_cut_un x r
  have ubn : az_un r (pf b) (pf n) := az_un_trans ubx (az_un_symm hr.2.1)
  have hne : ∀ j, us j = 1 → j ≠ l ∧ j ≠ b := by
    intro j hj
    refine ⟨fun z => ?_, fun z => ?_⟩
    · rw [z, ul] at hj; omega
    · rw [z, ub] at hj; omega
  have hold : ∀ j, us' j = 1 → j ≠ l → j ≠ b → us j = 1 := by
    intro j hj z y
    rw [← u2 j z y]; exact hj
  have hnew : ∀ j, us j = 1 → us' j = 1 := by
    intro j hj
    rw [u2 j (hne j hj).1 (hne j hj).2]; exact hj
  have hnz : ∀ i c, us i = 1 → ch i c ≠ 0 → ch' i c ≠ 0 := by
    intro i c hi hc
    by_cases z : i = p ∧ c = az_dg x (dp p)
    · obtain ⟨rfl, rfl⟩ := z
      rw [c1 hi]; omega
    · rw [c2 i c hi z]; exact hc
  have hall := h
  obtain ⟨t1, t2, t3, t4, t5, t6, t7, t8⟩ := h
  -- no used node over x at the depth of b
  have hno : ∀ j, us j = 1 → dp j = r → ¬ az_un r (pf b) (pf j) := by
    intro j hj hd hu
    have uj : az_un (dp j) (pf j) x := by rw [hd]; exact az_un_trans (az_un_symm hu) ubx
    have he := az_end hall ha (Or.inr hnu) hj uj
    have := hpr he.1
    omega
  refine ⟨?_, ?_, ?_, ?_, ?_, ?_, ?_, ?_⟩
  · intro i hi
    by_cases z : i = l
    · rw [z, dl, pl, az_w4]
      exact ⟨hl.1, hl.2, Nat.le_refl _, hx, Nat.mod_one _⟩
    · by_cases y : i = b
      · rw [y, db, pb]
        exact ⟨hb.1, hb.2, by omega, Nat.lt_of_le_of_lt (az_cut_le x r) hx, az_cut_al x r⟩
      · exact t1 i (hold i hi z y)
  · intro i hi hd
    by_cases z : i = l
    · rw [z, pl]; exact Or.inr rfl
    · by_cases y : i = b
      · rw [y, db] at hd; omega
      · exact Or.inl (t2 i (hold i hi z y) hd)
  · intro i c hi hd hc h0
    by_cases z : i = l
    · rw [z, dl] at hd; omega
    · by_cases y : i = b
      · subst y
        by_cases v : c = az_dg (pf n) r
        · subst v
          rw [c3, db]
          exact ⟨hnew n n1, hlt, ubn, rfl⟩
        · by_cases w : c = az_dg x r
          · subst w
            rw [c4, db, dl, pl]
            exact ⟨u1, by omega, ubx, rfl⟩
          · exact absurd (c5 c v w) h0
      · have hi' := hold i hi z y
        by_cases v : i = p ∧ c = az_dg x (dp p)
        · obtain ⟨rfl, rfl⟩ := v
          have q := hpr hi'
          have p3 : az_un (dp i) (pf i) x := by
            rcases ha with ⟨rfl, _⟩ | ⟨q1, q2, q3, q4⟩
            · have := (t1 0 hi').1; omega
            · exact q3
          rw [c1 hi', db]
          refine ⟨u3, q, az_un_trans p3 (az_un_le (by omega) (by omega) (az_un_symm ubx)), az_un_dg q (by omega) (az_un_symm ubx)⟩
        · rw [c2 i c hi' v] at h0 ⊢
          have hu := t3 i c hi' hd hc h0
          exact ⟨hnew _ hu.1, hu.2⟩
  · intro i k hi hd hk hu
    by_cases z : i = l
    · rw [z, dl] at hd; omega
    · by_cases y : i = b
      · subst y
        rw [db] at hu ⊢
        rcases hk with hk | hk
        · have e1 := hKn k hk (by rw [← pb]; exact hu)
          have e2 := az_un_dg hlt dn e1
          rw [e2, c3]
          exact ⟨hn, e1⟩
        · subst hk
          rw [c4, dl, pl]
          exact ⟨by omega, az_un_refl _ _⟩
      · have hi' := hold i hi z y
        rcases hk with hk | hk
        · have h4 := t4 i k hi' hd hk hu
          by_cases v : i = p ∧ az_dg k (dp i) = az_dg x (dp p)
          · obtain ⟨rfl, v2⟩ := v
            have q : n = ch i (az_dg x (dp i)) := by
              rcases ha with ⟨rfl, _⟩ | ⟨q1, q2, q3, q4⟩
              · have := (t1 0 hi').1; omega
              · exact q4
            rw [v2, ← q] at h4
            rw [v2, c1 hi', db]
            exact ⟨by omega, az_un_trans ubn (az_un_le (by omega) dn h4.2)⟩
          · rw [c2 i _ hi' v]; exact h4
        · subst hk
          by_cases v : i = p
          · subst v
            rw [c1 hi', db]
            exact ⟨by omega, ubx⟩
          · have he := (az_end hall ha (Or.inr hnu) hi' hu).2.2.2.2.2 v
            rw [c2 i _ hi' (fun w => v w.1)]
            exact he
  · intro i hi hd
    by_cases z : i = l
    · rw [z, dl] at hd; omega
    · by_cases y : i = b
      · subst y
        refine ⟨az_dg (pf n) r, az_dg x r, az_dg_lt _ _, az_dg_lt _ _, hr.2.2 (by omega), ?_, ?_⟩
        · rw [c3]; exact hn
        · rw [c4]; omega
      · have hi' := hold i hi z y
        obtain ⟨a, b', x1, x2, x3, x4, x5⟩ := t5 i hi' hd
        exact ⟨a, b', x1, x2, x3, hnz i a hi' x4, hnz i b' hi' x5⟩
  · intro i j hi hj hd hu
    by_cases z : i = l
    · by_cases y : j = l
      · rw [z, y]
      · rw [z, dl] at hd
        rw [z, dl, pl] at hu
        by_cases v : j = b
        · rw [v, db] at hd; omega
        · have hj' := hold j hj y v
          have e := az_un4.mp hu
          have := t2 j hj' hd.symm
          rw [e] at this
          exact absurd this nx
    · by_cases y : i = b
      · subst y
        rw [db] at hd hu
        by_cases v : j = l
        · rw [v, dl] at hd; omega
        · by_cases w : j = i
          · exact w.symm
          · exact absurd hu (hno j (hold j hj v w) hd.symm)
      · have hi' := hold i hi z y
        by_cases v : j = l
        · rw [v, dl] at hd
          rw [v, pl, hd] at hu
          have e := az_un4.mp hu
          have := t2 i hi' hd
          rw [← e] at this
          exact absurd this nx
        · by_cases w : j = b
          · rw [w, db] at hd
            rw [w, hd] at hu
            exact absurd (az_un_symm hu) (hno i hi' hd)
          · exact t6 i j hi' (hold j hj v w) hd hu
  · by_cases z : p = 0
    · rw [r1 z]
      refine ⟨fun y => by omega, fun _ => ⟨u3, ?_⟩⟩
      intro k hk
      rw [db]
      rcases hk with hk | hk
      · have en : n = rt := by
          rcases ha with ⟨_, q⟩ | ⟨q1, _⟩
          · exact q
          · rw [z] at q1; have := (t1 0 q1).1; omega
        have e1 := (az_rootk hall hk).2.2
        rw [← en] at e1
        exact az_un_trans ubn (az_un_le (by omega) dn e1)
      · rw [hk]; exact ubx
    · rw [r2 z]
      have p1 : us p = 1 ∧ az_un (dp p) (pf p) x := by
        rcases ha with ⟨q, _⟩ | ⟨q1, _, q3, _⟩
        · exact absurd q z
        · exact ⟨q1, q3⟩
      have r0 := az_root0 hall p1.1
      refine ⟨fun y => absurd y r0, fun _ => ⟨hnew _ (az_rootu hall r0), ?_⟩⟩
      intro k hk
      rcases hk with hk | hk
      · exact (az_rootk hall hk).2.2
      · subst hk
        have q := az_root hall p1.1
        exact az_un_trans q.2 (az_un_le q.1 (t1 p p1.1).2.2.1 p1.2)
  · intro k hk
    rcases hk with hk | hk
    · exact t8 k hk
    · omega
/-- the parent of a node over x, and the digit, are one -/
theorem az_par (h : az_T K us dp pf ch rt) {x p q : Nat} (p1 : us p = 1) (p2 : dp p < 4) (p3 : az_un (dp p) (pf p) x) (p4 : ch p (az_dg x (dp p)) = q) (q1 : us q = 1) (q2 : az_un (dp q) (pf q) x)
    {i c : Nat} (hi : us i = 1) (hd : dp i < 4) (hc : c < 16) (he : ch i c = q) : i = p ∧ c = az_dg x (dp p) := by
  have q0 : q ≠ 0 := by have := (h.1 q q1).1; omega
  have dq := (h.1 q q1).2.2.1
  have a1 := h.2.2.1 i c hi hd hc (by rw [he]; exact q0)
  have a2 := h.2.2.1 p (az_dg x (dp p)) p1 p2 (az_dg_lt _ _) (by rw [p4]; exact q0)
  rw [he] at a1
  rw [p4] at a2
  have e1 : az_un (dp i) (pf i) x := az_un_trans a1.2.2.1 (az_un_le (by omega) dq q2)
  have e2 : c = az_dg x (dp i) := by rw [← a1.2.2.2]; exact (az_un_dg a1.2.1 dq q2).symm
  rcases Nat.lt_trichotomy (dp i) (dp p) with z | z | z
  · have b := az_path h hi p1 e1 p3 z
    rw [← e2, he] at b
    omega
  · have b := az_same h hi p1 e1 p3 z
    subst b
    exact ⟨rfl, e2⟩
  · have b := az_path h p1 hi p3 e1 z
    rw [p4] at b
    omega
/-- the last leaf -/
theorem az_takeA (h : az_T K us dp pf ch rt) {x l : Nat} (l1 : us l = 1) (dl : dp l = 4) (pl : pf l = x) (hr : rt = l)
    {us' : Nat → Nat} (u1 : us' l = 0) (u2 : ∀ j, j ≠ l → us' j = us j) (ch' : Nat → Nat → Nat) : az_T (fun k => K k ∧ k ≠ x) us' dp pf ch' 0 := by
  have hz : ∀ j, us' j ≠ 1 := by
    intro j hj
    by_cases z : j = l
    · rw [z, u1] at hj; omega
    · rw [u2 j z] at hj
      have a := az_root h hj
      have b := (h.1 j hj).2.2.1
      rw [hr, dl] at a
      exact z (h.2.2.2.2.2.1 l j l1 hj (by omega) (by rw [dl]; exact a.2)).symm
  have hk : ∀ k, ¬ (K k ∧ k ≠ x) := by
    intro k hk
    have a := (az_rootk h hk.1).2.2
    rw [hr, dl, pl] at a
    exact hk.2 (az_un4.mp a)
  refine ⟨fun i hi => absurd hi (hz i), fun i hi => absurd hi (hz i), fun i _ hi => absurd hi (hz i), fun i _ hi => absurd hi (hz i), fun i hi => absurd hi (hz i), fun i _ hi => absurd hi (hz i), ⟨fun _ => hk, fun z => absurd rfl z⟩, fun k w => absurd w (hk k)⟩
/-- a leaf less under the branch p, which keeps two children -/
theorem az_takeB (h : az_T K us dp pf ch rt) {x l p : Nat} (l1 : us l = 1) (dl : dp l = 4) (pl : pf l = x)
    (p1 : us p = 1) (p2 : dp p < 4) (p3 : az_un (dp p) (pf p) x) (p4 : ch p (az_dg x (dp p)) = l)
    {us' : Nat → Nat} (u1 : us' l = 0) (u2 : ∀ j, j ≠ l → us' j = us j)
    {ch' : Nat → Nat → Nat} (c1 : ch' p (az_dg x (dp p)) = 0) (c2 : ∀ j c, us j = 1 → ¬ (j = p ∧ c = az_dg x (dp p)) → ch' j c = ch j c)
    (c3 : ∃ a b, a < 16 ∧ b < 16 ∧ a ≠ b ∧ ch' p a ≠ 0 ∧ ch' p b ≠ 0) :
    az_T (fun k => K k ∧ k ≠ x) us' dp pf ch' rt := by
  have ul : az_un (dp l) (pf l) x := by rw [dl, pl]; exact az_un_refl _ _
  have hold : ∀ j, us' j = 1 → us j = 1 ∧ j ≠ l := by
    intro j hj
    by_cases z : j = l
    · rw [z, u1] at hj; omega
    · exact ⟨by rw [← u2 j z]; exact hj, z⟩
  have hnew : ∀ j, us j = 1 → j ≠ l → us' j = 1 := by
    intro j hj z
    rw [u2 j z]; exact hj
  have hall := h
  obtain ⟨t1, t2, t3, t4, t5, t6, t7, t8⟩ := h
  refine ⟨fun i hi => t1 i (hold i hi).1, ?_, ?_, ?_, ?_, fun i j hi hj => t6 i j (hold i hi).1 (hold j hj).1, ?_, fun k hk => t8 k hk.1⟩
  · intro i hi hd
    refine ⟨t2 i (hold i hi).1 hd, fun z => (hold i hi).2 ?_⟩
    exact az_same hall (hold i hi).1 l1 (by rw [z]; exact az_un_refl _ _) ul (by omega)
  · intro i c hi hd hc h0
    have hi' := (hold i hi).1
    by_cases z : i = p ∧ c = az_dg x (dp p)
    · rw [z.1, z.2, c1] at h0; exact absurd rfl h0
    · rw [c2 i c hi' z] at h0 ⊢
      have hu := t3 i c hi' hd hc h0
      exact ⟨hnew _ hu.1 (fun w => z (az_par hall p1 p2 p3 p4 l1 ul hi' hd hc w)), hu.2⟩
  · intro i k hi hd hk hu
    have hi' := (hold i hi).1
    have h4 := t4 i k hi' hd hk.1 hu
    by_cases z : i = p ∧ az_dg k (dp i) = az_dg x (dp p)
    · obtain ⟨rfl, z2⟩ := z
      rw [z2, p4, dl, pl] at h4
      exact absurd (az_un4.mp h4.2) hk.2
    · rw [c2 i _ hi' z]; exact h4
  · intro i hi hd
    by_cases z : i = p
    · rw [z]; exact c3
    · have hi' := (hold i hi).1
      obtain ⟨a, b, x1, x2, x3, x4, x5⟩ := t5 i hi' hd
      exact ⟨a, b, x1, x2, x3, by rw [c2 i a hi' (fun w => z w.1)]; exact x4, by rw [c2 i b hi' (fun w => z w.1)]; exact x5⟩
  · have r0 := az_root0 hall p1
    have r1 := az_root hall p1
    refine ⟨fun z => absurd z r0, fun _ => ⟨hnew _ (az_rootu hall r0) (fun z => ?_), fun k hk => (az_rootk hall hk.1).2.2⟩⟩
    rw [z, dl] at r1
    omega
/-- a leaf less, and its parent p, which kept one child o: o in the place of p -/
theorem az_takeC (h : az_T K us dp pf ch rt) {x l p g o co : Nat} (l1 : us l = 1) (dl : dp l = 4) (pl : pf l = x)
    (p1 : us p = 1) (p2 : dp p < 4) (p3 : az_un (dp p) (pf p) x) (p4 : ch p (az_dg x (dp p)) = l)
    (hg : az_at us dp pf ch rt x g p)
    (o1 : ch p co = o) (o2 : o ≠ 0) (o3 : co < 16) (o4 : co ≠ az_dg x (dp p)) (o5 : ∀ c, c < 16 → c ≠ az_dg x (dp p) → ch p c ≠ 0 → c = co)
    {us' : Nat → Nat} (u1 : us' l = 0) (u3 : us' p = 0) (u2 : ∀ j, j ≠ l → j ≠ p → us' j = us j)
    {ch' : Nat → Nat → Nat} (c1 : us g = 1 → ch' g (az_dg x (dp g)) = o) (c2 : ∀ j c, us j = 1 → j ≠ p → ¬ (j = g ∧ c = az_dg x (dp g)) → ch' j c = ch j c)
    {rt' : Nat} (r1 : g = 0 → rt' = o) (r2 : g ≠ 0 → rt' = rt) :
    az_T (fun k => K k ∧ k ≠ x) us' dp pf ch' rt' := by
  have ul : az_un (dp l) (pf l) x := by rw [dl, pl]; exact az_un_refl _ _
  have hold : ∀ j, us' j = 1 → us j = 1 ∧ j ≠ l ∧ j ≠ p := by
    intro j hj
    by_cases z : j = l
    · rw [z, u1] at hj; omega
    · by_cases y : j = p
      · rw [y, u3] at hj; omega
      · exact ⟨by rw [← u2 j z y]; exact hj, z, y⟩
  have hnew : ∀ j, us j = 1 → j ≠ l → j ≠ p → us' j = 1 := by
    intro j hj z y
    rw [u2 j z y]; exact hj
  have hall := h
  obtain ⟨t1, t2, t3, t4, t5, t6, t7, t8⟩ := h
  have ho := t3 p co p1 p2 o3 (by rw [o1]; exact o2)
  rw [o1] at ho
  have dO := (t1 o ho.1).2.2.1
  have hol : o ≠ l := by
    intro z
    exact o4 (az_par hall p1 p2 p3 p4 l1 ul p1 p2 o3 (by rw [o1, z])).2
  have hop : o ≠ p := by
    intro z
    have := ho.2.1
    rw [z] at this
    omega
  have hK : ∀ k, K k → k ≠ x → az_un (dp p) (pf p) k → az_un (dp o) (pf o) k := by
    intro k hk hkx hu
    have h4 := t4 p k p1 p2 hk hu
    by_cases z : az_dg k (dp p) = az_dg x (dp p)
    · rw [z, p4, dl, pl] at h4
      exact absurd (az_un4.mp h4.2) hkx
    · have e := o5 _ (az_dg_lt _ _) z h4.1
      rw [e, o1] at h4
      exact h4.2
  have hgp : us g = 1 → dp g < 4 ∧ az_un (dp g) (pf g) x ∧ ch g (az_dg x (dp g)) = p := by
    intro hg1
    rcases hg with ⟨q, _⟩ | ⟨_, q2, q3, q4⟩
    · rw [q] at hg1; have := (t1 0 hg1).1; omega
    · exact ⟨q2, q3, q4.symm⟩
  have p0 : p ≠ 0 := by have := (t1 p p1).1; omega
  refine ⟨fun i hi => t1 i (hold i hi).1, ?_, ?_, ?_, ?_, fun i j hi hj => t6 i j (hold i hi).1 (hold j hj).1, ?_, fun k hk => t8 k hk.1⟩
  · intro i hi hd
    refine ⟨t2 i (hold i hi).1 hd, fun z => (hold i hi).2.1 ?_⟩
    exact az_same hall (hold i hi).1 l1 (by rw [z]; exact az_un_refl _ _) ul (by omega)
  · intro i c hi hd hc h0
    obtain ⟨hi', hil, hip⟩ := hold i hi
    by_cases z : i = g ∧ c = az_dg x (dp g)
    · obtain ⟨rfl, rfl⟩ := z
      obtain ⟨g2, g3, g4⟩ := hgp hi'
      have hu := t3 i _ hi' g2 (az_dg_lt _ _) (by rw [g4]; exact p0)
      rw [g4] at hu
      rw [c1 hi']
      refine ⟨hnew o ho.1 hol hop, by omega, az_un_trans hu.2.2.1 (az_un_le (by omega) (by omega) ho.2.2.1), ?_⟩
      rw [az_un_dg hu.2.1 (by omega) ho.2.2.1]
      exact hu.2.2.2
    · rw [c2 i c hi' hip z] at h0 ⊢
      have hu := t3 i c hi' hd hc h0
      refine ⟨hnew _ hu.1 (fun w => hip (az_par hall p1 p2 p3 p4 l1 ul hi' hd hc w).1) (fun w => ?_), hu.2⟩
      rcases hg with ⟨_, q⟩ | ⟨q1, q2, q3, q4⟩
      · have a := az_root hall hi'
        rw [← q] at a
        rw [w] at hu
        omega
      · exact z (az_par hall q1 q2 q3 q4.symm p1 p3 hi' hd hc w)
  · intro i k hi hd hk hu
    obtain ⟨hi', hil, hip⟩ := hold i hi
    have h4 := t4 i k hi' hd hk.1 hu
    by_cases z : i = g ∧ az_dg k (dp i) = az_dg x (dp g)
    · obtain ⟨rfl, z2⟩ := z
      obtain ⟨g2, g3, g4⟩ := hgp hi'
      rw [z2, g4] at h4
      rw [z2, c1 hi']
      exact ⟨o2, hK k hk.1 hk.2 h4.2⟩
    · rw [c2 i _ hi' hip z]; exact h4
  · intro i hi hd
    obtain ⟨hi', hil, hip⟩ := hold i hi
    obtain ⟨a, b, x1, x2, x3, x4, x5⟩ := t5 i hi' hd
    have hnz : ∀ c, ch i c ≠ 0 → ch' i c ≠ 0 := by
      intro c hc
      by_cases z : i = g ∧ c = az_dg x (dp g)
      · obtain ⟨rfl, rfl⟩ := z
        rw [c1 hi']; exact o2
      · rw [c2 i c hi' hip z]; exact hc
    exact ⟨a, b, x1, x2, x3, hnz a x4, hnz b x5⟩
  · by_cases z : g = 0
    · rw [r1 z]
      refine ⟨fun y => absurd y o2, fun _ => ⟨hnew o ho.1 hol hop, ?_⟩⟩
      intro k hk
      have e : p = rt := by
        rcases hg with ⟨_, q⟩ | ⟨q1, _⟩
        · exact q
        · rw [z] at q1; have := (t1 0 q1).1; omega
      refine hK k hk.1 hk.2 ?_
      rw [e]
      exact (az_rootk hall hk.1).2.2
    · rw [r2 z]
      have g1 : us g = 1 := by
        rcases hg with ⟨q, _⟩ | ⟨q1, _⟩
        · exact absurd q z
        · exact q1
      obtain ⟨g2, g3, g4⟩ := hgp g1
      have hu := t3 g _ g1 g2 (az_dg_lt _ _) (by rw [g4]; exact p0)
      rw [g4] at hu
      have r0 := az_root0 hall g1
      have a := az_root hall g1
      refine ⟨fun y => absurd y r0, fun _ => ⟨hnew _ (az_rootu hall r0) (fun w => ?_) (fun w => ?_), fun k hk => (az_rootk hall hk.1).2.2⟩⟩
      · rw [w, dl] at a; omega
      · rw [w] at a; omega
end
end
section
/-! counts of the nodes; the layout of the children; numbers of nodes and tables -/
def az_f (f : Nat → Nat) (k v : Nat) : Nat → Nat := fun j => if j = k then v else f j
theorem az_f_s (f : Nat → Nat) (k v : Nat) : az_f f k v k = v := if_pos rfl
theorem az_f_n {f : Nat → Nat} {k v j : Nat} (h : j ≠ k) : az_f f k v j = f j := if_neg h
def az_h (ch : Nat → Nat → Nat) (i c v : Nat) : Nat → Nat → Nat := fun j e => if j = i ∧ e = c then v else ch j e
theorem az_h_s (ch : Nat → Nat → Nat) (i c v : Nat) : az_h ch i c v i c = v := if_pos ⟨rfl, rfl⟩
theorem az_h_n {ch : Nat → Nat → Nat} {i c v j e : Nat} (h : ¬ (j = i ∧ e = c)) : az_h ch i c v j e = ch j e := if_neg h
/-! counts -/
def az_on (us dp pf : Nat → Nat) (x j : Nat) : Bool := us j == 1 && x / az_w (dp j) == pf j / az_w (dp j)
theorem az_on_iff {us dp pf : Nat → Nat} {x j : Nat} : az_on us dp pf x j = true ↔ us j = 1 ∧ az_un (dp j) (pf j) x := by
  unfold az_on az_un
  rw [Bool.and_eq_true, beq_iff_eq, beq_iff_eq]
def az_N (m : Nat → Option Int32) (us dp pf ct : Nat → Nat) (sm : Nat → Int64) : Prop :=
  (∀ i, us i = 1 → (ct i : Int) = az_C m (pf i + az_w (dp i)) - az_C m (pf i) ∧ sm i = Int64.ofInt (az_Q m (pf i + az_w (dp i)) - az_Q m (pf i))) ∧ ct 0 = 0 ∧ sm 0 = 0
section
variable {m : Nat → Option Int32} {us dp pf ct : Nat → Nat} {sm : Nat → Int64} {ch : Nat → Nat → Nat} {rt : Nat}
/-- the count of the c-th child, there or not -/
theorem az_sub (h : az_T (az_K m) us dp pf ch rt) (hn : az_N m us dp pf ct sm) {i c : Nat} (hi : us i = 1) (hd : dp i < 4) (hc : c < 16) :
    (ct (ch i c) : Int) = az_C m (pf i + (c + 1) * az_w (dp i + 1)) - az_C m (pf i + c * az_w (dp i + 1)) ∧ (ch i c ≠ 0 → az_C m (pf (ch i c)) = az_C m (pf i + c * az_w (dp i + 1))) := by
  have a := h.1 i hi
  have hin : ∀ k, pf i + c * az_w (dp i + 1) ≤ k → k < pf i + (c + 1) * az_w (dp i + 1) → az_K m k → ch i c ≠ 0 ∧ az_un (dp (ch i c)) (pf (ch i c)) k := by
    intro k h1 h2 hk
    have e := (az_sub_iv hd a.2.2.2.2 hc).mpr ⟨h1, h2⟩
    have h4 := h.2.2.2.1 i k hi hd hk e.1
    rw [e.2] at h4
    exact h4
  have hw : pf i + c * az_w (dp i + 1) ≤ pf i + (c + 1) * az_w (dp i + 1) := by
    have := Nat.mul_le_mul_right (az_w (dp i + 1)) (show c ≤ c + 1 by omega)
    omega
  by_cases z : ch i c = 0
  · refine ⟨?_, fun y => absurd z y⟩
    rw [z, hn.2.1, az_C_eq hw (fun k h1 h2 hk => (hin k h1 h2 hk).1 z)]
    omega
  · have u := h.2.2.1 i c hi hd hc z
    have b := h.1 _ u.1
    have ip := az_in_part u.2.1 b.2.2.1 a.2.2.2.2 b.2.2.2.2 u.2.2.1
    rw [u.2.2.2] at ip
    have hin2 : ∀ k, pf i + c * az_w (dp i + 1) ≤ k → k < pf i + (c + 1) * az_w (dp i + 1) → az_K m k → pf (ch i c) ≤ k ∧ k < pf (ch i c) + az_w (dp (ch i c)) := by
      intro k h1 h2 hk
      exact (az_un_iv b.2.2.1 b.2.2.2.2).mp (hin k h1 h2 hk).2
    have hwp := az_w_pos (dp (ch i c))
    refine ⟨?_, fun _ => ?_⟩
    · rw [(hn.1 _ u.1).1]
      exact (az_C_shrink ip.1 (by omega) ip.2 hin2).symm
    · refine az_C_eq ip.1 (fun k h1 h2 hk => ?_)
      have := hin2 k h1 (by omega) hk
      omega
/-- the root's count is the number of keys -/
theorem az_rootC (h : az_T (az_K m) us dp pf ch rt) (hn : az_N m us dp pf ct sm) : (ct rt : Int) = az_C m 65536 ∧ (rt ≠ 0 → az_C m (pf rt) = 0 ∧ az_C m (pf rt + az_w (dp rt)) = az_C m 65536) := by
  by_cases z : rt = 0
  · refine ⟨?_, fun y => absurd z y⟩
    rw [z, hn.2.1, az_C_eq (Nat.zero_le 65536) (fun k _ _ => h.2.2.2.2.2.2.1.1 z k)]
    rfl
  · have r := h.2.2.2.2.2.2.1.2 z
    have b := h.1 _ r.1
    have tp := az_top b.2.2.1 b.2.2.2.2 b.2.2.2.1
    have e1 : az_C m (pf rt) = 0 := by
      rw [az_C_eq (Nat.zero_le (pf rt)) (fun k _ h2 hk => by have := (az_un_iv b.2.2.1 b.2.2.2.2).mp (r.2 k hk); omega)]
      rfl
    have e2 : az_C m (pf rt + az_w (dp rt)) = az_C m 65536 :=
      (az_C_eq tp (fun k h1 _ hk => by have := (az_un_iv b.2.2.1 b.2.2.2.2).mp (r.2 k hk); omega)).symm
    refine ⟨?_, fun _ => ⟨e1, e2⟩⟩
    rw [(hn.1 _ r.1).1, e1, e2]
    omega
theorem az_leaf (h : az_T (az_K m) us dp pf ch rt) (hn : az_N m us dp pf ct sm) {l : Nat} (hl : us l = 1) (dl : dp l = 4) {v : Int32} (hv : m (pf l) = some v) : ct l = 1 ∧ sm l = Int64.ofInt v.toInt := by
  have e := hn.1 l hl
  rw [dl, az_w4, az_C_succ, az_Q_succ, az_c1_some hv, az_cq_some hv] at e
  refine ⟨by omega, ?_⟩
  rw [e.2]
  congr 1
  omega
theorem az_N_put (t1 : az_T1 us dp pf) (hn : az_N m us dp pf ct sm) {x : Nat} {o : Option Int32} {ct' : Nat → Nat} {sm' : Nat → Int64}
    (e1 : ∀ j, us j = 1 → (ct' j : Int) = ct j + (if az_on us dp pf x j = true then az_c1 (az_put m x o) x - az_c1 m x else 0))
    (e2 : ∀ j, us j = 1 → sm' j = sm j + Int64.ofInt (if az_on us dp pf x j = true then az_cq (az_put m x o) x - az_cq m x else 0))
    (e3 : ct' 0 = 0) (e4 : sm' 0 = 0) : az_N (az_put m x o) us dp pf ct' sm' := by
  refine ⟨fun j hj => ?_, e3, e4⟩
  have t := t1 j hj
  have iv := az_un_iv (k := x) t.2.2.1 t.2.2.2.2
  rw [az_C_put, az_C_put, az_Q_put, az_Q_put, e1 j hj, e2 j hj, (hn.1 j hj).1, (hn.1 j hj).2, ← Int64.ofInt_add]
  have wp := az_w_pos (dp j)
  by_cases z : az_on us dp pf x j = true
  · have q := iv.mp (az_on_iff.mp z).2
    have h1 : x < pf j + az_w (dp j) := q.2
    have h2 : ¬ x < pf j := by omega
    refine ⟨?_, ?_⟩
    · rw [if_pos z, if_pos h1, if_neg h2]; omega
    · rw [if_pos z, if_pos h1, if_neg h2]; congr 1; omega
  · have q : ¬ (pf j ≤ x ∧ x < pf j + az_w (dp j)) := fun w => z (az_on_iff.mpr ⟨hj, iv.mpr w⟩)
    by_cases h2 : x < pf j
    · have h1 : x < pf j + az_w (dp j) := by omega
      refine ⟨?_, ?_⟩
      · rw [if_neg z, if_pos h1, if_pos h2]; omega
      · rw [if_neg z, if_pos h1, if_pos h2]; congr 1; omega
    · have h1 : ¬ x < pf j + az_w (dp j) := by omega
      refine ⟨?_, ?_⟩
      · rw [if_neg z, if_neg h1, if_neg h2]; omega
      · rw [if_neg z, if_neg h1, if_neg h2]; congr 1; omega
/-- counts over fewer nodes, or others that stand the same -/
theorem az_N_congr (hn : az_N m us dp pf ct sm) {us' dp' pf' ct' : Nat → Nat} {sm' : Nat → Int64} (e : ∀ i, us' i = 1 → us i = 1 ∧ dp' i = dp i ∧ pf' i = pf i ∧ ct' i = ct i ∧ sm' i = sm i) (e3 : ct' 0 = 0) (e4 : sm' 0 = 0) : az_N m us' dp' pf' ct' sm' := by
  refine ⟨fun i hi => ?_, e3, e4⟩
  obtain ⟨a, b, c, d, f⟩ := e i hi
  rw [b, c, d, f]
  exact hn.1 i a
end
/-! layout -/
def az_fan (h : Nat → Nat) : Int := az_S (fun c => if h c = 0 then 0 else 1) 16
theorem az_fan_0 {h : Nat → Nat} (e : ∀ c, h c = 0) : az_fan h = 0 := by
  unfold az_fan
  rw [az_S_congr (g := fun _ => 0) (fun i _ => if_pos (e i)), az_S_const0]
theorem az_fan_set {h h' : Nat → Nat} {c : Nat} (hc : c < 16) (e : ∀ d, d ≠ c → h' d = h d) : az_fan h' = az_fan h + ((if h' c = 0 then 0 else 1) - (if h c = 0 then 0 else 1)) := by
  unfold az_fan
  exact az_S_at c hc (fun i hi => by rw [e i hi])
theorem az_fan_same {h h' : Nat → Nat} (e : ∀ d, d < 16 → (h' d = 0 ↔ h d = 0)) : az_fan h' = az_fan h := by
  unfold az_fan
  refine az_S_congr (fun i hi => ?_)
  by_cases z : h i = 0
  · rw [if_pos z, if_pos ((e i hi).mpr z)]
  · rw [if_neg z, if_neg (fun w => z ((e i hi).mp w))]
theorem az_fan_two {h : Nat → Nat} (e : 2 ≤ az_fan h) : ∃ a b, a < 16 ∧ b < 16 ∧ a ≠ b ∧ h a ≠ 0 ∧ h b ≠ 0 := by
  have hs : ∀ c, (1 : Int) ≤ (if h c = 0 then 0 else 1) → h c ≠ 0 := by
    intro c hc z
    rw [if_pos z] at hc
    omega
  obtain ⟨a, b, x1, x2, x3, x4, x5⟩ := az_S_two (f := fun c => if h c = 0 then 0 else 1) (n := 16) (fun i => by split <;> omega) e
  exact ⟨a, b, x1, x2, x3, hs a x4, hs b x5⟩
theorem az_two_fan {h : Nat → Nat} {a b : Nat} (ha : a < 16) (hb : b < 16) (hab : a ≠ b) (h1 : h a ≠ 0) (h2 : h b ≠ 0) : 2 ≤ az_fan h := by
  have key : ∀ a b, a < b → b < 16 → h a ≠ 0 → h b ≠ 0 → 2 ≤ az_fan h := by
    intro a b hab hb h1 h2
    have nn : ∀ i, (0 : Int) ≤ (fun c => if h c = 0 then (0 : Int) else 1) i := fun i => by dsimp only; split <;> omega
    have e1 := az_S_gt nn (Nat.zero_le a) (show a < b from hab) (by rw [if_neg h1]; omega)
    have e2 := az_S_gt nn (Nat.le_refl b) hb (by rw [if_neg h2]; omega)
    rw [az_S_0] at e1
    unfold az_fan
    omega
  rcases Nat.lt_or_gt_of_ne hab with z | z
  · exact key a b z hb h1 h2
  · exact key b a z ha h2 h1
def az_cel (i f : Nat) (cd cc h : Nat → Nat) : Prop :=
  f ≤ 4 ∧ (∀ e, e < f → cd (i * 4 + e) < 16 ∧ cc (i * 4 + e) ≠ 0 ∧ h (cd (i * 4 + e)) = cc (i * 4 + e)) ∧ (∀ e e', e < f → e' < f → cd (i * 4 + e) = cd (i * 4 + e') → e = e') ∧ (∀ c, c < 16 → h c ≠ 0 → ∃ e, e < f ∧ cd (i * 4 + e) = c)
def az_tab (t : Nat) (tu tc h : Nat → Nat) : Prop := 0 < t ∧ t < 16 ∧ tu t = 1 ∧ ∀ c, c < 16 → tc (t * 16 + c) = h c
def az_ln (i f t : Nat) (cd cc tu tc h : Nat → Nat) : Prop := (t = 0 ∧ az_cel i f cd cc h) ∨ (az_tab t tu tc h ∧ 5 ≤ f)
def az_L (us fn tb cd cc tu tc : Nat → Nat) (ch : Nat → Nat → Nat) : Prop :=
  (∀ i, us i = 1 → i < 128 ∧ (∀ c, ch i c < 128) ∧ (fn i : Int) = az_fan (ch i) ∧ az_ln i (fn i) (tb i) cd cc tu tc (ch i)) ∧
  (∀ i j, us i = 1 → us j = 1 → tb i = tb j → tb i ≠ 0 → i = j) ∧
  (∀ i, tb i ≠ 0 → us i = 1) ∧ (∀ t, tu t ≤ 1) ∧ tu 0 = 0 ∧
  az_S (fun t => (tu t : Int)) 16 = az_S (fun i => if tb i = 0 then 0 else 1) 128
theorem az_ln_congr {i f t : Nat} {cd cc tu tc h cd' cc' tu' tc' h' : Nat → Nat} (hl : az_ln i f t cd cc tu tc h) (e1 : ∀ c, h' c = h c) (e2 : ∀ e, e < 4 → cd' (i * 4 + e) = cd (i * 4 + e) ∧ cc' (i * 4 + e) = cc (i * 4 + e)) (e3 : t ≠ 0 → tu' t = 1 ∧ ∀ c, c < 16 → tc' (t * 16 + c) = tc (t * 16 + c)) : az_ln i f t cd' cc' tu' tc' h' := by
  rcases hl with ⟨h0, c1, c2, c3, c4⟩ | ⟨⟨t1, t2, t3, t4⟩, h5⟩
  · left
    refine ⟨h0, c1, ?_, ?_, ?_⟩
    · intro e he
      rw [(e2 e (by omega)).1, (e2 e (by omega)).2, e1]
      exact c2 e he
    · intro e e' he he'
      rw [(e2 e (by omega)).1, (e2 e' (by omega)).1]
      exact c3 e e' he he'
    · intro c hc h0
      rw [e1] at h0
      obtain ⟨e, he, h3⟩ := c4 c hc h0
      exact ⟨e, he, by rw [(e2 e (by omega)).1]; exact h3⟩
  · right
    have q := e3 (by omega)
    exact ⟨⟨t1, t2, q.1, fun c hc => by rw [q.2 c hc, e1]; exact t4 c hc⟩, h5⟩
/-- a change at the node p alone -/
theorem az_L_at {us fn tb cd cc tu tc fn' tb' cd' cc' tu' tc' : Nat → Nat} {ch ch' : Nat → Nat → Nat} (h : az_L us fn tb cd cc tu tc ch) (p : Nat)
    (hp : (∀ c, ch' p c < 128) ∧ (fn' p : Int) = az_fan (ch' p) ∧ az_ln p (fn' p) (tb' p) cd' cc' tu' tc' (ch' p))
    (ho : ∀ i, us i = 1 → i ≠ p → fn' i = fn i ∧ tb' i = tb i ∧ (∀ c, ch' i c = ch i c) ∧ (∀ e, e < 4 → cd' (i * 4 + e) = cd (i * 4 + e) ∧ cc' (i * 4 + e) = cc (i * 4 + e)) ∧ (tb i ≠ 0 → tu' (tb i) = 1 ∧ ∀ c, c < 16 → tc' (tb i * 16 + c) = tc (tb i * 16 + c)))
    (hd : ∀ i, us i = 1 → i ≠ p → tb i = tb' p → tb' p = 0)
    (hu : ∀ i, tb' i ≠ 0 → us i = 1) (h1 : ∀ t, tu' t ≤ 1) (h2 : tu' 0 = 0)
    (h3 : az_S (fun t => (tu' t : Int)) 16 = az_S (fun i => if tb' i = 0 then 0 else 1) 128) : az_L us fn' tb' cd' cc' tu' tc' ch' := by
  refine ⟨?_, ?_, hu, h1, h2, h3⟩
  · intro i hi
    refine ⟨(h.1 i hi).1, ?_⟩
    by_cases z : i = p
    · rw [z]; exact hp
    · obtain ⟨o1, o2, o3, o4, o5⟩ := ho i hi z
      have a := (h.1 i hi).2
      have e : ch' i = ch i := funext o3
      rw [o1, o2, e]
      exact ⟨a.1, a.2.1, az_ln_congr a.2.2 (fun _ => rfl) o4 o5⟩
  · intro i j hi hj he h0
    by_cases z : i = p
    · by_cases y : j = p
      · rw [z, y]
      · rw [(ho j hj y).2.1, z] at he
        rw [z] at h0
        exact absurd (hd j hj y he.symm) h0
    · by_cases y : j = p
      · rw [(ho i hi z).2.1, y] at he
        rw [(ho i hi z).2.1, he] at h0
        exact absurd (hd i hi z he) h0
      · rw [(ho i hi z).2.1] at he h0
        rw [(ho j hj y).2.1] at he
        exact h.2.1 i j hi hj he h0
end
section
/-! what the writes do to the layout; the numbers of leaves and of branches -/
def az_z (ch : Nat → Nat → Nat) (j : Nat) : Nat → Nat → Nat := fun i c => if i = j then 0 else ch i c
theorem az_z_s (ch : Nat → Nat → Nat) (j c : Nat) : az_z ch j j c = 0 := if_pos rfl
theorem az_z_n {ch : Nat → Nat → Nat} {j i c : Nat} (h : i ≠ j) : az_z ch j i c = ch i c := if_neg h
section
variable {us fn tb cd cc tu tc : Nat → Nat} {ch : Nat → Nat → Nat}
theorem az_L_new (h : az_L us fn tb cd cc tu tc ch) {j : Nat} (hj : us j = 0) (hj2 : j < 128) : az_L (az_f us j 1) (az_f fn j 0) (az_f tb j 0) cd cc tu tc (az_z ch j) := by
  have t0 : tb j = 0 := by
    rcases Nat.eq_zero_or_pos (tb j) with z | z
    · exact z
    · have := h.2.2.1 j (by omega); omega
  have e : az_f tb j 0 = tb := by
    funext i
    by_cases z : i = j
    · rw [z, az_f_s, t0]
    · exact az_f_n z
  have old : ∀ i, az_f us j 1 i = 1 → i ≠ j → us i = 1 := by
    intro i hi z
    rw [az_f_n z] at hi; exact hi
  rw [e]
  refine ⟨?_, ?_, ?_, h.2.2.2.1, h.2.2.2.2.1, h.2.2.2.2.2⟩
  · intro i hi
    by_cases z : i = j
    · subst z
      refine ⟨hj2, fun c => by rw [az_z_s]; omega, ?_, ?_⟩
      · rw [az_f_s, az_fan_0 (fun c => az_z_s ch i c)]; rfl
      · left
        refine ⟨t0, ?_⟩
        rw [az_f_s]
        refine ⟨by omega, fun e he => by omega, fun e e' he => by omega, ?_⟩
        intro c _ h0
        exact absurd (az_z_s ch i c) h0
    · have a := h.1 i (old i hi z)
      have e3 : az_z ch j i = ch i := funext fun c => az_z_n z
      rw [e3, az_f_n z]
      exact a
  · intro i k hi hk he h0
    have hi' : us i = 1 := h.2.2.1 i h0
    have hk' : us k = 1 := h.2.2.1 k (by omega)
    exact h.2.1 i k hi' hk' he h0
  · intro i h0
    have hi' : us i = 1 := h.2.2.1 i h0
    have : i ≠ j := by intro z; rw [z] at h0; exact h0 t0
    rw [az_f_n this]; exact hi'
/-- a node less -/
theorem az_L_less (h : az_L us fn tb cd cc tu tc ch) {j : Nat} (hj : tb j = 0) : az_L (az_f us j 0) fn tb cd cc tu tc ch := by
  have old : ∀ i, az_f us j 0 i = 1 → us i = 1 := by
    intro i hi
    by_cases z : i = j
    · rw [z, az_f_s] at hi; omega
    · rw [az_f_n z] at hi; exact hi
  refine ⟨fun i hi => h.1 i (old i hi), fun i k hi hk => h.2.1 i k (old i hi) (old k hk), ?_, h.2.2.2⟩
  intro i h0
  have : i ≠ j := by intro z; rw [z] at h0; exact h0 hj
  rw [az_f_n this]; exact h.2.2.1 i h0
theorem az_fan_add {p c v : Nat} (hc : c < 16) (h0 : ch p c = 0) (hv : v ≠ 0) : az_fan (az_h ch p c v p) = az_fan (ch p) + 1 := by
  rw [az_fan_set (h := ch p) (h' := az_h ch p c v p) hc (fun d hd => az_h_n (fun w => hd w.2)), az_h_s, if_neg hv, if_pos h0]
  omega
theorem az_fan_drop {p c : Nat} (hc : c < 16) (h0 : ch p c ≠ 0) : az_fan (az_h ch p c 0 p) = az_fan (ch p) - 1 := by
  rw [az_fan_set (h := ch p) (h' := az_h ch p c 0 p) hc (fun d hd => az_h_n (fun w => hd w.2)), az_h_s, if_pos rfl, if_neg h0]
  omega
theorem az_fan_rep {p c v : Nat} (h0 : ch p c ≠ 0) (hv : v ≠ 0) : az_fan (az_h ch p c v p) = az_fan (ch p) := by
  refine az_fan_same (fun d _ => ?_)
  by_cases z : d = c
  · rw [z, az_h_s]
    exact ⟨fun w => absurd w hv, fun w => absurd w h0⟩
  · rw [az_h_n (fun w => z w.2)]
theorem az_h_lt (h : az_L us fn tb cd cc tu tc ch) {p c v : Nat} (hp : us p = 1) (hv : v < 128) (d : Nat) : az_h ch p c v p d < 128 := by
  by_cases z : d = c
  · rw [z, az_h_s]; exact hv
  · rw [az_h_n (fun w => z w.2)]; exact (h.1 p hp).2.1 d
/-- a write into the table of p -/
theorem az_L_ts (h : az_L us fn tb cd cc tu tc ch) {p c v f : Nat} (hp : us p = 1) (ht : tb p ≠ 0) (hc : c < 16) (hv : v < 128) (hf : (f : Int) = az_fan (az_h ch p c v p)) (h5 : 5 ≤ f) :
    az_L us (az_f fn p f) tb cd cc tu (az_f tc (tb p * 16 + c) v) (az_h ch p c v) := by
  have a := h.1 p hp
  refine az_L_at h p ⟨az_h_lt h hp hv, ?_, ?_⟩ ?_ ?_ h.2.2.1 h.2.2.2.1 h.2.2.2.2.1 h.2.2.2.2.2
  · rw [az_f_s]; exact hf
  · right
    rcases a.2.2.2 with ⟨z, _⟩ | ⟨⟨q1, q2, q3, q4⟩, _⟩
    · exact absurd z ht
    · refine ⟨⟨q1, q2, q3, ?_⟩, by rw [az_f_s]; exact h5⟩
      intro d hd
      by_cases z : d = c
      · rw [z, az_f_s, az_h_s]
      · rw [az_f_n (by omega), az_h_n (fun w => z w.2)]; exact q4 d hd
  · intro i hi z
    refine ⟨az_f_n z, rfl, fun d => az_h_n (fun w => z w.1), fun e _ => ⟨rfl, rfl⟩, fun t0 => ?_⟩
    have b := h.1 i hi
    have ne : tb i ≠ tb p := fun w => z (h.2.1 i p hi hp w t0)
    rcases b.2.2.2 with ⟨y, _⟩ | ⟨⟨q1, q2, q3, q4⟩, _⟩
    · exact absurd y t0
    · exact ⟨q3, fun d hd => az_f_n (by omega)⟩
  · intro i hi z w
    rcases Nat.eq_zero_or_pos (tb p) with y | y
    · exact y
    · exact absurd (h.2.1 i p hi hp w (by omega)) z
/-- a child more in the cells of p -/
theorem az_L_ca (h : az_L us fn tb cd cc tu tc ch) {p c v : Nat} (hp : us p = 1) (ht : tb p = 0) (hf : fn p < 4) (hc : c < 16) (h0 : ch p c = 0) (hv0 : v ≠ 0) (hv : v < 128) :
    az_L us (az_f fn p (fn p + 1)) tb (az_f cd (p * 4 + fn p) c) (az_f cc (p * 4 + fn p) v) tu tc (az_h ch p c v) := by
  have a := h.1 p hp
  refine az_L_at h p ⟨az_h_lt h hp hv, ?_, ?_⟩ ?_ ?_ h.2.2.1 h.2.2.2.1 h.2.2.2.2.1 h.2.2.2.2.2
  · rw [az_f_s, az_fan_add hc h0 hv0]
    have := a.2.2.1
    omega
  · left
    refine ⟨ht, ?_⟩
    rw [az_f_s]
    rcases a.2.2.2 with ⟨_, q1, q2, q3, q4⟩ | ⟨⟨q1, _⟩, _⟩
    · have ne : ∀ e, e < fn p → cd (p * 4 + e) ≠ c := by
        intro e he z
        have := q2 e he
        rw [z, h0] at this
        exact this.2.1 this.2.2.symm
      refine ⟨by omega, ?_, ?_, ?_⟩
      · intro e he
        by_cases z : e = fn p
        · subst z
          rw [az_f_s, az_f_s, az_h_s]
          exact ⟨hc, hv0, rfl⟩
        · rw [az_f_n (by omega), az_f_n (by omega), az_h_n (fun w => ne e (by omega) w.2)]
          exact q2 e (by omega)
      · intro e e' he he' hee
        by_cases z : e = fn p
        · by_cases y : e' = fn p
          · rw [z, y]
          · rw [z, az_f_s, az_f_n (by omega)] at hee
            exact absurd hee.symm (ne e' (by omega))
        · by_cases y : e' = fn p
          · rw [y, az_f_s, az_f_n (by omega)] at hee
            exact absurd hee (ne e (by omega))
          · rw [az_f_n (by omega), az_f_n (by omega)] at hee
            exact q3 e e' (by omega) (by omega) hee
      · intro d hd hd0
        by_cases z : d = c
        · exact ⟨fn p, by omega, by rw [az_f_s, z]⟩
        · rw [az_h_n (fun w => z w.2)] at hd0
          obtain ⟨e, he, he2⟩ := q4 d hd hd0
          exact ⟨e, by omega, by rw [az_f_n (by omega)]; exact he2⟩
    · omega
  · intro i hi z
    refine ⟨az_f_n z, rfl, fun d => az_h_n (fun w => z w.1), fun e _ => ⟨az_f_n (by omega), az_f_n (by omega)⟩, fun t0 => ?_⟩
    have b := h.1 i hi
    rcases b.2.2.2 with ⟨y, _⟩ | ⟨⟨q1, q2, q3, q4⟩, _⟩
    · exact absurd y t0
    · exact ⟨q3, fun d hd => rfl⟩
  · intro i hi z w
    exact ht
/-- another child in a cell of p -/
theorem az_L_cs (h : az_L us fn tb cd cc tu tc ch) {p c v e0 : Nat} (hp : us p = 1) (ht : tb p = 0) (he0 : e0 < fn p) (hc : cd (p * 4 + e0) = c) (hv0 : v ≠ 0) (hv : v < 128) :
    az_L us fn tb cd (az_f cc (p * 4 + e0) v) tu tc (az_h ch p c v) := by
  have a := h.1 p hp
  rcases a.2.2.2 with ⟨_, q1, q2, q3, q4⟩ | ⟨⟨q1, _⟩, _⟩
  · have qe := q2 e0 he0
    have h0 : ch p c ≠ 0 := by rw [← hc, qe.2.2]; exact qe.2.1
    refine az_L_at h p ⟨az_h_lt h hp hv, ?_, ?_⟩ ?_ ?_ h.2.2.1 h.2.2.2.1 h.2.2.2.2.1 h.2.2.2.2.2
    · rw [az_fan_rep h0 hv0]; exact a.2.2.1
    · left
      refine ⟨ht, q1, ?_, q3, ?_⟩
      · intro e he
        by_cases z : e = e0
        · subst z
          rw [az_f_s, hc, az_h_s]
          exact ⟨by rw [← hc]; exact qe.1, hv0, rfl⟩
        · have ne : cd (p * 4 + e) ≠ c := fun w => z (q3 e e0 he he0 (by rw [w, hc]))
          rw [az_f_n (by omega), az_h_n (fun w => ne w.2)]
          exact q2 e he
      · intro d hd hd0
        by_cases z : d = c
        · exact ⟨e0, he0, by rw [z]; exact hc⟩
        · rw [az_h_n (fun w => z w.2)] at hd0
          exact q4 d hd hd0
    · intro i hi z
      refine ⟨rfl, rfl, fun d => az_h_n (fun w => z w.1), fun e _ => ⟨rfl, az_f_n (by omega)⟩, fun t0 => ?_⟩
      have b := h.1 i hi
      rcases b.2.2.2 with ⟨y, _⟩ | ⟨⟨q1, q2, q3, q4⟩, _⟩
      · exact absurd y t0
      · exact ⟨q3, fun d hd => rfl⟩
    · intro i hi z w
      exact ht
  · omega
/-- a child less in the cells of p: the last cell in its place -/
theorem az_L_cd (h : az_L us fn tb cd cc tu tc ch) {p c e0 : Nat} (hp : us p = 1) (ht : tb p = 0) (he0 : e0 < fn p) (hc : cd (p * 4 + e0) = c) :
    az_L us (az_f fn p (fn p - 1)) tb (az_f cd (p * 4 + e0) (cd (p * 4 + (fn p - 1)))) (az_f cc (p * 4 + e0) (cc (p * 4 + (fn p - 1)))) tu tc (az_h ch p c 0) := by
  have a := h.1 p hp
  rcases a.2.2.2 with ⟨_, q1, q2, q3, q4⟩ | ⟨⟨q1, _⟩, _⟩
  · have qe := q2 e0 he0
    have h0 : ch p c ≠ 0 := by rw [← hc, qe.2.2]; exact qe.2.1
    have hc16 : c < 16 := by rw [← hc]; exact qe.1
    refine az_L_at h p ⟨az_h_lt h hp (by omega), ?_, ?_⟩ ?_ ?_ h.2.2.1 h.2.2.2.1 h.2.2.2.2.1 h.2.2.2.2.2
    · rw [az_f_s, az_fan_drop hc16 h0]
      have := a.2.2.1
      omega
    · left
      refine ⟨ht, ?_⟩
      rw [az_f_s]
      -- where the cell e of the new row stood
      have w : ∀ e, e < fn p - 1 → ∃ e2, e2 < fn p ∧ e2 ≠ e0 ∧ az_f cd (p * 4 + e0) (cd (p * 4 + (fn p - 1))) (p * 4 + e) = cd (p * 4 + e2) ∧ az_f cc (p * 4 + e0) (cc (p * 4 + (fn p - 1))) (p * 4 + e) = cc (p * 4 + e2) ∧ (e = e0 → e2 = fn p - 1) ∧ (e ≠ e0 → e2 = e) := by
        intro e he
        by_cases z : e = e0
        · subst z
          exact ⟨fn p - 1, by omega, by omega, by rw [az_f_s], by rw [az_f_s], fun _ => rfl, fun y => absurd rfl y⟩
        · exact ⟨e, by omega, z, by rw [az_f_n (by omega)], by rw [az_f_n (by omega)], fun y => absurd y z, fun _ => rfl⟩
      refine ⟨by omega, ?_, ?_, ?_⟩
      · intro e he
        obtain ⟨e2, x1, x2, x3, x4, _, _⟩ := w e he
        have ne : cd (p * 4 + e2) ≠ c := fun y => x2 (q3 e2 e0 x1 he0 (by rw [y, hc]))
        rw [x3, x4, az_h_n (fun y => ne y.2)]
        exact q2 e2 x1
      · intro e e' he he' hee
        obtain ⟨e2, x1, x2, x3, x4, x5, x6⟩ := w e he
        obtain ⟨e3, y1, y2, y3, y4, y5, y6⟩ := w e' he'
        rw [x3, y3] at hee
        have e23 := q3 e2 e3 x1 y1 hee
        by_cases z : e = e0
        · have := x5 z
          by_cases y : e' = e0
          · omega
          · have := y6 y; omega
        · have := x6 z
          by_cases y : e' = e0
          · have := y5 y; omega
          · have := y6 y; omega
      · intro d hd hd0
        by_cases z : d = c
        · rw [z, az_h_s] at hd0; exact absurd rfl hd0
        · rw [az_h_n (fun y => z y.2)] at hd0
          obtain ⟨e, he, he2⟩ := q4 d hd hd0
          have ee0 : e ≠ e0 := by intro y; rw [y, hc] at he2; exact z he2.symm
          by_cases y : e = fn p - 1
          · refine ⟨e0, by omega, ?_⟩
            rw [az_f_s, ← y]; exact he2
          · exact ⟨e, by omega, by rw [az_f_n (by omega)]; exact he2⟩
    · intro i hi z
      refine ⟨az_f_n z, rfl, fun d => az_h_n (fun w => z w.1), fun e _ => ⟨az_f_n (by omega), az_f_n (by omega)⟩, fun t0 => ?_⟩
      have b := h.1 i hi
      rcases b.2.2.2 with ⟨y, _⟩ | ⟨⟨q1, q2, q3, q4⟩, _⟩
      · exact absurd y t0
      · exact ⟨q3, fun d hd => rfl⟩
    · intro i hi z w
      exact ht
  · omega
/-- the fifth child: a table for p -/
theorem az_L_mt (h : az_L us fn tb cd cc tu tc ch) {p c v t : Nat} {tc' : Nat → Nat} (hp : us p = 1) (ht : tb p = 0) (hf : fn p = 4) (hc : c < 16) (h0 : ch p c = 0) (hv0 : v ≠ 0) (hv : v < 128)
    (t1 : 0 < t) (t2 : t < 16) (t3 : tu t = 0) (e1 : ∀ d, d < 16 → tc' (t * 16 + d) = az_h ch p c v p d) (e2 : ∀ s d, s ≠ t → d < 16 → tc' (s * 16 + d) = tc (s * 16 + d)) :
    az_L us (az_f fn p 5) (az_f tb p t) cd cc (az_f tu t 1) tc' (az_h ch p c v) := by
  have a := h.1 p hp
  have ne : ∀ i, us i = 1 → tb i ≠ 0 → tb i ≠ t ∧ tu (tb i) = 1 := by
    intro i hi i0
    rcases (h.1 i hi).2.2.2 with ⟨y, _⟩ | ⟨⟨q1, q2, q3, q4⟩, _⟩
    · exact absurd y i0
    · refine ⟨fun w => ?_, q3⟩
      rw [w, t3] at q3; omega
  refine az_L_at h p ⟨az_h_lt h hp hv, ?_, ?_⟩ ?_ ?_ ?_ ?_ ?_ ?_
  · rw [az_f_s, az_fan_add hc h0 hv0]
    have := a.2.2.1
    omega
  · right
    rw [az_f_s, az_f_s]
    exact ⟨⟨t1, t2, by rw [az_f_s], e1⟩, by omega⟩
  · intro i hi z
    refine ⟨az_f_n z, az_f_n z, fun d => az_h_n (fun w => z w.1), fun e _ => ⟨rfl, rfl⟩, fun i0 => ?_⟩
    have q := ne i hi i0
    exact ⟨by rw [az_f_n q.1]; exact q.2, fun d hd => e2 _ d q.1 hd⟩
  · intro i hi z w
    rw [az_f_s] at w ⊢
    exact absurd w (ne i hi (by omega)).1
  · intro i i0
    by_cases z : i = p
    · rw [z]; exact hp
    · rw [az_f_n z] at i0; exact h.2.2.1 i i0
  · intro s
    by_cases z : s = t
    · rw [z, az_f_s]; omega
    · rw [az_f_n z]; exact h.2.2.2.1 s
  · rw [az_f_n (by omega)]; exact h.2.2.2.2.1
  · have s1 := az_S_at (f := fun s => (az_f tu t 1 s : Int)) (g := fun s => (tu s : Int)) t (n := 16) t2 (fun i hi => by rw [az_f_n hi])
    have s2 := az_S_at (f := fun i => if az_f tb p t i = 0 then (0 : Int) else 1) (g := fun i => if tb i = 0 then (0 : Int) else 1) p (n := 128) a.1 (fun i hi => by rw [az_f_n hi])
    have s3 := h.2.2.2.2.2
    rw [az_f_s, t3] at s1
    rw [az_f_s, if_neg (by omega), if_pos ht] at s2
    omega
/-- the fifth child goes: cells again -/
theorem az_L_mc (h : az_L us fn tb cd cc tu tc ch) {p c : Nat} {cd' cc' : Nat → Nat} (hp : us p = 1) (ht : tb p ≠ 0) (hf : fn p = 5) (hc : c < 16) (h0 : ch p c ≠ 0)
    (e1 : az_cel p 4 cd' cc' (az_h ch p c 0 p)) (e2 : ∀ i e, i ≠ p → e < 4 → cd' (i * 4 + e) = cd (i * 4 + e) ∧ cc' (i * 4 + e) = cc (i * 4 + e)) :
    az_L us (az_f fn p 4) (az_f tb p 0) cd' cc' (az_f tu (tb p) 0) (az_f tc (tb p * 16 + c) 0) (az_h ch p c 0) := by
  have a := h.1 p hp
  obtain ⟨q1, q2, q3, q4⟩ : az_tab (tb p) tu tc (ch p) := by
    rcases a.2.2.2 with ⟨y, _⟩ | ⟨q, _⟩
    · exact absurd y ht
    · exact q
  refine az_L_at h p ⟨az_h_lt h hp (by omega), ?_, ?_⟩ ?_ ?_ ?_ ?_ ?_ ?_
  · rw [az_f_s, az_fan_drop hc h0]
    have := a.2.2.1
    omega
  · left
    rw [az_f_s, az_f_s]
    exact ⟨rfl, e1⟩
  · intro i hi z
    refine ⟨az_f_n z, az_f_n z, fun d => az_h_n (fun w => z w.1), fun e he => e2 i e z he, fun i0 => ?_⟩
    have ne : tb i ≠ tb p := fun w => z (h.2.1 i p hi hp w i0)
    rcases (h.1 i hi).2.2.2 with ⟨y, _⟩ | ⟨⟨w1, w2, w3, w4⟩, _⟩
    · exact absurd y i0
    · exact ⟨by rw [az_f_n ne]; exact w3, fun d hd => az_f_n (by omega)⟩
  · intro i hi z w
    rw [az_f_s]
  · intro i i0
    by_cases z : i = p
    · rw [z]; exact hp
    · rw [az_f_n z] at i0; exact h.2.2.1 i i0
  · intro s
    by_cases z : s = tb p
    · rw [z, az_f_s]; omega
    · rw [az_f_n z]; exact h.2.2.2.1 s
  · rw [az_f_n (by omega)]; exact h.2.2.2.2.1
  · have s1 := az_S_at (f := fun s => (az_f tu (tb p) 0 s : Int)) (g := fun s => (tu s : Int)) (tb p) (n := 16) q2 (fun i hi => by rw [az_f_n hi])
    have s2 := az_S_at (f := fun i => if az_f tb p 0 i = 0 then (0 : Int) else 1) (g := fun i => if tb i = 0 then (0 : Int) else 1) p (n := 128) a.1 (fun i hi => by rw [az_f_n hi])
    have s3 := h.2.2.2.2.2
    rw [az_f_s, q3] at s1
    rw [az_f_s, if_pos rfl, if_neg ht] at s2
    omega
end
/-! numbers -/
def az_lf (us dp : Nat → Nat) (i : Nat) : Int := if us i = 1 ∧ dp i = 4 then 1 else 0
def az_bf (us dp fn : Nat → Nat) (i : Nat) : Int := if us i = 1 ∧ dp i < 4 then (fn i : Int) - 1 else 0
def az_M (us dp fn : Nat → Nat) (n : Int) : Prop := az_S (az_lf us dp) 128 = n ∧ az_S (az_bf us dp fn) 128 = if n = 0 then 0 else n - 1
theorem az_lf_0 {us dp : Nat → Nat} {i : Nat} (h : us i ≠ 1 ∨ dp i ≠ 4) : az_lf us dp i = 0 := if_neg (fun w => h.elim (fun z => z w.1) (fun z => z w.2))
theorem az_lf_1 {us dp : Nat → Nat} {i : Nat} (h : us i = 1) (h2 : dp i = 4) : az_lf us dp i = 1 := if_pos ⟨h, h2⟩
theorem az_bf_0 {us dp fn : Nat → Nat} {i : Nat} (h : us i ≠ 1 ∨ dp i = 4) : az_bf us dp fn i = 0 := if_neg (fun w => h.elim (fun z => z w.1) (fun z => by omega))
theorem az_bf_1 {us dp fn : Nat → Nat} {i : Nat} (h : us i = 1) (h2 : dp i < 4) : az_bf us dp fn i = (fn i : Int) - 1 := if_pos ⟨h, h2⟩
theorem az_lf_e {us dp us' dp' : Nat → Nat} {i : Nat} (h : us' i = us i) (h2 : dp' i = dp i) : az_lf us' dp' i = az_lf us dp i := by unfold az_lf; rw [h, h2]
theorem az_bf_e {us dp fn us' dp' fn' : Nat → Nat} {i : Nat} (h : us' i = us i) (h2 : dp' i = dp i) (h3 : fn' i = fn i) : az_bf us' dp' fn' i = az_bf us dp fn i := by unfold az_bf; rw [h, h2, h3]
section
variable {K : Nat → Prop} {us dp pf fn tb cd cc tu tc : Nat → Nat} {ch : Nat → Nat → Nat} {rt : Nat} {n : Int}
theorem az_fn2 (h : az_T K us dp pf ch rt) (hl : az_L us fn tb cd cc tu tc ch) {i : Nat} (hi : us i = 1) (hd : dp i < 4) : 2 ≤ fn i := by
  obtain ⟨a, b, x1, x2, x3, x4, x5⟩ := h.2.2.2.2.1 i hi hd
  have e := az_two_fan x1 x2 x3 x4 x5
  have := (hl.1 i hi).2.2.1
  omega
theorem az_used (h : az_T K us dp pf ch rt) (hl : az_L us fn tb cd cc tu tc ch) (hm : az_M us dp fn n) (hu : ∀ i, us i ≤ 1) (hn : n ≤ 63) : az_S (fun i => (us i : Int)) 128 ≤ 125 := by
  have e : az_S (fun i => (us i : Int)) 128 ≤ az_S (fun i => az_lf us dp i + az_bf us dp fn i) 128 := by
    refine az_S_le (fun i _ => ?_)
    show (us i : Int) ≤ az_lf us dp i + az_bf us dp fn i
    have h1 := hu i
    by_cases z : us i = 1
    · have d := (h.1 i z).2.2.1
      by_cases y : dp i = 4
      · rw [az_lf_1 z y, az_bf_0 (Or.inr y)]
        omega
      · have w : dp i < 4 := by omega
        have f := az_fn2 h hl z w
        rw [az_lf_0 (Or.inr y), az_bf_1 z w]
        omega
    · rw [az_lf_0 (Or.inl z), az_bf_0 (Or.inl z)]
      omega
  rw [az_S_add (az_lf us dp) (az_bf us dp fn), hm.1, hm.2] at e
  split at e <;> omega
theorem az_tables (h : az_T K us dp pf ch rt) (hl : az_L us fn tb cd cc tu tc ch) (hm : az_M us dp fn n) (hn : n ≤ 63) {p : Nat} (hp : us p = 1) (hd : dp p < 4) (ht : tb p = 0) (hf : fn p = 4) (hlf : ∀ i, us i = 1 → dp i = 4 → tb i = 0) : ∃ t, 1 ≤ t ∧ t < 16 ∧ tu t = 0 := by
  refine az_S_free hl.2.2.2.1 ?_
  rw [hl.2.2.2.2.2]
  have h128 := (h.1 p hp).2.1
  have nn : ∀ i, 0 ≤ az_bf us dp fn i := by
    intro i
    unfold az_bf
    split
    · next w => have := az_fn2 h hl w.1 w.2; omega
    · omega
  have e : az_S (fun i => 4 * (if tb i = 0 then (0 : Int) else 1) + (if i = p then 3 else 0)) 128 ≤ az_S (az_bf us dp fn) 128 := by
    refine az_S_le (fun i _ => ?_)
    show 4 * (if tb i = 0 then (0 : Int) else 1) + (if i = p then 3 else 0) ≤ az_bf us dp fn i
    by_cases z : i = p
    · subst z
      rw [if_pos ht, if_pos rfl, az_bf_1 hp hd, hf]
      omega
    · by_cases y : tb i = 0
      · have := nn i
        rw [if_pos y, if_neg z]
        omega
      · have ui := hl.2.2.1 i y
        have di := (h.1 i ui).2.2.1
        have d4 : dp i < 4 := by
          rcases Nat.lt_or_ge (dp i) 4 with w | w
          · exact w
          · exact absurd (hlf i ui (by omega)) y
        have f5 : 5 ≤ fn i := by
          rcases (hl.1 i ui).2.2.2 with ⟨w, _⟩ | ⟨_, w⟩
          · exact absurd w y
          · exact w
        rw [if_neg y, if_neg z, az_bf_1 ui d4]
        omega
  have e2 : az_S (fun i => 4 * (if tb i = 0 then (0 : Int) else 1) + (if i = p then 3 else 0)) 128 = 4 * az_S (fun i => if tb i = 0 then (0 : Int) else 1) 128 + 3 := by
    rw [az_S_add (fun i => 4 * (if tb i = 0 then (0 : Int) else 1)) (fun i => if i = p then (3 : Int) else 0)]
    have e3 : az_S (fun i => if i = p then (3 : Int) else 0) 128 = 3 := by
      have e7 : az_S (fun i => if i = p then (3 : Int) else 0) 128 = az_S (fun i => if p = i then (3 : Int) else 0) 128 := by
        refine az_S_congr (fun i _ => ?_)
        by_cases w : i = p
        · rw [if_pos w, if_pos w.symm]
        · rw [if_neg w, if_neg (fun q => w q.symm)]
      rw [e7, az_S_single, if_pos h128]
    have e4 : ∀ k, az_S (fun i => 4 * (if tb i = 0 then (0 : Int) else 1)) k = 4 * az_S (fun i => if tb i = 0 then (0 : Int) else 1) k := by
      intro k
      induction k with
      | zero => rfl
      | succ k ih => rw [az_S_succ, az_S_succ, ih]; omega
    rw [e3, e4]
  rw [e2, hm.2] at e
  have e5 : (if n = 0 then (0 : Int) else n - 1) ≤ 62 := by split <;> omega
  have e6 : (16 : Nat) = (16 : Int) := rfl
  omega
end
end
section
/-! the reference's rows of keys and values against the content m -/
def az_Y (m : Nat → Option Int32) (n : Nat) (ks : Nat → Nat) (vs : Nat → Int32) : Prop :=
  n ≤ 64 ∧ (∀ i, i < n → ks i < 65536 ∧ m (ks i) = some (vs i)) ∧ (∀ i j, i < n → j < n → ks i = ks j → i = j) ∧ (∀ k, az_K m k → ∃ i, i < n ∧ ks i = k)
def az_G (m : Nat → Option Int32) (g : Nat → Int32 → Int) (k : Nat) : Int := match m k with
  | none => 0
  | some v => g k v
theorem az_G_none {m : Nat → Option Int32} {g : Nat → Int32 → Int} {k : Nat} (h : m k = none) : az_G m g k = 0 := by unfold az_G; rw [h]
theorem az_G_some {m : Nat → Option Int32} {g : Nat → Int32 → Int} {k : Nat} {v : Int32} (h : m k = some v) : az_G m g k = g k v := by unfold az_G; rw [h]
theorem az_S_swap (G : Nat → Int) (ks : Nat → Nat) : ∀ j, (∀ i, i < j → ks i < 65536) → az_S (fun k => az_S (fun i => if ks i = k then G k else 0) j) 65536 = az_S (fun i => G (ks i)) j := by
  intro j
  induction j with
  | zero =>
    intro _
    rw [az_S_0]
    exact az_S_const0 65536
  | succ j ih =>
    intro h
    have e1 : az_S (fun k => az_S (fun i => if ks i = k then G k else 0) (j + 1)) 65536 = az_S (fun k => az_S (fun i => if ks i = k then G k else 0) j + (if ks j = k then G k else 0)) 65536 := rfl
    rw [e1, az_S_add (fun k => az_S (fun i => if ks i = k then G k else 0) j) (fun k => if ks j = k then G k else 0), ih (fun i hi => h i (by omega)), az_S_succ (fun i => G (ks i)) j]
    have e2 : az_S (fun k => if ks j = k then G k else 0) 65536 = az_S (fun k => if ks j = k then G (ks j) else 0) 65536 := by
      refine az_S_congr (fun k _ => ?_)
      by_cases z : ks j = k
      · rw [if_pos z, if_pos z, z]
      · rw [if_neg z, if_neg z]
    rw [e2, az_S_single, if_pos (h j (by omega))]
section
variable {m : Nat → Option Int32} {n : Nat} {ks : Nat → Nat} {vs : Nat → Int32}
theorem az_Y_sum (h : az_Y m n ks vs) (g : Nat → Int32 → Int) : az_S (fun i => g (ks i) (vs i)) n = az_S (az_G m g) 65536 := by
  have e1 : az_S (fun i => g (ks i) (vs i)) n = az_S (fun i => az_G m g (ks i)) n :=
    az_S_congr (fun i hi => (az_G_some (h.2.1 i hi).2).symm)
  rw [e1, ← az_S_swap (az_G m g) ks n (fun i hi => (h.2.1 i hi).1)]
  refine az_S_congr (fun k _ => ?_)
  by_cases z : az_K m k
  · obtain ⟨i0, h1, h2⟩ := h.2.2.2 k z
    have e2 : az_S (fun i => if ks i = k then az_G m g k else 0) n = az_S (fun i => if i0 = i then az_G m g k else 0) n := by
      refine az_S_congr (fun i hi => ?_)
      by_cases y : i0 = i
      · rw [if_pos y, if_pos (by rw [← y]; exact h2)]
      · rw [if_neg y, if_neg (fun w => y (h.2.2.1 i0 i h1 hi (by rw [h2, w])))]
    rw [e2, az_S_single, if_pos h1]
  · have e2 : az_S (fun i => if ks i = k then az_G m g k else 0) n = az_S (fun _ => 0) n := by
      refine az_S_congr (fun i hi => ?_)
      rw [az_G_none (az_nK z)]
      split <;> rfl
    rw [e2, az_S_const0, az_G_none (az_nK z)]
theorem az_S_cut {f : Nat → Int} {x N : Nat} (h : x ≤ N) : az_S (fun k => if k < x then f k else 0) N = az_S f x := by
  rw [az_S_zero (f := fun k => if k < x then f k else 0) h (fun i h1 _ => if_neg (by omega))]
  exact az_S_congr (fun i hi => if_pos hi)
theorem az_S_ones (n : Nat) : az_S (fun _ => 1) n = n := by
  induction n with
  | zero => rfl
  | succ n ih => rw [az_S_succ, ih]; omega
theorem az_Y_rank (h : az_Y m n ks vs) {x : Nat} (hx : x ≤ 65536) : az_S (fun i => if ks i < x then 1 else 0) n = az_C m x := by
  have e := az_Y_sum h (fun k _ => if k < x then 1 else 0)
  rw [e]
  unfold az_C
  rw [← az_S_cut hx]
  refine az_S_congr (fun k _ => ?_)
  by_cases z : az_K m k
  · obtain ⟨v, hv⟩ := az_K_some z
    rw [az_G_some hv, az_c1_some hv]
  · rw [az_G_none (az_nK z), az_c1_none (az_nK z)]
    split <;> rfl
theorem az_Y_n (h : az_Y m n ks vs) : (n : Int) = az_C m 65536 := by
  rw [← az_Y_rank h (Nat.le_refl 65536), az_S_congr (g := fun _ => 1) (fun i hi => if_pos (h.2.1 i hi).1), az_S_ones]
theorem az_Y_K (h : az_Y m n ks vs) {i : Nat} (hi : i < n) : az_K m (ks i) := az_K_of (h.2.1 i hi).2
theorem az_Y_lt (h : az_Y m n ks vs) {k : Nat} (hk : az_K m k) : k < 65536 := by
  obtain ⟨i, h1, h2⟩ := h.2.2.2 k hk
  rw [← h2]; exact (h.2.1 i h1).1
/-- another value for the key in row i -/
theorem az_Y_set (h : az_Y m n ks vs) {i x : Nat} {v : Int32} (hi : i < n) (hx : ks i = x) : az_Y (az_put m x (some v)) n ks (upd vs i v) := by
  refine ⟨h.1, ?_, h.2.2.1, ?_⟩
  · intro j hj
    refine ⟨(h.2.1 j hj).1, ?_⟩
    by_cases z : j = i
    · rw [z, hx, az_put_s, pk_us]
    · rw [az_put_n (fun w => z (h.2.2.1 j i hj hi (by rw [w, hx]))), pk_un z]
      exact (h.2.1 j hj).2
  · intro k hk
    by_cases z : k = x
    · exact ⟨i, hi, by rw [z]; exact hx⟩
    · unfold az_K at hk
      rw [az_put_n z] at hk
      exact h.2.2.2 k hk
/-- a key more -/
theorem az_Y_add (h : az_Y m n ks vs) {x : Nat} {v : Int32} (hn : n < 64) (hx : x < 65536) (nx : ¬ az_K m x) : az_Y (az_put m x (some v)) (n + 1) (az_f ks n x) (upd vs n v) := by
  have ne : ∀ j, j < n → ks j ≠ x := by
    intro j hj z
    exact nx (by rw [← z]; exact az_Y_K h hj)
  refine ⟨by omega, ?_, ?_, ?_⟩
  · intro j hj
    by_cases z : j = n
    · rw [z, az_f_s, az_put_s, pk_us]; exact ⟨hx, rfl⟩
    · rw [az_f_n z, pk_un z, az_put_n (ne j (by omega))]
      exact h.2.1 j (by omega)
  · intro i j hi hj e
    by_cases z : i = n
    · by_cases y : j = n
      · rw [z, y]
      · rw [z, az_f_s, az_f_n y] at e
        exact absurd e.symm (ne j (by omega))
    · by_cases y : j = n
      · rw [y, az_f_s, az_f_n z] at e
        exact absurd e (ne i (by omega))
      · rw [az_f_n z, az_f_n y] at e
        exact h.2.2.1 i j (by omega) (by omega) e
  · intro k hk
    by_cases z : k = x
    · exact ⟨n, by omega, by rw [az_f_s, z]⟩
    · unfold az_K at hk
      rw [az_put_n z] at hk
      obtain ⟨i, h1, h2⟩ := h.2.2.2 k hk
      exact ⟨i, by omega, by rw [az_f_n (by omega)]; exact h2⟩
/-- a key less: the last row in its place -/
theorem az_Y_drop (h : az_Y m n ks vs) {i : Nat} (hi : i < n) : az_Y (az_put m (ks i) none) (n - 1) (az_f ks i (ks (n - 1))) (upd vs i (vs (n - 1))) := by
  have w : ∀ j, j < n - 1 → ∃ j2, j2 < n ∧ j2 ≠ i ∧ az_f ks i (ks (n - 1)) j = ks j2 ∧ upd vs i (vs (n - 1)) j = vs j2 ∧ (j = i → j2 = n - 1) ∧ (j ≠ i → j2 = j) := by
    intro j hj
    by_cases z : j = i
    · subst z
      exact ⟨n - 1, by omega, by omega, by rw [az_f_s], by rw [pk_us], fun _ => rfl, fun y => absurd rfl y⟩
    · exact ⟨j, by omega, z, by rw [az_f_n z], by rw [pk_un z], fun y => absurd y z, fun _ => rfl⟩
  refine ⟨by have := h.1; omega, ?_, ?_, ?_⟩
  · intro j hj
    obtain ⟨j2, x1, x2, x3, x4, _, _⟩ := w j hj
    rw [x3, x4, az_put_n (fun y => x2 (h.2.2.1 j2 i x1 hi y))]
    exact h.2.1 j2 x1
  · intro j k hj hk e
    obtain ⟨j2, x1, x2, x3, x4, x5, x6⟩ := w j hj
    obtain ⟨k2, y1, y2, y3, y4, y5, y6⟩ := w k hk
    rw [x3, y3] at e
    have e2 := h.2.2.1 j2 k2 x1 y1 e
    by_cases z : j = i
    · have := x5 z
      by_cases y : k = i
      · omega
      · have := y6 y; omega
    · have := x6 z
      by_cases y : k = i
      · have := y5 y; omega
      · have := y6 y; omega
  · intro k hk
    unfold az_K at hk
    by_cases z : k = ks i
    · rw [z, az_put_s] at hk; exact absurd rfl hk
    · rw [az_put_n z] at hk
      obtain ⟨j, h1, h2⟩ := h.2.2.2 k hk
      have ji : j ≠ i := by intro y; rw [y] at h2; exact z h2.symm
      by_cases y : j = n - 1
      · refine ⟨i, by omega, ?_⟩
        rw [az_f_s, ← y]; exact h2
      · exact ⟨j, by omega, by rw [az_f_n ji]; exact h2⟩
end
end
section
/-! the whole of X's state, and its three ways of putting a leaf in and of taking one out -/
theorem az_K_put {m : Nat → Option Int32} {x : Nat} {v : Int32} (k : Nat) : az_K (az_put m x (some v)) k ↔ az_K m k ∨ k = x := by
  unfold az_K
  by_cases z : k = x
  · rw [z, az_put_s]
    exact ⟨fun _ => Or.inr rfl, fun _ w => nomatch w⟩
  · rw [az_put_n z]
    exact ⟨fun w => Or.inl w, fun w => w.elim id (fun y => absurd y z)⟩
theorem az_K_take {m : Nat → Option Int32} {x : Nat} (k : Nat) : az_K (az_put m x none) k ↔ az_K m k ∧ k ≠ x := by
  unfold az_K
  by_cases z : k = x
  · rw [z, az_put_s]
    exact ⟨fun w => absurd rfl w, fun w => absurd rfl w.2⟩
  · rw [az_put_n z]
    exact ⟨fun w => ⟨w, z⟩, fun w => w.1⟩
theorem az_C_add {m : Nat → Option Int32} {x : Nat} {v : Int32} (hx : x < 65536) (nx : ¬ az_K m x) : az_C (az_put m x (some v)) 65536 = az_C m 65536 + 1 := by
  rw [az_C_put, if_pos hx, az_c1_some (az_put_s m x (some v)), az_c1_none (az_nK nx)]
  rfl
theorem az_C_set {m : Nat → Option Int32} {x : Nat} {v : Int32} (kx : az_K m x) : az_C (az_put m x (some v)) 65536 = az_C m 65536 := by
  rw [az_C_put, az_c1_some (az_put_s m x (some v)), az_c1_K kx]
  split <;> omega
theorem az_C_take {m : Nat → Option Int32} {x : Nat} (hx : x < 65536) (kx : az_K m x) : az_C (az_put m x none) 65536 = az_C m 65536 - 1 := by
  rw [az_C_put, if_pos hx, az_c1_none (az_put_s m x none), az_c1_K kx]
  omega
theorem az_M_congr {us dp fn dp' fn' : Nat → Nat} {n : Int} (h : az_M us dp fn n) (e : ∀ i, us i = 1 → dp' i = dp i ∧ fn' i = fn i) : az_M us dp' fn' n := by
  have e1 : az_lf us dp' = az_lf us dp := by
    funext i
    unfold az_lf
    by_cases z : us i = 1
    · rw [(e i z).1]
    · rw [if_neg (fun w => z w.1), if_neg (fun w => z w.1)]
  have e2 : az_bf us dp' fn' = az_bf us dp fn := by
    funext i
    unfold az_bf
    by_cases z : us i = 1
    · rw [(e i z).1, (e i z).2]
    · rw [if_neg (fun w => z w.1), if_neg (fun w => z w.1)]
  unfold az_M
  rw [e1, e2]
  exact h
theorem az_M_at {us dp fn us' dp' fn' : Nat → Nat} {n : Int} {l q : Nat} (hm : az_M us dp fn n) (hl : l < 128) (hq : q < 128) (h1 : ∀ i, i ≠ l → az_lf us' dp' i = az_lf us dp i) (h2 : ∀ i, i ≠ q → az_bf us' dp' fn' i = az_bf us dp fn i) :
    az_S (az_lf us' dp') 128 = n + (az_lf us' dp' l - az_lf us dp l) ∧ az_S (az_bf us' dp' fn') 128 = (if n = 0 then 0 else n - 1) + (az_bf us' dp' fn' q - az_bf us dp fn q) := by
  rw [az_S_at l hl h1, az_S_at q hq h2, hm.1, hm.2]
  exact ⟨rfl, rfl⟩
def az_I (K : Nat → Prop) (m : Nat → Option Int32) (n : Int) (us dp pf ct : Nat → Nat) (sm : Nat → Int64) (fn tb cd cc tu tc : Nat → Nat) (ch : Nat → Nat → Nat) (rt : Nat) : Prop :=
  az_T K us dp pf ch rt ∧ az_N m us dp pf ct sm ∧ az_L us fn tb cd cc tu tc ch ∧ az_M us dp fn n ∧ (∀ i, us i ≤ 1) ∧ (∀ i, us i = 1 → dp i = 4 → fn i = 0)
theorem az_u1 {us : Nat → Nat} (h : ∀ i, us i ≤ 1) (j : Nat) {v : Nat} (hv : v ≤ 1) : ∀ i, az_f us j v i ≤ 1 := by
  intro i
  by_cases z : i = j
  · rw [z, az_f_s]; exact hv
  · rw [az_f_n z]; exact h i
section
variable {m : Nat → Option Int32} {us dp pf ct : Nat → Nat} {sm : Nat → Int64} {fn tb cd cc tu tc : Nat → Nat} {ch : Nat → Nat → Nat} {rt : Nat} {n : Int} {x l : Nat}
/-- the new leaf's counts, ahead of its being counted -/
theorem az_N_leaf (hn : az_N m us dp pf ct sm) (nx : ¬ az_K m x) (dl : dp l = 4) (pl : pf l = x) (cl : ct l = 0) (sl : sm l = 0) : az_N m (az_f us l 1) dp pf ct sm := by
  refine ⟨fun i hi => ?_, hn.2⟩
  by_cases z : i = l
  · rw [z, dl, pl, cl, sl, az_w4, az_C_succ, az_Q_succ, az_c1_none (az_nK nx), az_cq_none (az_nK nx)]
    refine ⟨by omega, ?_⟩
    rw [show az_Q m x + 0 - az_Q m x = 0 by omega]
    rfl
  · rw [az_f_n z] at hi
    exact hn.1 i hi
theorem az_finC (t : az_T (az_K m) us dp pf ch rt) (hn : az_N m us dp pf ct sm) (hL : az_L (az_f us l 1) fn tb cd cc tu tc ch) (hm : az_M us dp fn n) (hu : ∀ i, us i ≤ 1) (hf : ∀ i, us i = 1 → dp i = 4 → fn i = 0)
    (hx : x < 65536) (nx : ¬ az_K m x) (hl : 0 < l ∧ l < 128) (ul : us l = 0) (dl : dp l = 4) (pl : pf l = x) (cl : ct l = 0) (sl : sm l = 0) (fl : fn l = 0) (hr : rt = 0) (hn0 : n = 0) :
    az_I (fun k => az_K m k ∨ k = x) m (n + 1) (az_f us l 1) dp pf ct sm fn tb cd cc tu tc ch l := by
  refine ⟨az_addC t hx hl dl pl hr (az_f_s us l 1) (fun j hj => az_f_n hj), az_N_leaf hn nx dl pl cl sl, hL, ?_, az_u1 hu l (Nat.le_refl 1), ?_⟩
  · have e := az_M_at (us' := az_f us l 1) (dp' := dp) (fn' := fn) hm hl.2 hl.2 (fun i hi => az_lf_e (az_f_n hi) rfl) (fun i hi => az_bf_e (az_f_n hi) rfl rfl)
    rw [az_lf_1 (az_f_s us l 1) dl, az_lf_0 (Or.inl (by omega)), az_bf_0 (Or.inr dl), az_bf_0 (Or.inr dl), if_pos hn0] at e
    refine ⟨by omega, ?_⟩
    rw [e.2, if_neg (by omega)]
    omega
  · intro i hi hd
    by_cases z : i = l
    · rw [z]; exact fl
    · rw [az_f_n z] at hi; exact hf i hi hd
theorem az_n_pos (t : az_T (az_K m) us dp pf ch rt) {p : Nat} (p1 : us p = 1) : 1 ≤ az_C m 65536 := by
  obtain ⟨k, k1, _⟩ := az_inh' t p1
  have := az_C_gt (Nat.zero_le k) (t.2.2.2.2.2.2.2 k k1) k1
  have e : az_C m 0 = 0 := rfl
  omega
theorem az_n_two (t : az_T (az_K m) us dp pf ch rt) {p : Nat} (p1 : us p = 1) (p2 : dp p < 4) : 2 ≤ az_C m 65536 := by
  obtain ⟨k, k', k1, k2, _, _, k5⟩ := az_two t p1 p2
  have e : az_C m 0 = 0 := rfl
  have b1 := t.2.2.2.2.2.2.2 k k1
  have b2 := t.2.2.2.2.2.2.2 k' k2
  rcases Nat.lt_trichotomy k k' with z | z | z
  · have a1 := az_C_gt (Nat.zero_le k) z k1
    have a2 := az_C_gt (Nat.le_refl k') b2 k2
    omega
  · rw [z] at k5; exact absurd rfl k5
  · have a1 := az_C_gt (Nat.zero_le k') z k2
    have a2 := az_C_gt (Nat.le_refl k) b1 k1
    omega
theorem az_finB {p : Nat} {fn' tb' cd' cc' tu' tc' : Nat → Nat} (t : az_T (az_K m) us dp pf ch rt) (hn : az_N m us dp pf ct sm) (hm : az_M us dp fn n) (hu : ∀ i, us i ≤ 1) (hf : ∀ i, us i = 1 → dp i = 4 → fn i = 0)
    (hx : x < 65536) (nx : ¬ az_K m x) (hl : 0 < l ∧ l < 128) (ul : us l = 0) (dl : dp l = 4) (pl : pf l = x) (cl : ct l = 0) (sl : sm l = 0) (fl : fn l = 0)
    (p1 : us p = 1) (p2 : dp p < 4) (p3 : az_un (dp p) (pf p) x) (p4 : ch p (az_dg x (dp p)) = 0) (hn0 : 1 ≤ n)
    (hL : az_L (az_f us l 1) fn' tb' cd' cc' tu' tc' (az_h ch p (az_dg x (dp p)) l)) (hF : fn' = az_f fn p (fn p + 1)) :
    az_I (fun k => az_K m k ∨ k = x) m (n + 1) (az_f us l 1) dp pf ct sm fn' tb' cd' cc' tu' tc' (az_h ch p (az_dg x (dp p)) l) rt := by
  have pl' : p ≠ l := by intro z; rw [z, ul] at p1; omega
  refine ⟨az_addB t hx nx hl ul dl pl p1 p2 p3 p4 (az_f_s us l 1) (fun j hj => az_f_n hj) (az_h_s _ _ _ _) (fun j c _ hj => az_h_n hj), az_N_leaf hn nx dl pl cl sl, hL, ?_, az_u1 hu l (Nat.le_refl 1), ?_⟩
  · subst hF
    have hp := (t.1 p p1).2.1
    have e := az_M_at (us' := az_f us l 1) (dp' := dp) (fn' := az_f fn p (fn p + 1)) (l := l) (q := p) hm hl.2 hp (fun i hi => az_lf_e (az_f_n hi) rfl)
      (fun i hi => by
        by_cases z : i = l
        · rw [az_bf_0 (Or.inr (by rw [z]; exact dl)), az_bf_0 (Or.inr (by rw [z]; exact dl))]
        · exact az_bf_e (az_f_n z) rfl (az_f_n hi))
    rw [az_lf_1 (az_f_s us l 1) dl, az_lf_0 (us := us) (Or.inl (by omega)), az_bf_1 (us := az_f us l 1) (by rw [az_f_n pl']; exact p1) p2, az_bf_1 p1 p2, az_f_s, if_neg (by omega)] at e
    refine ⟨by omega, ?_⟩
    rw [e.2, if_neg (by omega)]
    omega
  · intro i hi hd
    subst hF
    have ip : i ≠ p := by intro z; rw [z] at hd; omega
    rw [az_f_n ip]
    by_cases z : i = l
    · rw [z]; exact fl
    · rw [az_f_n z] at hi; exact hf i hi hd
/-- the new branch's counts, ahead of the new leaf's being counted -/
theorem az_N_branch {p q r b : Nat} (t : az_T (az_K m) us dp pf ch rt) (hn : az_N m us dp pf ct sm) (ha : az_at us dp pf ch rt x p q) (hq : q ≠ 0) (hqu : ¬ az_un (dp q) (pf q) x) (hr : az_com (pf q) x r) (hx : x < 65536)
    (db : dp b = r) (pb : pf b = az_cut x r) (cb : ct b = ct q) (sb : sm b = sm q) : (ct b : Int) = az_C m (pf b + az_w (dp b)) - az_C m (pf b) ∧ sm b = Int64.ofInt (az_Q m (pf b + az_w (dp b)) - az_Q m (pf b)) := by
  obtain ⟨q1, hlt, hpr, hK⟩ := az_joint t ha hq hqu hr
  have a := t.1 q q1
  have e := hn.1 q q1
  have al : az_cut x r % az_w r = 0 := az_cut_al x r
  have u : az_un r (az_cut x r) (pf q) := az_un_trans (az_cut_un x r) (az_un_symm hr.2.1)
  have iv := az_iv_in (Nat.le_of_lt hlt) a.2.2.1 al a.2.2.2.2 u
  have hwp := az_w_pos (dp q)
  have hin : ∀ k, az_cut x r ≤ k → k < az_cut x r + az_w r → az_K m k → pf q ≤ k ∧ k < pf q + az_w (dp q) := by
    intro k h1 h2 hk
    have w := hK k hk ((az_un_iv (by omega) al).mpr ⟨h1, h2⟩)
    exact (az_un_iv a.2.2.1 a.2.2.2.2).mp w
  rw [cb, sb, db, pb, e.1, e.2, az_C_shrink iv.1 (by omega) iv.2 hin, az_Q_shrink iv.1 (by omega) iv.2 hin]
  exact ⟨rfl, rfl⟩
theorem az_finA {p q r b : Nat} {fn' tb' cd' cc' tu' tc' : Nat → Nat} {ch' : Nat → Nat → Nat} {rt' : Nat} (t : az_T (az_K m) us dp pf ch rt) (hn : az_N m us dp pf ct sm) (hm : az_M us dp fn n) (hu : ∀ i, us i ≤ 1) (hf : ∀ i, us i = 1 → dp i = 4 → fn i = 0)
    (hx : x < 65536) (nx : ¬ az_K m x) (hl : 0 < l ∧ l < 128) (ul : us l = 0) (dl : dp l = 4) (pl : pf l = x) (cl : ct l = 0) (sl : sm l = 0)
    (hb : 0 < b ∧ b < 128) (ub : us b = 0) (db : dp b = r) (pb : pf b = az_cut x r) (cb : ct b = ct q) (sb : sm b = sm q) (hbl : b ≠ l)
    (ha : az_at us dp pf ch rt x p q) (hq : q ≠ 0) (hqu : ¬ az_un (dp q) (pf q) x) (hr : az_com (pf q) x r) (hn0 : 1 ≤ n)
    (hL : az_L (az_f (az_f us l 1) b 1) fn' tb' cd' cc' tu' tc' ch') (f1 : fn' b = 2) (f2 : fn' l = 0) (f3 : ∀ i, us i = 1 → fn' i = fn i)
    (c3 : ch' b (az_dg (pf q) r) = q) (c4 : ch' b (az_dg x r) = l) (c5 : ∀ c, c ≠ az_dg (pf q) r → c ≠ az_dg x r → ch' b c = 0)
    (c1 : us p = 1 → ch' p (az_dg x (dp p)) = b) (c2 : ∀ j c, us j = 1 → ¬ (j = p ∧ c = az_dg x (dp p)) → ch' j c = ch j c)
    (r1 : p = 0 → rt' = b) (r2 : p ≠ 0 → rt' = rt) :
    az_I (fun k => az_K m k ∨ k = x) m (n + 1) (az_f (az_f us l 1) b 1) dp pf ct sm fn' tb' cd' cc' tu' tc' ch' rt' := by
  have hlt := (az_joint t ha hq hqu hr).2.1
  have q4 := (t.1 q (az_joint t ha hq hqu hr).1).2.2.1
  have v1 : az_f (az_f us l 1) b 1 l = 1 := by rw [az_f_n (fun z => hbl z.symm), az_f_s]
  have v2 : az_f (az_f us l 1) b 1 b = 1 := az_f_s _ _ _
  have v3 : ∀ j, j ≠ l → j ≠ b → az_f (az_f us l 1) b 1 j = us j := fun j h1 h2 => by rw [az_f_n h2, az_f_n h1]
  have nb := az_N_branch t hn ha hq hqu hr hx db pb cb sb
  have nl := az_N_leaf (l := l) hn nx dl pl cl sl
  refine ⟨az_addA t hx nx hl ul dl pl hb ub db pb hbl ha hq hqu hr v1 v2 v3 c3 c4 c5 c1 c2 r1 r2, ⟨fun i hi => ?_, hn.2⟩, hL, ?_, az_u1 (az_u1 hu l (Nat.le_refl 1)) b (Nat.le_refl 1), ?_⟩
  · by_cases z : i = b
    · rw [z]; exact nb
    · rw [az_f_n z] at hi
      exact nl.1 i hi
  · have e := az_M_at (us' := az_f (az_f us l 1) b 1) (dp' := dp) (fn' := fn') (l := l) (q := b) hm hl.2 hb.2
      (fun i hi => by
        by_cases z : i = b
        · rw [az_lf_0 (Or.inr (by rw [z]; omega)), az_lf_0 (Or.inr (by rw [z]; omega))]
        · exact az_lf_e (v3 i hi z) rfl)
      (fun i hi => by
        by_cases z : i = l
        · rw [az_bf_0 (Or.inr (by rw [z]; exact dl)), az_bf_0 (Or.inr (by rw [z]; exact dl))]
        · by_cases y : us i = 1
          · exact az_bf_e (v3 i z hi) rfl (f3 i y)
          · rw [az_bf_0 (Or.inl (by rw [v3 i z hi]; exact y)), az_bf_0 (Or.inl y)])
    rw [az_lf_1 v1 dl, az_lf_0 (us := us) (Or.inl (by omega)), az_bf_1 v2 (by omega), az_bf_0 (us := us) (Or.inl (by omega)), f1, if_neg (by omega)] at e
    refine ⟨by omega, ?_⟩
    rw [e.2, if_neg (by omega)]
    omega
  · intro i hi hd
    by_cases z : i = l
    · rw [z]; exact f2
    · by_cases y : i = b
      · rw [y, db] at hd; omega
      · rw [v3 i z y] at hi
        rw [f3 i hi]; exact hf i hi hd
theorem az_leaf_tb (hL : az_L us fn tb cd cc tu tc ch) (l1 : us l = 1) (fl : fn l = 0) : tb l = 0 := by
  rcases (hL.1 l l1).2.2.2 with ⟨z, _⟩ | ⟨_, z⟩
  · exact z
  · omega
theorem az_finTA (t : az_T (az_K m) us dp pf ch rt) (hn : az_N (az_put m x none) us dp pf ct sm) (hL : az_L us fn tb cd cc tu tc ch) (hm : az_M us dp fn n) (hu : ∀ i, us i ≤ 1) (hf : ∀ i, us i = 1 → dp i = 4 → fn i = 0)
    (l1 : us l = 1) (dl : dp l = 4) (pl : pf l = x) (hr : rt = l) :
    az_I (az_K (az_put m x none)) (az_put m x none) (n - 1) (az_f us l 0) dp pf ct sm fn tb cd cc tu tc ch 0 := by
  have T := az_T_keys (az_takeA t l1 dl pl hr (az_f_s us l 0) (fun j hj => az_f_n hj) ch) (K' := az_K (az_put m x none)) (fun k => az_K_take k)
  have hno : ∀ i, az_f us l 0 i ≠ 1 := fun i hi => az_root0 T hi rfl
  have hl2 := (t.1 l l1).2.1
  refine ⟨T, ⟨fun i hi => absurd hi (hno i), hn.2⟩, az_L_less hL (az_leaf_tb hL l1 (hf l l1 dl)), ?_, az_u1 hu l (Nat.zero_le 1), fun i hi => absurd hi (hno i)⟩
  have e := az_M_at (us' := az_f us l 0) (dp' := dp) (fn' := fn) (l := l) (q := l) hm hl2 hl2 (fun i hi => az_lf_e (az_f_n hi) rfl) (fun i hi => az_bf_e (az_f_n hi) rfl rfl)
  rw [az_lf_0 (us := az_f us l 0) (Or.inl (hno l)), az_lf_1 l1 dl, az_bf_0 (Or.inr dl), az_bf_0 (Or.inr dl)] at e
  have z1 : az_S (az_lf (az_f us l 0) dp) 128 = 0 := by
    rw [az_S_congr (g := fun _ => 0) (fun i _ => az_lf_0 (Or.inl (hno i))), az_S_const0]
  refine ⟨by omega, ?_⟩
  rw [e.2, if_neg (by omega), if_pos (by omega)]
  omega
theorem az_finTB {p : Nat} {fn' tb' cd' cc' tu' tc' : Nat → Nat} (t : az_T (az_K m) us dp pf ch rt) (hn : az_N (az_put m x none) us dp pf ct sm) (hm : az_M us dp fn n) (hu : ∀ i, us i ≤ 1) (hf : ∀ i, us i = 1 → dp i = 4 → fn i = 0)
    (l1 : us l = 1) (dl : dp l = 4) (pl : pf l = x) (p1 : us p = 1) (p2 : dp p < 4) (p3 : az_un (dp p) (pf p) x) (p4 : ch p (az_dg x (dp p)) = l) (hn0 : 2 ≤ n)
    (hL : az_L (az_f us l 0) fn' tb' cd' cc' tu' tc' (az_h ch p (az_dg x (dp p)) 0)) (hF : fn' = az_f fn p (fn p - 1)) (h3 : 3 ≤ fn p) :
    az_I (az_K (az_put m x none)) (az_put m x none) (n - 1) (az_f us l 0) dp pf ct sm fn' tb' cd' cc' tu' tc' (az_h ch p (az_dg x (dp p)) 0) rt := by
  have pl' : p ≠ l := by intro z; rw [z, dl] at p2; omega
  have hl2 := (t.1 l l1).2.1
  have hp2 := (t.1 p p1).2.1
  have u2 : az_f us l 0 p = 1 := by rw [az_f_n pl']; exact p1
  have u3 : az_f us l 0 l ≠ 1 := by rw [az_f_s]; omega
  have c3 : ∃ a b, a < 16 ∧ b < 16 ∧ a ≠ b ∧ az_h ch p (az_dg x (dp p)) 0 p a ≠ 0 ∧ az_h ch p (az_dg x (dp p)) 0 p b ≠ 0 := by
    refine az_fan_two ?_
    rw [← (hL.1 p u2).2.2.1, hF, az_f_s]
    omega
  have T := az_T_keys (az_takeB t l1 dl pl p1 p2 p3 p4 (az_f_s us l 0) (fun j hj => az_f_n hj) (az_h_s _ _ _ _) (fun j c _ hj => az_h_n hj) c3) (K' := az_K (az_put m x none)) (fun k => az_K_take k)
  have old : ∀ i, az_f us l 0 i = 1 → us i = 1 := by
    intro i hi
    by_cases z : i = l
    · rw [z] at hi; exact absurd hi u3
    · rw [az_f_n z] at hi; exact hi
  refine ⟨T, az_N_congr hn (fun i hi => ⟨old i hi, rfl, rfl, rfl, rfl⟩) hn.2.1 hn.2.2, hL, ?_, az_u1 hu l (Nat.zero_le 1), ?_⟩
  · subst hF
    have e := az_M_at (us' := az_f us l 0) (dp' := dp) (fn' := az_f fn p (fn p - 1)) (l := l) (q := p) hm hl2 hp2 (fun i hi => az_lf_e (az_f_n hi) rfl)
      (fun i hi => by
        by_cases z : i = l
        · rw [az_bf_0 (Or.inr (by rw [z]; exact dl)), az_bf_0 (Or.inr (by rw [z]; exact dl))]
        · exact az_bf_e (az_f_n z) rfl (az_f_n hi))
    rw [az_lf_0 (us := az_f us l 0) (Or.inl u3), az_lf_1 l1 dl, az_bf_1 u2 p2, az_bf_1 p1 p2, az_f_s, if_neg (by omega)] at e
    refine ⟨by omega, ?_⟩
    rw [e.2, if_neg (by omega)]
    omega
  · intro i hi hd
    subst hF
    have ip : i ≠ p := by intro z; rw [z] at hd; omega
    rw [az_f_n ip]
    exact hf i (old i hi) hd
theorem az_finTC {p g o co : Nat} {fn' tb' cd' cc' tu' tc' : Nat → Nat} {ch' : Nat → Nat → Nat} {rt' : Nat} (t : az_T (az_K m) us dp pf ch rt) (hn : az_N (az_put m x none) us dp pf ct sm) (hm : az_M us dp fn n) (hu : ∀ i, us i ≤ 1) (hf : ∀ i, us i = 1 → dp i = 4 → fn i = 0)
    (l1 : us l = 1) (dl : dp l = 4) (pl : pf l = x) (p1 : us p = 1) (p2 : dp p < 4) (p3 : az_un (dp p) (pf p) x) (p4 : ch p (az_dg x (dp p)) = l) (hn0 : 2 ≤ n)
    (hg : az_at us dp pf ch rt x g p) (o1 : ch p co = o) (o2 : o ≠ 0) (o3 : co < 16) (o4 : co ≠ az_dg x (dp p)) (o5 : ∀ c, c < 16 → c ≠ az_dg x (dp p) → ch p c ≠ 0 → c = co)
    (hL : az_L (az_f (az_f us l 0) p 0) fn' tb' cd' cc' tu' tc' ch') (f1 : fn p = 2) (f3 : ∀ i, i ≠ p → fn' i = fn i)
    (c1 : us g = 1 → ch' g (az_dg x (dp g)) = o) (c2 : ∀ j c, us j = 1 → j ≠ p → ¬ (j = g ∧ c = az_dg x (dp g)) → ch' j c = ch j c)
    (r1 : g = 0 → rt' = o) (r2 : g ≠ 0 → rt' = rt) :
    az_I (az_K (az_put m x none)) (az_put m x none) (n - 1) (az_f (az_f us l 0) p 0) dp pf ct sm fn' tb' cd' cc' tu' tc' ch' rt' := by
  have pl' : p ≠ l := by intro z; rw [z, dl] at p2; omega
  have hl2 := (t.1 l l1).2.1
  have hp2 := (t.1 p p1).2.1
  have v1 : az_f (az_f us l 0) p 0 l = 0 := by rw [az_f_n (fun z => pl' z.symm), az_f_s]
  have v2 : az_f (az_f us l 0) p 0 p = 0 := az_f_s _ _ _
  have v3 : ∀ j, j ≠ l → j ≠ p → az_f (az_f us l 0) p 0 j = us j := fun j h1 h2 => by rw [az_f_n h2, az_f_n h1]
  have T := az_T_keys (az_takeC t l1 dl pl p1 p2 p3 p4 hg o1 o2 o3 o4 o5 v1 v2 v3 c1 c2 r1 r2) (K' := az_K (az_put m x none)) (fun k => az_K_take k)
  have old : ∀ i, az_f (az_f us l 0) p 0 i = 1 → us i = 1 ∧ i ≠ p := by
    intro i hi
    by_cases z : i = l
    · rw [z, v1] at hi; omega
    · by_cases y : i = p
      · rw [y, v2] at hi; omega
      · rw [v3 i z y] at hi; exact ⟨hi, y⟩
  refine ⟨T, az_N_congr hn (fun i hi => ⟨(old i hi).1, rfl, rfl, rfl, rfl⟩) hn.2.1 hn.2.2, hL, ?_, az_u1 (az_u1 hu l (Nat.zero_le 1)) p (Nat.zero_le 1), ?_⟩
  · have e := az_M_at (us' := az_f (az_f us l 0) p 0) (dp' := dp) (fn' := fn') (l := l) (q := p) hm hl2 hp2
      (fun i hi => by
        by_cases z : i = p
        · rw [az_lf_0 (Or.inr (by rw [z]; omega)), az_lf_0 (Or.inr (by rw [z]; omega))]
        · exact az_lf_e (v3 i hi z) rfl)
      (fun i hi => by
        by_cases z : i = l
        · rw [az_bf_0 (Or.inr (by rw [z]; exact dl)), az_bf_0 (Or.inr (by rw [z]; exact dl))]
        · exact az_bf_e (v3 i z hi) rfl (f3 i hi))
    rw [az_lf_0 (us := az_f (az_f us l 0) p 0) (Or.inl (by omega)), az_lf_1 l1 dl, az_bf_0 (us := az_f (az_f us l 0) p 0) (Or.inl (by omega)), az_bf_1 p1 p2, f1, if_neg (by omega)] at e
    refine ⟨by omega, ?_⟩
    rw [e.2, if_neg (by omega)]
    omega
  · intro i hi hd
    have w := old i hi
    rw [f3 i w.2]
    exact hf i w.1 hd
end
end
section
/-! what the walks down the tree answer -/
section
variable {m : Nat → Option Int32} {us dp pf ct : Nat → Nat} {sm : Nat → Int64} {ch : Nat → Nat → Nat} {rt : Nat}
/-- the walk that counts the keys below b: at the node nd, with tot counted so far -/
def az_J (m : Nat → Option Int32) (us dp pf : Nat → Nat) (b nd : Nat) (tot : Int) : Prop :=
  (nd = 0 ∧ tot = az_C m b) ∨ (us nd = 1 ∧ ∃ a, tot = az_C m a ∧ a ≤ b ∧ a ≤ pf nd ∧ ∀ k, a ≤ k → k < b → az_K m k → az_un (dp nd) (pf nd) k)
theorem az_J_0 (t : az_T (az_K m) us dp pf ch rt) (b : Nat) : az_J m us dp pf b rt 0 := by
  by_cases z : rt = 0
  · refine Or.inl ⟨z, ?_⟩
    rw [az_C_eq (Nat.zero_le b) (fun k _ _ => t.2.2.2.2.2.2.1.1 z k)]
    rfl
  · exact Or.inr ⟨az_rootu t z, 0, rfl, Nat.zero_le b, Nat.zero_le _, fun k _ _ hk => (az_rootk t hk).2.2⟩
theorem az_J_out (t : az_T (az_K m) us dp pf ch rt) (hn : az_N m us dp pf ct sm) {b nd : Nat} {tot : Int} (h : az_J m us dp pf b nd tot) (h0 : nd ≠ 0) (hu : ¬ az_un (dp nd) (pf nd) b) :
    (pf nd < b → tot + ct nd = az_C m b) ∧ (¬ pf nd < b → tot = az_C m b) := by
  rcases h with ⟨z, _⟩ | ⟨u, a, h1, h2, h3, h4⟩
  · exact absurd z h0
  · have q := t.1 nd u
    have iv : ∀ k, az_un (dp nd) (pf nd) k ↔ pf nd ≤ k ∧ k < pf nd + az_w (dp nd) := fun k => az_un_iv q.2.2.1 q.2.2.2.2
    rw [iv] at hu
    have wp := az_w_pos (dp nd)
    refine ⟨fun z => ?_, fun z => ?_⟩
    · have e := az_C_shrink (m := m) (a := a) (p := pf nd) (q := pf nd + az_w (dp nd)) (b := b) h3 (by omega) (by omega) (fun k k1 k2 k3 => (iv k).mp (h4 k k1 k2 k3))
      rw [(hn.1 nd u).1, h1]
      omega
    · rw [h1]
      refine (az_C_eq h2 (fun k k1 k2 k3 => ?_)).symm
      have := (iv k).mp (h4 k k1 k2 k3)
      omega
theorem az_J_leaf (t : az_T (az_K m) us dp pf ch rt) {b nd : Nat} {tot : Int} (h : az_J m us dp pf b nd tot) (h0 : nd ≠ 0) (hu : az_un (dp nd) (pf nd) b) (hd : dp nd = 4) : tot = az_C m b := by
  rcases h with ⟨z, _⟩ | ⟨u, a, h1, h2, h3, h4⟩
  · exact absurd z h0
  · rw [h1]
    rw [hd] at hu h4
    have e := az_un4.mp hu
    refine (az_C_eq h2 (fun k k1 k2 k3 => ?_)).symm
    have := az_un4.mp (h4 k k1 k2 k3)
    omega
theorem az_J_step (t : az_T (az_K m) us dp pf ch rt) {b nd : Nat} {tot : Int} (h : az_J m us dp pf b nd tot) (h0 : nd ≠ 0) (hu : az_un (dp nd) (pf nd) b) (hd : dp nd < 4) :
    az_J m us dp pf b (ch nd (az_dg b (dp nd))) (tot + (az_C m (pf nd + az_dg b (dp nd) * az_w (dp nd + 1)) - az_C m (pf nd))) := by
  rcases h with ⟨z, _⟩ | ⟨u, a, h1, h2, h3, h4⟩
  · exact absurd z h0
  · have q := t.1 nd u
    have iv : ∀ k, az_un (dp nd) (pf nd) k ↔ pf nd ≤ k ∧ k < pf nd + az_w (dp nd) := fun k => az_un_iv q.2.2.1 q.2.2.2.2
    have bi := (iv b).mp hu
    have e1 : az_C m (pf nd) = az_C m a := by
      refine az_C_eq h3 (fun k k1 k2 k3 => ?_)
      have := (iv k).mp (h4 k k1 (by omega) k3)
      omega
    have sb := (az_sub_iv (k := b) hd q.2.2.2.2 (az_dg_lt b (dp nd))).mp ⟨hu, rfl⟩
    have key : ∀ k, pf nd + az_dg b (dp nd) * az_w (dp nd + 1) ≤ k → k < b → az_K m k → ch nd (az_dg b (dp nd)) ≠ 0 ∧ az_un (dp (ch nd (az_dg b (dp nd)))) (pf (ch nd (az_dg b (dp nd)))) k := by
      intro k k1 k2 k3
      have s := (az_sub_iv (k := k) hd q.2.2.2.2 (az_dg_lt b (dp nd))).mpr ⟨k1, by omega⟩
      have h5 := t.2.2.2.1 nd k u hd k3 s.1
      rw [s.2] at h5
      exact h5
    have e2 : tot + (az_C m (pf nd + az_dg b (dp nd) * az_w (dp nd + 1)) - az_C m (pf nd)) = az_C m (pf nd + az_dg b (dp nd) * az_w (dp nd + 1)) := by omega
    rw [e2]
    by_cases z : ch nd (az_dg b (dp nd)) = 0
    · exact Or.inl ⟨z, (az_C_eq sb.1 (fun k k1 k2 k3 => (key k k1 k2 k3).1 z)).symm⟩
    · have c := t.2.2.1 nd _ u hd (az_dg_lt b (dp nd)) z
      have cq := t.1 _ c.1
      have ip := az_in_part c.2.1 cq.2.2.1 q.2.2.2.2 cq.2.2.2.2 c.2.2.1
      rw [c.2.2.2] at ip
      exact Or.inr ⟨c.1, _, rfl, sb.1, ip.1, fun k k1 k2 k3 => (key k k1 k2 k3).2⟩
/-- the walk to the key of a rank -/
def az_R (m : Nat → Option Int32) (us pf ct : Nat → Nat) (rank : Int) (nd left : Nat) : Prop := us nd = 1 ∧ left < ct nd ∧ az_C m (pf nd) + left = rank
theorem az_R_0 (t : az_T (az_K m) us dp pf ch rt) (hn : az_N m us dp pf ct sm) {rank : Nat} (h : (rank : Int) < az_C m 65536) : az_R m us pf ct rank rt rank := by
  have r := az_rootC t hn
  have z : rt ≠ 0 := by
    intro z
    rw [z, hn.2.1] at r
    omega
  refine ⟨az_rootu t z, by omega, ?_⟩
  rw [(r.2 z).1]; omega
theorem az_R_leaf (t : az_T (az_K m) us dp pf ch rt) (hn : az_N m us dp pf ct sm) {rank : Int} {nd left : Nat} (h : az_R m us pf ct rank nd left) (hd : dp nd = 4) : az_K m (pf nd) ∧ az_C m (pf nd) = rank := by
  obtain ⟨u, h1, h2⟩ := h
  have k := t.2.1 nd u hd
  obtain ⟨v, hv⟩ := az_K_some k
  have := (az_leaf t hn u hd hv).1
  exact ⟨k, by omega⟩
/-- among the children of nd: at digit c -/
def az_Rc (m : Nat → Option Int32) (dp pf : Nat → Nat) (rank : Int) (nd c left : Nat) : Prop := az_C m (pf nd + c * az_w (dp nd + 1)) + left = rank ∧ rank < az_C m (pf nd + az_w (dp nd))
theorem az_Rc_0 (hn : az_N m us dp pf ct sm) {rank : Int} {nd left : Nat} (h : az_R m us pf ct rank nd left) : az_Rc m dp pf rank nd 0 left := by
  obtain ⟨u, h1, h2⟩ := h
  have e := (hn.1 nd u).1
  refine ⟨?_, by omega⟩
  rw [Nat.zero_mul, Nat.add_zero]
  exact h2
theorem az_Rc_next (t : az_T (az_K m) us dp pf ch rt) (hn : az_N m us dp pf ct sm) {rank : Int} {nd c left : Nat} (u : us nd = 1) (hd : dp nd < 4) (hc : c < 16) (h : az_Rc m dp pf rank nd c left) (hl : ct (ch nd c) ≤ left) : az_Rc m dp pf rank nd (c + 1) (left - ct (ch nd c)) := by
  have e := (az_sub t hn u hd hc).1
  obtain ⟨h1, h2⟩ := h
  exact ⟨by omega, h2⟩
theorem az_Rc_stop (t : az_T (az_K m) us dp pf ch rt) (hn : az_N m us dp pf ct sm) {rank : Int} {nd c left : Nat} (u : us nd = 1) (hd : dp nd < 4) (hc : c < 16) (h : az_Rc m dp pf rank nd c left) (hl : c = 15 ∨ left < ct (ch nd c)) : az_R m us pf ct rank (ch nd c) left ∧ dp nd < dp (ch nd c) := by
  have e := az_sub t hn u hd hc
  obtain ⟨h1, h2⟩ := h
  have hlt : left < ct (ch nd c) := by
    rcases hl with z | z
    · subst z
      have w := az_w_succ hd
      have e1 := e.1
      rw [show (15 + 1) * az_w (dp nd + 1) = az_w (dp nd) by omega] at e1
      omega
    · exact z
  have z : ch nd c ≠ 0 := by
    intro z
    rw [z, hn.2.1] at hlt
    omega
  have q := t.2.2.1 nd c u hd hc z
  refine ⟨⟨q.1, hlt, ?_⟩, q.2.1⟩
  rw [e.2 z]
  exact h1
/-- the greatest number of first digits that x shares with a key -/
def az_sd (K : Nat → Prop) (x r : Nat) : Prop := r ≤ 4 ∧ (∃ k, K k ∧ az_un r x k) ∧ (r < 4 → ∀ k, K k → ¬ az_un (r + 1) x k)
theorem az_sd_uniq {K : Nat → Prop} {x r r' : Nat} (h : az_sd K x r) (h' : az_sd K x r') : r = r' := by
  obtain ⟨a1, ⟨k, k1, k2⟩, a3⟩ := h
  obtain ⟨b1, ⟨k', k3, k4⟩, b3⟩ := h'
  rcases Nat.lt_trichotomy r r' with z | z | z
  · exact absurd (az_un_le z b1 k4) (a3 (by omega) k' k3)
  · exact z
  · exact absurd (az_un_le z a1 k2) (b3 (by omega) k k1)
variable {K : Nat → Prop}
def az_D (K : Nat → Prop) (us dp pf : Nat → Nat) (x nd D : Nat) : Prop := us nd = 1 ∧ D ≤ dp nd ∧ az_un D (pf nd) x ∧ ∀ k, K k → az_un D x k → az_un (dp nd) (pf nd) k
theorem az_D_0 (t : az_T K us dp pf ch rt) (z : rt ≠ 0) {x : Nat} (hx : x < 65536) : az_D K us dp pf x rt 0 := by
  have u := az_rootu t z
  exact ⟨u, Nat.zero_le _, az_un0 (t.1 rt u).2.2.2.1 hx, fun k hk _ => (az_rootk t hk).2.2⟩
theorem az_D_out (t : az_T K us dp pf ch rt) {x nd D r : Nat} (h : az_D K us dp pf x nd D) (hr : az_com (pf nd) x r) (hd : ¬ az_un (dp nd) (pf nd) x ∨ dp nd = 4) : az_sd K x r := by
  obtain ⟨u, h1, h2, h3⟩ := h
  have d4 := (t.1 nd u).2.2.1
  have hle : r ≤ dp nd := by
    rcases hd with z | z
    · exact Nat.le_of_lt (az_com_lt hr d4 z)
    · have := hr.1; omega
  obtain ⟨k, k1, k2⟩ := az_inh' t u
  refine ⟨hr.1, ⟨k, k1, az_un_trans (az_un_symm hr.2.1) (az_un_le hle d4 k2)⟩, fun r4 k' k3 k4 => ?_⟩
  have dr := az_com_ge hr (by omega) h2
  have e1 := h3 k' k3 (az_un_le (by omega) (by omega) k4)
  have rlt : r < dp nd := by
    rcases hd with z | z
    · exact az_com_lt hr d4 z
    · omega
  have e2 : az_un (r + 1) (pf nd) x := az_un_trans (az_un_le rlt d4 e1) (az_un_symm k4)
  have := az_com_ge hr (by omega) e2
  omega
theorem az_D_stop (t : az_T K us dp pf ch rt) {x nd D : Nat} (h : az_D K us dp pf x nd D) (hu : az_un (dp nd) (pf nd) x) (hc : dp nd < 4 → ch nd (az_dg x (dp nd)) = 0) : az_sd K x (dp nd) := by
  obtain ⟨u, h1, h2, h3⟩ := h
  have d4 := (t.1 nd u).2.2.1
  obtain ⟨k, k1, k2⟩ := az_inh' t u
  refine ⟨d4, ⟨k, k1, az_un_trans (az_un_symm hu) k2⟩, fun r4 k' k3 k4 => ?_⟩
  have e1 := h3 k' k3 (az_un_le (by omega) (by omega) k4)
  have e2 := t.2.2.2.1 nd k' u r4 k3 e1
  rw [az_un_dg (Nat.lt_succ_self (dp nd)) (by omega) k4] at e2
  exact e2.1 (hc r4)
theorem az_D_step (t : az_T K us dp pf ch rt) {x nd D : Nat} (h : az_D K us dp pf x nd D) (hu : az_un (dp nd) (pf nd) x) (hd : dp nd < 4) (hc : ch nd (az_dg x (dp nd)) ≠ 0) : az_D K us dp pf x (ch nd (az_dg x (dp nd))) (dp nd + 1) := by
  obtain ⟨u, h1, h2, h3⟩ := h
  have c := t.2.2.1 nd _ u hd (az_dg_lt x (dp nd)) hc
  refine ⟨c.1, c.2.1, ?_, fun k k1 k2 => ?_⟩
  · exact az_un_step hd (az_un_trans (az_un_symm c.2.2.1) hu) c.2.2.2.symm
  · have e1 := h3 k k1 (az_un_le (by omega) (by omega) k2)
    have e2 := t.2.2.2.1 nd k u hd k1 e1
    rw [az_un_dg (Nat.lt_succ_self (dp nd)) (by omega) k2] at e2
    exact e2.2
/-- the walk to the node over all keys that share d digits with x -/
def az_E (K : Nat → Prop) (us dp pf : Nat → Nat) (x d nd : Nat) : Prop := (nd = 0 ∨ us nd = 1) ∧ ∀ k, K k → az_un d x k → us nd = 1 ∧ az_un (dp nd) (pf nd) k
theorem az_E_0 (t : az_T K us dp pf ch rt) (x d : Nat) : az_E K us dp pf x d rt := by
  refine ⟨?_, fun k hk _ => (az_rootk t hk).2⟩
  by_cases z : rt = 0
  · exact Or.inl z
  · exact Or.inr (az_rootu t z)
theorem az_E_step (t : az_T K us dp pf ch rt) {x d nd : Nat} (h : az_E K us dp pf x d nd) (h0 : nd ≠ 0) (hd : dp nd < d) (h4 : d ≤ 4) : az_E K us dp pf x d (ch nd (az_dg x (dp nd))) := by
  have u : us nd = 1 := h.1.elim (fun z => absurd z h0) id
  refine ⟨?_, fun k k1 k2 => ?_⟩
  · by_cases z : ch nd (az_dg x (dp nd)) = 0
    · exact Or.inl z
    · exact Or.inr (t.2.2.1 nd _ u (by omega) (az_dg_lt x (dp nd)) z).1
  · have e1 := h.2 k k1 k2
    have e2 := t.2.2.2.1 nd k u (by omega) k1 e1.2
    rw [az_un_dg hd h4 k2] at e2
    exact ⟨(t.2.2.1 nd _ u (by omega) (az_dg_lt x (dp nd)) e2.1).1, e2.2⟩
theorem az_E_none (t : az_T (az_K m) us dp pf ch rt) {x d nd : Nat} (hd4 : d ≤ 4) (h : az_E (az_K m) us dp pf x d nd) (hz : nd = 0 ∨ (d ≤ dp nd ∧ ¬ az_un d x (pf nd))) : az_Q m (az_cut x d + az_w d) - az_Q m (az_cut x d) = 0 := by
  have e := az_Q_eq (m := m) (a := az_cut x d) (b := az_cut x d + az_w d) (by omega) (fun k k1 k2 k3 => by
    have hk : az_un d x k := az_un_trans (az_un_symm (az_cut_un x d)) ((az_un_iv hd4 (az_cut_al x d)).mpr ⟨k1, k2⟩)
    have e1 := h.2 k k3 hk
    have q := t.1 nd e1.1
    rcases hz with z | ⟨z1, z2⟩
    · omega
    · exact z2 (az_un_trans hk (az_un_symm (az_un_le z1 q.2.2.1 e1.2))))
  omega
theorem az_E_some (t : az_T (az_K m) us dp pf ch rt) {x d nd : Nat} (hd4 : d ≤ 4) (h : az_E (az_K m) us dp pf x d nd) (u : us nd = 1) (hd : d ≤ dp nd) (hu : az_un d x (pf nd)) : az_Q m (az_cut x d + az_w d) - az_Q m (az_cut x d) = az_Q m (pf nd + az_w (dp nd)) - az_Q m (pf nd) := by
  have q := t.1 nd u
  have iv := az_iv_in hd q.2.2.1 (az_cut_al x d) q.2.2.2.2 (az_un_trans (az_cut_un x d) hu)
  have wp := az_w_pos (dp nd)
  refine az_Q_shrink iv.1 (by omega) iv.2 (fun k k1 k2 k3 => ?_)
  have hk : az_un d x k := az_un_trans (az_un_symm (az_cut_un x d)) ((az_un_iv hd4 (az_cut_al x d)).mpr ⟨k1, k2⟩)
  exact (az_un_iv q.2.2.1 q.2.2.2.2).mp (h.2 k k3 hk).2
end
end
section
/-! answers of the two sides, as the content has them -/
def az_cl (z : Int) : Nat := if z < 0 then 0 else if 65536 ≤ z then 65536 else z.toNat
theorem az_cl_le (z : Int) : az_cl z ≤ 65536 := by
  unfold az_cl
  repeat' split
  all_goals omega
theorem az_cl_lt {z : Int} {k : Nat} (hk : k < 65536) : k < az_cl z ↔ (k : Int) < z := by
  unfold az_cl
  repeat' split
  all_goals omega
theorem az_cl_nat {z : Int} {k : Nat} (hz : z = k) (hk : k ≤ 65536) : az_cl z = k := by
  unfold az_cl
  repeat' split
  all_goals omega
theorem az_cl_neg {z : Int} (hz : z ≤ 0) : az_cl z = 0 := by
  unfold az_cl
  repeat' split
  all_goals omega
theorem az_cl_big {z : Int} (hz : 65536 ≤ z) : az_cl z = 65536 := by
  unfold az_cl
  repeat' split
  all_goals omega
/-- X's answer at a rank; the reference's -/
def az_rX (m : Nat → Option Int32) (z : Int) (r : Int32) : Prop := (r = -3 ∧ (z < 0 ∨ az_C m 65536 ≤ z)) ∨ ∃ k, r = nI k ∧ k < 65536 ∧ az_K m k ∧ az_C m k = z
def az_rY (m : Nat → Option Int32) (z : Int) (r : Int32) : Prop := (r = -3 ∧ ∀ k, k < 65536 → az_K m k → az_C m k ≠ z) ∨ ∃ k, r = nI k ∧ k < 65536 ∧ az_K m k ∧ az_C m k = z
def az_aY (m : Nat → Option Int32) (b : Int) (r : Int32) : Prop := (r = -3 ∧ ∀ k : Nat, k < 65536 → az_K m k → ¬ b < k) ∨ ∃ k : Nat, r = nI k ∧ k < 65536 ∧ az_K m k ∧ b < k ∧ ∀ k' : Nat, k' < 65536 → az_K m k' → b < k' → k ≤ k'
def az_bY (m : Nat → Option Int32) (b : Int) (r : Int32) : Prop := (r = -3 ∧ ∀ k : Nat, k < 65536 → az_K m k → ¬ (k : Int) < b) ∨ ∃ k : Nat, r = nI k ∧ k < 65536 ∧ az_K m k ∧ (k : Int) < b ∧ ∀ k' : Nat, k' < 65536 → az_K m k' → (k' : Int) < b → k' ≤ k
theorem az_r_eq {m : Nat → Option Int32} {z : Int} {r r' : Int32} (h : az_rX m z r) (h' : az_rY m z r') : r' = r := by
  rcases h with ⟨e, h1⟩ | ⟨k, e, k1, k2, k3⟩
  · rcases h' with ⟨e', _⟩ | ⟨k', e', k1', k2', k3'⟩
    · rw [e, e']
    · have a := az_C_gt (Nat.le_refl k') k1' k2'
      have b := az_C_nn m k'
      omega
  · rcases h' with ⟨e', h2⟩ | ⟨k', e', k1', k2', k3'⟩
    · exact absurd k3 (h2 k k1 k2)
    · rw [e, e', az_C_inj k2 k2' (by rw [k3, k3'])]
theorem az_a_eq {m : Nat → Option Int32} {b : Int} {r r' : Int32} (h : az_rX m (az_C m (az_cl (b + 1))) r) (h' : az_aY m b r') : r' = r := by
  have c1 := az_cl_le (b + 1)
  rcases h with ⟨e, h1⟩ | ⟨k, e, k1, k2, k3⟩
  · rcases h' with ⟨e', _⟩ | ⟨k', e', k1', k2', k3', _⟩
    · rw [e, e']
    · have a := az_C_nn m (az_cl (b + 1))
      have q : ¬ k' < az_cl (b + 1) := by rw [az_cl_lt k1']; omega
      have g := az_C_gt (a := az_cl (b + 1)) (by omega) k1' k2'
      omega
  · have q : ¬ k < az_cl (b + 1) := by
      intro w
      have := az_C_gt (Nat.le_refl k) w k2
      omega
    rw [az_cl_lt k1] at q
    rcases h' with ⟨e', h2⟩ | ⟨k', e', k1', k2', k3', k4'⟩
    · exact absurd (by omega) (h2 k k1 k2)
    · have q' : ¬ k' < az_cl (b + 1) := by rw [az_cl_lt k1']; omega
      have e2 : az_C m k' = az_C m (az_cl (b + 1)) := by
        refine az_C_eq (by omega) (fun j j1 j2 j3 => ?_)
        have w : ¬ j < az_cl (b + 1) := by omega
        rw [az_cl_lt (by omega)] at w
        have := k4' j (by omega) j3 (by omega)
        omega
      rw [e, e', az_C_inj k2 k2' (by rw [k3, e2])]
theorem az_b_eq {m : Nat → Option Int32} {b : Int} {r r' : Int32} (h : az_rX m (az_C m (az_cl b) - 1) r) (h' : az_bY m b r') : r' = r := by
  have c1 := az_cl_le b
  have mo := az_C_mono m c1
  rcases h with ⟨e, h1⟩ | ⟨k, e, k1, k2, k3⟩
  · rcases h' with ⟨e', _⟩ | ⟨k', e', k1', k2', k3', _⟩
    · rw [e, e']
    · have q : k' < az_cl b := by rw [az_cl_lt k1']; omega
      have g := az_C_gt (Nat.le_refl k') q k2'
      have nn := az_C_nn m k'
      omega
  · rcases h' with ⟨e', h2⟩ | ⟨k', e', k1', k2', k3', k4'⟩
    · have e2 : az_C m (az_cl b) = az_C m 0 := by
        refine az_C_eq (Nat.zero_le _) (fun j j1 j2 j3 => ?_)
        have w := j2
        rw [az_cl_lt (by omega)] at w
        exact h2 j (by omega) j3 w
      have e3 : az_C m 0 = 0 := rfl
      have nn := az_C_nn m k
      omega
    · have q : k' < az_cl b := by rw [az_cl_lt k1']; omega
      have e2 : az_C m (az_cl b) = az_C m (k' + 1) := by
        refine az_C_eq (by omega) (fun j j1 j2 j3 => ?_)
        have w := j2
        rw [az_cl_lt (by omega)] at w
        have := k4' j (by omega) j3 w
        omega
      rw [az_C_succ, az_c1_K k2'] at e2
      rw [e, e', az_C_inj k2 k2' (by omega)]
section
variable {m : Nat → Option Int32} {n : Nat} {ks : Nat → Nat} {vs : Nat → Int32}
theorem az_Y_range (h : az_Y m n ks vs) {lo hi : Int} (hle : lo ≤ hi) : az_S (fun i => if lo ≤ (ks i : Int) ∧ (ks i : Int) ≤ hi then 1 else 0) n = az_C m (az_cl (hi + 1)) - az_C m (az_cl lo) := by
  rw [← az_Y_rank h (az_cl_le (hi + 1)), ← az_Y_rank h (az_cl_le lo)]
  have e : az_S (fun i => (if lo ≤ (ks i : Int) ∧ (ks i : Int) ≤ hi then 1 else 0) + (if ks i < az_cl lo then 1 else 0)) n = az_S (fun i => if ks i < az_cl (hi + 1) then 1 else 0) n := by
    refine az_S_congr (fun i hi' => ?_)
    have b := (h.2.1 i hi').1
    have e1 := az_cl_lt (z := lo) b
    have e2 := az_cl_lt (z := hi + 1) b
    by_cases z1 : (ks i : Int) < lo
    · rw [if_neg (by omega), if_pos (e1.mpr z1), if_pos (e2.mpr (by omega))]; omega
    · by_cases z2 : (ks i : Int) < hi + 1
      · rw [if_pos (by omega), if_neg (fun w => z1 (e1.mp w)), if_pos (e2.mpr z2)]; omega
      · rw [if_neg (by omega), if_neg (fun w => z1 (e1.mp w)), if_neg (fun w => z2 (e2.mp w))]; omega
  rw [az_S_add (fun i => if lo ≤ (ks i : Int) ∧ (ks i : Int) ≤ hi then 1 else 0) (fun i => if ks i < az_cl lo then 1 else 0)] at e
  omega
theorem az_Y_under (h : az_Y m n ks vs) {x d : Nat} (hx : x < 65536) (hd : d ≤ 4) : az_S (fun i => if ks i / az_w d = x / az_w d then (vs i).toInt else 0) n = az_Q m (az_cut x d + az_w d) - az_Q m (az_cut x d) := by
  have e := az_Y_sum h (fun k v => if k / az_w d = x / az_w d then v.toInt else 0)
  rw [e]
  have al := az_cut_al x d
  have tp := az_top hd al (Nat.lt_of_le_of_lt (az_cut_le x d) hx)
  have iv : ∀ k, k / az_w d = x / az_w d ↔ az_cut x d ≤ k ∧ k < az_cut x d + az_w d := by
    intro k
    rw [← az_un_iv hd al]
    have u := az_cut_un x d
    unfold az_un at u ⊢
    rw [u]
  have s1 := az_S_shrink (f := az_G m (fun k v => if k / az_w d = x / az_w d then v.toInt else 0)) (a := 0) (p := az_cut x d) (q := az_cut x d + az_w d) (b := 65536) (Nat.zero_le _) (by omega) tp (fun i _ _ hi => by
    by_cases z : az_K m i
    · obtain ⟨v, hv⟩ := az_K_some z
      rw [az_G_some hv, if_neg (fun w => hi ((iv i).mp w))]
    · exact az_G_none (az_nK z))
  have s2 := az_S_seg (f := az_G m (fun k v => if k / az_w d = x / az_w d then v.toInt else 0)) (g := az_cq m) (a := az_cut x d) (b := az_cut x d + az_w d) (by omega) (fun i h1 h2 => by
    by_cases z : az_K m i
    · obtain ⟨v, hv⟩ := az_K_some z
      rw [az_G_some hv, az_cq_some hv, if_pos ((iv i).mpr ⟨h1, h2⟩)]
    · rw [az_G_none (az_nK z), az_cq_none (az_nK z)])
  rw [az_S_0] at s1
  unfold az_Q
  omega
end
/-- the content without the keys from lo to hi -/
def az_cutout (m : Nat → Option Int32) (lo hi : Nat) : Nat → Option Int32 := fun k => if lo ≤ k ∧ k ≤ hi then none else m k
/-- m' is m without some of the keys from lo to hi -/
def az_less (m m' : Nat → Option Int32) (lo hi : Nat) : Prop := ∀ k, m' k = m k ∨ (m' k = none ∧ lo ≤ k ∧ k ≤ hi)
theorem az_less_refl (m : Nat → Option Int32) (lo hi : Nat) : az_less m m lo hi := fun _ => Or.inl rfl
theorem az_less_take {m m' : Nat → Option Int32} {lo hi x : Nat} (h : az_less m m' lo hi) (h1 : lo ≤ x) (h2 : x ≤ hi) : az_less m (az_put m' x none) lo hi := by
  intro k
  by_cases z : k = x
  · rw [z, az_put_s]; exact Or.inr ⟨rfl, h1, h2⟩
  · rw [az_put_n z]; exact h k
theorem az_less_end {m m' : Nat → Option Int32} {lo hi : Nat} (h : az_less m m' lo hi) (h2 : ∀ k, lo ≤ k → k ≤ hi → ¬ az_K m' k) : m' = az_cutout m lo hi := by
  funext k
  unfold az_cutout
  by_cases z : lo ≤ k ∧ k ≤ hi
  · rw [if_pos z]; exact az_nK (h2 k z.1 z.2)
  · rw [if_neg z]
    rcases h k with w | w
    · exact w
    · exact absurd w.2 z
theorem az_C_cutout {m : Nat → Option Int32} {lo hi : Nat} (h1 : lo ≤ hi + 1) (h2 : hi + 1 ≤ 65536) : az_C (az_cutout m lo hi) 65536 = az_C m 65536 - (az_C m (hi + 1) - az_C m lo) := by
  have out : ∀ k, ¬ (lo ≤ k ∧ k ≤ hi) → az_c1 (az_cutout m lo hi) k = az_c1 m k := by
    intro k hk
    unfold az_c1 az_cutout
    rw [if_neg hk]
  have s1 := az_S_seg (f := az_c1 (az_cutout m lo hi)) (g := az_c1 m) (Nat.zero_le lo) (fun i _ hi' => out i (by omega))
  have s2 := az_S_seg (f := az_c1 (az_cutout m lo hi)) (g := az_c1 m) h2 (fun i hi' _ => out i (by omega))
  have s3 := az_S_zero (f := az_c1 (az_cutout m lo hi)) h1 (fun i i1 i2 => by
    refine az_c1_none ?_
    unfold az_cutout
    rw [if_pos ⟨i1, by omega⟩])
  rw [az_S_0, az_S_0] at s1
  unfold az_C
  omega
end
section
/-! adding on the path to a key: exactly the used nodes over it -/
def az_dn (us dp pf : Nat → Nat) (x D j : Nat) : Bool := az_on us dp pf x j && decide (dp j < D)
theorem az_dn_iff {us dp pf : Nat → Nat} {x D j : Nat} : az_dn us dp pf x D j = true ↔ (us j = 1 ∧ az_un (dp j) (pf j) x) ∧ dp j < D := by
  unfold az_dn
  rw [Bool.and_eq_true, az_on_iff, decide_eq_true_iff]
def az_av (a : Nat → Int32) (k : Int32) (B : Nat → Bool) : Nat → Int32 := fun j => if B j = true then a j + k else a j
def az_aL (a : Nat → Int64) (k : Int64) (B : Nat → Bool) : Nat → Int64 := fun j => if B j = true then a j + k else a j
theorem az_av_step {a : Nat → Int32} {k : Int32} {B B' : Nat → Bool} {n : Nat} (h : ∀ j, B' j = true ↔ (j = n ∨ B j = true)) (hn : ¬ B n = true) : upd (az_av a k B) n (az_av a k B n + k) = az_av a k B' := by
  funext j
  unfold az_av
  by_cases z : j = n
  · subst z
    rw [pk_us, if_neg hn, if_pos ((h j).mpr (Or.inl rfl))]
  · rw [pk_un z]
    by_cases y : B j = true
    · rw [if_pos y, if_pos ((h j).mpr (Or.inr y))]
    · rw [if_neg y, if_neg (fun w => ((h j).mp w).elim z y)]
theorem az_aL_step {a : Nat → Int64} {k : Int64} {B B' : Nat → Bool} {n : Nat} (h : ∀ j, B' j = true ↔ (j = n ∨ B j = true)) (hn : ¬ B n = true) : vp_updL (az_aL a k B) n (az_aL a k B n + k) = az_aL a k B' := by
  funext j
  unfold az_aL
  by_cases z : j = n
  · subst z
    rw [pk_uLs, if_neg hn, if_pos ((h j).mpr (Or.inl rfl))]
  · rw [pk_uLn z]
    by_cases y : B j = true
    · rw [if_pos y, if_pos ((h j).mpr (Or.inr y))]
    · rw [if_neg y, if_neg (fun w => ((h j).mp w).elim z y)]
theorem az_av_0 {a : Nat → Int32} {k : Int32} {B : Nat → Bool} (h : ∀ j, ¬ B j = true) : az_av a k B = a := funext fun j => if_neg (h j)
theorem az_aL_0 {a : Nat → Int64} {k : Int64} {B : Nat → Bool} (h : ∀ j, ¬ B j = true) : az_aL a k B = a := funext fun j => if_neg (h j)
theorem az_av_e {a : Nat → Int32} {k : Int32} {B B' : Nat → Bool} (h : ∀ j, B j = true ↔ B' j = true) : az_av a k B = az_av a k B' := by
  funext j
  unfold az_av
  by_cases y : B j = true
  · rw [if_pos y, if_pos ((h j).mp y)]
  · rw [if_neg y, if_neg (fun w => y ((h j).mpr w))]
theorem az_aL_e {a : Nat → Int64} {k : Int64} {B B' : Nat → Bool} (h : ∀ j, B j = true ↔ B' j = true) : az_aL a k B = az_aL a k B' := by
  funext j
  unfold az_aL
  by_cases y : B j = true
  · rw [if_pos y, if_pos ((h j).mp y)]
  · rw [if_neg y, if_neg (fun w => y ((h j).mpr w))]
section
variable {K : Nat → Prop} {us dp pf : Nat → Nat} {ch : Nat → Nat → Nat} {rt : Nat}
theorem az_dn_root (t : az_T K us dp pf ch rt) (x j : Nat) : ¬ az_dn us dp pf x (dp rt) j = true := by
  intro h
  have e := az_dn_iff.mp h
  have := (az_root t e.1.1).1
  omega
theorem az_dn_self (us dp pf : Nat → Nat) (x n : Nat) : ¬ az_dn us dp pf x (dp n) n = true := by
  intro h
  have e := (az_dn_iff.mp h).2
  omega
theorem az_dn_step (t : az_T K us dp pf ch rt) {x n : Nat} (u : us n = 1) (hu : az_un (dp n) (pf n) x) (hd : dp n < 4) (h0 : ch n (az_dg x (dp n)) ≠ 0) (j : Nat) : az_dn us dp pf x (dp (ch n (az_dg x (dp n)))) j = true ↔ (j = n ∨ az_dn us dp pf x (dp n) j = true) := by
  have c := t.2.2.1 n _ u hd (az_dg_lt x (dp n)) h0
  rw [az_dn_iff, az_dn_iff]
  refine ⟨fun h => ?_, fun h => ?_⟩
  · rcases Nat.lt_trichotomy (dp j) (dp n) with z | z | z
    · exact Or.inr ⟨h.1, z⟩
    · exact Or.inl (az_same t h.1.1 u h.1.2 hu z)
    · have q := az_path t u h.1.1 hu h.1.2 z
      have := h.2
      omega
  · rcases h with h | h
    · rw [h]; exact ⟨⟨u, hu⟩, c.2.1⟩
    · exact ⟨h.1, by omega⟩
theorem az_dn_last (t : az_T K us dp pf ch rt) {x n : Nat} (u : us n = 1) (hu : az_un (dp n) (pf n) x) (hd : dp n = 4) (j : Nat) : az_on us dp pf x j = true ↔ (j = n ∨ az_dn us dp pf x (dp n) j = true) := by
  rw [az_dn_iff, az_on_iff]
  refine ⟨fun h => ?_, fun h => ?_⟩
  · have q := (t.1 j h.1).2.2.1
    by_cases z : dp j = dp n
    · exact Or.inl (az_same t h.1 u h.2 hu z)
    · exact Or.inr ⟨h, by omega⟩
  · rcases h with h | h
    · rw [h]; exact ⟨u, hu⟩
    · exact h.1
end
/-! the arrays as numbers -/
theorem az_upd (f : Nat → Nat) (k v : Nat) : upd (fun i => nI (f i)) k (nI v) = fun i => nI (az_f f k v i) := by
  funext j
  by_cases z : j = k
  · rw [z, pk_us, az_f_s]
  · rw [pk_un z, az_f_n z]
theorem az_av_nat {f f' : Nat → Nat} {k : Int32} {B : Nat → Bool} (h1 : ∀ j, B j = true → nI (f j) + k = nI (f' j)) (h2 : ∀ j, ¬ B j = true → f' j = f j) : az_av (fun i => nI (f i)) k B = fun i => nI (f' i) := by
  funext j
  unfold az_av
  by_cases y : B j = true
  · rw [if_pos y]; exact h1 j y
  · rw [if_neg y, h2 j y]
theorem az_i64 (v : Int32) : v.toInt64 = Int64.ofInt v.toInt := by
  rw [← Int32.toInt_toInt64 v, Int64.ofInt_toInt]
theorem az_i32 (v : Int32) : (Int64.ofInt v.toInt).toInt32 = v := by
  rw [← az_i64]; exact Int32.toInt32_toInt64 v
end
section
/-! shifts and digits of keys, isKey, digitAt, firstDigits, digitsInCommon -/
def az_A (f : Nat → Nat) : Nat → Int32 := fun i => nI (f i)
theorem az_at' {f : Nat → Nat} {x : Int32} {i : Nat} (hx : x = nI i) (h : i < 2 ^ 31) : az_A f x.toNatClampNeg = nI (f i) := by
  unfold az_A; rw [hx, nI_clamp h]
theorem az_atL {f : Nat → Int64} {x : Int32} {i : Nat} (hx : x = nI i) (h : i < 2 ^ 31) : f x.toNatClampNeg = f i := by
  rw [hx, nI_clamp h]
theorem az_updA {f : Nat → Nat} {x : Int32} {y : Int32} {k v : Nat} (hx : x = nI k) (hk : k < 2 ^ 31) (hy : y = nI v) : upd (az_A f) x.toNatClampNeg y = az_A (az_f f k v) := by
  rw [hx, nI_clamp hk, hy]; exact az_upd f k v
theorem az_ne1 {k : Nat} (h : k < 2 ^ 31) : ¬ nI k = -1 := by
  intro e
  have e1 := congrArg Int32.toInt e
  rw [nI_toInt h, show (-1 : Int32).toInt = -1 from by decide] at e1
  omega
theorem az_ne3 {k : Nat} (h : k < 2 ^ 31) : ¬ nI k = -3 := by
  intro e
  have e1 := congrArg Int32.toInt e
  rw [nI_toInt h, show (-3 : Int32).toInt = -3 from by decide] at e1
  omega
theorem az_lt0 (x : Int32) : x < 0 ↔ x.toInt < 0 := by
  rw [Int32.lt_iff_toInt_lt, show (0 : Int32).toInt = 0 from by decide]
theorem az_le0 (x : Int32) : 0 ≤ x ↔ 0 ≤ x.toInt := by
  rw [Int32.le_iff_toInt_le, show (0 : Int32).toInt = 0 from by decide]
theorem az_nat (x : Int32) (h : 0 ≤ x.toInt) : ∃ j : Nat, j < 2 ^ 31 ∧ x = nI j ∧ x.toInt = j := by
  obtain ⟨j, hj, e⟩ := nI_of (x := x) (by rw [az_lt0]; omega)
  exact ⟨j, hj, e, by rw [e, nI_toInt hj]⟩
def az_nk (p : Int32) : Prop := p.toInt < 0 ∨ 65536 ≤ p.toInt
theorem az_nk_of {x : Nat} (h : x < 65536) : ¬ az_nk (nI x) := by
  unfold az_nk
  rw [nI_toInt (by omega)]
  omega
theorem az_isKey {post : Int32 → Prop} {p0 : Int32} (h1 : ∀ x, x < 65536 → p0 = nI x → post 1) (h0 : az_nk p0 → post 0) : wpX_isKey post p0 := by
  by_cases z : p0 < 0
  · exact br_t z (h0 (Or.inl ((az_lt0 p0).mp z)))
  · obtain ⟨j, hj, rfl⟩ := nI_of z
    refine br_f z (pk_lt 65535 j (fun h => h0 (Or.inr ?_)) (fun h => h1 j (by omega) rfl))
    rw [nI_toInt hj]; omega
theorem az_isKeyY {post : Int32 → Prop} {v : SY} {p0 : Int32} (h1 : ∀ x, x < 65536 → p0 = nI x → post 1) (h0 : az_nk p0 → post 0) : wpY_isKey post v p0 := by
  obtain ⟨a, b, c⟩ := v
  by_cases z : p0 < 0
  · exact br_t z (h0 (Or.inl ((az_lt0 p0).mp z)))
  · obtain ⟨j, hj, rfl⟩ := nI_of z
    refine br_f z (pk_lt 65535 j (fun h => h0 (Or.inr ?_)) (fun h => h1 j (by omega) rfl))
    rw [nI_toInt hj]; omega
theorem az_dgX {k d : Nat} (hk : k < 65536) (hd : d < 4) : ((nI k >>> ((16 - (4 * (nI d + 1))) &&& 31)) &&& 15) = nI (az_dg k d) := by
  rcases az_lt4 hd with rfl | rfl | rfl | rfl
  · rw [pk_shrN (by omega) _ 12 (by decide), pk_andN (by omega) 4 (by decide)]; rfl
  · rw [pk_shrN (by omega) _ 8 (by decide), pk_andN (by omega) 4 (by decide)]; rfl
  · rw [pk_shrN (by omega) _ 4 (by decide), pk_andN (by omega) 4 (by decide)]; rfl
  · rw [pk_shrN (by omega) _ 0 (by decide), pk_andN (by omega) 4 (by decide)]; rfl
theorem az_dgY {k d : Nat} (hk : k < 65536) (hd : d < 4) : ((nI k >>> ((12 - (4 * nI d)) &&& 31)) &&& 15) = nI (az_dg k d) := by
  rcases az_lt4 hd with rfl | rfl | rfl | rfl
  · rw [pk_shrN (by omega) _ 12 (by decide), pk_andN (by omega) 4 (by decide)]; rfl
  · rw [pk_shrN (by omega) _ 8 (by decide), pk_andN (by omega) 4 (by decide)]; rfl
  · rw [pk_shrN (by omega) _ 4 (by decide), pk_andN (by omega) 4 (by decide)]; rfl
  · rw [pk_shrN (by omega) _ 0 (by decide), pk_andN (by omega) 4 (by decide)]; rfl
theorem az_fdX {k d : Nat} (hk : k < 65536) (hd : d ≤ 4) : (nI k >>> ((16 - (4 * nI d)) &&& 31)) = nI (k / az_w d) := by
  rcases az_le4 hd with rfl | rfl | rfl | rfl | rfl
  · rw [pk_shrN (by omega) _ 16 (by decide)]; rfl
  · rw [pk_shrN (by omega) _ 12 (by decide)]; rfl
  · rw [pk_shrN (by omega) _ 8 (by decide)]; rfl
  · rw [pk_shrN (by omega) _ 4 (by decide)]; rfl
  · rw [pk_shrN (by omega) _ 0 (by decide)]; rfl
theorem az_cutX {k d : Nat} (hk : k < 65536) (hd : d ≤ 4) : (nI k >>> ((16 - (4 * nI d)) &&& 31)) <<< ((16 - (4 * nI d)) &&& 31) = nI (az_cut k d) := by
  rw [az_fdX hk hd]
  have e := az_cut_le k d
  unfold az_cut at e ⊢
  rcases az_le4 hd with rfl | rfl | rfl | rfl | rfl
  · rw [pk_shlN _ 16 (by decide) (by simp only [az_w0] at *; omega)]; rfl
  · rw [pk_shlN _ 12 (by decide) (by simp only [az_w1] at *; omega)]; rfl
  · rw [pk_shlN _ 8 (by decide) (by simp only [az_w2] at *; omega)]; rfl
  · rw [pk_shlN _ 4 (by decide) (by simp only [az_w3] at *; omega)]; rfl
  · rw [pk_shlN _ 0 (by decide) (by simp only [az_w4] at *; omega)]; rfl
theorem az_digitAt {post : Int32 → Prop} {x y : Int32} {k d : Nat} (hx : x = nI k) (hy : y = nI d) (hk : k < 65536) (hd : d < 4) (h : post (nI (az_dg k d))) : wpX_digitAt post x y := by
  subst hx hy
  unfold wpX_digitAt
  rw [az_dgX hk hd]
  exact h
theorem az_firstDigits {post : Int32 → Prop} {x y : Int32} {k d : Nat} (hx : x = nI k) (hy : y = nI d) (hk : k < 65536) (hd : d ≤ 4) (h : post (nI (k / az_w d))) : wpX_firstDigits post x y := by
  subst hx hy
  unfold wpX_firstDigits
  rw [az_fdX hk hd]
  exact h
theorem az_div_lt {k : Nat} (d : Nat) (hk : k < 65536) : k / az_w d < 2 ^ 31 := Nat.lt_of_le_of_lt (Nat.div_le_self _ _) (by omega)
theorem az_dg31 (k d : Nat) : az_dg k d < 2 ^ 31 := Nat.lt_trans (az_dg_lt k d) (by decide)
theorem az_common_loop {post : Int32 → Prop} {a b : Nat} (ha : a < 65536) (hb : b < 65536) (h : ∀ r, az_com a b r → post (nI r)) : ∀ d r, r + d = 4 → az_un r a b → wX_digitsInCommon_2 post (nI a) (nI b) (d + 1) (nI r) := by
  intro d
  induction d with
  | zero =>
    intro r hr hu
    have e : r = 4 := by omega
    subst e
    exact br_t (by decide) (h 4 ⟨Nat.le_refl 4, hu, fun z => by omega⟩)
  | succ d ih =>
    intro r hr hu
    refine pk_le 4 r (fun z => absurd z (by omega)) (fun _ => ?_)
    refine az_digitAt rfl rfl ha (by omega) ?_
    refine az_digitAt rfl rfl hb (by omega) ?_
    refine pk_eq (az_dg a r) (az_dg b r) (fun e => ?_) (fun e => h r ⟨by omega, hu, fun _ => e⟩) rfl rfl (az_dg31 a r) (az_dg31 b r)
    exact nm_r (nI_1 r) (ih (r + 1) (by omega) (az_un_step (by omega) hu e.symm))
theorem az_common {post : Int32 → Prop} {x y : Int32} {a b : Nat} (hx : x = nI a) (hy : y = nI b) (ha : a < 65536) (hb : b < 65536) (h : ∀ r, az_com a b r → post (nI r)) : wpX_digitsInCommon post x y := by
  subst hx hy
  exact ⟨5, az_common_loop ha hb h 4 0 rfl (az_un0 ha hb)⟩
end
section
/-! cellOf, childAt, childToward, isUnder, leafOf -/
section
variable {R : Int32} {U D P C T CC V TC F : Nat → Int32} {S : Nat → Int64} {us dp pf fn tb cd cc tu tc : Nat → Nat} {ch : Nat → Nat → Nat} {rt : Nat} {K : Nat → Prop}
theorem az_cellOf_loop {post : Int32 → Prop} {i c : Nat} (hi : i < 128) (hc : c < 16) (hf : fn i ≤ 4) (hcd : ∀ e, e < fn i → cd (i * 4 + e) < 16)
    (h1 : ∀ e, e < fn i → cd (i * 4 + e) = c → post (nI (i * 4 + e))) (h0 : (∀ e, e < fn i → cd (i * 4 + e) ≠ c) → post (-1)) :
    ∀ d e, e + d = fn i → (∀ e', e' < e → cd (i * 4 + e') ≠ c) → wX_cellOf_7 post (nI i) (nI c) (nI (i * 4)) R U D P C S (az_A fn) T (az_A cd) CC V TC (d + 1) (nI e) := by
  intro d
  induction d with
  | zero =>
    intro e he hn
    have ee : e = fn i := by omega
    subst ee
    have hz := h0 hn
    exact pk_le 4 (fn i) (fun _ => hz) (fun _ => ⟨vp_in_nI hi (by omega), pk_le (fn i) (fn i) (fun _ => hz) (fun z => absurd z (by omega)) (az_at' rfl (by omega)) rfl⟩)
  | succ d ih =>
    intro e he hn
    refine pk_le 4 e (fun z => absurd z (by omega)) (fun _ => ⟨vp_in_nI hi (by omega), pk_le (fn i) e (fun z => absurd z (by omega)) (fun _ => ⟨pk_in (i * 4 + e) 512 (by omega) (nI_add _ _), ?_⟩) (az_at' rfl (by omega)) rfl⟩)
    have hce := hcd e (by omega)
    refine pk_eq (cd (i * 4 + e)) c (fun z => ?_) (fun z => ?_) (az_at' (nI_add _ _) (by omega)) rfl
    · rw [nI_add]; exact h1 e (by omega) z
    · refine nm_r (nI_1 e) (ih (e + 1) (by omega) (fun e' he' => ?_))
      by_cases y : e' = e
      · rw [y]; exact z
      · exact hn e' (by omega)
theorem az_cellOf {post : Int32 → Prop} {x y : Int32} {i c : Nat} (hx : x = nI i) (hy : y = nI c) (hi : i < 128) (hc : c < 16) (hf : fn i ≤ 4) (hcd : ∀ e, e < fn i → cd (i * 4 + e) < 16)
    (h1 : ∀ e, e < fn i → cd (i * 4 + e) = c → post (nI (i * 4 + e))) (h0 : (∀ e, e < fn i → cd (i * 4 + e) ≠ c) → post (-1)) :
    wpX_cellOf post (R, U, D, P, C, S, az_A fn, T, az_A cd, CC, V, TC) x y := by
  subst hx hy
  exact nm_r (pk_mul i 4) ⟨fn i + 1, az_cellOf_loop hi hc hf hcd h1 h0 (fn i) 0 (by omega) (fun e' he' => absurd he' (Nat.not_lt_zero _))⟩
theorem az_childAt {post : Int32 → Prop} {x y : Int32} {i c : Nat} {h : Nat → Nat} (hx : x = nI i) (hy : y = nI c) (hL : az_ln i (fn i) (tb i) cd cc tu tc h) (hi : i < 128) (hc : c < 16) (hp : post (nI (h c))) :
    wpX_childAt post (R, U, D, P, C, S, az_A fn, az_A tb, az_A cd, az_A cc, V, az_A tc) x y := by
  subst hx hy
  rcases hL with ⟨t0, c1, c2, c3, c4⟩ | ⟨⟨t1, t2, t3, t4⟩, h5⟩
  · refine ⟨vp_in_nI hi (by omega), pk_eq (tb i) 0 (fun _ => ?_) (fun z => absurd t0 z) (az_at' rfl (by omega)) rfl⟩
    refine az_cellOf rfl rfl hi hc c1 (fun e he => (c2 e he).1) (fun e he hce => ?_) (fun hno => ?_)
    · refine br_f (az_ne1 (by omega)) ⟨vp_in_nI (by omega) (by omega), ?_⟩
      rw [az_at' rfl (by omega), ← (c2 e he).2.2, hce]
      exact hp
    · refine br_t rfl ?_
      have z : h c = 0 := by
        rcases Nat.eq_zero_or_pos (h c) with z | z
        · exact z
        · obtain ⟨e, he, hce⟩ := c4 c hc (by omega)
          exact absurd hce (hno e he)
      rw [z] at hp
      exact hp
  · have ix : az_A tb (nI i).toNatClampNeg * 16 + nI c = nI (tb i * 16 + c) := by
      rw [az_at' rfl (by omega), show nI (tb i) * 16 = nI (tb i * 16) from pk_mul (tb i) 16, nI_add]
    refine ⟨vp_in_nI hi (by omega), pk_eq (tb i) 0 (fun z => absurd z (by omega)) (fun _ => ⟨vp_in_nI hi (by omega), pk_in (tb i * 16 + c) 256 (by omega) ix, ?_⟩) (az_at' rfl (by omega)) rfl⟩
    rw [az_at' ix (by omega), t4 c hc]
    exact hp
theorem az_childToward {post : Int32 → Prop} {a b : Int32} {i x : Nat} {h : Nat → Nat} (ha : a = nI i) (hb : b = nI x) (hL : az_ln i (fn i) (tb i) cd cc tu tc h) (hi : i < 128) (hd : dp i ≤ 4) (hx : x < 65536)
    (h1 : dp i < 4 → post (nI (h (az_dg x (dp i))))) (h0 : dp i = 4 → post 0) :
    wpX_childToward post (R, U, az_A dp, P, C, S, az_A fn, az_A tb, az_A cd, az_A cc, V, az_A tc) a b := by
  subst ha hb
  refine ⟨vp_in_nI hi (by omega), pk_lt (dp i) 4 (fun z => ⟨vp_in_nI hi (by omega), ?_⟩) (fun z => h0 (by omega)) (az_at' rfl (by omega)) rfl⟩
  refine az_digitAt rfl (az_at' rfl (by omega)) hx z ?_
  exact az_childAt rfl rfl hL hi (az_dg_lt _ _) (h1 z)
theorem az_isUnder {post : Int32 → Prop} {a b : Int32} {i x : Nat} (ha : a = nI x) (hb : b = nI i) (hi : i < 128) (hd : dp i ≤ 4) (hx : x < 65536) (hp : pf i < 65536)
    (h1 : az_un (dp i) (pf i) x → post 1) (h0 : ¬ az_un (dp i) (pf i) x → post 0) :
    wpX_isUnder post (R, U, az_A dp, az_A pf, C, S, D, T, P, CC, V, TC) a b := by
  subst ha hb
  refine ⟨vp_in_nI hi (by omega), ?_⟩
  refine az_firstDigits rfl (az_at' rfl (by omega)) hx hd ?_
  refine ⟨vp_in_nI hi (by omega), vp_in_nI hi (by omega), ?_⟩
  refine az_firstDigits (az_at' rfl (by omega)) (az_at' rfl (by omega)) hp hd ?_
  exact pk_eq (x / az_w (dp i)) (pf i / az_w (dp i)) (fun z => h1 z) (fun z => h0 z) rfl rfl (az_div_lt _ hx) (az_div_lt _ hp)
theorem az_leafOf_end {post : Int32 → Prop} {x q : Nat} (t : az_T K us dp pf ch rt) (hx : x < 65536) (hq : q = 0 ∨ (us q = 1 ∧ dp q = 4)) (hk : K x → us q = 1 ∧ az_un (dp q) (pf q) x)
    (h1 : ∀ l, us l = 1 → dp l = 4 → pf l = x → post (nI l)) (h0 : ¬ K x → post 0) : wX_leafOf_39 post (nI x) (nI q) R U D (az_A pf) C S P T CC V TC F := by
  rcases hq with z | ⟨u, d4⟩
  · subst z
    have nk : ¬ K x := fun k => by have := (t.1 0 (hk k).1).1; omega
    exact ⟨vp_in_nI (by omega) (by omega), fun _ => h0 nk, fun _ => h0 nk⟩
  · have b := t.1 q u
    refine ⟨vp_in_nI b.2.1 (by omega), pk_eq (pf q) x (fun z => h1 q u d4 z) (fun z => h0 (fun k => z ?_)) (az_at' rfl (by omega)) rfl⟩
    have e := (hk k).2
    rw [d4] at e
    exact (az_un4.mp e).symm
theorem az_leafOf_loop {post : Int32 → Prop} {x : Nat} (t : az_T K us dp pf ch rt) (hL : az_L us fn tb cd cc tu tc ch) (hx : x < 65536)
    (h1 : ∀ l, us l = 1 → dp l = 4 → pf l = x → post (nI l)) (h0 : ¬ K x → post 0) :
    ∀ d lv q, lv + d = 4 → (q = 0 ∨ (us q = 1 ∧ lv ≤ dp q)) → (K x → us q = 1 ∧ az_un (dp q) (pf q) x) → wX_leafOf_7 post (nI x) R U (az_A dp) (az_A pf) C S (az_A fn) (az_A tb) (az_A cd) (az_A cc) V (az_A tc) (d + 1) (nI q) (nI lv) := by
  intro d
  induction d with
  | zero =>
    intro lv q hl hq hk
    refine pk_le 4 lv (fun _ => ?_) (fun z => absurd z (by omega))
    refine az_leafOf_end t hx ?_ hk h1 h0
    rcases hq with z | ⟨u, z⟩
    · exact Or.inl z
    · have := (t.1 q u).2.2.1
      exact Or.inr ⟨u, by omega⟩
  | succ d ih =>
    intro lv q hl hq hk
    have q128 : q < 128 := by
      rcases hq with z | ⟨u, z⟩
      · omega
      · exact (t.1 q u).2.1
    refine pk_le 4 lv (fun z => absurd z (by omega)) (fun _ => pk_eq q 0 (fun z => ?_) (fun z => ⟨vp_in_nI q128 (by omega), ?_⟩) rfl rfl)
    · exact az_leafOf_end t hx (Or.inl z) hk h1 h0
    · obtain ⟨u, hld⟩ : us q = 1 ∧ lv ≤ dp q := hq.elim (fun w => absurd w z) id
      have b := t.1 q u
      refine pk_le 4 (dp q) (fun y => ?_) (fun y => ?_) rfl (az_at' rfl (by omega))
      · exact az_leafOf_end t hx (Or.inr ⟨u, by omega⟩) hk h1 h0
      · refine az_childToward rfl rfl (hL.1 q u).2.2.2 q128 b.2.2.1 hx (fun _ => ?_) (fun w => by omega)
        refine nm_r (nI_1 lv) (ih (lv + 1) _ (by omega) ?_ ?_)
        · by_cases w : ch q (az_dg x (dp q)) = 0
          · exact Or.inl w
          · have c := t.2.2.1 q _ u y (az_dg_lt _ _) w
            exact Or.inr ⟨c.1, by omega⟩
        · intro k
          have e := t.2.2.2.1 q x u y k (hk k).2
          exact ⟨(t.2.2.1 q _ u y (az_dg_lt _ _) e.1).1, e.2⟩
theorem az_root_or (t : az_T K us dp pf ch rt) : rt = 0 ∨ (us rt = 1 ∧ 0 ≤ dp rt) := by
  by_cases z : rt = 0
  · exact Or.inl z
  · exact Or.inr ⟨az_rootu t z, Nat.zero_le _⟩
theorem az_leafOf {post : Int32 → Prop} {x : Nat} (t : az_T K us dp pf ch rt) (hL : az_L us fn tb cd cc tu tc ch) (hx : x < 65536)
    (h1 : ∀ l, us l = 1 → dp l = 4 → pf l = x → post (nI l)) (h0 : ¬ K x → post 0) :
    wpX_leafOf post (nI rt, U, az_A dp, az_A pf, C, S, az_A fn, az_A tb, az_A cd, az_A cc, V, az_A tc) (nI x) :=
  ⟨5, az_leafOf_loop t hL hx h1 h0 4 0 rt rfl (az_root_or t) (fun k => (az_rootk t k).2)⟩
end
end
section
/-! countBeforeChild, countBelow, countUpTo, leafAtRank, sharedDigits, sumUnder -/
section
variable {R : Int32} {U D P C T CC V TC F : Nat → Int32} {S : Nat → Int64} {m : Nat → Option Int32} {us dp pf ct fn tb cd cc tu tc : Nat → Nat} {sm : Nat → Int64} {ch : Nat → Nat → Nat} {rt : Nat} {K : Nat → Prop}
theorem az_cbc_loop {post : Int32 → Prop} {i en : Nat} (t : az_T (az_K m) us dp pf ch rt) (hn : az_N m us dp pf ct sm) (hL : az_L us fn tb cd cc tu tc ch) (u : us i = 1) (hd : dp i < 4) (he : en < 16)
    (h : ∀ tot : Nat, (tot : Int) = az_C m (pf i + en * az_w (dp i + 1)) - az_C m (pf i) → post (nI tot)) :
    ∀ d g (tot : Nat), g + d = en → (tot : Int) = az_C m (pf i + g * az_w (dp i + 1)) - az_C m (pf i) → wX_countBeforeChild_29 post (nI i) (nI en) R U D P (az_A ct) S (az_A fn) (az_A tb) (az_A cd) (az_A cc) V (az_A tc) (d + 1) (nI tot) (nI g) := by
  intro d
  induction d with
  | zero =>
    intro g tot hg ht
    have e : g = en := by omega
    subst e
    exact pk_le g g (fun _ => h tot ht) (fun z => absurd z (by omega))
  | succ d ih =>
    intro g tot hg ht
    have l := hL.1 i u
    have c8 := l.2.1 g
    refine pk_le en g (fun z => absurd z (by omega)) (fun _ => az_childAt rfl rfl l.2.2.2 l.1 (by omega) ⟨vp_in_nI c8 (by omega), nm_r (e' := nI (tot + ct (ch i g))) ?_ (nm_r (nI_1 g) (ih (g + 1) _ (by omega) ?_))⟩)
    · rw [az_at' rfl (by omega), nI_add]
    · have s := (az_sub t hn u hd (show g < 16 by omega)).1
      omega
theorem az_cbc {post : Int32 → Prop} {a b : Int32} {i x : Nat} (t : az_T (az_K m) us dp pf ch rt) (hn : az_N m us dp pf ct sm) (hL : az_L us fn tb cd cc tu tc ch) (u : us i = 1) (ha : a = nI i) (hb : b = nI x) (hx : x < 65536)
    (h : dp i < 4 → ∀ tot : Nat, (tot : Int) = az_C m (pf i + az_dg x (dp i) * az_w (dp i + 1)) - az_C m (pf i) → post (nI tot)) (h0 : dp i = 4 → post 0) :
    wpX_countBeforeChild post (R, U, az_A dp, P, az_A ct, S, az_A fn, az_A tb, az_A cd, az_A cc, V, az_A tc) a b := by
  subst ha hb
  have b := t.1 i u
  refine ⟨vp_in_nI b.2.1 (by omega), pk_lt (dp i) 4 (fun z => ⟨vp_in_nI b.2.1 (by omega), ?_⟩) (fun z => h0 (by omega)) (az_at' rfl (by omega)) rfl⟩
  refine az_digitAt rfl (az_at' rfl (by omega)) hx z ?_
  refine ⟨az_dg x (dp i) + 1, az_cbc_loop t hn hL u z (az_dg_lt _ _) (h z) (az_dg x (dp i)) 0 0 (by omega) ?_⟩
  rw [Nat.zero_mul, Nat.add_zero]
  omega
theorem az_cb_loop {post : Int32 → Prop} {x : Nat} (t : az_T (az_K m) us dp pf ch rt) (hn : az_N m us dp pf ct sm) (hL : az_L us fn tb cd cc tu tc ch) (hx : x < 65536)
    (h : ∀ c : Nat, (c : Int) = az_C m x → post (nI c)) :
    ∀ d lv q (tot : Nat), lv + d = 5 → (q ≠ 0 → lv ≤ dp q) → az_J m us dp pf x q tot → wX_countBelow_32 post (nI x) R U (az_A dp) (az_A pf) (az_A ct) S (az_A fn) (az_A tb) (az_A cd) (az_A cc) V (az_A tc) (d + 1) (nI tot) (nI q) (nI lv) := by
  intro d
  induction d with
  | zero =>
    intro lv q tot hl hq hJ
    refine pk_lt 4 lv (fun _ => ?_) (fun z => absurd z (by omega))
    rcases hJ with ⟨_, e⟩ | ⟨u, _⟩
    · exact h tot e
    · have b := t.1 q u
      have := hq (by omega)
      omega
  | succ d ih =>
    intro lv q tot hl hq hJ
    have q128 : q < 128 := by
      rcases hJ with ⟨z, _⟩ | ⟨u, _⟩
      · omega
      · exact (t.1 q u).2.1
    refine pk_lt 4 lv (fun z => absurd z (by omega)) (fun _ => pk_eq q 0 (fun z => ?_) (fun z => ?_) rfl rfl)
    · rcases hJ with ⟨_, e⟩ | ⟨u, _⟩
      · exact h tot e
      · have := (t.1 q u).1; omega
    · have u : us q = 1 := by
        rcases hJ with ⟨y, _⟩ | ⟨u, _⟩
        · exact absurd y z
        · exact u
      have b := t.1 q u
      have hlq := hq z
      refine az_isUnder rfl rfl q128 b.2.2.1 hx b.2.2.2.1 (fun hu => br_f (by decide) ?_) (fun hu => br_t rfl ⟨vp_in_nI q128 (by omega), ?_⟩)
      · refine az_cbc t hn hL u rfl rfl hx (fun hd c hc => ?_) (fun hd => ?_)
        · refine nm_r (nI_add _ _) (az_childToward rfl rfl (hL.1 q u).2.2.2 q128 b.2.2.1 hx (fun _ => nm_r (nI_1 lv) (ih (lv + 1) _ _ (by omega) ?_ ?_)) (fun w => by omega))
          · intro w
            have cc := t.2.2.1 q _ u hd (az_dg_lt _ _) w
            omega
          · have j := az_J_step t hJ z hu hd
            rw [show ((tot + c : Nat) : Int) = tot + (az_C m (pf q + az_dg x (dp q) * az_w (dp q + 1)) - az_C m (pf q)) by omega]
            exact j
        · refine nm_r (e' := nI tot) (Int32.add_zero _) (az_childToward rfl rfl (hL.1 q u).2.2.2 q128 b.2.2.1 hx (fun w => by omega) (fun _ => nm_r (nI_1 lv) (ih (lv + 1) 0 tot (by omega) (fun w => absurd rfl w) ?_)))
          exact Or.inl ⟨rfl, az_J_leaf t hJ z hu hd⟩
      · have o := az_J_out t hn hJ z hu
        refine pk_le x (pf q) (fun w => h tot (o.2 (by omega))) (fun w => ⟨vp_in_nI q128 (by omega), ?_⟩) rfl (az_at' rfl (by omega))
        rw [az_at' rfl (by omega), nI_add]
        exact h _ (by have := o.1 w; omega)
theorem az_rt128 (t : az_T K us dp pf ch rt) : rt < 128 := by
  by_cases z : rt = 0
  · omega
  · exact (t.1 rt (az_rootu t z)).2.1
theorem az_countBelow {post : Int32 → Prop} {b : Int32} (t : az_T (az_K m) us dp pf ch rt) (hn : az_N m us dp pf ct sm) (hL : az_L us fn tb cd cc tu tc ch)
    (h : ∀ c : Nat, (c : Int) = az_C m (az_cl b.toInt) → post (nI c)) :
    wpX_countBelow post (nI rt, U, az_A dp, az_A pf, az_A ct, S, az_A fn, az_A tb, az_A cd, az_A cc, V, az_A tc) b := by
  have r := az_rt128 t
  refine br_c (fun z => ?_) (fun z => ?_)
  · obtain ⟨x, hx, rfl, ex⟩ := az_nat b ((az_le0 b).mp z)
    rw [ex] at h
    refine pk_le x 65535 (fun y => ?_) (fun y => ⟨vp_in_nI r (by omega), ?_⟩)
    · rw [az_cl_nat rfl (by omega)] at h
      exact ⟨6, az_cb_loop t hn hL (by omega) h 5 0 rt 0 rfl (fun _ => Nat.zero_le _) (az_J_0 t x)⟩
    · rw [az_cl_big (by omega)] at h
      rw [az_at' rfl (by omega)]
      exact h _ (az_rootC t hn).1
  · rw [az_le0] at z
    rw [az_cl_neg (by omega)] at h
    exact h 0 rfl
theorem az_succ {b : Int32} (h : b.toInt < 65535) : (b + 1).toInt = b.toInt + 1 := by
  have h1 := Int32.le_toInt b
  rw [Int32.toInt_add, show (1 : Int32).toInt = 1 from by decide]
  exact Int.bmod_eq_of_le (by omega) (by omega)
theorem az_countUpTo {post : Int32 → Prop} {b : Int32} (t : az_T (az_K m) us dp pf ch rt) (hn : az_N m us dp pf ct sm) (hL : az_L us fn tb cd cc tu tc ch)
    (h : ∀ c : Nat, (c : Int) = az_C m (az_cl (b.toInt + 1)) → post (nI c)) :
    wpX_countUpTo post (nI rt, U, az_A dp, az_A pf, az_A ct, S, az_A fn, az_A tb, az_A cd, az_A cc, V, az_A tc) b := by
  have r := az_rt128 t
  have e : b < 65535 ↔ b.toInt < 65535 := by
    rw [Int32.lt_iff_toInt_lt, show (65535 : Int32).toInt = 65535 from by decide]
  refine br_c (fun z => ?_) (fun z => ⟨vp_in_nI r (by omega), ?_⟩)
  · refine az_countBelow t hn hL ?_
    rw [az_succ (e.mp z)]
    exact h
  · rw [e] at z
    rw [az_cl_big (by omega)] at h
    rw [az_at' rfl (by omega)]
    exact h _ (az_rootC t hn).1
theorem az_ct64 (t : az_T (az_K m) us dp pf ch rt) (hn : az_N m us dp pf ct sm) (hC : az_C m 65536 ≤ 64) {i : Nat} (h : i = 0 ∨ us i = 1) : ct i ≤ 64 := by
  rcases h with z | u
  · rw [z, hn.2.1]; omega
  · have b := t.1 i u
    have e := (hn.1 i u).1
    have a1 := az_C_mono m (az_top b.2.2.1 b.2.2.2.2 b.2.2.2.1)
    have a2 := az_C_nn m (pf i)
    omega
theorem az_ch_or (t : az_T K us dp pf ch rt) {i c : Nat} (u : us i = 1) (hd : dp i < 4) (hc : c < 16) : ch i c = 0 ∨ us (ch i c) = 1 := by
  by_cases z : ch i c = 0
  · exact Or.inl z
  · exact Or.inr (t.2.2.1 i c u hd hc z).1
theorem az_lar_in {post : Int32 → Prop} {J : Int32 → Int32 → Int32 → Prop} {rank : Int} {q lv : Nat} (t : az_T (az_K m) us dp pf ch rt) (hn : az_N m us dp pf ct sm) (hL : az_L us fn tb cd cc tu tc ch) (hC : az_C m 65536 ≤ 64) (u : us q = 1) (hd : dp q < 4)
    (hJ : ∀ c left, c < 16 → az_R m us pf ct rank (ch q c) left → dp q < dp (ch q c) → J (nI (ch q c)) (nI left) (nI (lv + 1))) :
    ∀ d c left, c + d = 15 → az_Rc m dp pf rank q c left → wX_leafAtRank_37 post J (nI q) (nI lv) R U D P (az_A ct) S (az_A fn) (az_A tb) (az_A cd) (az_A cc) V (az_A tc) (d + 1) (nI left) (nI (ch q c)) (nI (c + 1)) := by
  intro d
  induction d with
  | zero =>
    intro c left hc hR
    have e : c = 15 := by omega
    subst e
    refine pk_le 16 16 (fun _ => nm_r (nI_1 lv) ?_) (fun z => absurd z (by omega))
    have s := az_Rc_stop t hn u hd (by omega) hR (Or.inl rfl)
    exact hJ 15 left (by omega) s.1 s.2
  | succ d ih =>
    intro c left hc hR
    have l := hL.1 q u
    have c8 := l.2.1 c
    have b := t.1 q u
    have cb := az_ct64 t hn hC (az_ch_or t u hd (show c < 16 by omega))
    have lb : left ≤ 64 := by
      have a1 := az_C_mono m (az_top b.2.2.1 b.2.2.2.2 b.2.2.2.1)
      have a2 := az_C_nn m (pf q + c * az_w (dp q + 1))
      have a3 := hR.1
      have a4 := hR.2
      omega
    refine pk_le 16 (c + 1) (fun z => absurd z (by omega)) (fun _ => ⟨vp_in_nI c8 (by omega), pk_lt left (ct (ch q c)) (fun z => nm_r (nI_1 lv) ?_) (fun z => ⟨vp_in_nI c8 (by omega), nm_r (e' := nI (left - ct (ch q c))) ?_ ?_⟩) rfl (az_at' rfl (by omega))⟩)
    · have s := az_Rc_stop t hn u hd (by omega) hR (Or.inr z)
      exact hJ c left (by omega) s.1 s.2
    · rw [az_at' rfl (by omega)]; exact pk_sub z
    · exact az_childAt rfl rfl l.2.2.2 l.1 (by omega) (nm_r (nI_1 (c + 1)) (ih (c + 1) _ (by omega) (az_Rc_next t hn u hd (by omega) hR z)))
theorem az_lar_loop {post : Int32 → Prop} {rank : Int} (t : az_T (az_K m) us dp pf ch rt) (hn : az_N m us dp pf ct sm) (hL : az_L us fn tb cd cc tu tc ch) (hC : az_C m 65536 ≤ 64)
    (h : ∀ l, us l = 1 → dp l = 4 → az_K m (pf l) → az_C m (pf l) = rank → post (nI l)) :
    ∀ d lv q left, lv + d = 4 → lv ≤ dp q → az_R m us pf ct rank q left → wX_leafAtRank_10 post R U (az_A dp) P (az_A ct) S (az_A fn) (az_A tb) (az_A cd) (az_A cc) V (az_A tc) (d + 1) (nI q) (nI left) (nI lv) := by
  intro d
  induction d with
  | zero =>
    intro lv q left hl hq hR
    have b := t.1 q hR.1
    have d4 : dp q = 4 := by omega
    have e := az_R_leaf t hn hR d4
    exact pk_le 4 lv (fun _ => h q hR.1 d4 e.1 e.2) (fun z => absurd z (by omega))
  | succ d ih =>
    intro lv q left hl hq hR
    have u := hR.1
    have b := t.1 q u
    have l := hL.1 q u
    refine pk_le 4 lv (fun z => absurd z (by omega)) (fun _ => ⟨vp_in_nI b.2.1 (by omega), pk_le 4 (dp q) (fun z => ?_) (fun z => ?_) rfl (az_at' rfl (by omega))⟩)
    · have d4 : dp q = 4 := by omega
      have e := az_R_leaf t hn hR d4
      exact h q u d4 e.1 e.2
    · refine az_childAt rfl (c := 0) rfl l.2.2.2 l.1 (by omega) ⟨16, ?_⟩
      exact az_lar_in t hn hL hC u z (fun c left' hc hR' hd' => ih (lv + 1) _ _ (by omega) (by omega) hR') 15 0 left (by omega) (az_Rc_0 hn hR)
theorem az_leafAtRank {post : Int32 → Prop} {b : Int32} {rank : Nat} (t : az_T (az_K m) us dp pf ch rt) (hn : az_N m us dp pf ct sm) (hL : az_L us fn tb cd cc tu tc ch) (hC : az_C m 65536 ≤ 64) (hb : b = nI rank) (hr : (rank : Int) < az_C m 65536)
    (h : ∀ l, us l = 1 → dp l = 4 → az_K m (pf l) → az_C m (pf l) = rank → post (nI l)) :
    wpX_leafAtRank post (nI rt, U, az_A dp, P, az_A ct, S, az_A fn, az_A tb, az_A cd, az_A cc, V, az_A tc) b := by
  subst hb
  exact ⟨5, az_lar_loop t hn hL hC h 4 0 rt rank rfl (Nat.zero_le _) (az_R_0 t hn hr)⟩
theorem az_sd_loop {post : Int32 → Prop} {x : Nat} (t : az_T K us dp pf ch rt) (hL : az_L us fn tb cd cc tu tc ch) (hx : x < 65536) (h : ∀ r, az_sd K x r → post (nI r)) :
    ∀ d lv q dd, lv + d = 4 → lv ≤ dp q → az_D K us dp pf x q dd → wX_sharedDigits_26 post (nI x) R U (az_A dp) (az_A pf) C S (az_A fn) (az_A tb) (az_A cd) (az_A cc) V (az_A tc) (d + 1) (nI q) (nI lv) := by
  intro d
  induction d with
  | zero =>
    intro lv q dd hl hq hD
    have b := t.1 q hD.1
    refine pk_le 4 lv (fun _ => ⟨vp_in_nI b.2.1 (by omega), az_common (az_at' rfl (by omega)) rfl b.2.2.2.1 hx (fun r hr => h r (az_D_out t hD hr (Or.inr (by omega))))⟩) (fun z => absurd z (by omega))
  | succ d ih =>
    intro lv q dd hl hq hD
    have u := hD.1
    have b := t.1 q u
    refine pk_le 4 lv (fun z => absurd z (by omega)) (fun _ => az_isUnder rfl rfl b.2.1 b.2.2.1 hx b.2.2.2.1 (fun hu => br_f (by decide) ?_) (fun hu => br_t rfl ?_))
    · refine az_childToward rfl rfl (hL.1 q u).2.2.2 b.2.1 b.2.2.1 hx (fun hd => ?_) (fun hd => br_t rfl ⟨vp_in_nI b.2.1 (by omega), ?_⟩)
      · have c8 := (hL.1 q u).2.1 (az_dg x (dp q))
        refine pk_eq (ch q (az_dg x (dp q))) 0 (fun z => ⟨vp_in_nI b.2.1 (by omega), ?_⟩) (fun z => ?_) rfl rfl
        · rw [az_at' rfl (by omega)]
          exact h _ (az_D_stop t hD hu (fun _ => z))
        · have c := t.2.2.1 q _ u hd (az_dg_lt _ _) z
          exact nm_r (nI_1 lv) (ih (lv + 1) _ _ (by omega) (by omega) (az_D_step t hD hu hd z))
      · rw [az_at' rfl (by omega)]
        exact h _ (az_D_stop t hD hu (fun w => by omega))
    · exact ⟨vp_in_nI b.2.1 (by omega), az_common (az_at' rfl (by omega)) rfl b.2.2.2.1 hx (fun r hr => h r (az_D_out t hD hr (Or.inl hu)))⟩
theorem az_su_end {post : Int64 → Prop} {x d q : Nat} (t : az_T (az_K m) us dp pf ch rt) (hn : az_N m us dp pf ct sm) (hx : x < 65536) (hd : d ≤ 4) (hE : az_E (az_K m) us dp pf x d q) (hq : q = 0 ∨ d ≤ dp q)
    (h : post (Int64.ofInt (az_Q m (az_cut x d + az_w d) - az_Q m (az_cut x d)))) : wX_sumUnder_59 post (nI x) (nI d) (nI q) R U D (az_A pf) C sm P T CC V TC F := by
  by_cases z : q = 0
  · rw [az_E_none t hd hE (Or.inl z)] at h
    subst z
    have e : sm (nI 0).toNatClampNeg = 0 := by rw [nI_clamp (by omega)]; exact hn.2.2
    exact ⟨vp_in_nI (by omega) (by omega), fun _ => ⟨vp_in_nI (by omega) (by omega), by rw [e]; exact h⟩, fun _ => h⟩
  · have u : us q = 1 := hE.1.elim (fun w => absurd w z) id
    have hdq : d ≤ dp q := hq.elim (fun w => absurd w z) id
    have b := t.1 q u
    refine ⟨vp_in_nI b.2.1 (by omega), az_firstDigits (az_at' rfl (by omega)) rfl b.2.2.2.1 hd (az_firstDigits rfl rfl hx hd ?_)⟩
    refine pk_eq (pf q / az_w d) (x / az_w d) (fun w => ⟨vp_in_nI b.2.1 (by omega), ?_⟩) (fun w => ?_) rfl rfl (az_div_lt _ b.2.2.2.1) (az_div_lt _ hx)
    · rw [az_E_some t hd hE u hdq w, ← (hn.1 q u).2] at h
      rw [nI_clamp (by omega)]
      exact h
    · rw [az_E_none t hd hE (Or.inr ⟨hdq, w⟩)] at h
      exact h
theorem az_su_loop {post : Int64 → Prop} {x d : Nat} (t : az_T (az_K m) us dp pf ch rt) (hn : az_N m us dp pf ct sm) (hL : az_L us fn tb cd cc tu tc ch) (hx : x < 65536) (hd : d ≤ 4)
    (h : post (Int64.ofInt (az_Q m (az_cut x d + az_w d) - az_Q m (az_cut x d)))) :
    ∀ g lv q, lv + g = 4 → (q ≠ 0 → lv ≤ dp q) → az_E (az_K m) us dp pf x d q → wX_sumUnder_26 post (nI x) (nI d) R U (az_A dp) (az_A pf) C sm (az_A fn) (az_A tb) (az_A cd) (az_A cc) V (az_A tc) (g + 1) (nI q) (nI lv) := by
  intro g
  induction g with
  | zero =>
    intro lv q hl hq hE
    refine pk_le 4 lv (fun _ => az_su_end t hn hx hd hE ?_ h) (fun z => absurd z (by omega))
    by_cases z : q = 0
    · exact Or.inl z
    · have := hq z
      exact Or.inr (by omega)
  | succ g ih =>
    intro lv q hl hq hE
    have q128 : q < 128 := by
      rcases hE.1 with z | u
      · omega
      · exact (t.1 q u).2.1
    refine pk_le 4 lv (fun z => absurd z (by omega)) (fun _ => pk_eq q 0 (fun z => az_su_end t hn hx hd hE (Or.inl z) h) (fun z => ⟨vp_in_nI q128 (by omega), ?_⟩) rfl rfl)
    have u : us q = 1 := hE.1.elim (fun w => absurd w z) id
    have b := t.1 q u
    have hlq := hq z
    refine pk_le d (dp q) (fun y => az_su_end t hn hx hd hE (Or.inr y) h) (fun y => ?_) rfl (az_at' rfl (by omega))
    refine az_childToward rfl rfl (hL.1 q u).2.2.2 q128 b.2.2.1 hx (fun w => nm_r (nI_1 lv) (ih (lv + 1) _ (by omega) ?_ (az_E_step t hE z y hd))) (fun w => by omega)
    intro v
    have c := t.2.2.1 q _ u w (az_dg_lt _ _) v
    omega
end
end
section
/-! addOnPath, unusedNode, newNode, unusedTable, moveToTable -/
theorem az_b1 : vp_nar .boolean 1 = nI 1 := by rfl
theorem az_b0 : vp_nar .boolean 0 = nI 0 := by rfl
section
variable {R : Int32} {U D P C T CC V TC F : Nat → Int32} {S : Nat → Int64} {m : Nat → Option Int32} {us dp pf ct fn tb cd cc tu tc : Nat → Nat} {sm : Nat → Int64} {ch : Nat → Nat → Nat} {rt : Nat} {K : Nat → Prop}
theorem az_aop_loop {post : SX → Prop} {x : Nat} {a : Nat → Int32} {s : Nat → Int64} {k : Int32} {w : Int64} (t : az_T K us dp pf ch rt) (hL : az_L us fn tb cd cc tu tc ch) (hx : x < 65536) (kx : K x)
    (h : post (R, U, az_A dp, P, az_av a k (az_on us dp pf x), az_aL s w (az_on us dp pf x), az_A fn, az_A tb, az_A cd, az_A cc, V, az_A tc)) :
    ∀ d lv q (B : Nat → Bool), lv + d = 5 → ((q = 0 ∧ ∀ j, B j = true ↔ az_on us dp pf x j = true) ∨ (us q = 1 ∧ lv ≤ dp q ∧ az_un (dp q) (pf q) x ∧ ∀ j, B j = true ↔ az_dn us dp pf x (dp q) j = true)) →
      wX_addOnPath_9 post (nI x) k w R (d + 1) (nI q) (nI lv) U (az_A dp) P (az_av a k B) (az_aL s w B) (az_A fn) (az_A tb) (az_A cd) (az_A cc) V (az_A tc) := by
  intro d
  induction d with
  | zero =>
    intro lv q B hl hq
    refine pk_lt 4 lv (fun _ => ?_) (fun z => absurd z (by omega))
    rcases hq with ⟨_, hB⟩ | ⟨u, hlq, _⟩
    · rw [az_av_e hB, az_aL_e hB]; exact h
    · have := (t.1 q u).2.2.1; omega
  | succ d ih =>
    intro lv q B hl hq
    have q128 : q < 128 := by
      rcases hq with ⟨z, _⟩ | ⟨u, _⟩
      · omega
      · exact (t.1 q u).2.1
    refine pk_lt 4 lv (fun z => absurd z (by omega)) (fun _ => pk_eq q 0 (fun z => ?_) (fun z => ?_) rfl rfl)
    · rcases hq with ⟨_, hB⟩ | ⟨u, _⟩
      · rw [az_av_e hB, az_aL_e hB]; exact h
      · have := (t.1 q u).1; omega
    · obtain ⟨u, hlq, hu, hB⟩ : us q = 1 ∧ lv ≤ dp q ∧ az_un (dp q) (pf q) x ∧ ∀ j, B j = true ↔ az_dn us dp pf x (dp q) j = true := hq.elim (fun y => absurd y.1 z) id
      have b := t.1 q u
      have hs : ∀ j, (decide (j = q) || B j) = true ↔ (j = q ∨ B j = true) := by
        intro j
        rw [Bool.or_eq_true, decide_eq_true_iff]
      have hnq : ¬ B q = true := fun y => az_dn_self us dp pf x q ((hB q).mp y)
      refine ⟨vp_in_nI q128 (by omega), vp_in_nI q128 (by omega), nm_r (e' := az_av a k (fun j => decide (j = q) || B j)) ?_ ⟨vp_in_nI q128 (by omega), vp_in_nI q128 (by omega), nm_r (e' := az_aL s w (fun j => decide (j = q) || B j)) ?_ ?_⟩⟩
      · rw [nI_clamp (by omega)]; exact az_av_step hs hnq
      · rw [nI_clamp (by omega)]; exact az_aL_step hs hnq
      · refine az_childToward rfl rfl (hL.1 q u).2.2.2 q128 b.2.2.1 hx (fun hd => nm_r (nI_1 lv) (ih (lv + 1) _ _ (by omega) (Or.inr ?_))) (fun hd => nm_r (nI_1 lv) (ih (lv + 1) 0 _ (by omega) (Or.inl ⟨rfl, fun j => ?_⟩)))
        · have e := t.2.2.2.1 q x u hd kx hu
          have c := t.2.2.1 q _ u hd (az_dg_lt _ _) e.1
          refine ⟨c.1, by omega, e.2, fun j => ?_⟩
          rw [hs j, hB j, az_dn_step t u hu hd e.1 j]
        · rw [hs j, hB j, az_dn_last t u hu hd j]
theorem az_addOnPath {post : SX → Prop} {x : Nat} {p : Int32} {a : Nat → Int32} {s : Nat → Int64} {k : Int32} {w : Int64} (t : az_T K us dp pf ch rt) (hL : az_L us fn tb cd cc tu tc ch) (hx : x < 65536) (kx : K x) (hp : p = nI x)
    (h : post (nI rt, U, az_A dp, P, az_av a k (az_on us dp pf x), az_aL s w (az_on us dp pf x), az_A fn, az_A tb, az_A cd, az_A cc, V, az_A tc)) :
    wpX_addOnPath post (nI rt, U, az_A dp, P, a, s, az_A fn, az_A tb, az_A cd, az_A cc, V, az_A tc) p k w := by
  subst hp
  have r := az_rootk t kx
  have e := az_aop_loop (R := nI rt) (U := U) (P := P) (V := V) t hL hx kx h 5 0 rt (az_dn us dp pf x (dp rt)) rfl (Or.inr ⟨r.2.1, Nat.zero_le _, r.2.2, fun j => Iff.rfl⟩)
  rw [az_av_0 (az_dn_root t x), az_aL_0 (az_dn_root t x)] at e
  exact ⟨6, e⟩
theorem az_un_loop {post : Int32 → Prop} (hu : ∀ i, us i ≤ 1) (hex : ∃ j, 1 ≤ j ∧ j < 128 ∧ us j = 0) (h : ∀ j, 1 ≤ j → j < 128 → us j = 0 → post (nI j)) :
    ∀ d i, i + d = 128 → 1 ≤ i → (∀ i', 1 ≤ i' → i' < i → us i' ≠ 0) → wX_unusedNode_2 post R (az_A us) D P C S F T CC V TC U (d + 1) (nI i) := by
  intro d
  induction d with
  | zero =>
    intro i hi h1 hno
    obtain ⟨j, j1, j2, j3⟩ := hex
    exact absurd j3 (hno j j1 (by omega))
  | succ d ih =>
    intro i hi h1 hno
    have u := hu i
    refine pk_le 128 i (fun z => absurd z (by omega)) (fun _ => ⟨vp_in_nI (by omega) (by omega), pk_eq (us i) 0 (fun z => h i h1 (by omega) z) (fun z => nm_r (nI_1 i) (ih (i + 1) (by omega) (by omega) (fun i' a b => ?_))) (az_at' rfl (by omega)) rfl⟩)
    by_cases y : i' = i
    · rw [y]; exact z
    · exact hno i' a (by omega)
theorem az_unusedNode {post : Int32 → Prop} (hu : ∀ i, us i ≤ 1) (hex : ∃ j, 1 ≤ j ∧ j < 128 ∧ us j = 0) (h : ∀ j, 1 ≤ j → j < 128 → us j = 0 → post (nI j)) :
    wpX_unusedNode post (R, az_A us, D, P, C, S, F, T, CC, V, TC, U) :=
  ⟨128, az_un_loop hu hex h 127 1 rfl (Nat.le_refl 1) (fun i' a b => by omega)⟩
theorem az_newNode {post : Int32 → SX → Prop} {p0 p1 : Int32} {x d : Nat} (hp0 : p0 = nI x) (hp1 : p1 = nI d) (hx : x < 65536) (hd : d ≤ 4) (hu : ∀ i, us i ≤ 1) (hex : ∃ j, 1 ≤ j ∧ j < 128 ∧ us j = 0)
    (h : ∀ j, 1 ≤ j → j < 128 → us j = 0 → post (nI j) (R, az_A (az_f us j 1), az_A (az_f dp j d), az_A (az_f pf j (az_cut x d)), az_A (az_f ct j 0), vp_updL sm j 0, az_A (az_f fn j 0), az_A (az_f tb j 0), CC, V, TC, U)) :
    wpX_newNode post (R, az_A us, az_A dp, az_A pf, az_A ct, sm, az_A fn, az_A tb, CC, V, TC, U) p0 p1 := by
  subst hp0 hp1
  refine az_unusedNode hu hex (fun j j1 j2 j3 => ?_)
  have i8 : vp_in (nI j) 128 := vp_in_nI j2 (by omega)
  refine nm_e ⟨i8, nm_r (az_updA rfl (by omega) az_b1) ⟨i8, nm_r (az_updA rfl (by omega) rfl) ⟨i8, nm_r (az_updA rfl (by omega) (az_cutX hx hd)) ⟨i8, nm_r (az_updA (v := 0) rfl (by omega) rfl) ⟨i8, nm_r (e' := vp_updL sm j 0) ?_ ⟨i8, nm_r (az_updA (v := 0) rfl (by omega) rfl) ⟨i8, nm_r (az_updA (v := 0) rfl (by omega) rfl) (h j j1 j2 j3)⟩⟩⟩⟩⟩⟩⟩
  rw [nI_clamp (by omega)]
theorem az_ut_loop {post : Int32 → Prop} (hu : ∀ i, tu i ≤ 1) (hex : ∃ j, 1 ≤ j ∧ j < 16 ∧ tu j = 0) (h : ∀ j, 1 ≤ j → j < 16 → tu j = 0 → post (nI j)) :
    ∀ d i, i + d = 16 → 1 ≤ i → (∀ i', 1 ≤ i' → i' < i → tu i' ≠ 0) → wX_unusedTable_2 post R U D P C S F T CC V (az_A tu) TC (d + 1) (nI i) := by
  intro d
  induction d with
  | zero =>
    intro i hi h1 hno
    obtain ⟨j, j1, j2, j3⟩ := hex
    exact absurd j3 (hno j j1 (by omega))
  | succ d ih =>
    intro i hi h1 hno
    have u := hu i
    refine pk_le 16 i (fun z => absurd z (by omega)) (fun _ => ⟨vp_in_nI (by omega) (by omega), pk_eq (tu i) 0 (fun z => h i h1 (by omega) z) (fun z => nm_r (nI_1 i) (ih (i + 1) (by omega) (by omega) (fun i' a b => ?_))) (az_at' rfl (by omega)) rfl⟩)
    by_cases y : i' = i
    · rw [y]; exact z
    · exact hno i' a (by omega)
theorem az_unusedTable {post : Int32 → Prop} (hu : ∀ i, tu i ≤ 1) (hex : ∃ j, 1 ≤ j ∧ j < 16 ∧ tu j = 0) (h : ∀ j, 1 ≤ j → j < 16 → tu j = 0 → post (nI j)) :
    wpX_unusedTable post (R, U, D, P, C, S, F, T, CC, V, az_A tu, TC) :=
  ⟨16, az_ut_loop hu hex h 15 1 rfl (Nat.le_refl 1) (fun i' a b => by omega)⟩
theorem az_mt2_loop {post : SX → Prop} {i t : Nat} (hi : i < 128) (t2 : t < 16) (hc : ∀ e, e < 4 → cd (i * 4 + e) < 16) (hdist : ∀ e e', e < 4 → e' < 4 → cd (i * 4 + e) = cd (i * 4 + e') → e = e')
    (h : ∀ tc' : Nat → Nat, (∀ j, (j < t * 16 ∨ t * 16 + 16 ≤ j) → tc' j = tc j) → (∀ c, c < 16 → (∀ e, e < 4 → cd (i * 4 + e) ≠ c) → tc' (t * 16 + c) = 0) → (∀ e, e < 4 → tc' (t * 16 + cd (i * 4 + e)) = cc (i * 4 + e)) → post (R, U, D, P, C, S, F, az_A (az_f tb i t), az_A cd, az_A cc, V, az_A tc')) :
    ∀ d e (tcx : Nat → Nat), e + d = 4 → (∀ j, (j < t * 16 ∨ t * 16 + 16 ≤ j) → tcx j = tc j) → (∀ c, c < 16 → (∀ e', e' < e → cd (i * 4 + e') ≠ c) → tcx (t * 16 + c) = 0) → (∀ e', e' < e → tcx (t * 16 + cd (i * 4 + e')) = cc (i * 4 + e')) →
      wX_moveToTable_51 post (nI i) (nI t) (nI (t * 16)) (nI (i * 4)) R (d + 1) (nI e) U D P C S F (az_A tb) (az_A cd) (az_A cc) V (az_A tcx) := by
  intro d
  induction d with
  | zero =>
    intro e tcx he h1 h2 h3
    have e4 : e = 4 := by omega
    subst e4
    exact pk_le 4 4 (fun _ => ⟨vp_in_nI hi (by omega), nm_r (az_updA rfl (by omega) rfl) (h tcx h1 h2 h3)⟩) (fun z => absurd z (by omega))
  | succ d ih =>
    intro e tcx he h1 h2 h3
    have hce := hc e (by omega)
    have ix : nI (i * 4) + nI e = nI (i * 4 + e) := nI_add _ _
    have iy : nI (t * 16) + az_A cd (nI (i * 4) + nI e).toNatClampNeg = nI (t * 16 + cd (i * 4 + e)) := by
      rw [az_at' ix (by omega), nI_add]
    have i5 : vp_in (nI (i * 4) + nI e) 512 := pk_in (i * 4 + e) 512 (by omega) ix
    refine pk_le 4 e (fun z => absurd z (by omega)) (fun _ => ⟨i5, i5, pk_in (t * 16 + cd (i * 4 + e)) 256 (by omega) iy, nm_r (az_updA iy (by omega) (az_at' ix (by omega))) (nm_r (nI_1 e) (ih (e + 1) _ (by omega) ?_ ?_ ?_))⟩)
    · intro j hj
      rw [az_f_n (by omega)]; exact h1 j hj
    · intro c c16 hno
      have ne := hno e (by omega)
      rw [az_f_n (by omega)]
      exact h2 c c16 (fun e' he' => hno e' (by omega))
    · intro e' he'
      by_cases z : e' = e
      · rw [z, az_f_s]
      · have ne : cd (i * 4 + e') ≠ cd (i * 4 + e) := fun w => z (hdist e' e (by omega) (by omega) w)
        rw [az_f_n (by omega)]
        exact h3 e' (by omega)
theorem az_mt1_loop {post : SX → Prop} {i t : Nat} (hi : i < 128) (t2 : t < 16) (hc : ∀ e, e < 4 → cd (i * 4 + e) < 16) (hdist : ∀ e e', e < 4 → e' < 4 → cd (i * 4 + e) = cd (i * 4 + e') → e = e')
    (h : ∀ tc' : Nat → Nat, (∀ j, (j < t * 16 ∨ t * 16 + 16 ≤ j) → tc' j = tc j) → (∀ c, c < 16 → (∀ e, e < 4 → cd (i * 4 + e) ≠ c) → tc' (t * 16 + c) = 0) → (∀ e, e < 4 → tc' (t * 16 + cd (i * 4 + e)) = cc (i * 4 + e)) → post (R, U, D, P, C, S, F, az_A (az_f tb i t), az_A cd, az_A cc, V, az_A tc')) :
    ∀ d g (tcx : Nat → Nat), g + d = 16 → (∀ j, (j < t * 16 ∨ t * 16 + 16 ≤ j) → tcx j = tc j) → (∀ c, c < g → tcx (t * 16 + c) = 0) →
      wX_moveToTable_20 post (nI i) (nI t) (nI (t * 16)) R (d + 1) (nI g) U D P C S F (az_A tb) (az_A cd) (az_A cc) V (az_A tcx) := by
  intro d
  induction d with
  | zero =>
    intro g tcx hg h1 h2
    have e4 : g = 16 := by omega
    subst e4
    refine pk_le 16 16 (fun _ => nm_r (pk_mul i 4) ⟨5, ?_⟩) (fun z => absurd z (by omega))
    exact az_mt2_loop hi t2 hc hdist h 4 0 tcx rfl h1 (fun c hc _ => h2 c hc) (fun e' he' => absurd he' (Nat.not_lt_zero _))
  | succ d ih =>
    intro g tcx hg h1 h2
    have ix : nI (t * 16) + nI g = nI (t * 16 + g) := nI_add _ _
    refine pk_le 16 g (fun z => absurd z (by omega)) (fun _ => ⟨pk_in (t * 16 + g) 256 (by omega) ix, nm_r (az_updA (v := 0) ix (by omega) rfl) (nm_r (nI_1 g) (ih (g + 1) _ (by omega) ?_ ?_))⟩)
    · intro j hj
      rw [az_f_n (by omega)]; exact h1 j hj
    · intro c hc'
      by_cases z : c = g
      · rw [z, az_f_s]
      · rw [az_f_n (by omega)]; exact h2 c (by omega)
theorem az_moveToTable {post : SX → Prop} {p : Int32} {i : Nat} {h : Nat → Nat} (hp : p = nI i) (hi : i < 128) (hcel : az_cel i 4 cd cc h) (hu : ∀ t, tu t ≤ 1) (hex : ∃ t, 1 ≤ t ∧ t < 16 ∧ tu t = 0)
    (hpost : ∀ (t : Nat) (tc' : Nat → Nat), 1 ≤ t → t < 16 → tu t = 0 → (∀ c, c < 16 → tc' (t * 16 + c) = h c) → (∀ s c, s ≠ t → c < 16 → tc' (s * 16 + c) = tc (s * 16 + c)) → post (R, U, D, P, C, S, F, az_A (az_f tb i t), az_A cd, az_A cc, az_A (az_f tu t 1), az_A tc')) :
    wpX_moveToTable post (R, U, D, P, C, S, F, az_A tb, az_A cd, az_A cc, az_A tu, az_A tc) p := by
  subst hp
  refine az_unusedTable hu hex (fun t t1 t2 t3 => ⟨vp_in_nI t2 (by omega), nm_r (az_updA rfl (by omega) az_b1) (nm_r (pk_mul t 16) ⟨17, ?_⟩)⟩)
  obtain ⟨_, c2, c3, c4⟩ := hcel
  refine az_mt1_loop hi t2 (fun e he => (c2 e he).1) c3 (fun tc' h1 h2 h3 => hpost t tc' t1 t2 t3 ?_ ?_) 16 0 tc rfl (fun j _ => rfl) (fun c hc => absurd hc (Nat.not_lt_zero _))
  · intro c hc
    by_cases z : h c = 0
    · rw [z]
      refine h2 c hc (fun e he w => ?_)
      have q := c2 e he
      rw [w, z] at q
      exact q.2.1 q.2.2.symm
    · obtain ⟨e, he, hce⟩ := c4 c hc z
      have q := c2 e he
      have q3 := h3 e he
      rw [hce] at q3 q
      rw [q3, ← q.2.2]
  · intro s c hs hc
    exact h1 _ (by omega)
end
end
section
/-! addChild, putInPlace, moveToCells, dropChild -/
theorem az_fan_le (h : Nat → Nat) : az_fan h ≤ 16 := by
  have e : az_fan h ≤ az_S (fun _ => 1) 16 := az_S_le (fun i _ => by split <;> omega)
  rw [az_S_ones] at e
  exact e
theorem az_fn16 {us fn tb cd cc tu tc : Nat → Nat} {ch : Nat → Nat → Nat} (hL : az_L us fn tb cd cc tu tc ch) {i : Nat} (u : us i = 1) : fn i ≤ 16 := by
  have e := (hL.1 i u).2.2.1
  have := az_fan_le (ch i)
  omega
theorem az_tb16 {us fn tb cd cc tu tc : Nat → Nat} {ch : Nat → Nat → Nat} (hL : az_L us fn tb cd cc tu tc ch) {i : Nat} (u : us i = 1) : tb i < 16 := by
  rcases (hL.1 i u).2.2.2 with ⟨z, _⟩ | ⟨⟨_, z, _⟩, _⟩
  · omega
  · exact z
section
variable {R : Int32} {U D P C T CC V TC F : Nat → Int32} {S : Nat → Int64} {us dp pf ct fn tb cd cc tu tc : Nat → Nat} {sm : Nat → Int64} {ch : Nat → Nat → Nat}
theorem az_ac97 {post : SX → Prop} {i : Nat} (hi : i < 128) (h : post (R, U, D, P, C, S, az_A (az_f fn i (fn i + 1)), T, CC, V, TC, F)) : wX_addChild_97 post (nI i) R U D P C S (az_A fn) T CC V TC F := by
  refine ⟨vp_in_nI hi (by omega), vp_in_nI hi (by omega), nm_r (az_updA rfl (by omega) ?_) h⟩
  rw [az_at' rfl (by omega), nI_1]
/-- cells or table as they are -/
theorem az_ac24 {post : SX → Prop} {i j : Nat} (hL : az_L us fn tb cd cc tu tc ch) (u : us i = 1) (hd : dp i < 4) (hj : j < 128) (j0 : j ≠ 0) (hp : pf j < 65536) (h0 : ch i (az_dg (pf j) (dp i)) = 0) (hf : tb i = 0 → fn i < 4)
    (h : ∀ tb' cd' cc' tu' tc' : Nat → Nat, az_L us (az_f fn i (fn i + 1)) tb' cd' cc' tu' tc' (az_h ch i (az_dg (pf j) (dp i)) j) → post (R, U, az_A dp, az_A pf, C, S, az_A (az_f fn i (fn i + 1)), az_A tb', az_A cd', az_A cc', az_A tu', az_A tc')) :
    wX_addChild_24 post (nI i) (nI j) R U (az_A dp) (az_A pf) C S (az_A fn) (az_A tb) (az_A cd) (az_A cc) (az_A tu) (az_A tc) := by
  have l := hL.1 i u
  have i8 : vp_in (nI i) 128 := vp_in_nI l.1 (by omega)
  have t16 := az_tb16 hL u
  have f16 := az_fn16 hL u
  have g16 := az_dg_lt (pf j) (dp i)
  refine ⟨vp_in_nI hj (by omega), i8, az_digitAt (az_at' rfl (by omega)) (az_at' rfl (by omega)) hp hd ⟨i8, pk_eq (tb i) 0 (fun z => ?_) (fun z => ?_) (az_at' rfl (by omega)) rfl⟩⟩
  · have f4 := hf z
    have ix : nI i * 4 + az_A fn (nI i).toNatClampNeg = nI (i * 4 + fn i) := by
      rw [az_at' rfl (by omega), show nI i * 4 = nI (i * 4) from pk_mul i 4, nI_add]
    have i5 : vp_in (nI (i * 4 + fn i)) 512 := vp_in_nI (by omega) (by omega)
    refine ⟨i8, nm_r ix ⟨i5, nm_r (az_updA rfl (by omega) rfl) ⟨i5, nm_r (az_updA rfl (by omega) rfl) (az_ac97 l.1 (h _ _ _ _ _ ?_))⟩⟩⟩
    exact az_L_ca hL u z f4 g16 h0 j0 hj
  · have ix : az_A tb (nI i).toNatClampNeg * 16 + nI (az_dg (pf j) (dp i)) = nI (tb i * 16 + az_dg (pf j) (dp i)) := by
      rw [az_at' rfl (by omega), show nI (tb i) * 16 = nI (tb i * 16) from pk_mul (tb i) 16, nI_add]
    have l5 : 5 ≤ fn i := by
      rcases l.2.2.2 with ⟨w, _⟩ | ⟨_, w⟩
      · exact absurd w z
      · exact w
    refine ⟨i8, pk_in (tb i * 16 + az_dg (pf j) (dp i)) 256 (by omega) ix, nm_r (az_updA ix (by omega) rfl) (az_ac97 l.1 (h _ _ _ _ _ ?_))⟩
    refine az_L_ts hL u z g16 hj ?_ (by omega)
    rw [az_fan_add g16 h0 j0]
    have := l.2.2.1
    omega
theorem az_addChild {post : SX → Prop} {a b : Int32} {i j : Nat} (ha : a = nI i) (hb : b = nI j) (hL : az_L us fn tb cd cc tu tc ch) (u : us i = 1) (hd : dp i < 4) (hj : j < 128) (j0 : j ≠ 0) (hp : pf j < 65536) (h0 : ch i (az_dg (pf j) (dp i)) = 0)
    (hex : tb i = 0 → fn i = 4 → ∃ t, 1 ≤ t ∧ t < 16 ∧ tu t = 0)
    (h : ∀ tb' cd' cc' tu' tc' : Nat → Nat, az_L us (az_f fn i (fn i + 1)) tb' cd' cc' tu' tc' (az_h ch i (az_dg (pf j) (dp i)) j) → post (R, U, az_A dp, az_A pf, C, S, az_A (az_f fn i (fn i + 1)), az_A tb', az_A cd', az_A cc', az_A tu', az_A tc')) :
    wpX_addChild post (R, U, az_A dp, az_A pf, C, S, az_A fn, az_A tb, az_A cd, az_A cc, az_A tu, az_A tc) a b := by
  subst ha hb
  have l := hL.1 i u
  have i8 : vp_in (nI i) 128 := vp_in_nI l.1 (by omega)
  have t16 := az_tb16 hL u
  have f16 := az_fn16 hL u
  have g16 := az_dg_lt (pf j) (dp i)
  refine ⟨i8, pk_eq (tb i) 0 (fun z => ⟨i8, pk_eq (fn i) 4 (fun y => ?_) (fun y => ?_) (az_at' rfl (by omega)) rfl⟩) (fun z => az_ac24 hL u hd hj j0 hp h0 (fun w => absurd w z) h) (az_at' rfl (by omega)) rfl⟩
  · have hcel : az_cel i 4 cd cc (ch i) := by
      rcases l.2.2.2 with ⟨_, w⟩ | ⟨⟨w, _⟩, _⟩
      · rw [y] at w; exact w
      · omega
    refine az_moveToTable rfl l.1 hcel hL.2.2.2.1 (hex z y) (fun t tc' t1 t2 t3 e1 e2 => ?_)
    have ix : az_A (az_f tb i t) (nI i).toNatClampNeg * 16 + nI (az_dg (pf j) (dp i)) = nI (t * 16 + az_dg (pf j) (dp i)) := by
      rw [az_at' rfl (by omega), az_f_s, show nI t * 16 = nI (t * 16) from pk_mul t 16, nI_add]
    refine ⟨vp_in_nI hj (by omega), i8, az_digitAt (az_at' rfl (by omega)) (az_at' rfl (by omega)) hp hd ⟨i8, pk_eq t 0 (fun w => absurd w (by omega)) (fun _ => ⟨i8, pk_in (t * 16 + az_dg (pf j) (dp i)) 256 (by omega) ix, nm_r (az_updA ix (by omega) rfl) (az_ac97 l.1 (h _ _ _ _ _ ?_))⟩) ?_ rfl⟩⟩
    · have e := az_L_mt (tc' := az_f tc' (t * 16 + az_dg (pf j) (dp i)) j) hL u z y g16 h0 j0 hj (by omega) t2 t3 ?_ ?_
      · rw [y]; exact e
      · intro d hd'
        by_cases w : d = az_dg (pf j) (dp i)
        · rw [w, az_f_s, az_h_s]
        · rw [az_f_n (by omega), az_h_n (fun q => w q.2)]; exact e1 d hd'
      · intro s d hs hd'
        rw [az_f_n (by omega)]; exact e2 s d hs hd'
    · rw [az_at' rfl (by omega), az_f_s]
  · refine az_ac24 hL u hd hj j0 hp h0 (fun _ => ?_) h
    rcases l.2.2.2 with ⟨_, w, _⟩ | ⟨⟨w, _⟩, _⟩
    · omega
    · omega
/-- the cell of a child that is there -/
theorem az_putInPlace0 {post : SX → Prop} {a b : Int32} (ha : a = nI 0) (h : post (b, U, D, P, C, S, F, T, CC, V, TC, az_A tc)) : wpX_putInPlace post (R, U, D, P, C, S, F, T, CC, V, TC, az_A tc) a b := by
  subst ha
  exact br_t rfl h
theorem az_putInPlace {post : SX → Prop} {a b : Int32} {p j : Nat} (ha : a = nI p) (hb : b = nI j) (hL : az_L us fn tb cd cc tu tc ch) (u : us p = 1) (p0 : p ≠ 0) (hd : dp p < 4) (hj : j < 128) (j0 : j ≠ 0) (hp : pf j < 65536) (h0 : ch p (az_dg (pf j) (dp p)) ≠ 0)
    (h : ∀ cc' tc' : Nat → Nat, az_L us fn tb cd cc' tu tc' (az_h ch p (az_dg (pf j) (dp p)) j) → post (R, U, az_A dp, az_A pf, C, S, az_A fn, az_A tb, az_A cd, az_A cc', az_A tu, az_A tc')) :
    wpX_putInPlace post (R, U, az_A dp, az_A pf, C, S, az_A fn, az_A tb, az_A cd, az_A cc, az_A tu, az_A tc) a b := by
  subst ha hb
  have l := hL.1 p u
  have i8 : vp_in (nI p) 128 := vp_in_nI l.1 (by omega)
  have t16 := az_tb16 hL u
  have f16 := az_fn16 hL u
  have g16 := az_dg_lt (pf j) (dp p)
  refine pk_eq p 0 (fun z => absurd z p0) (fun _ => ⟨vp_in_nI hj (by omega), i8, az_digitAt (az_at' rfl (by omega)) (az_at' rfl (by omega)) hp hd ⟨i8, pk_eq (tb p) 0 (fun z => ?_) (fun z => ?_) (az_at' rfl (by omega)) rfl⟩⟩) rfl rfl
  · obtain ⟨c1, c2, c3, c4⟩ : az_cel p (fn p) cd cc (ch p) := by
      rcases l.2.2.2 with ⟨_, w⟩ | ⟨⟨w, _⟩, _⟩
      · exact w
      · omega
    refine az_cellOf rfl rfl l.1 g16 c1 (fun e he => (c2 e he).1) (fun e he hce => ?_) (fun hno => ?_)
    · refine br_f (az_ne1 (by omega)) ⟨vp_in_nI (by omega) (by omega), nm_r (az_updA rfl (by omega) rfl) (h _ _ ?_)⟩
      exact az_L_cs hL u z he hce j0 hj
    · obtain ⟨e, he, hce⟩ := c4 _ g16 h0
      exact absurd hce (hno e he)
  · have ix : az_A tb (nI p).toNatClampNeg * 16 + nI (az_dg (pf j) (dp p)) = nI (tb p * 16 + az_dg (pf j) (dp p)) := by
      rw [az_at' rfl (by omega), show nI (tb p) * 16 = nI (tb p * 16) from pk_mul (tb p) 16, nI_add]
    have l5 : 5 ≤ fn p := by
      rcases l.2.2.2 with ⟨w, _⟩ | ⟨_, w⟩
      · exact absurd w z
      · exact w
    refine ⟨i8, pk_in (tb p * 16 + az_dg (pf j) (dp p)) 256 (by omega) ix, nm_r (az_updA ix (by omega) rfl) (h _ _ ?_)⟩
    have e := az_L_ts (f := fn p) hL u z g16 hj (by rw [az_fan_rep h0 j0]; exact l.2.2.1) l5
    have ef : az_f fn p (fn p) = fn := by
      funext i
      by_cases w : i = p
      · rw [w, az_f_s]
      · exact az_f_n w
    rw [ef] at e
    exact e
/-- the first f cells hold the children with digits below g -/
def az_celp (i g f : Nat) (cd cc h : Nat → Nat) : Prop :=
  f ≤ 4 ∧ (∀ e, e < f → cd (i * 4 + e) < g ∧ cc (i * 4 + e) ≠ 0 ∧ h (cd (i * 4 + e)) = cc (i * 4 + e)) ∧ (∀ e e', e < f → e' < f → cd (i * 4 + e) = cd (i * 4 + e') → e = e') ∧ (∀ c, c < g → h c ≠ 0 → ∃ e, e < f ∧ cd (i * 4 + e) = c) ∧ (f : Int) = az_S (fun c => if h c = 0 then 0 else 1) g
theorem az_celp_end {i g f : Nat} {h : Nat → Nat} (hg : g ≤ 16) (hf : az_fan h = 4) (hc : az_celp i g f cd cc h) (he : g = 16 ∨ 4 ≤ f) : az_cel i 4 cd cc h := by
  obtain ⟨c1, c2, c3, c4, c5⟩ := hc
  have nn : ∀ k, (0 : Int) ≤ (fun c => if h c = 0 then (0 : Int) else 1) k := fun k => by dsimp only; split <;> omega
  have mono := az_S_mono nn hg
  unfold az_fan at hf
  have f4 : f = 4 := by
    rcases he with z | z
    · rw [z] at c5; omega
    · omega
  subst f4
  refine ⟨c1, fun e he => ⟨by have := (c2 e he).1; omega, (c2 e he).2⟩, c3, fun c hc h0 => ?_⟩
  by_cases z : c < g
  · exact c4 c z h0
  · have gt := az_S_gt nn (show g ≤ c by omega) hc (by rw [if_neg h0]; omega)
    omega
theorem az_mc_loop {post : SX → Prop} {i t : Nat} {h : Nat → Nat} (hi : i < 128) (t2 : t < 16) (hf : az_fan h = 4) (h128 : ∀ c, h c < 128) (htc : ∀ c, c < 16 → tc (t * 16 + c) = h c)
    (hpost : ∀ cd' cc' : Nat → Nat, az_cel i 4 cd' cc' h → (∀ i' e, i' ≠ i → e < 4 → cd' (i' * 4 + e) = cd (i' * 4 + e) ∧ cc' (i' * 4 + e) = cc (i' * 4 + e)) → post (R, U, D, P, C, S, F, az_A (az_f tb i 0), az_A cd', az_A cc', az_A (az_f tu t 0), az_A tc)) :
    ∀ d g f (cdx ccx : Nat → Nat), g + d = 16 → az_celp i g f cdx ccx h → (∀ i' e, i' ≠ i → e < 4 → cdx (i' * 4 + e) = cd (i' * 4 + e) ∧ ccx (i' * 4 + e) = cc (i' * 4 + e)) →
      wX_moveToCells_19 post (nI i) (nI t) (nI (i * 4 + 4)) R (d + 1) (nI (i * 4 + f)) (nI g) U D P C S F (az_A tb) (az_A cdx) (az_A ccx) (az_A tu) (az_A tc) := by
  have fin : ∀ g f (cdx ccx : Nat → Nat), g ≤ 16 → az_celp i g f cdx ccx h → (∀ i' e, i' ≠ i → e < 4 → cdx (i' * 4 + e) = cd (i' * 4 + e) ∧ ccx (i' * 4 + e) = cc (i' * 4 + e)) → (g = 16 ∨ 4 ≤ f) → wX_moveToCells_76 post (nI i) (nI t) R U D P C S F (az_A tb) (az_A cdx) (az_A ccx) (az_A tu) (az_A tc) := by
    intro g f cdx ccx hg hc ho he
    exact ⟨vp_in_nI t2 (by omega), nm_r (az_updA rfl (by omega) az_b0) ⟨vp_in_nI hi (by omega), nm_r (az_updA (v := 0) rfl (by omega) rfl) (hpost cdx ccx (az_celp_end hg hf hc he) ho)⟩⟩
  intro d
  induction d with
  | zero =>
    intro g f cdx ccx hg hc ho
    exact pk_le 16 g (fun _ => fin g f cdx ccx (by omega) hc ho (Or.inl (by omega))) (fun z => absurd z (by omega))
  | succ d ih =>
    intro g f cdx ccx hg hc ho
    have f4 := hc.1
    have ix : nI t * 16 + nI g = nI (t * 16 + g) := by
      rw [show nI t * 16 = nI (t * 16) from pk_mul t 16, nI_add]
    have hb := h128 g
    refine pk_le 16 g (fun z => absurd z (by omega)) (fun _ => pk_le (i * 4 + 4) (i * 4 + f) (fun z => fin g f cdx ccx (by omega) hc ho (Or.inr (by omega))) (fun z => ⟨pk_in (t * 16 + g) 256 (by omega) ix, nm_r (e' := nI (h g)) ?_ ?_⟩) rfl rfl)
    · rw [az_at' ix (by omega), htc g (by omega)]
    · obtain ⟨c1, c2, c3, c4, c5⟩ := hc
      refine pk_eq (h g) 0 (fun y => ?_) (fun y => ?_) rfl rfl
      · refine nm_r (nI_1 g) (ih (g + 1) f cdx ccx (by omega) ⟨c1, fun e he => ⟨by have := (c2 e he).1; omega, (c2 e he).2⟩, c3, fun c hc' h0 => ?_, ?_⟩ ho)
        · by_cases w : c = g
          · rw [w] at h0; exact absurd y h0
          · exact c4 c (by omega) h0
        · rw [az_S_succ, if_pos y]; omega
      · have i5 : vp_in (nI (i * 4 + f)) 512 := vp_in_nI (by omega) (by omega)
        refine ⟨i5, nm_r (az_updA rfl (by omega) rfl) ⟨i5, nm_r (az_updA rfl (by omega) rfl) (nm_r (nI_1 (i * 4 + f)) (nm_r (nI_1 g) (ih (g + 1) (f + 1) _ _ (by omega) ⟨by omega, ?_, ?_, ?_, ?_⟩ ?_)))⟩⟩
        · intro e he
          by_cases w : e = f
          · rw [w, az_f_s, az_f_s]
            exact ⟨by omega, y, rfl⟩
          · rw [az_f_n (by omega), az_f_n (by omega)]
            have q := c2 e (by omega)
            exact ⟨by omega, q.2⟩
        · intro e e' he he' hee
          by_cases w : e = f
          · by_cases v : e' = f
            · rw [w, v]
            · rw [w, az_f_s, az_f_n (by omega)] at hee
              have := (c2 e' (by omega)).1
              omega
          · by_cases v : e' = f
            · rw [v, az_f_s, az_f_n (by omega)] at hee
              have := (c2 e (by omega)).1
              omega
            · rw [az_f_n (by omega), az_f_n (by omega)] at hee
              exact c3 e e' (by omega) (by omega) hee
        · intro c hc' h0
          by_cases w : c = g
          · exact ⟨f, by omega, by rw [az_f_s, w]⟩
          · obtain ⟨e, he, hce⟩ := c4 c (by omega) h0
            exact ⟨e, by omega, by rw [az_f_n (by omega)]; exact hce⟩
        · rw [az_S_succ, if_neg y]; omega
        · intro i' e hi' he
          rw [az_f_n (by omega), az_f_n (by omega)]
          exact ho i' e hi' he
theorem az_moveToCells {post : SX → Prop} {p : Int32} {i t : Nat} {h : Nat → Nat} (hp : p = nI i) (hi : i < 128) (ht : tb i = t) (t2 : t < 16) (hf : az_fan h = 4) (h128 : ∀ c, h c < 128) (htc : ∀ c, c < 16 → tc (t * 16 + c) = h c)
    (hpost : ∀ cd' cc' : Nat → Nat, az_cel i 4 cd' cc' h → (∀ i' e, i' ≠ i → e < 4 → cd' (i' * 4 + e) = cd (i' * 4 + e) ∧ cc' (i' * 4 + e) = cc (i' * 4 + e)) → post (R, U, D, P, C, S, F, az_A (az_f tb i 0), az_A cd', az_A cc', az_A (az_f tu t 0), az_A tc)) :
    wpX_moveToCells post (R, U, D, P, C, S, F, az_A tb, az_A cd, az_A cc, az_A tu, az_A tc) p := by
  subst hp
  refine ⟨vp_in_nI hi (by omega), nm_r (e' := nI t) ?_ (nm_r (pk_mul i 4) (nm_r (nI_add (i * 4) 4) ⟨17, ?_⟩))⟩
  · rw [az_at' rfl (by omega), ht]
  · refine az_mc_loop hi t2 hf h128 htc hpost 16 0 0 cd cc rfl ⟨by omega, fun e he => absurd he (Nat.not_lt_zero _), fun e e' he => absurd he (Nat.not_lt_zero _), fun c hc => absurd hc (Nat.not_lt_zero _), rfl⟩ (fun i' e _ _ => ⟨rfl, rfl⟩)
theorem az_dropChild {post : SX → Prop} {a b : Int32} {i x : Nat} (ha : a = nI i) (hb : b = nI x) (hL : az_L us fn tb cd cc tu tc ch) (u : us i = 1) (hd : dp i < 4) (hx : x < 65536) (h0 : ch i (az_dg x (dp i)) ≠ 0)
    (h : ∀ tb' cd' cc' tu' tc' : Nat → Nat, az_L us (az_f fn i (fn i - 1)) tb' cd' cc' tu' tc' (az_h ch i (az_dg x (dp i)) 0) → post (R, U, az_A dp, P, C, S, az_A (az_f fn i (fn i - 1)), az_A tb', az_A cd', az_A cc', az_A tu', az_A tc')) :
    wpX_dropChild post (R, U, az_A dp, P, C, S, az_A fn, az_A tb, az_A cd, az_A cc, az_A tu, az_A tc) a b := by
  subst ha hb
  have l := hL.1 i u
  have i8 : vp_in (nI i) 128 := vp_in_nI l.1 (by omega)
  have t16 := az_tb16 hL u
  have f16 := az_fn16 hL u
  have g16 := az_dg_lt x (dp i)
  refine ⟨i8, az_digitAt rfl (az_at' rfl (by omega)) hx hd ⟨i8, pk_eq (tb i) 0 (fun z => ?_) (fun z => ?_) (az_at' rfl (by omega)) rfl⟩⟩
  · obtain ⟨c1, c2, c3, c4⟩ : az_cel i (fn i) cd cc (ch i) := by
      rcases l.2.2.2 with ⟨_, w⟩ | ⟨⟨w, _⟩, _⟩
      · exact w
      · omega
    refine az_cellOf rfl rfl l.1 g16 c1 (fun e he => (c2 e he).1) (fun e he hce => ?_) (fun hno => ?_)
    · have i5 : vp_in (nI (i * 4 + e)) 512 := vp_in_nI (by omega) (by omega)
      have j5 : vp_in (nI (i * 4 + (fn i - 1))) 512 := vp_in_nI (by omega) (by omega)
      have sb : az_A fn (nI i).toNatClampNeg - 1 = nI (fn i - 1) := by
        rw [az_at' rfl (by omega)]; exact pk_sub (b := 1) (by omega)
      have ix : nI i * 4 + az_A (az_f fn i (fn i - 1)) (nI i).toNatClampNeg = nI (i * 4 + (fn i - 1)) := by
        rw [az_at' rfl (by omega), az_f_s, show nI i * 4 = nI (i * 4) from pk_mul i 4, nI_add]
      refine br_f (az_ne1 (by omega)) ⟨i8, i8, nm_r (az_updA rfl (by omega) sb) ⟨i8, nm_r ix ⟨j5, i5, nm_r (az_updA rfl (by omega) (az_at' rfl (by omega))) ⟨j5, i5, nm_r (az_updA rfl (by omega) (az_at' rfl (by omega))) (h _ _ _ _ _ ?_)⟩⟩⟩⟩
      exact az_L_cd hL u z he hce
    · obtain ⟨e, he, hce⟩ := c4 _ g16 h0
      exact absurd hce (hno e he)
  · have ix : az_A tb (nI i).toNatClampNeg * 16 + nI (az_dg x (dp i)) = nI (tb i * 16 + az_dg x (dp i)) := by
      rw [az_at' rfl (by omega), show nI (tb i) * 16 = nI (tb i * 16) from pk_mul (tb i) 16, nI_add]
    obtain ⟨⟨q1, q2, q3, q4⟩, l5⟩ : az_tab (tb i) tu tc (ch i) ∧ 5 ≤ fn i := by
      rcases l.2.2.2 with ⟨w, _⟩ | w
      · exact absurd w z
      · exact w
    have sb : az_A fn (nI i).toNatClampNeg - 1 = nI (fn i - 1) := by
      rw [az_at' rfl (by omega)]; exact pk_sub (b := 1) (by omega)
    have fd := az_fan_drop (ch := ch) (p := i) g16 h0
    have lf := l.2.2.1
    refine ⟨i8, pk_in (tb i * 16 + az_dg x (dp i)) 256 (by omega) ix, nm_r (az_updA (v := 0) ix (by omega) rfl) ⟨i8, i8, nm_r (az_updA rfl (by omega) sb) ⟨i8, pk_lt 4 (fn i - 1) (fun y => ?_) (fun y => ?_) rfl ?_⟩⟩⟩
    · refine h _ _ _ _ _ (az_L_ts hL u z g16 (by omega) ?_ (by omega))
      rw [fd]; omega
    · have f5 : fn i = 5 := by omega
      refine az_moveToCells (h := az_h ch i (az_dg x (dp i)) 0 i) rfl l.1 rfl q2 (by rw [fd]; omega) (fun c => az_h_lt hL u (by omega) c) ?_ (fun cd' cc' e1 e2 => h _ _ _ _ _ ?_)
      · intro c hc
        by_cases w : c = az_dg x (dp i)
        · rw [w, az_f_s, az_h_s]
        · rw [az_f_n (by omega), az_h_n (fun q => w q.2)]; exact q4 c hc
      · have e := az_L_mc hL u z f5 g16 h0 e1 e2
        rw [f5]
        exact e
    · rw [az_at' rfl (by omega), az_f_s]
end
end
section
/-! addLeaf and takeOut -/
section
variable {m : Nat → Option Int32} {us dp pf ct : Nat → Nat} {sm : Nat → Int64} {fn tb cd cc tu tc : Nat → Nat} {ch : Nat → Nat → Nat} {rt : Nat} {n : Int} {x l : Nat}
theorem az_f_id {f : Nat → Nat} {k v : Nat} (h : f k = v) : az_f f k v = f := by
  funext i
  by_cases z : i = k
  · rw [z, az_f_s, h]
  · exact az_f_n z
theorem az_f_f (f : Nat → Nat) (k v w : Nat) : az_f (az_f f k v) k w = az_f f k w := by
  funext i
  by_cases z : i = k
  · rw [z, az_f_s, az_f_s]
  · rw [az_f_n z, az_f_n z, az_f_n z]
theorem az_al57 {post : SX → Prop} {p q : Nat} (t : az_T (az_K m) us dp pf ch rt) (hN : az_N m us dp pf ct sm) (hL : az_L (az_f us l 1) fn tb cd cc tu tc ch) (hM : az_M us dp fn n) (hu : ∀ i, us i ≤ 1) (hf : ∀ i, us i = 1 → dp i = 4 → fn i = 0)
    (hx : x < 65536) (nx : ¬ az_K m x) (hl : 0 < l ∧ l < 128) (ul : us l = 0) (dl : dp l = 4) (pl : pf l = x) (cl : ct l = 0) (sl : sm l = 0) (fl : fn l = 0) (en : n = az_C m 65536) (n63 : n ≤ 63)
    (ha : az_at us dp pf ch rt x p q) (he : q = 0 ∨ ¬ az_un (dp q) (pf q) x)
    (h : ∀ (us' dp' pf' ct' : Nat → Nat) (sm' : Nat → Int64) (fn' tb' cd' cc' tu' tc' : Nat → Nat) (ch' : Nat → Nat → Nat) (rt' : Nat), az_I (fun k => az_K m k ∨ k = x) m (n + 1) us' dp' pf' ct' sm' fn' tb' cd' cc' tu' tc' ch' rt' → post (nI rt', az_A us', az_A dp', az_A pf', az_A ct', sm', az_A fn', az_A tb', az_A cd', az_A cc', az_A tu', az_A tc')) :
    wX_addLeaf_57 post (nI l) (nI p) (nI q) (nI rt) (az_A (az_f us l 1)) (az_A dp) (az_A pf) (az_A ct) sm (az_A fn) (az_A tb) (az_A cd) (az_A cc) (az_A tu) (az_A tc) := by
  have v1 : ∀ i, us i = 1 → az_f us l 1 i = 1 := by
    intro i hi
    rw [az_f_n (fun z => by rw [z, ul] at hi; omega)]; exact hi
  have hLl := hL.1 l (az_f_s us l 1)
  have tl : tb l = 0 := az_leaf_tb hL (az_f_s us l 1) fl
  have hL0 : az_L us fn tb cd cc tu tc ch := by
    have e := az_L_less hL tl
    rw [az_f_f, az_f_id ul] at e
    exact e
  have p128 : p < 128 := by
    rcases ha with ⟨z, _⟩ | ⟨z, _⟩
    · omega
    · exact (t.1 p z).2.1
  have q128 : q < 128 := by
    rcases ha with ⟨_, z⟩ | ⟨z, _, _, z4⟩
    · rw [z]; exact az_rt128 t
    · rw [z4]; exact (hL0.1 p z).2.1 _
  refine pk_eq q 0 (fun q0 => pk_eq p 0 (fun p0 => ?_) (fun p0 => ?_) rfl rfl) (fun q0 => ?_) rfl rfl
  · have r0 : rt = 0 := by
      rcases ha with ⟨_, z⟩ | ⟨z, _⟩
      · rw [← z]; exact q0
      · rw [p0] at z; have := (t.1 0 z).1; omega
    have n0 : n = 0 := by
      have r := (az_rootC t hN).1
      rw [r0, hN.2.1] at r
      omega
    exact h _ _ _ _ _ _ _ _ _ _ _ _ _ (az_finC t hN hL hM hu hf hx nx hl ul dl pl cl sl fl r0 n0)
  · obtain ⟨p1, p2, p3, p4⟩ : us p = 1 ∧ dp p < 4 ∧ az_un (dp p) (pf p) x ∧ q = ch p (az_dg x (dp p)) := ha.elim (fun z => absurd z.1 p0) id
    rw [q0] at p4
    refine az_addChild rfl rfl hL (v1 p p1) p2 hl.2 (by omega) (by omega) (by rw [pl]; exact p4.symm) (fun z y => ?_) (fun tb' cd' cc' tu' tc' hL' => ?_)
    · exact az_tables t hL0 hM n63 p1 p2 z y (fun i hi hd => az_leaf_tb hL0 hi (hf i hi hd))
    · rw [pl] at hL'
      have np := az_n_pos t p1
      exact h _ _ _ _ _ _ _ _ _ _ _ _ _ (az_finB t hN hM hu hf hx nx hl ul dl pl cl sl fl p1 p2 p3 p4.symm (by omega) hL' rfl)
  · have hqu : ¬ az_un (dp q) (pf q) x := he.elim (fun z => absurd z q0) id
    refine ⟨vp_in_nI q128 (by omega), vp_in_nI hl.2 (by omega), ?_⟩
    have q1 : us q = 1 := by
      rcases ha with ⟨_, z⟩ | ⟨z, z2, _, z4⟩
      · rw [z] at q0 ⊢; exact az_rootu t q0
      · rw [z4] at q0 ⊢; exact (t.2.2.1 p _ z z2 (az_dg_lt _ _) q0).1
    have bq := t.1 q q1
    refine az_common (az_at' rfl (by omega)) (az_at' rfl (by omega)) bq.2.2.2.1 (by omega) (fun r hr => ⟨vp_in_nI hl.2 (by omega), ?_⟩)
    rw [pl] at hr
    obtain ⟨_, hlt, hpr, hKn⟩ := az_joint t ha q0 hqu hr
    have free : ∃ j, 1 ≤ j ∧ j < 128 ∧ az_f us l 1 j = 0 := by
      refine az_S_free (az_u1 hu l (Nat.le_refl 1)) ?_
      have e := az_used t hL0 hM hu n63
      have e2 := az_S_at (f := fun i => (az_f us l 1 i : Int)) (g := fun i => (us i : Int)) l hl.2 (fun i hi => by rw [az_f_n hi])
      rw [az_f_s, ul] at e2
      omega
    refine az_newNode (az_at' rfl (by omega)) rfl (by omega) (by omega) (az_u1 hu l (Nat.le_refl 1)) free (fun b b1 b2 b3 => ?_)
    rw [pl]
    have bl : b ≠ l := by intro z; rw [z, az_f_s] at b3; omega
    have ub : us b = 0 := by rw [az_f_n bl] at b3; exact b3
    have hne : ∀ i, us i = 1 → i ≠ b := by intro i hi z; rw [z, ub] at hi; omega
    have qb := hne q q1
    have L2 := az_L_new hL b3 b2
    have i8 : vp_in (nI b) 128 := vp_in_nI b2 (by omega)
    have c3 : upd (az_A (az_f ct b 0)) (nI b).toNatClampNeg (az_A (az_f ct b 0) (nI q).toNatClampNeg) = az_A (az_f ct b (ct q)) := by
      rw [az_at' (i := q) rfl (by omega), az_updA rfl (by omega) rfl, az_f_n qb, az_f_f]
    have s3 : vp_updL (vp_updL sm b 0) (nI b).toNatClampNeg (vp_updL sm b 0 (nI q).toNatClampNeg) = vp_updL sm b (sm q) := by
      rw [nI_clamp (by omega), nI_clamp (by omega), pk_uLn qb]
      funext i
      by_cases z : i = b
      · rw [z, pk_uLs, pk_uLs]
      · rw [pk_uLn z, pk_uLn z, pk_uLn z]
    refine ⟨vp_in_nI q128 (by omega), i8, nm_r c3 ⟨vp_in_nI q128 (by omega), i8, nm_r s3 ?_⟩⟩
    -- the two children of the new branch
    have r4 : r < 4 := by omega
    have db : az_f dp b r b = r := az_f_s _ _ _
    have pb : az_f pf b (az_cut x r) b = az_cut x r := az_f_s _ _ _
    have pq : az_f pf b (az_cut x r) q = pf q := az_f_n qb
    have plb : az_f pf b (az_cut x r) l = x := by rw [az_f_n (fun z => bl z.symm), pl]
    have u2b : az_f (az_f us l 1) b 1 b = 1 := az_f_s _ _ _
    have gne := hr.2.2 r4
    refine az_addChild rfl rfl L2 u2b (by omega) q128 q0 (by omega) (az_z_s ch b _) (fun _ z => by rw [az_f_s] at z; omega) (fun tb3 cd3 cc3 tu3 tc3 L3 => ?_)
    rw [db, pq] at L3
    refine az_addChild rfl rfl L3 u2b (by omega) hl.2 (by omega) (by omega) ?_ (fun _ z => by rw [az_f_s, az_f_s] at z; omega) (fun tb4 cd4 cc4 tu4 tc4 L4 => ?_)
    · rw [db, plb, az_h_n (fun w => gne w.2.symm)]; exact az_z_s ch b _
    rw [db, plb] at L4
    rw [az_f_s, az_f_f, az_f_s, az_f_f] at L4 ⊢
    -- the tree with the data of the new branch written, but not used yet
    have T2 : az_T (az_K m) us (az_f dp b r) (az_f pf b (az_cut x r)) (az_z ch b) rt := az_T_congr t (fun i hi => az_f_n (hne i hi)) (fun i hi => az_f_n (hne i hi)) (fun i hi c => az_z_n (hne i hi))
    have N2 : az_N m us (az_f dp b r) (az_f pf b (az_cut x r)) (az_f ct b (ct q)) (vp_updL sm b (sm q)) := az_N_congr hN (fun i hi => ⟨hi, az_f_n (hne i hi), az_f_n (hne i hi), az_f_n (hne i hi), pk_uLn (hne i hi)⟩) (by rw [az_f_n (by omega)]; exact hN.2.1) (by rw [pk_uLn (by omega)]; exact hN.2.2)
    have M2 : az_M us (az_f dp b r) fn n := az_M_congr hM (fun i hi => ⟨az_f_n (hne i hi), rfl⟩)
    have lb : l ≠ b := fun z => bl z.symm
    have n1 := az_n_pos t q1
    have A2 : az_at us (az_f dp b r) (az_f pf b (az_cut x r)) (az_z ch b) rt x p q := by
      rcases ha with z | ⟨z1, z2, z3, z4⟩
      · exact Or.inl z
      · refine Or.inr ⟨z1, ?_, ?_, ?_⟩
        · rw [az_f_n (hne p z1)]; exact z2
        · rw [az_f_n (hne p z1), az_f_n (hne p z1)]; exact z3
        · rw [az_f_n (hne p z1), az_z_n (hne p z1)]; exact z4
    have fin : ∀ (cc5 tc5 : Nat → Nat) (ch5 : Nat → Nat → Nat) (rt5 : Nat), az_L (az_f (az_f us l 1) b 1) (az_f fn b (0 + 1 + 1)) tb4 cd4 cc5 tu4 tc5 ch5 →
        (ch5 b (az_dg (pf q) r) = q) → (ch5 b (az_dg x r) = l) → (∀ c, c ≠ az_dg (pf q) r → c ≠ az_dg x r → ch5 b c = 0) → (us p = 1 → ch5 p (az_dg x (dp p)) = b) → (∀ j c, us j = 1 → ¬ (j = p ∧ c = az_dg x (dp p)) → ch5 j c = ch j c) → (p = 0 → rt5 = b) → (p ≠ 0 → rt5 = rt) →
        post (nI rt5, az_A (az_f (az_f us l 1) b 1), az_A (az_f dp b r), az_A (az_f pf b (az_cut x r)), az_A (az_f ct b (ct q)), vp_updL sm b (sm q), az_A (az_f fn b (0 + 1 + 1)), az_A tb4, az_A cd4, az_A cc5, az_A tu4, az_A tc5) := by
      intro cc5 tc5 ch5 rt5 L5 k3 k4 k5 k1 k2 k6 k7
      refine h _ _ _ _ _ _ _ _ _ _ _ _ _ (az_finA (fn := fn) T2 N2 M2 hu (fun i hi hd => hf i hi (by rw [az_f_n (hne i hi)] at hd; exact hd)) hx nx hl ul (by rw [az_f_n lb]; exact dl) plb (by rw [az_f_n lb]; exact cl) (by rw [pk_uLn lb]; exact sl) ⟨by omega, b2⟩ ub db pb (by rw [az_f_s, az_f_n qb]) (by rw [pk_uLs, pk_uLn qb]) bl A2 q0 (by rw [az_f_n qb, pq]; exact hqu) (by rw [pq]; exact hr) (by omega) L5 (az_f_s _ _ _) (by rw [az_f_n lb]; exact fl) (fun i hi => az_f_n (hne i hi)) (by rw [pq]; exact k3) k4 (by rw [pq]; exact k5) (fun hp => by rw [az_f_n (hne p hp)]; exact k1 hp) (fun j c hj w => ?_) k6 k7)
      rw [az_z_n (hne j hj)]
      refine k2 j c hj (fun y => w ⟨y.1, ?_⟩)
      rw [az_f_n (by rw [← y.1]; exact hne j hj)]
      exact y.2
    have e3 : ∀ c, az_h (az_h (az_z ch b) b (az_dg (pf q) r) q) b (az_dg x r) l b c = if c = az_dg x r then l else if c = az_dg (pf q) r then q else 0 := by
      intro c
      by_cases z : c = az_dg x r
      · rw [if_pos z, z, az_h_s]
      · rw [if_neg z, az_h_n (fun w => z w.2)]
        by_cases y : c = az_dg (pf q) r
        · rw [if_pos y, y, az_h_s]
        · rw [if_neg y, az_h_n (fun w => y w.2), az_z_s]
    have e4 : ∀ j c, j ≠ b → az_h (az_h (az_z ch b) b (az_dg (pf q) r) q) b (az_dg x r) l j c = ch j c := by
      intro j c hj
      rw [az_h_n (fun w => hj w.1), az_h_n (fun w => hj w.1), az_z_n hj]
    by_cases p0 : p = 0
    · subst p0
      have nu0 : us 0 ≠ 1 := fun w => by have := (t.1 0 w).1; omega
      refine az_putInPlace0 rfl (fin cc4 tc4 _ b L4 ?_ ?_ ?_ (fun w => absurd w nu0) (fun j c hj _ => e4 j c (hne j hj)) (fun _ => rfl) (fun w => absurd rfl w))
      · rw [e3, if_neg gne, if_pos rfl]
      · rw [e3, if_pos rfl]
      · intro c w1 w2
        rw [e3, if_neg w2, if_neg w1]
    · obtain ⟨p1, p2, p3, p4⟩ : us p = 1 ∧ dp p < 4 ∧ az_un (dp p) (pf p) x ∧ q = ch p (az_dg x (dp p)) := ha.elim (fun z => absurd z.1 p0) id
      have pbn := hne p p1
      have dpp : az_f dp b r p = dp p := az_f_n pbn
      have dge : az_dg (az_cut x r) (dp p) = az_dg x (dp p) := az_un_dg (hpr p1) (by omega) (az_un_symm (az_cut_un x r))
      refine az_putInPlace rfl rfl L4 (by rw [az_f_n pbn]; exact v1 p p1) p0 (by omega) b2 (by omega) (by rw [pb]; exact Nat.lt_of_le_of_lt (az_cut_le x r) hx) ?_ (fun cc5 tc5 L5 => ?_)
      · rw [pb, dpp, dge, e4 _ _ pbn, ← p4]; exact q0
      · rw [pb, dpp, dge] at L5
        have e5 : ∀ c, az_h (az_h (az_h (az_z ch b) b (az_dg (pf q) r) q) b (az_dg x r) l) p (az_dg x (dp p)) b b c = az_h (az_h (az_z ch b) b (az_dg (pf q) r) q) b (az_dg x r) l b c := fun c => az_h_n (fun w => pbn w.1.symm)
        refine fin cc5 tc5 _ rt L5 ?_ ?_ ?_ (fun _ => az_h_s _ _ _ _) (fun j c hj w => ?_) (fun w => absurd w p0) (fun _ => rfl)
        · rw [e5, e3, if_neg gne, if_pos rfl]
        · rw [e5, e3, if_pos rfl]
        · intro c w1 w2
          rw [e5, e3, if_neg w2, if_neg w1]
        · rw [az_h_n w]; exact e4 j c (hne j hj)
end
end
section
/-! addLeaf's walk, takeOut -/
section
variable {m : Nat → Option Int32} {us dp pf ct : Nat → Nat} {sm : Nat → Int64} {fn tb cd cc tu tc : Nat → Nat} {ch : Nat → Nat → Nat} {rt : Nat} {n : Int} {x l : Nat}
theorem az_al_loop {post : SX → Prop} (t : az_T (az_K m) us dp pf ch rt) (hN : az_N m us dp pf ct sm) (hL : az_L (az_f us l 1) fn tb cd cc tu tc ch) (hM : az_M us dp fn n) (hu : ∀ i, us i ≤ 1) (hf : ∀ i, us i = 1 → dp i = 4 → fn i = 0)
    (hx : x < 65536) (nx : ¬ az_K m x) (hl : 0 < l ∧ l < 128) (ul : us l = 0) (dl : dp l = 4) (pl : pf l = x) (cl : ct l = 0) (sl : sm l = 0) (fl : fn l = 0) (en : n = az_C m 65536) (n63 : n ≤ 63)
    (h : ∀ (us' dp' pf' ct' : Nat → Nat) (sm' : Nat → Int64) (fn' tb' cd' cc' tu' tc' : Nat → Nat) (ch' : Nat → Nat → Nat) (rt' : Nat), az_I (fun k => az_K m k ∨ k = x) m (n + 1) us' dp' pf' ct' sm' fn' tb' cd' cc' tu' tc' ch' rt' → post (nI rt', az_A us', az_A dp', az_A pf', az_A ct', sm', az_A fn', az_A tb', az_A cd', az_A cc', az_A tu', az_A tc')) :
    ∀ d lv p q, lv + d = 4 → az_at us dp pf ch rt x p q → (q ≠ 0 → lv ≤ dp q) →
      wX_addLeaf_18 post (nI x) (nI l) (nI rt) (az_A (az_f us l 1)) (az_A dp) (az_A pf) (az_A ct) sm (az_A fn) (az_A tb) (az_A cd) (az_A cc) (az_A tu) (az_A tc) (d + 1) (nI p) (nI q) (nI lv) := by
  have v1 : ∀ i, us i = 1 → az_f us l 1 i = 1 := by
    intro i hi
    rw [az_f_n (fun z => by rw [z, ul] at hi; omega)]; exact hi
  have hq1 : ∀ p q, az_at us dp pf ch rt x p q → q ≠ 0 → us q = 1 := by
    intro p q ha q0
    rcases ha with ⟨_, z⟩ | ⟨z, z2, _, z4⟩
    · rw [z] at q0 ⊢; exact az_rootu t q0
    · rw [z4] at q0 ⊢; exact (t.2.2.1 p _ z z2 (az_dg_lt _ _) q0).1
  have no4 : ∀ q, us q = 1 → dp q = 4 → ¬ az_un (dp q) (pf q) x := by
    intro q q1 q4 hu
    rw [q4] at hu
    have e := az_un4.mp hu
    exact nx (by rw [e]; exact t.2.1 q q1 q4)
  intro d
  induction d with
  | zero =>
    intro lv p q hlv ha hq
    refine pk_le 4 lv (fun _ => az_al57 t hN hL hM hu hf hx nx hl ul dl pl cl sl fl en n63 ha ?_ h) (fun z => absurd z (by omega))
    by_cases q0 : q = 0
    · exact Or.inl q0
    · have q1 := hq1 p q ha q0
      have b := t.1 q q1
      have := hq q0
      exact Or.inr (no4 q q1 (by omega))
  | succ d ih =>
    intro lv p q hlv ha hq
    have q128 : q < 128 := by
      by_cases q0 : q = 0
      · omega
      · exact (t.1 q (hq1 p q ha q0)).2.1
    refine pk_le 4 lv (fun z => absurd z (by omega)) (fun _ => pk_eq q 0 (fun q0 => az_al57 t hN hL hM hu hf hx nx hl ul dl pl cl sl fl en n63 ha (Or.inl q0) h) (fun q0 => ?_) rfl rfl)
    have q1 := hq1 p q ha q0
    have b := t.1 q q1
    have hlq := hq q0
    refine az_isUnder rfl rfl q128 b.2.2.1 hx b.2.2.2.1 (fun hun => br_f (by decide) ?_) (fun hun => br_t rfl (az_al57 t hN hL hM hu hf hx nx hl ul dl pl cl sl fl en n63 ha (Or.inr hun) h))
    refine az_childToward rfl rfl (hL.1 q (v1 q q1)).2.2.2 q128 b.2.2.1 hx (fun hd => nm_r (nI_1 lv) (ih (lv + 1) q _ (by omega) (Or.inr ⟨q1, hd, hun, rfl⟩) (fun w => ?_))) (fun hd => absurd hun (no4 q q1 hd))
    have c := t.2.2.1 q _ q1 hd (az_dg_lt _ _) w
    omega
theorem az_addLeaf {post : SX → Prop} {p : Int32} (I : az_I (az_K m) m n us dp pf ct sm fn tb cd cc tu tc ch rt) (hp : p = nI x) (hx : x < 65536) (nx : ¬ az_K m x) (en : n = az_C m 65536) (n63 : n ≤ 63)
    (h : ∀ (us' dp' pf' ct' : Nat → Nat) (sm' : Nat → Int64) (fn' tb' cd' cc' tu' tc' : Nat → Nat) (ch' : Nat → Nat → Nat) (rt' : Nat), az_I (fun k => az_K m k ∨ k = x) m (n + 1) us' dp' pf' ct' sm' fn' tb' cd' cc' tu' tc' ch' rt' → post (nI rt', az_A us', az_A dp', az_A pf', az_A ct', sm', az_A fn', az_A tb', az_A cd', az_A cc', az_A tu', az_A tc')) :
    wpX_addLeaf post (nI rt, az_A us, az_A dp, az_A pf, az_A ct, sm, az_A fn, az_A tb, az_A cd, az_A cc, az_A tu, az_A tc) p := by
  subst hp
  obtain ⟨t, hN, hL, hM, hu, hf⟩ := I
  have free : ∃ j, 1 ≤ j ∧ j < 128 ∧ us j = 0 := by
    refine az_S_free hu ?_
    have e := az_used t hL hM hu n63
    omega
  unfold wpX_addLeaf
  refine az_newNode rfl (d := 4) rfl hx (by omega) hu free (fun l l1 l2 l3 => ⟨5, ?_⟩)
  have hne : ∀ i, us i = 1 → i ≠ l := by intro i hi z; rw [z, l3] at hi; omega
  have T1 : az_T (az_K m) us (az_f dp l 4) (az_f pf l (az_cut x 4)) (az_z ch l) rt := az_T_congr t (fun i hi => az_f_n (hne i hi)) (fun i hi => az_f_n (hne i hi)) (fun i hi c => az_z_n (hne i hi))
  have N1 : az_N m us (az_f dp l 4) (az_f pf l (az_cut x 4)) (az_f ct l 0) (vp_updL sm l 0) := az_N_congr hN (fun i hi => ⟨hi, az_f_n (hne i hi), az_f_n (hne i hi), az_f_n (hne i hi), pk_uLn (hne i hi)⟩) (by rw [az_f_n (by omega)]; exact hN.2.1) (by rw [pk_uLn (by omega)]; exact hN.2.2)
  have M1 : az_M us (az_f dp l 4) (az_f fn l 0) n := az_M_congr hM (fun i hi => ⟨az_f_n (hne i hi), az_f_n (hne i hi)⟩)
  have F1 : ∀ i, us i = 1 → az_f dp l 4 i = 4 → az_f fn l 0 i = 0 := by
    intro i hi hd
    rw [az_f_n (hne i hi)] at hd ⊢
    exact hf i hi hd
  exact az_al_loop T1 N1 (az_L_new hL l3 l2) M1 hu F1 hx nx ⟨by omega, l2⟩ l3 (az_f_s _ _ _) (by rw [az_f_s, az_cut4]) (az_f_s _ _ _) pk_uLs (az_f_s _ _ _) en n63 h 4 0 0 rt rfl (Or.inl ⟨rfl, rfl⟩) (fun _ => Nat.zero_le _)
theorem az_to68 {post : SX → Prop} {p g : Nat} (t : az_T (az_K m) us dp pf ch rt) (hN : az_N (az_put m x none) us dp pf ct sm) (hL : az_L us fn tb cd cc tu tc ch) (hM : az_M us dp fn n) (hu : ∀ i, us i ≤ 1) (hf : ∀ i, us i = 1 → dp i = 4 → fn i = 0)
    (l1 : us l = 1) (dl : dp l = 4) (pl : pf l = x) (hx : x < 65536) (en : n = az_C m 65536)
    (ha : az_at us dp pf ch rt x p l) (hg : p ≠ 0 → az_at us dp pf ch rt x g p)
    (h : ∀ (us' dp' pf' ct' : Nat → Nat) (sm' : Nat → Int64) (fn' tb' cd' cc' tu' tc' : Nat → Nat) (ch' : Nat → Nat → Nat) (rt' : Nat), az_I (az_K (az_put m x none)) (az_put m x none) (n - 1) us' dp' pf' ct' sm' fn' tb' cd' cc' tu' tc' ch' rt' → post (nI rt', az_A us', az_A dp', az_A pf', az_A ct', sm', az_A fn', az_A tb', az_A cd', az_A cc', az_A tu', az_A tc')) :
    wX_takeOut_68 post (nI l) (nI x) (nI g) (nI p) (nI rt) (az_A us) (az_A dp) (az_A pf) (az_A ct) sm (az_A fn) (az_A tb) (az_A cd) (az_A cc) (az_A tu) (az_A tc) := by
  have bl := t.1 l l1
  have p128 : p < 128 := by
    rcases ha with ⟨z, _⟩ | ⟨z, _⟩
    · omega
    · exact (t.1 p z).2.1
  have tl : tb l = 0 := az_leaf_tb hL l1 (hf l l1 dl)
  refine ⟨vp_in_nI bl.2.1 (by omega), nm_r (az_updA rfl (by omega) az_b0) (pk_eq p 0 (fun p0 => ?_) (fun p0 => ?_) rfl rfl)⟩
  · have er : rt = l := by
      rcases ha with ⟨_, z⟩ | ⟨z, _⟩
      · exact z.symm
      · rw [p0] at z; have := (t.1 0 z).1; omega
    exact h _ _ _ _ _ _ _ _ _ _ _ _ _ (az_finTA t hN hL hM hu hf l1 dl pl er)
  · obtain ⟨p1, p2, p3, p4⟩ : us p = 1 ∧ dp p < 4 ∧ az_un (dp p) (pf p) x ∧ l = ch p (az_dg x (dp p)) := ha.elim (fun z => absurd z.1 p0) id
    have hg' := hg p0
    have lp : p ≠ l := by intro z; rw [z, dl] at p2; omega
    have n2 := az_n_two t p1 p2
    have f2 := az_fn2 t hL p1 p2
    have f16 := az_fn16 hL p1
    have L1 := az_L_less hL tl
    have v1 : az_f us l 0 p = 1 := by rw [az_f_n lp]; exact p1
    have i8 : vp_in (nI p) 128 := vp_in_nI p128 (by omega)
    refine az_dropChild rfl rfl L1 v1 p2 hx (by rw [← p4]; omega) (fun tb' cd' cc' tu' tc' L' => ⟨i8, pk_eq (fn p - 1) 1 (fun e1 => ?_) (fun e1 => ?_) ?_ rfl⟩)
    · have fp : az_f fn p (fn p - 1) p = 1 := by rw [az_f_s]; exact e1
      have l' := L'.1 p v1
      have t0 : tb' p = 0 := by
        rcases l'.2.2.2 with ⟨w, _⟩ | ⟨_, w⟩
        · exact w
        · omega
      obtain ⟨c1, c2, c3, c4⟩ : az_cel p 1 cd' cc' (az_h ch p (az_dg x (dp p)) 0 p) := by
        rcases l'.2.2.2 with ⟨_, w⟩ | ⟨_, w⟩
        · rw [fp] at w; exact w
        · omega
      obtain ⟨o3, o2, o1⟩ := c2 0 (by omega)
      rw [Nat.add_zero] at o3 o2 o1
      have o4 : cd' (p * 4) ≠ az_dg x (dp p) := by
        intro w
        rw [w, az_h_s] at o1
        exact o2 o1.symm
      have o1' : ch p (cd' (p * 4)) = cc' (p * 4) := by
        rw [az_h_n (fun w => o4 w.2)] at o1
        exact o1
      have o5 : ∀ c, c < 16 → c ≠ az_dg x (dp p) → ch p c ≠ 0 → c = cd' (p * 4) := by
        intro c hc w1 w2
        obtain ⟨e, he, hce⟩ := c4 c hc (by rw [az_h_n (fun w => w1 w.2)]; exact w2)
        have e0 : e = 0 := by omega
        rw [e0, Nat.add_zero] at hce
        exact hce.symm
      have ou := t.2.2.1 p _ p1 p2 o3 (by rw [o1']; exact o2)
      rw [o1'] at ou
      have bo := t.1 _ ou.1
      have ix : nI p * 4 = nI (p * 4) := pk_mul p 4
      refine ⟨pk_in (p * 4) 512 (by omega) ix, nm_r (az_at' ix (by omega)) ?_⟩
      have fin : ∀ (cc5 tc5 : Nat → Nat) (ch5 : Nat → Nat → Nat) (rt5 : Nat), az_L (az_f us l 0) (az_f fn p (fn p - 1)) tb' cd' cc5 tu' tc5 ch5 →
          (us g = 1 → ch5 g (az_dg x (dp g)) = cc' (p * 4)) → (∀ j c, us j = 1 → j ≠ p → ¬ (j = g ∧ c = az_dg x (dp g)) → ch5 j c = ch j c) → (g = 0 → rt5 = cc' (p * 4)) → (g ≠ 0 → rt5 = rt) →
          vp_in (nI p) 128 ∧ ∀ a, a = upd (az_A (az_f us l 0)) (nI p).toNatClampNeg (vp_nar .boolean 0) → post (nI rt5, a, az_A dp, az_A pf, az_A ct, sm, az_A (az_f fn p (fn p - 1)), az_A tb', az_A cd', az_A cc5, az_A tu', az_A tc5) := by
        intro cc5 tc5 ch5 rt5 L5 k1 k2 k6 k7
        refine ⟨i8, nm_r (az_updA rfl (by omega) az_b0) (h _ _ _ _ _ _ _ _ _ _ _ _ _ (az_finTC (fn := fn) t hN hM hu hf l1 dl pl p1 p2 p3 p4.symm (by omega) hg' o1' o2 o3 o4 o5 (az_L_less L5 t0) (by omega) (fun i hi => az_f_n hi) k1 k2 k6 k7))⟩
      by_cases g0 : g = 0
      · subst g0
        have nu0 : us 0 ≠ 1 := fun w => by have := (t.1 0 w).1; omega
        exact az_putInPlace0 rfl (fin cc' tc' _ _ L' (fun w => absurd w nu0) (fun j c hj w _ => az_h_n (fun y => w y.1)) (fun _ => rfl) (fun w => absurd rfl w))
      · obtain ⟨g1, g2, g3, g4⟩ : us g = 1 ∧ dp g < 4 ∧ az_un (dp g) (pf g) x ∧ p = ch g (az_dg x (dp g)) := hg'.elim (fun z => absurd z.1 g0) id
        have gu := t.2.2.1 g _ g1 g2 (az_dg_lt _ _) (by rw [← g4]; exact p0)
        rw [← g4] at gu
        have gp : g ≠ p := by intro z; rw [z] at gu; omega
        have gl : g ≠ l := by intro z; rw [z, dl] at g2; omega
        have dge : az_dg (pf (cc' (p * 4))) (dp g) = az_dg x (dp g) := az_un_dg gu.2.1 (by omega) (az_un_trans (az_un_symm p3) ou.2.2.1)
        refine az_putInPlace rfl rfl L' (by rw [az_f_n gl]; exact g1) g0 g2 bo.2.1 o2 bo.2.2.2.1 ?_ (fun cc5 tc5 L5 => ?_)
        · rw [dge, az_h_n (fun w => gp w.1), ← g4]; exact p0
        · rw [dge] at L5
          exact fin cc5 tc5 _ rt L5 (fun _ => az_h_s _ _ _ _) (fun j c hj w1 w2 => by rw [az_h_n w2, az_h_n (fun y => w1 y.1)]) (fun w => absurd w g0) (fun _ => rfl)
    · exact h _ _ _ _ _ _ _ _ _ _ _ _ _ (az_finTB t hN hM hu hf l1 dl pl p1 p2 p3 p4.symm (by omega) L' rfl (by omega))
    · rw [az_at' rfl (by omega), az_f_s]
theorem az_to_loop {post : SX → Prop} (t : az_T (az_K m) us dp pf ch rt) (hN : az_N (az_put m x none) us dp pf ct sm) (hL : az_L us fn tb cd cc tu tc ch) (hM : az_M us dp fn n) (hu : ∀ i, us i ≤ 1) (hf : ∀ i, us i = 1 → dp i = 4 → fn i = 0)
    (l1 : us l = 1) (dl : dp l = 4) (pl : pf l = x) (hx : x < 65536) (en : n = az_C m 65536)
    (h : ∀ (us' dp' pf' ct' : Nat → Nat) (sm' : Nat → Int64) (fn' tb' cd' cc' tu' tc' : Nat → Nat) (ch' : Nat → Nat → Nat) (rt' : Nat), az_I (az_K (az_put m x none)) (az_put m x none) (n - 1) us' dp' pf' ct' sm' fn' tb' cd' cc' tu' tc' ch' rt' → post (nI rt', az_A us', az_A dp', az_A pf', az_A ct', sm', az_A fn', az_A tb', az_A cd', az_A cc', az_A tu', az_A tc')) :
    ∀ d lv g p q, lv + d = 4 → us q = 1 → az_un (dp q) (pf q) x → lv ≤ dp q → az_at us dp pf ch rt x p q → (p ≠ 0 → az_at us dp pf ch rt x g p) →
      wX_takeOut_34 post (nI l) (nI x) (nI rt) (az_A us) (az_A dp) (az_A pf) (az_A ct) sm (az_A fn) (az_A tb) (az_A cd) (az_A cc) (az_A tu) (az_A tc) (d + 1) (nI g) (nI p) (nI q) (nI lv) := by
  have ulx : az_un (dp l) (pf l) x := by rw [dl, pl]; exact az_un_refl _ _
  have bl := t.1 l l1
  intro d
  induction d with
  | zero =>
    intro lv g p q hlv q1 hun hlq ha hg
    have b := t.1 q q1
    have e := az_same t q1 l1 hun ulx (by omega)
    rw [e] at ha
    exact pk_le 4 lv (fun _ => az_to68 t hN hL hM hu hf l1 dl pl hx en ha hg h) (fun z => absurd z (by omega))
  | succ d ih =>
    intro lv g p q hlv q1 hun hlq ha hg
    have b := t.1 q q1
    refine pk_le 4 lv (fun z => absurd z (by omega)) (fun _ => pk_eq q l (fun e => ?_) (fun ne => ?_) rfl rfl)
    · rw [e] at ha
      exact az_to68 t hN hL hM hu hf l1 dl pl hx en ha hg h
    · have d4 : dp q < 4 := by
        rcases Nat.lt_or_ge (dp q) 4 with w | w
        · exact w
        · exact absurd (az_same t q1 l1 hun ulx (by omega)) ne
      have pa := az_path t q1 l1 hun ulx (by omega)
      refine az_childToward rfl rfl (hL.1 q q1).2.2.2 b.2.1 b.2.2.1 hx (fun _ => nm_r (nI_1 lv) (ih (lv + 1) p q _ (by omega) pa.2.1 pa.2.2.2.2 (by omega) (Or.inr ⟨q1, d4, hun, rfl⟩) (fun _ => ha))) (fun w => by omega)
theorem az_takeOut {post : SX → Prop} {p : Int32} (I : az_I (az_K m) m n us dp pf ct sm fn tb cd cc tu tc ch rt) (hp : p = nI l) (l1 : us l = 1) (dl : dp l = 4) (en : n = az_C m 65536)
    (h : ∀ (us' dp' pf' ct' : Nat → Nat) (sm' : Nat → Int64) (fn' tb' cd' cc' tu' tc' : Nat → Nat) (ch' : Nat → Nat → Nat) (rt' : Nat), az_I (az_K (az_put m (pf l) none)) (az_put m (pf l) none) (n - 1) us' dp' pf' ct' sm' fn' tb' cd' cc' tu' tc' ch' rt' → post (nI rt', az_A us', az_A dp', az_A pf', az_A ct', sm', az_A fn', az_A tb', az_A cd', az_A cc', az_A tu', az_A tc')) :
    wpX_takeOut post (nI rt, az_A us, az_A dp, az_A pf, az_A ct, sm, az_A fn, az_A tb, az_A cd, az_A cc, az_A tu, az_A tc) p := by
  subst hp
  obtain ⟨t, hN, hL, hM, hu, hf⟩ := I
  have b := t.1 l l1
  have kx := t.2.1 l l1 dl
  obtain ⟨v, hv⟩ := az_K_some kx
  have lv := az_leaf t hN l1 dl hv
  have i8 : vp_in (nI l) 128 := vp_in_nI b.2.1 (by omega)
  refine ⟨i8, nm_r (az_at' rfl (by omega)) ⟨i8, az_addOnPath t hL b.2.2.2.1 kx rfl ⟨5, ?_⟩⟩⟩
  have on1 : ∀ j, az_on us dp pf (pf l) j = true → 1 ≤ ct j := by
    intro j hj
    obtain ⟨uj, hun⟩ := az_on_iff.mp hj
    have bj := t.1 j uj
    have iv := (az_un_iv bj.2.2.1 bj.2.2.2.2).mp hun
    have e := (hN.1 j uj).1
    have g := az_C_gt iv.1 iv.2 kx
    omega
  have ec : az_av (az_A ct) (-1) (az_on us dp pf (pf l)) = az_A (fun j => if az_on us dp pf (pf l) j = true then ct j - 1 else ct j) := by
    refine az_av_nat (fun j hj => ?_) (fun j hj => if_neg hj)
    rw [if_pos hj]
    have e1 := on1 j hj
    obtain ⟨c, hc⟩ : ∃ c, ct j = c + 1 := ⟨ct j - 1, by omega⟩
    rw [hc, pk_m1]
    rfl
  rw [ec, nI_clamp (by omega)]
  have n0 : ¬ az_on us dp pf (pf l) 0 = true := fun w => by have := (t.1 0 (az_on_iff.mp w).1).1; omega
  have hN' : az_N (az_put m (pf l) none) us dp pf (fun j => if az_on us dp pf (pf l) j = true then ct j - 1 else ct j) (az_aL sm (-(sm l)) (az_on us dp pf (pf l))) := by
    refine az_N_put t.1 hN (fun j hj => ?_) (fun j hj => ?_) ?_ ?_
    · rw [az_c1_none (az_put_s m (pf l) none), az_c1_some hv]
      by_cases z : az_on us dp pf (pf l) j = true
      · have := on1 j z
        rw [if_pos z, if_pos z]; omega
      · rw [if_neg z, if_neg z]; omega
    · rw [az_cq_none (az_put_s m (pf l) none), az_cq_some hv]
      unfold az_aL
      by_cases z : az_on us dp pf (pf l) j = true
      · rw [if_pos z, if_pos z, lv.2, ← Int64.ofInt_neg]
        congr 2
        omega
      · rw [if_neg z, if_neg z]
        exact (Int64.add_zero _).symm
    · rw [if_neg n0]; exact hN.2.1
    · unfold az_aL
      rw [if_neg n0]; exact hN.2.2
  have r := az_rootk t kx
  exact az_to_loop t hN' hL hM hu hf l1 dl rfl b.2.2.2.1 en h 4 0 0 0 rt rfl r.2.1 r.2.2 (Nat.zero_le _) (Or.inl ⟨rfl, rfl⟩) (fun w => absurd rfl w)
end
end
section
/-! X's public methods against the content m -/
def az_X (m : Nat → Option Int32) (u : SX) : Prop := ∃ (us dp pf ct : Nat → Nat) (sm : Nat → Int64) (fn tb cd cc tu tc : Nat → Nat) (ch : Nat → Nat → Nat) (rt : Nat),
  u = (nI rt, az_A us, az_A dp, az_A pf, az_A ct, sm, az_A fn, az_A tb, az_A cd, az_A cc, az_A tu, az_A tc) ∧ az_I (az_K m) m (az_C m 65536) us dp pf ct sm fn tb cd cc tu tc ch rt ∧ az_C m 65536 ≤ 64
theorem az_X_lt {m : Nat → Option Int32} {u : SX} (X : az_X m u) {k : Nat} (hk : az_K m k) : k < 65536 := by
  obtain ⟨us, dp, pf, ct, sm, fn, tb, cd, cc, tu, tc, ch, rt, rfl, ⟨t, _⟩, _⟩ := X
  exact t.2.2.2.2.2.2.2 k hk
theorem az_Xput {m : Nat → Option Int32} {u : SX} {post : Int32 → SX → Prop} {p0 p1 : Int32} (X : az_X m u) (hb : az_nk p0 → post (-1) u)
    (hs : ∀ x, x < 65536 → p0 = nI x → az_K m x → ∀ u', az_X (az_put m x (some p1)) u' → post 0 u')
    (hf : ∀ x, x < 65536 → p0 = nI x → ¬ az_K m x → az_C m 65536 = 64 → post (-2) u)
    (hn : ∀ x, x < 65536 → p0 = nI x → ¬ az_K m x → az_C m 65536 ≤ 63 → ∀ u', az_X (az_put m x (some p1)) u' → post 1 u') : wpX_put post u p0 p1 := by
  obtain ⟨us, dp, pf, ct, sm, fn, tb, cd, cc, tu, tc, ch, rt, rfl, I, hC⟩ := X
  have I' := I
  obtain ⟨t, hN, hL, hM, hu, hfl⟩ := I'
  have r8 := az_rt128 t
  have rC := (az_rootC t hN).1
  unfold wpX_put
  refine az_isKey (fun x hx e => br_f (by decide) ?_) (fun hk => br_t rfl (hb hk))
  subst e
  refine az_leafOf t hL hx (fun l l1 dl pl => ?_) (fun nk => br_t rfl ⟨vp_in_nI r8 (by omega), pk_lt (ct rt) 64 (fun z => ?_) (fun z => hf x hx rfl nk (by omega)) (az_at' rfl (by omega)) rfl⟩)
  · have b := t.1 l l1
    have kx : az_K m x := by rw [← pl]; exact t.2.1 l l1 dl
    obtain ⟨v, hv⟩ := az_K_some kx
    have lf := az_leaf t hN l1 dl (v := v) (by rw [pl]; exact hv)
    refine pk_eq l 0 (fun z => absurd z (by omega)) (fun _ => ⟨vp_in_nI b.2.1 (by omega), az_addOnPath t hL hx kx rfl (hs x hx rfl kx _ ?_)⟩) rfl rfl
    have ec : az_av (az_A ct) 0 (az_on us dp pf x) = az_A ct := az_av_nat (fun j _ => Int32.add_zero _) (fun j _ => rfl)
    rw [ec, nI_clamp (by omega)]
    refine ⟨us, dp, pf, ct, _, fn, tb, cd, cc, tu, tc, ch, rt, rfl, ⟨az_T_keys t (fun k => ?_), ?_, hL, by rw [az_C_set kx]; exact hM, hu, hfl⟩, by rw [az_C_set kx]; exact hC⟩
    · rw [az_K_put]
      exact ⟨fun w => w.elim id (fun y => by rw [y]; exact kx), Or.inl⟩
    · have n0 : ¬ az_on us dp pf x 0 = true := fun w => by have := (t.1 0 (az_on_iff.mp w).1).1; omega
      refine az_N_put t.1 hN (fun j hj => ?_) (fun j hj => ?_) hN.2.1 ?_
      · rw [az_c1_some (az_put_s m x (some p1)), az_c1_K kx]
        split <;> omega
      · rw [az_cq_some (az_put_s m x (some p1)), az_cq_some hv, lf.2, az_i64, ← Int64.ofInt_sub]
        unfold az_aL
        by_cases z : az_on us dp pf x j = true
        · rw [if_pos z, if_pos z]
        · rw [if_neg z, if_neg z]
          exact (Int64.add_zero _).symm
      · unfold az_aL
        rw [if_neg n0]; exact hN.2.2
  · refine az_addLeaf I rfl hx nk rfl (by omega) (fun us' dp' pf' ct' sm' fn' tb' cd' cc' tu' tc' ch' rt' I2 => ?_)
    obtain ⟨t', hN', hL', hM', hu', hf'⟩ := I2
    refine az_addOnPath t' hL' hx (Or.inr rfl) rfl (hn x hx rfl nk (by omega) _ ?_)
    have ec : az_av (az_A ct') 1 (az_on us' dp' pf' x) = az_A (fun j => if az_on us' dp' pf' x j = true then ct' j + 1 else ct' j) := by
      refine az_av_nat (fun j hj => ?_) (fun j hj => if_neg hj)
      rw [if_pos hj]
      exact nI_1 _
    have n0 : ¬ az_on us' dp' pf' x 0 = true := fun w => by have := (t'.1 0 (az_on_iff.mp w).1).1; omega
    rw [ec]
    refine ⟨us', dp', pf', _, _, fn', tb', cd', cc', tu', tc', ch', rt', rfl, ⟨az_T_keys t' (fun k => az_K_put k), ?_, hL', by rw [az_C_add hx nk]; exact hM', hu', hf'⟩, by rw [az_C_add hx nk]; omega⟩
    refine az_N_put t'.1 hN' (fun j hj => ?_) (fun j hj => ?_) ?_ ?_
    · rw [az_c1_some (az_put_s m x (some p1)), az_c1_none (az_nK nk)]
      by_cases z : az_on us' dp' pf' x j = true
      · rw [if_pos z, if_pos z]; omega
      · rw [if_neg z, if_neg z]; omega
    · rw [az_cq_some (az_put_s m x (some p1)), az_cq_none (az_nK nk), az_i64]
      unfold az_aL
      by_cases z : az_on us' dp' pf' x j = true
      · rw [if_pos z, if_pos z]
        congr 2
        omega
      · rw [if_neg z, if_neg z]
        exact (Int64.add_zero _).symm
    · rw [if_neg n0]; exact hN'.2.1
    · unfold az_aL
      rw [if_neg n0]; exact hN'.2.2
theorem az_Xremove {m : Nat → Option Int32} {u : SX} {post : Int32 → SX → Prop} {p0 : Int32} (X : az_X m u) (hb : az_nk p0 → post (-1) u)
    (h0 : ∀ x, x < 65536 → p0 = nI x → ¬ az_K m x → post (-3) u)
    (h1 : ∀ x, x < 65536 → p0 = nI x → az_K m x → ∀ u' (c : Nat), az_X (az_put m x none) u' → (c : Int) = az_C (az_put m x none) 65536 → post (nI c) u') : wpX_remove post u p0 := by
  obtain ⟨us, dp, pf, ct, sm, fn, tb, cd, cc, tu, tc, ch, rt, rfl, I, hC⟩ := X
  have I' := I
  obtain ⟨t, hN, hL, hM, hu, hfl⟩ := I'
  unfold wpX_remove
  refine az_isKey (fun x hx e => br_f (by decide) ?_) (fun hk => br_t rfl (hb hk))
  subst e
  refine az_leafOf t hL hx (fun l l1 dl pl => ?_) (fun nk => br_t rfl (h0 x hx rfl nk))
  have b := t.1 l l1
  have kx : az_K m x := by rw [← pl]; exact t.2.1 l l1 dl
  refine pk_eq l 0 (fun z => absurd z (by omega)) (fun _ => az_takeOut I rfl l1 dl rfl (fun us' dp' pf' ct' sm' fn' tb' cd' cc' tu' tc' ch' rt' I2 => ?_)) rfl rfl
  rw [pl, ← az_C_take hx kx] at I2
  have r8 := az_rt128 I2.1
  refine ⟨vp_in_nI r8 (by omega), ?_⟩
  rw [az_at' rfl (by omega)]
  exact h1 x hx rfl kx _ _ ⟨us', dp', pf', ct', sm', fn', tb', cd', cc', tu', tc', ch', rt', rfl, I2, by rw [az_C_take hx kx]; omega⟩ (az_rootC I2.1 I2.2.1).1
theorem az_rr_loop {m : Nat → Option Int32} {post : Int32 → SX → Prop} {a b fr tk : Nat} (hab : a ≤ b) (hb : b < 65536) (tk64 : tk ≤ 64)
    (h : ∀ u', az_X (az_cutout m a b) u' → post (nI tk) u') :
    ∀ d i (m' : Nat → Option Int32) (us dp pf ct : Nat → Nat) (sm : Nat → Int64) (fn tb cd cc tu tc : Nat → Nat) (ch : Nat → Nat → Nat) (rt : Nat), i + d = tk → az_I (az_K m') m' (az_C m' 65536) us dp pf ct sm fn tb cd cc tu tc ch rt → az_C m' 65536 ≤ 64 → az_less m m' a b → az_C m' a = fr → az_C m' (b + 1) - az_C m' a = d →
      wX_removeRange_41 post (nI fr) (nI tk) (d + 1) (nI i) (nI rt) (az_A us) (az_A dp) (az_A pf) (az_A ct) sm (az_A fn) (az_A tb) (az_A cd) (az_A cc) (az_A tu) (az_A tc) := by
  intro d
  induction d with
  | zero =>
    intro i m' us dp pf ct sm fn tb cd cc tu tc ch rt hi I hC hl h1 h2
    refine pk_le tk i (fun _ => h _ ?_) (fun z => absurd z (by omega))
    have e : m' = az_cutout m a b := by
      refine az_less_end hl (fun k k1 k2 k3 => ?_)
      have := az_C_gt k1 (show k < b + 1 by omega) k3
      omega
    rw [e] at I hC
    exact ⟨us, dp, pf, ct, sm, fn, tb, cd, cc, tu, tc, ch, rt, rfl, I, hC⟩
  | succ d ih =>
    intro i m' us dp pf ct sm fn tb cd cc tu tc ch rt hi I hC hl h1 h2
    have I' := I
    obtain ⟨t, hN, hL, hM, hu, hfl⟩ := I'
    have mo := az_C_mono m' (show b + 1 ≤ 65536 by omega)
    refine pk_le tk i (fun z => absurd z (by omega)) (fun _ => az_leafAtRank t hN hL hC rfl (by omega) (fun l l1 dl kl cl => ?_))
    have lb := t.1 l l1
    have ge : a ≤ pf l := by
      rcases Nat.lt_or_ge (pf l) a with w | w
      · have := az_C_gt (Nat.le_refl (pf l)) w kl; omega
      · exact w
    have le : pf l ≤ b := by
      rcases Nat.lt_or_ge b (pf l) with w | w
      · have := az_C_mono m' (show b + 1 ≤ pf l by omega); omega
      · exact w
    refine az_takeOut I rfl l1 dl rfl (fun us' dp' pf' ct' sm' fn' tb' cd' cc' tu' tc' ch' rt' I2 => nm_r (nI_1 i) ?_)
    rw [← az_C_take lb.2.2.2.1 kl] at I2
    refine ih (i + 1) _ us' dp' pf' ct' sm' fn' tb' cd' cc' tu' tc' ch' rt' (by omega) I2 (by rw [az_C_take lb.2.2.2.1 kl]; omega) (az_less_take hl ge le) ?_ ?_
    · rw [az_C_put, if_neg (by omega)]; omega
    · rw [az_C_put, az_C_put, if_pos (show pf l < b + 1 by omega), if_neg (show ¬ pf l < a by omega), az_c1_none (az_put_s m' (pf l) none), az_c1_K kl]; omega
theorem az_XremoveRange {m : Nat → Option Int32} {u : SX} {post : Int32 → SX → Prop} {p0 p1 : Int32} (X : az_X m u) (hb : (az_nk p0 ∨ az_nk p1) → post (-1) u)
    (h0 : ∀ a b, a < 65536 → b < 65536 → p0 = nI a → p1 = nI b → b < a → post 0 u)
    (h1 : ∀ a b, a ≤ b → b < 65536 → p0 = nI a → p1 = nI b → ∀ u' (c : Nat), az_X (az_cutout m a b) u' → (c : Int) = az_C m (b + 1) - az_C m a → post (nI c) u') : wpX_removeRange post u p0 p1 := by
  obtain ⟨us, dp, pf, ct, sm, fn, tb, cd, cc, tu, tc, ch, rt, rfl, I, hC⟩ := X
  have I' := I
  obtain ⟨t, hN, hL, hM, hu, hfl⟩ := I'
  unfold wpX_removeRange
  refine az_isKey (fun a ha ea => br_f (by decide) (az_isKey (fun b hb' eb => br_f (by decide) ?_) (fun hk => br_t rfl (hb (Or.inr hk))))) (fun hk => br_t rfl (hb (Or.inl hk)))
  subst ea eb
  refine pk_le a b (fun z => az_countBelow t hN hL (fun fr hfr => az_countUpTo t hN hL (fun up hup => ?_))) (fun z => h0 a b ha hb' rfl rfl z)
  rw [nI_toInt (by omega)] at hfr hup
  rw [az_cl_nat rfl (by omega)] at hfr
  rw [az_cl_nat (k := b + 1) (by omega) (by omega)] at hup
  have mo1 := az_C_mono m (show a ≤ b + 1 by omega)
  have mo2 := az_C_mono m (show b + 1 ≤ 65536 by omega)
  have nn := az_C_nn m a
  refine nm_r (pk_sub (by omega)) ⟨up - fr + 1, ?_⟩
  exact az_rr_loop z hb' (by omega) (fun u' X' => h1 a b z hb' rfl rfl u' _ X' (by omega)) (up - fr) 0 m us dp pf ct sm fn tb cd cc tu tc ch rt (by omega) I hC (az_less_refl m a b) hfr.symm (by omega)
theorem az_Xcontains {m : Nat → Option Int32} {u : SX} {post : Int32 → Prop} {p0 : Int32} (X : az_X m u) (h1 : ∀ x, x < 65536 → p0 = nI x → az_K m x → post 1) (h0 : (∀ x, x < 65536 → p0 = nI x → ¬ az_K m x) → post 0) : wpX_contains post u p0 := by
  obtain ⟨us, dp, pf, ct, sm, fn, tb, cd, cc, tu, tc, ch, rt, rfl, ⟨t, hN, hL, hM, hu, hfl⟩, hC⟩ := X
  unfold wpX_contains
  refine az_isKey (fun x hx e => br_f (by decide) ?_) (fun hk => br_t rfl (h0 (fun x hx e => absurd hk (by rw [e]; exact az_nk_of hx))))
  subst e
  refine az_leafOf t hL hx (fun l l1 dl pl => ?_) (fun nk => br_t rfl (h0 (fun y hy e => ?_)))
  · have b := t.1 l l1
    exact pk_eq l 0 (fun z => absurd z (by omega)) (fun _ => h1 x hx rfl (by rw [← pl]; exact t.2.1 l l1 dl)) rfl rfl
  · rw [nI_eq (by omega) (by omega)] at e
    rw [← e]; exact nk
theorem az_XvalueOf {m : Nat → Option Int32} {u : SX} {post : Int32 → Prop} {p0 : Int32} (X : az_X m u) (h1 : ∀ x v, x < 65536 → p0 = nI x → m x = some v → post v) (h0 : (∀ x, x < 65536 → p0 = nI x → ¬ az_K m x) → post 0) : wpX_valueOf post u p0 := by
  obtain ⟨us, dp, pf, ct, sm, fn, tb, cd, cc, tu, tc, ch, rt, rfl, ⟨t, hN, hL, hM, hu, hfl⟩, hC⟩ := X
  unfold wpX_valueOf
  refine az_isKey (fun x hx e => br_f (by decide) ?_) (fun hk => br_t rfl (h0 (fun x hx e => absurd hk (by rw [e]; exact az_nk_of hx))))
  subst e
  refine az_leafOf t hL hx (fun l l1 dl pl => ?_) (fun nk => ⟨vp_in_nI (n := 0) (by omega) (by omega), ?_⟩)
  · have b := t.1 l l1
    obtain ⟨v, hv⟩ := az_K_some (t.2.1 l l1 dl)
    refine ⟨vp_in_nI b.2.1 (by omega), ?_⟩
    rw [nI_clamp (by omega), (az_leaf t hN l1 dl hv).2, az_i32]
    exact h1 x v hx rfl (by rw [← pl]; exact hv)
  · have e : (sm (0 : Int32).toNatClampNeg).toInt32 = 0 := by
      rw [show (0 : Int32).toNatClampNeg = 0 from by decide, hN.2.2]
      decide
    rw [e]
    refine h0 (fun y hy e => ?_)
    rw [nI_eq (by omega) (by omega)] at e
    rw [← e]; exact nk
theorem az_Xsize {m : Nat → Option Int32} {u : SX} {post : Int32 → Prop} (X : az_X m u) (h : ∀ c : Nat, (c : Int) = az_C m 65536 → post (nI c)) : wpX_size post u := by
  obtain ⟨us, dp, pf, ct, sm, fn, tb, cd, cc, tu, tc, ch, rt, rfl, ⟨t, hN, hL, hM, hu, hfl⟩, hC⟩ := X
  have r8 := az_rt128 t
  refine ⟨vp_in_nI r8 (by omega), ?_⟩
  rw [az_at' rfl (by omega)]
  exact h _ (az_rootC t hN).1
theorem az_XatRank {m : Nat → Option Int32} {u : SX} {post : Int32 → Prop} {p0 : Int32} (X : az_X m u) (h : ∀ r, az_rX m p0.toInt r → post r) : wpX_atRank post u p0 := by
  obtain ⟨us, dp, pf, ct, sm, fn, tb, cd, cc, tu, tc, ch, rt, rfl, ⟨t, hN, hL, hM, hu, hfl⟩, hC⟩ := X
  have r8 := az_rt128 t
  have rC := (az_rootC t hN).1
  refine br_c (fun z => h _ (Or.inl ⟨rfl, Or.inl ((az_lt0 p0).mp z)⟩)) (fun z => ⟨vp_in_nI r8 (by omega), ?_⟩)
  obtain ⟨j, hj, rfl⟩ := nI_of z
  rw [nI_toInt hj] at h
  refine pk_lt j (ct rt) (fun y => ?_) (fun y => h _ (Or.inl ⟨rfl, Or.inr (by omega)⟩)) rfl (az_at' rfl (by omega))
  refine az_leafAtRank t hN hL hC rfl (by omega) (fun l l1 dl kl cl => ?_)
  have b := t.1 l l1
  refine ⟨vp_in_nI b.2.1 (by omega), ?_⟩
  rw [az_at' rfl (by omega)]
  exact h _ (Or.inr ⟨pf l, rfl, b.2.2.2.1, kl, cl⟩)
theorem az_Xabove {m : Nat → Option Int32} {u : SX} {post : Int32 → Prop} {p0 : Int32} (X : az_X m u) (h : ∀ r, az_rX m (az_C m (az_cl (p0.toInt + 1))) r → post r) : wpX_above post u p0 := by
  have X' := X
  obtain ⟨us, dp, pf, ct, sm, fn, tb, cd, cc, tu, tc, ch, rt, rfl, ⟨t, hN, hL, hM, hu, hfl⟩, hC⟩ := X
  unfold wpX_above
  refine az_countUpTo t hN hL (fun c hc => az_XatRank X' (fun r hr => h r ?_))
  have mo := az_C_mono m (az_cl_le (p0.toInt + 1))
  rw [nI_toInt (by omega), hc] at hr
  exact hr
theorem az_Xbelow {m : Nat → Option Int32} {u : SX} {post : Int32 → Prop} {p0 : Int32} (X : az_X m u) (h : ∀ r, az_rX m (az_C m (az_cl p0.toInt) - 1) r → post r) : wpX_below post u p0 := by
  have X' := X
  obtain ⟨us, dp, pf, ct, sm, fn, tb, cd, cc, tu, tc, ch, rt, rfl, ⟨t, hN, hL, hM, hu, hfl⟩, hC⟩ := X
  unfold wpX_below
  refine az_countBelow t hN hL (fun c hc => nm_e (az_XatRank X' (fun r hr => h r ?_)))
  have mo := az_C_mono m (az_cl_le p0.toInt)
  have e : (nI c - 1).toInt = (c : Int) - 1 := pk_sub_toInt (b := 1) (by omega) (by omega)
  rw [e, hc] at hr
  exact hr
theorem az_cl_mono {a b : Int} (h : a ≤ b) : az_cl a ≤ az_cl b := by
  unfold az_cl
  repeat' split
  all_goals omega
theorem az_XcountRange {m : Nat → Option Int32} {u : SX} {post : Int32 → Prop} {p0 p1 : Int32} (X : az_X m u) (h : ∀ c : Nat, p0.toInt ≤ p1.toInt → (c : Int) = az_C m (az_cl (p1.toInt + 1)) - az_C m (az_cl p0.toInt) → post (nI c)) (h0 : p1.toInt < p0.toInt → post 0) : wpX_countRange post u p0 p1 := by
  obtain ⟨us, dp, pf, ct, sm, fn, tb, cd, cc, tu, tc, ch, rt, rfl, ⟨t, hN, hL, hM, hu, hfl⟩, hC⟩ := X
  refine br_c (fun z => ?_) (fun z => h0 ?_)
  · rw [Int32.le_iff_toInt_le] at z
    refine az_countUpTo t hN hL (fun c hc => az_countBelow t hN hL (fun d hd => ?_))
    have mo := az_C_mono m (az_cl_mono (show p0.toInt ≤ p1.toInt + 1 by omega))
    rw [pk_sub (by omega)]
    exact h _ z (by omega)
  · rw [Int32.le_iff_toInt_le] at z
    omega
theorem az_XsharedDigits {m : Nat → Option Int32} {u : SX} {post : Int32 → Prop} {p0 : Int32} (X : az_X m u) (hb : az_nk p0 → post (-1)) (h0 : ∀ x, x < 65536 → p0 = nI x → (∀ k, ¬ az_K m k) → post (-3))
    (h1 : ∀ x r, x < 65536 → p0 = nI x → az_sd (az_K m) x r → post (nI r)) : wpX_sharedDigits post u p0 := by
  obtain ⟨us, dp, pf, ct, sm, fn, tb, cd, cc, tu, tc, ch, rt, rfl, ⟨t, hN, hL, hM, hu, hfl⟩, hC⟩ := X
  have r8 := az_rt128 t
  unfold wpX_sharedDigits
  refine az_isKey (fun x hx e => br_f (by decide) ?_) (fun hk => br_t rfl (hb hk))
  subst e
  refine pk_eq rt 0 (fun z => h0 x hx rfl (t.2.2.2.2.2.2.1.1 z)) (fun z => ⟨5, ?_⟩) rfl rfl
  exact az_sd_loop t hL hx (fun r hr => h1 x r hx rfl hr) 4 0 rt 0 rfl (Nat.zero_le _) (az_D_0 t z hx)
theorem az_XsumUnder {m : Nat → Option Int32} {u : SX} {post : Int64 → Prop} {p0 p1 : Int32} (X : az_X m u) (hb : (az_nk p0 ∨ p1.toInt < 0 ∨ 4 < p1.toInt) → post 0)
    (h1 : ∀ x d, x < 65536 → d ≤ 4 → p0 = nI x → p1 = nI d → post (Int64.ofInt (az_Q m (az_cut x d + az_w d) - az_Q m (az_cut x d)))) : wpX_sumUnder post u p0 p1 := by
  obtain ⟨us, dp, pf, ct, sm, fn, tb, cd, cc, tu, tc, ch, rt, rfl, ⟨t, hN, hL, hM, hu, hfl⟩, hC⟩ := X
  unfold wpX_sumUnder
  refine az_isKey (fun x hx e => br_f (by decide) ?_) (fun hk => br_t rfl (hb (Or.inl hk)))
  refine br_c (fun z => hb (Or.inr (Or.inl ((az_lt0 p1).mp z)))) (fun z => ?_)
  obtain ⟨d, hd, rfl⟩ := nI_of z
  subst e
  refine pk_le d 4 (fun y => ⟨5, ?_⟩) (fun y => hb (Or.inr (Or.inr ?_)))
  · exact az_su_loop t hN hL hx y (h1 x d hx y rfl rfl) 4 0 rt rfl (fun _ => Nat.zero_le _) (az_E_0 t x d)
  · rw [nI_toInt hd]; omega
end
section
/-! the reference's methods against the content m -/
section
variable {m : Nat → Option Int32} {n : Nat} {ks : Nat → Nat} {vs : Nat → Int32}
theorem az_pl_loop {post : Int32 → Prop} {p : Int32} (h : az_Y m n ks vs) (h1 : ∀ i, i < n → nI (ks i) = p → post (nI i)) (h0 : (∀ i, i < n → nI (ks i) ≠ p) → post (-1)) :
    ∀ d i, i + d = n → (∀ j, j < i → nI (ks j) ≠ p) → wY_placeOf_2 post p (nI n) (az_A ks) vs (d + 1) (nI i) := by
  have n64 := h.1
  intro d
  induction d with
  | zero =>
    intro i hi hno
    have e : i = n := by omega
    subst e
    exact pk_le i i (fun _ => h0 hno) (fun z => absurd z (by omega))
  | succ d ih =>
    intro i hi hno
    refine pk_le n i (fun z => absurd z (by omega)) (fun _ => ⟨vp_in_nI (by omega) (by omega), ?_⟩)
    rw [az_at' rfl (by omega)]
    refine br_c (fun z => h1 i (by omega) z) (fun z => nm_r (nI_1 i) (ih (i + 1) (by omega) (fun j hj => ?_)))
    by_cases y : j = i
    · rw [y]; exact z
    · exact hno j (by omega)
theorem az_placeOf {post : Int32 → Prop} {p : Int32} (h : az_Y m n ks vs) (h1 : ∀ i, i < n → nI (ks i) = p → post (nI i)) (h0 : (∀ i, i < n → nI (ks i) ≠ p) → post (-1)) : wpY_placeOf post (nI n, az_A ks, vs) p :=
  ⟨n + 1, az_pl_loop h h1 h0 n 0 (by omega) (fun j hj => absurd hj (Nat.not_lt_zero _))⟩
/-- a key by its number -/
theorem az_placeN {post : Int32 → Prop} {x : Nat} (h : az_Y m n ks vs) (hx : x < 65536) (h1 : ∀ i, i < n → ks i = x → post (nI i)) (h0 : ¬ az_K m x → post (-1)) : wpY_placeOf post (nI n, az_A ks, vs) (nI x) := by
  refine az_placeOf h (fun i hi e => h1 i hi ?_) (fun hno => h0 (fun k => ?_))
  · have b := (h.2.1 i hi).1
    exact (nI_eq (by omega) (by omega)).mp e
  · obtain ⟨i, hi, e⟩ := h.2.2.2 x k
    exact hno i hi (by rw [e])
theorem az_dropAt {post : SY → Prop} {i : Nat} (h : az_Y m n ks vs) (hi : i < n) (hp : post (nI (n - 1), az_A (az_f ks i (ks (n - 1))), upd vs i (vs (n - 1)))) : wpY_dropAt post (nI n, az_A ks, vs) (nI i) := by
  have n64 := h.1
  have e : nI n - 1 = nI (n - 1) := pk_sub (b := 1) (by omega)
  have a1 : vp_in (nI (n - 1)) 64 := vp_in_nI (by omega) (by omega)
  have a2 : vp_in (nI i) 64 := vp_in_nI (by omega) (by omega)
  refine nm_r e ⟨a1, a2, nm_r (az_updA rfl (by omega) (az_at' rfl (by omega))) ⟨a1, a2, nm_r (e' := upd vs i (vs (n - 1))) ?_ hp⟩⟩
  rw [nI_clamp (by omega), nI_clamp (by omega)]
def az_YI (m : Nat → Option Int32) (v : SY) : Prop := ∃ (n : Nat) (ks : Nat → Nat) (vs : Nat → Int32), v = (nI n, az_A ks, vs) ∧ az_Y m n ks vs
end
theorem az_m1lt : (-1 : Int32) < 0 := by decide
theorem az_m1le : ¬ (0 : Int32) ≤ -1 := by decide
theorem az_Yput {m : Nat → Option Int32} {v : SY} {post : Int32 → SY → Prop} {p0 p1 : Int32} (Y : az_YI m v) (hb : az_nk p0 → post (-1) v)
    (hs : ∀ x, x < 65536 → p0 = nI x → az_K m x → ∀ v', az_YI (az_put m x (some p1)) v' → post 0 v')
    (hf : ∀ x, x < 65536 → p0 = nI x → ¬ az_K m x → az_C m 65536 = 64 → post (-2) v)
    (hn : ∀ x, x < 65536 → p0 = nI x → ¬ az_K m x → az_C m 65536 ≤ 63 → ∀ v', az_YI (az_put m x (some p1)) v' → post 1 v') : wpY_put post v p0 p1 := by
  obtain ⟨n, ks, vs, rfl, h⟩ := Y
  have n64 := h.1
  have nC := az_Y_n h
  unfold wpY_put
  refine az_isKeyY (fun x hx e => br_f (by decide) ?_) (fun hk => br_t rfl (hb hk))
  subst e
  refine az_placeN h hx (fun i hi e => br_f (nI_pos (by omega)) ⟨vp_in_nI (by omega) (by omega), nm_r (e' := upd vs i p1) ?_ ?_⟩) (fun nk => br_t az_m1lt (pk_eq n 64 (fun z => hf x hx rfl nk (by omega)) (fun z => ?_)))
  · rw [nI_clamp (by omega)]
  · exact hs x hx rfl (by rw [← e]; exact az_Y_K h hi) _ ⟨n, ks, _, rfl, az_Y_set h hi e⟩
  · have i6 : vp_in (nI n) 64 := vp_in_nI (by omega) (by omega)
    refine ⟨i6, nm_r (az_updA rfl (by omega) rfl) ⟨i6, nm_r (e' := upd vs n p1) ?_ (nm_r (nI_1 n) (hn x hx rfl nk (by omega) _ ⟨n + 1, _, _, rfl, az_Y_add h (by omega) hx nk⟩))⟩⟩
    rw [nI_clamp (by omega)]
theorem az_Yremove {m : Nat → Option Int32} {v : SY} {post : Int32 → SY → Prop} {p0 : Int32} (Y : az_YI m v) (hb : az_nk p0 → post (-1) v)
    (h0 : ∀ x, x < 65536 → p0 = nI x → ¬ az_K m x → post (-3) v)
    (h1 : ∀ x, x < 65536 → p0 = nI x → az_K m x → ∀ v' (c : Nat), az_YI (az_put m x none) v' → (c : Int) = az_C (az_put m x none) 65536 → post (nI c) v') : wpY_remove post v p0 := by
  obtain ⟨n, ks, vs, rfl, h⟩ := Y
  have n64 := h.1
  unfold wpY_remove
  refine az_isKeyY (fun x hx e => br_f (by decide) ?_) (fun hk => br_t rfl (hb hk))
  subst e
  refine az_placeN h hx (fun i hi e => br_t (nI_pos' (by omega)) (az_dropAt h hi ?_)) (fun nk => br_f az_m1le (h0 x hx rfl nk))
  have d := az_Y_drop h hi
  rw [e] at d
  exact h1 x hx rfl (by rw [← e]; exact az_Y_K h hi) _ _ ⟨_, _, _, rfl, d⟩ (az_Y_n d)
theorem az_rrY_loop {m : Nat → Option Int32} {post : Int32 → SY → Prop} {a b : Nat} {N : Int} (ha : a < 65536) (hb : b < 65536)
    (h : ∀ (n : Nat) (ks : Nat → Nat) (vs : Nat → Int32) (c : Nat), az_Y (az_cutout m a b) n ks vs → (c : Int) + n = N → post (nI c) (nI n, az_A ks, vs)) :
    ∀ i (m' : Nat → Option Int32) (n : Nat) (ks : Nat → Nat) (vs : Nat → Int32) (c : Nat), i ≤ 64 → az_Y m' n ks vs → az_less m m' a b → (c : Int) + n = N → (∀ j, i ≤ j → j < n → ¬ (a ≤ ks j ∧ ks j ≤ b)) →
      wY_removeRange_24 post (nI a) (nI b) (i + 1) (nI c) (nI i + (-1)) (nI n) (az_A ks) vs := by
  intro i
  induction i with
  | zero =>
    intro m' n ks vs c _ hY hl hc hno
    refine br_t (by decide) (h n ks vs c ?_ hc)
    have e : m' = az_cutout m a b := by
      refine az_less_end hl (fun k k1 k2 k3 => ?_)
      obtain ⟨j, hj, e⟩ := hY.2.2.2 k k3
      exact hno j (Nat.zero_le _) hj (by omega)
    rw [← e]; exact hY
  | succ i ih =>
    intro m' n ks vs c hi hY hl hc hno
    have n64 := hY.1
    rw [pk_m1 i]
    have skip : (∀ j, i ≤ j → j < n → ¬ (a ≤ ks j ∧ ks j ≤ b)) → ∀ x, x = nI i + (-1) → wY_removeRange_24 post (nI a) (nI b) (i + 1) (nI c) x (nI n) (az_A ks) vs := fun hn => nm_e (ih m' n ks vs c (by omega) hY hl hc hn)
    refine br_f (nI_pos (by omega)) (pk_le n i (fun z => skip (fun j h1 h2 => absurd h2 (by omega))) (fun z => ⟨vp_in_nI (by omega) (by omega), ?_⟩))
    have kb := (hY.2.1 i z).1
    have ext : ¬ (a ≤ ks i ∧ ks i ≤ b) → ∀ j, i ≤ j → j < n → ¬ (a ≤ ks j ∧ ks j ≤ b) := by
      intro hx j h1 h2
      by_cases y : j = i
      · rw [y]; exact hx
      · exact hno j (by omega) h2
    refine pk_lt (ks i) a (fun y => skip (ext (by omega))) (fun y => ⟨vp_in_nI (by omega) (by omega), pk_lt b (ks i) (fun w => skip (ext (by omega))) (fun w => ?_) rfl (az_at' rfl (by omega))⟩) (az_at' rfl (by omega)) rfl
    refine az_dropAt hY z (nm_r (nI_1 c) (nm_e (ih _ _ _ _ (c + 1) (by omega) (az_Y_drop hY z) (az_less_take hl y w) (by omega) (fun j h1 h2 => ?_))))
    by_cases v : j = i
    · rw [v, az_f_s]
      exact hno (n - 1) (by omega) (by omega)
    · rw [az_f_n v]
      exact hno j (by omega) (by omega)
theorem az_YremoveRange {m : Nat → Option Int32} {v : SY} {post : Int32 → SY → Prop} {p0 p1 : Int32} (Y : az_YI m v) (hb : (az_nk p0 ∨ az_nk p1) → post (-1) v)
    (h : ∀ a b, a < 65536 → b < 65536 → p0 = nI a → p1 = nI b → ∀ v' (c : Nat), az_YI (az_cutout m a b) v' → (c : Int) + az_C (az_cutout m a b) 65536 = az_C m 65536 → post (nI c) v') : wpY_removeRange post v p0 p1 := by
  obtain ⟨n, ks, vs, rfl, hY⟩ := Y
  have n64 := hY.1
  unfold wpY_removeRange
  refine az_isKeyY (fun a ha ea => br_f (by decide) (az_isKeyY (fun b hb' eb => br_f (by decide) ?_) (fun hk => br_t rfl (hb (Or.inr hk))))) (fun hk => br_t rfl (hb (Or.inl hk)))
  subst ea eb
  refine ⟨65, ?_⟩
  exact az_rrY_loop (N := az_C m 65536) ha hb' (fun n' ks' vs' c hY' hc => h a b ha hb' rfl rfl _ c ⟨n', ks', vs', rfl, hY'⟩ (by rw [← az_Y_n hY']; exact hc)) 64 m n ks vs 0 (Nat.le_refl _) hY (az_less_refl m a b) (by rw [← az_Y_n hY]; omega) (fun j h1 h2 => by omega)
theorem az_Ycontains {m : Nat → Option Int32} {v : SY} {post : Int32 → Prop} {p0 : Int32} (Y : az_YI m v) (h1 : ∀ x, x < 65536 → p0 = nI x → az_K m x → post 1) (h0 : (∀ x, x < 65536 → p0 = nI x → ¬ az_K m x) → post 0) : wpY_contains post v p0 := by
  obtain ⟨n, ks, vs, rfl, h⟩ := Y
  have n64 := h.1
  unfold wpY_contains
  refine az_placeOf h (fun i hi e => br_f (nI_pos (by omega)) (h1 (ks i) (h.2.1 i hi).1 e.symm (az_Y_K h hi))) (fun hno => br_t az_m1lt (h0 (fun x hx e k => ?_)))
  obtain ⟨i, hi, e2⟩ := h.2.2.2 x k
  exact hno i hi (by rw [e2, e])
theorem az_YvalueOf {m : Nat → Option Int32} {v : SY} {post : Int32 → Prop} {p0 : Int32} (Y : az_YI m v) (h1 : ∀ x w, x < 65536 → p0 = nI x → m x = some w → post w) (h0 : (∀ x, x < 65536 → p0 = nI x → ¬ az_K m x) → post 0) : wpY_valueOf post v p0 := by
  obtain ⟨n, ks, vs, rfl, h⟩ := Y
  have n64 := h.1
  unfold wpY_valueOf
  refine az_placeOf h (fun i hi e => br_t (nI_pos' (by omega)) ⟨vp_in_nI (by omega) (by omega), ?_⟩) (fun hno => br_f az_m1le (h0 (fun x hx e k => ?_)))
  · rw [nI_clamp (by omega)]
    exact h1 (ks i) (vs i) (h.2.1 i hi).1 e.symm (h.2.1 i hi).2
  · obtain ⟨i, hi, e2⟩ := h.2.2.2 x k
    exact hno i hi (by rw [e2, e])
theorem az_Ysize {m : Nat → Option Int32} {v : SY} {post : Int32 → Prop} (Y : az_YI m v) (h : ∀ c : Nat, (c : Int) = az_C m 65536 → post (nI c)) : wpY_size post v := by
  obtain ⟨n, ks, vs, rfl, hY⟩ := Y
  exact h n (az_Y_n hY)
section
variable {m : Nat → Option Int32} {n : Nat} {ks : Nat → Nat} {vs : Nat → Int32}
/-- the least key above b among the first i rows -/
def az_aI (b : Int) (ks : Nat → Nat) (i : Nat) (r : Int32) : Prop := (r = -3 ∧ ∀ j, j < i → ¬ b < (ks j : Int)) ∨ ∃ j, j < i ∧ r = nI (ks j) ∧ b < (ks j : Int) ∧ ∀ j', j' < i → b < (ks j' : Int) → ks j ≤ ks j'
def az_bI (b : Int) (ks : Nat → Nat) (i : Nat) (r : Int32) : Prop := (r = -3 ∧ ∀ j, j < i → ¬ (ks j : Int) < b) ∨ ∃ j, j < i ∧ r = nI (ks j) ∧ (ks j : Int) < b ∧ ∀ j', j' < i → (ks j' : Int) < b → ks j' ≤ ks j
theorem az_lt_s {P : Nat → Prop} {i : Nat} (h : ∀ j, j < i → P j) (hi : P i) : ∀ j, j < i + 1 → P j := by
  intro j hj
  by_cases z : j = i
  · rw [z]; exact hi
  · exact h j (by omega)
theorem az_ab_loop {post : Int32 → Prop} {p : Int32} (h : az_Y m n ks vs) (hp : ∀ r, az_aI p.toInt ks n r → post r) :
    ∀ d i (r : Int32), i + d = n → az_aI p.toInt ks i r → wY_above_5 post p (nI n) (az_A ks) vs (d + 1) r (nI i) := by
  have n64 := h.1
  intro d
  induction d with
  | zero =>
    intro i r hi hr
    have e : i = n := by omega
    subst e
    exact pk_le i i (fun _ => hp r hr) (fun z => absurd z (by omega))
  | succ d ih =>
    intro i r hi hr
    have kb := (h.2.1 i (by omega)).1
    have i6 : vp_in (nI i) 64 := vp_in_nI (by omega) (by omega)
    have le : nI (ks i) ≤ p ↔ (ks i : Int) ≤ p.toInt := by rw [Int32.le_iff_toInt_le, nI_toInt (by omega)]
    refine pk_le n i (fun z => absurd z (by omega)) (fun _ => ⟨i6, ?_⟩)
    rw [az_at' rfl (by omega)]
    refine br_c (fun z => nm_r (nI_1 i) (ih (i + 1) r (by omega) ?_)) (fun z => ?_)
    · rw [le] at z
      rcases hr with ⟨e, h1⟩ | ⟨j, j1, j2, j3, j4⟩
      · exact Or.inl ⟨e, az_lt_s h1 (by omega)⟩
      · exact Or.inr ⟨j, by omega, j2, j3, az_lt_s j4 (fun w => by omega)⟩
    · rw [le] at z
      rcases hr with ⟨e, h1⟩ | ⟨j, j1, j2, j3, j4⟩
      · subst e
        exact br_t rfl ⟨i6, nm_e (nm_r (nI_1 i) (ih (i + 1) _ (by omega) (Or.inr ⟨i, by omega, rfl, by omega, az_lt_s (fun j' w v => absurd v (h1 j' w)) (fun _ => Nat.le_refl _)⟩)))⟩
      · subst j2
        have jb := (h.2.1 j (by omega)).1
        refine br_f (az_ne3 (by omega)) ⟨i6, pk_le (ks j) (ks i) (fun y => nm_r (nI_1 i) (ih (i + 1) _ (by omega) (Or.inr ⟨j, by omega, rfl, j3, az_lt_s j4 (fun _ => y)⟩))) (fun y => ⟨i6, nm_e (nm_r (nI_1 i) (ih (i + 1) _ (by omega) (Or.inr ⟨i, by omega, rfl, by omega, az_lt_s (fun j' w v => by have := j4 j' w v; omega) (fun _ => Nat.le_refl _)⟩)))⟩)⟩
theorem az_be_loop {post : Int32 → Prop} {p : Int32} (h : az_Y m n ks vs) (hp : ∀ r, az_bI p.toInt ks n r → post r) :
    ∀ d i (r : Int32), i + d = n → az_bI p.toInt ks i r → wY_below_5 post p (nI n) (az_A ks) vs (d + 1) r (nI i) := by
  have n64 := h.1
  intro d
  induction d with
  | zero =>
    intro i r hi hr
    have e : i = n := by omega
    subst e
    exact pk_le i i (fun _ => hp r hr) (fun z => absurd z (by omega))
  | succ d ih =>
    intro i r hi hr
    have kb := (h.2.1 i (by omega)).1
    have i6 : vp_in (nI i) 64 := vp_in_nI (by omega) (by omega)
    have le : p ≤ nI (ks i) ↔ p.toInt ≤ (ks i : Int) := by rw [Int32.le_iff_toInt_le, nI_toInt (by omega)]
    refine pk_le n i (fun z => absurd z (by omega)) (fun _ => ⟨i6, ?_⟩)
    rw [az_at' rfl (by omega)]
    refine br_c (fun z => nm_r (nI_1 i) (ih (i + 1) r (by omega) ?_)) (fun z => ⟨i6, ?_⟩)
    · rw [le] at z
      rcases hr with ⟨e, h1⟩ | ⟨j, j1, j2, j3, j4⟩
      · exact Or.inl ⟨e, az_lt_s h1 (by omega)⟩
      · exact Or.inr ⟨j, by omega, j2, j3, az_lt_s j4 (fun w => by omega)⟩
    · rw [le] at z
      rcases hr with ⟨e, h1⟩ | ⟨j, j1, j2, j3, j4⟩
      · subst e
        refine br_f ?_ ⟨i6, nm_e (nm_r (nI_1 i) (ih (i + 1) _ (by omega) (Or.inr ⟨i, by omega, rfl, by omega, az_lt_s (fun j' w v => absurd v (h1 j' w)) (fun _ => Nat.le_refl _)⟩)))⟩
        rw [Int32.le_iff_toInt_le, nI_toInt (by omega), show (-3 : Int32).toInt = -3 from by decide]
        omega
      · subst j2
        have jb := (h.2.1 j (by omega)).1
        refine pk_le (ks i) (ks j) (fun y => nm_r (nI_1 i) (ih (i + 1) _ (by omega) (Or.inr ⟨j, by omega, rfl, j3, az_lt_s j4 (fun _ => y)⟩))) (fun y => ⟨i6, nm_e (nm_r (nI_1 i) (ih (i + 1) _ (by omega) (Or.inr ⟨i, by omega, rfl, by omega, az_lt_s (fun j' w v => by have := j4 j' w v; omega) (fun _ => Nat.le_refl _)⟩)))⟩)
theorem az_rk_loop {post : Int32 → Prop} {x : Nat} (h : az_Y m n ks vs) (hx : x < 65536) (hp : ∀ c : Nat, (c : Int) = az_C m x → post (nI c)) :
    ∀ d i (c : Nat), i + d = n → (c : Int) = az_S (fun j => if ks j < x then 1 else 0) i → wY_rankOf_4 post (nI x) (nI n) (az_A ks) vs (d + 1) (nI c) (nI i) := by
  have n64 := h.1
  intro d
  induction d with
  | zero =>
    intro i c hi hc
    have e : i = n := by omega
    subst e
    rw [az_Y_rank h (by omega)] at hc
    exact pk_le i i (fun _ => hp c hc) (fun z => absurd z (by omega))
  | succ d ih =>
    intro i c hi hc
    have kb := (h.2.1 i (by omega)).1
    refine pk_le n i (fun z => absurd z (by omega)) (fun _ => ⟨vp_in_nI (by omega) (by omega), pk_le x (ks i) (fun z => nm_r (nI_1 i) (ih (i + 1) c (by omega) ?_)) (fun z => nm_r (nI_1 c) (nm_r (nI_1 i) (ih (i + 1) (c + 1) (by omega) ?_))) rfl (az_at' rfl (by omega))⟩)
    · rw [az_S_succ, if_neg (by omega)]; omega
    · rw [az_S_succ, if_pos z]; omega
theorem az_ar_loop {post : Int32 → Prop} {p : Int32} (h : az_Y m n ks vs) (hp : ∀ r, az_rY m p.toInt r → post r) :
    ∀ d i, i + d = n → (∀ j, j < i → az_C m (ks j) ≠ p.toInt) → wY_atRank_2 post p (nI n) (az_A ks) vs (d + 1) (nI i) := by
  have n64 := h.1
  intro d
  induction d with
  | zero =>
    intro i hi hno
    have e : i = n := by omega
    subst e
    refine pk_le i i (fun _ => hp _ (Or.inl ⟨rfl, fun k k1 k2 => ?_⟩)) (fun z => absurd z (by omega))
    obtain ⟨j, hj, e⟩ := h.2.2.2 k k2
    rw [← e]; exact hno j hj
  | succ d ih =>
    intro i hi hno
    have kb := (h.2.1 i (by omega)).1
    have i6 : vp_in (nI i) 64 := vp_in_nI (by omega) (by omega)
    refine pk_le n i (fun z => absurd z (by omega)) (fun _ => ⟨i6, ?_⟩)
    rw [az_at' rfl (by omega)]
    refine ⟨n + 1, az_rk_loop h kb (fun c hc => ?_) n 0 0 (by omega) rfl⟩
    have c64 : (c : Int) ≤ 64 := by
      have a1 := az_C_mono m (Nat.le_of_lt kb)
      have a2 := az_Y_n h
      omega
    have e : nI c = p ↔ (c : Int) = p.toInt := by
      rw [← Int32.toInt_inj, nI_toInt (by omega)]
    refine br_c (fun z => ⟨i6, ?_⟩) (fun z => nm_r (nI_1 i) (ih (i + 1) (by omega) (az_lt_s hno ?_)))
    · rw [e] at z
      exact hp _ (Or.inr ⟨ks i, rfl, kb, az_Y_K h (by omega), by omega⟩)
    · rw [e] at z
      omega
theorem az_cr_loop {post : Int32 → Prop} {p q : Int32} (h : az_Y m n ks vs) (hp : ∀ c : Nat, (c : Int) = az_S (fun i => if p.toInt ≤ (ks i : Int) ∧ (ks i : Int) ≤ q.toInt then 1 else 0) n → post (nI c)) :
    ∀ d i (c : Nat), i + d = n → (c : Int) = az_S (fun i => if p.toInt ≤ (ks i : Int) ∧ (ks i : Int) ≤ q.toInt then 1 else 0) i → wY_countRange_5 post p q (nI n) (az_A ks) vs (d + 1) (nI c) (nI i) := by
  have n64 := h.1
  intro d
  induction d with
  | zero =>
    intro i c hi hc
    have e : i = n := by omega
    subst e
    exact pk_le i i (fun _ => hp c hc) (fun z => absurd z (by omega))
  | succ d ih =>
    intro i c hi hc
    have kb := (h.2.1 i (by omega)).1
    have i6 : vp_in (nI i) 64 := vp_in_nI (by omega) (by omega)
    have l1 : nI (ks i) < p ↔ (ks i : Int) < p.toInt := by rw [Int32.lt_iff_toInt_lt, nI_toInt (by omega)]
    have l2 : q < nI (ks i) ↔ q.toInt < (ks i : Int) := by rw [Int32.lt_iff_toInt_lt, nI_toInt (by omega)]
    refine pk_le n i (fun z => absurd z (by omega)) (fun _ => ⟨i6, ?_⟩)
    rw [az_at' rfl (by omega)]
    refine br_c (fun z => nm_r (nI_1 i) (ih (i + 1) c (by omega) ?_)) (fun z => ⟨i6, br_c (fun y => nm_r (nI_1 i) (ih (i + 1) c (by omega) ?_)) (fun y => nm_r (nI_1 c) (nm_r (nI_1 i) (ih (i + 1) (c + 1) (by omega) ?_)))⟩)
    · rw [l1] at z
      rw [az_S_succ, if_neg (by omega)]; omega
    · rw [l2] at y
      rw [az_S_succ, if_neg (by omega)]; omega
    · rw [l1] at z
      rw [l2] at y
      rw [az_S_succ, if_pos (by omega)]; omega
theorem az_sh_loop {post : Int32 → Prop} {a b d : Nat} {f_n : Int32} {KK VV : Nat → Int32} (ha : a < 65536) (hb : b < 65536) (hd : d ≤ 4) (h1 : az_un d a b → post 1) (h0 : ¬ az_un d a b → post 0) :
    ∀ g e, e + g = d → az_un e a b → wY_share_3 post (nI a) (nI b) (nI d) f_n KK VV (g + 1) (nI e) := by
  intro g
  induction g with
  | zero =>
    intro e he hu
    have ee : e = d := by omega
    subst ee
    exact pk_le e e (fun _ => h1 hu) (fun z => absurd z (by omega))
  | succ g ih =>
    intro e he hu
    refine pk_le d e (fun z => absurd z (by omega)) (fun _ => ?_)
    rw [az_dgY ha (by omega), az_dgY hb (by omega)]
    refine pk_eq (az_dg a e) (az_dg b e) (fun z => nm_r (nI_1 e) (ih (e + 1) (by omega) (az_un_step (by omega) hu z.symm))) (fun z => h0 (fun w => z ?_)) rfl rfl (az_dg31 a e) (az_dg31 b e)
    exact (az_un_dg (show e < d by omega) hd w).symm
theorem az_share {post : Int32 → Prop} {x y w f_n : Int32} {a b d : Nat} {KK VV : Nat → Int32} (hx : x = nI a) (hy : y = nI b) (hw : w = nI d) (ha : a < 65536) (hb : b < 65536) (hd : d ≤ 4) (h1 : az_un d a b → post 1) (h0 : ¬ az_un d a b → post 0) : wpY_share post (f_n, KK, VV) x y w := by
  subst hx hy hw
  exact ⟨d + 1, az_sh_loop ha hb hd h1 h0 d 0 (by omega) (az_un0 ha hb)⟩
theorem az_suY_loop {post : Int64 → Prop} {x d : Nat} (h : az_Y m n ks vs) (hx : x < 65536) (hd : d ≤ 4) (hp : post (Int64.ofInt (az_Q m (az_cut x d + az_w d) - az_Q m (az_cut x d)))) :
    ∀ g i, i + g = n → wY_sumUnder_24 post (nI x) (nI d) (nI n) (az_A ks) vs (g + 1) (Int64.ofInt (az_S (fun i => if ks i / az_w d = x / az_w d then (vs i).toInt else 0) i)) (nI i) := by
  have n64 := h.1
  intro g
  induction g with
  | zero =>
    intro i hi
    have e : i = n := by omega
    subst e
    rw [az_Y_under h hx hd]
    exact pk_le i i (fun _ => hp) (fun z => absurd z (by omega))
  | succ g ih =>
    intro i hi
    have kb := (h.2.1 i (by omega)).1
    have i6 : vp_in (nI i) 64 := vp_in_nI (by omega) (by omega)
    refine pk_le n i (fun z => absurd z (by omega)) (fun _ => ⟨i6, az_share (az_at' rfl (by omega)) rfl rfl kb hx hd (fun hu => br_f (by decide) ⟨i6, nm_r (e' := Int64.ofInt (az_S (fun i => if ks i / az_w d = x / az_w d then (vs i).toInt else 0) (i + 1))) ?_ (nm_r (nI_1 i) (ih (i + 1) (by omega)))⟩) (fun hu => br_t rfl (nm_r (nI_1 i) ?_))⟩)
    · rw [nI_clamp (by omega), az_i64, ← Int64.ofInt_add, az_S_succ, if_pos (Eq.symm hu)]
    · have e := ih (i + 1) (by omega)
      rw [az_S_succ, if_neg (fun w => hu (Eq.symm w)), Int.add_zero] at e
      exact e
end
theorem az_Yabove {m : Nat → Option Int32} {v : SY} {post : Int32 → Prop} {p0 : Int32} (Y : az_YI m v) (h : ∀ r, az_aY m p0.toInt r → post r) : wpY_above post v p0 := by
  obtain ⟨n, ks, vs, rfl, hY⟩ := Y
  refine ⟨n + 1, az_ab_loop hY (fun r hr => h r ?_) n 0 (-3) (by omega) (Or.inl ⟨rfl, fun j hj => absurd hj (Nat.not_lt_zero _)⟩)⟩
  rcases hr with ⟨e, h1⟩ | ⟨j, j1, j2, j3, j4⟩
  · refine Or.inl ⟨e, fun k k1 k2 => ?_⟩
    obtain ⟨i, hi, e2⟩ := hY.2.2.2 k k2
    rw [← e2]; exact h1 i hi
  · refine Or.inr ⟨ks j, j2, (hY.2.1 j j1).1, az_Y_K hY j1, j3, fun k k1 k2 k3 => ?_⟩
    obtain ⟨i, hi, e2⟩ := hY.2.2.2 k k2
    rw [← e2] at k3 ⊢
    exact j4 i hi k3
theorem az_Ybelow {m : Nat → Option Int32} {v : SY} {post : Int32 → Prop} {p0 : Int32} (Y : az_YI m v) (h : ∀ r, az_bY m p0.toInt r → post r) : wpY_below post v p0 := by
  obtain ⟨n, ks, vs, rfl, hY⟩ := Y
  refine ⟨n + 1, az_be_loop hY (fun r hr => h r ?_) n 0 (-3) (by omega) (Or.inl ⟨rfl, fun j hj => absurd hj (Nat.not_lt_zero _)⟩)⟩
  rcases hr with ⟨e, h1⟩ | ⟨j, j1, j2, j3, j4⟩
  · refine Or.inl ⟨e, fun k k1 k2 => ?_⟩
    obtain ⟨i, hi, e2⟩ := hY.2.2.2 k k2
    rw [← e2]; exact h1 i hi
  · refine Or.inr ⟨ks j, j2, (hY.2.1 j j1).1, az_Y_K hY j1, j3, fun k k1 k2 k3 => ?_⟩
    obtain ⟨i, hi, e2⟩ := hY.2.2.2 k k2
    rw [← e2] at k3 ⊢
    exact j4 i hi k3
theorem az_YatRank {m : Nat → Option Int32} {v : SY} {post : Int32 → Prop} {p0 : Int32} (Y : az_YI m v) (h : ∀ r, az_rY m p0.toInt r → post r) : wpY_atRank post v p0 := by
  obtain ⟨n, ks, vs, rfl, hY⟩ := Y
  exact ⟨n + 1, az_ar_loop hY h n 0 (by omega) (fun j hj => absurd hj (Nat.not_lt_zero _))⟩
theorem az_YcountRange {m : Nat → Option Int32} {v : SY} {post : Int32 → Prop} {p0 p1 : Int32} (Y : az_YI m v) (h : ∀ c : Nat, p0.toInt ≤ p1.toInt → (c : Int) = az_C m (az_cl (p1.toInt + 1)) - az_C m (az_cl p0.toInt) → post (nI c)) (h0 : p1.toInt < p0.toInt → post (nI 0)) : wpY_countRange post v p0 p1 := by
  obtain ⟨n, ks, vs, rfl, hY⟩ := Y
  refine ⟨n + 1, az_cr_loop hY (fun c hc => ?_) n 0 0 (by omega) rfl⟩
  by_cases z : p0.toInt ≤ p1.toInt
  · rw [az_Y_range hY z] at hc
    exact h c z hc
  · have e : az_S (fun i => if p0.toInt ≤ (ks i : Int) ∧ (ks i : Int) ≤ p1.toInt then 1 else 0) n = 0 := by
      rw [az_S_congr (g := fun _ => 0) (fun i _ => if_neg (by omega)), az_S_const0]
    rw [e] at hc
    have c0 : c = 0 := by omega
    rw [c0]
    exact h0 (by omega)
theorem az_YsumUnder {m : Nat → Option Int32} {v : SY} {post : Int64 → Prop} {p0 p1 : Int32} (Y : az_YI m v) (hb : (az_nk p0 ∨ p1.toInt < 0 ∨ 4 < p1.toInt) → post 0)
    (h1 : ∀ x d, x < 65536 → d ≤ 4 → p0 = nI x → p1 = nI d → post (Int64.ofInt (az_Q m (az_cut x d + az_w d) - az_Q m (az_cut x d)))) : wpY_sumUnder post v p0 p1 := by
  obtain ⟨n, ks, vs, rfl, hY⟩ := Y
  unfold wpY_sumUnder
  refine az_isKeyY (fun x hx e => br_f (by decide) ?_) (fun hk => br_t rfl (hb (Or.inl hk)))
  refine br_c (fun z => hb (Or.inr (Or.inl ((az_lt0 p1).mp z)))) (fun z => ?_)
  obtain ⟨d, hd, rfl⟩ := nI_of z
  subst e
  refine pk_le d 4 (fun y => ⟨n + 1, ?_⟩) (fun y => hb (Or.inr (Or.inr ?_)))
  · exact az_suY_loop hY hx y (h1 x d hx y rfl rfl) n 0 (by omega)
  · rw [nI_toInt hd]; omega
end
section
/-! the reference's sharedDigits -/
section
variable {m : Nat → Option Int32} {n : Nat} {ks : Nat → Nat} {vs : Nat → Int32}
def az_sI (x : Nat) (ks : Nat → Nat) (i : Nat) (b : Int32) : Prop := (b = -3 ∧ i = 0) ∨ ∃ r, r ≤ 4 ∧ b = nI r ∧ (∃ j, j < i ∧ az_un r x (ks j)) ∧ ∀ j e, j < i → e ≤ 4 → az_un e x (ks j) → e ≤ r
def az_sJ (x : Nat) (ks : Nat → Nat) (i d : Nat) (b : Int32) : Prop := (b = -3 ∧ i = 0 ∧ d = 0) ∨ ∃ r, r ≤ 4 ∧ b = nI r ∧ ((∃ j, j < i ∧ az_un r x (ks j)) ∨ az_un r x (ks i)) ∧ (∀ j e, j < i → e ≤ 4 → az_un e x (ks j) → e ≤ r) ∧ ∀ e, e < d → az_un e x (ks i) → e ≤ r
theorem az_sJ_0 {x i : Nat} {b : Int32} (h : az_sI x ks i b) : az_sJ x ks i 0 b := by
  rcases h with ⟨e, h1⟩ | ⟨r, h1, h2, h3, h4⟩
  · exact Or.inl ⟨e, h1, rfl⟩
  · exact Or.inr ⟨r, h1, h2, Or.inl h3, h4, fun e he => absurd he (Nat.not_lt_zero _)⟩
theorem az_sJ_5 {x i : Nat} {b : Int32} (h : az_sJ x ks i 5 b) : az_sI x ks (i + 1) b := by
  rcases h with ⟨_, _, h1⟩ | ⟨r, h1, h2, h3, h4, h5⟩
  · omega
  · refine Or.inr ⟨r, h1, h2, ?_, ?_⟩
    · rcases h3 with ⟨j, j1, j2⟩ | j2
      · exact ⟨j, by omega, j2⟩
      · exact ⟨i, by omega, j2⟩
    · intro j e hj he hu
      by_cases z : j = i
      · rw [z] at hu; exact h5 e (by omega) hu
      · exact h4 j e (by omega) he hu
theorem az_sy_in {post : Int32 → Prop} {J : Int32 → Int32 → Prop} {x i : Nat} (h : az_Y m n ks vs) (hx : x < 65536) (hi : i < n) (hJ : ∀ b, az_sI x ks (i + 1) b → J b (nI (i + 1))) :
    ∀ g d (b : Int32), d + g = 5 → az_sJ x ks i d b → wY_sharedDigits_26 post J (nI x) (nI i) (nI n) (az_A ks) vs (g + 1) b (nI d) := by
  have n64 := h.1
  have kb := (h.2.1 i hi).1
  intro g
  induction g with
  | zero =>
    intro d b hd hb
    have e : d = 5 := by omega
    subst e
    exact pk_lt 4 5 (fun _ => nm_r (nI_1 i) (hJ b (az_sJ_5 hb))) (fun z => absurd z (by omega))
  | succ g ih =>
    intro d b hd hb
    have i6 : vp_in (nI i) 64 := vp_in_nI (by omega) (by omega)
    refine pk_lt 4 d (fun z => absurd z (by omega)) (fun _ => ?_)
    rcases hb with ⟨e, h1, h2⟩ | ⟨r, h1, h2, h3, h4, h5⟩
    · subst e h1 h2
      refine br_f (by decide) ⟨i6, az_share (az_at' rfl (by omega)) rfl rfl kb hx (by omega) (fun hu => br_f (by decide) (nm_r (nI_1 0) (ih 1 _ (by omega) (Or.inr ⟨0, by omega, rfl, Or.inr (az_un_symm hu), fun j e hj => absurd hj (Nat.not_lt_zero _), fun e he _ => by omega⟩)))) (fun hu => absurd (az_un0 kb hx) hu)⟩
    · subst h2
      refine pk_le d r (fun z => nm_r (nI_1 d) (ih (d + 1) _ (by omega) (Or.inr ⟨r, h1, rfl, h3, h4, az_lt_s h5 (fun _ => z)⟩))) (fun z => ⟨i6, az_share (az_at' rfl (by omega)) rfl rfl kb hx (by omega) (fun hu => br_f (by decide) (nm_r (nI_1 d) (ih (d + 1) _ (by omega) (Or.inr ⟨d, by omega, rfl, Or.inr (az_un_symm hu), fun j e hj he hu' => ?_, fun e he _ => by omega⟩)))) (fun hu => br_t rfl (nm_r (nI_1 d) (ih (d + 1) _ (by omega) (Or.inr ⟨r, h1, rfl, h3, h4, az_lt_s h5 (fun w => absurd (az_un_symm w) hu)⟩))))⟩)
      have := h4 j e hj he hu'
      omega
theorem az_sy_out {post : Int32 → Prop} {x : Nat} (h : az_Y m n ks vs) (hx : x < 65536) (hp : ∀ b, az_sI x ks n b → post b) :
    ∀ g i (b : Int32), i + g = n → az_sI x ks i b → wY_sharedDigits_15 post (nI x) (nI n) (az_A ks) vs (g + 1) b (nI i) := by
  have n64 := h.1
  intro g
  induction g with
  | zero =>
    intro i b hi hb
    have e : i = n := by omega
    subst e
    exact pk_le i i (fun _ => hp b hb) (fun z => absurd z (by omega))
  | succ g ih =>
    intro i b hi hb
    refine pk_le n i (fun z => absurd z (by omega)) (fun _ => ⟨6, ?_⟩)
    exact az_sy_in h hx (by omega) (fun b' hb' => ih (i + 1) b' (by omega) hb') 5 0 b (by omega) (az_sJ_0 hb)
end
theorem az_YsharedDigits {m : Nat → Option Int32} {v : SY} {post : Int32 → Prop} {p0 : Int32} (Y : az_YI m v) (hb : az_nk p0 → post (-1)) (h0 : ∀ x, x < 65536 → p0 = nI x → (∀ k, ¬ az_K m k) → post (-3))
    (h1 : ∀ x r, x < 65536 → p0 = nI x → az_sd (az_K m) x r → post (nI r)) : wpY_sharedDigits post v p0 := by
  obtain ⟨n, ks, vs, rfl, hY⟩ := Y
  unfold wpY_sharedDigits
  refine az_isKeyY (fun x hx e => br_f (by decide) ⟨n + 1, ?_⟩) (fun hk => br_t rfl (hb hk))
  subst e
  refine az_sy_out hY hx (fun b hb' => ?_) n 0 (-3) (by omega) (Or.inl ⟨rfl, rfl⟩)
  rcases hb' with ⟨e, n0⟩ | ⟨r, r4, e, ⟨j, j1, j2⟩, hr⟩
  · rw [e]
    refine h0 x hx rfl (fun k hk => ?_)
    obtain ⟨i, hi, _⟩ := hY.2.2.2 k hk
    omega
  · rw [e]
    refine h1 x r hx rfl ⟨r4, ⟨ks j, az_Y_K hY j1, j2⟩, fun r3 k hk hu => ?_⟩
    obtain ⟨i, hi, e2⟩ := hY.2.2.2 k hk
    rw [← e2] at hu
    have := hr i (r + 1) hi (by omega) hu
    omega
/-! the start -/
theorem az_X_0 : az_X (fun _ => none) ((0, (fun _ => 0), (fun _ => 0), (fun _ => 0), (fun _ => 0), (fun _ => 0), (fun _ => 0), (fun _ => 0), (fun _ => 0), (fun _ => 0), (fun _ => 0), (fun _ => 0)) : SX) := by
  have nk : ∀ k, ¬ az_K (fun _ => none) k := fun k h => h rfl
  have c0 : az_C (fun _ => none) 65536 = 0 := az_C_eq (Nat.zero_le 65536) (fun k _ _ => nk k)
  have no : ∀ i : Nat, ¬ (fun _ : Nat => 0) i = 1 := fun i h => Nat.zero_ne_one h
  refine ⟨fun _ => 0, fun _ => 0, fun _ => 0, fun _ => 0, fun _ => 0, fun _ => 0, fun _ => 0, fun _ => 0, fun _ => 0, fun _ => 0, fun _ => 0, fun _ _ => 0, 0, rfl, ⟨?_, ?_, ?_, ?_, ?_, ?_⟩, by rw [c0]; omega⟩
  · exact ⟨fun i hi => absurd hi (no i), fun i hi => absurd hi (no i), fun i _ hi => absurd hi (no i), fun i _ hi => absurd hi (no i), fun i hi => absurd hi (no i), fun i _ hi => absurd hi (no i), ⟨fun _ => nk, fun z => absurd rfl z⟩, fun k hk => absurd hk (nk k)⟩
  · exact ⟨fun i hi => absurd hi (no i), rfl, rfl⟩
  · refine ⟨fun i hi => absurd hi (no i), fun i _ hi => absurd hi (no i), fun i hi => absurd rfl hi, fun _ => Nat.zero_le 1, rfl, ?_⟩
    rw [az_S_congr (f := fun i => if (fun _ : Nat => 0) i = 0 then (0 : Int) else 1) (g := fun _ => 0) (fun i _ => rfl), az_S_const0]
    exact az_S_const0 16
  · rw [c0]
    refine ⟨?_, ?_⟩
    · rw [az_S_congr (g := fun _ => 0) (fun i _ => az_lf_0 (Or.inl (no i))), az_S_const0]
    · rw [az_S_congr (g := fun _ => 0) (fun i _ => az_bf_0 (Or.inl (no i))), az_S_const0]
      rfl
  · exact fun _ => Nat.zero_le 1
  · exact fun i hi => absurd hi (no i)
theorem az_YI_0 : az_YI (fun _ => none) ((0, (fun _ => 0), (fun _ => 0)) : SY) :=
  ⟨0, fun _ => 0, fun _ => 0, rfl, by omega, fun i hi => absurd hi (Nat.not_lt_zero _), fun i j hi => absurd hi (Nat.not_lt_zero _), fun k hk => absurd rfl hk⟩
theorem az_inj {x y : Nat} (hx : x < 65536) (hy : y < 65536) (h : nI x = nI y) : x = y := (nI_eq (by omega) (by omega)).mp h
theorem az_cutout_0 {m : Nat → Option Int32} {a b : Nat} (h : b < a) : az_cutout m a b = m := by
  funext k
  unfold az_cutout
  rw [if_neg (by omega)]
end
section
/-- both hold the content m -/
def i_Rel (k : Nat) (u : SX) (v : SY) : Prop := ∃ m : Nat → Option Int32, az_X m u ∧ az_YI m v
theorem i_up {k : Nat} {u : SX} {v : SY} (h : i_Rel k u v) : i_Rel (k + 3) u v := h
theorem i_vc0 : wpX_init (fun u => wpY_init (fun v => i_Rel 0 u v)) := ⟨fun _ => none, az_X_0, az_YI_0⟩
theorem i_vc_put {k : Nat} {u : SX} {v : SY} (I : i_Rel k u v) (hk : k + 3 ≤ 1536) (v1 : Int32) (v2 : Int32) : wpX_put (fun r u' => wpY_put (fun r' v' => r' = r ∧ i_Rel (k + 3) u' v') v v1 v2) u v1 v2 := by
  obtain ⟨m, X, Y⟩ := I
  refine az_Xput X (fun hb => ?_) (fun x hx e kx u' X' => ?_) (fun x hx e nx hC => ?_) (fun x hx e nx hC u' X' => ?_)
  · have no : ∀ x, x < 65536 → v1 = nI x → False := fun x hx e => az_nk_of hx (by rw [← e]; exact hb)
    exact az_Yput Y (fun _ => ⟨rfl, m, X, Y⟩) (fun x hx e => (no x hx e).elim) (fun x hx e => (no x hx e).elim) (fun x hx e => (no x hx e).elim)
  · subst e
    refine az_Yput Y (fun hb => absurd hb (az_nk_of hx)) (fun y hy ey ky v' Y' => ?_) (fun y hy ey ny => absurd kx (by rw [az_inj hx hy ey]; exact ny)) (fun y hy ey ny => absurd kx (by rw [az_inj hx hy ey]; exact ny))
    rw [← az_inj hx hy ey] at Y'
    exact ⟨rfl, _, X', Y'⟩
  · subst e
    exact az_Yput Y (fun hb => absurd hb (az_nk_of hx)) (fun y hy ey ky => absurd ky (by rw [← az_inj hx hy ey]; exact nx)) (fun y hy ey ny _ => ⟨rfl, m, X, Y⟩) (fun y hy ey ny hC' => by omega)
  · subst e
    refine az_Yput Y (fun hb => absurd hb (az_nk_of hx)) (fun y hy ey ky => absurd ky (by rw [← az_inj hx hy ey]; exact nx)) (fun y hy ey ny hC' => by omega) (fun y hy ey ny _ v' Y' => ?_)
    rw [← az_inj hx hy ey] at Y'
    exact ⟨rfl, _, X', Y'⟩
theorem i_vc_remove {k : Nat} {u : SX} {v : SY} (I : i_Rel k u v) (hk : k + 3 ≤ 1536) (v1 : Int32) : wpX_remove (fun r u' => wpY_remove (fun r' v' => r' = r ∧ i_Rel (k + 3) u' v') v v1) u v1 := by
  obtain ⟨m, X, Y⟩ := I
  refine az_Xremove X (fun hb => ?_) (fun x hx e nx => ?_) (fun x hx e kx u' c X' hc => ?_)
  · have no : ∀ x, x < 65536 → v1 = nI x → False := fun x hx e => az_nk_of hx (by rw [← e]; exact hb)
    exact az_Yremove Y (fun _ => ⟨rfl, m, X, Y⟩) (fun x hx e => (no x hx e).elim) (fun x hx e => (no x hx e).elim)
  · subst e
    exact az_Yremove Y (fun hb => absurd hb (az_nk_of hx)) (fun y hy ey ny => ⟨rfl, m, X, Y⟩) (fun y hy ey ky => absurd ky (by rw [← az_inj hx hy ey]; exact nx))
  · subst e
    refine az_Yremove Y (fun hb => absurd hb (az_nk_of hx)) (fun y hy ey ny => absurd kx (by rw [az_inj hx hy ey]; exact ny)) (fun y hy ey ky v' c' Y' hc' => ?_)
    rw [← az_inj hx hy ey] at Y' hc'
    have e : c' = c := by omega
    exact ⟨by rw [e], _, X', Y'⟩
theorem i_vc_removeRange {k : Nat} {u : SX} {v : SY} (I : i_Rel k u v) (hk : k + 3 ≤ 1536) (v1 : Int32) (v2 : Int32) : wpX_removeRange (fun r u' => wpY_removeRange (fun r' v' => r' = r ∧ i_Rel (k + 3) u' v') v v1 v2) u v1 v2 := by
  obtain ⟨m, X, Y⟩ := I
  refine az_XremoveRange X (fun hb => ?_) (fun a b ha hb ea eb hlt => ?_) (fun a b hab hb ea eb u' c X' hc => ?_)
  · refine az_YremoveRange Y (fun _ => ⟨rfl, m, X, Y⟩) (fun a b ha hb' ea eb => ?_)
    rw [ea, eb] at hb
    exact (hb.elim (az_nk_of ha) (az_nk_of hb')).elim
  · subst ea eb
    refine az_YremoveRange Y (fun h => (h.elim (az_nk_of ha) (az_nk_of hb)).elim) (fun a' b' ha' hb' ea eb v' c Y' hc => ?_)
    rw [← az_inj ha ha' ea, ← az_inj hb hb' eb, az_cutout_0 hlt] at Y' hc
    have c0 : c = 0 := by omega
    exact ⟨by rw [c0]; rfl, m, X, Y'⟩
  · subst ea eb
    have ha : a < 65536 := by omega
    refine az_YremoveRange Y (fun h => (h.elim (az_nk_of ha) (az_nk_of hb)).elim) (fun a' b' ha' hb' ea eb v' c' Y' hc' => ?_)
    rw [← az_inj ha ha' ea, ← az_inj hb hb' eb] at Y' hc'
    rw [az_C_cutout (by omega) (by omega)] at hc'
    have e : c' = c := by omega
    exact ⟨by rw [e], _, X', Y'⟩
theorem i_vc_contains {k : Nat} {u : SX} {v : SY} (I : i_Rel k u v) (hk : k + 3 ≤ 1536) (v1 : Int32) : wpX_contains (fun r => wpY_contains (fun r' => r' = r ∧ i_Rel (k + 3) u v) v v1) u v1 := by
  have I' : i_Rel (k + 3) u v := I
  obtain ⟨m, X, Y⟩ := I
  refine az_Xcontains X (fun x hx e kx => az_Ycontains Y (fun _ _ _ _ => ⟨rfl, I'⟩) (fun no => absurd kx (no x hx e))) (fun no => az_Ycontains Y (fun x hx e kx => absurd kx (no x hx e)) (fun _ => ⟨rfl, I'⟩))
theorem i_vc_valueOf {k : Nat} {u : SX} {v : SY} (I : i_Rel k u v) (hk : k + 3 ≤ 1536) (v1 : Int32) : wpX_valueOf (fun r => wpY_valueOf (fun r' => r' = r ∧ i_Rel (k + 3) u v) v v1) u v1 := by
  have I' : i_Rel (k + 3) u v := I
  obtain ⟨m, X, Y⟩ := I
  refine az_XvalueOf X (fun x w hx e hw => az_YvalueOf Y (fun y w' hy ey hw' => ?_) (fun no => absurd (az_K_of hw) (no x hx e))) (fun no => az_YvalueOf Y (fun x w hx e hw => absurd (az_K_of hw) (no x hx e)) (fun _ => ⟨rfl, I'⟩))
  subst e
  rw [← az_inj hx hy ey, hw] at hw'
  exact ⟨(Option.some.inj hw').symm, I'⟩
theorem i_vc_size {k : Nat} {u : SX} {v : SY} (I : i_Rel k u v) (hk : k + 3 ≤ 1536) : wpX_size (fun r => wpY_size (fun r' => r' = r ∧ i_Rel (k + 3) u v) v) u := by
  have I' : i_Rel (k + 3) u v := I
  obtain ⟨m, X, Y⟩ := I
  refine az_Xsize X (fun c hc => az_Ysize Y (fun c' hc' => ?_))
  have e : c' = c := by omega
  exact ⟨by rw [e], I'⟩
theorem i_vc_above {k : Nat} {u : SX} {v : SY} (I : i_Rel k u v) (hk : k + 3 ≤ 1536) (v1 : Int32) : wpX_above (fun r => wpY_above (fun r' => r' = r ∧ i_Rel (k + 3) u v) v v1) u v1 := by
  have I' : i_Rel (k + 3) u v := I
  obtain ⟨m, X, Y⟩ := I
  exact az_Xabove X (fun r hr => az_Yabove Y (fun r' hr' => ⟨az_a_eq hr hr', I'⟩))
theorem i_vc_below {k : Nat} {u : SX} {v : SY} (I : i_Rel k u v) (hk : k + 3 ≤ 1536) (v1 : Int32) : wpX_below (fun r => wpY_below (fun r' => r' = r ∧ i_Rel (k + 3) u v) v v1) u v1 := by
  have I' : i_Rel (k + 3) u v := I
  obtain ⟨m, X, Y⟩ := I
  exact az_Xbelow X (fun r hr => az_Ybelow Y (fun r' hr' => ⟨az_b_eq hr hr', I'⟩))
theorem i_vc_atRank {k : Nat} {u : SX} {v : SY} (I : i_Rel k u v) (hk : k + 3 ≤ 1536) (v1 : Int32) : wpX_atRank (fun r => wpY_atRank (fun r' => r' = r ∧ i_Rel (k + 3) u v) v v1) u v1 := by
  have I' : i_Rel (k + 3) u v := I
  obtain ⟨m, X, Y⟩ := I
  exact az_XatRank X (fun r hr => az_YatRank Y (fun r' hr' => ⟨az_r_eq hr hr', I'⟩))
theorem i_vc_countRange {k : Nat} {u : SX} {v : SY} (I : i_Rel k u v) (hk : k + 3 ≤ 1536) (v1 : Int32) (v2 : Int32) : wpX_countRange (fun r => wpY_countRange (fun r' => r' = r ∧ i_Rel (k + 3) u v) v v1 v2) u v1 v2 := by
  have I' : i_Rel (k + 3) u v := I
  obtain ⟨m, X, Y⟩ := I
  refine az_XcountRange X (fun c hle hc => az_YcountRange Y (fun c' _ hc' => ?_) (fun hlt => by omega)) (fun hlt => az_YcountRange Y (fun c' hle _ => by omega) (fun _ => ⟨rfl, I'⟩))
  have e : c' = c := by omega
  exact ⟨by rw [e], I'⟩
theorem i_vc_sharedDigits {k : Nat} {u : SX} {v : SY} (I : i_Rel k u v) (hk : k + 3 ≤ 1536) (v1 : Int32) : wpX_sharedDigits (fun r => wpY_sharedDigits (fun r' => r' = r ∧ i_Rel (k + 3) u v) v v1) u v1 := by
  have I' : i_Rel (k + 3) u v := I
  obtain ⟨m, X, Y⟩ := I
  refine az_XsharedDigits X (fun hb => ?_) (fun x hx e no => ?_) (fun x r hx e hr => ?_)
  · have no : ∀ x, x < 65536 → v1 = nI x → False := fun x hx e => az_nk_of hx (by rw [← e]; exact hb)
    exact az_YsharedDigits Y (fun _ => ⟨rfl, I'⟩) (fun x hx e => (no x hx e).elim) (fun x r hx e => (no x hx e).elim)
  · subst e
    refine az_YsharedDigits Y (fun hb => absurd hb (az_nk_of hx)) (fun _ _ _ _ => ⟨rfl, I'⟩) (fun y r hy ey hr => ?_)
    obtain ⟨_, ⟨k', k1, _⟩, _⟩ := hr
    exact absurd k1 (no k')
  · subst e
    refine az_YsharedDigits Y (fun hb => absurd hb (az_nk_of hx)) (fun y hy ey no => ?_) (fun y r' hy ey hr' => ?_)
    · obtain ⟨_, ⟨k', k1, _⟩, _⟩ := hr
      exact absurd k1 (no k')
    · rw [← az_inj hx hy ey] at hr'
      exact ⟨by rw [az_sd_uniq hr' hr], I'⟩
theorem i_vc_sumUnder {k : Nat} {u : SX} {v : SY} (I : i_Rel k u v) (hk : k + 3 ≤ 1536) (v1 : Int32) (v2 : Int32) : wpX_sumUnder (fun r => wpY_sumUnder (fun r' => r' = r ∧ i_Rel (k + 3) u v) v v1 v2) u v1 v2 := by
  have I' : i_Rel (k + 3) u v := I
  obtain ⟨m, X, Y⟩ := I
  refine az_XsumUnder X (fun hb => ?_) (fun x d hx hd e1 e2 => ?_)
  · refine az_YsumUnder Y (fun _ => ⟨rfl, I'⟩) (fun x d hx hd e1 e2 => ?_)
    rw [e1, e2, nI_toInt (by omega)] at hb
    exact (hb.elim (az_nk_of hx) (fun w => by omega)).elim
  · subst e1 e2
    refine az_YsumUnder Y (fun hb => ?_) (fun y d' hy hd' e1 e2 => ?_)
    · rw [nI_toInt (by omega)] at hb
      exact (hb.elim (az_nk_of hx) (fun w => by omega)).elim
    · have ed : d = d' := (nI_eq (by omega) (by omega)).mp e2
      rw [← az_inj hx hy e1, ← ed]
      exact ⟨rfl, I'⟩
end
