/-! sums over a range; the content m, its counts C and its sums Q -/
def az_S (f : Nat → Int) : Nat → Int
  | 0 => 0
  | n + 1 => az_S f n + f n
theorem az_S_succ (f : Nat → Int) (n : Nat) : az_S f (n + 1) = az_S f n + f n := rfl
theorem az_S_0 (f : Nat → Int) : az_S f 0 = 0 := rfl
theorem az_S_seg {f g : Nat → Int} {a : Nat} : ∀ {b : Nat}, a ≤ b → (∀ i, a ≤ i → i < b → f i = g i) → az_S f b - az_S f a = az_S g b - az_S g a := by
  intro b
  induction b with
  | zero =>
    intro h _
    have z : a = 0 := by omega
    subst z
    omega
  | succ b ih =>
    intro h he
    by_cases z : a = b + 1
    · subst z; omega
    · have h1 := ih (by omega) (fun i h1 h2 => he i h1 (by omega))
      have h2 := he b (by omega) (by omega)
      rw [az_S_succ, az_S_succ]
      omega
theorem az_S_congr {f g : Nat → Int} {n : Nat} (h : ∀ i, i < n → f i = g i) : az_S f n = az_S g n := by
  have h1 := az_S_seg (f := f) (g := g) (Nat.zero_le n) (fun i _ h2 => h i h2)
  rw [az_S_0, az_S_0] at h1
  omega
theorem az_S_zero {f : Nat → Int} {a : Nat} : ∀ {b : Nat}, a ≤ b → (∀ i, a ≤ i → i < b → f i = 0) → az_S f b = az_S f a := by
  intro b
  induction b with
  | zero =>
    intro h _
    have z : a = 0 := by omega
    subst z
    rfl
  | succ b ih =>
    intro h he
    by_cases z : a = b + 1
    · subst z; rfl
    · have h1 := ih (by omega) (fun i h1 h2 => he i h1 (by omega))
      have h2 := he b (by omega) (by omega)
      rw [az_S_succ]
      omega
theorem az_S_shrink {f : Nat → Int} {a p q b : Nat} (h1 : a ≤ p) (h2 : p ≤ q) (h3 : q ≤ b) (h : ∀ i, a ≤ i → i < b → ¬ (p ≤ i ∧ i < q) → f i = 0) : az_S f b - az_S f a = az_S f q - az_S f p := by
  have e1 := az_S_zero (f := f) h1 (fun i x y => h i x (by omega) (by omega))
  have e2 := az_S_zero (f := f) h3 (fun i x y => h i (by omega) y (by omega))
  omega
theorem az_S_le {f g : Nat → Int} : ∀ {n : Nat}, (∀ i, i < n → f i ≤ g i) → az_S f n ≤ az_S g n := by
  intro n
  induction n with
  | zero => intro _; exact Int.le_refl _
  | succ n ih =>
    intro h
    have h1 := ih (fun i hi => h i (by omega))
    have h2 := h n (by omega)
    rw [az_S_succ, az_S_succ]
    omega
theorem az_S_mono {f : Nat → Int} (h0 : ∀ i, 0 ≤ f i) {a : Nat} : ∀ {b : Nat}, a ≤ b → az_S f a ≤ az_S f b := by
  intro b
  induction b with
  | zero =>
    intro h
    have z : a = 0 := by omega
    subst z
    exact Int.le_refl _
  | succ b ih =>
    intro h
    by_cases z : a = b + 1
    · subst z; exact Int.le_refl _
    · have h1 := ih (by omega)
      have h2 := h0 b
      rw [az_S_succ]
      omega
theorem az_S_one {f g : Nat → Int} (k : Nat) (h : ∀ i, i ≠ k → f i = g i) (n : Nat) : az_S f n = az_S g n + (if k < n then f k - g k else 0) := by
  induction n with
  | zero => rw [az_S_0, az_S_0, if_neg (by omega)]; rfl
  | succ n ih =>
    rw [az_S_succ, az_S_succ, ih]
    by_cases z : k = n
    · subst z
      rw [if_neg (by omega), if_pos (by omega)]
      omega
    · have h1 := h n (by omega)
      by_cases y : k < n
      · rw [if_pos y, if_pos (by omega)]; omega
      · rw [if_neg y, if_neg (by omega)]; omega
theorem az_S_at {f g : Nat → Int} (k : Nat) {n : Nat} (hk : k < n) (h : ∀ i, i ≠ k → f i = g i) : az_S f n = az_S g n + (f k - g k) := by
  rw [az_S_one k h n, if_pos hk]
theorem az_S_add (f g : Nat → Int) (n : Nat) : az_S (fun i => f i + g i) n = az_S f n + az_S g n := by
  induction n with
  | zero => rfl
  | succ n ih => rw [az_S_succ, az_S_succ, az_S_succ, ih]; omega
theorem az_S_const0 (n : Nat) : az_S (fun _ => 0) n = 0 := by
  induction n with
  | zero => rfl
  | succ n ih => rw [az_S_succ, ih]; rfl
theorem az_S_gt {f : Nat → Int} (h0 : ∀ i, 0 ≤ f i) {a b k : Nat} (ha : a ≤ k) (hb : k < b) (hk : 1 ≤ f k) : az_S f a + 1 ≤ az_S f b := by
  have h1 := az_S_mono h0 ha
  have h2 := az_S_mono h0 (show k + 1 ≤ b from hb)
  rw [az_S_succ] at h2
  omega
theorem az_S_some {f : Nat → Int} {n : Nat} (h : 1 ≤ az_S f n) : ∃ a, a < n ∧ 1 ≤ f a := by
  induction n with
  | zero => rw [az_S_0] at h; omega
  | succ n ih =>
    by_cases z : 1 ≤ f n
    · exact ⟨n, by omega, z⟩
    · rw [az_S_succ] at h
      obtain ⟨a, h1, h2⟩ := ih (by omega)
      exact ⟨a, by omega, h2⟩
theorem az_S_two {f : Nat → Int} {n : Nat} (h1 : ∀ i, f i ≤ 1) (h : 2 ≤ az_S f n) : ∃ a b, a < n ∧ b < n ∧ a ≠ b ∧ 1 ≤ f a ∧ 1 ≤ f b := by
  induction n with
  | zero => rw [az_S_0] at h; omega
  | succ n ih =>
    rw [az_S_succ] at h
    by_cases z : 1 ≤ f n
    · have := h1 n
      obtain ⟨a, h2, h3⟩ := az_S_some (f := f) (n := n) (by omega)
      exact ⟨a, n, by omega, by omega, by omega, h3, z⟩
    · obtain ⟨a, b, x1, x2, x3, x4, x5⟩ := ih (by omega)
      exact ⟨a, b, by omega, by omega, x3, x4, x5⟩
theorem az_S_single (a : Nat) (x : Int) (n : Nat) : az_S (fun k => if a = k then x else 0) n = if a < n then x else 0 := by
  induction n with
  | zero => rw [az_S_0, if_neg (by omega)]
  | succ n ih =>
    rw [az_S_succ, ih]
    by_cases z : a = n
    · subst z; rw [if_neg (by omega), if_pos rfl, if_pos (by omega)]; omega
    · by_cases y : a < n
      · rw [if_pos y, if_neg z, if_pos (by omega)]; omega
      · rw [if_neg y, if_neg z, if_neg (by omega)]; omega
/-- n - 1 cells of 1 .. n - 1 can't all be 1 if the sum is less -/
theorem az_S_free {f : Nat → Nat} {n : Nat} (hf : ∀ i, f i ≤ 1) (h : az_S (fun i => (f i : Int)) n + 1 < n) : ∃ j, 1 ≤ j ∧ j < n ∧ f j = 0 := by
  induction n with
  | zero => rw [az_S_0] at h; omega
  | succ n ih =>
    rw [az_S_succ] at h
    by_cases z : f n = 0
    · by_cases y : n = 0
      · subst y; rw [az_S_0] at h; omega
      · exact ⟨n, by omega, by omega, z⟩
    · have h1 := hf n
      have h2 : f n = 1 := by omega
      obtain ⟨j, x1, x2, x3⟩ := ih (by rw [h2] at h; omega)
      exact ⟨j, x1, by omega, x3⟩
/-! content -/
def az_c1 (m : Nat → Option Int32) (k : Nat) : Int := match m k with
  | none => 0
  | some _ => 1
def az_cq (m : Nat → Option Int32) (k : Nat) : Int := match m k with
  | none => 0
  | some v => v.toInt
def az_C (m : Nat → Option Int32) (x : Nat) : Int := az_S (az_c1 m) x
def az_Q (m : Nat → Option Int32) (x : Nat) : Int := az_S (az_cq m) x
def az_K (m : Nat → Option Int32) (k : Nat) : Prop := m k ≠ none
def az_put (m : Nat → Option Int32) (k : Nat) (o : Option Int32) : Nat → Option Int32 := fun j => if j = k then o else m j
theorem az_put_s (m : Nat → Option Int32) (k : Nat) (o : Option Int32) : az_put m k o k = o := if_pos rfl
theorem az_put_n {m : Nat → Option Int32} {k j : Nat} {o : Option Int32} (h : j ≠ k) : az_put m k o j = m j := if_neg h
theorem az_c1_none {m : Nat → Option Int32} {k : Nat} (h : m k = none) : az_c1 m k = 0 := by unfold az_c1; rw [h]
theorem az_c1_some {m : Nat → Option Int32} {k : Nat} {v : Int32} (h : m k = some v) : az_c1 m k = 1 := by unfold az_c1; rw [h]
theorem az_cq_none {m : Nat → Option Int32} {k : Nat} (h : m k = none) : az_cq m k = 0 := by unfold az_cq; rw [h]
theorem az_cq_some {m : Nat → Option Int32} {k : Nat} {v : Int32} (h : m k = some v) : az_cq m k = v.toInt := by unfold az_cq; rw [h]
theorem az_K_some {m : Nat → Option Int32} {k : Nat} (h : az_K m k) : ∃ v, m k = some v := by
  unfold az_K at h
  cases e : m k with
  | none => exact absurd e h
  | some v => exact ⟨v, rfl⟩
theorem az_K_of {m : Nat → Option Int32} {k : Nat} {v : Int32} (h : m k = some v) : az_K m k := by
  unfold az_K; rw [h]; exact fun z => nomatch z
theorem az_nK {m : Nat → Option Int32} {k : Nat} (h : ¬ az_K m k) : m k = none := by
  unfold az_K at h
  exact Classical.byContradiction fun z => h z
theorem az_c1_K {m : Nat → Option Int32} {k : Nat} (h : az_K m k) : az_c1 m k = 1 := by
  obtain ⟨v, e⟩ := az_K_some h
  exact az_c1_some e
theorem az_c1_nn (m : Nat → Option Int32) (k : Nat) : 0 ≤ az_c1 m k := by
  unfold az_c1
  split <;> omega
theorem az_c1_le (m : Nat → Option Int32) (k : Nat) : az_c1 m k ≤ 1 := by
  unfold az_c1
  split <;> omega
theorem az_C_succ (m : Nat → Option Int32) (x : Nat) : az_C m (x + 1) = az_C m x + az_c1 m x := rfl
theorem az_Q_succ (m : Nat → Option Int32) (x : Nat) : az_Q m (x + 1) = az_Q m x + az_cq m x := rfl
theorem az_C_mono (m : Nat → Option Int32) {a b : Nat} (h : a ≤ b) : az_C m a ≤ az_C m b := az_S_mono (az_c1_nn m) h
theorem az_C_gt {m : Nat → Option Int32} {a b k : Nat} (ha : a ≤ k) (hb : k < b) (hk : az_K m k) : az_C m a + 1 ≤ az_C m b :=
  az_S_gt (az_c1_nn m) ha hb (by rw [az_c1_K hk]; omega)
theorem az_C_nn (m : Nat → Option Int32) (a : Nat) : 0 ≤ az_C m a := az_C_mono m (Nat.zero_le a)
theorem az_C_eq {m : Nat → Option Int32} {a b : Nat} (h : a ≤ b) (hk : ∀ k, a ≤ k → k < b → ¬ az_K m k) : az_C m b = az_C m a :=
  az_S_zero h (fun i x y => az_c1_none (az_nK (hk i x y)))
theorem az_Q_eq {m : Nat → Option Int32} {a b : Nat} (h : a ≤ b) (hk : ∀ k, a ≤ k → k < b → ¬ az_K m k) : az_Q m b = az_Q m a :=
  az_S_zero h (fun i x y => az_cq_none (az_nK (hk i x y)))
theorem az_C_shrink {m : Nat → Option Int32} {a p q b : Nat} (h1 : a ≤ p) (h2 : p ≤ q) (h3 : q ≤ b) (h : ∀ i, a ≤ i → i < b → az_K m i → p ≤ i ∧ i < q) : az_C m b - az_C m a = az_C m q - az_C m p :=
  az_S_shrink h1 h2 h3 (fun i x y z => az_c1_none (az_nK (fun w => z (h i x y w))))
theorem az_Q_shrink {m : Nat → Option Int32} {a p q b : Nat} (h1 : a ≤ p) (h2 : p ≤ q) (h3 : q ≤ b) (h : ∀ i, a ≤ i → i < b → az_K m i → p ≤ i ∧ i < q) : az_Q m b - az_Q m a = az_Q m q - az_Q m p :=
  az_S_shrink h1 h2 h3 (fun i x y z => az_cq_none (az_nK (fun w => z (h i x y w))))
/-- two keys of the same rank are one -/
theorem az_C_inj {m : Nat → Option Int32} {a b : Nat} (ha : az_K m a) (hb : az_K m b) (h : az_C m a = az_C m b) : a = b := by
  rcases Nat.lt_trichotomy a b with z | z | z
  · have := az_C_gt (Nat.le_refl a) z ha; omega
  · exact z
  · have := az_C_gt (Nat.le_refl b) z hb; omega
theorem az_C_put (m : Nat → Option Int32) (k : Nat) (o : Option Int32) (x : Nat) : az_C (az_put m k o) x = az_C m x + (if k < x then az_c1 (az_put m k o) k - az_c1 m k else 0) :=
  az_S_one k (fun i hi => by unfold az_c1; rw [az_put_n hi]) x
theorem az_Q_put (m : Nat → Option Int32) (k : Nat) (o : Option Int32) (x : Nat) : az_Q (az_put m k o) x = az_Q m x + (if k < x then az_cq (az_put m k o) k - az_cq m k else 0) :=
  az_S_one k (fun i hi => by unfold az_cq; rw [az_put_n hi]) x
