/-! shifts and digits of keys, isKey, digitAt, firstDigits, digitsInCommon -/
def az_A (f : Nat → Nat) : Nat → Int32 := fun i => nI (f i)
theorem az_at' {f : Nat → Nat} {x : Int32} {i : Nat} (hx : x = nI i) (h : i < 2 ^ 31) : az_A f x.toNatClampNeg = nI (f i) := by
  unfold az_A; rw [hx, nI_clamp h]
theorem az_atL {f : Nat → Int64} {x : Int32} {i : Nat} (hx : x = nI i) (h : i < 2 ^ 31) : f x.toNatClampNeg = f i := by
  rw [hx, nI_clamp h]
theorem az_updA {f : Nat → Nat} {x : Int32} {y : Int32} {k v : Nat} (hx : x = nI k) (hk : k < 2 ^ 31) (hy : y = nI v) : upd (az_A f) x.toNatClampNeg y = az_A (az_f f k v) := by
  rw [hx, nI_clamp hk, hy]; exact az_upd f k v
theorem az_ne1 {k : Nat} (h : k < 2 ^ 31) : ¬ nI k = -1 := by
  intro e
  have e1 := congrArg Int32.toInt e
  rw [nI_toInt h, show (-1 : Int32).toInt = -1 from by decide] at e1
  omega
theorem az_ne3 {k : Nat} (h : k < 2 ^ 31) : ¬ nI k = -3 := by
  intro e
  have e1 := congrArg Int32.toInt e
  rw [nI_toInt h, show (-3 : Int32).toInt = -3 from by decide] at e1
  omega
theorem az_lt0 (x : Int32) : x < 0 ↔ x.toInt < 0 := by
  rw [Int32.lt_iff_toInt_lt, show (0 : Int32).toInt = 0 from by decide]
theorem az_le0 (x : Int32) : 0 ≤ x ↔ 0 ≤ x.toInt := by
  rw [Int32.le_iff_toInt_le, show (0 : Int32).toInt = 0 from by decide]
theorem az_nat (x : Int32) (h : 0 ≤ x.toInt) : ∃ j : Nat, j < 2 ^ 31 ∧ x = nI j ∧ x.toInt = j := by
  obtain ⟨j, hj, e⟩ := nI_of (x := x) (by rw [az_lt0]; omega)
  exact ⟨j, hj, e, by rw [e, nI_toInt hj]⟩
def az_nk (p : Int32) : Prop := p.toInt < 0 ∨ 65536 ≤ p.toInt
theorem az_nk_of {x : Nat} (h : x < 65536) : ¬ az_nk (nI x) := by
  unfold az_nk
  rw [nI_toInt (by omega)]
  omega
theorem az_isKey {post : Int32 → Prop} {p0 : Int32} (h1 : ∀ x, x < 65536 → p0 = nI x → post 1) (h0 : az_nk p0 → post 0) : wpX_isKey post p0 := by
  by_cases z : p0 < 0
  · exact br_t z (h0 (Or.inl ((az_lt0 p0).mp z)))
  · obtain ⟨j, hj, rfl⟩ := nI_of z
    refine br_f z (pk_lt 65535 j (fun h => h0 (Or.inr ?_)) (fun h => h1 j (by omega) rfl))
    rw [nI_toInt hj]; omega
theorem az_isKeyY {post : Int32 → Prop} {v : SY} {p0 : Int32} (h1 : ∀ x, x < 65536 → p0 = nI x → post 1) (h0 : az_nk p0 → post 0) : wpY_isKey post v p0 := by
  obtain ⟨a, b, c⟩ := v
  by_cases z : p0 < 0
  · exact br_t z (h0 (Or.inl ((az_lt0 p0).mp z)))
  · obtain ⟨j, hj, rfl⟩ := nI_of z
    refine br_f z (pk_lt 65535 j (fun h => h0 (Or.inr ?_)) (fun h => h1 j (by omega) rfl))
    rw [nI_toInt hj]; omega
theorem az_dgX {k d : Nat} (hk : k < 65536) (hd : d < 4) : ((nI k >>> ((16 - (4 * (nI d + 1))) &&& 31)) &&& 15) = nI (az_dg k d) := by
  rcases az_lt4 hd with rfl | rfl | rfl | rfl
  · rw [pk_shrN (by omega) _ 12 (by decide), pk_andN (by omega) 4 (by decide)]; rfl
  · rw [pk_shrN (by omega) _ 8 (by decide), pk_andN (by omega) 4 (by decide)]; rfl
  · rw [pk_shrN (by omega) _ 4 (by decide), pk_andN (by omega) 4 (by decide)]; rfl
  · rw [pk_shrN (by omega) _ 0 (by decide), pk_andN (by omega) 4 (by decide)]; rfl
theorem az_dgY {k d : Nat} (hk : k < 65536) (hd : d < 4) : ((nI k >>> ((12 - (4 * nI d)) &&& 31)) &&& 15) = nI (az_dg k d) := by
  rcases az_lt4 hd with rfl | rfl | rfl | rfl
  · rw [pk_shrN (by omega) _ 12 (by decide), pk_andN (by omega) 4 (by decide)]; rfl
  · rw [pk_shrN (by omega) _ 8 (by decide), pk_andN (by omega) 4 (by decide)]; rfl
  · rw [pk_shrN (by omega) _ 4 (by decide), pk_andN (by omega) 4 (by decide)]; rfl
  · rw [pk_shrN (by omega) _ 0 (by decide), pk_andN (by omega) 4 (by decide)]; rfl
theorem az_fdX {k d : Nat} (hk : k < 65536) (hd : d ≤ 4) : (nI k >>> ((16 - (4 * nI d)) &&& 31)) = nI (k / az_w d) := by
  rcases az_le4 hd with rfl | rfl | rfl | rfl | rfl
  · rw [pk_shrN (by omega) _ 16 (by decide)]; rfl
  · rw [pk_shrN (by omega) _ 12 (by decide)]; rfl
  · rw [pk_shrN (by omega) _ 8 (by decide)]; rfl
  · rw [pk_shrN (by omega) _ 4 (by decide)]; rfl
  · rw [pk_shrN (by omega) _ 0 (by decide)]; rfl
theorem az_cutX {k d : Nat} (hk : k < 65536) (hd : d ≤ 4) : (nI k >>> ((16 - (4 * nI d)) &&& 31)) <<< ((16 - (4 * nI d)) &&& 31) = nI (az_cut k d) := by
  rw [az_fdX hk hd]
  have e := az_cut_le k d
  unfold az_cut at e ⊢
  rcases az_le4 hd with rfl | rfl | rfl | rfl | rfl
  · rw [pk_shlN _ 16 (by decide) (by simp only [az_w0] at *; omega)]; rfl
  · rw [pk_shlN _ 12 (by decide) (by simp only [az_w1] at *; omega)]; rfl
  · rw [pk_shlN _ 8 (by decide) (by simp only [az_w2] at *; omega)]; rfl
  · rw [pk_shlN _ 4 (by decide) (by simp only [az_w3] at *; omega)]; rfl
  · rw [pk_shlN _ 0 (by decide) (by simp only [az_w4] at *; omega)]; rfl
theorem az_digitAt {post : Int32 → Prop} {x y : Int32} {k d : Nat} (hx : x = nI k) (hy : y = nI d) (hk : k < 65536) (hd : d < 4) (h : post (nI (az_dg k d))) : wpX_digitAt post x y := by
  subst hx hy
  unfold wpX_digitAt
  rw [az_dgX hk hd]
  exact h
theorem az_firstDigits {post : Int32 → Prop} {x y : Int32} {k d : Nat} (hx : x = nI k) (hy : y = nI d) (hk : k < 65536) (hd : d ≤ 4) (h : post (nI (k / az_w d))) : wpX_firstDigits post x y := by
  subst hx hy
  unfold wpX_firstDigits
  rw [az_fdX hk hd]
  exact h
theorem az_div_lt {k : Nat} (d : Nat) (hk : k < 65536) : k / az_w d < 2 ^ 31 := Nat.lt_of_le_of_lt (Nat.div_le_self _ _) (by omega)
theorem az_dg31 (k d : Nat) : az_dg k d < 2 ^ 31 := Nat.lt_trans (az_dg_lt k d) (by decide)
theorem az_common_loop {post : Int32 → Prop} {a b : Nat} (ha : a < 65536) (hb : b < 65536) (h : ∀ r, az_com a b r → post (nI r)) : ∀ d r, r + d = 4 → az_un r a b → wX_digitsInCommon_2 post (nI a) (nI b) (d + 1) (nI r) := by
  intro d
  induction d with
  | zero =>
    intro r hr hu
    have e : r = 4 := by omega
    subst e
    exact br_t (by decide) (h 4 ⟨Nat.le_refl 4, hu, fun z => by omega⟩)
  | succ d ih =>
    intro r hr hu
    refine pk_le 4 r (fun z => absurd z (by omega)) (fun _ => ?_)
    refine az_digitAt rfl rfl ha (by omega) ?_
    refine az_digitAt rfl rfl hb (by omega) ?_
    refine pk_eq (az_dg a r) (az_dg b r) (fun e => ?_) (fun e => h r ⟨by omega, hu, fun _ => e⟩) rfl rfl (az_dg31 a r) (az_dg31 b r)
    exact nm_r (nI_1 r) (ih (r + 1) (by omega) (az_un_step (by omega) hu e.symm))
theorem az_common {post : Int32 → Prop} {x y : Int32} {a b : Nat} (hx : x = nI a) (hy : y = nI b) (ha : a < 65536) (hb : b < 65536) (h : ∀ r, az_com a b r → post (nI r)) : wpX_digitsInCommon post x y := by
  subst hx hy
  exact ⟨5, az_common_loop ha hb h 4 0 rfl (az_un0 ha hb)⟩
