/-! the reference's sharedDigits -/
section
variable {m : Nat → Option Int32} {n : Nat} {ks : Nat → Nat} {vs : Nat → Int32}
def az_sI (x : Nat) (ks : Nat → Nat) (i : Nat) (b : Int32) : Prop := (b = -3 ∧ i = 0) ∨ ∃ r, r ≤ 4 ∧ b = nI r ∧ (∃ j, j < i ∧ az_un r x (ks j)) ∧ ∀ j e, j < i → e ≤ 4 → az_un e x (ks j) → e ≤ r
def az_sJ (x : Nat) (ks : Nat → Nat) (i d : Nat) (b : Int32) : Prop := (b = -3 ∧ i = 0 ∧ d = 0) ∨ ∃ r, r ≤ 4 ∧ b = nI r ∧ ((∃ j, j < i ∧ az_un r x (ks j)) ∨ az_un r x (ks i)) ∧ (∀ j e, j < i → e ≤ 4 → az_un e x (ks j) → e ≤ r) ∧ ∀ e, e < d → az_un e x (ks i) → e ≤ r
theorem az_sJ_0 {x i : Nat} {b : Int32} (h : az_sI x ks i b) : az_sJ x ks i 0 b := by
  rcases h with ⟨e, h1⟩ | ⟨r, h1, h2, h3, h4⟩
  · exact Or.inl ⟨e, h1, rfl⟩
  · exact Or.inr ⟨r, h1, h2, Or.inl h3, h4, fun e he => absurd he (Nat.not_lt_zero _)⟩
theorem az_sJ_5 {x i : Nat} {b : Int32} (h : az_sJ x ks i 5 b) : az_sI x ks (i + 1) b := by
  rcases h with ⟨_, _, h1⟩ | ⟨r, h1, h2, h3, h4, h5⟩
  · omega
  · refine Or.inr ⟨r, h1, h2, ?_, ?_⟩
    · rcases h3 with ⟨j, j1, j2⟩ | j2
      · exact ⟨j, by omega, j2⟩
      · exact ⟨i, by omega, j2⟩
    · intro j e hj he hu
      by_cases z : j = i
      · rw [z] at hu; exact h5 e (by omega) hu
      · exact h4 j e (by omega) he hu
theorem az_sy_in {post : Int32 → Prop} {J : Int32 → Int32 → Prop} {x i : Nat} (h : az_Y m n ks vs) (hx : x < 65536) (hi : i < n) (hJ : ∀ b, az_sI x ks (i + 1) b → J b (nI (i + 1))) :
    ∀ g d (b : Int32), d + g = 5 → az_sJ x ks i d b → wY_sharedDigits_26 post J (nI x) (nI i) (nI n) (az_A ks) vs (g + 1) b (nI d) := by
  have n64 := h.1
  have kb := (h.2.1 i hi).1
  intro g
  induction g with
  | zero =>
    intro d b hd hb
    have e : d = 5 := by omega
    subst e
    exact pk_lt 4 5 (fun _ => nm_r (nI_1 i) (hJ b (az_sJ_5 hb))) (fun z => absurd z (by omega))
  | succ g ih =>
    intro d b hd hb
    have i6 : vp_in (nI i) 64 := vp_in_nI (by omega) (by omega)
    refine pk_lt 4 d (fun z => absurd z (by omega)) (fun _ => ?_)
    rcases hb with ⟨e, h1, h2⟩ | ⟨r, h1, h2, h3, h4, h5⟩
    · subst e h1 h2
      refine br_f (by decide) ⟨i6, az_share (az_at' rfl (by omega)) rfl rfl kb hx (by omega) (fun hu => br_f (by decide) (nm_r (nI_1 0) (ih 1 _ (by omega) (Or.inr ⟨0, by omega, rfl, Or.inr (az_un_symm hu), fun j e hj => absurd hj (Nat.not_lt_zero _), fun e he _ => by omega⟩)))) (fun hu => absurd (az_un0 kb hx) hu)⟩
    · subst h2
      refine pk_le d r (fun z => nm_r (nI_1 d) (ih (d + 1) _ (by omega) (Or.inr ⟨r, h1, rfl, h3, h4, az_lt_s h5 (fun _ => z)⟩))) (fun z => ⟨i6, az_share (az_at' rfl (by omega)) rfl rfl kb hx (by omega) (fun hu => br_f (by decide) (nm_r (nI_1 d) (ih (d + 1) _ (by omega) (Or.inr ⟨d, by omega, rfl, Or.inr (az_un_symm hu), fun j e hj he hu' => ?_, fun e he _ => by omega⟩)))) (fun hu => br_t rfl (nm_r (nI_1 d) (ih (d + 1) _ (by omega) (Or.inr ⟨r, h1, rfl, h3, h4, az_lt_s h5 (fun w => absurd (az_un_symm w) hu)⟩))))⟩)
      have := h4 j e hj he hu'
      omega
theorem az_sy_out {post : Int32 → Prop} {x : Nat} (h : az_Y m n ks vs) (hx : x < 65536) (hp : ∀ b, az_sI x ks n b → post b) :
    ∀ g i (b : Int32), i + g = n → az_sI x ks i b → wY_sharedDigits_15 post (nI x) (nI n) (az_A ks) vs (g + 1) b (nI i) := by
  have n64 := h.1
  intro g
  induction g with
  | zero =>
    intro i b hi hb
    have e : i = n := by omega
    subst e
    exact pk_le i i (fun _ => hp b hb) (fun z => absurd z (by omega))
  | succ g ih =>
    intro i b hi hb
    refine pk_le n i (fun z => absurd z (by omega)) (fun _ => ⟨6, ?_⟩)
    exact az_sy_in h hx (by omega) (fun b' hb' => ih (i + 1) b' (by omega) hb') 5 0 b (by omega) (az_sJ_0 hb)
end
theorem az_YsharedDigits {m : Nat → Option Int32} {v : SY} {post : Int32 → Prop} {p0 : Int32} (Y : az_YI m v) (hb : az_nk p0 → post (-1)) (h0 : ∀ x, x < 65536 → p0 = nI x → (∀ k, ¬ az_K m k) → post (-3))
    (h1 : ∀ x r, x < 65536 → p0 = nI x → az_sd (az_K m) x r → post (nI r)) : wpY_sharedDigits post v p0 := by
  obtain ⟨n, ks, vs, rfl, hY⟩ := Y
  unfold wpY_sharedDigits
  refine az_isKeyY (fun x hx e => br_f (by decide) ⟨n + 1, ?_⟩) (fun hk => br_t rfl (hb hk))
  subst e
  refine az_sy_out hY hx (fun b hb' => ?_) n 0 (-3) (by omega) (Or.inl ⟨rfl, rfl⟩)
  rcases hb' with ⟨e, n0⟩ | ⟨r, r4, e, ⟨j, j1, j2⟩, hr⟩
  · rw [e]
    refine h0 x hx rfl (fun k hk => ?_)
    obtain ⟨i, hi, _⟩ := hY.2.2.2 k hk
    omega
  · rw [e]
    refine h1 x r hx rfl ⟨r4, ⟨ks j, az_Y_K hY j1, j2⟩, fun r3 k hk hu => ?_⟩
    obtain ⟨i, hi, e2⟩ := hY.2.2.2 k hk
    rw [← e2] at hu
    have := hr i (r + 1) hi (by omega) hu
    omega
/-! the start -/
theorem az_X_0 : az_X (fun _ => none) ((0, (fun _ => 0), (fun _ => 0), (fun _ => 0), (fun _ => 0), (fun _ => 0), (fun _ => 0), (fun _ => 0), (fun _ => 0), (fun _ => 0), (fun _ => 0), (fun _ => 0)) : SX) := by
  have nk : ∀ k, ¬ az_K (fun _ => none) k := fun k h => h rfl
  have c0 : az_C (fun _ => none) 65536 = 0 := az_C_eq (Nat.zero_le 65536) (fun k _ _ => nk k)
  have no : ∀ i : Nat, ¬ (fun _ : Nat => 0) i = 1 := fun i h => Nat.zero_ne_one h
  refine ⟨fun _ => 0, fun _ => 0, fun _ => 0, fun _ => 0, fun _ => 0, fun _ => 0, fun _ => 0, fun _ => 0, fun _ => 0, fun _ => 0, fun _ => 0, fun _ _ => 0, 0, rfl, ⟨?_, ?_, ?_, ?_, ?_, ?_⟩, by rw [c0]; omega⟩
  · exact ⟨fun i hi => absurd hi (no i), fun i hi => absurd hi (no i), fun i _ hi => absurd hi (no i), fun i _ hi => absurd hi (no i), fun i hi => absurd hi (no i), fun i _ hi => absurd hi (no i), ⟨fun _ => nk, fun z => absurd rfl z⟩, fun k hk => absurd hk (nk k)⟩
  · exact ⟨fun i hi => absurd hi (no i), rfl, rfl⟩
  · refine ⟨fun i hi => absurd hi (no i), fun i _ hi => absurd hi (no i), fun i hi => absurd rfl hi, fun _ => Nat.zero_le 1, rfl, ?_⟩
    rw [az_S_congr (f := fun i => if (fun _ : Nat => 0) i = 0 then (0 : Int) else 1) (g := fun _ => 0) (fun i _ => rfl), az_S_const0]
    exact az_S_const0 16
  · rw [c0]
    refine ⟨?_, ?_⟩
    · rw [az_S_congr (g := fun _ => 0) (fun i _ => az_lf_0 (Or.inl (no i))), az_S_const0]
    · rw [az_S_congr (g := fun _ => 0) (fun i _ => az_bf_0 (Or.inl (no i))), az_S_const0]
      rfl
  · exact fun _ => Nat.zero_le 1
  · exact fun i hi => absurd hi (no i)
theorem az_YI_0 : az_YI (fun _ => none) ((0, (fun _ => 0), (fun _ => 0)) : SY) :=
  ⟨0, fun _ => 0, fun _ => 0, rfl, by omega, fun i hi => absurd hi (Nat.not_lt_zero _), fun i j hi => absurd hi (Nat.not_lt_zero _), fun k hk => absurd rfl hk⟩
theorem az_inj {x y : Nat} (hx : x < 65536) (hy : y < 65536) (h : nI x = nI y) : x = y := (nI_eq (by omega) (by omega)).mp h
theorem az_cutout_0 {m : Nat → Option Int32} {a b : Nat} (h : b < a) : az_cutout m a b = m := by
  funext k
  unfold az_cutout
  rw [if_neg (by omega)]
