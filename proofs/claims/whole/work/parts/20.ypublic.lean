/-! the reference's methods against the content m -/
section
variable {m : Nat → Option Int32} {n : Nat} {ks : Nat → Nat} {vs : Nat → Int32}
theorem az_pl_loop {post : Int32 → Prop} {p : Int32} (h : az_Y m n ks vs) (h1 : ∀ i, i < n → nI (ks i) = p → post (nI i)) (h0 : (∀ i, i < n → nI (ks i) ≠ p) → post (-1)) :
    ∀ d i, i + d = n → (∀ j, j < i → nI (ks j) ≠ p) → wY_placeOf_2 post p (nI n) (az_A ks) vs (d + 1) (nI i) := by
  have n64 := h.1
  intro d
  induction d with
  | zero =>
    intro i hi hno
    have e : i = n := by omega
    subst e
    exact pk_le i i (fun _ => h0 hno) (fun z => absurd z (by omega))
  | succ d ih =>
    intro i hi hno
    refine pk_le n i (fun z => absurd z (by omega)) (fun _ => ⟨vp_in_nI (by omega) (by omega), ?_⟩)
    rw [az_at' rfl (by omega)]
    refine br_c (fun z => h1 i (by omega) z) (fun z => nm_r (nI_1 i) (ih (i + 1) (by omega) (fun j hj => ?_)))
    by_cases y : j = i
    · rw [y]; exact z
    · exact hno j (by omega)
theorem az_placeOf {post : Int32 → Prop} {p : Int32} (h : az_Y m n ks vs) (h1 : ∀ i, i < n → nI (ks i) = p → post (nI i)) (h0 : (∀ i, i < n → nI (ks i) ≠ p) → post (-1)) : wpY_placeOf post (nI n, az_A ks, vs) p :=
  ⟨n + 1, az_pl_loop h h1 h0 n 0 (by omega) (fun j hj => absurd hj (Nat.not_lt_zero _))⟩
/-- a key by its number -/
theorem az_placeN {post : Int32 → Prop} {x : Nat} (h : az_Y m n ks vs) (hx : x < 65536) (h1 : ∀ i, i < n → ks i = x → post (nI i)) (h0 : ¬ az_K m x → post (-1)) : wpY_placeOf post (nI n, az_A ks, vs) (nI x) := by
  refine az_placeOf h (fun i hi e => h1 i hi ?_) (fun hno => h0 (fun k => ?_))
  · have b := (h.2.1 i hi).1
    exact (nI_eq (by omega) (by omega)).mp e
  · obtain ⟨i, hi, e⟩ := h.2.2.2 x k
    exact hno i hi (by rw [e])
theorem az_dropAt {post : SY → Prop} {i : Nat} (h : az_Y m n ks vs) (hi : i < n) (hp : post (nI (n - 1), az_A (az_f ks i (ks (n - 1))), upd vs i (vs (n - 1)))) : wpY_dropAt post (nI n, az_A ks, vs) (nI i) := by
  have n64 := h.1
  have e : nI n - 1 = nI (n - 1) := pk_sub (b := 1) (by omega)
  have a1 : vp_in (nI (n - 1)) 64 := vp_in_nI (by omega) (by omega)
  have a2 : vp_in (nI i) 64 := vp_in_nI (by omega) (by omega)
  refine nm_r e ⟨a1, a2, nm_r (az_updA rfl (by omega) (az_at' rfl (by omega))) ⟨a1, a2, nm_r (e' := upd vs i (vs (n - 1))) ?_ hp⟩⟩
  rw [nI_clamp (by omega), nI_clamp (by omega)]
def az_YI (m : Nat → Option Int32) (v : SY) : Prop := ∃ (n : Nat) (ks : Nat → Nat) (vs : Nat → Int32), v = (nI n, az_A ks, vs) ∧ az_Y m n ks vs
end
theorem az_m1lt : (-1 : Int32) < 0 := by decide
theorem az_m1le : ¬ (0 : Int32) ≤ -1 := by decide
theorem az_Yput {m : Nat → Option Int32} {v : SY} {post : Int32 → SY → Prop} {p0 p1 : Int32} (Y : az_YI m v) (hb : az_nk p0 → post (-1) v)
    (hs : ∀ x, x < 65536 → p0 = nI x → az_K m x → ∀ v', az_YI (az_put m x (some p1)) v' → post 0 v')
    (hf : ∀ x, x < 65536 → p0 = nI x → ¬ az_K m x → az_C m 65536 = 64 → post (-2) v)
    (hn : ∀ x, x < 65536 → p0 = nI x → ¬ az_K m x → az_C m 65536 ≤ 63 → ∀ v', az_YI (az_put m x (some p1)) v' → post 1 v') : wpY_put post v p0 p1 := by
  obtain ⟨n, ks, vs, rfl, h⟩ := Y
  have n64 := h.1
  have nC := az_Y_n h
  unfold wpY_put
  refine az_isKeyY (fun x hx e => br_f (by decide) ?_) (fun hk => br_t rfl (hb hk))
  subst e
  refine az_placeN h hx (fun i hi e => br_f (nI_pos (by omega)) ⟨vp_in_nI (by omega) (by omega), nm_r (e' := upd vs i p1) ?_ ?_⟩) (fun nk => br_t az_m1lt (pk_eq n 64 (fun z => hf x hx rfl nk (by omega)) (fun z => ?_)))
  · rw [nI_clamp (by omega)]
  · exact hs x hx rfl (by rw [← e]; exact az_Y_K h hi) _ ⟨n, ks, _, rfl, az_Y_set h hi e⟩
  · have i6 : vp_in (nI n) 64 := vp_in_nI (by omega) (by omega)
    refine ⟨i6, nm_r (az_updA rfl (by omega) rfl) ⟨i6, nm_r (e' := upd vs n p1) ?_ (nm_r (nI_1 n) (hn x hx rfl nk (by omega) _ ⟨n + 1, _, _, rfl, az_Y_add h (by omega) hx nk⟩))⟩⟩
    rw [nI_clamp (by omega)]
theorem az_Yremove {m : Nat → Option Int32} {v : SY} {post : Int32 → SY → Prop} {p0 : Int32} (Y : az_YI m v) (hb : az_nk p0 → post (-1) v)
    (h0 : ∀ x, x < 65536 → p0 = nI x → ¬ az_K m x → post (-3) v)
    (h1 : ∀ x, x < 65536 → p0 = nI x → az_K m x → ∀ v' (c : Nat), az_YI (az_put m x none) v' → (c : Int) = az_C (az_put m x none) 65536 → post (nI c) v') : wpY_remove post v p0 := by
  obtain ⟨n, ks, vs, rfl, h⟩ := Y
  have n64 := h.1
  unfold wpY_remove
  refine az_isKeyY (fun x hx e => br_f (by decide) ?_) (fun hk => br_t rfl (hb hk))
  subst e
  refine az_placeN h hx (fun i hi e => br_t (nI_pos' (by omega)) (az_dropAt h hi ?_)) (fun nk => br_f az_m1le (h0 x hx rfl nk))
  have d := az_Y_drop h hi
  rw [e] at d
  exact h1 x hx rfl (by rw [← e]; exact az_Y_K h hi) _ _ ⟨_, _, _, rfl, d⟩ (az_Y_n d)
theorem az_rrY_loop {m : Nat → Option Int32} {post : Int32 → SY → Prop} {a b : Nat} {N : Int} (ha : a < 65536) (hb : b < 65536)
    (h : ∀ (n : Nat) (ks : Nat → Nat) (vs : Nat → Int32) (c : Nat), az_Y (az_cutout m a b) n ks vs → (c : Int) + n = N → post (nI c) (nI n, az_A ks, vs)) :
    ∀ i (m' : Nat → Option Int32) (n : Nat) (ks : Nat → Nat) (vs : Nat → Int32) (c : Nat), i ≤ 64 → az_Y m' n ks vs → az_less m m' a b → (c : Int) + n = N → (∀ j, i ≤ j → j < n → ¬ (a ≤ ks j ∧ ks j ≤ b)) →
      wY_removeRange_24 post (nI a) (nI b) (i + 1) (nI c) (nI i + (-1)) (nI n) (az_A ks) vs := by
  intro i
  induction i with
  | zero =>
    intro m' n ks vs c _ hY hl hc hno
    refine br_t (by decide) (h n ks vs c ?_ hc)
    have e : m' = az_cutout m a b := by
      refine az_less_end hl (fun k k1 k2 k3 => ?_)
      obtain ⟨j, hj, e⟩ := hY.2.2.2 k k3
      exact hno j (Nat.zero_le _) hj (by omega)
    rw [← e]; exact hY
  | succ i ih =>
    intro m' n ks vs c hi hY hl hc hno
    have n64 := hY.1
    rw [pk_m1 i]
    have skip : (∀ j, i ≤ j → j < n → ¬ (a ≤ ks j ∧ ks j ≤ b)) → ∀ x, x = nI i + (-1) → wY_removeRange_24 post (nI a) (nI b) (i + 1) (nI c) x (nI n) (az_A ks) vs := fun hn => nm_e (ih m' n ks vs c (by omega) hY hl hc hn)
    refine br_f (nI_pos (by omega)) (pk_le n i (fun z => skip (fun j h1 h2 => absurd h2 (by omega))) (fun z => ⟨vp_in_nI (by omega) (by omega), ?_⟩))
    have kb := (hY.2.1 i z).1
    have ext : ¬ (a ≤ ks i ∧ ks i ≤ b) → ∀ j, i ≤ j → j < n → ¬ (a ≤ ks j ∧ ks j ≤ b) := by
      intro hx j h1 h2
      by_cases y : j = i
      · rw [y]; exact hx
      · exact hno j (by omega) h2
    refine pk_lt (ks i) a (fun y => skip (ext (by omega))) (fun y => ⟨vp_in_nI (by omega) (by omega), pk_lt b (ks i) (fun w => skip (ext (by omega))) (fun w => ?_) rfl (az_at' rfl (by omega))⟩) (az_at' rfl (by omega)) rfl
    refine az_dropAt hY z (nm_r (nI_1 c) (nm_e (ih _ _ _ _ (c + 1) (by omega) (az_Y_drop hY z) (az_less_take hl y w) (by omega) (fun j h1 h2 => ?_))))
    by_cases v : j = i
    · rw [v, az_f_s]
      exact hno (n - 1) (by omega) (by omega)
    · rw [az_f_n v]
      exact hno j (by omega) (by omega)
theorem az_YremoveRange {m : Nat → Option Int32} {v : SY} {post : Int32 → SY → Prop} {p0 p1 : Int32} (Y : az_YI m v) (hb : (az_nk p0 ∨ az_nk p1) → post (-1) v)
    (h : ∀ a b, a < 65536 → b < 65536 → p0 = nI a → p1 = nI b → ∀ v' (c : Nat), az_YI (az_cutout m a b) v' → (c : Int) + az_C (az_cutout m a b) 65536 = az_C m 65536 → post (nI c) v') : wpY_removeRange post v p0 p1 := by
  obtain ⟨n, ks, vs, rfl, hY⟩ := Y
  have n64 := hY.1
  unfold wpY_removeRange
  refine az_isKeyY (fun a ha ea => br_f (by decide) (az_isKeyY (fun b hb' eb => br_f (by decide) ?_) (fun hk => br_t rfl (hb (Or.inr hk))))) (fun hk => br_t rfl (hb (Or.inl hk)))
  subst ea eb
  refine ⟨65, ?_⟩
  exact az_rrY_loop (N := az_C m 65536) ha hb' (fun n' ks' vs' c hY' hc => h a b ha hb' rfl rfl _ c ⟨n', ks', vs', rfl, hY'⟩ (by rw [← az_Y_n hY']; exact hc)) 64 m n ks vs 0 (Nat.le_refl _) hY (az_less_refl m a b) (by rw [← az_Y_n hY]; omega) (fun j h1 h2 => by omega)
theorem az_Ycontains {m : Nat → Option Int32} {v : SY} {post : Int32 → Prop} {p0 : Int32} (Y : az_YI m v) (h1 : ∀ x, x < 65536 → p0 = nI x → az_K m x → post 1) (h0 : (∀ x, x < 65536 → p0 = nI x → ¬ az_K m x) → post 0) : wpY_contains post v p0 := by
  obtain ⟨n, ks, vs, rfl, h⟩ := Y
  have n64 := h.1
  unfold wpY_contains
  refine az_placeOf h (fun i hi e => br_f (nI_pos (by omega)) (h1 (ks i) (h.2.1 i hi).1 e.symm (az_Y_K h hi))) (fun hno => br_t az_m1lt (h0 (fun x hx e k => ?_)))
  obtain ⟨i, hi, e2⟩ := h.2.2.2 x k
  exact hno i hi (by rw [e2, e])
theorem az_YvalueOf {m : Nat → Option Int32} {v : SY} {post : Int32 → Prop} {p0 : Int32} (Y : az_YI m v) (h1 : ∀ x w, x < 65536 → p0 = nI x → m x = some w → post w) (h0 : (∀ x, x < 65536 → p0 = nI x → ¬ az_K m x) → post 0) : wpY_valueOf post v p0 := by
  obtain ⟨n, ks, vs, rfl, h⟩ := Y
  have n64 := h.1
  unfold wpY_valueOf
  refine az_placeOf h (fun i hi e => br_t (nI_pos' (by omega)) ⟨vp_in_nI (by omega) (by omega), ?_⟩) (fun hno => br_f az_m1le (h0 (fun x hx e k => ?_)))
  · rw [nI_clamp (by omega)]
    exact h1 (ks i) (vs i) (h.2.1 i hi).1 e.symm (h.2.1 i hi).2
  · obtain ⟨i, hi, e2⟩ := h.2.2.2 x k
    exact hno i hi (by rw [e2, e])
theorem az_Ysize {m : Nat → Option Int32} {v : SY} {post : Int32 → Prop} (Y : az_YI m v) (h : ∀ c : Nat, (c : Int) = az_C m 65536 → post (nI c)) : wpY_size post v := by
  obtain ⟨n, ks, vs, rfl, hY⟩ := Y
  exact h n (az_Y_n hY)
section
variable {m : Nat → Option Int32} {n : Nat} {ks : Nat → Nat} {vs : Nat → Int32}
/-- the least key above b among the first i rows -/
def az_aI (b : Int) (ks : Nat → Nat) (i : Nat) (r : Int32) : Prop := (r = -3 ∧ ∀ j, j < i → ¬ b < (ks j : Int)) ∨ ∃ j, j < i ∧ r = nI (ks j) ∧ b < (ks j : Int) ∧ ∀ j', j' < i → b < (ks j' : Int) → ks j ≤ ks j'
def az_bI (b : Int) (ks : Nat → Nat) (i : Nat) (r : Int32) : Prop := (r = -3 ∧ ∀ j, j < i → ¬ (ks j : Int) < b) ∨ ∃ j, j < i ∧ r = nI (ks j) ∧ (ks j : Int) < b ∧ ∀ j', j' < i → (ks j' : Int) < b → ks j' ≤ ks j
theorem az_lt_s {P : Nat → Prop} {i : Nat} (h : ∀ j, j < i → P j) (hi : P i) : ∀ j, j < i + 1 → P j := by
  intro j hj
  by_cases z : j = i
  · rw [z]; exact hi
  · exact h j (by omega)
theorem az_ab_loop {post : Int32 → Prop} {p : Int32} (h : az_Y m n ks vs) (hp : ∀ r, az_aI p.toInt ks n r → post r) :
    ∀ d i (r : Int32), i + d = n → az_aI p.toInt ks i r → wY_above_5 post p (nI n) (az_A ks) vs (d + 1) r (nI i) := by
  have n64 := h.1
  intro d
  induction d with
  | zero =>
    intro i r hi hr
    have e : i = n := by omega
    subst e
    exact pk_le i i (fun _ => hp r hr) (fun z => absurd z (by omega))
  | succ d ih =>
    intro i r hi hr
    have kb := (h.2.1 i (by omega)).1
    have i6 : vp_in (nI i) 64 := vp_in_nI (by omega) (by omega)
    have le : nI (ks i) ≤ p ↔ (ks i : Int) ≤ p.toInt := by rw [Int32.le_iff_toInt_le, nI_toInt (by omega)]
    refine pk_le n i (fun z => absurd z (by omega)) (fun _ => ⟨i6, ?_⟩)
    rw [az_at' rfl (by omega)]
    refine br_c (fun z => nm_r (nI_1 i) (ih (i + 1) r (by omega) ?_)) (fun z => ?_)
    · rw [le] at z
      rcases hr with ⟨e, h1⟩ | ⟨j, j1, j2, j3, j4⟩
      · exact Or.inl ⟨e, az_lt_s h1 (by omega)⟩
      · exact Or.inr ⟨j, by omega, j2, j3, az_lt_s j4 (fun w => by omega)⟩
    · rw [le] at z
      rcases hr with ⟨e, h1⟩ | ⟨j, j1, j2, j3, j4⟩
      · subst e
        exact br_t rfl ⟨i6, nm_e (nm_r (nI_1 i) (ih (i + 1) _ (by omega) (Or.inr ⟨i, by omega, rfl, by omega, az_lt_s (fun j' w v => absurd v (h1 j' w)) (fun _ => Nat.le_refl _)⟩)))⟩
      · subst j2
        have jb := (h.2.1 j (by omega)).1
        refine br_f (az_ne3 (by omega)) ⟨i6, pk_le (ks j) (ks i) (fun y => nm_r (nI_1 i) (ih (i + 1) _ (by omega) (Or.inr ⟨j, by omega, rfl, j3, az_lt_s j4 (fun _ => y)⟩))) (fun y => ⟨i6, nm_e (nm_r (nI_1 i) (ih (i + 1) _ (by omega) (Or.inr ⟨i, by omega, rfl, by omega, az_lt_s (fun j' w v => by have := j4 j' w v; omega) (fun _ => Nat.le_refl _)⟩)))⟩)⟩
theorem az_be_loop {post : Int32 → Prop} {p : Int32} (h : az_Y m n ks vs) (hp : ∀ r, az_bI p.toInt ks n r → post r) :
    ∀ d i (r : Int32), i + d = n → az_bI p.toInt ks i r → wY_below_5 post p (nI n) (az_A ks) vs (d + 1) r (nI i) := by
  have n64 := h.1
  intro d
  induction d with
  | zero =>
    intro i r hi hr
    have e : i = n := by omega
    subst e
    exact pk_le i i (fun _ => hp r hr) (fun z => absurd z (by omega))
  | succ d ih =>
    intro i r hi hr
    have kb := (h.2.1 i (by omega)).1
    have i6 : vp_in (nI i) 64 := vp_in_nI (by omega) (by omega)
    have le : p ≤ nI (ks i) ↔ p.toInt ≤ (ks i : Int) := by rw [Int32.le_iff_toInt_le, nI_toInt (by omega)]
    refine pk_le n i (fun z => absurd z (by omega)) (fun _ => ⟨i6, ?_⟩)
    rw [az_at' rfl (by omega)]
    refine br_c (fun z => nm_r (nI_1 i) (ih (i + 1) r (by omega) ?_)) (fun z => ⟨i6, ?_⟩)
    · rw [le] at z
      rcases hr with ⟨e, h1⟩ | ⟨j, j1, j2, j3, j4⟩
      · exact Or.inl ⟨e, az_lt_s h1 (by omega)⟩
      · exact Or.inr ⟨j, by omega, j2, j3, az_lt_s j4 (fun w => by omega)⟩
    · rw [le] at z
      rcases hr with ⟨e, h1⟩ | ⟨j, j1, j2, j3, j4⟩
      · subst e
        refine br_f ?_ ⟨i6, nm_e (nm_r (nI_1 i) (ih (i + 1) _ (by omega) (Or.inr ⟨i, by omega, rfl, by omega, az_lt_s (fun j' w v => absurd v (h1 j' w)) (fun _ => Nat.le_refl _)⟩)))⟩
        rw [Int32.le_iff_toInt_le, nI_toInt (by omega), show (-3 : Int32).toInt = -3 from by decide]
        omega
      · subst j2
        have jb := (h.2.1 j (by omega)).1
        refine pk_le (ks i) (ks j) (fun y => nm_r (nI_1 i) (ih (i + 1) _ (by omega) (Or.inr ⟨j, by omega, rfl, j3, az_lt_s j4 (fun _ => y)⟩))) (fun y => ⟨i6, nm_e (nm_r (nI_1 i) (ih (i + 1) _ (by omega) (Or.inr ⟨i, by omega, rfl, by omega, az_lt_s (fun j' w v => by have := j4 j' w v; omega) (fun _ => Nat.le_refl _)⟩)))⟩)
theorem az_rk_loop {post : Int32 → Prop} {x : Nat} (h : az_Y m n ks vs) (hx : x < 65536) (hp : ∀ c : Nat, (c : Int) = az_C m x → post (nI c)) :
    ∀ d i (c : Nat), i + d = n → (c : Int) = az_S (fun j => if ks j < x then 1 else 0) i → wY_rankOf_4 post (nI x) (nI n) (az_A ks) vs (d + 1) (nI c) (nI i) := by
  have n64 := h.1
  intro d
  induction d with
  | zero =>
    intro i c hi hc
    have e : i = n := by omega
    subst e
    rw [az_Y_rank h (by omega)] at hc
    exact pk_le i i (fun _ => hp c hc) (fun z => absurd z (by omega))
  | succ d ih =>
    intro i c hi hc
    have kb := (h.2.1 i (by omega)).1
    refine pk_le n i (fun z => absurd z (by omega)) (fun _ => ⟨vp_in_nI (by omega) (by omega), pk_le x (ks i) (fun z => nm_r (nI_1 i) (ih (i + 1) c (by omega) ?_)) (fun z => nm_r (nI_1 c) (nm_r (nI_1 i) (ih (i + 1) (c + 1) (by omega) ?_))) rfl (az_at' rfl (by omega))⟩)
    · rw [az_S_succ, if_neg (by omega)]; omega
    · rw [az_S_succ, if_pos z]; omega
theorem az_ar_loop {post : Int32 → Prop} {p : Int32} (h : az_Y m n ks vs) (hp : ∀ r, az_rY m p.toInt r → post r) :
    ∀ d i, i + d = n → (∀ j, j < i → az_C m (ks j) ≠ p.toInt) → wY_atRank_2 post p (nI n) (az_A ks) vs (d + 1) (nI i) := by
  have n64 := h.1
  intro d
  induction d with
  | zero =>
    intro i hi hno
    have e : i = n := by omega
    subst e
    refine pk_le i i (fun _ => hp _ (Or.inl ⟨rfl, fun k k1 k2 => ?_⟩)) (fun z => absurd z (by omega))
    obtain ⟨j, hj, e⟩ := h.2.2.2 k k2
    rw [← e]; exact hno j hj
  | succ d ih =>
    intro i hi hno
    have kb := (h.2.1 i (by omega)).1
    have i6 : vp_in (nI i) 64 := vp_in_nI (by omega) (by omega)
    refine pk_le n i (fun z => absurd z (by omega)) (fun _ => ⟨i6, ?_⟩)
    rw [az_at' rfl (by omega)]
    refine ⟨n + 1, az_rk_loop h kb (fun c hc => ?_) n 0 0 (by omega) rfl⟩
    have c64 : (c : Int) ≤ 64 := by
      have a1 := az_C_mono m (Nat.le_of_lt kb)
      have a2 := az_Y_n h
      omega
    have e : nI c = p ↔ (c : Int) = p.toInt := by
      rw [← Int32.toInt_inj, nI_toInt (by omega)]
    refine br_c (fun z => ⟨i6, ?_⟩) (fun z => nm_r (nI_1 i) (ih (i + 1) (by omega) (az_lt_s hno ?_)))
    · rw [e] at z
      exact hp _ (Or.inr ⟨ks i, rfl, kb, az_Y_K h (by omega), by omega⟩)
    · rw [e] at z
      omega
theorem az_cr_loop {post : Int32 → Prop} {p q : Int32} (h : az_Y m n ks vs) (hp : ∀ c : Nat, (c : Int) = az_S (fun i => if p.toInt ≤ (ks i : Int) ∧ (ks i : Int) ≤ q.toInt then 1 else 0) n → post (nI c)) :
    ∀ d i (c : Nat), i + d = n → (c : Int) = az_S (fun i => if p.toInt ≤ (ks i : Int) ∧ (ks i : Int) ≤ q.toInt then 1 else 0) i → wY_countRange_5 post p q (nI n) (az_A ks) vs (d + 1) (nI c) (nI i) := by
  have n64 := h.1
  intro d
  induction d with
  | zero =>
    intro i c hi hc
    have e : i = n := by omega
    subst e
    exact pk_le i i (fun _ => hp c hc) (fun z => absurd z (by omega))
  | succ d ih =>
    intro i c hi hc
    have kb := (h.2.1 i (by omega)).1
    have i6 : vp_in (nI i) 64 := vp_in_nI (by omega) (by omega)
    have l1 : nI (ks i) < p ↔ (ks i : Int) < p.toInt := by rw [Int32.lt_iff_toInt_lt, nI_toInt (by omega)]
    have l2 : q < nI (ks i) ↔ q.toInt < (ks i : Int) := by rw [Int32.lt_iff_toInt_lt, nI_toInt (by omega)]
    refine pk_le n i (fun z => absurd z (by omega)) (fun _ => ⟨i6, ?_⟩)
    rw [az_at' rfl (by omega)]
    refine br_c (fun z => nm_r (nI_1 i) (ih (i + 1) c (by omega) ?_)) (fun z => ⟨i6, br_c (fun y => nm_r (nI_1 i) (ih (i + 1) c (by omega) ?_)) (fun y => nm_r (nI_1 c) (nm_r (nI_1 i) (ih (i + 1) (c + 1) (by omega) ?_)))⟩)
    · rw [l1] at z
      rw [az_S_succ, if_neg (by omega)]; omega
    · rw [l2] at y
      rw [az_S_succ, if_neg (by omega)]; omega
    · rw [l1] at z
      rw [l2] at y
      rw [az_S_succ, if_pos (by omega)]; omega
theorem az_sh_loop {post : Int32 → Prop} {a b d : Nat} {f_n : Int32} {KK VV : Nat → Int32} (ha : a < 65536) (hb : b < 65536) (hd : d ≤ 4) (h1 : az_un d a b → post 1) (h0 : ¬ az_un d a b → post 0) :
    ∀ g e, e + g = d → az_un e a b → wY_share_3 post (nI a) (nI b) (nI d) f_n KK VV (g + 1) (nI e) := by
  intro g
  induction g with
  | zero =>
    intro e he hu
    have ee : e = d := by omega
    subst ee
    exact pk_le e e (fun _ => h1 hu) (fun z => absurd z (by omega))
  | succ g ih =>
    intro e he hu
    refine pk_le d e (fun z => absurd z (by omega)) (fun _ => ?_)
    rw [az_dgY ha (by omega), az_dgY hb (by omega)]
    refine pk_eq (az_dg a e) (az_dg b e) (fun z => nm_r (nI_1 e) (ih (e + 1) (by omega) (az_un_step (by omega) hu z.symm))) (fun z => h0 (fun w => z ?_)) rfl rfl (az_dg31 a e) (az_dg31 b e)
    exact (az_un_dg (show e < d by omega) hd w).symm
theorem az_share {post : Int32 → Prop} {x y w f_n : Int32} {a b d : Nat} {KK VV : Nat → Int32} (hx : x = nI a) (hy : y = nI b) (hw : w = nI d) (ha : a < 65536) (hb : b < 65536) (hd : d ≤ 4) (h1 : az_un d a b → post 1) (h0 : ¬ az_un d a b → post 0) : wpY_share post (f_n, KK, VV) x y w := by
  subst hx hy hw
  exact ⟨d + 1, az_sh_loop ha hb hd h1 h0 d 0 (by omega) (az_un0 ha hb)⟩
theorem az_suY_loop {post : Int64 → Prop} {x d : Nat} (h : az_Y m n ks vs) (hx : x < 65536) (hd : d ≤ 4) (hp : post (Int64.ofInt (az_Q m (az_cut x d + az_w d) - az_Q m (az_cut x d)))) :
    ∀ g i, i + g = n → wY_sumUnder_24 post (nI x) (nI d) (nI n) (az_A ks) vs (g + 1) (Int64.ofInt (az_S (fun i => if ks i / az_w d = x / az_w d then (vs i).toInt else 0) i)) (nI i) := by
  have n64 := h.1
  intro g
  induction g with
  | zero =>
    intro i hi
    have e : i = n := by omega
    subst e
    rw [az_Y_under h hx hd]
    exact pk_le i i (fun _ => hp) (fun z => absurd z (by omega))
  | succ g ih =>
    intro i hi
    have kb := (h.2.1 i (by omega)).1
    have i6 : vp_in (nI i) 64 := vp_in_nI (by omega) (by omega)
    refine pk_le n i (fun z => absurd z (by omega)) (fun _ => ⟨i6, az_share (az_at' rfl (by omega)) rfl rfl kb hx hd (fun hu => br_f (by decide) ⟨i6, nm_r (e' := Int64.ofInt (az_S (fun i => if ks i / az_w d = x / az_w d then (vs i).toInt else 0) (i + 1))) ?_ (nm_r (nI_1 i) (ih (i + 1) (by omega)))⟩) (fun hu => br_t rfl (nm_r (nI_1 i) ?_))⟩)
    · rw [nI_clamp (by omega), az_i64, ← Int64.ofInt_add, az_S_succ, if_pos (Eq.symm hu)]
    · have e := ih (i + 1) (by omega)
      rw [az_S_succ, if_neg (fun w => hu (Eq.symm w)), Int.add_zero] at e
      exact e
end
theorem az_Yabove {m : Nat → Option Int32} {v : SY} {post : Int32 → Prop} {p0 : Int32} (Y : az_YI m v) (h : ∀ r, az_aY m p0.toInt r → post r) : wpY_above post v p0 := by
  obtain ⟨n, ks, vs, rfl, hY⟩ := Y
  refine ⟨n + 1, az_ab_loop hY (fun r hr => h r ?_) n 0 (-3) (by omega) (Or.inl ⟨rfl, fun j hj => absurd hj (Nat.not_lt_zero _)⟩)⟩
  rcases hr with ⟨e, h1⟩ | ⟨j, j1, j2, j3, j4⟩
  · refine Or.inl ⟨e, fun k k1 k2 => ?_⟩
    obtain ⟨i, hi, e2⟩ := hY.2.2.2 k k2
    rw [← e2]; exact h1 i hi
  · refine Or.inr ⟨ks j, j2, (hY.2.1 j j1).1, az_Y_K hY j1, j3, fun k k1 k2 k3 => ?_⟩
    obtain ⟨i, hi, e2⟩ := hY.2.2.2 k k2
    rw [← e2] at k3 ⊢
    exact j4 i hi k3
theorem az_Ybelow {m : Nat → Option Int32} {v : SY} {post : Int32 → Prop} {p0 : Int32} (Y : az_YI m v) (h : ∀ r, az_bY m p0.toInt r → post r) : wpY_below post v p0 := by
  obtain ⟨n, ks, vs, rfl, hY⟩ := Y
  refine ⟨n + 1, az_be_loop hY (fun r hr => h r ?_) n 0 (-3) (by omega) (Or.inl ⟨rfl, fun j hj => absurd hj (Nat.not_lt_zero _)⟩)⟩
  rcases hr with ⟨e, h1⟩ | ⟨j, j1, j2, j3, j4⟩
  · refine Or.inl ⟨e, fun k k1 k2 => ?_⟩
    obtain ⟨i, hi, e2⟩ := hY.2.2.2 k k2
    rw [← e2]; exact h1 i hi
  · refine Or.inr ⟨ks j, j2, (hY.2.1 j j1).1, az_Y_K hY j1, j3, fun k k1 k2 k3 => ?_⟩
    obtain ⟨i, hi, e2⟩ := hY.2.2.2 k k2
    rw [← e2] at k3 ⊢
    exact j4 i hi k3
theorem az_YatRank {m : Nat → Option Int32} {v : SY} {post : Int32 → Prop} {p0 : Int32} (Y : az_YI m v) (h : ∀ r, az_rY m p0.toInt r → post r) : wpY_atRank post v p0 := by
  obtain ⟨n, ks, vs, rfl, hY⟩ := Y
  exact ⟨n + 1, az_ar_loop hY h n 0 (by omega) (fun j hj => absurd hj (Nat.not_lt_zero _))⟩
theorem az_YcountRange {m : Nat → Option Int32} {v : SY} {post : Int32 → Prop} {p0 p1 : Int32} (Y : az_YI m v) (h : ∀ c : Nat, p0.toInt ≤ p1.toInt → (c : Int) = az_C m (az_cl (p1.toInt + 1)) - az_C m (az_cl p0.toInt) → post (nI c)) (h0 : p1.toInt < p0.toInt → post (nI 0)) : wpY_countRange post v p0 p1 := by
  obtain ⟨n, ks, vs, rfl, hY⟩ := Y
  refine ⟨n + 1, az_cr_loop hY (fun c hc => ?_) n 0 0 (by omega) rfl⟩
  by_cases z : p0.toInt ≤ p1.toInt
  · rw [az_Y_range hY z] at hc
    exact h c z hc
  · have e : az_S (fun i => if p0.toInt ≤ (ks i : Int) ∧ (ks i : Int) ≤ p1.toInt then 1 else 0) n = 0 := by
      rw [az_S_congr (g := fun _ => 0) (fun i _ => if_neg (by omega)), az_S_const0]
    rw [e] at hc
    have c0 : c = 0 := by omega
    rw [c0]
    exact h0 (by omega)
theorem az_YsumUnder {m : Nat → Option Int32} {v : SY} {post : Int64 → Prop} {p0 p1 : Int32} (Y : az_YI m v) (hb : (az_nk p0 ∨ p1.toInt < 0 ∨ 4 < p1.toInt) → post 0)
    (h1 : ∀ x d, x < 65536 → d ≤ 4 → p0 = nI x → p1 = nI d → post (Int64.ofInt (az_Q m (az_cut x d + az_w d) - az_Q m (az_cut x d)))) : wpY_sumUnder post v p0 p1 := by
  obtain ⟨n, ks, vs, rfl, hY⟩ := Y
  unfold wpY_sumUnder
  refine az_isKeyY (fun x hx e => br_f (by decide) ?_) (fun hk => br_t rfl (hb (Or.inl hk)))
  refine br_c (fun z => hb (Or.inr (Or.inl ((az_lt0 p1).mp z)))) (fun z => ?_)
  obtain ⟨d, hd, rfl⟩ := nI_of z
  subst e
  refine pk_le d 4 (fun y => ⟨n + 1, ?_⟩) (fun y => hb (Or.inr (Or.inr ?_)))
  · exact az_suY_loop hY hx y (h1 x d hx y rfl rfl) n 0 (by omega)
  · rw [nI_toInt hd]; omega
