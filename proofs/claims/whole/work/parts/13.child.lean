/-! cellOf, childAt, childToward, isUnder, leafOf -/
section
variable {R : Int32} {U D P C T CC V TC F : Nat → Int32} {S : Nat → Int64} {us dp pf fn tb cd cc tu tc : Nat → Nat} {ch : Nat → Nat → Nat} {rt : Nat} {K : Nat → Prop}
theorem az_cellOf_loop {post : Int32 → Prop} {i c : Nat} (hi : i < 128) (hc : c < 16) (hf : fn i ≤ 4) (hcd : ∀ e, e < fn i → cd (i * 4 + e) < 16)
    (h1 : ∀ e, e < fn i → cd (i * 4 + e) = c → post (nI (i * 4 + e))) (h0 : (∀ e, e < fn i → cd (i * 4 + e) ≠ c) → post (-1)) :
    ∀ d e, e + d = fn i → (∀ e', e' < e → cd (i * 4 + e') ≠ c) → wX_cellOf_7 post (nI i) (nI c) (nI (i * 4)) R U D P C S (az_A fn) T (az_A cd) CC V TC (d + 1) (nI e) := by
  intro d
  induction d with
  | zero =>
    intro e he hn
    have ee : e = fn i := by omega
    subst ee
    have hz := h0 hn
    exact pk_le 4 (fn i) (fun _ => hz) (fun _ => ⟨vp_in_nI hi (by omega), pk_le (fn i) (fn i) (fun _ => hz) (fun z => absurd z (by omega)) (az_at' rfl (by omega)) rfl⟩)
  | succ d ih =>
    intro e he hn
    refine pk_le 4 e (fun z => absurd z (by omega)) (fun _ => ⟨vp_in_nI hi (by omega), pk_le (fn i) e (fun z => absurd z (by omega)) (fun _ => ⟨pk_in (i * 4 + e) 512 (by omega) (nI_add _ _), ?_⟩) (az_at' rfl (by omega)) rfl⟩)
    have hce := hcd e (by omega)
    refine pk_eq (cd (i * 4 + e)) c (fun z => ?_) (fun z => ?_) (az_at' (nI_add _ _) (by omega)) rfl
    · rw [nI_add]; exact h1 e (by omega) z
    · refine nm_r (nI_1 e) (ih (e + 1) (by omega) (fun e' he' => ?_))
      by_cases y : e' = e
      · rw [y]; exact z
      · exact hn e' (by omega)
theorem az_cellOf {post : Int32 → Prop} {x y : Int32} {i c : Nat} (hx : x = nI i) (hy : y = nI c) (hi : i < 128) (hc : c < 16) (hf : fn i ≤ 4) (hcd : ∀ e, e < fn i → cd (i * 4 + e) < 16)
    (h1 : ∀ e, e < fn i → cd (i * 4 + e) = c → post (nI (i * 4 + e))) (h0 : (∀ e, e < fn i → cd (i * 4 + e) ≠ c) → post (-1)) :
    wpX_cellOf post (R, U, D, P, C, S, az_A fn, T, az_A cd, CC, V, TC) x y := by
  subst hx hy
  exact nm_r (pk_mul i 4) ⟨fn i + 1, az_cellOf_loop hi hc hf hcd h1 h0 (fn i) 0 (by omega) (fun e' he' => absurd he' (Nat.not_lt_zero _))⟩
theorem az_childAt {post : Int32 → Prop} {x y : Int32} {i c : Nat} {h : Nat → Nat} (hx : x = nI i) (hy : y = nI c) (hL : az_ln i (fn i) (tb i) cd cc tu tc h) (hi : i < 128) (hc : c < 16) (hp : post (nI (h c))) :
    wpX_childAt post (R, U, D, P, C, S, az_A fn, az_A tb, az_A cd, az_A cc, V, az_A tc) x y := by
  subst hx hy
  rcases hL with ⟨t0, c1, c2, c3, c4⟩ | ⟨⟨t1, t2, t3, t4⟩, h5⟩
  · refine ⟨vp_in_nI hi (by omega), pk_eq (tb i) 0 (fun _ => ?_) (fun z => absurd t0 z) (az_at' rfl (by omega)) rfl⟩
    refine az_cellOf rfl rfl hi hc c1 (fun e he => (c2 e he).1) (fun e he hce => ?_) (fun hno => ?_)
    · refine br_f (az_ne1 (by omega)) ⟨vp_in_nI (by omega) (by omega), ?_⟩
      rw [az_at' rfl (by omega), ← (c2 e he).2.2, hce]
      exact hp
    · refine br_t rfl ?_
      have z : h c = 0 := by
        rcases Nat.eq_zero_or_pos (h c) with z | z
        · exact z
        · obtain ⟨e, he, hce⟩ := c4 c hc (by omega)
          exact absurd hce (hno e he)
      rw [z] at hp
      exact hp
  · have ix : az_A tb (nI i).toNatClampNeg * 16 + nI c = nI (tb i * 16 + c) := by
      rw [az_at' rfl (by omega), show nI (tb i) * 16 = nI (tb i * 16) from pk_mul (tb i) 16, nI_add]
    refine ⟨vp_in_nI hi (by omega), pk_eq (tb i) 0 (fun z => absurd z (by omega)) (fun _ => ⟨vp_in_nI hi (by omega), pk_in (tb i * 16 + c) 256 (by omega) ix, ?_⟩) (az_at' rfl (by omega)) rfl⟩
    rw [az_at' ix (by omega), t4 c hc]
    exact hp
theorem az_childToward {post : Int32 → Prop} {a b : Int32} {i x : Nat} {h : Nat → Nat} (ha : a = nI i) (hb : b = nI x) (hL : az_ln i (fn i) (tb i) cd cc tu tc h) (hi : i < 128) (hd : dp i ≤ 4) (hx : x < 65536)
    (h1 : dp i < 4 → post (nI (h (az_dg x (dp i))))) (h0 : dp i = 4 → post 0) :
    wpX_childToward post (R, U, az_A dp, P, C, S, az_A fn, az_A tb, az_A cd, az_A cc, V, az_A tc) a b := by
  subst ha hb
  refine ⟨vp_in_nI hi (by omega), pk_lt (dp i) 4 (fun z => ⟨vp_in_nI hi (by omega), ?_⟩) (fun z => h0 (by omega)) (az_at' rfl (by omega)) rfl⟩
  refine az_digitAt rfl (az_at' rfl (by omega)) hx z ?_
  exact az_childAt rfl rfl hL hi (az_dg_lt _ _) (h1 z)
theorem az_isUnder {post : Int32 → Prop} {a b : Int32} {i x : Nat} (ha : a = nI x) (hb : b = nI i) (hi : i < 128) (hd : dp i ≤ 4) (hx : x < 65536) (hp : pf i < 65536)
    (h1 : az_un (dp i) (pf i) x → post 1) (h0 : ¬ az_un (dp i) (pf i) x → post 0) :
    wpX_isUnder post (R, U, az_A dp, az_A pf, C, S, D, T, P, CC, V, TC) a b := by
  subst ha hb
  refine ⟨vp_in_nI hi (by omega), ?_⟩
  refine az_firstDigits rfl (az_at' rfl (by omega)) hx hd ?_
  refine ⟨vp_in_nI hi (by omega), vp_in_nI hi (by omega), ?_⟩
  refine az_firstDigits (az_at' rfl (by omega)) (az_at' rfl (by omega)) hp hd ?_
  exact pk_eq (x / az_w (dp i)) (pf i / az_w (dp i)) (fun z => h1 z) (fun z => h0 z) rfl rfl (az_div_lt _ hx) (az_div_lt _ hp)
theorem az_leafOf_end {post : Int32 → Prop} {x q : Nat} (t : az_T K us dp pf ch rt) (hx : x < 65536) (hq : q = 0 ∨ (us q = 1 ∧ dp q = 4)) (hk : K x → us q = 1 ∧ az_un (dp q) (pf q) x)
    (h1 : ∀ l, us l = 1 → dp l = 4 → pf l = x → post (nI l)) (h0 : ¬ K x → post 0) : wX_leafOf_39 post (nI x) (nI q) R U D (az_A pf) C S P T CC V TC F := by
  rcases hq with z | ⟨u, d4⟩
  · subst z
    have nk : ¬ K x := fun k => by have := (t.1 0 (hk k).1).1; omega
    exact ⟨vp_in_nI (by omega) (by omega), fun _ => h0 nk, fun _ => h0 nk⟩
  · have b := t.1 q u
    refine ⟨vp_in_nI b.2.1 (by omega), pk_eq (pf q) x (fun z => h1 q u d4 z) (fun z => h0 (fun k => z ?_)) (az_at' rfl (by omega)) rfl⟩
    have e := (hk k).2
    rw [d4] at e
    exact (az_un4.mp e).symm
theorem az_leafOf_loop {post : Int32 → Prop} {x : Nat} (t : az_T K us dp pf ch rt) (hL : az_L us fn tb cd cc tu tc ch) (hx : x < 65536)
    (h1 : ∀ l, us l = 1 → dp l = 4 → pf l = x → post (nI l)) (h0 : ¬ K x → post 0) :
    ∀ d lv q, lv + d = 4 → (q = 0 ∨ (us q = 1 ∧ lv ≤ dp q)) → (K x → us q = 1 ∧ az_un (dp q) (pf q) x) → wX_leafOf_7 post (nI x) R U (az_A dp) (az_A pf) C S (az_A fn) (az_A tb) (az_A cd) (az_A cc) V (az_A tc) (d + 1) (nI q) (nI lv) := by
  intro d
  induction d with
  | zero =>
    intro lv q hl hq hk
    refine pk_le 4 lv (fun _ => ?_) (fun z => absurd z (by omega))
    refine az_leafOf_end t hx ?_ hk h1 h0
    rcases hq with z | ⟨u, z⟩
    · exact Or.inl z
    · have := (t.1 q u).2.2.1
      exact Or.inr ⟨u, by omega⟩
  | succ d ih =>
    intro lv q hl hq hk
    have q128 : q < 128 := by
      rcases hq with z | ⟨u, z⟩
      · omega
      · exact (t.1 q u).2.1
    refine pk_le 4 lv (fun z => absurd z (by omega)) (fun _ => pk_eq q 0 (fun z => ?_) (fun z => ⟨vp_in_nI q128 (by omega), ?_⟩) rfl rfl)
    · exact az_leafOf_end t hx (Or.inl z) hk h1 h0
    · obtain ⟨u, hld⟩ : us q = 1 ∧ lv ≤ dp q := hq.elim (fun w => absurd w z) id
      have b := t.1 q u
      refine pk_le 4 (dp q) (fun y => ?_) (fun y => ?_) rfl (az_at' rfl (by omega))
      · exact az_leafOf_end t hx (Or.inr ⟨u, by omega⟩) hk h1 h0
      · refine az_childToward rfl rfl (hL.1 q u).2.2.2 q128 b.2.2.1 hx (fun _ => ?_) (fun w => by omega)
        refine nm_r (nI_1 lv) (ih (lv + 1) _ (by omega) ?_ ?_)
        · by_cases w : ch q (az_dg x (dp q)) = 0
          · exact Or.inl w
          · have c := t.2.2.1 q _ u y (az_dg_lt _ _) w
            exact Or.inr ⟨c.1, by omega⟩
        · intro k
          have e := t.2.2.2.1 q x u y k (hk k).2
          exact ⟨(t.2.2.1 q _ u y (az_dg_lt _ _) e.1).1, e.2⟩
theorem az_root_or (t : az_T K us dp pf ch rt) : rt = 0 ∨ (us rt = 1 ∧ 0 ≤ dp rt) := by
  by_cases z : rt = 0
  · exact Or.inl z
  · exact Or.inr ⟨az_rootu t z, Nat.zero_le _⟩
theorem az_leafOf {post : Int32 → Prop} {x : Nat} (t : az_T K us dp pf ch rt) (hL : az_L us fn tb cd cc tu tc ch) (hx : x < 65536)
    (h1 : ∀ l, us l = 1 → dp l = 4 → pf l = x → post (nI l)) (h0 : ¬ K x → post 0) :
    wpX_leafOf post (nI rt, U, az_A dp, az_A pf, C, S, az_A fn, az_A tb, az_A cd, az_A cc, V, az_A tc) (nI x) :=
  ⟨5, az_leafOf_loop t hL hx h1 h0 4 0 rt rfl (az_root_or t) (fun k => (az_rootk t k).2)⟩
end
