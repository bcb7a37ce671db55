/-! addLeaf and takeOut -/
section
variable {m : Nat → Option Int32} {us dp pf ct : Nat → Nat} {sm : Nat → Int64} {fn tb cd cc tu tc : Nat → Nat} {ch : Nat → Nat → Nat} {rt : Nat} {n : Int} {x l : Nat}
theorem az_f_id {f : Nat → Nat} {k v : Nat} (h : f k = v) : az_f f k v = f := by
  funext i
  by_cases z : i = k
  · rw [z, az_f_s, h]
  · exact az_f_n z
theorem az_f_f (f : Nat → Nat) (k v w : Nat) : az_f (az_f f k v) k w = az_f f k w := by
  funext i
  by_cases z : i = k
  · rw [z, az_f_s, az_f_s]
  · rw [az_f_n z, az_f_n z, az_f_n z]
theorem az_al57 {post : SX → Prop} {p q : Nat} (t : az_T (az_K m) us dp pf ch rt) (hN : az_N m us dp pf ct sm) (hL : az_L (az_f us l 1) fn tb cd cc tu tc ch) (hM : az_M us dp fn n) (hu : ∀ i, us i ≤ 1) (hf : ∀ i, us i = 1 → dp i = 4 → fn i = 0)
    (hx : x < 65536) (nx : ¬ az_K m x) (hl : 0 < l ∧ l < 128) (ul : us l = 0) (dl : dp l = 4) (pl : pf l = x) (cl : ct l = 0) (sl : sm l = 0) (fl : fn l = 0) (en : n = az_C m 65536) (n63 : n ≤ 63)
    (ha : az_at us dp pf ch rt x p q) (he : q = 0 ∨ ¬ az_un (dp q) (pf q) x)
    (h : ∀ (us' dp' pf' ct' : Nat → Nat) (sm' : Nat → Int64) (fn' tb' cd' cc' tu' tc' : Nat → Nat) (ch' : Nat → Nat → Nat) (rt' : Nat), az_I (fun k => az_K m k ∨ k = x) m (n + 1) us' dp' pf' ct' sm' fn' tb' cd' cc' tu' tc' ch' rt' → post (nI rt', az_A us', az_A dp', az_A pf', az_A ct', sm', az_A fn', az_A tb', az_A cd', az_A cc', az_A tu', az_A tc')) :
    wX_addLeaf_57 post (nI l) (nI p) (nI q) (nI rt) (az_A (az_f us l 1)) (az_A dp) (az_A pf) (az_A ct) sm (az_A fn) (az_A tb) (az_A cd) (az_A cc) (az_A tu) (az_A tc) := by
  have v1 : ∀ i, us i = 1 → az_f us l 1 i = 1 := by
    intro i hi
    rw [az_f_n (fun z => by rw [z, ul] at hi; omega)]; exact hi
  have hLl := hL.1 l (az_f_s us l 1)
  have tl : tb l = 0 := az_leaf_tb hL (az_f_s us l 1) fl
  have hL0 : az_L us fn tb cd cc tu tc ch := by
    have e := az_L_less hL tl
    rw [az_f_f, az_f_id ul] at e
    exact e
  have p128 : p < 128 := by
    rcases ha with ⟨z, _⟩ | ⟨z, _⟩
    · omega
    · exact (t.1 p z).2.1
  have q128 : q < 128 := by
    rcases ha with ⟨_, z⟩ | ⟨z, _, _, z4⟩
    · rw [z]; exact az_rt128 t
    · rw [z4]; exact (hL0.1 p z).2.1 _
  refine pk_eq q 0 (fun q0 => pk_eq p 0 (fun p0 => ?_) (fun p0 => ?_) rfl rfl) (fun q0 => ?_) rfl rfl
  · have r0 : rt = 0 := by
      rcases ha with ⟨_, z⟩ | ⟨z, _⟩
      · rw [← z]; exact q0
      · rw [p0] at z; have := (t.1 0 z).1; omega
    have n0 : n = 0 := by
      have r := (az_rootC t hN).1
      rw [r0, hN.2.1] at r
      omega
    exact h _ _ _ _ _ _ _ _ _ _ _ _ _ (az_finC t hN hL hM hu hf hx nx hl ul dl pl cl sl fl r0 n0)
  · obtain ⟨p1, p2, p3, p4⟩ : us p = 1 ∧ dp p < 4 ∧ az_un (dp p) (pf p) x ∧ q = ch p (az_dg x (dp p)) := ha.elim (fun z => absurd z.1 p0) id
    rw [q0] at p4
    refine az_addChild rfl rfl hL (v1 p p1) p2 hl.2 (by omega) (by omega) (by rw [pl]; exact p4.symm) (fun z y => ?_) (fun tb' cd' cc' tu' tc' hL' => ?_)
    · exact az_tables t hL0 hM n63 p1 p2 z y (fun i hi hd => az_leaf_tb hL0 hi (hf i hi hd))
    · rw [pl] at hL'
      have np := az_n_pos t p1
      exact h _ _ _ _ _ _ _ _ _ _ _ _ _ (az_finB t hN hM hu hf hx nx hl ul dl pl cl sl fl p1 p2 p3 p4.symm (by omega) hL' rfl)
  · have hqu : ¬ az_un (dp q) (pf q) x := he.elim (fun z => absurd z q0) id
    refine ⟨vp_in_nI q128 (by omega), vp_in_nI hl.2 (by omega), ?_⟩
    have q1 : us q = 1 := by
      rcases ha with ⟨_, z⟩ | ⟨z, z2, _, z4⟩
      · rw [z] at q0 ⊢; exact az_rootu t q0
      · rw [z4] at q0 ⊢; exact (t.2.2.1 p _ z z2 (az_dg_lt _ _) q0).1
    have bq := t.1 q q1
    refine az_common (az_at' rfl (by omega)) (az_at' rfl (by omega)) bq.2.2.2.1 (by omega) (fun r hr => ⟨vp_in_nI hl.2 (by omega), ?_⟩)
    rw [pl] at hr
    obtain ⟨_, hlt, hpr, hKn⟩ := az_joint t ha q0 hqu hr
    have free : ∃ j, 1 ≤ j ∧ j < 128 ∧ az_f us l 1 j = 0 := by
      refine az_S_free (az_u1 hu l (Nat.le_refl 1)) ?_
      have e := az_used t hL0 hM hu n63
      have e2 := az_S_at (f := fun i => (az_f us l 1 i : Int)) (g := fun i => (us i : Int)) l hl.2 (fun i hi => by rw [az_f_n hi])
      rw [az_f_s, ul] at e2
      omega
    refine az_newNode (az_at' rfl (by omega)) rfl (by omega) (by omega) (az_u1 hu l (Nat.le_refl 1)) free (fun b b1 b2 b3 => ?_)
    rw [pl]
    have bl : b ≠ l := by intro z; rw [z, az_f_s] at b3; omega
    have ub : us b = 0 := by rw [az_f_n bl] at b3; exact b3
    have hne : ∀ i, us i = 1 → i ≠ b := by intro i hi z; rw [z, ub] at hi; omega
    have qb := hne q q1
    have L2 := az_L_new hL b3 b2
    have i8 : vp_in (nI b) 128 := vp_in_nI b2 (by omega)
    have c3 : upd (az_A (az_f ct b 0)) (nI b).toNatClampNeg (az_A (az_f ct b 0) (nI q).toNatClampNeg) = az_A (az_f ct b (ct q)) := by
      rw [az_at' (i := q) rfl (by omega), az_updA rfl (by omega) rfl, az_f_n qb, az_f_f]
    have s3 : vp_updL (vp_updL sm b 0) (nI b).toNatClampNeg (vp_updL sm b 0 (nI q).toNatClampNeg) = vp_updL sm b (sm q) := by
      rw [nI_clamp (by omega), nI_clamp (by omega), pk_uLn qb]
      funext i
      by_cases z : i = b
      · rw [z, pk_uLs, pk_uLs]
      · rw [pk_uLn z, pk_uLn z, pk_uLn z]
    refine ⟨vp_in_nI q128 (by omega), i8, nm_r c3 ⟨vp_in_nI q128 (by omega), i8, nm_r s3 ?_⟩⟩
    -- the two children of the new branch
    have r4 : r < 4 := by omega
    have db : az_f dp b r b = r := az_f_s _ _ _
    have pb : az_f pf b (az_cut x r) b = az_cut x r := az_f_s _ _ _
    have pq : az_f pf b (az_cut x r) q = pf q := az_f_n qb
    have plb : az_f pf b (az_cut x r) l = x := by rw [az_f_n (fun z => bl z.symm), pl]
    have u2b : az_f (az_f us l 1) b 1 b = 1 := az_f_s _ _ _
    have gne := hr.2.2 r4
    refine az_addChild rfl rfl L2 u2b (by omega) q128 q0 (by omega) (az_z_s ch b _) (fun _ z => by rw [az_f_s] at z; omega) (fun tb3 cd3 cc3 tu3 tc3 L3 => ?_)
    rw [db, pq] at L3
    refine az_addChild rfl rfl L3 u2b (by omega) hl.2 (by omega) (by omega) ?_ (fun _ z => by rw [az_f_s, az_f_s] at z; omega) (fun tb4 cd4 cc4 tu4 tc4 L4 => ?_)
    · rw [db, plb, az_h_n (fun w => gne w.2.symm)]; exact az_z_s ch b _
    rw [db, plb] at L4
    rw [az_f_s, az_f_f, az_f_s, az_f_f] at L4 ⊢
    -- the tree with the data of the new branch written, but not used yet
    have T2 : az_T (az_K m) us (az_f dp b r) (az_f pf b (az_cut x r)) (az_z ch b) rt := az_T_congr t (fun i hi => az_f_n (hne i hi)) (fun i hi => az_f_n (hne i hi)) (fun i hi c => az_z_n (hne i hi))
    have N2 : az_N m us (az_f dp b r) (az_f pf b (az_cut x r)) (az_f ct b (ct q)) (vp_updL sm b (sm q)) := az_N_congr hN (fun i hi => ⟨hi, az_f_n (hne i hi), az_f_n (hne i hi), az_f_n (hne i hi), pk_uLn (hne i hi)⟩) (by rw [az_f_n (by omega)]; exact hN.2.1) (by rw [pk_uLn (by omega)]; exact hN.2.2)
    have M2 : az_M us (az_f dp b r) fn n := az_M_congr hM (fun i hi => ⟨az_f_n (hne i hi), rfl⟩)
    have lb : l ≠ b := fun z => bl z.symm
    have n1 := az_n_pos t q1
    have A2 : az_at us (az_f dp b r) (az_f pf b (az_cut x r)) (az_z ch b) rt x p q := by
      rcases ha with z | ⟨z1, z2, z3, z4⟩
      · exact Or.inl z
      · refine Or.inr ⟨z1, ?_, ?_, ?_⟩
        · rw [az_f_n (hne p z1)]; exact z2
        · rw [az_f_n (hne p z1), az_f_n (hne p z1)]; exact z3
        · rw [az_f_n (hne p z1), az_z_n (hne p z1)]; exact z4
    have fin : ∀ (cc5 tc5 : Nat → Nat) (ch5 : Nat → Nat → Nat) (rt5 : Nat), az_L (az_f (az_f us l 1) b 1) (az_f fn b (0 + 1 + 1)) tb4 cd4 cc5 tu4 tc5 ch5 →
        (ch5 b (az_dg (pf q) r) = q) → (ch5 b (az_dg x r) = l) → (∀ c, c ≠ az_dg (pf q) r → c ≠ az_dg x r → ch5 b c = 0) → (us p = 1 → ch5 p (az_dg x (dp p)) = b) → (∀ j c, us j = 1 → ¬ (j = p ∧ c = az_dg x (dp p)) → ch5 j c = ch j c) → (p = 0 → rt5 = b) → (p ≠ 0 → rt5 = rt) →
        post (nI rt5, az_A (az_f (az_f us l 1) b 1), az_A (az_f dp b r), az_A (az_f pf b (az_cut x r)), az_A (az_f ct b (ct q)), vp_updL sm b (sm q), az_A (az_f fn b (0 + 1 + 1)), az_A tb4, az_A cd4, az_A cc5, az_A tu4, az_A tc5) := by
      intro cc5 tc5 ch5 rt5 L5 k3 k4 k5 k1 k2 k6 k7
      refine h _ _ _ _ _ _ _ _ _ _ _ _ _ (az_finA (fn := fn) T2 N2 M2 hu (fun i hi hd => hf i hi (by rw [az_f_n (hne i hi)] at hd; exact hd)) hx nx hl ul (by rw [az_f_n lb]; exact dl) plb (by rw [az_f_n lb]; exact cl) (by rw [pk_uLn lb]; exact sl) ⟨by omega, b2⟩ ub db pb (by rw [az_f_s, az_f_n qb]) (by rw [pk_uLs, pk_uLn qb]) bl A2 q0 (by rw [az_f_n qb, pq]; exact hqu) (by rw [pq]; exact hr) (by omega) L5 (az_f_s _ _ _) (by rw [az_f_n lb]; exact fl) (fun i hi => az_f_n (hne i hi)) (by rw [pq]; exact k3) k4 (by rw [pq]; exact k5) (fun hp => by rw [az_f_n (hne p hp)]; exact k1 hp) (fun j c hj w => ?_) k6 k7)
      rw [az_z_n (hne j hj)]
      refine k2 j c hj (fun y => w ⟨y.1, ?_⟩)
      rw [az_f_n (by rw [← y.1]; exact hne j hj)]
      exact y.2
    have e3 : ∀ c, az_h (az_h (az_z ch b) b (az_dg (pf q) r) q) b (az_dg x r) l b c = if c = az_dg x r then l else if c = az_dg (pf q) r then q else 0 := by
      intro c
      by_cases z : c = az_dg x r
      · rw [if_pos z, z, az_h_s]
      · rw [if_neg z, az_h_n (fun w => z w.2)]
        by_cases y : c = az_dg (pf q) r
        · rw [if_pos y, y, az_h_s]
        · rw [if_neg y, az_h_n (fun w => y w.2), az_z_s]
    have e4 : ∀ j c, j ≠ b → az_h (az_h (az_z ch b) b (az_dg (pf q) r) q) b (az_dg x r) l j c = ch j c := by
      intro j c hj
      rw [az_h_n (fun w => hj w.1), az_h_n (fun w => hj w.1), az_z_n hj]
    by_cases p0 : p = 0
    · subst p0
      have nu0 : us 0 ≠ 1 := fun w => by have := (t.1 0 w).1; omega
      refine az_putInPlace0 rfl (fin cc4 tc4 _ b L4 ?_ ?_ ?_ (fun w => absurd w nu0) (fun j c hj _ => e4 j c (hne j hj)) (fun _ => rfl) (fun w => absurd rfl w))
      · rw [e3, if_neg gne, if_pos rfl]
      · rw [e3, if_pos rfl]
      · intro c w1 w2
        rw [e3, if_neg w2, if_neg w1]
    · obtain ⟨p1, p2, p3, p4⟩ : us p = 1 ∧ dp p < 4 ∧ az_un (dp p) (pf p) x ∧ q = ch p (az_dg x (dp p)) := ha.elim (fun z => absurd z.1 p0) id
      have pbn := hne p p1
      have dpp : az_f dp b r p = dp p := az_f_n pbn
      have dge : az_dg (az_cut x r) (dp p) = az_dg x (dp p) := az_un_dg (hpr p1) (by omega) (az_un_symm (az_cut_un x r))
      refine az_putInPlace rfl rfl L4 (by rw [az_f_n pbn]; exact v1 p p1) p0 (by omega) b2 (by omega) (by rw [pb]; exact Nat.lt_of_le_of_lt (az_cut_le x r) hx) ?_ (fun cc5 tc5 L5 => ?_)
      · rw [pb, dpp, dge, e4 _ _ pbn, ← p4]; exact q0
      · rw [pb, dpp, dge] at L5
        have e5 : ∀ c, az_h (az_h (az_h (az_z ch b) b (az_dg (pf q) r) q) b (az_dg x r) l) p (az_dg x (dp p)) b b c = az_h (az_h (az_z ch b) b (az_dg (pf q) r) q) b (az_dg x r) l b c := fun c => az_h_n (fun w => pbn w.1.symm)
        refine fin cc5 tc5 _ rt L5 ?_ ?_ ?_ (fun _ => az_h_s _ _ _ _) (fun j c hj w => ?_) (fun w => absurd w p0) (fun _ => rfl)
        · rw [e5, e3, if_neg gne, if_pos rfl]
        · rw [e5, e3, if_pos rfl]
        · intro c w1 w2
          rw [e5, e3, if_neg w2, if_neg w1]
        · rw [az_h_n w]; exact e4 j c (hne j hj)
end
