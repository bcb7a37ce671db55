/-! the tree after a leaf has been put in, or taken out -/
section
variable {K : Nat → Prop} {us dp pf : Nat → Nat} {ch : Nat → Nat → Nat} {rt : Nat}
/-- the first leaf -/
theorem az_addC (h : az_T K us dp pf ch rt) {x l : Nat} (hx : x < 65536) (hl : 0 < l ∧ l < 128) (dl : dp l = 4) (pl : pf l = x) (hr : rt = 0)
    {us' : Nat → Nat} (u1 : us' l = 1) (u2 : ∀ j, j ≠ l → us' j = us j) : az_T (fun k => K k ∨ k = x) us' dp pf ch l := by
  have hz : ∀ j, us' j = 1 → j = l := by
    intro j hj
    by_cases z : j = l
    · exact z
    · rw [u2 j z] at hj
      exact absurd hr (az_root0 h hj)
  have hk : ∀ k, ¬ K k := h.2.2.2.2.2.2.1.1 hr
  refine ⟨?_, ?_, ?_, ?_, ?_, ?_, ?_, ?_⟩
  · intro i hi
    rw [hz i hi, dl, pl, az_w4]
    exact ⟨hl.1, hl.2, Nat.le_refl _, hx, Nat.mod_one _⟩
  · intro i hi _
    rw [hz i hi, pl]
    exact Or.inr rfl
  · intro i c hi hd
    rw [hz i hi, dl] at hd
    omega
  · intro i k hi hd
    rw [hz i hi, dl] at hd
    omega
  · intro i hi hd
    rw [hz i hi, dl] at hd
    omega
  · intro i j hi hj _ _
    rw [hz i hi, hz j hj]
  · refine ⟨fun z => by omega, fun _ => ⟨u1, ?_⟩⟩
    intro k hk'
    rcases hk' with z | z
    · exact absurd z (hk k)
    · rw [dl, pl, z]; exact az_un_refl _ _
  · intro k hk'
    rcases hk' with z | z
    · exact absurd z (hk k)
    · omega
/-- a leaf more under the branch p -/
theorem az_addB (h : az_T K us dp pf ch rt) {x l p : Nat} (hx : x < 65536) (nx : ¬ K x) (hl : 0 < l ∧ l < 128) (ul : us l = 0) (dl : dp l = 4) (pl : pf l = x)
    (p1 : us p = 1) (p2 : dp p < 4) (p3 : az_un (dp p) (pf p) x) (p4 : ch p (az_dg x (dp p)) = 0)
    {us' : Nat → Nat} (u1 : us' l = 1) (u2 : ∀ j, j ≠ l → us' j = us j)
    {ch' : Nat → Nat → Nat} (c1 : ch' p (az_dg x (dp p)) = l) (c2 : ∀ j c, us j = 1 → ¬ (j = p ∧ c = az_dg x (dp p)) → ch' j c = ch j c) :
    az_T (fun k => K k ∨ k = x) us' dp pf ch' rt := by
  have ha : az_at us dp pf ch rt x p 0 := Or.inr ⟨p1, p2, p3, p4.symm⟩
  have hne : ∀ j, us j = 1 → j ≠ l := by
    intro j hj z
    rw [z, ul] at hj
    omega
  have hold : ∀ j, us' j = 1 → j ≠ l → us j = 1 := by
    intro j hj z
    rw [← u2 j z]; exact hj
  have hnew : ∀ j, us j = 1 → us' j = 1 := by
    intro j hj
    rw [u2 j (hne j hj)]; exact hj
  have hnz : ∀ i c, us i = 1 → ch i c ≠ 0 → ch' i c ≠ 0 := by
    intro i c hi hc
    by_cases z : i = p ∧ c = az_dg x (dp p)
    · rw [z.1, z.2, c1]; omega
    · rw [c2 i c hi z]; exact hc
  have hall := h
  obtain ⟨t1, t2, t3, t4, t5, t6, t7, t8⟩ := h
  refine ⟨?_, ?_, ?_, ?_, ?_, ?_, ?_, ?_⟩
  · intro i hi
    by_cases z : i = l
    · rw [z, dl, pl, az_w4]
      exact ⟨hl.1, hl.2, Nat.le_refl _, hx, Nat.mod_one _⟩
    · exact t1 i (hold i hi z)
  · intro i hi hd
    by_cases z : i = l
    · rw [z, pl]; exact Or.inr rfl
    · exact Or.inl (t2 i (hold i hi z) hd)
  · intro i c hi hd hc h0
    by_cases z : i = l
    · rw [z, dl] at hd; omega
    · have hi' := hold i hi z
      by_cases y : i = p ∧ c = az_dg x (dp p)
      · obtain ⟨rfl, rfl⟩ := y
        rw [c1, dl, pl]
        exact ⟨u1, p2, p3, rfl⟩
      · rw [c2 i c hi' y] at h0 ⊢
        have hu := t3 i c hi' hd hc h0
        exact ⟨hnew _ hu.1, hu.2⟩
  · intro i k hi hd hk hu
    by_cases z : i = l
    · rw [z, dl] at hd; omega
    · have hi' := hold i hi z
      rcases hk with hk | hk
      · have h4 := t4 i k hi' hd hk hu
        by_cases y : i = p ∧ az_dg k (dp i) = az_dg x (dp p)
        · obtain ⟨rfl, y2⟩ := y
          rw [y2, p4] at h4
          exact absurd rfl h4.1
        · rw [c2 i _ hi' y]; exact h4
      · subst hk
        by_cases y : i = p
        · subst y
          rw [c1, dl, pl]
          exact ⟨by omega, az_un_refl _ _⟩
        · have he := (az_end hall ha (Or.inl rfl) hi' hu).2.2.2.2.2 y
          rw [c2 i _ hi' (fun w => y w.1)]
          exact he
  · intro i hi hd
    by_cases z : i = l
    · rw [z, dl] at hd; omega
    · have hi' := hold i hi z
      obtain ⟨a, b, x1, x2, x3, x4, x5⟩ := t5 i hi' hd
      exact ⟨a, b, x1, x2, x3, hnz i a hi' x4, hnz i b hi' x5⟩
  · intro i j hi hj hd hu
    by_cases z : i = l
    · by_cases y : j = l
      · rw [z, y]
      · have hj' := hold j hj y
        rw [z, dl, pl] at hu
        rw [z, dl] at hd
        have e := az_un4.mp hu
        have := t2 j hj' hd.symm
        rw [e] at this
        exact absurd this nx
    · have hi' := hold i hi z
      by_cases y : j = l
      · rw [y, dl] at hd
        rw [y, pl, hd] at hu
        have e := az_un4.mp hu
        have := t2 i hi' hd
        rw [← e] at this
        exact absurd this nx
      · exact t6 i j hi' (hold j hj y) hd hu
  · have r0 := az_root0 hall p1
    refine ⟨fun z => absurd z r0, fun _ => ⟨hnew _ (az_rootu hall r0), ?_⟩⟩
    intro k hk
    rcases hk with hk | hk
    · exact (az_rootk hall hk).2.2
    · subst hk
      have r1 := az_root hall p1
      exact az_un_trans r1.2 (az_un_le r1.1 (by omega) p3)
  · intro k hk
    rcases hk with hk | hk
    · exact t8 k hk
    · omega
/-- where a branch b of depth r is set over the node n, and the leaf l beside n -/
theorem az_joint (h : az_T K us dp pf ch rt) {x p n r : Nat} (ha : az_at us dp pf ch rt x p n) (hn : n ≠ 0) (hnu : ¬ az_un (dp n) (pf n) x) (hr : az_com (pf n) x r) :
    us n = 1 ∧ r < dp n ∧ (us p = 1 → dp p < r) ∧ (∀ k, K k → az_un r (az_cut x r) k → az_un (dp n) (pf n) k) := by
  have n1 : us n = 1 := by
    rcases ha with ⟨_, rfl⟩ | ⟨p1, p2, p3, p4⟩
    · exact az_rootu h hn
    · rw [p4] at hn ⊢
      exact (h.2.2.1 p _ p1 p2 (az_dg_lt _ _) hn).1
  have dn := (h.1 n n1).2.2.1
  have hlt := az_com_lt hr dn hnu
  have hpr : us p = 1 → dp p < r := by
    intro hp
    rcases ha with ⟨rfl, _⟩ | ⟨p1, p2, p3, p4⟩
    · have := (h.1 0 hp).1; omega
    · have hu := h.2.2.1 p (az_dg x (dp p)) p1 p2 (az_dg_lt _ _) (by rw [← p4]; exact hn)
      rw [← p4] at hu
      have e1 : az_un (dp p) (pf n) x := az_un_trans (az_un_symm hu.2.2.1) p3
      have e2 : az_un (dp p + 1) (pf n) x := az_un_step p2 e1 hu.2.2.2.symm
      have := az_com_ge hr (by omega) e2
      omega
  refine ⟨n1, hlt, hpr, ?_⟩
  intro k hk hu
  rcases ha with ⟨_, rfl⟩ | ⟨p1, p2, p3, p4⟩
  · exact (az_rootk h hk).2.2
  · have e1 : az_un r x k := az_un_trans (az_un_symm (az_cut_un x r)) hu
    have e2 : az_un (dp p) (pf p) k := az_un_trans p3 (az_un_le (by have := hpr p1; omega) (by omega) e1)
    have e3 := az_un_dg (hpr p1) (by omega) e1
    have e4 := h.2.2.2.1 p k p1 p2 hk e2
    rw [e3, ← p4] at e4
    exact e4.2
theorem az_addA (h : az_T K us dp pf ch rt) {x l b p n r : Nat} (hx : x < 65536) (nx : ¬ K x) (hl : 0 < l ∧ l < 128) (ul : us l = 0) (dl : dp l = 4) (pl : pf l = x)
    (hb : 0 < b ∧ b < 128) (ub : us b = 0) (db : dp b = r) (pb : pf b = az_cut x r) (hbl : b ≠ l)
    (ha : az_at us dp pf ch rt x p n) (hn : n ≠ 0) (hnu : ¬ az_un (dp n) (pf n) x) (hr : az_com (pf n) x r)
    {us' : Nat → Nat} (u1 : us' l = 1) (u3 : us' b = 1) (u2 : ∀ j, j ≠ l → j ≠ b → us' j = us j)
    {ch' : Nat → Nat → Nat} (c3 : ch' b (az_dg (pf n) r) = n) (c4 : ch' b (az_dg x r) = l) (c5 : ∀ c, c ≠ az_dg (pf n) r → c ≠ az_dg x r → ch' b c = 0)
    (c1 : us p = 1 → ch' p (az_dg x (dp p)) = b) (c2 : ∀ j c, us j = 1 → ¬ (j = p ∧ c = az_dg x (dp p)) → ch' j c = ch j c)
    {rt' : Nat} (r1 : p = 0 → rt' = b) (r2 : p ≠ 0 → rt' = rt) :
    az_T (fun k => K k ∨ k = x) us' dp pf ch' rt' := by
  obtain ⟨n1, hlt, hpr, hKn⟩ := az_joint h ha hn hnu hr
  have dn := (h.1 n n1).2.2.1
  have ubx : az_un r (pf b) x := by rw [pb]; exact az_cut_un x r
  have ubn : az_un r (pf b) (pf n) := az_un_trans ubx (az_un_symm hr.2.1)
  have hne : ∀ j, us j = 1 → j ≠ l ∧ j ≠ b := by
    intro j hj
    refine ⟨fun z => ?_, fun z => ?_⟩
    · rw [z, ul] at hj; omega
    · rw [z, ub] at hj; omega
  have hold : ∀ j, us' j = 1 → j ≠ l → j ≠ b → us j = 1 := by
    intro j hj z y
    rw [← u2 j z y]; exact hj
  have hnew : ∀ j, us j = 1 → us' j = 1 := by
    intro j hj
    rw [u2 j (hne j hj).1 (hne j hj).2]; exact hj
  have hnz : ∀ i c, us i = 1 → ch i c ≠ 0 → ch' i c ≠ 0 := by
    intro i c hi hc
    by_cases z : i = p ∧ c = az_dg x (dp p)
    · obtain ⟨rfl, rfl⟩ := z
      rw [c1 hi]; omega
    · rw [c2 i c hi z]; exact hc
  have hall := h
  obtain ⟨t1, t2, t3, t4, t5, t6, t7, t8⟩ := h
  -- no used node over x at the depth of b
  have hno : ∀ j, us j = 1 → dp j = r → ¬ az_un r (pf b) (pf j) := by
    intro j hj hd hu
    have uj : az_un (dp j) (pf j) x := by rw [hd]; exact az_un_trans (az_un_symm hu) ubx
    have he := az_end hall ha (Or.inr hnu) hj uj
    have := hpr he.1
    omega
  refine ⟨?_, ?_, ?_, ?_, ?_, ?_, ?_, ?_⟩
  · intro i hi
    by_cases z : i = l
    · rw [z, dl, pl, az_w4]
      exact ⟨hl.1, hl.2, Nat.le_refl _, hx, Nat.mod_one _⟩
    · by_cases y : i = b
      · rw [y, db, pb]
        exact ⟨hb.1, hb.2, by omega, Nat.lt_of_le_of_lt (az_cut_le x r) hx, az_cut_al x r⟩
      · exact t1 i (hold i hi z y)
  · intro i hi hd
    by_cases z : i = l
    · rw [z, pl]; exact Or.inr rfl
    · by_cases y : i = b
      · rw [y, db] at hd; omega
      · exact Or.inl (t2 i (hold i hi z y) hd)
  · intro i c hi hd hc h0
    by_cases z : i = l
    · rw [z, dl] at hd; omega
    · by_cases y : i = b
      · subst y
        by_cases v : c = az_dg (pf n) r
        · subst v
          rw [c3, db]
          exact ⟨hnew n n1, hlt, ubn, rfl⟩
        · by_cases w : c = az_dg x r
          · subst w
            rw [c4, db, dl, pl]
            exact ⟨u1, by omega, ubx, rfl⟩
          · exact absurd (c5 c v w) h0
      · have hi' := hold i hi z y
        by_cases v : i = p ∧ c = az_dg x (dp p)
        · obtain ⟨rfl, rfl⟩ := v
          have q := hpr hi'
          have p3 : az_un (dp i) (pf i) x := by
            rcases ha with ⟨rfl, _⟩ | ⟨q1, q2, q3, q4⟩
            · have := (t1 0 hi').1; omega
            · exact q3
          rw [c1 hi', db]
          refine ⟨u3, q, az_un_trans p3 (az_un_le (by omega) (by omega) (az_un_symm ubx)), az_un_dg q (by omega) (az_un_symm ubx)⟩
        · rw [c2 i c hi' v] at h0 ⊢
          have hu := t3 i c hi' hd hc h0
          exact ⟨hnew _ hu.1, hu.2⟩
  · intro i k hi hd hk hu
    by_cases z : i = l
    · rw [z, dl] at hd; omega
    · by_cases y : i = b
      · subst y
        rw [db] at hu ⊢
        rcases hk with hk | hk
        · have e1 := hKn k hk (by rw [← pb]; exact hu)
          have e2 := az_un_dg hlt dn e1
          rw [e2, c3]
          exact ⟨hn, e1⟩
        · subst hk
          rw [c4, dl, pl]
          exact ⟨by omega, az_un_refl _ _⟩
      · have hi' := hold i hi z y
        rcases hk with hk | hk
        · have h4 := t4 i k hi' hd hk hu
          by_cases v : i = p ∧ az_dg k (dp i) = az_dg x (dp p)
          · obtain ⟨rfl, v2⟩ := v
            have q : n = ch i (az_dg x (dp i)) := by
              rcases ha with ⟨rfl, _⟩ | ⟨q1, q2, q3, q4⟩
              · have := (t1 0 hi').1; omega
              · exact q4
            rw [v2, ← q] at h4
            rw [v2, c1 hi', db]
            exact ⟨by omega, az_un_trans ubn (az_un_le (by omega) dn h4.2)⟩
          · rw [c2 i _ hi' v]; exact h4
        · subst hk
          by_cases v : i = p
          · subst v
            rw [c1 hi', db]
            exact ⟨by omega, ubx⟩
          · have he := (az_end hall ha (Or.inr hnu) hi' hu).2.2.2.2.2 v
            rw [c2 i _ hi' (fun w => v w.1)]
            exact he
  · intro i hi hd
    by_cases z : i = l
    · rw [z, dl] at hd; omega
    · by_cases y : i = b
      · subst y
        refine ⟨az_dg (pf n) r, az_dg x r, az_dg_lt _ _, az_dg_lt _ _, hr.2.2 (by omega), ?_, ?_⟩
        · rw [c3]; exact hn
        · rw [c4]; omega
      · have hi' := hold i hi z y
        obtain ⟨a, b', x1, x2, x3, x4, x5⟩ := t5 i hi' hd
        exact ⟨a, b', x1, x2, x3, hnz i a hi' x4, hnz i b' hi' x5⟩
  · intro i j hi hj hd hu
    by_cases z : i = l
    · by_cases y : j = l
      · rw [z, y]
      · rw [z, dl] at hd
        rw [z, dl, pl] at hu
        by_cases v : j = b
        · rw [v, db] at hd; omega
        · have hj' := hold j hj y v
          have e := az_un4.mp hu
          have := t2 j hj' hd.symm
          rw [e] at this
          exact absurd this nx
    · by_cases y : i = b
      · subst y
        rw [db] at hd hu
        by_cases v : j = l
        · rw [v, dl] at hd; omega
        · by_cases w : j = i
          · exact w.symm
          · exact absurd hu (hno j (hold j hj v w) hd.symm)
      · have hi' := hold i hi z y
        by_cases v : j = l
        · rw [v, dl] at hd
          rw [v, pl, hd] at hu
          have e := az_un4.mp hu
          have := t2 i hi' hd
          rw [← e] at this
          exact absurd this nx
        · by_cases w : j = b
          · rw [w, db] at hd
            rw [w, hd] at hu
            exact absurd (az_un_symm hu) (hno i hi' hd)
          · exact t6 i j hi' (hold j hj v w) hd hu
  · by_cases z : p = 0
    · rw [r1 z]
      refine ⟨fun y => by omega, fun _ => ⟨u3, ?_⟩⟩
      intro k hk
      rw [db]
      rcases hk with hk | hk
      · have en : n = rt := by
          rcases ha with ⟨_, q⟩ | ⟨q1, _⟩
          · exact q
          · rw [z] at q1; have := (t1 0 q1).1; omega
        have e1 := (az_rootk hall hk).2.2
        rw [← en] at e1
        exact az_un_trans ubn (az_un_le (by omega) dn e1)
      · rw [hk]; exact ubx
    · rw [r2 z]
      have p1 : us p = 1 ∧ az_un (dp p) (pf p) x := by
        rcases ha with ⟨q, _⟩ | ⟨q1, _, q3, _⟩
        · exact absurd q z
        · exact ⟨q1, q3⟩
      have r0 := az_root0 hall p1.1
      refine ⟨fun y => absurd y r0, fun _ => ⟨hnew _ (az_rootu hall r0), ?_⟩⟩
      intro k hk
      rcases hk with hk | hk
      · exact (az_rootk hall hk).2.2
      · subst hk
        have q := az_root hall p1.1
        exact az_un_trans q.2 (az_un_le q.1 (t1 p p1.1).2.2.1 p1.2)
  · intro k hk
    rcases hk with hk | hk
    · exact t8 k hk
    · omega
/-- the parent of a node over x, and the digit, are one -/
theorem az_par (h : az_T K us dp pf ch rt) {x p q : Nat} (p1 : us p = 1) (p2 : dp p < 4) (p3 : az_un (dp p) (pf p) x) (p4 : ch p (az_dg x (dp p)) = q) (q1 : us q = 1) (q2 : az_un (dp q) (pf q) x)
    {i c : Nat} (hi : us i = 1) (hd : dp i < 4) (hc : c < 16) (he : ch i c = q) : i = p ∧ c = az_dg x (dp p) := by
  have q0 : q ≠ 0 := by have := (h.1 q q1).1; omega
  have dq := (h.1 q q1).2.2.1
  have a1 := h.2.2.1 i c hi hd hc (by rw [he]; exact q0)
  have a2 := h.2.2.1 p (az_dg x (dp p)) p1 p2 (az_dg_lt _ _) (by rw [p4]; exact q0)
  rw [he] at a1
  rw [p4] at a2
  have e1 : az_un (dp i) (pf i) x := az_un_trans a1.2.2.1 (az_un_le (by omega) dq q2)
  have e2 : c = az_dg x (dp i) := by rw [← a1.2.2.2]; exact (az_un_dg a1.2.1 dq q2).symm
  rcases Nat.lt_trichotomy (dp i) (dp p) with z | z | z
  · have b := az_path h hi p1 e1 p3 z
    rw [← e2, he] at b
    omega
  · have b := az_same h hi p1 e1 p3 z
    subst b
    exact ⟨rfl, e2⟩
  · have b := az_path h p1 hi p3 e1 z
    rw [p4] at b
    omega
/-- the last leaf -/
theorem az_takeA (h : az_T K us dp pf ch rt) {x l : Nat} (l1 : us l = 1) (dl : dp l = 4) (pl : pf l = x) (hr : rt = l)
    {us' : Nat → Nat} (u1 : us' l = 0) (u2 : ∀ j, j ≠ l → us' j = us j) (ch' : Nat → Nat → Nat) : az_T (fun k => K k ∧ k ≠ x) us' dp pf ch' 0 := by
  have hz : ∀ j, us' j ≠ 1 := by
    intro j hj
    by_cases z : j = l
    · rw [z, u1] at hj; omega
    · rw [u2 j z] at hj
      have a := az_root h hj
      have b := (h.1 j hj).2.2.1
      rw [hr, dl] at a
      exact z (h.2.2.2.2.2.1 l j l1 hj (by omega) (by rw [dl]; exact a.2)).symm
  have hk : ∀ k, ¬ (K k ∧ k ≠ x) := by
    intro k hk
    have a := (az_rootk h hk.1).2.2
    rw [hr, dl, pl] at a
    exact hk.2 (az_un4.mp a)
  refine ⟨fun i hi => absurd hi (hz i), fun i hi => absurd hi (hz i), fun i _ hi => absurd hi (hz i), fun i _ hi => absurd hi (hz i), fun i hi => absurd hi (hz i), fun i _ hi => absurd hi (hz i), ⟨fun _ => hk, fun z => absurd rfl z⟩, fun k w => absurd w (hk k)⟩
/-- a leaf less under the branch p, which keeps two children -/
theorem az_takeB (h : az_T K us dp pf ch rt) {x l p : Nat} (l1 : us l = 1) (dl : dp l = 4) (pl : pf l = x)
    (p1 : us p = 1) (p2 : dp p < 4) (p3 : az_un (dp p) (pf p) x) (p4 : ch p (az_dg x (dp p)) = l)
    {us' : Nat → Nat} (u1 : us' l = 0) (u2 : ∀ j, j ≠ l → us' j = us j)
    {ch' : Nat → Nat → Nat} (c1 : ch' p (az_dg x (dp p)) = 0) (c2 : ∀ j c, us j = 1 → ¬ (j = p ∧ c = az_dg x (dp p)) → ch' j c = ch j c)
    (c3 : ∃ a b, a < 16 ∧ b < 16 ∧ a ≠ b ∧ ch' p a ≠ 0 ∧ ch' p b ≠ 0) :
    az_T (fun k => K k ∧ k ≠ x) us' dp pf ch' rt := by
  have ul : az_un (dp l) (pf l) x := by rw [dl, pl]; exact az_un_refl _ _
  have hold : ∀ j, us' j = 1 → us j = 1 ∧ j ≠ l := by
    intro j hj
    by_cases z : j = l
    · rw [z, u1] at hj; omega
    · exact ⟨by rw [← u2 j z]; exact hj, z⟩
  have hnew : ∀ j, us j = 1 → j ≠ l → us' j = 1 := by
    intro j hj z
    rw [u2 j z]; exact hj
  have hall := h
  obtain ⟨t1, t2, t3, t4, t5, t6, t7, t8⟩ := h
  refine ⟨fun i hi => t1 i (hold i hi).1, ?_, ?_, ?_, ?_, fun i j hi hj => t6 i j (hold i hi).1 (hold j hj).1, ?_, fun k hk => t8 k hk.1⟩
  · intro i hi hd
    refine ⟨t2 i (hold i hi).1 hd, fun z => (hold i hi).2 ?_⟩
    exact az_same hall (hold i hi).1 l1 (by rw [z]; exact az_un_refl _ _) ul (by omega)
  · intro i c hi hd hc h0
    have hi' := (hold i hi).1
    by_cases z : i = p ∧ c = az_dg x (dp p)
    · rw [z.1, z.2, c1] at h0; exact absurd rfl h0
    · rw [c2 i c hi' z] at h0 ⊢
      have hu := t3 i c hi' hd hc h0
      exact ⟨hnew _ hu.1 (fun w => z (az_par hall p1 p2 p3 p4 l1 ul hi' hd hc w)), hu.2⟩
  · intro i k hi hd hk hu
    have hi' := (hold i hi).1
    have h4 := t4 i k hi' hd hk.1 hu
    by_cases z : i = p ∧ az_dg k (dp i) = az_dg x (dp p)
    · obtain ⟨rfl, z2⟩ := z
      rw [z2, p4, dl, pl] at h4
      exact absurd (az_un4.mp h4.2) hk.2
    · rw [c2 i _ hi' z]; exact h4
  · intro i hi hd
    by_cases z : i = p
    · rw [z]; exact c3
    · have hi' := (hold i hi).1
      obtain ⟨a, b, x1, x2, x3, x4, x5⟩ := t5 i hi' hd
      exact ⟨a, b, x1, x2, x3, by rw [c2 i a hi' (fun w => z w.1)]; exact x4, by rw [c2 i b hi' (fun w => z w.1)]; exact x5⟩
  · have r0 := az_root0 hall p1
    have r1 := az_root hall p1
    refine ⟨fun z => absurd z r0, fun _ => ⟨hnew _ (az_rootu hall r0) (fun z => ?_), fun k hk => (az_rootk hall hk.1).2.2⟩⟩
    rw [z, dl] at r1
    omega
/-- a leaf less, and its parent p, which kept one child o: o in the place of p -/
theorem az_takeC (h : az_T K us dp pf ch rt) {x l p g o co : Nat} (l1 : us l = 1) (dl : dp l = 4) (pl : pf l = x)
    (p1 : us p = 1) (p2 : dp p < 4) (p3 : az_un (dp p) (pf p) x) (p4 : ch p (az_dg x (dp p)) = l)
    (hg : az_at us dp pf ch rt x g p)
    (o1 : ch p co = o) (o2 : o ≠ 0) (o3 : co < 16) (o4 : co ≠ az_dg x (dp p)) (o5 : ∀ c, c < 16 → c ≠ az_dg x (dp p) → ch p c ≠ 0 → c = co)
    {us' : Nat → Nat} (u1 : us' l = 0) (u3 : us' p = 0) (u2 : ∀ j, j ≠ l → j ≠ p → us' j = us j)
    {ch' : Nat → Nat → Nat} (c1 : us g = 1 → ch' g (az_dg x (dp g)) = o) (c2 : ∀ j c, us j = 1 → j ≠ p → ¬ (j = g ∧ c = az_dg x (dp g)) → ch' j c = ch j c)
    {rt' : Nat} (r1 : g = 0 → rt' = o) (r2 : g ≠ 0 → rt' = rt) :
    az_T (fun k => K k ∧ k ≠ x) us' dp pf ch' rt' := by
  have ul : az_un (dp l) (pf l) x := by rw [dl, pl]; exact az_un_refl _ _
  have hold : ∀ j, us' j = 1 → us j = 1 ∧ j ≠ l ∧ j ≠ p := by
    intro j hj
    by_cases z : j = l
    · rw [z, u1] at hj; omega
    · by_cases y : j = p
      · rw [y, u3] at hj; omega
      · exact ⟨by rw [← u2 j z y]; exact hj, z, y⟩
  have hnew : ∀ j, us j = 1 → j ≠ l → j ≠ p → us' j = 1 := by
    intro j hj z y
    rw [u2 j z y]; exact hj
  have hall := h
  obtain ⟨t1, t2, t3, t4, t5, t6, t7, t8⟩ := h
  have ho := t3 p co p1 p2 o3 (by rw [o1]; exact o2)
  rw [o1] at ho
  have dO := (t1 o ho.1).2.2.1
  have hol : o ≠ l := by
    intro z
    exact o4 (az_par hall p1 p2 p3 p4 l1 ul p1 p2 o3 (by rw [o1, z])).2
  have hop : o ≠ p := by
    intro z
    have := ho.2.1
    rw [z] at this
    omega
  have hK : ∀ k, K k → k ≠ x → az_un (dp p) (pf p) k → az_un (dp o) (pf o) k := by
    intro k hk hkx hu
    have h4 := t4 p k p1 p2 hk hu
    by_cases z : az_dg k (dp p) = az_dg x (dp p)
    · rw [z, p4, dl, pl] at h4
      exact absurd (az_un4.mp h4.2) hkx
    · have e := o5 _ (az_dg_lt _ _) z h4.1
      rw [e, o1] at h4
      exact h4.2
  have hgp : us g = 1 → dp g < 4 ∧ az_un (dp g) (pf g) x ∧ ch g (az_dg x (dp g)) = p := by
    intro hg1
    rcases hg with ⟨q, _⟩ | ⟨_, q2, q3, q4⟩
    · rw [q] at hg1; have := (t1 0 hg1).1; omega
    · exact ⟨q2, q3, q4.symm⟩
  have p0 : p ≠ 0 := by have := (t1 p p1).1; omega
  refine ⟨fun i hi => t1 i (hold i hi).1, ?_, ?_, ?_, ?_, fun i j hi hj => t6 i j (hold i hi).1 (hold j hj).1, ?_, fun k hk => t8 k hk.1⟩
  · intro i hi hd
    refine ⟨t2 i (hold i hi).1 hd, fun z => (hold i hi).2.1 ?_⟩
    exact az_same hall (hold i hi).1 l1 (by rw [z]; exact az_un_refl _ _) ul (by omega)
  · intro i c hi hd hc h0
    obtain ⟨hi', hil, hip⟩ := hold i hi
    by_cases z : i = g ∧ c = az_dg x (dp g)
    · obtain ⟨rfl, rfl⟩ := z
      obtain ⟨g2, g3, g4⟩ := hgp hi'
      have hu := t3 i _ hi' g2 (az_dg_lt _ _) (by rw [g4]; exact p0)
      rw [g4] at hu
      rw [c1 hi']
      refine ⟨hnew o ho.1 hol hop, by omega, az_un_trans hu.2.2.1 (az_un_le (by omega) (by omega) ho.2.2.1), ?_⟩
      rw [az_un_dg hu.2.1 (by omega) ho.2.2.1]
      exact hu.2.2.2
    · rw [c2 i c hi' hip z] at h0 ⊢
      have hu := t3 i c hi' hd hc h0
      refine ⟨hnew _ hu.1 (fun w => hip (az_par hall p1 p2 p3 p4 l1 ul hi' hd hc w).1) (fun w => ?_), hu.2⟩
      rcases hg with ⟨_, q⟩ | ⟨q1, q2, q3, q4⟩
      · have a := az_root hall hi'
        rw [← q] at a
        rw [w] at hu
        omega
      · exact z (az_par hall q1 q2 q3 q4.symm p1 p3 hi' hd hc w)
  · intro i k hi hd hk hu
    obtain ⟨hi', hil, hip⟩ := hold i hi
    have h4 := t4 i k hi' hd hk.1 hu
    by_cases z : i = g ∧ az_dg k (dp i) = az_dg x (dp g)
    · obtain ⟨rfl, z2⟩ := z
      obtain ⟨g2, g3, g4⟩ := hgp hi'
      rw [z2, g4] at h4
      rw [z2, c1 hi']
      exact ⟨o2, hK k hk.1 hk.2 h4.2⟩
    · rw [c2 i _ hi' hip z]; exact h4
  · intro i hi hd
    obtain ⟨hi', hil, hip⟩ := hold i hi
    obtain ⟨a, b, x1, x2, x3, x4, x5⟩ := t5 i hi' hd
    have hnz : ∀ c, ch i c ≠ 0 → ch' i c ≠ 0 := by
      intro c hc
      by_cases z : i = g ∧ c = az_dg x (dp g)
      · obtain ⟨rfl, rfl⟩ := z
        rw [c1 hi']; exact o2
      · rw [c2 i c hi' hip z]; exact hc
    exact ⟨a, b, x1, x2, x3, hnz a x4, hnz b x5⟩
  · by_cases z : g = 0
    · rw [r1 z]
      refine ⟨fun y => absurd y o2, fun _ => ⟨hnew o ho.1 hol hop, ?_⟩⟩
      intro k hk
      have e : p = rt := by
        rcases hg with ⟨_, q⟩ | ⟨q1, _⟩
        · exact q
        · rw [z] at q1; have := (t1 0 q1).1; omega
      refine hK k hk.1 hk.2 ?_
      rw [e]
      exact (az_rootk hall hk.1).2.2
    · rw [r2 z]
      have g1 : us g = 1 := by
        rcases hg with ⟨q, _⟩ | ⟨q1, _⟩
        · exact absurd q z
        · exact q1
      obtain ⟨g2, g3, g4⟩ := hgp g1
      have hu := t3 g _ g1 g2 (az_dg_lt _ _) (by rw [g4]; exact p0)
      rw [g4] at hu
      have r0 := az_root0 hall g1
      have a := az_root hall g1
      refine ⟨fun y => absurd y r0, fun _ => ⟨hnew _ (az_rootu hall r0) (fun w => ?_) (fun w => ?_), fun k hk => (az_rootk hall hk.1).2.2⟩⟩
      · rw [w, dl] at a; omega
      · rw [w] at a; omega
end
