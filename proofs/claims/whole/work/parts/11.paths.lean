/-! adding on the path to a key: exactly the used nodes over it -/
def az_dn (us dp pf : Nat → Nat) (x D j : Nat) : Bool := az_on us dp pf x j && decide (dp j < D)
theorem az_dn_iff {us dp pf : Nat → Nat} {x D j : Nat} : az_dn us dp pf x D j = true ↔ (us j = 1 ∧ az_un (dp j) (pf j) x) ∧ dp j < D := by
  unfold az_dn
  rw [Bool.and_eq_true, az_on_iff, decide_eq_true_iff]
def az_av (a : Nat → Int32) (k : Int32) (B : Nat → Bool) : Nat → Int32 := fun j => if B j = true then a j + k else a j
def az_aL (a : Nat → Int64) (k : Int64) (B : Nat → Bool) : Nat → Int64 := fun j => if B j = true then a j + k else a j
theorem az_av_step {a : Nat → Int32} {k : Int32} {B B' : Nat → Bool} {n : Nat} (h : ∀ j, B' j = true ↔ (j = n ∨ B j = true)) (hn : ¬ B n = true) : upd (az_av a k B) n (az_av a k B n + k) = az_av a k B' := by
  funext j
  unfold az_av
  by_cases z : j = n
  · subst z
    rw [pk_us, if_neg hn, if_pos ((h j).mpr (Or.inl rfl))]
  · rw [pk_un z]
    by_cases y : B j = true
    · rw [if_pos y, if_pos ((h j).mpr (Or.inr y))]
    · rw [if_neg y, if_neg (fun w => ((h j).mp w).elim z y)]
theorem az_aL_step {a : Nat → Int64} {k : Int64} {B B' : Nat → Bool} {n : Nat} (h : ∀ j, B' j = true ↔ (j = n ∨ B j = true)) (hn : ¬ B n = true) : vp_updL (az_aL a k B) n (az_aL a k B n + k) = az_aL a k B' := by
  funext j
  unfold az_aL
  by_cases z : j = n
  · subst z
    rw [pk_uLs, if_neg hn, if_pos ((h j).mpr (Or.inl rfl))]
  · rw [pk_uLn z]
    by_cases y : B j = true
    · rw [if_pos y, if_pos ((h j).mpr (Or.inr y))]
    · rw [if_neg y, if_neg (fun w => ((h j).mp w).elim z y)]
theorem az_av_0 {a : Nat → Int32} {k : Int32} {B : Nat → Bool} (h : ∀ j, ¬ B j = true) : az_av a k B = a := funext fun j => if_neg (h j)
theorem az_aL_0 {a : Nat → Int64} {k : Int64} {B : Nat → Bool} (h : ∀ j, ¬ B j = true) : az_aL a k B = a := funext fun j => if_neg (h j)
theorem az_av_e {a : Nat → Int32} {k : Int32} {B B' : Nat → Bool} (h : ∀ j, B j = true ↔ B' j = true) : az_av a k B = az_av a k B' := by
  funext j
  unfold az_av
  by_cases y : B j = true
  · rw [if_pos y, if_pos ((h j).mp y)]
  · rw [if_neg y, if_neg (fun w => y ((h j).mpr w))]
theorem az_aL_e {a : Nat → Int64} {k : Int64} {B B' : Nat → Bool} (h : ∀ j, B j = true ↔ B' j = true) : az_aL a k B = az_aL a k B' := by
  funext j
  unfold az_aL
  by_cases y : B j = true
  · rw [if_pos y, if_pos ((h j).mp y)]
  · rw [if_neg y, if_neg (fun w => y ((h j).mpr w))]
section
variable {K : Nat → Prop} {us dp pf : Nat → Nat} {ch : Nat → Nat → Nat} {rt : Nat}
theorem az_dn_root (t : az_T K us dp pf ch rt) (x j : Nat) : ¬ az_dn us dp pf x (dp rt) j = true := by
  intro h
  have e := az_dn_iff.mp h
  have := (az_root t e.1.1).1
  omega
theorem az_dn_self (us dp pf : Nat → Nat) (x n : Nat) : ¬ az_dn us dp pf x (dp n) n = true := by
  intro h
  have e := (az_dn_iff.mp h).2
  omega
theorem az_dn_step (t : az_T K us dp pf ch rt) {x n : Nat} (u : us n = 1) (hu : az_un (dp n) (pf n) x) (hd : dp n < 4) (h0 : ch n (az_dg x (dp n)) ≠ 0) (j : Nat) : az_dn us dp pf x (dp (ch n (az_dg x (dp n)))) j = true ↔ (j = n ∨ az_dn us dp pf x (dp n) j = true) := by
  have c := t.2.2.1 n _ u hd (az_dg_lt x (dp n)) h0
  rw [az_dn_iff, az_dn_iff]
  refine ⟨fun h => ?_, fun h => ?_⟩
  · rcases Nat.lt_trichotomy (dp j) (dp n) with z | z | z
    · exact Or.inr ⟨h.1, z⟩
    · exact Or.inl (az_same t h.1.1 u h.1.2 hu z)
    · have q := az_path t u h.1.1 hu h.1.2 z
      have := h.2
      omega
  · rcases h with h | h
    · rw [h]; exact ⟨⟨u, hu⟩, c.2.1⟩
    · exact ⟨h.1, by omega⟩
theorem az_dn_last (t : az_T K us dp pf ch rt) {x n : Nat} (u : us n = 1) (hu : az_un (dp n) (pf n) x) (hd : dp n = 4) (j : Nat) : az_on us dp pf x j = true ↔ (j = n ∨ az_dn us dp pf x (dp n) j = true) := by
  rw [az_dn_iff, az_on_iff]
  refine ⟨fun h => ?_, fun h => ?_⟩
  · have q := (t.1 j h.1).2.2.1
    by_cases z : dp j = dp n
    · exact Or.inl (az_same t h.1 u h.2 hu z)
    · exact Or.inr ⟨h, by omega⟩
  · rcases h with h | h
    · rw [h]; exact ⟨u, hu⟩
    · exact h.1
end
/-! the arrays as numbers -/
theorem az_upd (f : Nat → Nat) (k v : Nat) : upd (fun i => nI (f i)) k (nI v) = fun i => nI (az_f f k v i) := by
  funext j
  by_cases z : j = k
  · rw [z, pk_us, az_f_s]
  · rw [pk_un z, az_f_n z]
theorem az_av_nat {f f' : Nat → Nat} {k : Int32} {B : Nat → Bool} (h1 : ∀ j, B j = true → nI (f j) + k = nI (f' j)) (h2 : ∀ j, ¬ B j = true → f' j = f j) : az_av (fun i => nI (f i)) k B = fun i => nI (f' i) := by
  funext j
  unfold az_av
  by_cases y : B j = true
  · rw [if_pos y]; exact h1 j y
  · rw [if_neg y, h2 j y]
theorem az_i64 (v : Int32) : v.toInt64 = Int64.ofInt v.toInt := by
  rw [← Int32.toInt_toInt64 v, Int64.ofInt_toInt]
theorem az_i32 (v : Int32) : (Int64.ofInt v.toInt).toInt32 = v := by
  rw [← az_i64]; exact Int32.toInt32_toInt64 v
