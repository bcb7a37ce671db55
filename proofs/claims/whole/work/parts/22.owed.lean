/-- both hold the content m -/
def i_Rel (k : Nat) (u : SX) (v : SY) : Prop := ∃ m : Nat → Option Int32, az_X m u ∧ az_YI m v
theorem i_up {k : Nat} {u : SX} {v : SY} (h : i_Rel k u v) : i_Rel (k + 3) u v := h
theorem i_vc0 : wpX_init (fun u => wpY_init (fun v => i_Rel 0 u v)) := ⟨fun _ => none, az_X_0, az_YI_0⟩
theorem i_vc_put {k : Nat} {u : SX} {v : SY} (I : i_Rel k u v) (hk : k + 3 ≤ 1536) (v1 : Int32) (v2 : Int32) : wpX_put (fun r u' => wpY_put (fun r' v' => r' = r ∧ i_Rel (k + 3) u' v') v v1 v2) u v1 v2 := by
  obtain ⟨m, X, Y⟩ := I
  refine az_Xput X (fun hb => ?_) (fun x hx e kx u' X' => ?_) (fun x hx e nx hC => ?_) (fun x hx e nx hC u' X' => ?_)
  · have no : ∀ x, x < 65536 → v1 = nI x → False := fun x hx e => az_nk_of hx (by rw [← e]; exact hb)
    exact az_Yput Y (fun _ => ⟨rfl, m, X, Y⟩) (fun x hx e => (no x hx e).elim) (fun x hx e => (no x hx e).elim) (fun x hx e => (no x hx e).elim)
  · subst e
    refine az_Yput Y (fun hb => absurd hb (az_nk_of hx)) (fun y hy ey ky v' Y' => ?_) (fun y hy ey ny => absurd kx (by rw [az_inj hx hy ey]; exact ny)) (fun y hy ey ny => absurd kx (by rw [az_inj hx hy ey]; exact ny))
    rw [← az_inj hx hy ey] at Y'
    exact ⟨rfl, _, X', Y'⟩
  · subst e
    exact az_Yput Y (fun hb => absurd hb (az_nk_of hx)) (fun y hy ey ky => absurd ky (by rw [← az_inj hx hy ey]; exact nx)) (fun y hy ey ny _ => ⟨rfl, m, X, Y⟩) (fun y hy ey ny hC' => by omega)
  · subst e
    refine az_Yput Y (fun hb => absurd hb (az_nk_of hx)) (fun y hy ey ky => absurd ky (by rw [← az_inj hx hy ey]; exact nx)) (fun y hy ey ny hC' => by omega) (fun y hy ey ny _ v' Y' => ?_)
    rw [← az_inj hx hy ey] at Y'
    exact ⟨rfl, _, X', Y'⟩
theorem i_vc_remove {k : Nat} {u : SX} {v : SY} (I : i_Rel k u v) (hk : k + 3 ≤ 1536) (v1 : Int32) : wpX_remove (fun r u' => wpY_remove (fun r' v' => r' = r ∧ i_Rel (k + 3) u' v') v v1) u v1 := by
  obtain ⟨m, X, Y⟩ := I
  refine az_Xremove X (fun hb => ?_) (fun x hx e nx => ?_) (fun x hx e kx u' c X' hc => ?_)
  · have no : ∀ x, x < 65536 → v1 = nI x → False := fun x hx e => az_nk_of hx (by rw [← e]; exact hb)
    exact az_Yremove Y (fun _ => ⟨rfl, m, X, Y⟩) (fun x hx e => (no x hx e).elim) (fun x hx e => (no x hx e).elim)
  · subst e
    exact az_Yremove Y (fun hb => absurd hb (az_nk_of hx)) (fun y hy ey ny => ⟨rfl, m, X, Y⟩) (fun y hy ey ky => absurd ky (by rw [← az_inj hx hy ey]; exact nx))
  · subst e
    refine az_Yremove Y (fun hb => absurd hb (az_nk_of hx)) (fun y hy ey ny => absurd kx (by rw [az_inj hx hy ey]; exact ny)) (fun y hy ey ky v' c' Y' hc' => ?_)
    rw [← az_inj hx hy ey] at Y' hc'
    have e : c' = c := by omega
    exact ⟨by rw [e], _, X', Y'⟩
theorem i_vc_removeRange {k : Nat} {u : SX} {v : SY} (I : i_Rel k u v) (hk : k + 3 ≤ 1536) (v1 : Int32) (v2 : Int32) : wpX_removeRange (fun r u' => wpY_removeRange (fun r' v' => r' = r ∧ i_Rel (k + 3) u' v') v v1 v2) u v1 v2 := by
  obtain ⟨m, X, Y⟩ := I
  refine az_XremoveRange X (fun hb => ?_) (fun a b ha hb ea eb hlt => ?_) (fun a b hab hb ea eb u' c X' hc => ?_)
  · refine az_YremoveRange Y (fun _ => ⟨rfl, m, X, Y⟩) (fun a b ha hb' ea eb => ?_)
    rw [ea, eb] at hb
    exact (hb.elim (az_nk_of ha) (az_nk_of hb')).elim
  · subst ea eb
    refine az_YremoveRange Y (fun h => (h.elim (az_nk_of ha) (az_nk_of hb)).elim) (fun a' b' ha' hb' ea eb v' c Y' hc => ?_)
    rw [← az_inj ha ha' ea, ← az_inj hb hb' eb, az_cutout_0 hlt] at Y' hc
    have c0 : c = 0 := by omega
    exact ⟨by rw [c0]; rfl, m, X, Y'⟩
  · subst ea eb
    have ha : a < 65536 := by omega
    refine az_YremoveRange Y (fun h => (h.elim (az_nk_of ha) (az_nk_of hb)).elim) (fun a' b' ha' hb' ea eb v' c' Y' hc' => ?_)
    rw [← az_inj ha ha' ea, ← az_inj hb hb' eb] at Y' hc'
    rw [az_C_cutout (by omega) (by omega)] at hc'
    have e : c' = c := by omega
    exact ⟨by rw [e], _, X', Y'⟩
theorem i_vc_contains {k : Nat} {u : SX} {v : SY} (I : i_Rel k u v) (hk : k + 3 ≤ 1536) (v1 : Int32) : wpX_contains (fun r => wpY_contains (fun r' => r' = r ∧ i_Rel (k + 3) u v) v v1) u v1 := by
  have I' : i_Rel (k + 3) u v := I
  obtain ⟨m, X, Y⟩ := I
  refine az_Xcontains X (fun x hx e kx => az_Ycontains Y (fun _ _ _ _ => ⟨rfl, I'⟩) (fun no => absurd kx (no x hx e))) (fun no => az_Ycontains Y (fun x hx e kx => absurd kx (no x hx e)) (fun _ => ⟨rfl, I'⟩))
theorem i_vc_valueOf {k : Nat} {u : SX} {v : SY} (I : i_Rel k u v) (hk : k + 3 ≤ 1536) (v1 : Int32) : wpX_valueOf (fun r => wpY_valueOf (fun r' => r' = r ∧ i_Rel (k + 3) u v) v v1) u v1 := by
  have I' : i_Rel (k + 3) u v := I
  obtain ⟨m, X, Y⟩ := I
  refine az_XvalueOf X (fun x w hx e hw => az_YvalueOf Y (fun y w' hy ey hw' => ?_) (fun no => absurd (az_K_of hw) (no x hx e))) (fun no => az_YvalueOf Y (fun x w hx e hw => absurd (az_K_of hw) (no x hx e)) (fun _ => ⟨rfl, I'⟩))
  subst e
  rw [← az_inj hx hy ey, hw] at hw'
  exact ⟨(Option.some.inj hw').symm, I'⟩
theorem i_vc_size {k : Nat} {u : SX} {v : SY} (I : i_Rel k u v) (hk : k + 3 ≤ 1536) : wpX_size (fun r => wpY_size (fun r' => r' = r ∧ i_Rel (k + 3) u v) v) u := by
  have I' : i_Rel (k + 3) u v := I
  obtain ⟨m, X, Y⟩ := I
  refine az_Xsize X (fun c hc => az_Ysize Y (fun c' hc' => ?_))
  have e : c' = c := by omega
  exact ⟨by rw [e], I'⟩
theorem i_vc_above {k : Nat} {u : SX} {v : SY} (I : i_Rel k u v) (hk : k + 3 ≤ 1536) (v1 : Int32) : wpX_above (fun r => wpY_above (fun r' => r' = r ∧ i_Rel (k + 3) u v) v v1) u v1 := by
  have I' : i_Rel (k + 3) u v := I
  obtain ⟨m, X, Y⟩ := I
  exact az_Xabove X (fun r hr => az_Yabove Y (fun r' hr' => ⟨az_a_eq hr hr', I'⟩))
theorem i_vc_below {k : Nat} {u : SX} {v : SY} (I : i_Rel k u v) (hk : k + 3 ≤ 1536) (v1 : Int32) : wpX_below (fun r => wpY_below (fun r' => r' = r ∧ i_Rel (k + 3) u v) v v1) u v1 := by
  have I' : i_Rel (k + 3) u v := I
  obtain ⟨m, X, Y⟩ := I
  exact az_Xbelow X (fun r hr => az_Ybelow Y (fun r' hr' => ⟨az_b_eq hr hr', I'⟩))
theorem i_vc_atRank {k : Nat} {u : SX} {v : SY} (I : i_Rel k u v) (hk : k + 3 ≤ 1536) (v1 : Int32) : wpX_atRank (fun r => wpY_atRank (fun r' => r' = r ∧ i_Rel (k + 3) u v) v v1) u v1 := by
  have I' : i_Rel (k + 3) u v := I
  obtain ⟨m, X, Y⟩ := I
  exact az_XatRank X (fun r hr => az_YatRank Y (fun r' hr' => ⟨az_r_eq hr hr', I'⟩))
theorem i_vc_countRange {k : Nat} {u : SX} {v : SY} (I : i_Rel k u v) (hk : k + 3 ≤ 1536) (v1 : Int32) (v2 : Int32) : wpX_countRange (fun r => wpY_countRange (fun r' => r' = r ∧ i_Rel (k + 3) u v) v v1 v2) u v1 v2 := by
  have I' : i_Rel (k + 3) u v := I
  obtain ⟨m, X, Y⟩ := I
  refine az_XcountRange X (fun c hle hc => az_YcountRange Y (fun c' _ hc' => ?_) (fun hlt => by omega)) (fun hlt => az_YcountRange Y (fun c' hle _ => by omega) (fun _ => ⟨rfl, I'⟩))
  have e : c' = c := by omega
  exact ⟨by rw [e], I'⟩
theorem i_vc_sharedDigits {k : Nat} {u : SX} {v : SY} (I : i_Rel k u v) (hk : k + 3 ≤ 1536) (v1 : Int32) : wpX_sharedDigits (fun r => wpY_sharedDigits (fun r' => r' = r ∧ i_Rel (k + 3) u v) v v1) u v1 := by
  have I' : i_Rel (k + 3) u v := I
  obtain ⟨m, X, Y⟩ := I
  refine az_XsharedDigits X (fun hb => ?_) (fun x hx e no => ?_) (fun x r hx e hr => ?_)
  · have no : ∀ x, x < 65536 → v1 = nI x → False := fun x hx e => az_nk_of hx (by rw [← e]; exact hb)
    exact az_YsharedDigits Y (fun _ => ⟨rfl, I'⟩) (fun x hx e => (no x hx e).elim) (fun x r hx e => (no x hx e).elim)
  · subst e
    refine az_YsharedDigits Y (fun hb => absurd hb (az_nk_of hx)) (fun _ _ _ _ => ⟨rfl, I'⟩) (fun y r hy ey hr => ?_)
    obtain ⟨_, ⟨k', k1, _⟩, _⟩ := hr
    exact absurd k1 (no k')
  · subst e
    refine az_YsharedDigits Y (fun hb => absurd hb (az_nk_of hx)) (fun y hy ey no => ?_) (fun y r' hy ey hr' => ?_)
    · obtain ⟨_, ⟨k', k1, _⟩, _⟩ := hr
      exact absurd k1 (no k')
    · rw [← az_inj hx hy ey] at hr'
      exact ⟨by rw [az_sd_uniq hr' hr], I'⟩
theorem i_vc_sumUnder {k : Nat} {u : SX} {v : SY} (I : i_Rel k u v) (hk : k + 3 ≤ 1536) (v1 : Int32) (v2 : Int32) : wpX_sumUnder (fun r => wpY_sumUnder (fun r' => r' = r ∧ i_Rel (k + 3) u v) v v1 v2) u v1 v2 := by
  have I' : i_Rel (k + 3) u v := I
  obtain ⟨m, X, Y⟩ := I
  refine az_XsumUnder X (fun hb => ?_) (fun x d hx hd e1 e2 => ?_)
  · refine az_YsumUnder Y (fun _ => ⟨rfl, I'⟩) (fun x d hx hd e1 e2 => ?_)
    rw [e1, e2, nI_toInt (by omega)] at hb
    exact (hb.elim (az_nk_of hx) (fun w => by omega)).elim
  · subst e1 e2
    refine az_YsumUnder Y (fun hb => ?_) (fun y d' hy hd' e1 e2 => ?_)
    · rw [nI_toInt (by omega)] at hb
      exact (hb.elim (az_nk_of hx) (fun w => by omega)).elim
    · have ed : d = d' := (nI_eq (by omega) (by omega)).mp e2
      rw [← az_inj hx hy e1, ← ed]
      exact ⟨rfl, I'⟩
