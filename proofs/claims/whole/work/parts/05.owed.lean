/-- both sides keep the same two arrays, within their ranges -/
def i_Rel (k : Nat) (u : SX) (v : SY) : Prop := v = u ∧ ra_ok u.1 u.2
theorem i_up {k : Nat} {u : SX} {v : SY} (h : i_Rel k u v) : i_Rel (k + 3) u v := h
theorem ra_ok0 : ra_ok (upd (upd (upd (upd (fun _ => 0) 0 (nI 4)) 1 (nI 4)) 2 (nI 4)) 3 (nI 4)) (upd (upd (upd (upd (fun _ => 0) 0 (nI 1)) 1 (nI 1)) 2 (nI 1)) 3 (nI 1)) := by
  intro j hj
  have h : j = 0 ∨ j = 1 ∨ j = 2 ∨ j = 3 := by omega
  rcases h with rfl | rfl | rfl | rfl
  · exact ⟨⟨4, by decide, rfl⟩, ⟨1, by decide, by decide, rfl⟩⟩
  · exact ⟨⟨4, by decide, rfl⟩, ⟨1, by decide, by decide, rfl⟩⟩
  · exact ⟨⟨4, by decide, rfl⟩, ⟨1, by decide, by decide, rfl⟩⟩
  · exact ⟨⟨4, by decide, rfl⟩, ⟨1, by decide, by decide, rfl⟩⟩
theorem ra_init {post : SX → Prop} {n j : Nat} {A C : Nat → Int32} (hj : j < 4) (h : wX_init_20 post n (nI (j + 1)) (upd A j (nI 4)) (upd C j (nI 1))) : wX_init_20 post (n + 1) (nI j) A C := by
  have vi : vp_in (nI j) 4 := vp_in_nI hj (by decide)
  have cl : (nI j).toNatClampNeg = j := nI_clamp (by omega)
  have k4 : ¬ (4 : Int32) ≤ nI j := nI_ge (b := 4) hj (by decide)
  have e1 : upd A (nI j).toNatClampNeg (vp_nar .char 4) = upd A j (nI 4) := by rw [cl, ra_c4]
  have e2 : upd C (nI j).toNatClampNeg (vp_nar .byte 1) = upd C j (nI 1) := by rw [cl, ra_b1]
  exact br_f k4 ⟨vi, nm_r e1 ⟨vi, nm_r e2 (nm_r (nI_1 j) h)⟩⟩
theorem ra_initE {post : SX → Prop} {A C : Nat → Int32} (h : post (A, C)) : wX_init_20 post 1 (nI 4) A C := br_t (nI_le (a := 4) (b := 4) (by omega) (by decide)) h
theorem i_vc0 : wpX_init (fun u => wpY_init (fun v => i_Rel 0 u v)) := by
  refine ⟨5, ?_⟩
  rw [← nI_0]
  refine ra_init (by decide) (ra_init (by decide) (ra_init (by decide) (ra_init (by decide) (ra_initE ?_))))
  unfold wpY_init
  rw [ra_c4, ra_b1, nI_0]
  exact nm_e (nm_e (nm_e (nm_e (nm_e (nm_e (nm_e (nm_e ⟨rfl, ra_ok0⟩)))))))
theorem i_vc_k {k : Nat} {u : SX} {v : SY} (I : i_Rel k u v) (hk : k + 3 ≤ 1536) (v1 : Int32) : wpX_k (fun r => wpY_k (fun r' => r' = r ∧ i_Rel (k + 3) u v) v v1) u v1 := by
  obtain ⟨a, c⟩ := u
  obtain ⟨rfl, ok⟩ := I
  obtain ⟨r, hX, hY⟩ := ra_k a c ok v1
  exact hX _ (hY _ ⟨rfl, rfl, ok⟩)
theorem i_vc_codeLen {k : Nat} {u : SX} {v : SY} (I : i_Rel k u v) (hk : k + 3 ≤ 1536) (v1 : Int32) (v2 : Int32) : wpX_codeLen (fun r => wpY_codeLen (fun r' => r' = r ∧ i_Rel (k + 3) u v) v v1 v2) u v1 v2 := by
  obtain ⟨a, c⟩ := u
  obtain ⟨rfl, ok⟩ := I
  obtain ⟨r, hX, hY⟩ := ra_code a c ok v1 v2
  exact hX _ (hY _ ⟨rfl, rfl, ok⟩)
theorem i_vc_update {k : Nat} {u : SX} {v : SY} (I : i_Rel k u v) (hk : k + 3 ≤ 1536) (v1 : Int32) (v2 : Int32) : wpX_update (fun r u' => wpY_update (fun r' v' => r' = r ∧ i_Rel (k + 3) u' v') v v1 v2) u v1 v2 := by
  obtain ⟨a, c⟩ := u
  obtain ⟨rfl, ok⟩ := I
  obtain ⟨r, A, C, hX, hY, ok'⟩ := ra_upd a c ok v1 v2
  exact hX _ (hY _ ⟨rfl, rfl, ok'⟩)
theorem i_vc_cell {k : Nat} {u : SX} {v : SY} (I : i_Rel k u v) (hk : k + 3 ≤ 1536) (v1 : Int32) : wpX_cell (fun r => wpY_cell (fun r' => r' = r ∧ i_Rel (k + 3) u v) v v1) u v1 := by
  obtain ⟨a, c⟩ := u
  obtain ⟨rfl, ok⟩ := I
  obtain ⟨r, hX, hY⟩ := ra_cell a c v1
  exact hX _ (hY _ ⟨rfl, rfl, ok⟩)
