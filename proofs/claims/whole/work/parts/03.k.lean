theorem ra_scan (a c : Nat → Int32) {i s n : Nat} (hi : i < 4) (hs : s < 65536) (ha : a i = nI s) (h1 : 1 ≤ n) (h8 : n ≤ 8) (hc : c i = nI n) : ∀ d j : Nat, j + d = 16 → ∃ r : Int32, (∀ post : Int32 → Prop, post r → wX_k_26 post (nI s) (nI n) a c (d + 1) (nI j)) ∧ (∀ post : Int32 → Prop, post r → wY_k_13 post (nI i) a c (d + 1) (nI j)) := by
  have vi : vp_in (nI i) 4 := vp_in_nI hi (by decide)
  have ea : a (nI i).toNatClampNeg = nI s := by rw [nI_clamp (by omega)]; exact ha
  have ec : c (nI i).toNatClampNeg = nI n := by rw [nI_clamp (by omega)]; exact hc
  have hY : ∀ j : Nat, j ≤ 16 → (a (nI i).toNatClampNeg ≤ c (nI i).toNatClampNeg <<< (nI j &&& 31) ↔ s ≤ n * 2 ^ j) := by
    intro j hj
    rw [ea, ec, ra_shl h8 hj]
    exact nI_leI (by omega) (ra_pw h8 hj)
  have hX : ∀ j : Nat, j ≤ 16 → (nI n <<< (nI j &&& 31) < nI s ↔ n * 2 ^ j < s) := by
    intro j hj
    rw [ra_shl h8 hj]
    exact nI_ltI (ra_pw h8 hj) (by omega)
  intro d
  induction d with
  | zero =>
    intro j hj
    have hj : j = 16 := by omega
    subst hj
    have z : s ≤ n * 2 ^ 16 := by omega
    exact ⟨nI 16, fun post hp => br_t (nI_le (a := 16) (b := 16) (by omega) (by decide)) hp, fun post hp => ⟨vi, vi, br_t ((hY 16 (by omega)).mpr z) hp⟩⟩
  | succ d ih =>
    intro j hj
    have h : ¬ (16 : Int32) ≤ nI j := nI_ge (b := 16) (by omega) (by decide)
    by_cases z : s ≤ n * 2 ^ j
    · have zx : ¬ nI n <<< (nI j &&& 31) < nI s := fun q => by
        have q2 := (hX j (by omega)).mp q
        omega
      exact ⟨nI j, fun post hp => br_f h (br_f zx hp), fun post hp => ⟨vi, vi, br_t ((hY j (by omega)).mpr z) hp⟩⟩
    · have zx : nI n <<< (nI j &&& 31) < nI s := (hX j (by omega)).mpr (by omega)
      have zy : ¬ a (nI i).toNatClampNeg ≤ c (nI i).toNatClampNeg <<< (nI j &&& 31) := fun q => z ((hY j (by omega)).mp q)
      obtain ⟨r, gX, gY⟩ := ih (j + 1) (by omega)
      exact ⟨r, fun post hp => br_f h (br_t zx (nm_r (nI_1 j) (gX post hp))), fun post hp => ⟨vi, vi, br_f zy (nm_r (nI_1 j) (gY post hp))⟩⟩
theorem ra_k (a c : Nat → Int32) (ok : ra_ok a c) (x : Int32) : ∃ r : Int32, (∀ post : Int32 → Prop, post r → wpX_k post (a, c) x) ∧ (∀ post : Int32 → Prop, post r → wpY_k post (a, c) x) := by
  rcases pk_ix x (n := 4) (by decide) with h | h | ⟨j, hj, rfl⟩
  · refine ⟨-1, fun post hp => ?_, fun post hp => br_t h hp⟩
    unfold wpX_k
    dsimp only
    exact ra_ctx_lo h (br_t rfl hp)
  · refine ⟨-1, fun post hp => ?_, fun post hp => br_f (ra_hi h).2.1 (br_f (ra_hi h).1 hp)⟩
    unfold wpX_k
    dsimp only
    exact ra_ctx_hi h (br_t rfl hp)
  · obtain ⟨⟨s, hs, ha⟩, ⟨n, h1, h8, hc⟩⟩ := ok j hj
    have vi : vp_in (nI j) 4 := vp_in_nI hj (by decide)
    have ea : a (nI j).toNatClampNeg = nI s := by rw [nI_clamp (by omega)]; exact ha
    have ec : c (nI j).toNatClampNeg = nI n := by rw [nI_clamp (by omega)]; exact hc
    obtain ⟨r, gX, gY⟩ := ra_scan a c hj hs ha h1 h8 hc 16 0 rfl
    rw [nI_0] at gX gY
    refine ⟨r, fun post hp => ?_, fun post hp => br_f (ra_p0 hj) (br_t (ra_le3 hj) ⟨_, gY post hp⟩)⟩
    unfold wpX_k
    dsimp only
    exact ra_ctx_in hj (br_f ra_10 ⟨vi, nm_r ea ⟨vi, nm_r ec ⟨_, gX post hp⟩⟩⟩)
theorem ra_code (a c : Nat → Int32) (ok : ra_ok a c) (x m : Int32) : ∃ r : Int32, (∀ post : Int32 → Prop, post r → wpX_codeLen post (a, c) x m) ∧ (∀ post : Int32 → Prop, post r → wpY_codeLen post (a, c) x m) := by
  rcases pk_ix x (n := 4) (by decide) with h | h | ⟨j, hj, rfl⟩
  · refine ⟨-1, fun post hp => ?_, fun post hp => br_t h hp⟩
    unfold wpX_codeLen
    dsimp only
    exact ra_ctx_lo h (br_t rfl hp)
  · refine ⟨-1, fun post hp => ?_, fun post hp => br_f (ra_hi h).2.1 (br_f (ra_hi h).1 hp)⟩
    unfold wpX_codeLen
    dsimp only
    exact ra_ctx_hi h (br_t rfl hp)
  · obtain ⟨r, gX, gY⟩ := ra_k a c ok (nI j)
    have go : ∃ w : Int32, ∀ post : Int32 → Prop, post w → ∀ y : Int32, y = (m.toUInt32 >>> (r.toUInt32 &&& Int32.toUInt32 31)).toInt32 → ((y < 0 → post 32) ∧ (¬ y < 0 → ((y ≤ (31 - r) → post ((y + 1) + r)) ∧ (¬ y ≤ (31 - r) → post 32)))) := by
      generalize (m.toUInt32 >>> (r.toUInt32 &&& Int32.toUInt32 31)).toInt32 = q
      by_cases h0 : q < 0
      · exact ⟨32, fun post hp => nm_e (br_t h0 hp)⟩
      · by_cases h1 : q ≤ 31 - r
        · exact ⟨(q + 1) + r, fun post hp => nm_e (br_f h0 (br_t h1 hp))⟩
        · exact ⟨32, fun post hp => nm_e (br_f h0 (br_f h1 hp))⟩
    obtain ⟨w, hw⟩ := go
    refine ⟨w, fun post hp => ?_, fun post hp => br_f (ra_p0 hj) (br_t (ra_le3 hj) (gY _ (hw post hp)))⟩
    unfold wpX_codeLen
    dsimp only
    exact ra_ctx_in hj (br_f ra_10 (gX _ (hw post hp)))
