theorem ra_inc {n : Nat} (hn : n < 8) : (nI n + 1).toInt8.toInt32 = nI (n + 1) := by rw [nI_1]; exact ra_by (n + 1) (by omega)
theorem ra_incN {n : Nat} (hn : n < 8) : vp_nar .byte ((nI n + 1).toInt8.toInt32) = nI (n + 1) := by rw [pk_vb]; exact ra_inc hn
theorem ra_half : vp_nar .byte ((nI 8 >>> ((1 : Int32) &&& 31)).toInt8.toInt32) = nI 4 := by rw [pk_vb]; decide +kernel
theorem ra_jX {post : Int32 → SX → Prop} {A C : Nat → Int32} {j n : Nat} (hj : j < 4) (hn : n < 8) (hc : C j = nI n) (hp : post (nI (n + 1)) (A, upd C j (nI (n + 1)))) : wX_update_65 post (nI j) A C := by
  have vi : vp_in (nI j) 4 := vp_in_nI hj (by decide)
  have cl : (nI j).toNatClampNeg = j := nI_clamp (by omega)
  have e : upd C (nI j).toNatClampNeg (vp_nar .byte ((C (nI j).toNatClampNeg + 1).toInt8.toInt32)) = upd C j (nI (n + 1)) := by rw [cl, hc, ra_incN hn]
  refine ⟨vi, vi, nm_r e ⟨vi, ?_⟩⟩
  rw [cl, pk_us]
  exact hp
theorem ra_jY {post : Int32 → SY → Prop} {A C : Nat → Int32} {j n : Nat} (hj : j < 4) (hn : n < 8) (hc : C j = nI n) (hp : post (nI (n + 1)) (A, upd C j (nI (n + 1)))) : wY_update_55 post (nI j) A C := by
  have vi : vp_in (nI j) 4 := vp_in_nI hj (by decide)
  have cl : (nI j).toNatClampNeg = j := nI_clamp (by omega)
  have e : upd C (nI j).toNatClampNeg (vp_nar .byte ((C (nI j).toNatClampNeg + 1).toInt8.toInt32)) = upd C j (nI (n + 1)) := by rw [cl, hc, ra_incN hn]
  refine ⟨vi, vi, nm_r e ?_⟩
  rw [cl, hc, ra_inc hn]
  exact hp
theorem ra_upd (a c : Nat → Int32) (ok : ra_ok a c) (x m : Int32) : ∃ (r : Int32) (A C : Nat → Int32), (∀ post : Int32 → SX → Prop, post r (A, C) → wpX_update post (a, c) x m) ∧ (∀ post : Int32 → SY → Prop, post r (A, C) → wpY_update post (a, c) x m) ∧ ra_ok A C := by
  rcases pk_ix x (n := 4) (by decide) with h | h | ⟨j, hj, rfl⟩
  · refine ⟨-1, a, c, fun post hp => ?_, fun post hp => br_t h hp, ok⟩
    unfold wpX_update
    dsimp only
    exact ra_ctx_lo h (br_t rfl hp)
  · refine ⟨-1, a, c, fun post hp => ?_, fun post hp => br_f (ra_hi h).2.1 (br_f (ra_hi h).1 hp), ok⟩
    unfold wpX_update
    dsimp only
    exact ra_ctx_hi h (br_t rfl hp)
  · obtain ⟨_, ⟨n, h1, h8, hc⟩⟩ := ok j hj
    have vi : vp_in (nI j) 4 := vp_in_nI hj (by decide)
    have cl : (nI j).toNatClampNeg = j := nI_clamp (by omega)
    have ec : c (nI j).toNatClampNeg = nI n := by rw [cl]; exact hc
    obtain ⟨s1, hs1, w1⟩ := ra_w (a (nI j).toNatClampNeg + m)
    have e1 : upd a (nI j).toNatClampNeg (vp_nar .char (((a (nI j).toNatClampNeg + m).toUInt32 % 65536).toInt32)) = upd a j (nI s1) := by rw [w1, cl]
    by_cases h : n = 8
    · subst h
      have e8 : c (nI j).toNatClampNeg = 8 := ec.trans ra_8
      obtain ⟨s2, hs2, w2⟩ := ra_w (upd a j (nI s1) (nI j).toNatClampNeg >>> ((1 : Int32) &&& 31))
      have e2 : upd (upd a j (nI s1)) (nI j).toNatClampNeg (vp_nar .char (((upd a j (nI s1) (nI j).toNatClampNeg >>> ((1 : Int32) &&& 31)).toUInt32 % 65536).toInt32)) = upd (upd a j (nI s1)) j (nI s2) := by rw [w2, cl]
      have e3 : upd c (nI j).toNatClampNeg (vp_nar .byte ((c (nI j).toNatClampNeg >>> ((1 : Int32) &&& 31)).toInt8.toInt32)) = upd c j (nI 4) := by rw [ec, ra_half, cl]
      refine ⟨nI 5, upd (upd a j (nI s1)) j (nI s2), upd (upd c j (nI 4)) j (nI 5), fun post hp => ?_, fun post hp => ?_, ra_okU (ra_okU ok hs1 (by omega) (by omega)) hs2 (by omega) (by omega)⟩
      · unfold wpX_update
        dsimp only
        refine ra_ctx_in hj (br_f ra_10 ⟨vi, vi, nm_r e1 ⟨vi, br_t e8 ⟨vi, vi, nm_r e2 ⟨vi, vi, nm_r e3 ?_⟩⟩⟩⟩)
        exact ra_jX (n := 4) hj (by omega) pk_us hp
      · refine br_f (ra_p0 hj) (br_t (ra_le3 hj) ⟨vi, vi, nm_r e1 ⟨vi, br_t e8 ⟨vi, vi, nm_r e2 ⟨vi, vi, nm_r e3 ?_⟩⟩⟩⟩)
        exact ra_jY (n := 4) hj (by omega) pk_us hp
    · have e8 : ¬ c (nI j).toNatClampNeg = 8 := by
        intro q
        rw [ec, ← ra_8, nI_eq (by omega) (by omega)] at q
        exact h q
      refine ⟨nI (n + 1), upd a j (nI s1), upd c j (nI (n + 1)), fun post hp => ?_, fun post hp => ?_, ra_okU ok hs1 (by omega) (by omega)⟩
      · unfold wpX_update
        dsimp only
        refine ra_ctx_in hj (br_f ra_10 ⟨vi, vi, nm_r e1 ⟨vi, br_f e8 ?_⟩⟩)
        exact ra_jX hj (by omega) hc hp
      · refine br_f (ra_p0 hj) (br_t (ra_le3 hj) ⟨vi, vi, nm_r e1 ⟨vi, br_f e8 ?_⟩⟩)
        exact ra_jY hj (by omega) hc hp
theorem ra_cin : ∀ j, j < 4 → 0 ≤ (nI (j + 4) - 4).toInt ∧ (nI (j + 4) - 4).toInt < 4 := by decide +kernel
theorem ra_cell (a c : Nat → Int32) (x : Int32) : ∃ r : Int32, (∀ post : Int32 → Prop, post r → wpX_cell post (a, c) x) ∧ (∀ post : Int32 → Prop, post r → wpY_cell post (a, c) x) := by
  rcases pk_ix x (n := 4) (by decide) with h | h | ⟨j, hj, rfl⟩
  · have h4 : x < 4 := Int32.lt_trans h (by decide)
    refine ⟨-1, fun post hp => ?_, fun post hp => br_t h hp⟩
    unfold wpX_cell
    dsimp only
    exact ra_ctx_lo h (br_t rfl (br_t h4 hp))
  · obtain ⟨_, g0, g4⟩ := ra_hi h
    obtain ⟨i, hi, rfl⟩ := nI_of g0
    rw [nI_leI (by decide) hi] at h
    have k4 : (4 : Int32) ≤ nI i := nI_le (a := 4) h hi
    by_cases h8 : 8 ≤ i
    · have k8 : (8 : Int32) ≤ nI i := nI_le (a := 8) h8 hi
      have k7 : ¬ nI i ≤ 7 := nI_ge (a := 7) (b := i) (by omega) hi
      refine ⟨-1, fun post hp => ?_, fun post hp => br_f g0 (br_f k7 hp)⟩
      unfold wpX_cell
      dsimp only
      exact ra_ctx_hi k4 (br_t rfl (br_f g4 (br_t k8 hp)))
    · have k8 : ¬ (8 : Int32) ≤ nI i := nI_ge (b := 8) (by omega) (by decide)
      have k7 : nI i ≤ 7 := nI_le (b := 7) (by omega) (by decide)
      have vi : vp_in (nI i - 4) 4 := by
        obtain ⟨d, rfl⟩ : ∃ d, i = d + 4 := ⟨i - 4, by omega⟩
        exact vp_in_iff.mpr (ra_cin d (by omega))
      refine ⟨c (nI i - 4).toNatClampNeg, fun post hp => ?_, fun post hp => br_f g0 (br_t k7 (br_t k4 ⟨vi, hp⟩))⟩
      unfold wpX_cell
      dsimp only
      exact ra_ctx_hi k4 (br_t rfl (br_f g4 (br_f k8 ⟨vi, hp⟩)))
  · have vi : vp_in (nI j) 4 := vp_in_nI hj (by decide)
    have k4 : ¬ (4 : Int32) ≤ nI j := nI_ge (b := 4) hj (by decide)
    have k7 : nI j ≤ 7 := nI_le (b := 7) (by omega) (by decide)
    refine ⟨a (nI j).toNatClampNeg, fun post hp => ?_, fun post hp => br_f (ra_p0 hj) (br_t k7 (br_f k4 ⟨vi, hp⟩))⟩
    unfold wpX_cell
    dsimp only
    exact ra_ctx_in hj (br_f ra_10 ⟨vi, hp⟩)
