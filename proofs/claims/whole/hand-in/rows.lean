section
theorem pk_us {f : Nat → Int32} {k : Nat} {x : Int32} : upd f k x k = x := if_pos rfl
theorem pk_un {f : Nat → Int32} {k j : Nat} {x : Int32} (h : j ≠ k) : upd f k x j = f j := if_neg h
theorem pk_ix (x : Int32) {n : Nat} (hn : n < 2 ^ 31) : x < 0 ∨ nI n ≤ x ∨ ∃ j : Nat, j < n ∧ x = nI j := by
  by_cases h : x < 0
  · exact Or.inl h
  · obtain ⟨j, hj, rfl⟩ := nI_of h
    by_cases h2 : j < n
    · exact Or.inr (Or.inr ⟨j, h2, rfl⟩)
    · exact Or.inr (Or.inl (nI_le (by omega) hj))
theorem pk_tn {n : Nat} (h : n < 2 ^ 32) : (nI n).toBitVec.toNat = n := Nat.mod_eq_of_lt h
theorem pk_shl (a s : Int32) (k : Nat) (hs : (s.toBitVec.smod 32).toNat = k) : (a <<< s).toBitVec.toNat = a.toBitVec.toNat * 2 ^ k % 2 ^ 32 := by
  show (a.toBitVec <<< (s.toBitVec.smod 32).toNat).toNat = _
  rw [hs, BitVec.toNat_shiftLeft, Nat.shiftLeft_eq]
theorem pk_shlN {n : Nat} (s : Int32) (k : Nat) (hs : (s.toBitVec.smod 32).toNat = k) (h : n * 2 ^ k < 2 ^ 32) : nI n <<< s = nI (n * 2 ^ k) := by
  apply Int32.toBitVec_inj.mp
  apply BitVec.eq_of_toNat_eq
  have hn : n < 2 ^ 32 := Nat.lt_of_le_of_lt (Nat.le_mul_of_pos_right n (Nat.two_pow_pos k)) h
  rw [pk_shl _ _ k hs, pk_tn hn, pk_tn h, Nat.mod_eq_of_lt h]
theorem pk_shr (a s : Int32) (k : Nat) (hs : (s.toBitVec.smod 32).toNat = k) : (a >>> s).toInt = a.toInt >>> k := by
  show (a.toBitVec.sshiftRight (s.toBitVec.smod 32).toNat).toInt = _
  rw [hs, BitVec.toInt_sshiftRight]
  rfl
theorem pk_shrN {n : Nat} (h : n < 2 ^ 31) (s : Int32) (k : Nat) (hs : (s.toBitVec.smod 32).toNat = k) : nI n >>> s = nI (n / 2 ^ k) := by
  apply Int32.toInt_inj.mp
  have h2 : n / 2 ^ k ≤ n := Nat.div_le_self _ _
  rw [pk_shr _ _ k hs, nI_toInt h, nI_toInt (by omega), Int.shiftRight_eq_div_pow]
  rfl
theorem pk_charN {q : Nat} (hq : q < 65536) : narrow .char (.int (nI q)) = .int (nI q) ∧ fits .char (.int (nI q)) = true := by
  constructor
  · have e : (nI q).toUInt32.toUInt16.toUInt32.toInt32 = nI q := by
      apply Int32.toBitVec_inj.mp
      apply BitVec.eq_of_toNat_eq
      show (nI q).toUInt32.toUInt16.toUInt32.toNat = q % 2 ^ 32
      rw [UInt16.toNat_toUInt32, UInt32.toNat_toUInt16, show (nI q).toUInt32.toNat = q % 2 ^ 32 from rfl]
      omega
    exact congrArg Value.int e
  · have a : (0 : Int32) ≤ nI q := nI_pos' (by omega)
    have b : nI q ≤ 65535 := nI_le (b := 65535) (by omega) (by decide)
    show (decide ((0 : Int32) ≤ nI q) && decide (nI q ≤ 65535)) = true
    rw [decide_eq_true a, decide_eq_true b]
    rfl
theorem pk_char (x : Int32) : (x.toUInt32 % 65536).toInt32 = nI (x.toBitVec.toNat % 65536) := by
  apply Int32.toBitVec_inj.mp
  apply BitVec.eq_of_toNat_eq
  rw [pk_tn (by omega)]
  show (x.toUInt32 % 65536).toNat = _
  rw [UInt32.toNat_mod]
  rfl
theorem pk_nc (x : Int32) : narrow .char (.int (x.toUInt32 % 65536).toInt32) = .int (x.toUInt32 % 65536).toInt32 := by
  rw [pk_char]
  exact (pk_charN (Nat.mod_lt _ (by decide))).1
theorem pk_vb (z : Int32) : vp_nar .byte z.toInt8.toInt32 = z.toInt8.toInt32 := by rw [vp_nar_byte]; simp
theorem pk_vc (z : Int32) : vp_nar .char (z.toUInt32 % 65536).toInt32 = (z.toUInt32 % 65536).toInt32 := Value.int.inj (pk_nc z)
theorem s_l : ∀ n, n < 32 → ((nI n &&& 31).toBitVec.smod 32).toNat = n := by decide +kernel
theorem ra_shl {n j : Nat} (hn : n ≤ 8) (hj : j ≤ 16) : nI n <<< (nI j &&& 31) = nI (n * 2 ^ j) := by
  have h1 : 2 ^ j ≤ 2 ^ 16 := Nat.pow_le_pow_right (by decide) hj
  have h2 : n * 2 ^ j ≤ 8 * 2 ^ 16 := Nat.mul_le_mul hn h1
  exact pk_shlN _ j (s_l j (by omega)) (by omega)
theorem ra_pw {n j : Nat} (hn : n ≤ 8) (hj : j ≤ 16) : n * 2 ^ j < 2 ^ 31 := by
  have h1 : 2 ^ j ≤ 2 ^ 16 := Nat.pow_le_pow_right (by decide) hj
  have h2 : n * 2 ^ j ≤ 8 * 2 ^ 16 := Nat.mul_le_mul hn h1
  omega
theorem ra_by : ∀ n, n < 128 → (nI n).toInt8.toInt32 = nI n := by decide +kernel
end
section
/-- each context's sum is a char, each count lies in 1 to 8 -/
def ra_ok (a c : Nat → Int32) : Prop := ∀ j, j < 4 → (∃ s, s < 65536 ∧ a j = nI s) ∧ (∃ n, 1 ≤ n ∧ n ≤ 8 ∧ c j = nI n)
theorem ra_okU {a c : Nat → Int32} {j s n : Nat} (ok : ra_ok a c) (hs : s < 65536) (h1 : 1 ≤ n) (h8 : n ≤ 8) : ra_ok (upd a j (nI s)) (upd c j (nI n)) := by
  intro i hi
  by_cases h : i = j
  · subst h
    exact ⟨⟨s, hs, pk_us⟩, ⟨n, h1, h8, pk_us⟩⟩
  · rw [pk_un h, pk_un h]
    exact ok i hi
theorem ra_8 : nI 8 = 8 := by decide +kernel
theorem ra_c4 : vp_nar .char 4 = nI 4 := by rw [vp_nar_char]; decide +kernel
theorem ra_b1 : vp_nar .byte 1 = nI 1 := by rw [vp_nar_byte]; decide +kernel
theorem ra_w (v : Int32) : ∃ w, w < 65536 ∧ vp_nar .char ((v.toUInt32 % 65536).toInt32) = nI w := ⟨v.toBitVec.toNat % 65536, Nat.mod_lt _ (by decide), by rw [pk_vc, pk_char]⟩
theorem ra_hi {x : Int32} (h : nI 4 ≤ x) : (¬ x ≤ 3) ∧ (¬ x < 0) ∧ (¬ x < 4) := by
  have e4 : (nI 4).toInt = 4 := nI_toInt (by decide)
  have f4 : (4 : Int32).toInt = 4 := by decide
  have e3 : (3 : Int32).toInt = 3 := by decide
  have e0 : (0 : Int32).toInt = 0 := by decide
  rw [Int32.le_iff_toInt_le, e4] at h
  rw [Int32.le_iff_toInt_le, Int32.lt_iff_toInt_lt, Int32.lt_iff_toInt_lt, e3, e0, f4]
  omega
theorem ra_ctx_lo {post : Int32 → Prop} {p0 : Int32} (h : p0 < 0) (hp : post 0) : wpX_isContext post p0 := br_t h hp
theorem ra_ctx_hi {post : Int32 → Prop} {p0 : Int32} (h : nI 4 ≤ p0) (hp : post 0) : wpX_isContext post p0 := br_f (ra_hi h).2.1 (br_t h hp)
theorem ra_ctx_in {post : Int32 → Prop} {j : Nat} (hj : j < 4) (hp : post 1) : wpX_isContext post (nI j) := br_f (nI_pos (by omega)) (br_f (nI_ge (b := 4) hj (by decide)) hp)
theorem ra_10 : ¬ (1 : Int32) = 0 := by decide
theorem ra_le3 {j : Nat} (hj : j < 4) : nI j ≤ 3 := nI_le (b := 3) (by omega) (by decide)
theorem ra_p0 {j : Nat} (hj : j < 4) : ¬ nI j < 0 := nI_pos (by omega)
end
section
theorem ra_scan (a c : Nat → Int32) {i s n : Nat} (hi : i < 4) (hs : s < 65536) (ha : a i = nI s) (h1 : 1 ≤ n) (h8 : n ≤ 8) (hc : c i = nI n) : ∀ d j : Nat, j + d = 16 → ∃ r : Int32, (∀ post : Int32 → Prop, post r → wX_k_26 post (nI s) (nI n) a c (d + 1) (nI j)) ∧ (∀ post : Int32 → Prop, post r → wY_k_13 post (nI i) a c (d + 1) (nI j)) := by
  have vi : vp_in (nI i) 4 := vp_in_nI hi (by decide)
  have ea : a (nI i).toNatClampNeg = nI s := by rw [nI_clamp (by omega)]; exact ha
  have ec : c (nI i).toNatClampNeg = nI n := by rw [nI_clamp (by omega)]; exact hc
  have hY : ∀ j : Nat, j ≤ 16 → (a (nI i).toNatClampNeg ≤ c (nI i).toNatClampNeg <<< (nI j &&& 31) ↔ s ≤ n * 2 ^ j) := by
    intro j hj
    rw [ea, ec, ra_shl h8 hj]
    exact nI_leI (by omega) (ra_pw h8 hj)
  have hX : ∀ j : Nat, j ≤ 16 → (nI n <<< (nI j &&& 31) < nI s ↔ n * 2 ^ j < s) := by
    intro j hj
    rw [ra_shl h8 hj]
    exact nI_ltI (ra_pw h8 hj) (by omega)
  intro d
  induction d with
  | zero =>
    intro j hj
    have hj : j = 16 := by omega
    subst hj
    have z : s ≤ n * 2 ^ 16 := by omega
    exact ⟨nI 16, fun post hp => br_t (nI_le (a := 16) (b := 16) (by omega) (by decide)) hp, fun post hp => ⟨vi, vi, br_t ((hY 16 (by omega)).mpr z) hp⟩⟩
  | succ d ih =>
    intro j hj
    have h : ¬ (16 : Int32) ≤ nI j := nI_ge (b := 16) (by omega) (by decide)
    by_cases z : s ≤ n * 2 ^ j
    · have zx : ¬ nI n <<< (nI j &&& 31) < nI s := fun q => by
        have q2 := (hX j (by omega)).mp q
        omega
      exact ⟨nI j, fun post hp => br_f h (br_f zx hp), fun post hp => ⟨vi, vi, br_t ((hY j (by omega)).mpr z) hp⟩⟩
    · have zx : nI n <<< (nI j &&& 31) < nI s := (hX j (by omega)).mpr (by omega)
      have zy : ¬ a (nI i).toNatClampNeg ≤ c (nI i).toNatClampNeg <<< (nI j &&& 31) := fun q => z ((hY j (by omega)).mp q)
      obtain ⟨r, gX, gY⟩ := ih (j + 1) (by omega)
      exact ⟨r, fun post hp => br_f h (br_t zx (nm_r (nI_1 j) (gX post hp))), fun post hp => ⟨vi, vi, br_f zy (nm_r (nI_1 j) (gY post hp))⟩⟩
theorem ra_k (a c : Nat → Int32) (ok : ra_ok a c) (x : Int32) : ∃ r : Int32, (∀ post : Int32 → Prop, post r → wpX_k post (a, c) x) ∧ (∀ post : Int32 → Prop, post r → wpY_k post (a, c) x) := by
  rcases pk_ix x (n := 4) (by decide) with h | h | ⟨j, hj, rfl⟩
  · refine ⟨-1, fun post hp => ?_, fun post hp => br_t h hp⟩
    unfold wpX_k
    dsimp only
    exact ra_ctx_lo h (br_t rfl hp)
  · refine ⟨-1, fun post hp => ?_, fun post hp => br_f (ra_hi h).2.1 (br_f (ra_hi h).1 hp)⟩
    unfold wpX_k
    dsimp only
    exact ra_ctx_hi h (br_t rfl hp)
  · obtain ⟨⟨s, hs, ha⟩, ⟨n, h1, h8, hc⟩⟩ := ok j hj
    have vi : vp_in (nI j) 4 := vp_in_nI hj (by decide)
    have ea : a (nI j).toNatClampNeg = nI s := by rw [nI_clamp (by omega)]; exact ha
    have ec : c (nI j).toNatClampNeg = nI n := by rw [nI_clamp (by omega)]; exact hc
    obtain ⟨r, gX, gY⟩ := ra_scan a c hj hs ha h1 h8 hc 16 0 rfl
    rw [nI_0] at gX gY
    refine ⟨r, fun post hp => ?_, fun post hp => br_f (ra_p0 hj) (br_t (ra_le3 hj) ⟨_, gY post hp⟩)⟩
    unfold wpX_k
    dsimp only
    exact ra_ctx_in hj (br_f ra_10 ⟨vi, nm_r ea ⟨vi, nm_r ec ⟨_, gX post hp⟩⟩⟩)
theorem ra_code (a c : Nat → Int32) (ok : ra_ok a c) (x m : Int32) : ∃ r : Int32, (∀ post : Int32 → Prop, post r → wpX_codeLen post (a, c) x m) ∧ (∀ post : Int32 → Prop, post r → wpY_codeLen post (a, c) x m) := by
  rcases pk_ix x (n := 4) (by decide) with h | h | ⟨j, hj, rfl⟩
  · refine ⟨-1, fun post hp => ?_, fun post hp => br_t h hp⟩
    unfold wpX_codeLen
    dsimp only
    exact ra_ctx_lo h (br_t rfl hp)
  · refine ⟨-1, fun post hp => ?_, fun post hp => br_f (ra_hi h).2.1 (br_f (ra_hi h).1 hp)⟩
    unfold wpX_codeLen
    dsimp only
    exact ra_ctx_hi h (br_t rfl hp)
  · obtain ⟨r, gX, gY⟩ := ra_k a c ok (nI j)
    have go : ∃ w : Int32, ∀ post : Int32 → Prop, post w → ∀ y : Int32, y = (m.toUInt32 >>> (r.toUInt32 &&& Int32.toUInt32 31)).toInt32 → ((y < 0 → post 32) ∧ (¬ y < 0 → ((y ≤ (31 - r) → post ((y + 1) + r)) ∧ (¬ y ≤ (31 - r) → post 32)))) := by
      generalize (m.toUInt32 >>> (r.toUInt32 &&& Int32.toUInt32 31)).toInt32 = q
      by_cases h0 : q < 0
      · exact ⟨32, fun post hp => nm_e (br_t h0 hp)⟩
      · by_cases h1 : q ≤ 31 - r
        · exact ⟨(q + 1) + r, fun post hp => nm_e (br_f h0 (br_t h1 hp))⟩
        · exact ⟨32, fun post hp => nm_e (br_f h0 (br_f h1 hp))⟩
    obtain ⟨w, hw⟩ := go
    refine ⟨w, fun post hp => ?_, fun post hp => br_f (ra_p0 hj) (br_t (ra_le3 hj) (gY _ (hw post hp)))⟩
    unfold wpX_codeLen
    dsimp only
    exact ra_ctx_in hj (br_f ra_10 (gX _ (hw post hp)))
end
section
theorem ra_inc {n : Nat} (hn : n < 8) : (nI n + 1).toInt8.toInt32 = nI (n + 1) := by rw [nI_1]; exact ra_by (n + 1) (by omega)
theorem ra_incN {n : Nat} (hn : n < 8) : vp_nar .byte ((nI n + 1).toInt8.toInt32) = nI (n + 1) := by rw [pk_vb]; exact ra_inc hn
theorem ra_half : vp_nar .byte ((nI 8 >>> ((1 : Int32) &&& 31)).toInt8.toInt32) = nI 4 := by rw [pk_vb]; decide +kernel
theorem ra_jX {post : Int32 → SX → Prop} {A C : Nat → Int32} {j n : Nat} (hj : j < 4) (hn : n < 8) (hc : C j = nI n) (hp : post (nI (n + 1)) (A, upd C j (nI (n + 1)))) : wX_update_65 post (nI j) A C := by
  have vi : vp_in (nI j) 4 := vp_in_nI hj (by decide)
  have cl : (nI j).toNatClampNeg = j := nI_clamp (by omega)
  have e : upd C (nI j).toNatClampNeg (vp_nar .byte ((C (nI j).toNatClampNeg + 1).toInt8.toInt32)) = upd C j (nI (n + 1)) := by rw [cl, hc, ra_incN hn]
  refine ⟨vi, vi, nm_r e ⟨vi, ?_⟩⟩
  rw [cl, pk_us]
  exact hp
theorem ra_jY {post : Int32 → SY → Prop} {A C : Nat → Int32} {j n : Nat} (hj : j < 4) (hn : n < 8) (hc : C j = nI n) (hp : post (nI (n + 1)) (A, upd C j (nI (n + 1)))) : wY_update_55 post (nI j) A C := by
  have vi : vp_in (nI j) 4 := vp_in_nI hj (by decide)
  have cl : (nI j).toNatClampNeg = j := nI_clamp (by omega)
  have e : upd C (nI j).toNatClampNeg (vp_nar .byte ((C (nI j).toNatClampNeg + 1).toInt8.toInt32)) = upd C j (nI (n + 1)) := by rw [cl, hc, ra_incN hn]
  refine ⟨vi, vi, nm_r e ?_⟩
  rw [cl, hc, ra_inc hn]
  exact hp
theorem ra_upd (a c : Nat → Int32) (ok : ra_ok a c) (x m : Int32) : ∃ (r : Int32) (A C : Nat → Int32), (∀ post : Int32 → SX → Prop, post r (A, C) → wpX_update post (a, c) x m) ∧ (∀ post : Int32 → SY → Prop, post r (A, C) → wpY_update post (a, c) x m) ∧ ra_ok A C := by
  rcases pk_ix x (n := 4) (by decide) with h | h | ⟨j, hj, rfl⟩
  · refine ⟨-1, a, c, fun post hp => ?_, fun post hp => br_t h hp, ok⟩
    unfold wpX_update
    dsimp only
    exact ra_ctx_lo h (br_t rfl hp)
  · refine ⟨-1, a, c, fun post hp => ?_, fun post hp => br_f (ra_hi h).2.1 (br_f (ra_hi h).1 hp), ok⟩
    unfold wpX_update
    dsimp only
    exact ra_ctx_hi h (br_t rfl hp)
  · obtain ⟨_, ⟨n, h1, h8, hc⟩⟩ := ok j hj
    have vi : vp_in (nI j) 4 := vp_in_nI hj (by decide)
    have cl : (nI j).toNatClampNeg = j := nI_clamp (by omega)
    have ec : c (nI j).toNatClampNeg = nI n := by rw [cl]; exact hc
    obtain ⟨s1, hs1, w1⟩ := ra_w (a (nI j).toNatClampNeg + m)
    have e1 : upd a (nI j).toNatClampNeg (vp_nar .char (((a (nI j).toNatClampNeg + m).toUInt32 % 65536).toInt32)) = upd a j (nI s1) := by rw [w1, cl]
    by_cases h : n = 8
    · subst h
      have e8 : c (nI j).toNatClampNeg = 8 := ec.trans ra_8
      obtain ⟨s2, hs2, w2⟩ := ra_w (upd a j (nI s1) (nI j).toNatClampNeg >>> ((1 : Int32) &&& 31))
      have e2 : upd (upd a j (nI s1)) (nI j).toNatClampNeg (vp_nar .char (((upd a j (nI s1) (nI j).toNatClampNeg >>> ((1 : Int32) &&& 31)).toUInt32 % 65536).toInt32)) = upd (upd a j (nI s1)) j (nI s2) := by rw [w2, cl]
      have e3 : upd c (nI j).toNatClampNeg (vp_nar .byte ((c (nI j).toNatClampNeg >>> ((1 : Int32) &&& 31)).toInt8.toInt32)) = upd c j (nI 4) := by rw [ec, ra_half, cl]
      refine ⟨nI 5, upd (upd a j (nI s1)) j (nI s2), upd (upd c j (nI 4)) j (nI 5), fun post hp => ?_, fun post hp => ?_, ra_okU (ra_okU ok hs1 (by omega) (by omega)) hs2 (by omega) (by omega)⟩
      · unfold wpX_update
        dsimp only
        refine ra_ctx_in hj (br_f ra_10 ⟨vi, vi, nm_r e1 ⟨vi, br_t e8 ⟨vi, vi, nm_r e2 ⟨vi, vi, nm_r e3 ?_⟩⟩⟩⟩)
        exact ra_jX (n := 4) hj (by omega) pk_us hp
      · refine br_f (ra_p0 hj) (br_t (ra_le3 hj) ⟨vi, vi, nm_r e1 ⟨vi, br_t e8 ⟨vi, vi, nm_r e2 ⟨vi, vi, nm_r e3 ?_⟩⟩⟩⟩)
        exact ra_jY (n := 4) hj (by omega) pk_us hp
    · have e8 : ¬ c (nI j).toNatClampNeg = 8 := by
        intro q
        rw [ec, ← ra_8, nI_eq (by omega) (by omega)] at q
        exact h q
      refine ⟨nI (n + 1), upd a j (nI s1), upd c j (nI (n + 1)), fun post hp => ?_, fun post hp => ?_, ra_okU ok hs1 (by omega) (by omega)⟩
      · unfold wpX_update
        dsimp only
        refine ra_ctx_in hj (br_f ra_10 ⟨vi, vi, nm_r e1 ⟨vi, br_f e8 ?_⟩⟩)
        exact ra_jX hj (by omega) hc hp
      · refine br_f (ra_p0 hj) (br_t (ra_le3 hj) ⟨vi, vi, nm_r e1 ⟨vi, br_f e8 ?_⟩⟩)
        exact ra_jY hj (by omega) hc hp
theorem ra_cin : ∀ j, j < 4 → 0 ≤ (nI (j + 4) - 4).toInt ∧ (nI (j + 4) - 4).toInt < 4 := by decide +kernel
theorem ra_cell (a c : Nat → Int32) (x : Int32) : ∃ r : Int32, (∀ post : Int32 → Prop, post r → wpX_cell post (a, c) x) ∧ (∀ post : Int32 → Prop, post r → wpY_cell post (a, c) x) := by
  rcases pk_ix x (n := 4) (by decide) with h | h | ⟨j, hj, rfl⟩
  · have h4 : x < 4 := Int32.lt_trans h (by decide)
    refine ⟨-1, fun post hp => ?_, fun post hp => br_t h hp⟩
    unfold wpX_cell
    dsimp only
    exact ra_ctx_lo h (br_t rfl (br_t h4 hp))
  · obtain ⟨_, g0, g4⟩ := ra_hi h
    obtain ⟨i, hi, rfl⟩ := nI_of g0
    rw [nI_leI (by decide) hi] at h
    have k4 : (4 : Int32) ≤ nI i := nI_le (a := 4) h hi
    by_cases h8 : 8 ≤ i
    · have k8 : (8 : Int32) ≤ nI i := nI_le (a := 8) h8 hi
      have k7 : ¬ nI i ≤ 7 := nI_ge (a := 7) (b := i) (by omega) hi
      refine ⟨-1, fun post hp => ?_, fun post hp => br_f g0 (br_f k7 hp)⟩
      unfold wpX_cell
      dsimp only
      exact ra_ctx_hi k4 (br_t rfl (br_f g4 (br_t k8 hp)))
    · have k8 : ¬ (8 : Int32) ≤ nI i := nI_ge (b := 8) (by omega) (by decide)
      have k7 : nI i ≤ 7 := nI_le (b := 7) (by omega) (by decide)
      have vi : vp_in (nI i - 4) 4 := by
        obtain ⟨d, rfl⟩ : ∃ d, i = d + 4 := ⟨i - 4, by omega⟩
        exact vp_in_iff.mpr (ra_cin d (by omega))
      refine ⟨c (nI i - 4).toNatClampNeg, fun post hp => ?_, fun post hp => br_f g0 (br_t k7 (br_t k4 ⟨vi, hp⟩))⟩
      unfold wpX_cell
      dsimp only
      exact ra_ctx_hi k4 (br_t rfl (br_f g4 (br_f k8 ⟨vi, hp⟩)))
  · have vi : vp_in (nI j) 4 := vp_in_nI hj (by decide)
    have k4 : ¬ (4 : Int32) ≤ nI j := nI_ge (b := 4) hj (by decide)
    have k7 : nI j ≤ 7 := nI_le (b := 7) (by omega) (by decide)
    refine ⟨a (nI j).toNatClampNeg, fun post hp => ?_, fun post hp => br_f (ra_p0 hj) (br_t k7 (br_f k4 ⟨vi, hp⟩))⟩
    unfold wpX_cell
    dsimp only
    exact ra_ctx_in hj (br_f ra_10 ⟨vi, hp⟩)
end
section
/-- both sides keep the same two arrays, within their ranges -/
def i_Rel (k : Nat) (u : SX) (v : SY) : Prop := v = u ∧ ra_ok u.1 u.2
theorem i_up {k : Nat} {u : SX} {v : SY} (h : i_Rel k u v) : i_Rel (k + 3) u v := h
theorem ra_ok0 : ra_ok (upd (upd (upd (upd (fun _ => 0) 0 (nI 4)) 1 (nI 4)) 2 (nI 4)) 3 (nI 4)) (upd (upd (upd (upd (fun _ => 0) 0 (nI 1)) 1 (nI 1)) 2 (nI 1)) 3 (nI 1)) := by
  intro j hj
  have h : j = 0 ∨ j = 1 ∨ j = 2 ∨ j = 3 := by omega
  rcases h with rfl | rfl | rfl | rfl
  · exact ⟨⟨4, by decide, rfl⟩, ⟨1, by decide, by decide, rfl⟩⟩
  · exact ⟨⟨4, by decide, rfl⟩, ⟨1, by decide, by decide, rfl⟩⟩
  · exact ⟨⟨4, by decide, rfl⟩, ⟨1, by decide, by decide, rfl⟩⟩
  · exact ⟨⟨4, by decide, rfl⟩, ⟨1, by decide, by decide, rfl⟩⟩
theorem ra_init {post : SX → Prop} {n j : Nat} {A C : Nat → Int32} (hj : j < 4) (h : wX_init_20 post n (nI (j + 1)) (upd A j (nI 4)) (upd C j (nI 1))) : wX_init_20 post (n + 1) (nI j) A C := by
  have vi : vp_in (nI j) 4 := vp_in_nI hj (by decide)
  have cl : (nI j).toNatClampNeg = j := nI_clamp (by omega)
  have k4 : ¬ (4 : Int32) ≤ nI j := nI_ge (b := 4) hj (by decide)
  have e1 : upd A (nI j).toNatClampNeg (vp_nar .char 4) = upd A j (nI 4) := by rw [cl, ra_c4]
  have e2 : upd C (nI j).toNatClampNeg (vp_nar .byte 1) = upd C j (nI 1) := by rw [cl, ra_b1]
  exact br_f k4 ⟨vi, nm_r e1 ⟨vi, nm_r e2 (nm_r (nI_1 j) h)⟩⟩
theorem ra_initE {post : SX → Prop} {A C : Nat → Int32} (h : post (A, C)) : wX_init_20 post 1 (nI 4) A C := br_t (nI_le (a := 4) (b := 4) (by omega) (by decide)) h
theorem i_vc0 : wpX_init (fun u => wpY_init (fun v => i_Rel 0 u v)) := by
  refine ⟨5, ?_⟩
  rw [← nI_0]
  refine ra_init (by decide) (ra_init (by decide) (ra_init (by decide) (ra_init (by decide) (ra_initE ?_))))
  unfold wpY_init
  rw [ra_c4, ra_b1, nI_0]
  exact nm_e (nm_e (nm_e (nm_e (nm_e (nm_e (nm_e (nm_e ⟨rfl, ra_ok0⟩)))))))
theorem i_vc_k {k : Nat} {u : SX} {v : SY} (I : i_Rel k u v) (hk : k + 3 ≤ 1536) (v1 : Int32) : wpX_k (fun r => wpY_k (fun r' => r' = r ∧ i_Rel (k + 3) u v) v v1) u v1 := by
  obtain ⟨a, c⟩ := u
  obtain ⟨rfl, ok⟩ := I
  obtain ⟨r, hX, hY⟩ := ra_k a c ok v1
  exact hX _ (hY _ ⟨rfl, rfl, ok⟩)
theorem i_vc_codeLen {k : Nat} {u : SX} {v : SY} (I : i_Rel k u v) (hk : k + 3 ≤ 1536) (v1 : Int32) (v2 : Int32) : wpX_codeLen (fun r => wpY_codeLen (fun r' => r' = r ∧ i_Rel (k + 3) u v) v v1 v2) u v1 v2 := by
  obtain ⟨a, c⟩ := u
  obtain ⟨rfl, ok⟩ := I
  obtain ⟨r, hX, hY⟩ := ra_code a c ok v1 v2
  exact hX _ (hY _ ⟨rfl, rfl, ok⟩)
theorem i_vc_update {k : Nat} {u : SX} {v : SY} (I : i_Rel k u v) (hk : k + 3 ≤ 1536) (v1 : Int32) (v2 : Int32) : wpX_update (fun r u' => wpY_update (fun r' v' => r' = r ∧ i_Rel (k + 3) u' v') v v1 v2) u v1 v2 := by
  obtain ⟨a, c⟩ := u
  obtain ⟨rfl, ok⟩ := I
  obtain ⟨r, A, C, hX, hY, ok'⟩ := ra_upd a c ok v1 v2
  exact hX _ (hY _ ⟨rfl, rfl, ok'⟩)
theorem i_vc_cell {k : Nat} {u : SX} {v : SY} (I : i_Rel k u v) (hk : k + 3 ≤ 1536) (v1 : Int32) : wpX_cell (fun r => wpY_cell (fun r' => r' = r ∧ i_Rel (k + 3) u v) v v1) u v1 := by
  obtain ⟨a, c⟩ := u
  obtain ⟨rfl, ok⟩ := I
  obtain ⟨r, hX, hY⟩ := ra_cell a c v1
  exact hX _ (hY _ ⟨rfl, rfl, ok⟩)
end
