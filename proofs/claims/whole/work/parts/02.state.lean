/-- each context's sum is a char, each count lies in 1 to 8 -/
def ra_ok (a c : Nat → Int32) : Prop := ∀ j, j < 4 → (∃ s, s < 65536 ∧ a j = nI s) ∧ (∃ n, 1 ≤ n ∧ n ≤ 8 ∧ c j = nI n)
theorem ra_okU {a c : Nat → Int32} {j s n : Nat} (ok : ra_ok a c) (hs : s < 65536) (h1 : 1 ≤ n) (h8 : n ≤ 8) : ra_ok (upd a j (nI s)) (upd c j (nI n)) := by
  intro i hi
  by_cases h : i = j
  · subst h
    exact ⟨⟨s, hs, pk_us⟩, ⟨n, h1, h8, pk_us⟩⟩
  · rw [pk_un h, pk_un h]
    exact ok i hi
theorem ra_8 : nI 8 = 8 := by decide +kernel
theorem ra_c4 : vp_nar .char 4 = nI 4 := by rw [vp_nar_char]; decide +kernel
theorem ra_b1 : vp_nar .byte 1 = nI 1 := by rw [vp_nar_byte]; decide +kernel
theorem ra_w (v : Int32) : ∃ w, w < 65536 ∧ vp_nar .char ((v.toUInt32 % 65536).toInt32) = nI w := ⟨v.toBitVec.toNat % 65536, Nat.mod_lt _ (by decide), by rw [pk_vc, pk_char]⟩
theorem ra_hi {x : Int32} (h : nI 4 ≤ x) : (¬ x ≤ 3) ∧ (¬ x < 0) ∧ (¬ x < 4) := by
  have e4 : (nI 4).toInt = 4 := nI_toInt (by decide)
  have f4 : (4 : Int32).toInt = 4 := by decide
  have e3 : (3 : Int32).toInt = 3 := by decide
  have e0 : (0 : Int32).toInt = 0 := by decide
  rw [Int32.le_iff_toInt_le, e4] at h
  rw [Int32.le_iff_toInt_le, Int32.lt_iff_toInt_lt, Int32.lt_iff_toInt_lt, e3, e0, f4]
  omega
theorem ra_ctx_lo {post : Int32 → Prop} {p0 : Int32} (h : p0 < 0) (hp : post 0) : wpX_isContext post p0 := br_t h hp
theorem ra_ctx_hi {post : Int32 → Prop} {p0 : Int32} (h : nI 4 ≤ p0) (hp : post 0) : wpX_isContext post p0 := br_f (ra_hi h).2.1 (br_t h hp)
theorem ra_ctx_in {post : Int32 → Prop} {j : Nat} (hj : j < 4) (hp : post 1) : wpX_isContext post (nI j) := br_f (nI_pos (by omega)) (br_f (nI_ge (b := 4) hj (by decide)) hp)
theorem ra_10 : ¬ (1 : Int32) = 0 := by decide
theorem ra_le3 {j : Nat} (hj : j < 4) : nI j ≤ 3 := nI_le (b := 3) (by omega) (by decide)
theorem ra_p0 {j : Nat} (hj : j < 4) : ¬ nI j < 0 := nI_pos (by omega)
