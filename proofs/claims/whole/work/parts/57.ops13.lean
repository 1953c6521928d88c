/-! image, back: the reference -/
theorem ad3 (a j : Nat) {x : Int32} (hx : x = nI a) : x + nI j = nI (a + j) := by rw [hx, nI_add]
theorem m_i7 (j : Nat) (σ : Mem) (hj : j < 3) : am_go CX10_image 7 [.ref 160, .int (nI j)] [] σ = am_go CX10_image 7 [.ref 160, .int (nI (j + 1))] [] (im2 j σ) := by
  rw [blX10_image_7, if_neg (show ¬ (3 : Int32) ≤ nI j from nI_ge (b := 3) hj (by decide)), rf160_0, rf160_1, rf160_41, ad3 (x := 3) 3 j rfl, oc m9, oc m9, xi hj sh161, xi (show j < 160 by omega) sh184, oc m9, oc m9, xi hj sh162, xi (show 3 + j < 160 by omega) sh184, cl j (by omega), cl (3 + j) (by omega), nI_1, sM_a (show 162 ≠ 184 by decide)]
  rfl
theorem m_i46 (j : Nat) (σ : Mem) (hj : j < 8) : am_go CX10_image 46 [.ref 160, .int (nI j)] [] σ = am_go CX10_image 46 [.ref 160, .int (nI (j + 1))] [] (im5 j σ) := by
  rw [blX10_image_46, if_neg (show ¬ (8 : Int32) ≤ nI j from nI_ge (b := 8) hj (by decide))]
  simp only [rf160_3, rf160_4, rf160_5, rf160_6, rf160_7, rf160_41, sM_a (show 164 ≠ 184 by decide), sM_a (show 165 ≠ 184 by decide), sM_a (show 166 ≠ 184 by decide), sM_a (show 167 ≠ 184 by decide), ad3 (x := 6) 6 j rfl, ad3 (x := 14) 14 j rfl, ad3 (x := 22) 22 j rfl, ad3 (x := 30) 30 j rfl, ad3 (x := 38) 38 j rfl, oc m9]
  rw [xi hj sh163, xi (show 6 + j < 160 by omega) sh184, xi hj sh164, xi (show 14 + j < 160 by omega) sh184, xi hj sh165, xi (show 22 + j < 160 by omega) sh184, xi hj sh166, xi (show 30 + j < 160 by omega) sh184, xi hj sh167, xi (show 38 + j < 160 by omega) sh184, cl j (by omega), cl (6 + j) (by omega), cl (14 + j) (by omega), cl (22 + j) (by omega), cl (30 + j) (by omega), cl (38 + j) (by omega), nI_1]
  rfl
theorem m_i135 (j : Nat) (σ : Mem) (hj : j < 72) : am_go CX10_image 135 [.ref 160, .int (nI j)] [] σ = am_go CX10_image 135 [.ref 160, .int (nI (j + 1))] [] (cp1 184 46 170 0 j σ) := by
  rw [blX10_image_135, if_neg (show ¬ (72 : Int32) ≤ nI j from nI_ge (b := 72) hj (by decide)), rf160_12, rf160_41, ad3 (x := 46) 46 j rfl, oc m9, oc m9, xi hj sh170, xi (show 46 + j < 160 by omega) sh184, cl j (by omega), cl (46 + j) (by omega), nI_1]
  unfold cp1
  rw [Nat.zero_add]
theorem m_i164 (j : Nat) (σ : Mem) (hj : j < 24) : am_go CX10_image 164 [.ref 160, .int (nI j)] [] σ = am_go CX10_image 164 [.ref 160, .int (nI (j + 1))] [] (cp1 184 118 169 0 j σ) := by
  rw [blX10_image_164, if_neg (show ¬ (24 : Int32) ≤ nI j from nI_ge (b := 24) hj (by decide)), rf160_11, rf160_41, ad3 (x := 118) 118 j rfl, oc m9, oc m9, xi hj sh169, xi (show 118 + j < 160 by omega) sh184, cl j (by omega), cl (118 + j) (by omega), nI_1]
  unfold cp1
  rw [Nat.zero_add]
theorem m_i193 (j : Nat) (σ : Mem) (hj : j < 4) : am_go CX10_image 193 [.ref 160, .int (nI j)] [] σ = am_go CX10_image 193 [.ref 160, .int (nI (j + 1))] [] (cp1 184 142 168 0 j σ) := by
  rw [blX10_image_193, if_neg (show ¬ (4 : Int32) ≤ nI j from nI_ge (b := 4) hj (by decide)), rf160_10, rf160_41, ad3 (x := 142) 142 j rfl, oc m9, oc m9, xi hj sh168, xi (show 142 + j < 160 by omega) sh184, cl j (by omega), cl (142 + j) (by omega), nI_1]
  unfold cp1
  rw [Nat.zero_add]
theorem m_b12 (j : Nat) (σ : Mem) (hj : j < 3) : am_go CX10_back 12 [.ref 160, .int (nI j)] [] σ = am_go CX10_back 12 [.ref 160, .int (nI (j + 1))] [] (bk2 j σ) := by
  rw [blX10_back_12, if_neg (show ¬ (3 : Int32) ≤ nI j from nI_ge (b := 3) hj (by decide)), rf160_0, rf160_1, rf160_41, ad3 (x := 3) 3 j rfl, oc m9, oc m9, xi (show j < 160 by omega) sh184, xi hj sh161, oc m9, oc m9, xi (show 3 + j < 160 by omega) sh184, xi hj sh162, cl j (by omega), cl (3 + j) (by omega), nI_1, sM_a (show 184 ≠ 161 by decide)]
  rfl
theorem m_b51 (j : Nat) (σ : Mem) (hj : j < 8) : am_go CX10_back 51 [.ref 160, .int (nI j)] [] σ = am_go CX10_back 51 [.ref 160, .int (nI (j + 1))] [] (bk5 j σ) := by
  rw [blX10_back_51, if_neg (show ¬ (8 : Int32) ≤ nI j from nI_ge (b := 8) hj (by decide))]
  simp only [rf160_3, rf160_4, rf160_5, rf160_6, rf160_7, rf160_41, sM_a (show 184 ≠ 163 by decide), sM_a (show 184 ≠ 164 by decide), sM_a (show 184 ≠ 165 by decide), sM_a (show 184 ≠ 166 by decide), ad3 (x := 6) 6 j rfl, ad3 (x := 14) 14 j rfl, ad3 (x := 22) 22 j rfl, ad3 (x := 30) 30 j rfl, ad3 (x := 38) 38 j rfl, oc m9]
  rw [xi (show 6 + j < 160 by omega) sh184, xi hj sh163, xi (show 14 + j < 160 by omega) sh184, xi hj sh164, xi (show 22 + j < 160 by omega) sh184, xi hj sh165, xi (show 30 + j < 160 by omega) sh184, xi hj sh166, xi (show 38 + j < 160 by omega) sh184, xi hj sh167, cl j (by omega), cl (6 + j) (by omega), cl (14 + j) (by omega), cl (22 + j) (by omega), cl (30 + j) (by omega), cl (38 + j) (by omega), nI_1]
  rfl
theorem m_b140 (j : Nat) (σ : Mem) (hj : j < 72) : am_go CX10_back 140 [.ref 160, .int (nI j)] [] σ = am_go CX10_back 140 [.ref 160, .int (nI (j + 1))] [] (cp1 170 0 184 46 j σ) := by
  rw [blX10_back_140, if_neg (show ¬ (72 : Int32) ≤ nI j from nI_ge (b := 72) hj (by decide)), rf160_12, rf160_41, ad3 (x := 46) 46 j rfl, oc m9, oc m9, xi (show 46 + j < 160 by omega) sh184, xi hj sh170, cl j (by omega), cl (46 + j) (by omega), nI_1]
  unfold cp1
  rw [Nat.zero_add]
theorem m_b169 (j : Nat) (σ : Mem) (hj : j < 24) : am_go CX10_back 169 [.ref 160, .int (nI j)] [] σ = am_go CX10_back 169 [.ref 160, .int (nI (j + 1))] [] (cp1 169 0 184 118 j σ) := by
  rw [blX10_back_169, if_neg (show ¬ (24 : Int32) ≤ nI j from nI_ge (b := 24) hj (by decide)), rf160_11, rf160_41, ad3 (x := 118) 118 j rfl, oc m9, oc m9, xi (show 118 + j < 160 by omega) sh184, xi hj sh169, cl j (by omega), cl (118 + j) (by omega), nI_1]
  unfold cp1
  rw [Nat.zero_add]
theorem m_b198 (j : Nat) (σ : Mem) (hj : j < 4) : am_go CX10_back 198 [.ref 160, .int (nI j)] [] σ = am_go CX10_back 198 [.ref 160, .int (nI (j + 1))] [] (cp1 168 0 184 142 j σ) := by
  rw [blX10_back_198, if_neg (show ¬ (4 : Int32) ≤ nI j from nI_ge (b := 4) hj (by decide)), rf160_10, rf160_41, ad3 (x := 142) 142 j rfl, oc m9, oc m9, xi (show 142 + j < 160 by omega) sh184, xi hj sh168, cl j (by omega), cl (142 + j) (by omega), nI_1]
  unfold cp1
  rw [Nat.zero_add]
def imgA (σ : Mem) : Mem := itM (cp1 184 142 168 0) 4 0 (itM (cp1 184 118 169 0) 24 0 (itM (cp1 184 46 170 0) 72 0 (itM im5 8 0 (itM im2 3 0 (setM σ 160 40 1)))))
def imgZ (σ : Mem) : Mem := setM (setM (setM σ 184 146 (σ 160 2)) 184 147 (σ 160 8)) 184 148 (σ 160 9)
theorem m_image (σ : Mem) : FX10_image [.ref 160] σ = some (some (.int (imgA σ 160 2)), imgZ (imgA σ)) := by
  rw [enX10_image, zr1, oc m9, show am_go CX10_image 7 [.ref 160, .int 0] [] (setM σ 160 40 1) = _ from it_lp (L := fun j => [.ref 160, .int (nI j)]) m_i7 3 0 _ rfl, blX10_image_7, if_pos (by decide), show am_go CX10_image 46 [.ref 160, .int 0] [] _ = _ from it_lp (L := fun j => [.ref 160, .int (nI j)]) m_i46 8 0 _ rfl, blX10_image_46, if_pos (by decide), show am_go CX10_image 135 [.ref 160, .int 0] [] _ = _ from it_lp (L := fun j => [.ref 160, .int (nI j)]) m_i135 72 0 _ rfl, blX10_image_135, if_pos (by decide), show am_go CX10_image 164 [.ref 160, .int 0] [] _ = _ from it_lp (L := fun j => [.ref 160, .int (nI j)]) m_i164 24 0 _ rfl, blX10_image_164, if_pos (by decide), show am_go CX10_image 193 [.ref 160, .int 0] [] _ = _ from it_lp (L := fun j => [.ref 160, .int (nI j)]) m_i193 4 0 _ rfl]
  show am_go CX10_image 193 [.ref 160, .int (nI 4)] [] (imgA σ) = _
  rw [blX10_image_193, if_pos (by decide)]
  simp only [rf160_41, oc m9, sM_a (show 160 ≠ 184 by decide)]
  rw [show (146 : Int32) = nI 146 from rfl, show (147 : Int32) = nI 147 from rfl, show (148 : Int32) = nI 148 from rfl, xi (show 146 < 160 by decide) sh184, xi (show 147 < 160 by decide) sh184, xi (show 148 < 160 by decide) sh184, cl 146 (by decide), cl 147 (by decide), cl 148 (by decide)]
  rfl
def bakA (σ : Mem) : Mem := itM (cp1 168 0 184 142) 4 0 (itM (cp1 169 0 184 118) 24 0 (itM (cp1 170 0 184 46) 72 0 (itM bk5 8 0 (itM bk2 3 0 σ))))
def bakZ (σ : Mem) : Mem := setM (setM (setM σ 160 2 (σ 184 146)) 160 8 (σ 184 147)) 160 9 (σ 184 148)
theorem m_back (σ : Mem) (h : σ 160 40 = 1) : FX10_back [.ref 160] σ = some (some (.int (bakA σ 184 146)), bakZ (bakA σ)) := by
  rw [enX10_back, oc m9, h, if_neg (by decide), show am_go CX10_back 12 [.ref 160, .int 0] [] σ = _ from it_lp (L := fun j => [.ref 160, .int (nI j)]) m_b12 3 0 _ rfl, blX10_back_12, if_pos (by decide), show am_go CX10_back 51 [.ref 160, .int 0] [] _ = _ from it_lp (L := fun j => [.ref 160, .int (nI j)]) m_b51 8 0 _ rfl, blX10_back_51, if_pos (by decide), show am_go CX10_back 140 [.ref 160, .int 0] [] _ = _ from it_lp (L := fun j => [.ref 160, .int (nI j)]) m_b140 72 0 _ rfl, blX10_back_140, if_pos (by decide), show am_go CX10_back 169 [.ref 160, .int 0] [] _ = _ from it_lp (L := fun j => [.ref 160, .int (nI j)]) m_b169 24 0 _ rfl, blX10_back_169, if_pos (by decide), show am_go CX10_back 198 [.ref 160, .int 0] [] _ = _ from it_lp (L := fun j => [.ref 160, .int (nI j)]) m_b198 4 0 _ rfl]
  show am_go CX10_back 198 [.ref 160, .int (nI 4)] [] (bakA σ) = _
  rw [blX10_back_198, if_pos (by decide)]
  simp only [rf160_41, oc m9, sM_a (show 184 ≠ 160 by decide)]
  rw [show (146 : Int32) = nI 146 from rfl, show (147 : Int32) = nI 147 from rfl, show (148 : Int32) = nI 148 from rfl, xi (show 146 < 160 by decide) sh184, xi (show 147 < 160 by decide) sh184, xi (show 148 < 160 by decide) sh184, cl 146 (by decide), cl 147 (by decide), cl 148 (by decide), sM_i (show 2 ≠ 9 by decide), sM_i (show 2 ≠ 8 by decide), sM_eq]
  rfl
theorem img_all (σ : Mem) : (∀ c, c ≠ 184 → imgZ (imgA σ) c = setM σ 160 40 1 c) ∧ (∀ i, i < 3 → imgZ (imgA σ) 184 i = σ 161 i ∧ imgZ (imgA σ) 184 (3 + i) = σ 162 i) ∧ (∀ i, i < 8 → imgZ (imgA σ) 184 (6 + i) = σ 163 i ∧ imgZ (imgA σ) 184 (14 + i) = σ 164 i ∧ imgZ (imgA σ) 184 (22 + i) = σ 165 i ∧ imgZ (imgA σ) 184 (30 + i) = σ 166 i ∧ imgZ (imgA σ) 184 (38 + i) = σ 167 i) ∧ (∀ i, i < 72 → imgZ (imgA σ) 184 (46 + i) = σ 170 i) ∧ (∀ i, i < 24 → imgZ (imgA σ) 184 (118 + i) = σ 169 i) ∧ (∀ i, i < 4 → imgZ (imgA σ) 184 (142 + i) = σ 168 i) ∧ imgZ (imgA σ) 184 146 = σ 160 2 ∧ imgZ (imgA σ) 184 147 = σ 160 8 ∧ imgZ (imgA σ) 184 148 = σ 160 9 := by
  obtain ⟨τ1, e1⟩ : ∃ τ, τ = itM im2 3 0 (setM σ 160 40 1) := ⟨_, rfl⟩
  obtain ⟨τ2, e2⟩ : ∃ τ, τ = itM im5 8 0 τ1 := ⟨_, rfl⟩
  obtain ⟨τ3, e3⟩ : ∃ τ, τ = itM (cp1 184 46 170 0) 72 0 τ2 := ⟨_, rfl⟩
  obtain ⟨τ4, e4⟩ : ∃ τ, τ = itM (cp1 184 118 169 0) 24 0 τ3 := ⟨_, rfl⟩
  obtain ⟨τ5, e5⟩ : ∃ τ, τ = itM (cp1 184 142 168 0) 4 0 τ4 := ⟨_, rfl⟩
  have eA : imgA σ = τ5 := by unfold imgA; rw [e5, e4, e3, e2, e1]
  obtain ⟨p1, -, p3, p4⟩ := im2_it 3 0 (setM σ 160 40 1) rfl
  rw [← e1] at p1 p3 p4
  obtain ⟨q1, -, q3, q4⟩ := im5_it 8 0 τ1 rfl
  rw [← e2] at q1 q3 q4
  obtain ⟨r1, r2, r3⟩ := cp1_it (a := 184) (o := 46) (b := 170) (p := 0) (by decide) 72 0 τ2
  rw [← e3] at r1 r2 r3
  obtain ⟨s1, s2, s3⟩ := cp1_it (a := 184) (o := 118) (b := 169) (p := 0) (by decide) 24 0 τ3
  rw [← e4] at s1 s2 s3
  obtain ⟨t1, t2, t3⟩ := cp1_it (a := 184) (o := 142) (b := 168) (p := 0) (by decide) 4 0 τ4
  rw [← e5] at t1 t2 t3
  have fr : ∀ c, c ≠ 184 → τ5 c = setM σ 160 40 1 c := fun c hc => by rw [t3 c hc, s3 c hc, r3 c hc, q4 c hc, p4 c hc]
  have z1 : ∀ i, i < 146 → imgZ τ5 184 i = τ5 184 i := fun i hi => by unfold imgZ; rw [sM_i (by omega), sM_i (by omega), sM_i (by omega)]
  rw [eA]
  refine ⟨fun c hc => ?_, fun i hi => ?_, fun i hi => ?_, fun i hi => ?_, fun i hi => ?_, fun i hi => ?_, ?_, ?_, ?_⟩
  · unfold imgZ; rw [sM_a hc, sM_a hc, sM_a hc, fr c hc]
  · rw [z1 _ (by omega), z1 _ (by omega), t2 _ (by omega), t2 _ (by omega), s2 _ (by omega), s2 _ (by omega), r2 _ (by omega), r2 _ (by omega), q3 _ (by omega), q3 _ (by omega), (p1 i (by omega) hi).1, (p1 i (by omega) hi).2, sM_a (by decide), sM_a (by decide)]
    exact ⟨rfl, rfl⟩
  · obtain ⟨a1, a2, a3, a4, a5⟩ := q1 i (by omega) hi
    have up : ∀ q, q < 46 → imgZ τ5 184 q = τ2 184 q := fun q hq => by rw [z1 _ (by omega), t2 _ (by omega), s2 _ (by omega), r2 _ (by omega)]
    have dn : ∀ c, c ≠ 184 → c ≠ 160 → τ1 c = σ c := fun c h1 h2 => by rw [p4 c h1, sM_a h2]
    rw [up _ (by omega), up _ (by omega), up _ (by omega), up _ (by omega), up _ (by omega), a1, a2, a3, a4, a5, dn 163 (by decide) (by decide), dn 164 (by decide) (by decide), dn 165 (by decide) (by decide), dn 166 (by decide) (by decide), dn 167 (by decide) (by decide)]
    exact ⟨rfl, rfl, rfl, rfl, rfl⟩
  · rw [z1 _ (by omega), t2 _ (by omega), s2 _ (by omega), r1 i (by omega) (by omega), Nat.zero_add, q4 170 (by decide), p4 170 (by decide), sM_a (by decide)]
  · rw [z1 _ (by omega), t2 _ (by omega), s1 i (by omega) (by omega), Nat.zero_add, r3 169 (by decide), q4 169 (by decide), p4 169 (by decide), sM_a (by decide)]
  · rw [z1 _ (by omega), t1 i (by omega) (by omega), Nat.zero_add, s3 168 (by decide), r3 168 (by decide), q4 168 (by decide), p4 168 (by decide), sM_a (by decide)]
  · unfold imgZ; rw [sM_i (by decide), sM_i (by decide), sM_eq, fr 160 (by decide), sM_i (by decide)]
  · unfold imgZ; rw [sM_i (by decide), sM_eq, fr 160 (by decide), sM_i (by decide)]
  · unfold imgZ; rw [sM_eq, fr 160 (by decide), sM_i (by decide)]
theorem bak_all (σ : Mem) : (∀ c, (c < 160 ∨ 171 ≤ c) → bakZ (bakA σ) c = σ c) ∧ (∀ j, j ≠ 2 → j ≠ 8 → j ≠ 9 → bakZ (bakA σ) 160 j = σ 160 j) ∧ (∀ i, i < 3 → bakZ (bakA σ) 161 i = σ 184 i ∧ bakZ (bakA σ) 162 i = σ 184 (3 + i)) ∧ (∀ i, i < 8 → bakZ (bakA σ) 163 i = σ 184 (6 + i) ∧ bakZ (bakA σ) 164 i = σ 184 (14 + i) ∧ bakZ (bakA σ) 165 i = σ 184 (22 + i) ∧ bakZ (bakA σ) 166 i = σ 184 (30 + i) ∧ bakZ (bakA σ) 167 i = σ 184 (38 + i)) ∧ (∀ i, i < 72 → bakZ (bakA σ) 170 i = σ 184 (46 + i)) ∧ (∀ i, i < 24 → bakZ (bakA σ) 169 i = σ 184 (118 + i)) ∧ (∀ i, i < 4 → bakZ (bakA σ) 168 i = σ 184 (142 + i)) ∧ bakZ (bakA σ) 160 2 = σ 184 146 ∧ bakZ (bakA σ) 160 8 = σ 184 147 ∧ bakZ (bakA σ) 160 9 = σ 184 148 ∧ bakA σ 184 146 = σ 184 146 := by
  obtain ⟨τ1, e1⟩ : ∃ τ, τ = itM bk2 3 0 σ := ⟨_, rfl⟩
  obtain ⟨τ2, e2⟩ : ∃ τ, τ = itM bk5 8 0 τ1 := ⟨_, rfl⟩
  obtain ⟨τ3, e3⟩ : ∃ τ, τ = itM (cp1 170 0 184 46) 72 0 τ2 := ⟨_, rfl⟩
  obtain ⟨τ4, e4⟩ : ∃ τ, τ = itM (cp1 169 0 184 118) 24 0 τ3 := ⟨_, rfl⟩
  obtain ⟨τ5, e5⟩ : ∃ τ, τ = itM (cp1 168 0 184 142) 4 0 τ4 := ⟨_, rfl⟩
  have eA : bakA σ = τ5 := by unfold bakA; rw [e5, e4, e3, e2, e1]
  obtain ⟨p1, -, p4⟩ := bk2_it 3 0 σ rfl
  rw [← e1] at p1 p4
  obtain ⟨q1, -, q4⟩ := bk5_it 8 0 τ1 rfl
  rw [← e2] at q1 q4
  obtain ⟨r1, r2, r3⟩ := cp1_it (a := 170) (o := 0) (b := 184) (p := 46) (by decide) 72 0 τ2
  rw [← e3] at r1 r2 r3
  obtain ⟨s1, s2, s3⟩ := cp1_it (a := 169) (o := 0) (b := 184) (p := 118) (by decide) 24 0 τ3
  rw [← e4] at s1 s2 s3
  obtain ⟨t1, t2, t3⟩ := cp1_it (a := 168) (o := 0) (b := 184) (p := 142) (by decide) 4 0 τ4
  rw [← e5] at t1 t2 t3
  have fr : ∀ c, (c < 161 ∨ 171 ≤ c) → τ5 c = σ c := fun c hc => by rw [t3 c (by omega), s3 c (by omega), r3 c (by omega), q4 c (by omega), p4 c (by omega) (by omega)]
  have z1 : ∀ c, c ≠ 160 → bakZ τ5 c = τ5 c := fun c hc => by unfold bakZ; rw [sM_a hc, sM_a hc, sM_a hc]
  rw [eA]
  refine ⟨fun c hc => ?_, fun j h1 h2 h3 => ?_, fun i hi => ?_, fun i hi => ?_, fun i hi => ?_, fun i hi => ?_, fun i hi => ?_, ?_, ?_, ?_, ?_⟩
  · rw [z1 c (by omega), fr c (by omega)]
  · unfold bakZ; rw [sM_i h3, sM_i h2, sM_i h1, fr 160 (by omega)]
  · rw [z1 161 (by decide), z1 162 (by decide), t3 161 (by decide), t3 162 (by decide), s3 161 (by decide), s3 162 (by decide), r3 161 (by decide), r3 162 (by decide), q4 161 (by decide), q4 162 (by decide)]
    exact p1 i (by omega) hi
  · obtain ⟨a1, a2, a3, a4, a5⟩ := q1 i (by omega) hi
    have up : ∀ c, 163 ≤ c → c ≤ 167 → bakZ τ5 c = τ2 c := fun c h1 h2 => by rw [z1 c (by omega), t3 c (by omega), s3 c (by omega), r3 c (by omega)]
    rw [up 163 (by omega) (by omega), up 164 (by omega) (by omega), up 165 (by omega) (by omega), up 166 (by omega) (by omega), up 167 (by omega) (by omega), a1, a2, a3, a4, a5, p4 184 (by decide) (by decide)]
    exact ⟨rfl, rfl, rfl, rfl, rfl⟩
  · have := r1 i (by omega) (by omega)
    rw [Nat.zero_add] at this
    rw [z1 170 (by decide), t3 170 (by decide), s3 170 (by decide), this, q4 184 (by decide), p4 184 (by decide) (by decide)]
  · have := s1 i (by omega) (by omega)
    rw [Nat.zero_add] at this
    rw [z1 169 (by decide), t3 169 (by decide), this, r3 184 (by decide), q4 184 (by decide), p4 184 (by decide) (by decide)]
  · have := t1 i (by omega) (by omega)
    rw [Nat.zero_add] at this
    rw [z1 168 (by decide), this, s3 184 (by decide), r3 184 (by decide), q4 184 (by decide), p4 184 (by decide) (by decide)]
  · unfold bakZ; rw [sM_i (by decide), sM_i (by decide), sM_eq, fr 184 (by omega)]
  · unfold bakZ; rw [sM_i (by decide), sM_eq, fr 184 (by omega)]
  · unfold bakZ; rw [sM_eq, fr 184 (by omega)]
  · rw [fr 184 (by omega)]
theorem op_image {σ : Mem} (h : Rel σ) : OpOK (FX9_image [.ref 0]) (FX10_image [.ref 160]) σ := by
  obtain ⟨Z, hZ, hC, hM⟩ := h
  refine op_of (Z' := (Z.1, Z.2.1, Z.2.2.1, Z.2.2.2.1, some (Z.1, Z.2.1))) (r := nI Z.1.2.2.1.length) hZ hM ⟨hZ.1, hZ.2.1, hZ.2.2.1, hZ.2.2.2.1, fun S C e => by cases e; exact ⟨hZ.1, hZ.2.1⟩⟩ (c_image hZ hC) (fun σ1 hM1 => ?_)
  obtain ⟨a0, a1, a2, a3, a4, a5, a6, a7, a8⟩ := img_all σ1
  have fz : ∀ c, c ≠ 184 → c ≠ 160 → imgZ (imgA σ1) c = σ1 c := fun c h1 h2 => by rw [a0 c h1, sM_a h2]
  have f0 : ∀ j, j ≠ 40 → imgZ (imgA σ1) 160 j = σ1 160 j := fun j hj => by rw [a0 160 (by decide), sM_i hj]
  have e2 : imgA σ1 160 2 = nI Z.1.2.2.1.length := by
    have : imgZ (imgA σ1) 160 2 = imgA σ1 160 2 := by unfold imgZ; rw [sM_a (by decide), sM_a (by decide), sM_a (by decide)]
    rw [← this, f0 2 (by decide)]; exact hM1.1.2.2.1
  refine ⟨imgZ (imgA σ1), by rw [m_image, e2], ?_, fun a ha => fz a (by omega) (by omega)⟩
  have h8 := hZ.1.1.1
  refine ⟨?_, fun c hc => ?_, ⟨?_, fun i b hb => ?_⟩, fun r hr => ?_, ?_, fun z hz => ?_, fun z hz => ?_, fun i d hd => ?_, fun c hc => ⟨?_, fun i g hg => ?_⟩, ?_, ?_, ?_⟩
  · have := hM1.1
    unfold repM repN at this ⊢
    rw [f0 2 (by decide), f0 8 (by decide), f0 9 (by decide), fz 161 (by decide) (by decide), fz 162 (by decide) (by decide), fz 163 (by decide) (by decide), fz 164 (by decide) (by decide), fz 165 (by decide) (by decide), fz 166 (by decide) (by decide), fz 167 (by decide) (by decide)]
    exact this
  · have := hM1.2.1 c hc
    unfold repCm at this ⊢
    rw [fz 168 (by decide) (by decide), fz 169 (by decide) (by decide), fz 170 (by decide) (by decide)]
    exact this
  · rw [f0 14 (by decide)]; exact hM1.2.2.1.1
  · rw [fz 171 (by decide) (by decide)]; exact hM1.2.2.1.2 i b hb
  · have := hM1.2.2.2.1 r hr
    unfold repSm at this ⊢
    rw [fz 172 (by decide) (by decide), fz 173 (by decide) (by decide), fz 174 (by decide) (by decide)]
    exact this
  · rw [a0 160 (by decide), sM_eq]
  · rw [(a1 z hz).1]; exact hM1.1.1 z hz
  · rw [(a1 z hz).2]; exact hM1.1.2.1 z hz
  · have hi : i < 8 := by have := (List.getElem?_eq_some_iff.mp hd).1; omega
    obtain ⟨b1, b2, b3, b4, b5⟩ := a2 i hi
    rw [b1, b2, b3, b4, b5]
    exact hM1.1.2.2.2.2.2 i d hd
  · rw [a5 c hc]; exact (hM1.2.1 c hc).1
  · have hl := (hZ.2.1 c hc).1
    have hi : i < 6 := by have := (List.getElem?_eq_some_iff.mp hg).1; omega
    rw [a3 _ (by omega), a3 _ (by omega), a3 _ (by omega), a4 _ (by omega)]
    exact (hM1.2.1 c hc).2 i g hg
  · rw [a6]; exact hM1.1.2.2.1
  · rw [a7]; exact hM1.1.2.2.2.1
  · rw [a8]; exact hM1.1.2.2.2.2.1
theorem op_back {σ : Mem} (h : Rel σ) : OpOK (FX9_back [.ref 0]) (FX10_back [.ref 160]) σ := by
  have h0 := h
  obtain ⟨Z, hZ, hC, hM⟩ := h
  cases hI : Z.2.2.2.2 with
  | none =>
    have c1 := hC.2.2.2.2
    have m1 := hM.2.2.2.2
    rw [hI] at c1 m1
    exact op_same (r := -3) h0 (by rw [enX9_back, oc c8, show σ 0 5 = 0 from c1, if_pos rfl]) (by rw [enX10_back, oc m9, show σ 160 40 = 0 from m1, if_pos rfl])
  | some q =>
    obtain ⟨S, C⟩ := q
    obtain ⟨okS', okC'⟩ := hZ.2.2.2.2 S C hI
    refine op_of (Z' := (S, C, Z.2.2.1, Z.2.2.2.1, some (S, C))) (r := nI S.2.2.1.length) hZ hM ⟨okS', okC', hZ.2.2.1, hZ.2.2.2.1, fun S C e => by cases e; exact ⟨okS', okC'⟩⟩ (c_back hZ hC hI) (fun σ1 hM1 => ?_)
    have m1 := hM1.2.2.2.2
    rw [hI] at m1
    obtain ⟨mb, i1, i2, i3, i4, i5, i6, i7⟩ := m1
    obtain ⟨a0, az, a1, a2, a3, a4, a5, a6, a7, a8, a9⟩ := bak_all σ1
    have h8 := okS'.1.1
    refine ⟨bakZ (bakA σ1), by rw [m_back σ1 mb, a9, i5], ?_, fun a ha => a0 a (by omega)⟩
    refine ⟨⟨fun z hz => ?_, fun z hz => ?_, ?_, ?_, ?_, fun i d hd => ?_⟩, fun c hc => ⟨?_, fun i g hg => ?_⟩, ⟨?_, fun i b hb => ?_⟩, fun r hr => ?_, ?_, ?_⟩
    · rw [(a1 z hz).1]; exact i1 z hz
    · rw [(a1 z hz).2]; exact i2 z hz
    · rw [a6]; exact i5
    · rw [a7]; exact i6
    · rw [a8]; exact i7
    · have hi : i < 8 := by have : i < S.2.2.1.length := (List.getElem?_eq_some_iff.mp hd).1; omega
      obtain ⟨b1, b2, b3, b4, b5⟩ := a2 i hi
      unfold repN
      rw [b1, b2, b3, b4, b5]
      exact i3 i d hd
    · rw [a5 c hc]; exact (i4 c hc).1
    · have hl := (okC' c hc).1
      have hi : i < 6 := by have : i < (C c).length := (List.getElem?_eq_some_iff.mp hg).1; omega
      rw [a3 _ (by omega), a3 _ (by omega), a3 _ (by omega), a4 _ (by omega)]
      exact (i4 c hc).2 i g hg
    · rw [az 14 (by decide) (by decide) (by decide)]; exact hM1.2.2.1.1
    · rw [a0 171 (by omega)]; exact hM1.2.2.1.2 i b hb
    · have := hM1.2.2.2.1 r hr
      unfold repSm at this ⊢
      rw [a0 172 (by omega), a0 173 (by omega), a0 174 (by omega)]
      exact this
    · show bakZ (bakA σ1) 160 40 = 1
      rw [az 40 (by decide) (by decide) (by decide)]; exact mb
    · unfold repI
      rw [a0 184 (by omega)]
      exact ⟨i1, i2, i3, i4, i5, i6, i7⟩
