/-! rows for reckoning with the functions of the methods -/
section Base
variable {α : Type}
theorem oc {a ci : Nat} {k : Option α} (h : (sh a).1 = ci) : o_cls a ci k = k := by unfold o_cls; rw [if_pos h]
theorem sh_sz (a : Nat) : (sh a).2 ≤ 160 := by
  by_cases h : a < NC
  · have h0 : ∀ q ∈ shL, q.2 ≤ 160 := by decide +kernel
    unfold sh
    rw [List.getD_eq_getElem?_getD]
    cases h1 : shL[a]? with
    | none => simp
    | some q => exact h0 q (List.mem_of_getElem? h1)
  · unfold sh
    rw [List.getD_eq_getElem?_getD, List.getElem?_eq_none (by rw [shL_len]; omega)]
    exact Nat.zero_le _
theorem inb {j n : Nat} (h : j < n) (hn : n ≤ 1000) : am_inb (nI j) n = true := am_inb_of (vp_in_nI h (by omega))
theorem ox {t a j : Nat} {k : Option α} (h : (sh a).1 = t) (hj : j < (sh a).2) : o_ix t a (nI j) k = k := by
  unfold o_ix
  rw [if_pos ⟨h, inb hj (Nat.le_trans (sh_sz a) (by decide))⟩]
theorem cl (j : Nat) (h : j < 1000) : (nI j).toNatClampNeg = j := nI_clamp (by omega)
theorem nz {y : Int32} {k : Option α} (h : ¬ y = 0) : o_nz y k = k := by unfold o_nz; rw [if_neg h]
theorem zr0 {k : Option α} : o_zr 0 k = k := rfl
theorem zr1 {k : Option α} : o_zr 1 k = k := rfl
theorem zrb {b : Prop} [Decidable b] {k : Option α} : o_zr (if b then 1 else 0) k = k := by split <;> rfl
end Base
theorem rI {M : Type} {v : Int32} {h : M} {k : Int32 → M → Option (am_R M)} : o_rI (some (some (.int v), h)) k = k v h := rfl
theorem rV {M : Type} {h : M} {k : M → Option (am_R M)} : o_rV (some (none, h)) k = k h := rfl
theorem rA {M : Type} {v : Nat} {h : M} {k : Nat → M → Option (am_R M)} : o_rA (some (some (.ref v), h)) k = k v h := rfl
theorem sM_eq (σ : Mem) (a i : Nat) (v : Int32) : setM σ a i v a i = v := by simp [setM, upd]
theorem sM_a {σ : Mem} {a b i : Nat} {v : Int32} (h : b ≠ a) : setM σ a i v b = σ b := by simp [setM, h]
theorem sM_i {σ : Mem} {a i j : Nat} {v : Int32} (h : j ≠ i) : setM σ a i v a j = σ a j := by simp [setM, upd, h]
theorem sM (σ : Mem) (a i b j : Nat) (v : Int32) : setM σ a i v b j = if b = a ∧ j = i then v else σ b j := by
  unfold setM upd
  by_cases h : b = a
  · subst h
    by_cases h2 : j = i <;> simp [h2]
  · simp [h]

theorem sh0 : sh 0 = (8, 12) := by decide +kernel
theorem sh1 : sh 1 = (2, 8) := by decide +kernel
theorem sh2 : sh 2 = (100, 3) := by decide +kernel
theorem sh3 : sh 3 = (100, 3) := by decide +kernel
theorem sh4 : sh 4 = (100, 3) := by decide +kernel
theorem sh5 : sh 5 = (102, 8) := by decide +kernel
theorem sh6 : sh 6 = (100, 3) := by decide +kernel
theorem sh7 : sh 7 = (3, 10) := by decide +kernel
theorem sh8 : sh 8 = (3, 10) := by decide +kernel
theorem sh9 : sh 9 = (3, 10) := by decide +kernel
theorem sh10 : sh 10 = (3, 10) := by decide +kernel
theorem sh11 : sh 11 = (3, 10) := by decide +kernel
theorem sh12 : sh 12 = (3, 10) := by decide +kernel
theorem sh13 : sh 13 = (3, 10) := by decide +kernel
theorem sh14 : sh 14 = (3, 10) := by decide +kernel
theorem sh15 : sh 15 = (2, 8) := by decide +kernel
theorem sh16 : sh 16 = (100, 3) := by decide +kernel
theorem sh17 : sh 17 = (100, 3) := by decide +kernel
theorem sh18 : sh 18 = (100, 3) := by decide +kernel
theorem sh19 : sh 19 = (102, 8) := by decide +kernel
theorem sh20 : sh 20 = (100, 3) := by decide +kernel
theorem sh21 : sh 21 = (3, 10) := by decide +kernel
theorem sh22 : sh 22 = (3, 10) := by decide +kernel
theorem sh23 : sh 23 = (3, 10) := by decide +kernel
theorem sh24 : sh 24 = (3, 10) := by decide +kernel
theorem sh25 : sh 25 = (3, 10) := by decide +kernel
theorem sh26 : sh 26 = (3, 10) := by decide +kernel
theorem sh27 : sh 27 = (3, 10) := by decide +kernel
theorem sh28 : sh 28 = (3, 10) := by decide +kernel
theorem sh29 : sh 29 = (2, 8) := by decide +kernel
theorem sh30 : sh 30 = (100, 3) := by decide +kernel
theorem sh31 : sh 31 = (100, 3) := by decide +kernel
theorem sh32 : sh 32 = (100, 3) := by decide +kernel
theorem sh33 : sh 33 = (102, 8) := by decide +kernel
theorem sh34 : sh 34 = (100, 3) := by decide +kernel
theorem sh35 : sh 35 = (3, 10) := by decide +kernel
theorem sh36 : sh 36 = (3, 10) := by decide +kernel
theorem sh37 : sh 37 = (3, 10) := by decide +kernel
theorem sh38 : sh 38 = (3, 10) := by decide +kernel
theorem sh39 : sh 39 = (3, 10) := by decide +kernel
theorem sh40 : sh 40 = (3, 10) := by decide +kernel
theorem sh41 : sh 41 = (3, 10) := by decide +kernel
theorem sh42 : sh 42 = (3, 10) := by decide +kernel
theorem sh43 : sh 43 = (103, 4) := by decide +kernel
theorem sh44 : sh 44 = (103, 4) := by decide +kernel
theorem sh45 : sh 45 = (7, 6) := by decide +kernel
theorem sh46 : sh 46 = (101, 120) := by decide +kernel
theorem sh47 : sh 47 = (5, 2) := by decide +kernel
theorem sh48 : sh 48 = (101, 120) := by decide +kernel
theorem sh49 : sh 49 = (0, 3) := by decide +kernel
theorem sh50 : sh 50 = (100, 18) := by decide +kernel
theorem sh51 : sh 51 = (100, 6) := by decide +kernel
theorem sh52 : sh 52 = (1, 3) := by decide +kernel
theorem sh53 : sh 53 = (4, 6) := by decide +kernel
theorem sh54 : sh 54 = (105, 5) := by decide +kernel
theorem sh55 : sh 55 = (100, 4) := by decide +kernel
theorem sh56 : sh 56 = (100, 4) := by decide +kernel
theorem sh57 : sh 57 = (2, 8) := by decide +kernel
theorem sh58 : sh 58 = (100, 3) := by decide +kernel
theorem sh59 : sh 59 = (100, 3) := by decide +kernel
theorem sh60 : sh 60 = (100, 3) := by decide +kernel
theorem sh61 : sh 61 = (102, 8) := by decide +kernel
theorem sh62 : sh 62 = (100, 3) := by decide +kernel
theorem sh63 : sh 63 = (3, 10) := by decide +kernel
theorem sh64 : sh 64 = (3, 10) := by decide +kernel
theorem sh65 : sh 65 = (3, 10) := by decide +kernel
theorem sh66 : sh 66 = (3, 10) := by decide +kernel
theorem sh67 : sh 67 = (3, 10) := by decide +kernel
theorem sh68 : sh 68 = (3, 10) := by decide +kernel
theorem sh69 : sh 69 = (3, 10) := by decide +kernel
theorem sh70 : sh 70 = (3, 10) := by decide +kernel
theorem sh71 : sh 71 = (2, 8) := by decide +kernel
theorem sh72 : sh 72 = (100, 3) := by decide +kernel
theorem sh73 : sh 73 = (100, 3) := by decide +kernel
theorem sh74 : sh 74 = (100, 3) := by decide +kernel
theorem sh75 : sh 75 = (102, 8) := by decide +kernel
theorem sh76 : sh 76 = (100, 3) := by decide +kernel
theorem sh77 : sh 77 = (3, 10) := by decide +kernel
theorem sh78 : sh 78 = (3, 10) := by decide +kernel
theorem sh79 : sh 79 = (3, 10) := by decide +kernel
theorem sh80 : sh 80 = (3, 10) := by decide +kernel
theorem sh81 : sh 81 = (3, 10) := by decide +kernel
theorem sh82 : sh 82 = (3, 10) := by decide +kernel
theorem sh83 : sh 83 = (3, 10) := by decide +kernel
theorem sh84 : sh 84 = (3, 10) := by decide +kernel
theorem sh85 : sh 85 = (2, 8) := by decide +kernel
theorem sh86 : sh 86 = (100, 3) := by decide +kernel
theorem sh87 : sh 87 = (100, 3) := by decide +kernel
theorem sh88 : sh 88 = (100, 3) := by decide +kernel
theorem sh89 : sh 89 = (102, 8) := by decide +kernel
theorem sh90 : sh 90 = (100, 3) := by decide +kernel
theorem sh91 : sh 91 = (3, 10) := by decide +kernel
theorem sh92 : sh 92 = (3, 10) := by decide +kernel
theorem sh93 : sh 93 = (3, 10) := by decide +kernel
theorem sh94 : sh 94 = (3, 10) := by decide +kernel
theorem sh95 : sh 95 = (3, 10) := by decide +kernel
theorem sh96 : sh 96 = (3, 10) := by decide +kernel
theorem sh97 : sh 97 = (3, 10) := by decide +kernel
theorem sh98 : sh 98 = (3, 10) := by decide +kernel
theorem sh99 : sh 99 = (2, 8) := by decide +kernel
theorem sh100 : sh 100 = (100, 3) := by decide +kernel
theorem sh101 : sh 101 = (100, 3) := by decide +kernel
theorem sh102 : sh 102 = (100, 3) := by decide +kernel
theorem sh103 : sh 103 = (102, 8) := by decide +kernel
theorem sh104 : sh 104 = (100, 3) := by decide +kernel
theorem sh105 : sh 105 = (3, 10) := by decide +kernel
theorem sh106 : sh 106 = (3, 10) := by decide +kernel
theorem sh107 : sh 107 = (3, 10) := by decide +kernel
theorem sh108 : sh 108 = (3, 10) := by decide +kernel
theorem sh109 : sh 109 = (3, 10) := by decide +kernel
theorem sh110 : sh 110 = (3, 10) := by decide +kernel
theorem sh111 : sh 111 = (3, 10) := by decide +kernel
theorem sh112 : sh 112 = (3, 10) := by decide +kernel
theorem sh113 : sh 113 = (2, 8) := by decide +kernel
theorem sh114 : sh 114 = (100, 3) := by decide +kernel
theorem sh115 : sh 115 = (100, 3) := by decide +kernel
theorem sh116 : sh 116 = (100, 3) := by decide +kernel
theorem sh117 : sh 117 = (102, 8) := by decide +kernel
theorem sh118 : sh 118 = (100, 3) := by decide +kernel
theorem sh119 : sh 119 = (3, 10) := by decide +kernel
theorem sh120 : sh 120 = (3, 10) := by decide +kernel
theorem sh121 : sh 121 = (3, 10) := by decide +kernel
theorem sh122 : sh 122 = (3, 10) := by decide +kernel
theorem sh123 : sh 123 = (3, 10) := by decide +kernel
theorem sh124 : sh 124 = (3, 10) := by decide +kernel
theorem sh125 : sh 125 = (3, 10) := by decide +kernel
theorem sh126 : sh 126 = (3, 10) := by decide +kernel
theorem sh127 : sh 127 = (104, 4) := by decide +kernel
theorem sh128 : sh 128 = (0, 3) := by decide +kernel
theorem sh129 : sh 129 = (100, 18) := by decide +kernel
theorem sh130 : sh 130 = (100, 6) := by decide +kernel
theorem sh131 : sh 131 = (0, 3) := by decide +kernel
theorem sh132 : sh 132 = (100, 18) := by decide +kernel
theorem sh133 : sh 133 = (100, 6) := by decide +kernel
theorem sh134 : sh 134 = (0, 3) := by decide +kernel
theorem sh135 : sh 135 = (100, 18) := by decide +kernel
theorem sh136 : sh 136 = (100, 6) := by decide +kernel
theorem sh137 : sh 137 = (0, 3) := by decide +kernel
theorem sh138 : sh 138 = (100, 18) := by decide +kernel
theorem sh139 : sh 139 = (100, 6) := by decide +kernel
theorem sh140 : sh 140 = (0, 3) := by decide +kernel
theorem sh141 : sh 141 = (100, 18) := by decide +kernel
theorem sh142 : sh 142 = (100, 6) := by decide +kernel
theorem sh143 : sh 143 = (0, 3) := by decide +kernel
theorem sh144 : sh 144 = (100, 18) := by decide +kernel
theorem sh145 : sh 145 = (100, 6) := by decide +kernel
theorem sh146 : sh 146 = (0, 3) := by decide +kernel
theorem sh147 : sh 147 = (100, 18) := by decide +kernel
theorem sh148 : sh 148 = (100, 6) := by decide +kernel
theorem sh149 : sh 149 = (0, 3) := by decide +kernel
theorem sh150 : sh 150 = (100, 18) := by decide +kernel
theorem sh151 : sh 151 = (100, 6) := by decide +kernel
theorem sh152 : sh 152 = (6, 3) := by decide +kernel
theorem sh153 : sh 153 = (100, 40) := by decide +kernel
theorem sh154 : sh 154 = (6, 3) := by decide +kernel
theorem sh155 : sh 155 = (100, 40) := by decide +kernel
theorem sh156 : sh 156 = (6, 3) := by decide +kernel
theorem sh157 : sh 157 = (100, 40) := by decide +kernel
theorem sh158 : sh 158 = (6, 3) := by decide +kernel
theorem sh159 : sh 159 = (100, 40) := by decide +kernel
theorem sh160 : sh 160 = (9, 42) := by decide +kernel
theorem sh161 : sh 161 = (100, 3) := by decide +kernel
theorem sh162 : sh 162 = (100, 3) := by decide +kernel
theorem sh163 : sh 163 = (100, 8) := by decide +kernel
theorem sh164 : sh 164 = (100, 8) := by decide +kernel
theorem sh165 : sh 165 = (100, 8) := by decide +kernel
theorem sh166 : sh 166 = (100, 8) := by decide +kernel
theorem sh167 : sh 167 = (100, 8) := by decide +kernel
theorem sh168 : sh 168 = (100, 4) := by decide +kernel
theorem sh169 : sh 169 = (100, 24) := by decide +kernel
theorem sh170 : sh 170 = (100, 72) := by decide +kernel
theorem sh171 : sh 171 = (100, 120) := by decide +kernel
theorem sh172 : sh 172 = (100, 4) := by decide +kernel
theorem sh173 : sh 173 = (100, 4) := by decide +kernel
theorem sh174 : sh 174 = (100, 160) := by decide +kernel
theorem sh175 : sh 175 = (100, 40) := by decide +kernel
theorem sh176 : sh 176 = (100, 3) := by decide +kernel
theorem sh177 : sh 177 = (100, 3) := by decide +kernel
theorem sh178 : sh 178 = (100, 3) := by decide +kernel
theorem sh179 : sh 179 = (100, 8) := by decide +kernel
theorem sh180 : sh 180 = (100, 8) := by decide +kernel
theorem sh181 : sh 181 = (100, 6) := by decide +kernel
theorem sh182 : sh 182 = (100, 18) := by decide +kernel
theorem sh183 : sh 183 = (100, 120) := by decide +kernel
theorem sh184 : sh 184 = (100, 160) := by decide +kernel
theorem rf0_0 : rf 0 0 = 1 := by decide +kernel
theorem rf0_1 : rf 0 1 = 15 := by decide +kernel
theorem rf0_2 : rf 0 2 = 29 := by decide +kernel
theorem rf0_3 : rf 0 3 = 43 := by decide +kernel
theorem rf0_4 : rf 0 4 = 44 := by decide +kernel
theorem rf0_6 : rf 0 6 = 45 := by decide +kernel
theorem rf0_7 : rf 0 7 = 47 := by decide +kernel
theorem rf0_8 : rf 0 8 = 49 := by decide +kernel
theorem rf0_9 : rf 0 9 = 52 := by decide +kernel
theorem rf0_10 : rf 0 10 = 53 := by decide +kernel
theorem rf0_11 : rf 0 11 = 127 := by decide +kernel
theorem rf45_0 : rf 45 0 = 46 := by decide +kernel
theorem rf47_0 : rf 47 0 = 48 := by decide +kernel
theorem rf49_0 : rf 49 0 = 50 := by decide +kernel
theorem rf49_1 : rf 49 1 = 51 := by decide +kernel
theorem rf53_0 : rf 53 0 = 54 := by decide +kernel
theorem rf53_1 : rf 53 1 = 55 := by decide +kernel
theorem rf53_2 : rf 53 2 = 56 := by decide +kernel
theorem rf160_0 : rf 160 0 = 161 := by decide +kernel
theorem rf160_1 : rf 160 1 = 162 := by decide +kernel
theorem rf160_3 : rf 160 3 = 163 := by decide +kernel
theorem rf160_4 : rf 160 4 = 164 := by decide +kernel
theorem rf160_5 : rf 160 5 = 165 := by decide +kernel
theorem rf160_6 : rf 160 6 = 166 := by decide +kernel
theorem rf160_7 : rf 160 7 = 167 := by decide +kernel
theorem rf160_10 : rf 160 10 = 168 := by decide +kernel
theorem rf160_11 : rf 160 11 = 169 := by decide +kernel
theorem rf160_12 : rf 160 12 = 170 := by decide +kernel
theorem rf160_13 : rf 160 13 = 171 := by decide +kernel
theorem rf160_15 : rf 160 15 = 172 := by decide +kernel
theorem rf160_16 : rf 160 16 = 173 := by decide +kernel
theorem rf160_17 : rf 160 17 = 174 := by decide +kernel
theorem rf160_18 : rf 160 18 = 175 := by decide +kernel
theorem rf160_19 : rf 160 19 = 176 := by decide +kernel
theorem rf160_20 : rf 160 20 = 177 := by decide +kernel
theorem rf160_21 : rf 160 21 = 178 := by decide +kernel
theorem rf160_22 : rf 160 22 = 179 := by decide +kernel
theorem rf160_23 : rf 160 23 = 180 := by decide +kernel
theorem rf160_32 : rf 160 32 = 181 := by decide +kernel
theorem rf160_33 : rf 160 33 = 182 := by decide +kernel
theorem rf160_34 : rf 160 34 = 183 := by decide +kernel
theorem rf160_41 : rf 160 41 = 184 := by decide +kernel
theorem tn0 : (0 : Int32).toNatClampNeg = 0 := by decide +kernel
theorem tn1 : (1 : Int32).toNatClampNeg = 1 := by decide +kernel
theorem tn2 : (2 : Int32).toNatClampNeg = 2 := by decide +kernel
theorem tn3 : (3 : Int32).toNatClampNeg = 3 := by decide +kernel
theorem tn4 : (4 : Int32).toNatClampNeg = 4 := by decide +kernel
theorem tn5 : (5 : Int32).toNatClampNeg = 5 := by decide +kernel
theorem tn6 : (6 : Int32).toNatClampNeg = 6 := by decide +kernel
theorem tn7 : (7 : Int32).toNatClampNeg = 7 := by decide +kernel
theorem tn8 : (8 : Int32).toNatClampNeg = 8 := by decide +kernel
theorem tn9 : (9 : Int32).toNatClampNeg = 9 := by decide +kernel
theorem tn10 : (10 : Int32).toNatClampNeg = 10 := by decide +kernel
theorem tn11 : (11 : Int32).toNatClampNeg = 11 := by decide +kernel
theorem tn12 : (12 : Int32).toNatClampNeg = 12 := by decide +kernel
theorem tn13 : (13 : Int32).toNatClampNeg = 13 := by decide +kernel
theorem tn14 : (14 : Int32).toNatClampNeg = 14 := by decide +kernel
theorem tn15 : (15 : Int32).toNatClampNeg = 15 := by decide +kernel
theorem tn16 : (16 : Int32).toNatClampNeg = 16 := by decide +kernel
theorem tn17 : (17 : Int32).toNatClampNeg = 17 := by decide +kernel
theorem tn18 : (18 : Int32).toNatClampNeg = 18 := by decide +kernel
theorem tn19 : (19 : Int32).toNatClampNeg = 19 := by decide +kernel
theorem tn20 : (20 : Int32).toNatClampNeg = 20 := by decide +kernel
theorem tn21 : (21 : Int32).toNatClampNeg = 21 := by decide +kernel
theorem tn22 : (22 : Int32).toNatClampNeg = 22 := by decide +kernel
theorem tn23 : (23 : Int32).toNatClampNeg = 23 := by decide +kernel
theorem tn24 : (24 : Int32).toNatClampNeg = 24 := by decide +kernel
theorem tn25 : (25 : Int32).toNatClampNeg = 25 := by decide +kernel
theorem tn26 : (26 : Int32).toNatClampNeg = 26 := by decide +kernel
theorem tn27 : (27 : Int32).toNatClampNeg = 27 := by decide +kernel
theorem tn28 : (28 : Int32).toNatClampNeg = 28 := by decide +kernel
theorem tn29 : (29 : Int32).toNatClampNeg = 29 := by decide +kernel
theorem tn30 : (30 : Int32).toNatClampNeg = 30 := by decide +kernel
theorem tn31 : (31 : Int32).toNatClampNeg = 31 := by decide +kernel
theorem tn32 : (32 : Int32).toNatClampNeg = 32 := by decide +kernel
theorem tn33 : (33 : Int32).toNatClampNeg = 33 := by decide +kernel
theorem tn34 : (34 : Int32).toNatClampNeg = 34 := by decide +kernel
theorem tn35 : (35 : Int32).toNatClampNeg = 35 := by decide +kernel
theorem tn36 : (36 : Int32).toNatClampNeg = 36 := by decide +kernel
theorem tn37 : (37 : Int32).toNatClampNeg = 37 := by decide +kernel
theorem tn38 : (38 : Int32).toNatClampNeg = 38 := by decide +kernel
theorem tn39 : (39 : Int32).toNatClampNeg = 39 := by decide +kernel
theorem tn40 : (40 : Int32).toNatClampNeg = 40 := by decide +kernel
theorem tn41 : (41 : Int32).toNatClampNeg = 41 := by decide +kernel
theorem tn46 : (46 : Int32).toNatClampNeg = 46 := by decide +kernel
theorem tn118 : (118 : Int32).toNatClampNeg = 118 := by decide +kernel
theorem tn120 : (120 : Int32).toNatClampNeg = 120 := by decide +kernel
theorem tn142 : (142 : Int32).toNatClampNeg = 142 := by decide +kernel
theorem tn146 : (146 : Int32).toNatClampNeg = 146 := by decide +kernel
theorem tn147 : (147 : Int32).toNatClampNeg = 147 := by decide +kernel
theorem tn148 : (148 : Int32).toNatClampNeg = 148 := by decide +kernel
theorem tn160 : (160 : Int32).toNatClampNeg = 160 := by decide +kernel
theorem li0 : (0 : Int32) = nI 0 := by decide +kernel
theorem li1 : (1 : Int32) = nI 1 := by decide +kernel
theorem li2 : (2 : Int32) = nI 2 := by decide +kernel
theorem li3 : (3 : Int32) = nI 3 := by decide +kernel
theorem li4 : (4 : Int32) = nI 4 := by decide +kernel
theorem li5 : (5 : Int32) = nI 5 := by decide +kernel
theorem li6 : (6 : Int32) = nI 6 := by decide +kernel
theorem li7 : (7 : Int32) = nI 7 := by decide +kernel
theorem kn_all : ∀ k, k < NC → (sh k).1 = 2 → (rf k 0 = k + 1 ∧ rf k 1 = k + 2 ∧ rf k 2 = k + 3 ∧ rf k 3 = k + 4 ∧ rf k 7 = k + 5) ∧ (sh (k + 1) = (100, 3) ∧ sh (k + 2) = (100, 3) ∧ sh (k + 3) = (100, 3) ∧ sh (k + 4) = (102, 8) ∧ sh (k + 5) = (100, 3)) ∧ (∀ i, i < 8 → rf (k + 4) i = k + 6 + i ∧ sh (k + 6 + i) = (3, 10)) ∧ k + 14 ≤ 127 := by
  have h : (List.range NC).all (fun k => !decide ((sh k).1 = 2) || (decide ((rf k 0 = k + 1 ∧ rf k 1 = k + 2 ∧ rf k 2 = k + 3 ∧ rf k 3 = k + 4 ∧ rf k 7 = k + 5) ∧ (sh (k + 1) = (100, 3) ∧ sh (k + 2) = (100, 3) ∧ sh (k + 3) = (100, 3) ∧ sh (k + 4) = (102, 8) ∧ sh (k + 5) = (100, 3)) ∧ k + 14 ≤ 127) && (List.range 8).all (fun i => decide (rf (k + 4) i = k + 6 + i ∧ sh (k + 6 + i) = (3, 10))))) = true := by decide +kernel
  intro k hk h2
  have := List.all_eq_true.mp h k (List.mem_range.mpr hk)
  simp only [h2, decide_true, Bool.not_true, Bool.false_or, Bool.and_eq_true, decide_eq_true_eq, List.all_eq_true, List.mem_range] at this
  exact ⟨this.1.1, this.1.2.1, this.2, this.1.2.2⟩
theorem co_all : ∀ k, k < NC → (sh k).1 = 0 → rf k 0 = k + 1 ∧ rf k 1 = k + 2 ∧ sh (k + 1) = (100, 18) ∧ sh (k + 2) = (100, 6) ∧ k + 3 ≤ 152 := by decide +kernel
theorem se_all : ∀ k, k < NC → (sh k).1 = 6 → rf k 2 = k + 1 ∧ sh (k + 1) = (100, 40) ∧ k + 2 ≤ 160 := by decide +kernel
theorem cr_all : ∀ c, c < 4 → rf 43 c = 128 + 6 * c ∧ (sh (128 + 6 * c)).1 = 0 ∧ rf 44 c = 131 + 6 * c ∧ (sh (131 + 6 * c)).1 = 0 := by decide +kernel
theorem sr_all : ∀ c, c < 4 → rf 127 c = 152 + 2 * c ∧ (sh (152 + 2 * c)).1 = 6 := by decide +kernel
theorem pk_all : ∀ c, c < 5 → rf 54 c = 57 + 14 * c ∧ (sh (57 + 14 * c)).1 = 2 := by decide +kernel
