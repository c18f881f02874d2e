/-! The law: two values joined, in both. -/
theorem div_m1 (a : Int32) : a / -1 = -a := by
  apply Int32.toInt_inj.mp
  have e1 : (-1 : Int32).toInt = -1 := by decide
  rw [Int32.toInt_div, e1, Int.tdiv_neg, Int.tdiv_one, Int32.toInt_neg]
theorem rm_m1 (a : Int32) : xrm a (-1) = 0 := by
  unfold xrm
  rw [div_m1, Int32.mul_neg, Int32.mul_one, Int32.neg_neg, Int32.sub_self]
theorem two_eq (o a b : Int32) : J_X2_joined o a b = J_X9_twoOf o a b := by
  have nz : ∀ {y : Int32}, ¬ y = 0 → xnz y = true := fun h => by simpa [xnz] using h
  unfold J_X2_joined J_X9_twoOf J_X9_twoOf_163 J_X2_joined_203 J_X2_joined_211 J_X9_twoOf_218 J_X9_twoOf_226
  by_cases h1 : o = 37
  · rw [if_pos h1, if_pos h1]
    by_cases z : b = 0
    · rw [if_pos z, if_pos z]
    · rw [if_neg z, if_neg z, nz z, xgd_t]
      by_cases z2 : b = -1
      · rw [if_pos z2, z2, rm_m1]
      · rw [if_neg z2]
  · rw [if_neg h1, if_neg h1]
    by_cases h2 : o = 38
    · rw [if_pos h2, if_pos h2]
    · rw [if_neg h2, if_neg h2]
      by_cases h3 : o = 42
      · rw [if_pos h3, if_pos h3]
      · rw [if_neg h3, if_neg h3]
        by_cases h4 : o = 43
        · rw [if_pos h4, if_pos h4]
        · rw [if_neg h4, if_neg h4]
          by_cases h5 : o = 45
          · rw [if_pos h5, if_pos h5]
          · rw [if_neg h5, if_neg h5]
            by_cases h6 : o = 47
            · rw [if_pos h6, if_pos h6]
              by_cases z : b = 0
              · rw [if_pos z, if_pos z]
              · rw [if_neg z, if_neg z, nz z, xgd_t]
                by_cases z2 : b = -1
                · rw [if_pos z2, z2, div_m1]
                · rw [if_neg z2]
            · rw [if_neg h6, if_neg h6]
