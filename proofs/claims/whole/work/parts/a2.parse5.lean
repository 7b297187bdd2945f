/-! how many numbers an item has; is one of them in bounds -/
section
variable {h : kH}
theorem rq_parts {x : Int32} : p_X8_parts x h = some (nI ((k_sl (bI x)).length / 2), h) := by
  unfold p_X8_parts
  by_cases z1 : x = nI 112
  · subst z1; rfl
  · rw [if_neg z1]
    by_cases z2 : x = nI 99
    · subst z2; rfl
    · rw [if_neg z2]
      by_cases z3 : x = nI 107
      · subst z3; rfl
      · rw [if_neg z3]
        by_cases z4 : x = nI 119
        · subst z4; rfl
        · rw [if_neg z4]
          by_cases z5 : x = nI 111
          · subst z5; rfl
          · rw [if_neg z5]
            by_cases z6 : x = nI 115
            · subst z6; rfl
            · rw [if_neg z6]
              by_cases z7 : x = nI 104
              · subst z7; rfl
              · rw [if_neg z7]
                by_cases z8 : x = nI 100
                · subst z8; rfl
                · rw [if_neg z8]
                  by_cases z9 : x = nI 108
                  · subst z9; rfl
                  · rw [if_neg z9]
                    by_cases z10 : x = nI 118
                    · subst z10; rfl
                    · rw [if_neg z10]
                      have : bI x = 9 := by
                        unfold bI
                        rw [if_neg z2, if_neg z8, if_neg z7, if_neg z3, if_neg z9, if_neg z5, if_neg z1, if_neg z6, if_neg z10, if_neg z4]
                      rw [this]; rfl
theorem rq_isIn {k lo hi : Nat} (hk : k < 6) (h1 : lo < 2 ^ 31) (h2 : hi < 2 ^ 31) : p_X8_isIn (nI k) (nI lo) (nI hi) h = some (b1 (okI (h 151 k) lo hi), h) := by
  unfold p_X8_isIn
  rw [gd_i (by omega) (by omega), nI_clamp (by omega), rq_io (lo := (lo : Int)) (hi := (hi : Int)) (by rw [Int32.toInt_toInt64, nI_toInt h1]) (by rw [Int32.toInt_toInt64, nI_toInt h2]), bd2_s, gd_t (decide_eq_true b1_ni)]
end
