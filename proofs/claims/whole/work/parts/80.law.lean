theorem law_true (xs : Nat → Int32) (L : Nat) (hL : L ≤ 2560) : wL_law xs L sInit True := by
  have lp : ∀ r i s, L ≤ i + r → i ≤ 2560 → Inv s → wL_law_18 xs L (nI i) s True := by
    intro r i s hr hi hI P hP
    induction r generalizing i s with
    | zero =>
      refine hP _ _ ?_
      unfold wL_law_18_b
      have e : Int32.ofNat L - 5 < nI i := by
        have e5 : (5 : Int32).toInt = 5 := by decide
        rw [Int32.lt_iff_toInt_lt, show Int32.ofNat L = nI L from rfl, fb_subI (by rw [nI_i (by omega), e5]; omega) (by rw [nI_i (by omega), e5]; omega), nI_i (by omega), nI_i (by omega), e5]
        omega
      try dsimp only
      rw [if_pos e]
      exact ⟨rfl, trivial⟩
    | succ r ih =>
      refine hP _ _ ?_
      unfold wL_law_18_b
      by_cases z : L < i + 5
      · have e : Int32.ofNat L - 5 < nI i := by
          have e5 : (5 : Int32).toInt = 5 := by decide
          rw [Int32.lt_iff_toInt_lt, show Int32.ofNat L = nI L from rfl, fb_subI (by rw [nI_i (by omega), e5]; omega) (by rw [nI_i (by omega), e5]; omega), nI_i (by omega), nI_i (by omega), e5]
          omega
        try dsimp only
        rw [if_pos e]
        exact ⟨rfl, trivial⟩
      · have e : ¬ Int32.ofNat L - 5 < nI i := by
          have e5 : (5 : Int32).toInt = 5 := by decide
          rw [Int32.lt_iff_toInt_lt, show Int32.ofNat L = nI L from rfl, fb_subI (by rw [nI_i (by omega), e5]; omega) (by rw [nI_i (by omega), e5]; omega), nI_i (by omega), nI_i (by omega), e5]
          omega
        try dsimp only
        rw [if_neg e]
        have v0 : vp_in (nI i) L = True := eq_true (vin (by omega) (by omega))
        have v1 : vp_in (nI i + 1) L = True := eq_true (by rw [nI_1]; exact vin (by omega) (by omega))
        have v2 : vp_in (nI i + 2) L = True := eq_true (by rw [show nI i + 2 = nI (i + 2) from nI_add i 2]; exact vin (by omega) (by omega))
        have v3 : vp_in (nI i + 3) L = True := eq_true (by rw [show nI i + 3 = nI (i + 3) from nI_add i 3]; exact vin (by omega) (by omega))
        have v4 : vp_in (nI i + 4) L = True := eq_true (by rw [show nI i + 4 = nI (i + 4) from nI_add i 4]; exact vin (by omega) (by omega))
        have nx : ∀ s', Inv s' → P (nI i + 5) s' := fun s' hI' => by
          rw [show nI i + 5 = nI (i + 5) from nI_add i 5]
          exact ih (i + 5) s' (by omega) (by omega) hI'
        have kk : ∀ r s', Inv s' → (fun (r r' : Int32) (s2 : St) => (if r = r' then P (nI i + 5) s2 else ((0 : Int32) = 1 ∧ True))) r r s' := fun r s' hI' => by
          show (if r = r then P (nI i + 5) s' else _)
          try dsimp only
          rw [if_pos rfl]
          exact nx s' hI'
        simp only [wL_law_178, wL_law_200, wL_law_280, wL_law_307, v0, v1, v2, v3, v4, true_and]
        generalize xs (nI i).toNatClampNeg &&& 31 = w
        generalize xs (nI i + 1).toNatClampNeg = b1
        generalize xs (nI i + 2).toNatClampNeg = b2
        generalize xs (nI i + 3).toNatClampNeg = b3
        generalize xs (nI i + 4).toNatClampNeg = b4
        by_cases c0 : w = 0
        · try dsimp only
          rw [if_pos c0]
          by_cases d : b1 = 0
          · simp only [if_pos d]
            exact op_person 0 b2 s hI _ kk
          · simp only [if_neg d]
            exact op_person 1 b2 s hI _ kk
        · try dsimp only
          rw [if_neg c0]
          by_cases c1 : w = 1
          · try dsimp only
            rw [if_pos c1]
            exact op_introduce b1 b2 b3 s hI _ kk
          · try dsimp only
            rw [if_neg c1]
            by_cases c2 : w = 2
            · try dsimp only
              rw [if_pos c2]
              by_cases d : b3 = 0
              · simp only [if_pos d]
                exact op_feud b1 b2 0 (Or.inl rfl) s hI _ kk
              · simp only [if_neg d]
                exact op_feud b1 b2 1 (Or.inr rfl) s hI _ kk
            · try dsimp only
              rw [if_neg c2]
              by_cases c3 : w = 3
              · try dsimp only
                rw [if_pos c3]
                exact op_knows b1 b2 s hI _ kk
              · try dsimp only
                rw [if_neg c3]
                by_cases c4 : w = 4
                · try dsimp only
                  rw [if_pos c4]
                  exact op_feed _ s hI _ kk
                · try dsimp only
                  rw [if_neg c4]
                  by_cases c5 : w = 5
                  · try dsimp only
                    rw [if_pos c5]
                    exact op_end b1 s hI _ kk
                  · try dsimp only
                    rw [if_neg c5]
                    by_cases c6 : w = 6
                    · try dsimp only
                      rw [if_pos c6]
                      exact op_customs s hI _ kk
                    · try dsimp only
                      rw [if_neg c6]
                      by_cases c7 : w = 7
                      · try dsimp only
                        rw [if_pos c7]
                        exact op_fault s hI _ kk
                      · try dsimp only
                        rw [if_neg c7]
                        by_cases c8 : w = 8
                        · try dsimp only
                          rw [if_pos c8]
                          exact op_custom b1 s hI _ kk
                        · try dsimp only
                          rw [if_neg c8]
                          by_cases c9 : w = 9
                          · try dsimp only
                            rw [if_pos c9]
                            exact op_ask b1 b2 b3 s hI _ kk
                          · try dsimp only
                            rw [if_neg c9]
                            by_cases c10 : w = 10
                            · try dsimp only
                              rw [if_pos c10]
                              exact op_why b1 b2 b3 s hI _ kk
                            · try dsimp only
                              rw [if_neg c10]
                              by_cases c11 : w = 11
                              · try dsimp only
                                rw [if_pos c11]
                                exact op_refuse b1 b2 b3 s hI _ kk
                              · try dsimp only
                                rw [if_neg c11]
                                by_cases c12 : w = 12
                                · try dsimp only
                                  rw [if_pos c12]
                                  exact op_part b1 b2 b3 s hI _ kk
                                · try dsimp only
                                  rw [if_neg c12]
                                  by_cases c13 : w = 13
                                  · try dsimp only
                                    rw [if_pos c13]
                                    exact op_swap b1 b2 b3 s hI _ kk
                                  · try dsimp only
                                    rw [if_neg c13]
                                    by_cases c14 : w = 14
                                    · try dsimp only
                                      rw [if_pos c14]
                                      exact op_card b1 b2 s hI _ kk
                                    · try dsimp only
                                      rw [if_neg c14]
                                      by_cases c15 : w = 15
                                      · try dsimp only
                                        rw [if_pos c15]
                                        exact op_ill b1 s hI _ kk
                                      · try dsimp only
                                        rw [if_neg c15]
                                        by_cases c16 : w = 16
                                        · try dsimp only
                                          rw [if_pos c16]
                                          exact op_well b1 s hI _ kk
                                        · try dsimp only
                                          rw [if_neg c16]
                                          by_cases c17 : w = 17
                                          · try dsimp only
                                            rw [if_pos c17]
                                            exact op_could b1 s hI _ kk
                                          · try dsimp only
                                            rw [if_neg c17]
                                            by_cases c18 : w = 18
                                            · try dsimp only
                                              rw [if_pos c18]
                                              exact op_fill b1 s hI _ kk
                                            · try dsimp only
                                              rw [if_neg c18]
                                              by_cases c19 : w = 19
                                              · try dsimp only
                                                rw [if_pos c19]
                                                exact op_about b1 b2 s hI _ kk
                                              · try dsimp only
                                                rw [if_neg c19]
                                                by_cases c20 : w = 20
                                                · try dsimp only
                                                  rw [if_pos c20]
                                                  exact op_sheet b1 b2 b3 s hI _ kk
                                                · try dsimp only
                                                  rw [if_neg c20]
                                                  by_cases c21 : w = 21
                                                  · try dsimp only
                                                    rw [if_pos c21]
                                                    exact op_lay b1 b2 b3 s hI _ kk
                                                  · try dsimp only
                                                    rw [if_neg c21]
                                                    by_cases c22 : w = 22
                                                    · try dsimp only
                                                      rw [if_pos c22]
                                                      exact op_scan b1 b2 b3 b4 s hI _ kk
                                                    · try dsimp only
                                                      rw [if_neg c22]
                                                      by_cases c23 : w = 23
                                                      · try dsimp only
                                                        rw [if_pos c23]
                                                        exact op_wish b1 b2 b3 s hI _ kk
                                                      · try dsimp only
                                                        rw [if_neg c23]
                                                        by_cases c24 : w = 24
                                                        · try dsimp only
                                                          rw [if_pos c24]
                                                          exact op_fewest s hI _ kk
                                                        · try dsimp only
                                                          rw [if_neg c24]
                                                          by_cases c25 : w = 25
                                                          · try dsimp only
                                                            rw [if_pos c25]
                                                            exact op_laid b1 b2 s hI _ kk
                                                          · try dsimp only
                                                            rw [if_neg c25]
                                                            by_cases c26 : w = 26
                                                            · try dsimp only
                                                              rw [if_pos c26]
                                                              exact op_sets b1 s hI _ kk
                                                            · try dsimp only
                                                              rw [if_neg c26]
                                                              by_cases c27 : w = 27
                                                              · try dsimp only
                                                                rw [if_pos c27]
                                                                exact op_set b1 b2 s hI _ kk
                                                              · try dsimp only
                                                                rw [if_neg c27]
                                                                by_cases c28 : w = 28
                                                                · try dsimp only
                                                                  rw [if_pos c28]
                                                                  exact op_count b1 s hI _ kk
                                                                · try dsimp only
                                                                  rw [if_neg c28]
                                                                  exact nx s hI
  exact lp L 0 sInit (by omega) (by omega) inv_init
