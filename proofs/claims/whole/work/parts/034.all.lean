theorem sm_nb {a b : Nat} (h : Nat.blt a b = false) : b ≤ a := Nat.not_lt.mp fun q => by rw [show Nat.blt a b = true from Nat.ble_eq_true_of_le q] at h; cases h
theorem sm_all (k : Nat) (r : sm_row) (hr : r ∈ sm_tab k) : sm_ok k r := by
  unfold sm_tab at hr
  cases h0 : Nat.blt k 210 with
  | false => rw [h0] at hr; exact absurd hr List.not_mem_nil
  | true =>
    rw [h0, cond_true] at hr
    have u0 := Nat.le_of_ble_eq_true h0
    cases h1 : Nat.blt k 105 with
    | true =>
      rw [h1, cond_true] at hr
      have u1 := Nat.le_of_ble_eq_true h1
      cases h2 : Nat.blt k 52 with
      | true =>
        rw [h2, cond_true] at hr
        have u2 := Nat.le_of_ble_eq_true h2
        cases h3 : Nat.blt k 26 with
        | true =>
          rw [h3, cond_true] at hr
          have u3 := Nat.le_of_ble_eq_true h3
          cases h4 : Nat.blt k 13 with
          | true =>
            rw [h4, cond_true] at hr
            have u4 := Nat.le_of_ble_eq_true h4
            cases h5 : Nat.blt k 6 with
            | true =>
              rw [h5, cond_true] at hr
              have u5 := Nat.le_of_ble_eq_true h5
              cases h6 : Nat.blt k 3 with
              | true =>
                rw [h6, cond_true] at hr
                have u6 := Nat.le_of_ble_eq_true h6
                cases h7 : Nat.blt k 1 with
                | true =>
                  rw [h7, cond_true] at hr
                  have u7 := Nat.le_of_ble_eq_true h7
                  obtain rfl : k = 0 := by omega
                  exact ok_0 r hr
                | false =>
                  rw [h7, cond_false] at hr
                  have u7 := sm_nb h7
                  cases h8 : Nat.blt k 2 with
                  | true =>
                    rw [h8, cond_true] at hr
                    have u8 := Nat.le_of_ble_eq_true h8
                    obtain rfl : k = 1 := by omega
                    exact ok_1 r hr
                  | false =>
                    rw [h8, cond_false] at hr
                    have u8 := sm_nb h8
                    obtain rfl : k = 2 := by omega
                    exact ok_2 r hr
              | false =>
                rw [h6, cond_false] at hr
                have u6 := sm_nb h6
                cases h9 : Nat.blt k 4 with
                | true =>
                  rw [h9, cond_true] at hr
                  have u9 := Nat.le_of_ble_eq_true h9
                  obtain rfl : k = 3 := by omega
                  exact ok_3 r hr
                | false =>
                  rw [h9, cond_false] at hr
                  have u9 := sm_nb h9
                  cases h10 : Nat.blt k 5 with
                  | true =>
                    rw [h10, cond_true] at hr
                    have u10 := Nat.le_of_ble_eq_true h10
                    obtain rfl : k = 4 := by omega
                    exact ok_4 r hr
                  | false =>
                    rw [h10, cond_false] at hr
                    have u10 := sm_nb h10
                    obtain rfl : k = 5 := by omega
                    exact ok_5 r hr
            | false =>
              rw [h5, cond_false] at hr
              have u5 := sm_nb h5
              cases h11 : Nat.blt k 9 with
              | true =>
                rw [h11, cond_true] at hr
                have u11 := Nat.le_of_ble_eq_true h11
                cases h12 : Nat.blt k 7 with
                | true =>
                  rw [h12, cond_true] at hr
                  have u12 := Nat.le_of_ble_eq_true h12
                  obtain rfl : k = 6 := by omega
                  exact ok_6 r hr
                | false =>
                  rw [h12, cond_false] at hr
                  have u12 := sm_nb h12
                  cases h13 : Nat.blt k 8 with
                  | true =>
                    rw [h13, cond_true] at hr
                    have u13 := Nat.le_of_ble_eq_true h13
                    obtain rfl : k = 7 := by omega
                    exact ok_7 r hr
                  | false =>
                    rw [h13, cond_false] at hr
                    have u13 := sm_nb h13
                    obtain rfl : k = 8 := by omega
                    exact ok_8 r hr
              | false =>
                rw [h11, cond_false] at hr
                have u11 := sm_nb h11
                cases h14 : Nat.blt k 11 with
                | true =>
                  rw [h14, cond_true] at hr
                  have u14 := Nat.le_of_ble_eq_true h14
                  cases h15 : Nat.blt k 10 with
                  | true =>
                    rw [h15, cond_true] at hr
                    have u15 := Nat.le_of_ble_eq_true h15
                    obtain rfl : k = 9 := by omega
                    exact ok_9 r hr
                  | false =>
                    rw [h15, cond_false] at hr
                    have u15 := sm_nb h15
                    obtain rfl : k = 10 := by omega
                    exact ok_10 r hr
                | false =>
                  rw [h14, cond_false] at hr
                  have u14 := sm_nb h14
                  cases h16 : Nat.blt k 12 with
                  | true =>
                    rw [h16, cond_true] at hr
                    have u16 := Nat.le_of_ble_eq_true h16
                    obtain rfl : k = 11 := by omega
                    exact ok_11 r hr
                  | false =>
                    rw [h16, cond_false] at hr
                    have u16 := sm_nb h16
                    obtain rfl : k = 12 := by omega
                    exact ok_12 r hr
          | false =>
            rw [h4, cond_false] at hr
            have u4 := sm_nb h4
            cases h17 : Nat.blt k 19 with
            | true =>
              rw [h17, cond_true] at hr
              have u17 := Nat.le_of_ble_eq_true h17
              cases h18 : Nat.blt k 16 with
              | true =>
                rw [h18, cond_true] at hr
                have u18 := Nat.le_of_ble_eq_true h18
                cases h19 : Nat.blt k 14 with
                | true =>
                  rw [h19, cond_true] at hr
                  have u19 := Nat.le_of_ble_eq_true h19
                  obtain rfl : k = 13 := by omega
                  exact ok_13 r hr
                | false =>
                  rw [h19, cond_false] at hr
                  have u19 := sm_nb h19
                  cases h20 : Nat.blt k 15 with
                  | true =>
                    rw [h20, cond_true] at hr
                    have u20 := Nat.le_of_ble_eq_true h20
                    obtain rfl : k = 14 := by omega
                    exact ok_14 r hr
                  | false =>
                    rw [h20, cond_false] at hr
                    have u20 := sm_nb h20
                    obtain rfl : k = 15 := by omega
                    exact ok_15 r hr
              | false =>
                rw [h18, cond_false] at hr
                have u18 := sm_nb h18
                cases h21 : Nat.blt k 17 with
                | true =>
                  rw [h21, cond_true] at hr
                  have u21 := Nat.le_of_ble_eq_true h21
                  obtain rfl : k = 16 := by omega
                  exact ok_16 r hr
                | false =>
                  rw [h21, cond_false] at hr
                  have u21 := sm_nb h21
                  cases h22 : Nat.blt k 18 with
                  | true =>
                    rw [h22, cond_true] at hr
                    have u22 := Nat.le_of_ble_eq_true h22
                    obtain rfl : k = 17 := by omega
                    exact ok_17 r hr
                  | false =>
                    rw [h22, cond_false] at hr
                    have u22 := sm_nb h22
                    obtain rfl : k = 18 := by omega
                    exact ok_18 r hr
            | false =>
              rw [h17, cond_false] at hr
              have u17 := sm_nb h17
              cases h23 : Nat.blt k 22 with
              | true =>
                rw [h23, cond_true] at hr
                have u23 := Nat.le_of_ble_eq_true h23
                cases h24 : Nat.blt k 20 with
                | true =>
                  rw [h24, cond_true] at hr
                  have u24 := Nat.le_of_ble_eq_true h24
                  obtain rfl : k = 19 := by omega
                  exact ok_19 r hr
                | false =>
                  rw [h24, cond_false] at hr
                  have u24 := sm_nb h24
                  cases h25 : Nat.blt k 21 with
                  | true =>
                    rw [h25, cond_true] at hr
                    have u25 := Nat.le_of_ble_eq_true h25
                    obtain rfl : k = 20 := by omega
                    exact ok_20 r hr
                  | false =>
                    rw [h25, cond_false] at hr
                    have u25 := sm_nb h25
                    obtain rfl : k = 21 := by omega
                    exact ok_21 r hr
              | false =>
                rw [h23, cond_false] at hr
                have u23 := sm_nb h23
                cases h26 : Nat.blt k 24 with
                | true =>
                  rw [h26, cond_true] at hr
                  have u26 := Nat.le_of_ble_eq_true h26
                  cases h27 : Nat.blt k 23 with
                  | true =>
                    rw [h27, cond_true] at hr
                    have u27 := Nat.le_of_ble_eq_true h27
                    obtain rfl : k = 22 := by omega
                    exact ok_22 r hr
                  | false =>
                    rw [h27, cond_false] at hr
                    have u27 := sm_nb h27
                    obtain rfl : k = 23 := by omega
                    exact ok_23 r hr
                | false =>
                  rw [h26, cond_false] at hr
                  have u26 := sm_nb h26
                  cases h28 : Nat.blt k 25 with
                  | true =>
                    rw [h28, cond_true] at hr
                    have u28 := Nat.le_of_ble_eq_true h28
                    obtain rfl : k = 24 := by omega
                    exact ok_24 r hr
                  | false =>
                    rw [h28, cond_false] at hr
                    have u28 := sm_nb h28
                    obtain rfl : k = 25 := by omega
                    exact ok_25 r hr
        | false =>
          rw [h3, cond_false] at hr
          have u3 := sm_nb h3
          cases h29 : Nat.blt k 39 with
          | true =>
            rw [h29, cond_true] at hr
            have u29 := Nat.le_of_ble_eq_true h29
            cases h30 : Nat.blt k 32 with
            | true =>
              rw [h30, cond_true] at hr
              have u30 := Nat.le_of_ble_eq_true h30
              cases h31 : Nat.blt k 29 with
              | true =>
                rw [h31, cond_true] at hr
                have u31 := Nat.le_of_ble_eq_true h31
                cases h32 : Nat.blt k 27 with
                | true =>
                  rw [h32, cond_true] at hr
                  have u32 := Nat.le_of_ble_eq_true h32
                  obtain rfl : k = 26 := by omega
                  exact ok_26 r hr
                | false =>
                  rw [h32, cond_false] at hr
                  have u32 := sm_nb h32
                  cases h33 : Nat.blt k 28 with
                  | true =>
                    rw [h33, cond_true] at hr
                    have u33 := Nat.le_of_ble_eq_true h33
                    obtain rfl : k = 27 := by omega
                    exact ok_27 r hr
                  | false =>
                    rw [h33, cond_false] at hr
                    have u33 := sm_nb h33
                    obtain rfl : k = 28 := by omega
                    exact ok_28 r hr
              | false =>
                rw [h31, cond_false] at hr
                have u31 := sm_nb h31
                cases h34 : Nat.blt k 30 with
                | true =>
                  rw [h34, cond_true] at hr
                  have u34 := Nat.le_of_ble_eq_true h34
                  obtain rfl : k = 29 := by omega
                  exact ok_29 r hr
                | false =>
                  rw [h34, cond_false] at hr
                  have u34 := sm_nb h34
                  cases h35 : Nat.blt k 31 with
                  | true =>
                    rw [h35, cond_true] at hr
                    have u35 := Nat.le_of_ble_eq_true h35
                    obtain rfl : k = 30 := by omega
                    exact ok_30 r hr
                  | false =>
                    rw [h35, cond_false] at hr
                    have u35 := sm_nb h35
                    obtain rfl : k = 31 := by omega
                    exact ok_31 r hr
            | false =>
              rw [h30, cond_false] at hr
              have u30 := sm_nb h30
              cases h36 : Nat.blt k 35 with
              | true =>
                rw [h36, cond_true] at hr
                have u36 := Nat.le_of_ble_eq_true h36
                cases h37 : Nat.blt k 33 with
                | true =>
                  rw [h37, cond_true] at hr
                  have u37 := Nat.le_of_ble_eq_true h37
                  obtain rfl : k = 32 := by omega
                  exact ok_32 r hr
                | false =>
                  rw [h37, cond_false] at hr
                  have u37 := sm_nb h37
                  cases h38 : Nat.blt k 34 with
                  | true =>
                    rw [h38, cond_true] at hr
                    have u38 := Nat.le_of_ble_eq_true h38
                    obtain rfl : k = 33 := by omega
                    exact ok_33 r hr
                  | false =>
                    rw [h38, cond_false] at hr
                    have u38 := sm_nb h38
                    obtain rfl : k = 34 := by omega
                    exact ok_34 r hr
              | false =>
                rw [h36, cond_false] at hr
                have u36 := sm_nb h36
                cases h39 : Nat.blt k 37 with
                | true =>
                  rw [h39, cond_true] at hr
                  have u39 := Nat.le_of_ble_eq_true h39
                  cases h40 : Nat.blt k 36 with
                  | true =>
                    rw [h40, cond_true] at hr
                    have u40 := Nat.le_of_ble_eq_true h40
                    obtain rfl : k = 35 := by omega
                    exact ok_35 r hr
                  | false =>
                    rw [h40, cond_false] at hr
                    have u40 := sm_nb h40
                    obtain rfl : k = 36 := by omega
                    exact ok_36 r hr
                | false =>
                  rw [h39, cond_false] at hr
                  have u39 := sm_nb h39
                  cases h41 : Nat.blt k 38 with
                  | true =>
                    rw [h41, cond_true] at hr
                    have u41 := Nat.le_of_ble_eq_true h41
                    obtain rfl : k = 37 := by omega
                    exact ok_37 r hr
                  | false =>
                    rw [h41, cond_false] at hr
                    have u41 := sm_nb h41
                    obtain rfl : k = 38 := by omega
                    exact ok_38 r hr
          | false =>
            rw [h29, cond_false] at hr
            have u29 := sm_nb h29
            cases h42 : Nat.blt k 45 with
            | true =>
              rw [h42, cond_true] at hr
              have u42 := Nat.le_of_ble_eq_true h42
              cases h43 : Nat.blt k 42 with
              | true =>
                rw [h43, cond_true] at hr
                have u43 := Nat.le_of_ble_eq_true h43
                cases h44 : Nat.blt k 40 with
                | true =>
                  rw [h44, cond_true] at hr
                  have u44 := Nat.le_of_ble_eq_true h44
                  obtain rfl : k = 39 := by omega
                  exact ok_39 r hr
                | false =>
                  rw [h44, cond_false] at hr
                  have u44 := sm_nb h44
                  cases h45 : Nat.blt k 41 with
                  | true =>
                    rw [h45, cond_true] at hr
                    have u45 := Nat.le_of_ble_eq_true h45
                    obtain rfl : k = 40 := by omega
                    exact ok_40 r hr
                  | false =>
                    rw [h45, cond_false] at hr
                    have u45 := sm_nb h45
                    obtain rfl : k = 41 := by omega
                    exact ok_41 r hr
              | false =>
                rw [h43, cond_false] at hr
                have u43 := sm_nb h43
                cases h46 : Nat.blt k 43 with
                | true =>
                  rw [h46, cond_true] at hr
                  have u46 := Nat.le_of_ble_eq_true h46
                  obtain rfl : k = 42 := by omega
                  exact ok_42 r hr
                | false =>
                  rw [h46, cond_false] at hr
                  have u46 := sm_nb h46
                  cases h47 : Nat.blt k 44 with
                  | true =>
                    rw [h47, cond_true] at hr
                    have u47 := Nat.le_of_ble_eq_true h47
                    obtain rfl : k = 43 := by omega
                    exact ok_43 r hr
                  | false =>
                    rw [h47, cond_false] at hr
                    have u47 := sm_nb h47
                    obtain rfl : k = 44 := by omega
                    exact ok_44 r hr
            | false =>
              rw [h42, cond_false] at hr
              have u42 := sm_nb h42
              cases h48 : Nat.blt k 48 with
              | true =>
                rw [h48, cond_true] at hr
                have u48 := Nat.le_of_ble_eq_true h48
                cases h49 : Nat.blt k 46 with
                | true =>
                  rw [h49, cond_true] at hr
                  have u49 := Nat.le_of_ble_eq_true h49
                  obtain rfl : k = 45 := by omega
                  exact ok_45 r hr
                | false =>
                  rw [h49, cond_false] at hr
                  have u49 := sm_nb h49
                  cases h50 : Nat.blt k 47 with
                  | true =>
                    rw [h50, cond_true] at hr
                    have u50 := Nat.le_of_ble_eq_true h50
                    obtain rfl : k = 46 := by omega
                    exact ok_46 r hr
                  | false =>
                    rw [h50, cond_false] at hr
                    have u50 := sm_nb h50
                    obtain rfl : k = 47 := by omega
                    exact ok_47 r hr
              | false =>
                rw [h48, cond_false] at hr
                have u48 := sm_nb h48
                cases h51 : Nat.blt k 50 with
                | true =>
                  rw [h51, cond_true] at hr
                  have u51 := Nat.le_of_ble_eq_true h51
                  cases h52 : Nat.blt k 49 with
                  | true =>
                    rw [h52, cond_true] at hr
                    have u52 := Nat.le_of_ble_eq_true h52
                    obtain rfl : k = 48 := by omega
                    exact ok_48 r hr
                  | false =>
                    rw [h52, cond_false] at hr
                    have u52 := sm_nb h52
                    obtain rfl : k = 49 := by omega
                    exact ok_49 r hr
                | false =>
                  rw [h51, cond_false] at hr
                  have u51 := sm_nb h51
                  cases h53 : Nat.blt k 51 with
                  | true =>
                    rw [h53, cond_true] at hr
                    have u53 := Nat.le_of_ble_eq_true h53
                    obtain rfl : k = 50 := by omega
                    exact ok_50 r hr
                  | false =>
                    rw [h53, cond_false] at hr
                    have u53 := sm_nb h53
                    obtain rfl : k = 51 := by omega
                    exact ok_51 r hr
      | false =>
        rw [h2, cond_false] at hr
        have u2 := sm_nb h2
        cases h54 : Nat.blt k 78 with
        | true =>
          rw [h54, cond_true] at hr
          have u54 := Nat.le_of_ble_eq_true h54
          cases h55 : Nat.blt k 65 with
          | true =>
            rw [h55, cond_true] at hr
            have u55 := Nat.le_of_ble_eq_true h55
            cases h56 : Nat.blt k 58 with
            | true =>
              rw [h56, cond_true] at hr
              have u56 := Nat.le_of_ble_eq_true h56
              cases h57 : Nat.blt k 55 with
              | true =>
                rw [h57, cond_true] at hr
                have u57 := Nat.le_of_ble_eq_true h57
                cases h58 : Nat.blt k 53 with
                | true =>
                  rw [h58, cond_true] at hr
                  have u58 := Nat.le_of_ble_eq_true h58
                  obtain rfl : k = 52 := by omega
                  exact ok_52 r hr
                | false =>
                  rw [h58, cond_false] at hr
                  have u58 := sm_nb h58
                  cases h59 : Nat.blt k 54 with
                  | true =>
                    rw [h59, cond_true] at hr
                    have u59 := Nat.le_of_ble_eq_true h59
                    obtain rfl : k = 53 := by omega
                    exact ok_53 r hr
                  | false =>
                    rw [h59, cond_false] at hr
                    have u59 := sm_nb h59
                    obtain rfl : k = 54 := by omega
                    exact ok_54 r hr
              | false =>
                rw [h57, cond_false] at hr
                have u57 := sm_nb h57
                cases h60 : Nat.blt k 56 with
                | true =>
                  rw [h60, cond_true] at hr
                  have u60 := Nat.le_of_ble_eq_true h60
                  obtain rfl : k = 55 := by omega
                  exact ok_55 r hr
                | false =>
                  rw [h60, cond_false] at hr
                  have u60 := sm_nb h60
                  cases h61 : Nat.blt k 57 with
                  | true =>
                    rw [h61, cond_true] at hr
                    have u61 := Nat.le_of_ble_eq_true h61
                    obtain rfl : k = 56 := by omega
                    exact ok_56 r hr
                  | false =>
                    rw [h61, cond_false] at hr
                    have u61 := sm_nb h61
                    obtain rfl : k = 57 := by omega
                    exact ok_57 r hr
            | false =>
              rw [h56, cond_false] at hr
              have u56 := sm_nb h56
              cases h62 : Nat.blt k 61 with
              | true =>
                rw [h62, cond_true] at hr
                have u62 := Nat.le_of_ble_eq_true h62
                cases h63 : Nat.blt k 59 with
                | true =>
                  rw [h63, cond_true] at hr
                  have u63 := Nat.le_of_ble_eq_true h63
                  obtain rfl : k = 58 := by omega
                  exact ok_58 r hr
                | false =>
                  rw [h63, cond_false] at hr
                  have u63 := sm_nb h63
                  cases h64 : Nat.blt k 60 with
                  | true =>
                    rw [h64, cond_true] at hr
                    have u64 := Nat.le_of_ble_eq_true h64
                    obtain rfl : k = 59 := by omega
                    exact ok_59 r hr
                  | false =>
                    rw [h64, cond_false] at hr
                    have u64 := sm_nb h64
                    obtain rfl : k = 60 := by omega
                    exact ok_60 r hr
              | false =>
                rw [h62, cond_false] at hr
                have u62 := sm_nb h62
                cases h65 : Nat.blt k 63 with
                | true =>
                  rw [h65, cond_true] at hr
                  have u65 := Nat.le_of_ble_eq_true h65
                  cases h66 : Nat.blt k 62 with
                  | true =>
                    rw [h66, cond_true] at hr
                    have u66 := Nat.le_of_ble_eq_true h66
                    obtain rfl : k = 61 := by omega
                    exact ok_61 r hr
                  | false =>
                    rw [h66, cond_false] at hr
                    have u66 := sm_nb h66
                    obtain rfl : k = 62 := by omega
                    exact ok_62 r hr
                | false =>
                  rw [h65, cond_false] at hr
                  have u65 := sm_nb h65
                  cases h67 : Nat.blt k 64 with
                  | true =>
                    rw [h67, cond_true] at hr
                    have u67 := Nat.le_of_ble_eq_true h67
                    obtain rfl : k = 63 := by omega
                    exact ok_63 r hr
                  | false =>
                    rw [h67, cond_false] at hr
                    have u67 := sm_nb h67
                    obtain rfl : k = 64 := by omega
                    exact ok_64 r hr
          | false =>
            rw [h55, cond_false] at hr
            have u55 := sm_nb h55
            cases h68 : Nat.blt k 71 with
            | true =>
              rw [h68, cond_true] at hr
              have u68 := Nat.le_of_ble_eq_true h68
              cases h69 : Nat.blt k 68 with
              | true =>
                rw [h69, cond_true] at hr
                have u69 := Nat.le_of_ble_eq_true h69
                cases h70 : Nat.blt k 66 with
                | true =>
                  rw [h70, cond_true] at hr
                  have u70 := Nat.le_of_ble_eq_true h70
                  obtain rfl : k = 65 := by omega
                  exact ok_65 r hr
                | false =>
                  rw [h70, cond_false] at hr
                  have u70 := sm_nb h70
                  cases h71 : Nat.blt k 67 with
                  | true =>
                    rw [h71, cond_true] at hr
                    have u71 := Nat.le_of_ble_eq_true h71
                    obtain rfl : k = 66 := by omega
                    exact ok_66 r hr
                  | false =>
                    rw [h71, cond_false] at hr
                    have u71 := sm_nb h71
                    obtain rfl : k = 67 := by omega
                    exact ok_67 r hr
              | false =>
                rw [h69, cond_false] at hr
                have u69 := sm_nb h69
                cases h72 : Nat.blt k 69 with
                | true =>
                  rw [h72, cond_true] at hr
                  have u72 := Nat.le_of_ble_eq_true h72
                  obtain rfl : k = 68 := by omega
                  exact ok_68 r hr
                | false =>
                  rw [h72, cond_false] at hr
                  have u72 := sm_nb h72
                  cases h73 : Nat.blt k 70 with
                  | true =>
                    rw [h73, cond_true] at hr
                    have u73 := Nat.le_of_ble_eq_true h73
                    obtain rfl : k = 69 := by omega
                    exact ok_69 r hr
                  | false =>
                    rw [h73, cond_false] at hr
                    have u73 := sm_nb h73
                    obtain rfl : k = 70 := by omega
                    exact ok_70 r hr
            | false =>
              rw [h68, cond_false] at hr
              have u68 := sm_nb h68
              cases h74 : Nat.blt k 74 with
              | true =>
                rw [h74, cond_true] at hr
                have u74 := Nat.le_of_ble_eq_true h74
                cases h75 : Nat.blt k 72 with
                | true =>
                  rw [h75, cond_true] at hr
                  have u75 := Nat.le_of_ble_eq_true h75
                  obtain rfl : k = 71 := by omega
                  exact ok_71 r hr
                | false =>
                  rw [h75, cond_false] at hr
                  have u75 := sm_nb h75
                  cases h76 : Nat.blt k 73 with
                  | true =>
                    rw [h76, cond_true] at hr
                    have u76 := Nat.le_of_ble_eq_true h76
                    obtain rfl : k = 72 := by omega
                    exact ok_72 r hr
                  | false =>
                    rw [h76, cond_false] at hr
                    have u76 := sm_nb h76
                    obtain rfl : k = 73 := by omega
                    exact ok_73 r hr
              | false =>
                rw [h74, cond_false] at hr
                have u74 := sm_nb h74
                cases h77 : Nat.blt k 76 with
                | true =>
                  rw [h77, cond_true] at hr
                  have u77 := Nat.le_of_ble_eq_true h77
                  cases h78 : Nat.blt k 75 with
                  | true =>
                    rw [h78, cond_true] at hr
                    have u78 := Nat.le_of_ble_eq_true h78
                    obtain rfl : k = 74 := by omega
                    exact ok_74 r hr
                  | false =>
                    rw [h78, cond_false] at hr
                    have u78 := sm_nb h78
                    obtain rfl : k = 75 := by omega
                    exact ok_75 r hr
                | false =>
                  rw [h77, cond_false] at hr
                  have u77 := sm_nb h77
                  cases h79 : Nat.blt k 77 with
                  | true =>
                    rw [h79, cond_true] at hr
                    have u79 := Nat.le_of_ble_eq_true h79
                    obtain rfl : k = 76 := by omega
                    exact ok_76 r hr
                  | false =>
                    rw [h79, cond_false] at hr
                    have u79 := sm_nb h79
                    obtain rfl : k = 77 := by omega
                    exact ok_77 r hr
        | false =>
          rw [h54, cond_false] at hr
          have u54 := sm_nb h54
          cases h80 : Nat.blt k 91 with
          | true =>
            rw [h80, cond_true] at hr
            have u80 := Nat.le_of_ble_eq_true h80
            cases h81 : Nat.blt k 84 with
            | true =>
              rw [h81, cond_true] at hr
              have u81 := Nat.le_of_ble_eq_true h81
              cases h82 : Nat.blt k 81 with
              | true =>
                rw [h82, cond_true] at hr
                have u82 := Nat.le_of_ble_eq_true h82
                cases h83 : Nat.blt k 79 with
                | true =>
                  rw [h83, cond_true] at hr
                  have u83 := Nat.le_of_ble_eq_true h83
                  obtain rfl : k = 78 := by omega
                  exact ok_78 r hr
                | false =>
                  rw [h83, cond_false] at hr
                  have u83 := sm_nb h83
                  cases h84 : Nat.blt k 80 with
                  | true =>
                    rw [h84, cond_true] at hr
                    have u84 := Nat.le_of_ble_eq_true h84
                    obtain rfl : k = 79 := by omega
                    exact ok_79 r hr
                  | false =>
                    rw [h84, cond_false] at hr
                    have u84 := sm_nb h84
                    obtain rfl : k = 80 := by omega
                    exact ok_80 r hr
              | false =>
                rw [h82, cond_false] at hr
                have u82 := sm_nb h82
                cases h85 : Nat.blt k 82 with
                | true =>
                  rw [h85, cond_true] at hr
                  have u85 := Nat.le_of_ble_eq_true h85
                  obtain rfl : k = 81 := by omega
                  exact ok_81 r hr
                | false =>
                  rw [h85, cond_false] at hr
                  have u85 := sm_nb h85
                  cases h86 : Nat.blt k 83 with
                  | true =>
                    rw [h86, cond_true] at hr
                    have u86 := Nat.le_of_ble_eq_true h86
                    obtain rfl : k = 82 := by omega
                    exact ok_82 r hr
                  | false =>
                    rw [h86, cond_false] at hr
                    have u86 := sm_nb h86
                    obtain rfl : k = 83 := by omega
                    exact ok_83 r hr
            | false =>
              rw [h81, cond_false] at hr
              have u81 := sm_nb h81
              cases h87 : Nat.blt k 87 with
              | true =>
                rw [h87, cond_true] at hr
                have u87 := Nat.le_of_ble_eq_true h87
                cases h88 : Nat.blt k 85 with
                | true =>
                  rw [h88, cond_true] at hr
                  have u88 := Nat.le_of_ble_eq_true h88
                  obtain rfl : k = 84 := by omega
                  exact ok_84 r hr
                | false =>
                  rw [h88, cond_false] at hr
                  have u88 := sm_nb h88
                  cases h89 : Nat.blt k 86 with
                  | true =>
                    rw [h89, cond_true] at hr
                    have u89 := Nat.le_of_ble_eq_true h89
                    obtain rfl : k = 85 := by omega
                    exact ok_85 r hr
                  | false =>
                    rw [h89, cond_false] at hr
                    have u89 := sm_nb h89
                    obtain rfl : k = 86 := by omega
                    exact ok_86 r hr
              | false =>
                rw [h87, cond_false] at hr
                have u87 := sm_nb h87
                cases h90 : Nat.blt k 89 with
                | true =>
                  rw [h90, cond_true] at hr
                  have u90 := Nat.le_of_ble_eq_true h90
                  cases h91 : Nat.blt k 88 with
                  | true =>
                    rw [h91, cond_true] at hr
                    have u91 := Nat.le_of_ble_eq_true h91
                    obtain rfl : k = 87 := by omega
                    exact ok_87 r hr
                  | false =>
                    rw [h91, cond_false] at hr
                    have u91 := sm_nb h91
                    obtain rfl : k = 88 := by omega
                    exact ok_88 r hr
                | false =>
                  rw [h90, cond_false] at hr
                  have u90 := sm_nb h90
                  cases h92 : Nat.blt k 90 with
                  | true =>
                    rw [h92, cond_true] at hr
                    have u92 := Nat.le_of_ble_eq_true h92
                    obtain rfl : k = 89 := by omega
                    exact ok_89 r hr
                  | false =>
                    rw [h92, cond_false] at hr
                    have u92 := sm_nb h92
                    obtain rfl : k = 90 := by omega
                    exact ok_90 r hr
          | false =>
            rw [h80, cond_false] at hr
            have u80 := sm_nb h80
            cases h93 : Nat.blt k 98 with
            | true =>
              rw [h93, cond_true] at hr
              have u93 := Nat.le_of_ble_eq_true h93
              cases h94 : Nat.blt k 94 with
              | true =>
                rw [h94, cond_true] at hr
                have u94 := Nat.le_of_ble_eq_true h94
                cases h95 : Nat.blt k 92 with
                | true =>
                  rw [h95, cond_true] at hr
                  have u95 := Nat.le_of_ble_eq_true h95
                  obtain rfl : k = 91 := by omega
                  exact ok_91 r hr
                | false =>
                  rw [h95, cond_false] at hr
                  have u95 := sm_nb h95
                  cases h96 : Nat.blt k 93 with
                  | true =>
                    rw [h96, cond_true] at hr
                    have u96 := Nat.le_of_ble_eq_true h96
                    obtain rfl : k = 92 := by omega
                    exact ok_92 r hr
                  | false =>
                    rw [h96, cond_false] at hr
                    have u96 := sm_nb h96
                    obtain rfl : k = 93 := by omega
                    exact ok_93 r hr
              | false =>
                rw [h94, cond_false] at hr
                have u94 := sm_nb h94
                cases h97 : Nat.blt k 96 with
                | true =>
                  rw [h97, cond_true] at hr
                  have u97 := Nat.le_of_ble_eq_true h97
                  cases h98 : Nat.blt k 95 with
                  | true =>
                    rw [h98, cond_true] at hr
                    have u98 := Nat.le_of_ble_eq_true h98
                    obtain rfl : k = 94 := by omega
                    exact ok_94 r hr
                  | false =>
                    rw [h98, cond_false] at hr
                    have u98 := sm_nb h98
                    obtain rfl : k = 95 := by omega
                    exact ok_95 r hr
                | false =>
                  rw [h97, cond_false] at hr
                  have u97 := sm_nb h97
                  cases h99 : Nat.blt k 97 with
                  | true =>
                    rw [h99, cond_true] at hr
                    have u99 := Nat.le_of_ble_eq_true h99
                    obtain rfl : k = 96 := by omega
                    exact ok_96 r hr
                  | false =>
                    rw [h99, cond_false] at hr
                    have u99 := sm_nb h99
                    obtain rfl : k = 97 := by omega
                    exact ok_97 r hr
            | false =>
              rw [h93, cond_false] at hr
              have u93 := sm_nb h93
              cases h100 : Nat.blt k 101 with
              | true =>
                rw [h100, cond_true] at hr
                have u100 := Nat.le_of_ble_eq_true h100
                cases h101 : Nat.blt k 99 with
                | true =>
                  rw [h101, cond_true] at hr
                  have u101 := Nat.le_of_ble_eq_true h101
                  obtain rfl : k = 98 := by omega
                  exact ok_98 r hr
                | false =>
                  rw [h101, cond_false] at hr
                  have u101 := sm_nb h101
                  cases h102 : Nat.blt k 100 with
                  | true =>
                    rw [h102, cond_true] at hr
                    have u102 := Nat.le_of_ble_eq_true h102
                    obtain rfl : k = 99 := by omega
                    exact ok_99 r hr
                  | false =>
                    rw [h102, cond_false] at hr
                    have u102 := sm_nb h102
                    obtain rfl : k = 100 := by omega
                    exact ok_100 r hr
              | false =>
                rw [h100, cond_false] at hr
                have u100 := sm_nb h100
                cases h103 : Nat.blt k 103 with
                | true =>
                  rw [h103, cond_true] at hr
                  have u103 := Nat.le_of_ble_eq_true h103
                  cases h104 : Nat.blt k 102 with
                  | true =>
                    rw [h104, cond_true] at hr
                    have u104 := Nat.le_of_ble_eq_true h104
                    obtain rfl : k = 101 := by omega
                    exact ok_101 r hr
                  | false =>
                    rw [h104, cond_false] at hr
                    have u104 := sm_nb h104
                    obtain rfl : k = 102 := by omega
                    exact ok_102 r hr
                | false =>
                  rw [h103, cond_false] at hr
                  have u103 := sm_nb h103
                  cases h105 : Nat.blt k 104 with
                  | true =>
                    rw [h105, cond_true] at hr
                    have u105 := Nat.le_of_ble_eq_true h105
                    obtain rfl : k = 103 := by omega
                    exact ok_103 r hr
                  | false =>
                    rw [h105, cond_false] at hr
                    have u105 := sm_nb h105
                    obtain rfl : k = 104 := by omega
                    exact ok_104 r hr
    | false =>
      rw [h1, cond_false] at hr
      have u1 := sm_nb h1
      cases h106 : Nat.blt k 157 with
      | true =>
        rw [h106, cond_true] at hr
        have u106 := Nat.le_of_ble_eq_true h106
        cases h107 : Nat.blt k 131 with
        | true =>
          rw [h107, cond_true] at hr
          have u107 := Nat.le_of_ble_eq_true h107
          cases h108 : Nat.blt k 118 with
          | true =>
            rw [h108, cond_true] at hr
            have u108 := Nat.le_of_ble_eq_true h108
            cases h109 : Nat.blt k 111 with
            | true =>
              rw [h109, cond_true] at hr
              have u109 := Nat.le_of_ble_eq_true h109
              cases h110 : Nat.blt k 108 with
              | true =>
                rw [h110, cond_true] at hr
                have u110 := Nat.le_of_ble_eq_true h110
                cases h111 : Nat.blt k 106 with
                | true =>
                  rw [h111, cond_true] at hr
                  have u111 := Nat.le_of_ble_eq_true h111
                  obtain rfl : k = 105 := by omega
                  exact ok_105 r hr
                | false =>
                  rw [h111, cond_false] at hr
                  have u111 := sm_nb h111
                  cases h112 : Nat.blt k 107 with
                  | true =>
                    rw [h112, cond_true] at hr
                    have u112 := Nat.le_of_ble_eq_true h112
                    obtain rfl : k = 106 := by omega
                    exact ok_106 r hr
                  | false =>
                    rw [h112, cond_false] at hr
                    have u112 := sm_nb h112
                    obtain rfl : k = 107 := by omega
                    exact ok_107 r hr
              | false =>
                rw [h110, cond_false] at hr
                have u110 := sm_nb h110
                cases h113 : Nat.blt k 109 with
                | true =>
                  rw [h113, cond_true] at hr
                  have u113 := Nat.le_of_ble_eq_true h113
                  obtain rfl : k = 108 := by omega
                  exact ok_108 r hr
                | false =>
                  rw [h113, cond_false] at hr
                  have u113 := sm_nb h113
                  cases h114 : Nat.blt k 110 with
                  | true =>
                    rw [h114, cond_true] at hr
                    have u114 := Nat.le_of_ble_eq_true h114
                    obtain rfl : k = 109 := by omega
                    exact ok_109 r hr
                  | false =>
                    rw [h114, cond_false] at hr
                    have u114 := sm_nb h114
                    obtain rfl : k = 110 := by omega
                    exact ok_110 r hr
            | false =>
              rw [h109, cond_false] at hr
              have u109 := sm_nb h109
              cases h115 : Nat.blt k 114 with
              | true =>
                rw [h115, cond_true] at hr
                have u115 := Nat.le_of_ble_eq_true h115
                cases h116 : Nat.blt k 112 with
                | true =>
                  rw [h116, cond_true] at hr
                  have u116 := Nat.le_of_ble_eq_true h116
                  obtain rfl : k = 111 := by omega
                  exact ok_111 r hr
                | false =>
                  rw [h116, cond_false] at hr
                  have u116 := sm_nb h116
                  cases h117 : Nat.blt k 113 with
                  | true =>
                    rw [h117, cond_true] at hr
                    have u117 := Nat.le_of_ble_eq_true h117
                    obtain rfl : k = 112 := by omega
                    exact ok_112 r hr
                  | false =>
                    rw [h117, cond_false] at hr
                    have u117 := sm_nb h117
                    obtain rfl : k = 113 := by omega
                    exact ok_113 r hr
              | false =>
                rw [h115, cond_false] at hr
                have u115 := sm_nb h115
                cases h118 : Nat.blt k 116 with
                | true =>
                  rw [h118, cond_true] at hr
                  have u118 := Nat.le_of_ble_eq_true h118
                  cases h119 : Nat.blt k 115 with
                  | true =>
                    rw [h119, cond_true] at hr
                    have u119 := Nat.le_of_ble_eq_true h119
                    obtain rfl : k = 114 := by omega
                    exact ok_114 r hr
                  | false =>
                    rw [h119, cond_false] at hr
                    have u119 := sm_nb h119
                    obtain rfl : k = 115 := by omega
                    exact ok_115 r hr
                | false =>
                  rw [h118, cond_false] at hr
                  have u118 := sm_nb h118
                  cases h120 : Nat.blt k 117 with
                  | true =>
                    rw [h120, cond_true] at hr
                    have u120 := Nat.le_of_ble_eq_true h120
                    obtain rfl : k = 116 := by omega
                    exact ok_116 r hr
                  | false =>
                    rw [h120, cond_false] at hr
                    have u120 := sm_nb h120
                    obtain rfl : k = 117 := by omega
                    exact ok_117 r hr
          | false =>
            rw [h108, cond_false] at hr
            have u108 := sm_nb h108
            cases h121 : Nat.blt k 124 with
            | true =>
              rw [h121, cond_true] at hr
              have u121 := Nat.le_of_ble_eq_true h121
              cases h122 : Nat.blt k 121 with
              | true =>
                rw [h122, cond_true] at hr
                have u122 := Nat.le_of_ble_eq_true h122
                cases h123 : Nat.blt k 119 with
                | true =>
                  rw [h123, cond_true] at hr
                  have u123 := Nat.le_of_ble_eq_true h123
                  obtain rfl : k = 118 := by omega
                  exact ok_118 r hr
                | false =>
                  rw [h123, cond_false] at hr
                  have u123 := sm_nb h123
                  cases h124 : Nat.blt k 120 with
                  | true =>
                    rw [h124, cond_true] at hr
                    have u124 := Nat.le_of_ble_eq_true h124
                    obtain rfl : k = 119 := by omega
                    exact ok_119 r hr
                  | false =>
                    rw [h124, cond_false] at hr
                    have u124 := sm_nb h124
                    obtain rfl : k = 120 := by omega
                    exact ok_120 r hr
              | false =>
                rw [h122, cond_false] at hr
                have u122 := sm_nb h122
                cases h125 : Nat.blt k 122 with
                | true =>
                  rw [h125, cond_true] at hr
                  have u125 := Nat.le_of_ble_eq_true h125
                  obtain rfl : k = 121 := by omega
                  exact ok_121 r hr
                | false =>
                  rw [h125, cond_false] at hr
                  have u125 := sm_nb h125
                  cases h126 : Nat.blt k 123 with
                  | true =>
                    rw [h126, cond_true] at hr
                    have u126 := Nat.le_of_ble_eq_true h126
                    obtain rfl : k = 122 := by omega
                    exact ok_122 r hr
                  | false =>
                    rw [h126, cond_false] at hr
                    have u126 := sm_nb h126
                    obtain rfl : k = 123 := by omega
                    exact ok_123 r hr
            | false =>
              rw [h121, cond_false] at hr
              have u121 := sm_nb h121
              cases h127 : Nat.blt k 127 with
              | true =>
                rw [h127, cond_true] at hr
                have u127 := Nat.le_of_ble_eq_true h127
                cases h128 : Nat.blt k 125 with
                | true =>
                  rw [h128, cond_true] at hr
                  have u128 := Nat.le_of_ble_eq_true h128
                  obtain rfl : k = 124 := by omega
                  exact ok_124 r hr
                | false =>
                  rw [h128, cond_false] at hr
                  have u128 := sm_nb h128
                  cases h129 : Nat.blt k 126 with
                  | true =>
                    rw [h129, cond_true] at hr
                    have u129 := Nat.le_of_ble_eq_true h129
                    obtain rfl : k = 125 := by omega
                    exact ok_125 r hr
                  | false =>
                    rw [h129, cond_false] at hr
                    have u129 := sm_nb h129
                    obtain rfl : k = 126 := by omega
                    exact ok_126 r hr
              | false =>
                rw [h127, cond_false] at hr
                have u127 := sm_nb h127
                cases h130 : Nat.blt k 129 with
                | true =>
                  rw [h130, cond_true] at hr
                  have u130 := Nat.le_of_ble_eq_true h130
                  cases h131 : Nat.blt k 128 with
                  | true =>
                    rw [h131, cond_true] at hr
                    have u131 := Nat.le_of_ble_eq_true h131
                    obtain rfl : k = 127 := by omega
                    exact ok_127 r hr
                  | false =>
                    rw [h131, cond_false] at hr
                    have u131 := sm_nb h131
                    obtain rfl : k = 128 := by omega
                    exact ok_128 r hr
                | false =>
                  rw [h130, cond_false] at hr
                  have u130 := sm_nb h130
                  cases h132 : Nat.blt k 130 with
                  | true =>
                    rw [h132, cond_true] at hr
                    have u132 := Nat.le_of_ble_eq_true h132
                    obtain rfl : k = 129 := by omega
                    exact ok_129 r hr
                  | false =>
                    rw [h132, cond_false] at hr
                    have u132 := sm_nb h132
                    obtain rfl : k = 130 := by omega
                    exact ok_130 r hr
        | false =>
          rw [h107, cond_false] at hr
          have u107 := sm_nb h107
          cases h133 : Nat.blt k 144 with
          | true =>
            rw [h133, cond_true] at hr
            have u133 := Nat.le_of_ble_eq_true h133
            cases h134 : Nat.blt k 137 with
            | true =>
              rw [h134, cond_true] at hr
              have u134 := Nat.le_of_ble_eq_true h134
              cases h135 : Nat.blt k 134 with
              | true =>
                rw [h135, cond_true] at hr
                have u135 := Nat.le_of_ble_eq_true h135
                cases h136 : Nat.blt k 132 with
                | true =>
                  rw [h136, cond_true] at hr
                  have u136 := Nat.le_of_ble_eq_true h136
                  obtain rfl : k = 131 := by omega
                  exact ok_131 r hr
                | false =>
                  rw [h136, cond_false] at hr
                  have u136 := sm_nb h136
                  cases h137 : Nat.blt k 133 with
                  | true =>
                    rw [h137, cond_true] at hr
                    have u137 := Nat.le_of_ble_eq_true h137
                    obtain rfl : k = 132 := by omega
                    exact ok_132 r hr
                  | false =>
                    rw [h137, cond_false] at hr
                    have u137 := sm_nb h137
                    obtain rfl : k = 133 := by omega
                    exact ok_133 r hr
              | false =>
                rw [h135, cond_false] at hr
                have u135 := sm_nb h135
                cases h138 : Nat.blt k 135 with
                | true =>
                  rw [h138, cond_true] at hr
                  have u138 := Nat.le_of_ble_eq_true h138
                  obtain rfl : k = 134 := by omega
                  exact ok_134 r hr
                | false =>
                  rw [h138, cond_false] at hr
                  have u138 := sm_nb h138
                  cases h139 : Nat.blt k 136 with
                  | true =>
                    rw [h139, cond_true] at hr
                    have u139 := Nat.le_of_ble_eq_true h139
                    obtain rfl : k = 135 := by omega
                    exact ok_135 r hr
                  | false =>
                    rw [h139, cond_false] at hr
                    have u139 := sm_nb h139
                    obtain rfl : k = 136 := by omega
                    exact ok_136 r hr
            | false =>
              rw [h134, cond_false] at hr
              have u134 := sm_nb h134
              cases h140 : Nat.blt k 140 with
              | true =>
                rw [h140, cond_true] at hr
                have u140 := Nat.le_of_ble_eq_true h140
                cases h141 : Nat.blt k 138 with
                | true =>
                  rw [h141, cond_true] at hr
                  have u141 := Nat.le_of_ble_eq_true h141
                  obtain rfl : k = 137 := by omega
                  exact ok_137 r hr
                | false =>
                  rw [h141, cond_false] at hr
                  have u141 := sm_nb h141
                  cases h142 : Nat.blt k 139 with
                  | true =>
                    rw [h142, cond_true] at hr
                    have u142 := Nat.le_of_ble_eq_true h142
                    obtain rfl : k = 138 := by omega
                    exact ok_138 r hr
                  | false =>
                    rw [h142, cond_false] at hr
                    have u142 := sm_nb h142
                    obtain rfl : k = 139 := by omega
                    exact ok_139 r hr
              | false =>
                rw [h140, cond_false] at hr
                have u140 := sm_nb h140
                cases h143 : Nat.blt k 142 with
                | true =>
                  rw [h143, cond_true] at hr
                  have u143 := Nat.le_of_ble_eq_true h143
                  cases h144 : Nat.blt k 141 with
                  | true =>
                    rw [h144, cond_true] at hr
                    have u144 := Nat.le_of_ble_eq_true h144
                    obtain rfl : k = 140 := by omega
                    exact ok_140 r hr
                  | false =>
                    rw [h144, cond_false] at hr
                    have u144 := sm_nb h144
                    obtain rfl : k = 141 := by omega
                    exact ok_141 r hr
                | false =>
                  rw [h143, cond_false] at hr
                  have u143 := sm_nb h143
                  cases h145 : Nat.blt k 143 with
                  | true =>
                    rw [h145, cond_true] at hr
                    have u145 := Nat.le_of_ble_eq_true h145
                    obtain rfl : k = 142 := by omega
                    exact ok_142 r hr
                  | false =>
                    rw [h145, cond_false] at hr
                    have u145 := sm_nb h145
                    obtain rfl : k = 143 := by omega
                    exact ok_143 r hr
          | false =>
            rw [h133, cond_false] at hr
            have u133 := sm_nb h133
            cases h146 : Nat.blt k 150 with
            | true =>
              rw [h146, cond_true] at hr
              have u146 := Nat.le_of_ble_eq_true h146
              cases h147 : Nat.blt k 147 with
              | true =>
                rw [h147, cond_true] at hr
                have u147 := Nat.le_of_ble_eq_true h147
                cases h148 : Nat.blt k 145 with
                | true =>
                  rw [h148, cond_true] at hr
                  have u148 := Nat.le_of_ble_eq_true h148
                  obtain rfl : k = 144 := by omega
                  exact ok_144 r hr
                | false =>
                  rw [h148, cond_false] at hr
                  have u148 := sm_nb h148
                  cases h149 : Nat.blt k 146 with
                  | true =>
                    rw [h149, cond_true] at hr
                    have u149 := Nat.le_of_ble_eq_true h149
                    obtain rfl : k = 145 := by omega
                    exact ok_145 r hr
                  | false =>
                    rw [h149, cond_false] at hr
                    have u149 := sm_nb h149
                    obtain rfl : k = 146 := by omega
                    exact ok_146 r hr
              | false =>
                rw [h147, cond_false] at hr
                have u147 := sm_nb h147
                cases h150 : Nat.blt k 148 with
                | true =>
                  rw [h150, cond_true] at hr
                  have u150 := Nat.le_of_ble_eq_true h150
                  obtain rfl : k = 147 := by omega
                  exact ok_147 r hr
                | false =>
                  rw [h150, cond_false] at hr
                  have u150 := sm_nb h150
                  cases h151 : Nat.blt k 149 with
                  | true =>
                    rw [h151, cond_true] at hr
                    have u151 := Nat.le_of_ble_eq_true h151
                    obtain rfl : k = 148 := by omega
                    exact ok_148 r hr
                  | false =>
                    rw [h151, cond_false] at hr
                    have u151 := sm_nb h151
                    obtain rfl : k = 149 := by omega
                    exact ok_149 r hr
            | false =>
              rw [h146, cond_false] at hr
              have u146 := sm_nb h146
              cases h152 : Nat.blt k 153 with
              | true =>
                rw [h152, cond_true] at hr
                have u152 := Nat.le_of_ble_eq_true h152
                cases h153 : Nat.blt k 151 with
                | true =>
                  rw [h153, cond_true] at hr
                  have u153 := Nat.le_of_ble_eq_true h153
                  obtain rfl : k = 150 := by omega
                  exact ok_150 r hr
                | false =>
                  rw [h153, cond_false] at hr
                  have u153 := sm_nb h153
                  cases h154 : Nat.blt k 152 with
                  | true =>
                    rw [h154, cond_true] at hr
                    have u154 := Nat.le_of_ble_eq_true h154
                    obtain rfl : k = 151 := by omega
                    exact ok_151 r hr
                  | false =>
                    rw [h154, cond_false] at hr
                    have u154 := sm_nb h154
                    obtain rfl : k = 152 := by omega
                    exact ok_152 r hr
              | false =>
                rw [h152, cond_false] at hr
                have u152 := sm_nb h152
                cases h155 : Nat.blt k 155 with
                | true =>
                  rw [h155, cond_true] at hr
                  have u155 := Nat.le_of_ble_eq_true h155
                  cases h156 : Nat.blt k 154 with
                  | true =>
                    rw [h156, cond_true] at hr
                    have u156 := Nat.le_of_ble_eq_true h156
                    obtain rfl : k = 153 := by omega
                    exact ok_153 r hr
                  | false =>
                    rw [h156, cond_false] at hr
                    have u156 := sm_nb h156
                    obtain rfl : k = 154 := by omega
                    exact ok_154 r hr
                | false =>
                  rw [h155, cond_false] at hr
                  have u155 := sm_nb h155
                  cases h157 : Nat.blt k 156 with
                  | true =>
                    rw [h157, cond_true] at hr
                    have u157 := Nat.le_of_ble_eq_true h157
                    obtain rfl : k = 155 := by omega
                    exact ok_155 r hr
                  | false =>
                    rw [h157, cond_false] at hr
                    have u157 := sm_nb h157
                    obtain rfl : k = 156 := by omega
                    exact ok_156 r hr
      | false =>
        rw [h106, cond_false] at hr
        have u106 := sm_nb h106
        cases h158 : Nat.blt k 183 with
        | true =>
          rw [h158, cond_true] at hr
          have u158 := Nat.le_of_ble_eq_true h158
          cases h159 : Nat.blt k 170 with
          | true =>
            rw [h159, cond_true] at hr
            have u159 := Nat.le_of_ble_eq_true h159
            cases h160 : Nat.blt k 163 with
            | true =>
              rw [h160, cond_true] at hr
              have u160 := Nat.le_of_ble_eq_true h160
              cases h161 : Nat.blt k 160 with
              | true =>
                rw [h161, cond_true] at hr
                have u161 := Nat.le_of_ble_eq_true h161
                cases h162 : Nat.blt k 158 with
                | true =>
                  rw [h162, cond_true] at hr
                  have u162 := Nat.le_of_ble_eq_true h162
                  obtain rfl : k = 157 := by omega
                  exact ok_157 r hr
                | false =>
                  rw [h162, cond_false] at hr
                  have u162 := sm_nb h162
                  cases h163 : Nat.blt k 159 with
                  | true =>
                    rw [h163, cond_true] at hr
                    have u163 := Nat.le_of_ble_eq_true h163
                    obtain rfl : k = 158 := by omega
                    exact ok_158 r hr
                  | false =>
                    rw [h163, cond_false] at hr
                    have u163 := sm_nb h163
                    obtain rfl : k = 159 := by omega
                    exact ok_159 r hr
              | false =>
                rw [h161, cond_false] at hr
                have u161 := sm_nb h161
                cases h164 : Nat.blt k 161 with
                | true =>
                  rw [h164, cond_true] at hr
                  have u164 := Nat.le_of_ble_eq_true h164
                  obtain rfl : k = 160 := by omega
                  exact ok_160 r hr
                | false =>
                  rw [h164, cond_false] at hr
                  have u164 := sm_nb h164
                  cases h165 : Nat.blt k 162 with
                  | true =>
                    rw [h165, cond_true] at hr
                    have u165 := Nat.le_of_ble_eq_true h165
                    obtain rfl : k = 161 := by omega
                    exact ok_161 r hr
                  | false =>
                    rw [h165, cond_false] at hr
                    have u165 := sm_nb h165
                    obtain rfl : k = 162 := by omega
                    exact ok_162 r hr
            | false =>
              rw [h160, cond_false] at hr
              have u160 := sm_nb h160
              cases h166 : Nat.blt k 166 with
              | true =>
                rw [h166, cond_true] at hr
                have u166 := Nat.le_of_ble_eq_true h166
                cases h167 : Nat.blt k 164 with
                | true =>
                  rw [h167, cond_true] at hr
                  have u167 := Nat.le_of_ble_eq_true h167
                  obtain rfl : k = 163 := by omega
                  exact ok_163 r hr
                | false =>
                  rw [h167, cond_false] at hr
                  have u167 := sm_nb h167
                  cases h168 : Nat.blt k 165 with
                  | true =>
                    rw [h168, cond_true] at hr
                    have u168 := Nat.le_of_ble_eq_true h168
                    obtain rfl : k = 164 := by omega
                    exact ok_164 r hr
                  | false =>
                    rw [h168, cond_false] at hr
                    have u168 := sm_nb h168
                    obtain rfl : k = 165 := by omega
                    exact ok_165 r hr
              | false =>
                rw [h166, cond_false] at hr
                have u166 := sm_nb h166
                cases h169 : Nat.blt k 168 with
                | true =>
                  rw [h169, cond_true] at hr
                  have u169 := Nat.le_of_ble_eq_true h169
                  cases h170 : Nat.blt k 167 with
                  | true =>
                    rw [h170, cond_true] at hr
                    have u170 := Nat.le_of_ble_eq_true h170
                    obtain rfl : k = 166 := by omega
                    exact ok_166 r hr
                  | false =>
                    rw [h170, cond_false] at hr
                    have u170 := sm_nb h170
                    obtain rfl : k = 167 := by omega
                    exact ok_167 r hr
                | false =>
                  rw [h169, cond_false] at hr
                  have u169 := sm_nb h169
                  cases h171 : Nat.blt k 169 with
                  | true =>
                    rw [h171, cond_true] at hr
                    have u171 := Nat.le_of_ble_eq_true h171
                    obtain rfl : k = 168 := by omega
                    exact ok_168 r hr
                  | false =>
                    rw [h171, cond_false] at hr
                    have u171 := sm_nb h171
                    obtain rfl : k = 169 := by omega
                    exact ok_169 r hr
          | false =>
            rw [h159, cond_false] at hr
            have u159 := sm_nb h159
            cases h172 : Nat.blt k 176 with
            | true =>
              rw [h172, cond_true] at hr
              have u172 := Nat.le_of_ble_eq_true h172
              cases h173 : Nat.blt k 173 with
              | true =>
                rw [h173, cond_true] at hr
                have u173 := Nat.le_of_ble_eq_true h173
                cases h174 : Nat.blt k 171 with
                | true =>
                  rw [h174, cond_true] at hr
                  have u174 := Nat.le_of_ble_eq_true h174
                  obtain rfl : k = 170 := by omega
                  exact ok_170 r hr
                | false =>
                  rw [h174, cond_false] at hr
                  have u174 := sm_nb h174
                  cases h175 : Nat.blt k 172 with
                  | true =>
                    rw [h175, cond_true] at hr
                    have u175 := Nat.le_of_ble_eq_true h175
                    obtain rfl : k = 171 := by omega
                    exact ok_171 r hr
                  | false =>
                    rw [h175, cond_false] at hr
                    have u175 := sm_nb h175
                    obtain rfl : k = 172 := by omega
                    exact ok_172 r hr
              | false =>
                rw [h173, cond_false] at hr
                have u173 := sm_nb h173
                cases h176 : Nat.blt k 174 with
                | true =>
                  rw [h176, cond_true] at hr
                  have u176 := Nat.le_of_ble_eq_true h176
                  obtain rfl : k = 173 := by omega
                  exact ok_173 r hr
                | false =>
                  rw [h176, cond_false] at hr
                  have u176 := sm_nb h176
                  cases h177 : Nat.blt k 175 with
                  | true =>
                    rw [h177, cond_true] at hr
                    have u177 := Nat.le_of_ble_eq_true h177
                    obtain rfl : k = 174 := by omega
                    exact ok_174 r hr
                  | false =>
                    rw [h177, cond_false] at hr
                    have u177 := sm_nb h177
                    obtain rfl : k = 175 := by omega
                    exact ok_175 r hr
            | false =>
              rw [h172, cond_false] at hr
              have u172 := sm_nb h172
              cases h178 : Nat.blt k 179 with
              | true =>
                rw [h178, cond_true] at hr
                have u178 := Nat.le_of_ble_eq_true h178
                cases h179 : Nat.blt k 177 with
                | true =>
                  rw [h179, cond_true] at hr
                  have u179 := Nat.le_of_ble_eq_true h179
                  obtain rfl : k = 176 := by omega
                  exact ok_176 r hr
                | false =>
                  rw [h179, cond_false] at hr
                  have u179 := sm_nb h179
                  cases h180 : Nat.blt k 178 with
                  | true =>
                    rw [h180, cond_true] at hr
                    have u180 := Nat.le_of_ble_eq_true h180
                    obtain rfl : k = 177 := by omega
                    exact ok_177 r hr
                  | false =>
                    rw [h180, cond_false] at hr
                    have u180 := sm_nb h180
                    obtain rfl : k = 178 := by omega
                    exact ok_178 r hr
              | false =>
                rw [h178, cond_false] at hr
                have u178 := sm_nb h178
                cases h181 : Nat.blt k 181 with
                | true =>
                  rw [h181, cond_true] at hr
                  have u181 := Nat.le_of_ble_eq_true h181
                  cases h182 : Nat.blt k 180 with
                  | true =>
                    rw [h182, cond_true] at hr
                    have u182 := Nat.le_of_ble_eq_true h182
                    obtain rfl : k = 179 := by omega
                    exact ok_179 r hr
                  | false =>
                    rw [h182, cond_false] at hr
                    have u182 := sm_nb h182
                    obtain rfl : k = 180 := by omega
                    exact ok_180 r hr
                | false =>
                  rw [h181, cond_false] at hr
                  have u181 := sm_nb h181
                  cases h183 : Nat.blt k 182 with
                  | true =>
                    rw [h183, cond_true] at hr
                    have u183 := Nat.le_of_ble_eq_true h183
                    obtain rfl : k = 181 := by omega
                    exact ok_181 r hr
                  | false =>
                    rw [h183, cond_false] at hr
                    have u183 := sm_nb h183
                    obtain rfl : k = 182 := by omega
                    exact ok_182 r hr
        | false =>
          rw [h158, cond_false] at hr
          have u158 := sm_nb h158
          cases h184 : Nat.blt k 196 with
          | true =>
            rw [h184, cond_true] at hr
            have u184 := Nat.le_of_ble_eq_true h184
            cases h185 : Nat.blt k 189 with
            | true =>
              rw [h185, cond_true] at hr
              have u185 := Nat.le_of_ble_eq_true h185
              cases h186 : Nat.blt k 186 with
              | true =>
                rw [h186, cond_true] at hr
                have u186 := Nat.le_of_ble_eq_true h186
                cases h187 : Nat.blt k 184 with
                | true =>
                  rw [h187, cond_true] at hr
                  have u187 := Nat.le_of_ble_eq_true h187
                  obtain rfl : k = 183 := by omega
                  exact ok_183 r hr
                | false =>
                  rw [h187, cond_false] at hr
                  have u187 := sm_nb h187
                  cases h188 : Nat.blt k 185 with
                  | true =>
                    rw [h188, cond_true] at hr
                    have u188 := Nat.le_of_ble_eq_true h188
                    obtain rfl : k = 184 := by omega
                    exact ok_184 r hr
                  | false =>
                    rw [h188, cond_false] at hr
                    have u188 := sm_nb h188
                    obtain rfl : k = 185 := by omega
                    exact ok_185 r hr
              | false =>
                rw [h186, cond_false] at hr
                have u186 := sm_nb h186
                cases h189 : Nat.blt k 187 with
                | true =>
                  rw [h189, cond_true] at hr
                  have u189 := Nat.le_of_ble_eq_true h189
                  obtain rfl : k = 186 := by omega
                  exact ok_186 r hr
                | false =>
                  rw [h189, cond_false] at hr
                  have u189 := sm_nb h189
                  cases h190 : Nat.blt k 188 with
                  | true =>
                    rw [h190, cond_true] at hr
                    have u190 := Nat.le_of_ble_eq_true h190
                    obtain rfl : k = 187 := by omega
                    exact ok_187 r hr
                  | false =>
                    rw [h190, cond_false] at hr
                    have u190 := sm_nb h190
                    obtain rfl : k = 188 := by omega
                    exact ok_188 r hr
            | false =>
              rw [h185, cond_false] at hr
              have u185 := sm_nb h185
              cases h191 : Nat.blt k 192 with
              | true =>
                rw [h191, cond_true] at hr
                have u191 := Nat.le_of_ble_eq_true h191
                cases h192 : Nat.blt k 190 with
                | true =>
                  rw [h192, cond_true] at hr
                  have u192 := Nat.le_of_ble_eq_true h192
                  obtain rfl : k = 189 := by omega
                  exact ok_189 r hr
                | false =>
                  rw [h192, cond_false] at hr
                  have u192 := sm_nb h192
                  cases h193 : Nat.blt k 191 with
                  | true =>
                    rw [h193, cond_true] at hr
                    have u193 := Nat.le_of_ble_eq_true h193
                    obtain rfl : k = 190 := by omega
                    exact ok_190 r hr
                  | false =>
                    rw [h193, cond_false] at hr
                    have u193 := sm_nb h193
                    obtain rfl : k = 191 := by omega
                    exact ok_191 r hr
              | false =>
                rw [h191, cond_false] at hr
                have u191 := sm_nb h191
                cases h194 : Nat.blt k 194 with
                | true =>
                  rw [h194, cond_true] at hr
                  have u194 := Nat.le_of_ble_eq_true h194
                  cases h195 : Nat.blt k 193 with
                  | true =>
                    rw [h195, cond_true] at hr
                    have u195 := Nat.le_of_ble_eq_true h195
                    obtain rfl : k = 192 := by omega
                    exact ok_192 r hr
                  | false =>
                    rw [h195, cond_false] at hr
                    have u195 := sm_nb h195
                    obtain rfl : k = 193 := by omega
                    exact ok_193 r hr
                | false =>
                  rw [h194, cond_false] at hr
                  have u194 := sm_nb h194
                  cases h196 : Nat.blt k 195 with
                  | true =>
                    rw [h196, cond_true] at hr
                    have u196 := Nat.le_of_ble_eq_true h196
                    obtain rfl : k = 194 := by omega
                    exact ok_194 r hr
                  | false =>
                    rw [h196, cond_false] at hr
                    have u196 := sm_nb h196
                    obtain rfl : k = 195 := by omega
                    exact ok_195 r hr
          | false =>
            rw [h184, cond_false] at hr
            have u184 := sm_nb h184
            cases h197 : Nat.blt k 203 with
            | true =>
              rw [h197, cond_true] at hr
              have u197 := Nat.le_of_ble_eq_true h197
              cases h198 : Nat.blt k 199 with
              | true =>
                rw [h198, cond_true] at hr
                have u198 := Nat.le_of_ble_eq_true h198
                cases h199 : Nat.blt k 197 with
                | true =>
                  rw [h199, cond_true] at hr
                  have u199 := Nat.le_of_ble_eq_true h199
                  obtain rfl : k = 196 := by omega
                  exact ok_196 r hr
                | false =>
                  rw [h199, cond_false] at hr
                  have u199 := sm_nb h199
                  cases h200 : Nat.blt k 198 with
                  | true =>
                    rw [h200, cond_true] at hr
                    have u200 := Nat.le_of_ble_eq_true h200
                    obtain rfl : k = 197 := by omega
                    exact ok_197 r hr
                  | false =>
                    rw [h200, cond_false] at hr
                    have u200 := sm_nb h200
                    obtain rfl : k = 198 := by omega
                    exact ok_198 r hr
              | false =>
                rw [h198, cond_false] at hr
                have u198 := sm_nb h198
                cases h201 : Nat.blt k 201 with
                | true =>
                  rw [h201, cond_true] at hr
                  have u201 := Nat.le_of_ble_eq_true h201
                  cases h202 : Nat.blt k 200 with
                  | true =>
                    rw [h202, cond_true] at hr
                    have u202 := Nat.le_of_ble_eq_true h202
                    obtain rfl : k = 199 := by omega
                    exact ok_199 r hr
                  | false =>
                    rw [h202, cond_false] at hr
                    have u202 := sm_nb h202
                    obtain rfl : k = 200 := by omega
                    exact ok_200 r hr
                | false =>
                  rw [h201, cond_false] at hr
                  have u201 := sm_nb h201
                  cases h203 : Nat.blt k 202 with
                  | true =>
                    rw [h203, cond_true] at hr
                    have u203 := Nat.le_of_ble_eq_true h203
                    obtain rfl : k = 201 := by omega
                    exact ok_201 r hr
                  | false =>
                    rw [h203, cond_false] at hr
                    have u203 := sm_nb h203
                    obtain rfl : k = 202 := by omega
                    exact ok_202 r hr
            | false =>
              rw [h197, cond_false] at hr
              have u197 := sm_nb h197
              cases h204 : Nat.blt k 206 with
              | true =>
                rw [h204, cond_true] at hr
                have u204 := Nat.le_of_ble_eq_true h204
                cases h205 : Nat.blt k 204 with
                | true =>
                  rw [h205, cond_true] at hr
                  have u205 := Nat.le_of_ble_eq_true h205
                  obtain rfl : k = 203 := by omega
                  exact ok_203 r hr
                | false =>
                  rw [h205, cond_false] at hr
                  have u205 := sm_nb h205
                  cases h206 : Nat.blt k 205 with
                  | true =>
                    rw [h206, cond_true] at hr
                    have u206 := Nat.le_of_ble_eq_true h206
                    obtain rfl : k = 204 := by omega
                    exact ok_204 r hr
                  | false =>
                    rw [h206, cond_false] at hr
                    have u206 := sm_nb h206
                    obtain rfl : k = 205 := by omega
                    exact ok_205 r hr
              | false =>
                rw [h204, cond_false] at hr
                have u204 := sm_nb h204
                cases h207 : Nat.blt k 208 with
                | true =>
                  rw [h207, cond_true] at hr
                  have u207 := Nat.le_of_ble_eq_true h207
                  cases h208 : Nat.blt k 207 with
                  | true =>
                    rw [h208, cond_true] at hr
                    have u208 := Nat.le_of_ble_eq_true h208
                    obtain rfl : k = 206 := by omega
                    exact ok_206 r hr
                  | false =>
                    rw [h208, cond_false] at hr
                    have u208 := sm_nb h208
                    obtain rfl : k = 207 := by omega
                    exact ok_207 r hr
                | false =>
                  rw [h207, cond_false] at hr
                  have u207 := sm_nb h207
                  cases h209 : Nat.blt k 209 with
                  | true =>
                    rw [h209, cond_true] at hr
                    have u209 := Nat.le_of_ble_eq_true h209
                    obtain rfl : k = 208 := by omega
                    exact ok_208 r hr
                  | false =>
                    rw [h209, cond_false] at hr
                    have u209 := sm_nb h209
                    obtain rfl : k = 209 := by omega
                    exact ok_209 r hr
