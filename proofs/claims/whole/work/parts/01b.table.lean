/-! 01b: the 14336 steps' code words, looked at by 256 -/
theorem sm_r22_0 : sm_row 22 (0 * 256) 256 = true := by decide +kernel
theorem sm_r22_1 : sm_row 22 (1 * 256) 256 = true := by decide +kernel
theorem sm_r22_2 : sm_row 22 (2 * 256) 256 = true := by decide +kernel
theorem sm_r22_3 : sm_row 22 (3 * 256) 256 = true := by decide +kernel
theorem sm_r22_4 : sm_row 22 (4 * 256) 256 = true := by decide +kernel
theorem sm_r22_5 : sm_row 22 (5 * 256) 256 = true := by decide +kernel
theorem sm_r22_6 : sm_row 22 (6 * 256) 256 = true := by decide +kernel
theorem sm_r22_7 : sm_row 22 (7 * 256) 256 = true := by decide +kernel
theorem sm_r22_8 : sm_row 22 (8 * 256) 256 = true := by decide +kernel
theorem sm_r22_9 : sm_row 22 (9 * 256) 256 = true := by decide +kernel
theorem sm_r22_10 : sm_row 22 (10 * 256) 256 = true := by decide +kernel
theorem sm_r22_11 : sm_row 22 (11 * 256) 256 = true := by decide +kernel
theorem sm_r22_12 : sm_row 22 (12 * 256) 256 = true := by decide +kernel
theorem sm_r22_13 : sm_row 22 (13 * 256) 256 = true := by decide +kernel
theorem sm_r22_14 : sm_row 22 (14 * 256) 256 = true := by decide +kernel
theorem sm_r22_15 : sm_row 22 (15 * 256) 256 = true := by decide +kernel
theorem sm_r22_16 : sm_row 22 (16 * 256) 256 = true := by decide +kernel
theorem sm_r22_17 : sm_row 22 (17 * 256) 256 = true := by decide +kernel
theorem sm_r22_18 : sm_row 22 (18 * 256) 256 = true := by decide +kernel
theorem sm_r22_19 : sm_row 22 (19 * 256) 256 = true := by decide +kernel
theorem sm_r22_20 : sm_row 22 (20 * 256) 256 = true := by decide +kernel
theorem sm_r22_21 : sm_row 22 (21 * 256) 256 = true := by decide +kernel
theorem sm_r22_22 : sm_row 22 (22 * 256) 256 = true := by decide +kernel
theorem sm_r22_23 : sm_row 22 (23 * 256) 256 = true := by decide +kernel
theorem sm_r22_24 : sm_row 22 (24 * 256) 256 = true := by decide +kernel
theorem sm_r22_25 : sm_row 22 (25 * 256) 256 = true := by decide +kernel
theorem sm_r22_26 : sm_row 22 (26 * 256) 256 = true := by decide +kernel
theorem sm_r22_27 : sm_row 22 (27 * 256) 256 = true := by decide +kernel
theorem sm_r22_28 : sm_row 22 (28 * 256) 256 = true := by decide +kernel
theorem sm_r22_29 : sm_row 22 (29 * 256) 256 = true := by decide +kernel
theorem sm_r22_30 : sm_row 22 (30 * 256) 256 = true := by decide +kernel
theorem sm_r22_31 : sm_row 22 (31 * 256) 256 = true := by decide +kernel
theorem sm_r22_32 : sm_row 22 (32 * 256) 256 = true := by decide +kernel
theorem sm_r22_33 : sm_row 22 (33 * 256) 256 = true := by decide +kernel
theorem sm_r22_34 : sm_row 22 (34 * 256) 256 = true := by decide +kernel
theorem sm_r22_35 : sm_row 22 (35 * 256) 256 = true := by decide +kernel
theorem sm_r22_36 : sm_row 22 (36 * 256) 256 = true := by decide +kernel
theorem sm_r22_37 : sm_row 22 (37 * 256) 256 = true := by decide +kernel
theorem sm_r22_38 : sm_row 22 (38 * 256) 256 = true := by decide +kernel
theorem sm_r22_39 : sm_row 22 (39 * 256) 256 = true := by decide +kernel
theorem sm_r22_40 : sm_row 22 (40 * 256) 256 = true := by decide +kernel
theorem sm_r22_41 : sm_row 22 (41 * 256) 256 = true := by decide +kernel
theorem sm_r22_42 : sm_row 22 (42 * 256) 256 = true := by decide +kernel
theorem sm_r22_43 : sm_row 22 (43 * 256) 256 = true := by decide +kernel
theorem sm_r22_44 : sm_row 22 (44 * 256) 256 = true := by decide +kernel
theorem sm_r22_45 : sm_row 22 (45 * 256) 256 = true := by decide +kernel
theorem sm_r22_46 : sm_row 22 (46 * 256) 256 = true := by decide +kernel
theorem sm_r22_47 : sm_row 22 (47 * 256) 256 = true := by decide +kernel
theorem sm_r22_48 : sm_row 22 (48 * 256) 256 = true := by decide +kernel
theorem sm_r22_49 : sm_row 22 (49 * 256) 256 = true := by decide +kernel
theorem sm_r22_50 : sm_row 22 (50 * 256) 256 = true := by decide +kernel
theorem sm_r22_51 : sm_row 22 (51 * 256) 256 = true := by decide +kernel
theorem sm_r22_52 : sm_row 22 (52 * 256) 256 = true := by decide +kernel
theorem sm_r22_53 : sm_row 22 (53 * 256) 256 = true := by decide +kernel
theorem sm_r22_54 : sm_row 22 (54 * 256) 256 = true := by decide +kernel
theorem sm_r22_55 : sm_row 22 (55 * 256) 256 = true := by decide +kernel
theorem sm_row22b : ∀ h, h < 56 → sm_row 22 (h * 256) 256 = true
  | 0, _ => sm_r22_0
  | 1, _ => sm_r22_1
  | 2, _ => sm_r22_2
  | 3, _ => sm_r22_3
  | 4, _ => sm_r22_4
  | 5, _ => sm_r22_5
  | 6, _ => sm_r22_6
  | 7, _ => sm_r22_7
  | 8, _ => sm_r22_8
  | 9, _ => sm_r22_9
  | 10, _ => sm_r22_10
  | 11, _ => sm_r22_11
  | 12, _ => sm_r22_12
  | 13, _ => sm_r22_13
  | 14, _ => sm_r22_14
  | 15, _ => sm_r22_15
  | 16, _ => sm_r22_16
  | 17, _ => sm_r22_17
  | 18, _ => sm_r22_18
  | 19, _ => sm_r22_19
  | 20, _ => sm_r22_20
  | 21, _ => sm_r22_21
  | 22, _ => sm_r22_22
  | 23, _ => sm_r22_23
  | 24, _ => sm_r22_24
  | 25, _ => sm_r22_25
  | 26, _ => sm_r22_26
  | 27, _ => sm_r22_27
  | 28, _ => sm_r22_28
  | 29, _ => sm_r22_29
  | 30, _ => sm_r22_30
  | 31, _ => sm_r22_31
  | 32, _ => sm_r22_32
  | 33, _ => sm_r22_33
  | 34, _ => sm_r22_34
  | 35, _ => sm_r22_35
  | 36, _ => sm_r22_36
  | 37, _ => sm_r22_37
  | 38, _ => sm_r22_38
  | 39, _ => sm_r22_39
  | 40, _ => sm_r22_40
  | 41, _ => sm_r22_41
  | 42, _ => sm_r22_42
  | 43, _ => sm_r22_43
  | 44, _ => sm_r22_44
  | 45, _ => sm_r22_45
  | 46, _ => sm_r22_46
  | 47, _ => sm_r22_47
  | 48, _ => sm_r22_48
  | 49, _ => sm_r22_49
  | 50, _ => sm_r22_50
  | 51, _ => sm_r22_51
  | 52, _ => sm_r22_52
  | 53, _ => sm_r22_53
  | 54, _ => sm_r22_54
  | 55, _ => sm_r22_55
  | n + 56, z => absurd z (by omega)
