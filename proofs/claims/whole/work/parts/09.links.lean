theorem oi_X0_1 : Cond.methodLink RX0 1 Lib.objectInit ∈ TT := TT_i 401 (by decide +kernel) rfl
theorem oi_i : Cond.instanceMethod Lib.objectInit ∈ TT := TT_i 33 (by decide +kernel) rfl
theorem oi_c : Cond.code Lib.objectInit ⟨#[0xb1]⟩ 1 none ∈ TT := TT_i 34 (by decide +kernel) rfl
theorem fl_X0_7 : FL RX0 7 0 2 := ⟨by decide, by decide, Or.inl (TT_i 404 (by decide +kernel) rfl)⟩
theorem fl_X0_13 : FL RX0 13 0 1 := ⟨by decide, by decide, Or.inl (TT_i 403 (by decide +kernel) rfl)⟩
theorem fl_X0_16 : FL RX0 16 0 0 := ⟨by decide, by decide, Or.inl (TT_i 402 (by decide +kernel) rfl)⟩
theorem fl_X0_19 : FL RX0 19 0 3 := ⟨by decide, by decide, Or.inl (TT_i 406 (by decide +kernel) rfl)⟩
theorem fl_X0_22 : FL RX0 22 0 4 := ⟨by decide, by decide, Or.inl (TT_i 408 (by decide +kernel) rfl)⟩
theorem kc_X0_54 : Cond.constant RX0 54 65537 ∈ TT := TT_i 1115 (by decide +kernel) rfl
theorem fl_X1_23 : FL RX1 23 4 18 := ⟨by decide, by decide, Or.inl (TT_i 100 (by decide +kernel) rfl)⟩
theorem fl_X5_18 : FL RX5 18 4 11 := ⟨by decide, by decide, Or.inl (TT_i 83 (by decide +kernel) rfl)⟩
theorem fl_X0_25 : FL RX0 25 4 3 := ⟨by decide, by decide, Or.inl (TT_i 58 (by decide +kernel) rfl)⟩
theorem ml_X0_30 : Cond.methodLink RX0 30 yX0_draw ∈ TT := TT_i 1111 (by decide +kernel) rfl
theorem mc_X0_draw : MC yX0_draw cX0_draw 1 (some .int) 0 := ⟨TT_i 1114 (by decide +kernel) rfl, TT_i 14 (by decide +kernel) rfl, by decide +kernel⟩
theorem im_X0_draw : Cond.instanceMethod yX0_draw ∈ TT := TT_i 1113 (by decide +kernel) rfl
theorem se_X0_draw : Cond.selects (cR 0) yX0_draw yX0_draw ∈ TT := TT_sel (q := (yX0_draw, 5)) 52 (by decide +kernel)
theorem fl_X0_34 : FL RX0 34 4 0 := ⟨by decide, by decide, Or.inl (TT_i 42 (by decide +kernel) rfl)⟩
theorem ml_X0_37 : Cond.methodLink RX0 37 yX1_isOpen ∈ TT := TT_i 1116 (by decide +kernel) rfl
theorem mc_X1_isOpen : MC yX1_isOpen cX1_isOpen 4 (some .boolean) 4 := ⟨TT_i 778 (by decide +kernel) rfl, TT_i 19 (by decide +kernel) rfl, by decide +kernel⟩
theorem st_X1_isOpen : Cond.static yX1_isOpen ∈ TT := TT_i 777 (by decide +kernel) rfl
theorem ml_X0_43 : Cond.methodLink RX0 43 yX5_oneEnd ∈ TT := TT_i 1117 (by decide +kernel) rfl
theorem mc_X5_oneEnd : MC yX5_oneEnd cX5_oneEnd 2 (some .int) 1 := ⟨TT_i 695 (by decide +kernel) rfl, TT_i 2 (by decide +kernel) rfl, by decide +kernel⟩
theorem im_X5_oneEnd : Cond.instanceMethod yX5_oneEnd ∈ TT := TT_i 693 (by decide +kernel) rfl
theorem se_X5_oneEnd : Cond.selects (cR 4) yX5_oneEnd yX5_oneEnd ∈ TT := TT_i 694 (by decide +kernel) rfl
theorem ml_X0_47 : Cond.methodLink RX0 47 yX5_otherEnd ∈ TT := TT_i 1118 (by decide +kernel) rfl
theorem mc_X5_otherEnd : MC yX5_otherEnd cX5_otherEnd 2 (some .int) 1 := ⟨TT_i 691 (by decide +kernel) rfl, TT_i 2 (by decide +kernel) rfl, by decide +kernel⟩
theorem im_X5_otherEnd : Cond.instanceMethod yX5_otherEnd ∈ TT := TT_i 689 (by decide +kernel) rfl
theorem se_X5_otherEnd : Cond.selects (cR 4) yX5_otherEnd yX5_otherEnd ∈ TT := TT_i 690 (by decide +kernel) rfl
theorem ml_X0_50 : Cond.methodLink RX0 50 yX0_walk ∈ TT := TT_i 1119 (by decide +kernel) rfl
theorem mc_X0_walk : MC yX0_walk cX0_walk 3 none 2 := ⟨TT_i 1122 (by decide +kernel) rfl, TT_i 14 (by decide +kernel) rfl, by decide +kernel⟩
theorem im_X0_walk : Cond.instanceMethod yX0_walk ∈ TT := TT_i 1121 (by decide +kernel) rfl
theorem se_X0_walk : Cond.selects (cR 0) yX0_walk yX0_walk ∈ TT := TT_sel (q := (yX0_walk, 5)) 53 (by decide +kernel)
theorem fl_X5_15 : FL RX5 15 4 10 := ⟨by decide, by decide, Or.inl (TT_i 81 (by decide +kernel) rfl)⟩
theorem ml_X1_9 : Cond.methodLink RX1 9 yX5_note ∈ TT := TT_i 634 (by decide +kernel) rfl
theorem mc_X5_note : MC yX5_note cX5_note 3 (some .int) 2 := ⟨TT_i 637 (by decide +kernel) rfl, TT_i 2 (by decide +kernel) rfl, by decide +kernel⟩
theorem im_X5_note : Cond.instanceMethod yX5_note ∈ TT := TT_i 635 (by decide +kernel) rfl
theorem se_X5_note : Cond.selects (cR 4) yX5_note yX5_note ∈ TT := TT_i 636 (by decide +kernel) rfl
theorem fl_X1_13 : FL RX1 13 4 9 := ⟨by decide, by decide, Or.inl (TT_i 78 (by decide +kernel) rfl)⟩
theorem fl_X5_24 : FL RX5 24 4 13 := ⟨by decide, by decide, Or.inl (TT_i 87 (by decide +kernel) rfl)⟩
theorem fl_X1_49 : FL RX1 49 4 13 := ⟨by decide, by decide, Or.inl (TT_i 88 (by decide +kernel) rfl)⟩
theorem fl_X1_52 : FL RX1 52 4 14 := ⟨by decide, by decide, Or.inl (TT_i 91 (by decide +kernel) rfl)⟩
theorem ml_X1_55 : Cond.methodLink RX1 55 yX1_noteSung ∈ TT := TT_i 638 (by decide +kernel) rfl
theorem mc_X1_noteSung : MC yX1_noteSung cX1_noteSung 6 (some .int) 5 := ⟨TT_i 640 (by decide +kernel) rfl, TT_i 19 (by decide +kernel) rfl, by decide +kernel⟩
theorem st_X1_noteSung : Cond.static yX1_noteSung ∈ TT := TT_i 639 (by decide +kernel) rfl
theorem ml_X1_30 : Cond.methodLink RX1 30 yX5_hasGate ∈ TT := TT_i 630 (by decide +kernel) rfl
theorem mc_X5_hasGate : MC yX5_hasGate cX5_hasGate 2 (some .boolean) 1 := ⟨TT_i 576 (by decide +kernel) rfl, TT_i 2 (by decide +kernel) rfl, by decide +kernel⟩
theorem im_X5_hasGate : Cond.instanceMethod yX5_hasGate ∈ TT := TT_i 574 (by decide +kernel) rfl
theorem se_X5_hasGate : Cond.selects (cR 4) yX5_hasGate yX5_hasGate ∈ TT := TT_i 575 (by decide +kernel) rfl
theorem fl_X1_38 : FL RX1 38 4 1 := ⟨by decide, by decide, Or.inl (TT_i 48 (by decide +kernel) rfl)⟩
theorem ml_X1_41 : Cond.methodLink RX1 41 yX1_isLiftedBy ∈ TT := TT_i 631 (by decide +kernel) rfl
theorem mc_X1_isLiftedBy : MC yX1_isLiftedBy cX1_isLiftedBy 9 (some .boolean) 5 := ⟨TT_i 633 (by decide +kernel) rfl, TT_i 19 (by decide +kernel) rfl, by decide +kernel⟩
theorem st_X1_isLiftedBy : Cond.static yX1_isLiftedBy ∈ TT := TT_i 632 (by decide +kernel) rfl
theorem ml_X1_45 : Cond.methodLink RX1 45 yX1_voice ∈ TT := TT_i 641 (by decide +kernel) rfl
theorem mc_X1_voice : MC yX1_voice cX1_voice 2 (some .int) 2 := ⟨TT_i 643 (by decide +kernel) rfl, TT_i 19 (by decide +kernel) rfl, by decide +kernel⟩
theorem st_X1_voice : Cond.static yX1_voice ∈ TT := TT_i 642 (by decide +kernel) rfl
theorem fl_X1_19 : FL RX1 19 4 3 := ⟨by decide, by decide, Or.inl (TT_i 59 (by decide +kernel) rfl)⟩
theorem ml_X1_26 : Cond.methodLink RX1 26 yX1_liftersOf ∈ TT := TT_i 627 (by decide +kernel) rfl
theorem mc_X1_liftersOf : MC yX1_liftersOf cX1_liftersOf 5 (some .int) 3 := ⟨TT_i 629 (by decide +kernel) rfl, TT_i 19 (by decide +kernel) rfl, by decide +kernel⟩
theorem st_X1_liftersOf : Cond.static yX1_liftersOf ∈ TT := TT_i 628 (by decide +kernel) rfl
theorem ml_X1_34 : Cond.methodLink RX1 34 yX1_isOpen ∈ TT := TT_i 795 (by decide +kernel) rfl
theorem oi_X2_7 : Cond.methodLink RX2 7 Lib.objectInit ∈ TT := TT_i 290 (by decide +kernel) rfl
theorem ar_int : Cond.arrayClass .int ∈ TT := TT_i 144 (by decide +kernel) rfl
theorem fl_X2_13 : FL RX2 13 1 0 := ⟨by decide, by decide, Or.inl (TT_i 291 (by decide +kernel) rfl)⟩
theorem fw_X2_13 : Cond.fieldLink RX2 13 (cT 1 0).1 (cT 1 0).2.1 (cT 1 0).2.2.1 ∈ TT := TT_i 291 (by decide +kernel) rfl
theorem fl_X2_17 : FL RX2 17 1 1 := ⟨by decide, by decide, Or.inl (TT_i 292 (by decide +kernel) rfl)⟩
theorem fw_X2_17 : Cond.fieldLink RX2 17 (cT 1 1).1 (cT 1 1).2.1 (cT 1 1).2.2.1 ∈ TT := TT_i 292 (by decide +kernel) rfl
theorem fl_X2_20 : FL RX2 20 1 2 := ⟨by decide, by decide, Or.inl (TT_i 293 (by decide +kernel) rfl)⟩
theorem fw_X2_20 : Cond.fieldLink RX2 20 (cT 1 2).1 (cT 1 2).2.1 (cT 1 2).2.2.1 ∈ TT := TT_i 293 (by decide +kernel) rfl
theorem ac_X2_23 : Cond.methodLink RX2 23 arraycopyName ∈ TT := TT_i 621 (by decide +kernel) rfl
theorem fl_X2_29 : FL RX2 29 1 4 := ⟨by decide, by decide, Or.inl (TT_i 295 (by decide +kernel) rfl)⟩
theorem fl_X2_33 : FL RX2 33 1 5 := ⟨by decide, by decide, Or.inl (TT_i 297 (by decide +kernel) rfl)⟩
theorem ml_X2_36 : Cond.methodLink RX2 36 yX2_of ∈ TT := TT_i 787 (by decide +kernel) rfl
theorem mc_X2_of : MC yX2_of cX2_of 3 (some .int) 2 := ⟨TT_i 766 (by decide +kernel) rfl, TT_i 8 (by decide +kernel) rfl, by decide +kernel⟩
theorem im_X2_of : Cond.instanceMethod yX2_of ∈ TT := TT_i 764 (by decide +kernel) rfl
theorem se_X2_of : Cond.selects (cR 1) yX2_of yX2_of ∈ TT := TT_i 765 (by decide +kernel) rfl
theorem fl_X2_42 : FL RX2 42 1 3 := ⟨by decide, by decide, Or.inl (TT_i 294 (by decide +kernel) rfl)⟩
theorem ml_X2_45 : Cond.methodLink RX2 45 Lib.Math.min.name ∈ TT := TT_i 1139 (by decide +kernel) rfl
theorem oi_X3_3 : Cond.methodLink RX3 3 Lib.objectInit ∈ TT := TT_i 371 (by decide +kernel) rfl
theorem fl_X3_11 : FL RX3 11 2 0 := ⟨by decide, by decide, Or.inl (TT_i 372 (by decide +kernel) rfl)⟩
theorem fw_X3_11 : Cond.fieldLink RX3 11 (cT 2 0).1 (cT 2 0).2.1 (cT 2 0).2.2.1 ∈ TT := TT_i 372 (by decide +kernel) rfl
theorem fl_X3_17 : FL RX3 17 2 1 := ⟨by decide, by decide, Or.inl (TT_i 373 (by decide +kernel) rfl)⟩
theorem fw_X3_17 : Cond.fieldLink RX3 17 (cT 2 1).1 (cT 2 1).2.1 (cT 2 1).2.2.1 ∈ TT := TT_i 373 (by decide +kernel) rfl
theorem fl_X3_20 : FL RX3 20 2 2 := ⟨by decide, by decide, Or.inl (TT_i 374 (by decide +kernel) rfl)⟩
theorem fw_X3_20 : Cond.fieldLink RX3 20 (cT 2 2).1 (cT 2 2).2.1 (cT 2 2).2.2.1 ∈ TT := TT_i 374 (by decide +kernel) rfl
theorem fl_X3_23 : FL RX3 23 4 9 := ⟨by decide, by decide, Or.inl (TT_i 76 (by decide +kernel) rfl)⟩
theorem ml_X3_34 : Cond.methodLink RX3 34 yX5_note ∈ TT := TT_i 658 (by decide +kernel) rfl
theorem ml_X3_26 : Cond.methodLink RX3 26 yX3_alikeNotes ∈ TT := TT_i 655 (by decide +kernel) rfl
theorem mc_X3_alikeNotes : MC yX3_alikeNotes cX3_alikeNotes 5 (some .int) 3 := ⟨TT_i 657 (by decide +kernel) rfl, TT_i 12 (by decide +kernel) rfl, by decide +kernel⟩
theorem st_X3_alikeNotes : Cond.static yX3_alikeNotes ∈ TT := TT_i 656 (by decide +kernel) rfl
theorem fl_X3_30 : FL RX3 30 4 1 := ⟨by decide, by decide, Or.inl (TT_i 46 (by decide +kernel) rfl)⟩
theorem kc_J6_264 : Cond.constant RJ6 264 65536 ∈ TT := TT_i 666 (by decide +kernel) rfl
theorem ml_X3_50 : Cond.methodLink RX3 50 yJ6_numberOfTrailingZeros_0f7a4 ∈ TT := TT_i 663 (by decide +kernel) rfl
theorem mc_J6_numberOfTrailingZeros_0f7a4 : MC yJ6_numberOfTrailingZeros_0f7a4 cJ6_numberOfTrailingZeros_0f7a4 2 (some .int) 1 := ⟨TT_i 665 (by decide +kernel) rfl, TT_i 20 (by decide +kernel) rfl, by decide +kernel⟩
theorem st_J6_numberOfTrailingZeros_0f7a4 : Cond.static yJ6_numberOfTrailingZeros_0f7a4 ∈ TT := TT_i 664 (by decide +kernel) rfl
theorem ml_X3_56 : Cond.methodLink RX3 56 Lib.Math.max.name ∈ TT := TT_i 667 (by decide +kernel) rfl
theorem ml_X3_61 : Cond.methodLink RX3 61 yJ7_fill_53178 ∈ TT := TT_i 674 (by decide +kernel) rfl
theorem mc_J7_fill_53178 : MC yJ7_fill_53178 cJ7_fill_53178 4 none 2 := ⟨TT_i 486 (by decide +kernel) rfl, TT_i 16 (by decide +kernel) rfl, by decide +kernel⟩
theorem st_J7_fill_53178 : Cond.static yJ7_fill_53178 ∈ TT := TT_i 485 (by decide +kernel) rfl
theorem ml_X3_67 : Cond.methodLink RX3 67 yX3_firstMate ∈ TT := TT_i 675 (by decide +kernel) rfl
theorem mc_X3_firstMate : MC yX3_firstMate cX3_firstMate 6 (some .int) 3 := ⟨TT_i 678 (by decide +kernel) rfl, TT_i 12 (by decide +kernel) rfl, by decide +kernel⟩
theorem im_X3_firstMate : Cond.instanceMethod yX3_firstMate ∈ TT := TT_i 677 (by decide +kernel) rfl
theorem se_X3_firstMate : Cond.selects (cR 2) yX3_firstMate yX3_firstMate ∈ TT := TT_sel (q := (yX3_firstMate, 3)) 26 (by decide +kernel)
theorem ml_X3_38 : Cond.methodLink RX3 38 yX3_goTogether ∈ TT := TT_i 652 (by decide +kernel) rfl
theorem mc_X3_goTogether : MC yX3_goTogether cX3_goTogether 3 (some .boolean) 3 := ⟨TT_i 654 (by decide +kernel) rfl, TT_i 12 (by decide +kernel) rfl, by decide +kernel⟩
theorem st_X3_goTogether : Cond.static yX3_goTogether ∈ TT := TT_i 653 (by decide +kernel) rfl
theorem ml_X3_42 : Cond.methodLink RX3 42 yX3_mostOf ∈ TT := TT_i 659 (by decide +kernel) rfl
theorem mc_X3_mostOf : MC yX3_mostOf cX3_mostOf 7 (some .int) 2 := ⟨TT_i 662 (by decide +kernel) rfl, TT_i 12 (by decide +kernel) rfl, by decide +kernel⟩
theorem im_X3_mostOf : Cond.instanceMethod yX3_mostOf ∈ TT := TT_i 661 (by decide +kernel) rfl
theorem se_X3_mostOf : Cond.selects (cR 2) yX3_mostOf yX3_mostOf ∈ TT := TT_sel (q := (yX3_mostOf, 3)) 24 (by decide +kernel)
theorem ml_X3_46 : Cond.methodLink RX3 46 yX3_takeFirst ∈ TT := TT_i 670 (by decide +kernel) rfl
theorem mc_X3_takeFirst : MC yX3_takeFirst cX3_takeFirst 5 none 1 := ⟨TT_i 673 (by decide +kernel) rfl, TT_i 12 (by decide +kernel) rfl, by decide +kernel⟩
theorem im_X3_takeFirst : Cond.instanceMethod yX3_takeFirst ∈ TT := TT_i 672 (by decide +kernel) rfl
theorem se_X3_takeFirst : Cond.selects (cR 2) yX3_takeFirst yX3_takeFirst ∈ TT := TT_sel (q := (yX3_takeFirst, 3)) 25 (by decide +kernel)
theorem oi_X5_3 : Cond.methodLink RX5 3 Lib.objectInit ∈ TT := TT_i 40 (by decide +kernel) rfl
theorem fl_X5_11 : FL RX5 11 4 9 := ⟨by decide, by decide, Or.inl (TT_i 75 (by decide +kernel) rfl)⟩
theorem fw_X5_11 : Cond.fieldLink RX5 11 (cT 4 9).1 (cT 4 9).2.1 (cT 4 9).2.2.1 ∈ TT := TT_i 75 (by decide +kernel) rfl
theorem fw_X5_15 : Cond.fieldLink RX5 15 (cT 4 10).1 (cT 4 10).2.1 (cT 4 10).2.2.1 ∈ TT := TT_i 81 (by decide +kernel) rfl
theorem fw_X5_18 : Cond.fieldLink RX5 18 (cT 4 11).1 (cT 4 11).2.1 (cT 4 11).2.2.1 ∈ TT := TT_i 83 (by decide +kernel) rfl
theorem fl_X5_21 : FL RX5 21 4 12 := ⟨by decide, by decide, Or.inl (TT_i 84 (by decide +kernel) rfl)⟩
theorem fw_X5_21 : Cond.fieldLink RX5 21 (cT 4 12).1 (cT 4 12).2.1 (cT 4 12).2.2.1 ∈ TT := TT_i 84 (by decide +kernel) rfl
theorem fw_X5_24 : Cond.fieldLink RX5 24 (cT 4 13).1 (cT 4 13).2.1 (cT 4 13).2.2.1 ∈ TT := TT_i 87 (by decide +kernel) rfl
theorem fl_X5_27 : FL RX5 27 4 14 := ⟨by decide, by decide, Or.inl (TT_i 90 (by decide +kernel) rfl)⟩
theorem fw_X5_27 : Cond.fieldLink RX5 27 (cT 4 14).1 (cT 4 14).2.1 (cT 4 14).2.2.1 ∈ TT := TT_i 90 (by decide +kernel) rfl
theorem fl_X5_30 : FL RX5 30 4 15 := ⟨by decide, by decide, Or.inl (TT_i 94 (by decide +kernel) rfl)⟩
theorem fw_X5_30 : Cond.fieldLink RX5 30 (cT 4 15).1 (cT 4 15).2.1 (cT 4 15).2.2.1 ∈ TT := TT_i 94 (by decide +kernel) rfl
theorem fl_X5_33 : FL RX5 33 4 16 := ⟨by decide, by decide, Or.inl (TT_i 95 (by decide +kernel) rfl)⟩
theorem fw_X5_33 : Cond.fieldLink RX5 33 (cT 4 16).1 (cT 4 16).2.1 (cT 4 16).2.2.1 ∈ TT := TT_i 95 (by decide +kernel) rfl
theorem fl_X5_36 : FL RX5 36 4 17 := ⟨by decide, by decide, Or.inl (TT_i 96 (by decide +kernel) rfl)⟩
theorem fw_X5_36 : Cond.fieldLink RX5 36 (cT 4 17).1 (cT 4 17).2.1 (cT 4 17).2.2.1 ∈ TT := TT_i 96 (by decide +kernel) rfl
theorem fl_X5_39 : FL RX5 39 4 18 := ⟨by decide, by decide, Or.inl (TT_i 99 (by decide +kernel) rfl)⟩
theorem fw_X5_39 : Cond.fieldLink RX5 39 (cT 4 18).1 (cT 4 18).2.1 (cT 4 18).2.2.1 ∈ TT := TT_i 99 (by decide +kernel) rfl
theorem fl_X5_44 : FL RX5 44 4 19 := ⟨by decide, by decide, Or.inl (TT_i 101 (by decide +kernel) rfl)⟩
theorem fw_X5_44 : Cond.fieldLink RX5 44 (cT 4 19).1 (cT 4 19).2.1 (cT 4 19).2.2.1 ∈ TT := TT_i 101 (by decide +kernel) rfl
theorem ml_X4_257 : Cond.methodLink RX4 257 yJ0_length_8abf5 ∈ TT := TT_i 157 (by decide +kernel) rfl
theorem kc_X4_255 : Cond.constantLong RX4 255 32 ∈ TT := TT_i 167 (by decide +kernel) rfl
theorem ml_X4_263 : Cond.methodLink RX4 263 yJ0_charAt_5068e ∈ TT := TT_i 168 (by decide +kernel) rfl
theorem oi_X4_5 : Cond.methodLink RX4 5 Lib.objectInit ∈ TT := TT_i 150 (by decide +kernel) rfl
theorem fl_X4_13 : FL RX4 13 3 0 := ⟨by decide, by decide, Or.inl (TT_i 225 (by decide +kernel) rfl)⟩
theorem fw_X4_13 : Cond.fieldLink RX4 13 (cT 3 0).1 (cT 3 0).2.1 (cT 3 0).2.2.1 ∈ TT := TT_i 225 (by decide +kernel) rfl
theorem ar_long : Cond.arrayClass .long ∈ TT := TT_i 283 (by decide +kernel) rfl
theorem fl_X4_17 : FL RX4 17 3 1 := ⟨by decide, by decide, Or.inl (TT_i 226 (by decide +kernel) rfl)⟩
theorem fw_X4_17 : Cond.fieldLink RX4 17 (cT 3 1).1 (cT 3 1).2.1 (cT 3 1).2.2.1 ∈ TT := TT_i 226 (by decide +kernel) rfl
theorem fl_X4_21 : FL RX4 21 3 2 := ⟨by decide, by decide, Or.inl (TT_i 227 (by decide +kernel) rfl)⟩
theorem fw_X4_21 : Cond.fieldLink RX4 21 (cT 3 2).1 (cT 3 2).2.1 (cT 3 2).2.2.1 ∈ TT := TT_i 227 (by decide +kernel) rfl
theorem fl_X4_24 : FL RX4 24 3 3 := ⟨by decide, by decide, Or.inl (TT_i 228 (by decide +kernel) rfl)⟩
theorem fw_X4_24 : Cond.fieldLink RX4 24 (cT 3 3).1 (cT 3 3).2.1 (cT 3 3).2.2.1 ∈ TT := TT_i 228 (by decide +kernel) rfl
theorem fl_X4_27 : FL RX4 27 3 4 := ⟨by decide, by decide, Or.inl (TT_i 229 (by decide +kernel) rfl)⟩
theorem fw_X4_27 : Cond.fieldLink RX4 27 (cT 3 4).1 (cT 3 4).2.1 (cT 3 4).2.2.1 ∈ TT := TT_i 229 (by decide +kernel) rfl
theorem fl_X4_30 : FL RX4 30 3 5 := ⟨by decide, by decide, Or.inl (TT_i 230 (by decide +kernel) rfl)⟩
theorem fw_X4_30 : Cond.fieldLink RX4 30 (cT 3 5).1 (cT 3 5).2.1 (cT 3 5).2.2.1 ∈ TT := TT_i 230 (by decide +kernel) rfl
theorem cl_X4_1 : Cond.classLink RX4 1 (cR 4) ∈ TT := TT_i 151 (by decide +kernel) rfl
theorem ia_4 : Cond.instantiable (cR 4) (cN 4) ∈ TT := TT_i 36 (by decide +kernel) rfl
theorem in_4 : Cond.initialized (cR 4) ∈ TT := TT_i 2 (by decide +kernel) rfl
theorem ml_X4_33 : Cond.methodLinkNest RX4 33 yX5_init "TuneGates" ∈ NW := NW_i 152 (by decide +kernel) rfl
theorem mc_X5_init : MC yX5_init cX5_init 1 none 0 := ⟨TT_i 39 (by decide +kernel) rfl, TT_i 2 (by decide +kernel) rfl, by decide +kernel⟩
theorem im_X5_init : Cond.instanceMethod yX5_init ∈ TT := TT_i 38 (by decide +kernel) rfl
theorem fl_X4_34 : FL RX4 34 3 6 := ⟨by decide, by decide, Or.inl (TT_i 231 (by decide +kernel) rfl)⟩
theorem fl_X4_38 : FL RX4 38 3 17 := ⟨by decide, by decide, Or.inl (TT_i 244 (by decide +kernel) rfl)⟩
theorem ml_X4_44 : Cond.methodLink RX4 44 yX4_asNumber ∈ TT := TT_i 154 (by decide +kernel) rfl
theorem mc_X4_asNumber : MC yX4_asNumber cX4_asNumber 4 (some .long) 1 := ⟨TT_i 156 (by decide +kernel) rfl, TT_i 3 (by decide +kernel) rfl, by decide +kernel⟩
theorem st_X4_asNumber : Cond.static yX4_asNumber ∈ TT := TT_i 155 (by decide +kernel) rfl
theorem fl_X4_85 : FL RX4 85 3 15 := ⟨by decide, by decide, Or.inl (TT_i 240 (by decide +kernel) rfl)⟩
theorem fl_X5_47 : FL RX5 47 4 0 := ⟨by decide, by decide, Or.inl (TT_i 41 (by decide +kernel) rfl)⟩
theorem fl_X5_51 : FL RX5 51 4 1 := ⟨by decide, by decide, Or.inl (TT_i 45 (by decide +kernel) rfl)⟩
theorem fl_X5_54 : FL RX5 54 4 2 := ⟨by decide, by decide, Or.inl (TT_i 52 (by decide +kernel) rfl)⟩
theorem fl_X5_57 : FL RX5 57 4 3 := ⟨by decide, by decide, Or.inl (TT_i 56 (by decide +kernel) rfl)⟩
theorem fl_X5_60 : FL RX5 60 4 4 := ⟨by decide, by decide, Or.inl (TT_i 62 (by decide +kernel) rfl)⟩
theorem fl_X5_63 : FL RX5 63 4 5 := ⟨by decide, by decide, Or.inl (TT_i 64 (by decide +kernel) rfl)⟩
theorem fl_X5_66 : FL RX5 66 4 6 := ⟨by decide, by decide, Or.inl (TT_i 67 (by decide +kernel) rfl)⟩
theorem fl_X5_69 : FL RX5 69 4 7 := ⟨by decide, by decide, Or.inl (TT_i 69 (by decide +kernel) rfl)⟩
theorem fl_X5_72 : FL RX5 72 4 8 := ⟨by decide, by decide, Or.inl (TT_i 72 (by decide +kernel) rfl)⟩
theorem ml_X5_75 : Cond.methodLink RX5 75 yJ7_fill_53178 ∈ TT := TT_i 484 (by decide +kernel) rfl
theorem fl_X4_245 : FL RX4 245 3 12 := ⟨by decide, by decide, Or.inl (TT_i 237 (by decide +kernel) rfl)⟩
theorem fl_X4_130 : FL RX4 130 3 10 := ⟨by decide, by decide, Or.inl (TT_i 235 (by decide +kernel) rfl)⟩
theorem fl_X4_92 : FL RX4 92 3 8 := ⟨by decide, by decide, Or.inl (TT_i 233 (by decide +kernel) rfl)⟩
theorem fl_X4_136 : FL RX4 136 3 9 := ⟨by decide, by decide, Or.inl (TT_i 234 (by decide +kernel) rfl)⟩
theorem fl_X4_99 : FL RX4 99 3 11 := ⟨by decide, by decide, Or.inl (TT_i 236 (by decide +kernel) rfl)⟩
theorem fl_X4_235 : FL RX4 235 3 14 := ⟨by decide, by decide, Or.inl (TT_i 239 (by decide +kernel) rfl)⟩
theorem ml_X4_252 : Cond.methodLink RX4 252 yX4_takeDigits ∈ TT := TT_i 503 (by decide +kernel) rfl
theorem mc_X4_takeDigits : MC yX4_takeDigits cX4_takeDigits 1 none 0 := ⟨TT_i 506 (by decide +kernel) rfl, TT_i 3 (by decide +kernel) rfl, by decide +kernel⟩
theorem im_X4_takeDigits : Cond.instanceMethod yX4_takeDigits ∈ TT := TT_i 505 (by decide +kernel) rfl
theorem se_X4_takeDigits : Cond.selects (cR 3) yX4_takeDigits yX4_takeDigits ∈ TT := TT_sel (q := (yX4_takeDigits, 18)) 5 (by decide +kernel)
theorem ml_X4_249 : Cond.methodLink RX4 249 yX4_takeLetters ∈ TT := TT_i 495 (by decide +kernel) rfl
theorem mc_X4_takeLetters : MC yX4_takeLetters cX4_takeLetters 1 none 0 := ⟨TT_i 498 (by decide +kernel) rfl, TT_i 3 (by decide +kernel) rfl, by decide +kernel⟩
theorem im_X4_takeLetters : Cond.instanceMethod yX4_takeLetters ∈ TT := TT_i 497 (by decide +kernel) rfl
theorem se_X4_takeLetters : Cond.selects (cR 3) yX4_takeLetters yX4_takeLetters ∈ TT := TT_sel (q := (yX4_takeLetters, 18)) 3 (by decide +kernel)
theorem ml_X4_241 : Cond.methodLink RX4 241 yX4_placeOfWord ∈ TT := TT_i 499 (by decide +kernel) rfl
theorem mc_X4_placeOfWord : MC yX4_placeOfWord cX4_placeOfWord 4 (some .int) 2 := ⟨TT_i 502 (by decide +kernel) rfl, TT_i 3 (by decide +kernel) rfl, by decide +kernel⟩
theorem im_X4_placeOfWord : Cond.instanceMethod yX4_placeOfWord ∈ TT := TT_i 501 (by decide +kernel) rfl
theorem se_X4_placeOfWord : Cond.selects (cR 3) yX4_placeOfWord yX4_placeOfWord ∈ TT := TT_sel (q := (yX4_placeOfWord, 18)) 4 (by decide +kernel)
theorem fl_X4_138 : FL RX4 138 3 13 := ⟨by decide, by decide, Or.inl (TT_i 238 (by decide +kernel) rfl)⟩
theorem ml_X4_112 : Cond.methodLink RX4 112 yX5_clear ∈ TT := TT_i 480 (by decide +kernel) rfl
theorem mc_X5_clear : MC yX5_clear cX5_clear 1 none 0 := ⟨TT_i 483 (by decide +kernel) rfl, TT_i 2 (by decide +kernel) rfl, by decide +kernel⟩
theorem im_X5_clear : Cond.instanceMethod yX5_clear ∈ TT := TT_i 481 (by decide +kernel) rfl
theorem se_X5_clear : Cond.selects (cR 4) yX5_clear yX5_clear ∈ TT := TT_i 482 (by decide +kernel) rfl
theorem ml_X4_115 : Cond.methodLink RX4 115 yJ7_fill_53178 ∈ TT := TT_i 487 (by decide +kernel) rfl
theorem fl_X4_121 : FL RX4 121 3 7 := ⟨by decide, by decide, Or.inl (TT_i 232 (by decide +kernel) rfl)⟩
theorem ml_X4_124 : Cond.methodLink RX4 124 Lib.Math.min.name ∈ TT := TT_i 488 (by decide +kernel) rfl
theorem fl_X4_133 : FL RX4 133 3 16 := ⟨by decide, by decide, Or.inl (TT_i 243 (by decide +kernel) rfl)⟩
theorem ml_X4_109 : Cond.methodLink RX4 109 yX4_step ∈ TT := TT_i 491 (by decide +kernel) rfl
theorem mc_X4_step : MC yX4_step cX4_step 1 none 0 := ⟨TT_i 494 (by decide +kernel) rfl, TT_i 3 (by decide +kernel) rfl, by decide +kernel⟩
theorem im_X4_step : Cond.instanceMethod yX4_step ∈ TT := TT_i 493 (by decide +kernel) rfl
theorem se_X4_step : Cond.selects (cR 3) yX4_step yX4_step ∈ TT := TT_sel (q := (yX4_step, 18)) 2 (by decide +kernel)
theorem ml_X4_212 : Cond.methodLink RX4 212 yX4_isWord ∈ TT := TT_i 525 (by decide +kernel) rfl
theorem mc_X4_isWord : MC yX4_isWord cX4_isWord 2 (some .boolean) 1 := ⟨TT_i 528 (by decide +kernel) rfl, TT_i 3 (by decide +kernel) rfl, by decide +kernel⟩
theorem im_X4_isWord : Cond.instanceMethod yX4_isWord ∈ TT := TT_i 527 (by decide +kernel) rfl
theorem se_X4_isWord : Cond.selects (cR 3) yX4_isWord yX4_isWord ∈ TT := TT_sel (q := (yX4_isWord, 18)) 10 (by decide +kernel)
theorem ml_X4_105 : Cond.methodLink RX4 105 yX4_fail ∈ TT := TT_i 511 (by decide +kernel) rfl
theorem mc_X4_fail : MC yX4_fail cX4_fail 2 (some .boolean) 1 := ⟨TT_i 514 (by decide +kernel) rfl, TT_i 3 (by decide +kernel) rfl, by decide +kernel⟩
theorem im_X4_fail : Cond.instanceMethod yX4_fail ∈ TT := TT_i 513 (by decide +kernel) rfl
theorem se_X4_fail : Cond.selects (cR 3) yX4_fail yX4_fail ∈ TT := TT_sel (q := (yX4_fail, 18)) 7 (by decide +kernel)
theorem ml_X4_171 : Cond.methodLink RX4 171 yX4_readWord ∈ TT := TT_i 521 (by decide +kernel) rfl
theorem mc_X4_readWord : MC yX4_readWord cX4_readWord 2 (some .boolean) 1 := ⟨TT_i 524 (by decide +kernel) rfl, TT_i 3 (by decide +kernel) rfl, by decide +kernel⟩
theorem im_X4_readWord : Cond.instanceMethod yX4_readWord ∈ TT := TT_i 523 (by decide +kernel) rfl
theorem se_X4_readWord : Cond.selects (cR 3) yX4_readWord yX4_readWord ∈ TT := TT_sel (q := (yX4_readWord, 18)) 9 (by decide +kernel)
theorem ml_X4_174 : Cond.methodLink RX4 174 yX4_readWhole ∈ TT := TT_i 529 (by decide +kernel) rfl
theorem mc_X4_readWhole : MC yX4_readWhole cX4_readWhole 4 (some .int) 2 := ⟨TT_i 532 (by decide +kernel) rfl, TT_i 3 (by decide +kernel) rfl, by decide +kernel⟩
theorem im_X4_readWhole : Cond.instanceMethod yX4_readWhole ∈ TT := TT_i 531 (by decide +kernel) rfl
theorem se_X4_readWhole : Cond.selects (cR 3) yX4_readWhole yX4_readWhole ∈ TT := TT_sel (q := (yX4_readWhole, 18)) 11 (by decide +kernel)
theorem fl_X4_177 : FL RX4 177 4 0 := ⟨by decide, by decide, Or.inl (TT_i 43 (by decide +kernel) rfl)⟩
theorem ml_X4_238 : Cond.methodLink RX4 238 yX4_isName ∈ TT := TT_i 541 (by decide +kernel) rfl
theorem mc_X4_isName : MC yX4_isName cX4_isName 1 (some .boolean) 0 := ⟨TT_i 544 (by decide +kernel) rfl, TT_i 3 (by decide +kernel) rfl, by decide +kernel⟩
theorem im_X4_isName : Cond.instanceMethod yX4_isName ∈ TT := TT_i 543 (by decide +kernel) rfl
theorem se_X4_isName : Cond.selects (cR 3) yX4_isName yX4_isName ∈ TT := TT_sel (q := (yX4_isName, 18)) 14 (by decide +kernel)
theorem ml_X4_180 : Cond.methodLink RX4 180 yX4_readNewName ∈ TT := TT_i 537 (by decide +kernel) rfl
theorem mc_X4_readNewName : MC yX4_readNewName cX4_readNewName 2 (some .boolean) 1 := ⟨TT_i 540 (by decide +kernel) rfl, TT_i 3 (by decide +kernel) rfl, by decide +kernel⟩
theorem im_X4_readNewName : Cond.instanceMethod yX4_readNewName ∈ TT := TT_i 539 (by decide +kernel) rfl
theorem se_X4_readNewName : Cond.selects (cR 3) yX4_readNewName yX4_readNewName ∈ TT := TT_sel (q := (yX4_readNewName, 18)) 13 (by decide +kernel)
theorem fl_X4_183 : FL RX4 183 4 10 := ⟨by decide, by decide, Or.inl (TT_i 82 (by decide +kernel) rfl)⟩
theorem fl_X4_186 : FL RX4 186 4 1 := ⟨by decide, by decide, Or.inl (TT_i 49 (by decide +kernel) rfl)⟩
theorem fl_X4_189 : FL RX4 189 4 9 := ⟨by decide, by decide, Or.inl (TT_i 80 (by decide +kernel) rfl)⟩
theorem fl_X4_102 : FL RX4 102 4 2 := ⟨by decide, by decide, Or.inl (TT_i 55 (by decide +kernel) rfl)⟩
theorem ml_X4_196 : Cond.methodLink RX4 196 yX4_findName ∈ TT := TT_i 557 (by decide +kernel) rfl
theorem mc_X4_findName : MC yX4_findName cX4_findName 3 (some .int) 1 := ⟨TT_i 560 (by decide +kernel) rfl, TT_i 3 (by decide +kernel) rfl, by decide +kernel⟩
theorem im_X4_findName : Cond.instanceMethod yX4_findName ∈ TT := TT_i 559 (by decide +kernel) rfl
theorem se_X4_findName : Cond.selects (cR 3) yX4_findName yX4_findName ∈ TT := TT_sel (q := (yX4_findName, 18)) 18 (by decide +kernel)
theorem ml_X4_192 : Cond.methodLink RX4 192 yX4_readName ∈ TT := TT_i 553 (by decide +kernel) rfl
theorem mc_X4_readName : MC yX4_readName cX4_readName 3 (some .int) 1 := ⟨TT_i 556 (by decide +kernel) rfl, TT_i 3 (by decide +kernel) rfl, by decide +kernel⟩
theorem im_X4_readName : Cond.instanceMethod yX4_readName ∈ TT := TT_i 555 (by decide +kernel) rfl
theorem se_X4_readName : Cond.selects (cR 3) yX4_readName yX4_readName ∈ TT := TT_sel (q := (yX4_readName, 18)) 17 (by decide +kernel)
theorem ml_X4_199 : Cond.methodLink RX4 199 yX5_roadBetween ∈ TT := TT_i 561 (by decide +kernel) rfl
theorem mc_X5_roadBetween : MC yX5_roadBetween cX5_roadBetween 3 (some .int) 2 := ⟨TT_i 564 (by decide +kernel) rfl, TT_i 2 (by decide +kernel) rfl, by decide +kernel⟩
theorem im_X5_roadBetween : Cond.instanceMethod yX5_roadBetween ∈ TT := TT_i 562 (by decide +kernel) rfl
theorem se_X5_roadBetween : Cond.selects (cR 4) yX5_roadBetween yX5_roadBetween ∈ TT := TT_i 563 (by decide +kernel) rfl
theorem ml_X4_202 : Cond.methodLink RX4 202 yX5_addRoad ∈ TT := TT_i 565 (by decide +kernel) rfl
theorem mc_X5_addRoad : MC yX5_addRoad cX5_addRoad 4 none 3 := ⟨TT_i 568 (by decide +kernel) rfl, TT_i 2 (by decide +kernel) rfl, by decide +kernel⟩
theorem im_X5_addRoad : Cond.instanceMethod yX5_addRoad ∈ TT := TT_i 566 (by decide +kernel) rfl
theorem se_X5_addRoad : Cond.selects (cR 4) yX5_addRoad yX5_addRoad ∈ TT := TT_i 567 (by decide +kernel) rfl
theorem ml_X4_206 : Cond.methodLink RX4 206 yX5_hasGate ∈ TT := TT_i 573 (by decide +kernel) rfl
theorem ml_X4_209 : Cond.methodLink RX4 209 yX5_addGate ∈ TT := TT_i 577 (by decide +kernel) rfl
theorem mc_X5_addGate : MC yX5_addGate cX5_addGate 4 none 3 := ⟨TT_i 580 (by decide +kernel) rfl, TT_i 2 (by decide +kernel) rfl, by decide +kernel⟩
theorem im_X5_addGate : Cond.instanceMethod yX5_addGate ∈ TT := TT_i 578 (by decide +kernel) rfl
theorem se_X5_addGate : Cond.selects (cR 4) yX5_addGate yX5_addGate ∈ TT := TT_i 579 (by decide +kernel) rfl
theorem ml_X4_215 : Cond.methodLink RX4 215 yX5_addInn ∈ TT := TT_i 585 (by decide +kernel) rfl
theorem mc_X5_addInn : MC yX5_addInn cX5_addInn 6 none 4 := ⟨TT_i 588 (by decide +kernel) rfl, TT_i 2 (by decide +kernel) rfl, by decide +kernel⟩
theorem im_X5_addInn : Cond.instanceMethod yX5_addInn ∈ TT := TT_i 586 (by decide +kernel) rfl
theorem se_X5_addInn : Cond.selects (cR 4) yX5_addInn yX5_addInn ∈ TT := TT_i 587 (by decide +kernel) rfl
theorem ml_X4_219 : Cond.methodLink RX4 219 yX5_addPerson ∈ TT := TT_i 593 (by decide +kernel) rfl
theorem mc_X5_addPerson : MC yX5_addPerson cX5_addPerson 3 none 2 := ⟨TT_i 596 (by decide +kernel) rfl, TT_i 2 (by decide +kernel) rfl, by decide +kernel⟩
theorem im_X5_addPerson : Cond.instanceMethod yX5_addPerson ∈ TT := TT_i 594 (by decide +kernel) rfl
theorem se_X5_addPerson : Cond.selects (cR 4) yX5_addPerson yX5_addPerson ∈ TT := TT_i 595 (by decide +kernel) rfl
theorem ml_X4_223 : Cond.methodLink RX4 223 yX5_knowsFromStart ∈ TT := TT_i 601 (by decide +kernel) rfl
theorem mc_X5_knowsFromStart : MC yX5_knowsFromStart cX5_knowsFromStart 3 (some .boolean) 2 := ⟨TT_i 604 (by decide +kernel) rfl, TT_i 2 (by decide +kernel) rfl, by decide +kernel⟩
theorem im_X5_knowsFromStart : Cond.instanceMethod yX5_knowsFromStart ∈ TT := TT_i 602 (by decide +kernel) rfl
theorem se_X5_knowsFromStart : Cond.selects (cR 4) yX5_knowsFromStart yX5_knowsFromStart ∈ TT := TT_i 603 (by decide +kernel) rfl
theorem ml_X4_227 : Cond.methodLink RX4 227 yX5_addKnown ∈ TT := TT_i 605 (by decide +kernel) rfl
theorem mc_X5_addKnown : MC yX5_addKnown cX5_addKnown 3 none 2 := ⟨TT_i 608 (by decide +kernel) rfl, TT_i 2 (by decide +kernel) rfl, by decide +kernel⟩
theorem im_X5_addKnown : Cond.instanceMethod yX5_addKnown ∈ TT := TT_i 606 (by decide +kernel) rfl
theorem se_X5_addKnown : Cond.selects (cR 4) yX5_addKnown yX5_addKnown ∈ TT := TT_i 607 (by decide +kernel) rfl
theorem fl_X4_230 : FL RX4 230 4 17 := ⟨by decide, by decide, Or.inl (TT_i 98 (by decide +kernel) rfl)⟩
theorem fl_X4_233 : FL RX4 233 4 8 := ⟨by decide, by decide, Or.inl (TT_i 73 (by decide +kernel) rfl)⟩
theorem ml_X4_144 : Cond.methodLink RX4 144 yX4_readTurnpike ∈ TT := TT_i 517 (by decide +kernel) rfl
theorem mc_X4_readTurnpike : MC yX4_readTurnpike cX4_readTurnpike 2 (some .boolean) 0 := ⟨TT_i 520 (by decide +kernel) rfl, TT_i 3 (by decide +kernel) rfl, by decide +kernel⟩
theorem im_X4_readTurnpike : Cond.instanceMethod yX4_readTurnpike ∈ TT := TT_i 519 (by decide +kernel) rfl
theorem se_X4_readTurnpike : Cond.selects (cR 3) yX4_readTurnpike yX4_readTurnpike ∈ TT := TT_sel (q := (yX4_readTurnpike, 18)) 8 (by decide +kernel)
theorem ml_X4_147 : Cond.methodLink RX4 147 yX4_readTune ∈ TT := TT_i 533 (by decide +kernel) rfl
theorem mc_X4_readTune : MC yX4_readTune cX4_readTune 3 (some .boolean) 0 := ⟨TT_i 536 (by decide +kernel) rfl, TT_i 3 (by decide +kernel) rfl, by decide +kernel⟩
theorem im_X4_readTune : Cond.instanceMethod yX4_readTune ∈ TT := TT_i 535 (by decide +kernel) rfl
theorem se_X4_readTune : Cond.selects (cR 3) yX4_readTune yX4_readTune ∈ TT := TT_sel (q := (yX4_readTune, 18)) 12 (by decide +kernel)
theorem ml_X4_150 : Cond.methodLink RX4 150 yX4_readPlace ∈ TT := TT_i 545 (by decide +kernel) rfl
theorem mc_X4_readPlace : MC yX4_readPlace cX4_readPlace 1 (some .boolean) 0 := ⟨TT_i 548 (by decide +kernel) rfl, TT_i 3 (by decide +kernel) rfl, by decide +kernel⟩
theorem im_X4_readPlace : Cond.instanceMethod yX4_readPlace ∈ TT := TT_i 547 (by decide +kernel) rfl
theorem se_X4_readPlace : Cond.selects (cR 3) yX4_readPlace yX4_readPlace ∈ TT := TT_sel (q := (yX4_readPlace, 18)) 15 (by decide +kernel)
theorem ml_X4_153 : Cond.methodLink RX4 153 yX4_readRoad ∈ TT := TT_i 549 (by decide +kernel) rfl
theorem mc_X4_readRoad : MC yX4_readRoad cX4_readRoad 4 (some .boolean) 0 := ⟨TT_i 552 (by decide +kernel) rfl, TT_i 3 (by decide +kernel) rfl, by decide +kernel⟩
theorem im_X4_readRoad : Cond.instanceMethod yX4_readRoad ∈ TT := TT_i 551 (by decide +kernel) rfl
theorem se_X4_readRoad : Cond.selects (cR 3) yX4_readRoad yX4_readRoad ∈ TT := TT_sel (q := (yX4_readRoad, 18)) 16 (by decide +kernel)
theorem ml_X4_156 : Cond.methodLink RX4 156 yX4_readGate ∈ TT := TT_i 569 (by decide +kernel) rfl
theorem mc_X4_readGate : MC yX4_readGate cX4_readGate 6 (some .boolean) 0 := ⟨TT_i 572 (by decide +kernel) rfl, TT_i 3 (by decide +kernel) rfl, by decide +kernel⟩
theorem im_X4_readGate : Cond.instanceMethod yX4_readGate ∈ TT := TT_i 571 (by decide +kernel) rfl
theorem se_X4_readGate : Cond.selects (cR 3) yX4_readGate yX4_readGate ∈ TT := TT_sel (q := (yX4_readGate, 18)) 19 (by decide +kernel)
theorem ml_X4_159 : Cond.methodLink RX4 159 yX4_readInn ∈ TT := TT_i 581 (by decide +kernel) rfl
theorem mc_X4_readInn : MC yX4_readInn cX4_readInn 5 (some .boolean) 0 := ⟨TT_i 584 (by decide +kernel) rfl, TT_i 3 (by decide +kernel) rfl, by decide +kernel⟩
theorem im_X4_readInn : Cond.instanceMethod yX4_readInn ∈ TT := TT_i 583 (by decide +kernel) rfl
theorem se_X4_readInn : Cond.selects (cR 3) yX4_readInn yX4_readInn ∈ TT := TT_sel (q := (yX4_readInn, 18)) 20 (by decide +kernel)
theorem ml_X4_162 : Cond.methodLink RX4 162 yX4_readPerson ∈ TT := TT_i 589 (by decide +kernel) rfl
theorem mc_X4_readPerson : MC yX4_readPerson cX4_readPerson 3 (some .boolean) 0 := ⟨TT_i 592 (by decide +kernel) rfl, TT_i 3 (by decide +kernel) rfl, by decide +kernel⟩
theorem im_X4_readPerson : Cond.instanceMethod yX4_readPerson ∈ TT := TT_i 591 (by decide +kernel) rfl
theorem se_X4_readPerson : Cond.selects (cR 3) yX4_readPerson yX4_readPerson ∈ TT := TT_sel (q := (yX4_readPerson, 18)) 21 (by decide +kernel)
theorem ml_X4_165 : Cond.methodLink RX4 165 yX4_readKnows ∈ TT := TT_i 597 (by decide +kernel) rfl
theorem mc_X4_readKnows : MC yX4_readKnows cX4_readKnows 3 (some .boolean) 0 := ⟨TT_i 600 (by decide +kernel) rfl, TT_i 3 (by decide +kernel) rfl, by decide +kernel⟩
theorem im_X4_readKnows : Cond.instanceMethod yX4_readKnows ∈ TT := TT_i 599 (by decide +kernel) rfl
theorem se_X4_readKnows : Cond.selects (cR 3) yX4_readKnows yX4_readKnows ∈ TT := TT_sel (q := (yX4_readKnows, 18)) 22 (by decide +kernel)
theorem ml_X4_168 : Cond.methodLink RX4 168 yX4_readHeard ∈ TT := TT_i 609 (by decide +kernel) rfl
theorem mc_X4_readHeard : MC yX4_readHeard cX4_readHeard 2 (some .boolean) 0 := ⟨TT_i 612 (by decide +kernel) rfl, TT_i 3 (by decide +kernel) rfl, by decide +kernel⟩
theorem im_X4_readHeard : Cond.instanceMethod yX4_readHeard ∈ TT := TT_i 611 (by decide +kernel) rfl
theorem se_X4_readHeard : Cond.selects (cR 3) yX4_readHeard yX4_readHeard ∈ TT := TT_sel (q := (yX4_readHeard, 18)) 23 (by decide +kernel)
theorem ml_X4_88 : Cond.methodLink RX4 88 yX4_begin ∈ TT := TT_i 476 (by decide +kernel) rfl
theorem mc_X4_begin : MC yX4_begin cX4_begin 2 none 1 := ⟨TT_i 479 (by decide +kernel) rfl, TT_i 3 (by decide +kernel) rfl, by decide +kernel⟩
theorem im_X4_begin : Cond.instanceMethod yX4_begin ∈ TT := TT_i 478 (by decide +kernel) rfl
theorem se_X4_begin : Cond.selects (cR 3) yX4_begin yX4_begin ∈ TT := TT_sel (q := (yX4_begin, 18)) 1 (by decide +kernel)
theorem ml_X4_95 : Cond.methodLink RX4 95 yX4_readLine ∈ TT := TT_i 507 (by decide +kernel) rfl
theorem mc_X4_readLine : MC yX4_readLine cX4_readLine 2 (some .boolean) 0 := ⟨TT_i 510 (by decide +kernel) rfl, TT_i 3 (by decide +kernel) rfl, by decide +kernel⟩
theorem im_X4_readLine : Cond.instanceMethod yX4_readLine ∈ TT := TT_i 509 (by decide +kernel) rfl
theorem se_X4_readLine : Cond.selects (cR 3) yX4_readLine yX4_readLine ∈ TT := TT_sel (q := (yX4_readLine, 18)) 6 (by decide +kernel)
theorem oi_X6_5 : Cond.methodLink RX6 5 Lib.objectInit ∈ TT := TT_i 349 (by decide +kernel) rfl
theorem fl_X6_13 : FL RX6 13 5 0 := ⟨by decide, by decide, Or.inl (TT_i 350 (by decide +kernel) rfl)⟩
theorem fw_X6_13 : Cond.fieldLink RX6 13 (cT 5 0).1 (cT 5 0).2.1 (cT 5 0).2.2.1 ∈ TT := TT_i 350 (by decide +kernel) rfl
theorem fl_X6_17 : FL RX6 17 5 1 := ⟨by decide, by decide, Or.inl (TT_i 351 (by decide +kernel) rfl)⟩
theorem fw_X6_17 : Cond.fieldLink RX6 17 (cT 5 1).1 (cT 5 1).2.1 (cT 5 1).2.2.1 ∈ TT := TT_i 351 (by decide +kernel) rfl
theorem fl_X6_20 : FL RX6 20 5 2 := ⟨by decide, by decide, Or.inl (TT_i 352 (by decide +kernel) rfl)⟩
theorem fw_X6_20 : Cond.fieldLink RX6 20 (cT 5 2).1 (cT 5 2).2.1 (cT 5 2).2.2.1 ∈ TT := TT_i 352 (by decide +kernel) rfl
theorem ml_X6_36 : Cond.methodLink RX6 36 yX5_note ∈ TT := TT_i 940 (by decide +kernel) rfl
theorem fl_X6_23 : FL RX6 23 4 9 := ⟨by decide, by decide, Or.inl (TT_i 77 (by decide +kernel) rfl)⟩
theorem ml_X6_26 : Cond.methodLink RX6 26 Lib.Math.min.name ∈ TT := TT_i 948 (by decide +kernel) rfl
theorem ml_X6_32 : Cond.methodLink RX6 32 yX6_isAlike ∈ TT := TT_i 937 (by decide +kernel) rfl
theorem mc_X6_isAlike : MC yX6_isAlike cX6_isAlike 6 (some .boolean) 5 := ⟨TT_i 939 (by decide +kernel) rfl, TT_i 11 (by decide +kernel) rfl, by decide +kernel⟩
theorem st_X6_isAlike : Cond.static yX6_isAlike ∈ TT := TT_i 938 (by decide +kernel) rfl
theorem fl_X6_39 : FL RX6 39 5 3 := ⟨by decide, by decide, Or.inl (TT_i 353 (by decide +kernel) rfl)⟩
theorem fl_X6_54 : FL RX6 54 4 1 := ⟨by decide, by decide, Or.inl (TT_i 47 (by decide +kernel) rfl)⟩
theorem ml_X6_65 : Cond.methodLink RX6 65 yX6_stands ∈ TT := TT_i 934 (by decide +kernel) rfl
theorem mc_X6_stands : MC yX6_stands cX6_stands 4 (some .boolean) 3 := ⟨TT_i 936 (by decide +kernel) rfl, TT_i 11 (by decide +kernel) rfl, by decide +kernel⟩
theorem st_X6_stands : Cond.static yX6_stands ∈ TT := TT_i 935 (by decide +kernel) rfl
theorem ml_X6_69 : Cond.methodLink RX6 69 yX6_notesInCommon ∈ TT := TT_i 945 (by decide +kernel) rfl
theorem mc_X6_notesInCommon : MC yX6_notesInCommon cX6_notesInCommon 4 (some .int) 3 := ⟨TT_i 947 (by decide +kernel) rfl, TT_i 11 (by decide +kernel) rfl, by decide +kernel⟩
theorem st_X6_notesInCommon : Cond.static yX6_notesInCommon ∈ TT := TT_i 946 (by decide +kernel) rfl
theorem ml_X6_73 : Cond.methodLink RX6 73 yX6_ownNotes ∈ TT := TT_i 953 (by decide +kernel) rfl
theorem mc_X6_ownNotes : MC yX6_ownNotes cX6_ownNotes 4 (some .int) 3 := ⟨TT_i 956 (by decide +kernel) rfl, TT_i 11 (by decide +kernel) rfl, by decide +kernel⟩
theorem im_X6_ownNotes : Cond.instanceMethod yX6_ownNotes ∈ TT := TT_i 955 (by decide +kernel) rfl
theorem se_X6_ownNotes : Cond.selects (cR 5) yX6_ownNotes yX6_ownNotes ∈ TT := TT_sel (q := (yX6_ownNotes, 5)) 44 (by decide +kernel)
theorem ml_X6_61 : Cond.methodLink RX6 61 yX6_noteBehind ∈ TT := TT_i 961 (by decide +kernel) rfl
theorem mc_X6_noteBehind : MC yX6_noteBehind cX6_noteBehind 12 (some .int) 5 := ⟨TT_i 964 (by decide +kernel) rfl, TT_i 11 (by decide +kernel) rfl, by decide +kernel⟩
theorem im_X6_noteBehind : Cond.instanceMethod yX6_noteBehind ∈ TT := TT_i 963 (by decide +kernel) rfl
theorem se_X6_noteBehind : Cond.selects (cR 5) yX6_noteBehind yX6_noteBehind ∈ TT := TT_sel (q := (yX6_noteBehind, 5)) 46 (by decide +kernel)
theorem fl_X6_47 : FL RX6 47 5 4 := ⟨by decide, by decide, Or.inl (TT_i 354 (by decide +kernel) rfl)⟩
theorem ml_X6_76 : Cond.methodLink RX6 76 yX6_isAhead ∈ TT := TT_i 957 (by decide +kernel) rfl
theorem mc_X6_isAhead : MC yX6_isAhead cX6_isAhead 10 (some .boolean) 5 := ⟨TT_i 960 (by decide +kernel) rfl, TT_i 11 (by decide +kernel) rfl, by decide +kernel⟩
theorem im_X6_isAhead : Cond.instanceMethod yX6_isAhead ∈ TT := TT_i 959 (by decide +kernel) rfl
theorem se_X6_isAhead : Cond.selects (cR 5) yX6_isAhead yX6_isAhead ∈ TT := TT_sel (q := (yX6_isAhead, 5)) 45 (by decide +kernel)
theorem ml_X6_43 : Cond.methodLink RX6 43 yX6_withoutInner ∈ TT := TT_i 931 (by decide +kernel) rfl
theorem mc_X6_withoutInner : MC yX6_withoutInner cX6_withoutInner 5 (some .int) 2 := ⟨TT_i 933 (by decide +kernel) rfl, TT_i 11 (by decide +kernel) rfl, by decide +kernel⟩
theorem st_X6_withoutInner : Cond.static yX6_withoutInner ∈ TT := TT_i 932 (by decide +kernel) rfl
theorem ml_X6_50 : Cond.methodLink RX6 50 yX6_findOverlaps ∈ TT := TT_i 941 (by decide +kernel) rfl
theorem mc_X6_findOverlaps : MC yX6_findOverlaps cX6_findOverlaps 4 none 1 := ⟨TT_i 944 (by decide +kernel) rfl, TT_i 11 (by decide +kernel) rfl, by decide +kernel⟩
theorem im_X6_findOverlaps : Cond.instanceMethod yX6_findOverlaps ∈ TT := TT_i 943 (by decide +kernel) rfl
theorem se_X6_findOverlaps : Cond.selects (cR 5) yX6_findOverlaps yX6_findOverlaps ∈ TT := TT_sel (q := (yX6_findOverlaps, 5)) 42 (by decide +kernel)
theorem ml_X6_57 : Cond.methodLink RX6 57 yX6_chooseNext ∈ TT := TT_i 949 (by decide +kernel) rfl
theorem mc_X6_chooseNext : MC yX6_chooseNext cX6_chooseNext 8 none 3 := ⟨TT_i 952 (by decide +kernel) rfl, TT_i 11 (by decide +kernel) rfl, by decide +kernel⟩
theorem im_X6_chooseNext : Cond.instanceMethod yX6_chooseNext ∈ TT := TT_i 951 (by decide +kernel) rfl
theorem se_X6_chooseNext : Cond.selects (cR 5) yX6_chooseNext yX6_chooseNext ∈ TT := TT_sel (q := (yX6_chooseNext, 5)) 43 (by decide +kernel)
theorem oi_X7_3 : Cond.methodLink RX7 3 Lib.objectInit ∈ TT := TT_i 388 (by decide +kernel) rfl
theorem fl_X7_11 : FL RX7 11 6 0 := ⟨by decide, by decide, Or.inl (TT_i 389 (by decide +kernel) rfl)⟩
theorem fw_X7_11 : Cond.fieldLink RX7 11 (cT 6 0).1 (cT 6 0).2.1 (cT 6 0).2.2.1 ∈ TT := TT_i 389 (by decide +kernel) rfl
theorem fl_X7_17 : FL RX7 17 6 1 := ⟨by decide, by decide, Or.inl (TT_i 390 (by decide +kernel) rfl)⟩
theorem fw_X7_17 : Cond.fieldLink RX7 17 (cT 6 1).1 (cT 6 1).2.1 (cT 6 1).2.2.1 ∈ TT := TT_i 390 (by decide +kernel) rfl
theorem fl_X7_57 : FL RX7 57 4 3 := ⟨by decide, by decide, Or.inl (TT_i 60 (by decide +kernel) rfl)⟩
theorem ml_X7_60 : Cond.methodLink RX7 60 yX5_hasGate ∈ TT := TT_i 687 (by decide +kernel) rfl
theorem fl_X7_64 : FL RX7 64 4 14 := ⟨by decide, by decide, Or.inl (TT_i 92 (by decide +kernel) rfl)⟩
theorem ml_X7_67 : Cond.methodLink RX7 67 yX5_otherEnd ∈ TT := TT_i 688 (by decide +kernel) rfl
theorem ml_X7_71 : Cond.methodLink RX7 71 yX5_oneEnd ∈ TT := TT_i 692 (by decide +kernel) rfl
theorem ml_X7_20 : Cond.methodLink RX7 20 yJ7_fill_53178 ∈ TT := TT_i 683 (by decide +kernel) rfl
theorem fl_X7_26 : FL RX7 26 4 2 := ⟨by decide, by decide, Or.inl (TT_i 53 (by decide +kernel) rfl)⟩
theorem fl_X7_30 : FL RX7 30 4 8 := ⟨by decide, by decide, Or.inl (TT_i 71 (by decide +kernel) rfl)⟩
theorem fl_X7_33 : FL RX7 33 4 17 := ⟨by decide, by decide, Or.inl (TT_i 97 (by decide +kernel) rfl)⟩
theorem ml_X7_36 : Cond.methodLink RX7 36 yX7_carry ∈ TT := TT_i 684 (by decide +kernel) rfl
theorem mc_X7_carry : MC yX7_carry cX7_carry 8 none 5 := ⟨TT_i 686 (by decide +kernel) rfl, TT_i 13 (by decide +kernel) rfl, by decide +kernel⟩
theorem st_X7_carry : Cond.static yX7_carry ∈ TT := TT_i 685 (by decide +kernel) rfl
theorem ml_X7_40 : Cond.methodLink RX7 40 yX7_rowsWith ∈ TT := TT_i 1011 (by decide +kernel) rfl
theorem mc_X7_rowsWith : MC yX7_rowsWith cX7_rowsWith 3 (some .int) 2 := ⟨TT_i 1014 (by decide +kernel) rfl, TT_i 13 (by decide +kernel) rfl, by decide +kernel⟩
theorem im_X7_rowsWith : Cond.instanceMethod yX7_rowsWith ∈ TT := TT_i 1013 (by decide +kernel) rfl
theorem se_X7_rowsWith : Cond.selects (cR 6) yX7_rowsWith yX7_rowsWith ∈ TT := TT_sel (q := (yX7_rowsWith, 2)) 48 (by decide +kernel)
theorem ml_X7_44 : Cond.methodLink RX7 44 Lib.Math.max.name ∈ TT := TT_i 1045 (by decide +kernel) rfl
theorem ml_X7_49 : Cond.methodLink RX7 49 yX7_allRows ∈ TT := TT_i 1040 (by decide +kernel) rfl
theorem mc_X7_allRows : MC yX7_allRows cX7_allRows 4 (some .int) 1 := ⟨TT_i 1010 (by decide +kernel) rfl, TT_i 13 (by decide +kernel) rfl, by decide +kernel⟩
theorem im_X7_allRows : Cond.instanceMethod yX7_allRows ∈ TT := TT_i 1008 (by decide +kernel) rfl
theorem se_X7_allRows : Cond.selects (cR 6) yX7_allRows yX7_allRows ∈ TT := TT_i 1009 (by decide +kernel) rfl
theorem ml_X7_53 : Cond.methodLink RX7 53 yX7_mostLeft ∈ TT := TT_i 1041 (by decide +kernel) rfl
theorem mc_X7_mostLeft : MC yX7_mostLeft cX7_mostLeft 5 (some .int) 2 := ⟨TT_i 1044 (by decide +kernel) rfl, TT_i 13 (by decide +kernel) rfl, by decide +kernel⟩
theorem im_X7_mostLeft : Cond.instanceMethod yX7_mostLeft ∈ TT := TT_i 1042 (by decide +kernel) rfl
theorem se_X7_mostLeft : Cond.selects (cR 6) yX7_mostLeft yX7_mostLeft ∈ TT := TT_i 1043 (by decide +kernel) rfl
theorem oi_X8_5 : Cond.methodLink RX8 5 Lib.objectInit ∈ TT := TT_i 333 (by decide +kernel) rfl
theorem fl_X8_13 : FL RX8 13 7 0 := ⟨by decide, by decide, Or.inl (TT_i 334 (by decide +kernel) rfl)⟩
theorem fw_X8_13 : Cond.fieldLink RX8 13 (cT 7 0).1 (cT 7 0).2.1 (cT 7 0).2.2.1 ∈ TT := TT_i 334 (by decide +kernel) rfl
theorem fl_X8_17 : FL RX8 17 7 1 := ⟨by decide, by decide, Or.inl (TT_i 335 (by decide +kernel) rfl)⟩
theorem fw_X8_17 : Cond.fieldLink RX8 17 (cT 7 1).1 (cT 7 1).2.1 (cT 7 1).2.2.1 ∈ TT := TT_i 335 (by decide +kernel) rfl
theorem fl_X8_20 : FL RX8 20 7 2 := ⟨by decide, by decide, Or.inl (TT_i 336 (by decide +kernel) rfl)⟩
theorem fw_X8_20 : Cond.fieldLink RX8 20 (cT 7 2).1 (cT 7 2).2.1 (cT 7 2).2.2.1 ∈ TT := TT_i 336 (by decide +kernel) rfl
theorem fl_X10_17 : FL RX10 17 4 2 := ⟨by decide, by decide, Or.inl (TT_i 51 (by decide +kernel) rfl)⟩
theorem fl_X10_21 : FL RX10 21 4 3 := ⟨by decide, by decide, Or.inl (TT_i 57 (by decide +kernel) rfl)⟩
theorem ml_X10_24 : Cond.methodLink RX10 24 yX5_oneEnd ∈ TT := TT_i 822 (by decide +kernel) rfl
theorem ml_X10_28 : Cond.methodLink RX10 28 yX5_otherEnd ∈ TT := TT_i 823 (by decide +kernel) rfl
theorem ml_X10_31 : Cond.methodLink RX10 31 yX1_isOpen ∈ TT := TT_i 821 (by decide +kernel) rfl
theorem fl_X8_42 : FL RX8 42 4 5 := ⟨by decide, by decide, Or.inl (TT_i 65 (by decide +kernel) rfl)⟩
theorem ml_X8_51 : Cond.methodLink RX8 51 yX5_innPart ∈ TT := TT_i 884 (by decide +kernel) rfl
theorem mc_X5_innPart : MC yX5_innPart cX5_innPart 3 (some .int) 2 := ⟨TT_i 754 (by decide +kernel) rfl, TT_i 2 (by decide +kernel) rfl, by decide +kernel⟩
theorem im_X5_innPart : Cond.instanceMethod yX5_innPart ∈ TT := TT_i 752 (by decide +kernel) rfl
theorem se_X5_innPart : Cond.selects (cR 4) yX5_innPart yX5_innPart ∈ TT := TT_i 753 (by decide +kernel) rfl
theorem ml_X8_25 : Cond.methodLink RX8 25 yX2_of ∈ TT := TT_i 879 (by decide +kernel) rfl
theorem ml_X8_29 : Cond.methodLink RX8 29 yX2_voices ∈ TT := TT_i 880 (by decide +kernel) rfl
theorem mc_X2_voices : MC yX2_voices cX2_voices 2 (some .int) 1 := ⟨TT_i 786 (by decide +kernel) rfl, TT_i 8 (by decide +kernel) rfl, by decide +kernel⟩
theorem im_X2_voices : Cond.instanceMethod yX2_voices ∈ TT := TT_i 784 (by decide +kernel) rfl
theorem se_X2_voices : Cond.selects (cR 1) yX2_voices yX2_voices ∈ TT := TT_i 785 (by decide +kernel) rfl
theorem ml_X8_32 : Cond.methodLink RX8 32 yX2_rains ∈ TT := TT_i 881 (by decide +kernel) rfl
theorem mc_X2_rains : MC yX2_rains cX2_rains 1 (some .boolean) 0 := ⟨TT_i 723 (by decide +kernel) rfl, TT_i 8 (by decide +kernel) rfl, by decide +kernel⟩
theorem im_X2_rains : Cond.instanceMethod yX2_rains ∈ TT := TT_i 721 (by decide +kernel) rfl
theorem se_X2_rains : Cond.selects (cR 1) yX2_rains yX2_rains ∈ TT := TT_i 722 (by decide +kernel) rfl
theorem ml_X8_36 : Cond.methodLink RX8 36 yX10_placesReached ∈ TT := TT_i 882 (by decide +kernel) rfl
theorem mc_X10_placesReached : MC yX10_placesReached cX10_placesReached 9 (some .int) 4 := ⟨TT_i 856 (by decide +kernel) rfl, TT_i 9 (by decide +kernel) rfl, by decide +kernel⟩
theorem st_X10_placesReached : Cond.static yX10_placesReached ∈ TT := TT_i 855 (by decide +kernel) rfl
theorem ml_X8_46 : Cond.methodLink RX8 46 yJ6_numberOfTrailingZeros_0f7a4 ∈ TT := TT_i 883 (by decide +kernel) rfl
theorem ml_X8_54 : Cond.methodLink RX8 54 yX1_voice ∈ TT := TT_i 885 (by decide +kernel) rfl
theorem ml_X8_60 : Cond.methodLink RX8 60 yX8_hasLastInn ∈ TT := TT_i 886 (by decide +kernel) rfl
theorem mc_X8_hasLastInn : MC yX8_hasLastInn cX8_hasLastInn 4 (some .boolean) 2 := ⟨TT_i 889 (by decide +kernel) rfl, TT_i 10 (by decide +kernel) rfl, by decide +kernel⟩
theorem im_X8_hasLastInn : Cond.instanceMethod yX8_hasLastInn ∈ TT := TT_i 888 (by decide +kernel) rfl
theorem se_X8_hasLastInn : Cond.selects (cR 7) yX8_hasLastInn yX8_hasLastInn ∈ TT := TT_sel (q := (yX8_hasLastInn, 3)) 39 (by decide +kernel)
theorem kc_J6_265 : Cond.constant RJ6 265 1431655765 ∈ TT := TT_i 868 (by decide +kernel) rfl
theorem kc_J6_266 : Cond.constant RJ6 266 858993459 ∈ TT := TT_i 869 (by decide +kernel) rfl
theorem kc_J6_267 : Cond.constant RJ6 267 252645135 ∈ TT := TT_i 870 (by decide +kernel) rfl
theorem ml_X8_68 : Cond.methodLink RX8 68 yJ6_bitCount_0f7a4 ∈ TT := TT_i 898 (by decide +kernel) rfl
theorem mc_J6_bitCount_0f7a4 : MC yJ6_bitCount_0f7a4 cJ6_bitCount_0f7a4 1 (some .int) 1 := ⟨TT_i 867 (by decide +kernel) rfl, TT_i 20 (by decide +kernel) rfl, by decide +kernel⟩
theorem st_J6_bitCount_0f7a4 : Cond.static yJ6_bitCount_0f7a4 ∈ TT := TT_i 866 (by decide +kernel) rfl
theorem ml_X8_64 : Cond.methodLink RX8 64 yX8_isBetter ∈ TT := TT_i 894 (by decide +kernel) rfl
theorem mc_X8_isBetter : MC yX8_isBetter cX8_isBetter 3 (some .boolean) 2 := ⟨TT_i 897 (by decide +kernel) rfl, TT_i 10 (by decide +kernel) rfl, by decide +kernel⟩
theorem im_X8_isBetter : Cond.instanceMethod yX8_isBetter ∈ TT := TT_i 896 (by decide +kernel) rfl
theorem se_X8_isBetter : Cond.selects (cR 7) yX8_isBetter yX8_isBetter ∈ TT := TT_sel (q := (yX8_isBetter, 3)) 40 (by decide +kernel)
theorem ml_X9_15 : Cond.methodLink RX9 15 yX9_share ∈ TT := TT_i 1082 (by decide +kernel) rfl
theorem mc_X9_share : MC yX9_share cX9_share 4 (some .int) 3 := ⟨TT_i 1071 (by decide +kernel) rfl, TT_i 22 (by decide +kernel) rfl, by decide +kernel⟩
theorem st_X9_share : Cond.static yX9_share ∈ TT := TT_i 1070 (by decide +kernel) rfl
theorem ml_X9_11 : Cond.methodLink RX9 11 yX9_isRest ∈ TT := TT_i 1079 (by decide +kernel) rfl
theorem mc_X9_isRest : MC yX9_isRest cX9_isRest 6 (some .boolean) 3 := ⟨TT_i 1081 (by decide +kernel) rfl, TT_i 22 (by decide +kernel) rfl, by decide +kernel⟩
theorem st_X9_isRest : Cond.static yX9_isRest ∈ TT := TT_i 1080 (by decide +kernel) rfl
theorem oi_X10_3 : Cond.methodLink RX10 3 Lib.objectInit ∈ TT := TT_i 317 (by decide +kernel) rfl
theorem fl_X10_11 : FL RX10 11 8 0 := ⟨by decide, by decide, Or.inl (TT_i 318 (by decide +kernel) rfl)⟩
theorem fw_X10_11 : Cond.fieldLink RX10 11 (cT 8 0).1 (cT 8 0).2.1 (cT 8 0).2.2.1 ∈ TT := TT_i 318 (by decide +kernel) rfl
theorem fl_X10_37 : FL RX10 37 8 1 := ⟨by decide, by decide, Or.inl (TT_i 319 (by decide +kernel) rfl)⟩
theorem fl_X10_40 : FL RX10 40 8 2 := ⟨by decide, by decide, Or.inl (TT_i 320 (by decide +kernel) rfl)⟩
theorem kc_X10_44 : Cond.constant RX10 44 1000000 ∈ TT := TT_i 819 (by decide +kernel) rfl
theorem ml_X10_45 : Cond.methodLink RX10 45 yJ7_fill_53178 ∈ TT := TT_i 820 (by decide +kernel) rfl
theorem fl_X10_51 : FL RX10 51 4 12 := ⟨by decide, by decide, Or.inl (TT_i 85 (by decide +kernel) rfl)⟩
theorem ml_X10_54 : Cond.methodLink RX10 54 yX10_shorten ∈ TT := TT_i 824 (by decide +kernel) rfl
theorem mc_X10_shorten : MC yX10_shorten cX10_shorten 4 none 3 := ⟨TT_i 827 (by decide +kernel) rfl, TT_i 9 (by decide +kernel) rfl, by decide +kernel⟩
theorem im_X10_shorten : Cond.instanceMethod yX10_shorten ∈ TT := TT_i 826 (by decide +kernel) rfl
theorem se_X10_shorten : Cond.selects (cR 8) yX10_shorten yX10_shorten ∈ TT := TT_sel (q := (yX10_shorten, 3)) 36 (by decide +kernel)
theorem ml_X10_62 : Cond.methodLink RX10 62 yX5_roadBetween ∈ TT := TT_i 845 (by decide +kernel) rfl
theorem ml_X10_58 : Cond.methodLink RX10 58 yX10_placeBehind ∈ TT := TT_i 841 (by decide +kernel) rfl
theorem mc_X10_placeBehind : MC yX10_placeBehind cX10_placeBehind 5 (some .int) 2 := ⟨TT_i 844 (by decide +kernel) rfl, TT_i 9 (by decide +kernel) rfl, by decide +kernel⟩
theorem im_X10_placeBehind : Cond.instanceMethod yX10_placeBehind ∈ TT := TT_i 843 (by decide +kernel) rfl
theorem se_X10_placeBehind : Cond.selects (cR 8) yX10_placeBehind yX10_placeBehind ∈ TT := TT_sel (q := (yX10_placeBehind, 3)) 37 (by decide +kernel)
theorem oi_X11_1 : Cond.methodLink RX11 1 Lib.objectInit ∈ TT := TT_i 32 (by decide +kernel) rfl
theorem cl_X11_7 : Cond.classLink RX11 7 (cR 4) ∈ TT := TT_i 35 (by decide +kernel) rfl
theorem ml_X11_9 : Cond.methodLinkNest RX11 9 yX5_init "TuneGates" ∈ NW := NW_i 37 (by decide +kernel) rfl
theorem fl_X11_10 : FL RX11 10 9 1 := ⟨by decide, by decide, Or.inl (TT_i 422 (by decide +kernel) rfl)⟩
theorem cl_X11_16 : Cond.classLink RX11 16 (cR 3) ∈ TT := TT_i 145 (by decide +kernel) rfl
theorem ia_3 : Cond.instantiable (cR 3) (cN 3) ∈ TT := TT_i 146 (by decide +kernel) rfl
theorem in_3 : Cond.initialized (cR 3) ∈ TT := TT_i 3 (by decide +kernel) rfl
theorem ml_X11_18 : Cond.methodLink RX11 18 yX4_init ∈ TT := TT_i 147 (by decide +kernel) rfl
theorem mc_X4_init : MC yX4_init cX4_init 1 none 0 := ⟨TT_i 149 (by decide +kernel) rfl, TT_i 3 (by decide +kernel) rfl, by decide +kernel⟩
theorem im_X4_init : Cond.instanceMethod yX4_init ∈ TT := TT_i 148 (by decide +kernel) rfl
theorem fl_X11_19 : FL RX11 19 9 2 := ⟨by decide, by decide, Or.inl (TT_i 423 (by decide +kernel) rfl)⟩
theorem fw_X11_19 : Cond.fieldLink RX11 19 (cT 9 2).1 (cT 9 2).2.1 (cT 9 2).2.2.1 ∈ TT := TT_i 423 (by decide +kernel) rfl
theorem cl_X11_23 : Cond.classLink RX11 23 (cR 1) ∈ TT := TT_i 285 (by decide +kernel) rfl
theorem ia_1 : Cond.instantiable (cR 1) (cN 1) ∈ TT := TT_i 286 (by decide +kernel) rfl
theorem in_1 : Cond.initialized (cR 1) ∈ TT := TT_i 8 (by decide +kernel) rfl
theorem ml_X11_25 : Cond.methodLinkNest RX11 25 yX2_init "TuneGates" ∈ NW := NW_i 287 (by decide +kernel) rfl
theorem mc_X2_init : MC yX2_init cX2_init 1 none 0 := ⟨TT_i 289 (by decide +kernel) rfl, TT_i 8 (by decide +kernel) rfl, by decide +kernel⟩
theorem im_X2_init : Cond.instanceMethod yX2_init ∈ TT := TT_i 288 (by decide +kernel) rfl
theorem fl_X11_26 : FL RX11 26 9 3 := ⟨by decide, by decide, Or.inl (TT_i 424 (by decide +kernel) rfl)⟩
theorem fw_X11_26 : Cond.fieldLink RX11 26 (cT 9 3).1 (cT 9 3).2.1 (cT 9 3).2.2.1 ∈ TT := TT_i 424 (by decide +kernel) rfl
theorem cl_X11_30 : Cond.classLink RX11 30 (cR 8) ∈ TT := TT_i 312 (by decide +kernel) rfl
theorem ia_8 : Cond.instantiable (cR 8) (cN 8) ∈ TT := TT_i 313 (by decide +kernel) rfl
theorem in_8 : Cond.initialized (cR 8) ∈ TT := TT_i 9 (by decide +kernel) rfl
theorem ml_X11_32 : Cond.methodLinkNest RX11 32 yX10_init "TuneGates" ∈ NW := NW_i 314 (by decide +kernel) rfl
theorem mc_X10_init : MC yX10_init cX10_init 1 none 0 := ⟨TT_i 316 (by decide +kernel) rfl, TT_i 9 (by decide +kernel) rfl, by decide +kernel⟩
theorem im_X10_init : Cond.instanceMethod yX10_init ∈ TT := TT_i 315 (by decide +kernel) rfl
theorem fl_X11_33 : FL RX11 33 9 4 := ⟨by decide, by decide, Or.inl (TT_i 425 (by decide +kernel) rfl)⟩
theorem fw_X11_33 : Cond.fieldLink RX11 33 (cT 9 4).1 (cT 9 4).2.1 (cT 9 4).2.2.1 ∈ TT := TT_i 425 (by decide +kernel) rfl
theorem cl_X11_37 : Cond.classLink RX11 37 (cR 7) ∈ TT := TT_i 328 (by decide +kernel) rfl
theorem ia_7 : Cond.instantiable (cR 7) (cN 7) ∈ TT := TT_i 329 (by decide +kernel) rfl
theorem in_7 : Cond.initialized (cR 7) ∈ TT := TT_i 10 (by decide +kernel) rfl
theorem ml_X11_39 : Cond.methodLinkNest RX11 39 yX8_init "TuneGates" ∈ NW := NW_i 330 (by decide +kernel) rfl
theorem mc_X8_init : MC yX8_init cX8_init 1 none 0 := ⟨TT_i 332 (by decide +kernel) rfl, TT_i 10 (by decide +kernel) rfl, by decide +kernel⟩
theorem im_X8_init : Cond.instanceMethod yX8_init ∈ TT := TT_i 331 (by decide +kernel) rfl
theorem fl_X11_40 : FL RX11 40 9 5 := ⟨by decide, by decide, Or.inl (TT_i 426 (by decide +kernel) rfl)⟩
theorem fw_X11_40 : Cond.fieldLink RX11 40 (cT 9 5).1 (cT 9 5).2.1 (cT 9 5).2.2.1 ∈ TT := TT_i 426 (by decide +kernel) rfl
theorem cl_X11_44 : Cond.classLink RX11 44 (cR 5) ∈ TT := TT_i 344 (by decide +kernel) rfl
theorem ia_5 : Cond.instantiable (cR 5) (cN 5) ∈ TT := TT_i 345 (by decide +kernel) rfl
theorem in_5 : Cond.initialized (cR 5) ∈ TT := TT_i 11 (by decide +kernel) rfl
theorem ml_X11_46 : Cond.methodLinkNest RX11 46 yX6_init "TuneGates" ∈ NW := NW_i 346 (by decide +kernel) rfl
theorem mc_X6_init : MC yX6_init cX6_init 1 none 0 := ⟨TT_i 348 (by decide +kernel) rfl, TT_i 11 (by decide +kernel) rfl, by decide +kernel⟩
theorem im_X6_init : Cond.instanceMethod yX6_init ∈ TT := TT_i 347 (by decide +kernel) rfl
theorem fl_X11_47 : FL RX11 47 9 6 := ⟨by decide, by decide, Or.inl (TT_i 427 (by decide +kernel) rfl)⟩
theorem fw_X11_47 : Cond.fieldLink RX11 47 (cT 9 6).1 (cT 9 6).2.1 (cT 9 6).2.2.1 ∈ TT := TT_i 427 (by decide +kernel) rfl
theorem cl_X11_51 : Cond.classLink RX11 51 (cR 2) ∈ TT := TT_i 366 (by decide +kernel) rfl
theorem ia_2 : Cond.instantiable (cR 2) (cN 2) ∈ TT := TT_i 367 (by decide +kernel) rfl
theorem in_2 : Cond.initialized (cR 2) ∈ TT := TT_i 12 (by decide +kernel) rfl
theorem ml_X11_53 : Cond.methodLinkNest RX11 53 yX3_init "TuneGates" ∈ NW := NW_i 368 (by decide +kernel) rfl
theorem mc_X3_init : MC yX3_init cX3_init 1 none 0 := ⟨TT_i 370 (by decide +kernel) rfl, TT_i 12 (by decide +kernel) rfl, by decide +kernel⟩
theorem im_X3_init : Cond.instanceMethod yX3_init ∈ TT := TT_i 369 (by decide +kernel) rfl
theorem fl_X11_54 : FL RX11 54 9 7 := ⟨by decide, by decide, Or.inl (TT_i 428 (by decide +kernel) rfl)⟩
theorem fw_X11_54 : Cond.fieldLink RX11 54 (cT 9 7).1 (cT 9 7).2.1 (cT 9 7).2.2.1 ∈ TT := TT_i 428 (by decide +kernel) rfl
theorem cl_X11_58 : Cond.classLink RX11 58 (cR 6) ∈ TT := TT_i 383 (by decide +kernel) rfl
theorem ia_6 : Cond.instantiable (cR 6) (cN 6) ∈ TT := TT_i 384 (by decide +kernel) rfl
theorem in_6 : Cond.initialized (cR 6) ∈ TT := TT_i 13 (by decide +kernel) rfl
theorem ml_X11_60 : Cond.methodLinkNest RX11 60 yX7_init "TuneGates" ∈ NW := NW_i 385 (by decide +kernel) rfl
theorem mc_X7_init : MC yX7_init cX7_init 1 none 0 := ⟨TT_i 387 (by decide +kernel) rfl, TT_i 13 (by decide +kernel) rfl, by decide +kernel⟩
theorem im_X7_init : Cond.instanceMethod yX7_init ∈ TT := TT_i 386 (by decide +kernel) rfl
theorem fl_X11_61 : FL RX11 61 9 8 := ⟨by decide, by decide, Or.inl (TT_i 429 (by decide +kernel) rfl)⟩
theorem fw_X11_61 : Cond.fieldLink RX11 61 (cT 9 8).1 (cT 9 8).2.1 (cT 9 8).2.2.1 ∈ TT := TT_i 429 (by decide +kernel) rfl
theorem cl_X11_65 : Cond.classLink RX11 65 (cR 0) ∈ TT := TT_i 396 (by decide +kernel) rfl
theorem ia_0 : Cond.instantiable (cR 0) (cN 0) ∈ TT := TT_i 397 (by decide +kernel) rfl
theorem in_0 : Cond.initialized (cR 0) ∈ TT := TT_i 14 (by decide +kernel) rfl
theorem ml_X11_67 : Cond.methodLinkNest RX11 67 yX0_init "TuneGates" ∈ NW := NW_i 398 (by decide +kernel) rfl
theorem mc_X0_init : MC yX0_init cX0_init 1 none 0 := ⟨TT_i 400 (by decide +kernel) rfl, TT_i 14 (by decide +kernel) rfl, by decide +kernel⟩
theorem im_X0_init : Cond.instanceMethod yX0_init ∈ TT := TT_i 399 (by decide +kernel) rfl
theorem fl_X11_68 : FL RX11 68 9 9 := ⟨by decide, by decide, Or.inl (TT_i 430 (by decide +kernel) rfl)⟩
theorem fw_X11_68 : Cond.fieldLink RX11 68 (cT 9 9).1 (cT 9 9).2.1 (cT 9 9).2.2.1 ∈ TT := TT_i 430 (by decide +kernel) rfl
theorem ml_X11_72 : Cond.methodLink RX11 72 yX4_hasRoomFor ∈ TT := TT_i 456 (by decide +kernel) rfl
theorem mc_X4_hasRoomFor : MC yX4_hasRoomFor cX4_hasRoomFor 2 (some .boolean) 1 := ⟨TT_i 459 (by decide +kernel) rfl, TT_i 3 (by decide +kernel) rfl, by decide +kernel⟩
theorem im_X4_hasRoomFor : Cond.instanceMethod yX4_hasRoomFor ∈ TT := TT_i 457 (by decide +kernel) rfl
theorem se_X4_hasRoomFor : Cond.selects (cR 3) yX4_hasRoomFor yX4_hasRoomFor ∈ TT := TT_i 458 (by decide +kernel) rfl
theorem ml_X11_76 : Cond.methodLink RX11 76 yX4_append ∈ TT := TT_i 460 (by decide +kernel) rfl
theorem mc_X4_append : MC yX4_append cX4_append 3 none 1 := ⟨TT_i 463 (by decide +kernel) rfl, TT_i 3 (by decide +kernel) rfl, by decide +kernel⟩
theorem im_X4_append : Cond.instanceMethod yX4_append ∈ TT := TT_i 461 (by decide +kernel) rfl
theorem se_X4_append : Cond.selects (cR 3) yX4_append yX4_append ∈ TT := TT_i 462 (by decide +kernel) rfl
theorem fl_X11_80 : FL RX11 80 3 15 := ⟨by decide, by decide, Or.inl (TT_i 241 (by decide +kernel) rfl)⟩
theorem fl_X11_123 : FL RX11 123 9 0 := ⟨by decide, by decide, Or.inl (TT_i 421 (by decide +kernel) rfl)⟩
theorem ml_X11_84 : Cond.methodLink RX11 84 yX11_refuse ∈ TT := TT_i 468 (by decide +kernel) rfl
theorem mc_X11_refuse : MC yX11_refuse cX11_refuse 2 (some .int) 1 := ⟨TT_i 471 (by decide +kernel) rfl, TT_i 1 (by decide +kernel) rfl, by decide +kernel⟩
theorem im_X11_refuse : Cond.instanceMethod yX11_refuse ∈ TT := TT_i 470 (by decide +kernel) rfl
theorem se_X11_refuse : Cond.selects (cR 9) yX11_refuse yX11_refuse ∈ TT := TT_sel (q := (yX11_refuse, 10)) 0 (by decide +kernel)
theorem ml_X11_88 : Cond.methodLink RX11 88 yX4_read ∈ TT := TT_i 472 (by decide +kernel) rfl
theorem mc_X4_read : MC yX4_read cX4_read 3 (some .boolean) 1 := ⟨TT_i 475 (by decide +kernel) rfl, TT_i 3 (by decide +kernel) rfl, by decide +kernel⟩
theorem im_X4_read : Cond.instanceMethod yX4_read ∈ TT := TT_i 473 (by decide +kernel) rfl
theorem se_X4_read : Cond.selects (cR 3) yX4_read yX4_read ∈ TT := TT_i 474 (by decide +kernel) rfl
theorem ml_X11_91 : Cond.methodLink RX11 91 yX4_exchange ∈ TT := TT_i 613 (by decide +kernel) rfl
theorem mc_X4_exchange : MC yX4_exchange cX4_exchange 3 (some (.object "TuneGates$Road")) 1 := ⟨TT_i 616 (by decide +kernel) rfl, TT_i 3 (by decide +kernel) rfl, by decide +kernel⟩
theorem im_X4_exchange : Cond.instanceMethod yX4_exchange ∈ TT := TT_i 614 (by decide +kernel) rfl
theorem se_X4_exchange : Cond.selects (cR 3) yX4_exchange yX4_exchange ∈ TT := TT_i 615 (by decide +kernel) rfl
theorem fl_X11_95 : FL RX11 95 4 19 := ⟨by decide, by decide, Or.inl (TT_i 102 (by decide +kernel) rfl)⟩
theorem ml_X11_99 : Cond.methodLink RX11 99 yX2_begin ∈ TT := TT_i 617 (by decide +kernel) rfl
theorem mc_X2_begin : MC yX2_begin cX2_begin 2 none 1 := ⟨TT_i 620 (by decide +kernel) rfl, TT_i 8 (by decide +kernel) rfl, by decide +kernel⟩
theorem im_X2_begin : Cond.instanceMethod yX2_begin ∈ TT := TT_i 618 (by decide +kernel) rfl
theorem se_X2_begin : Cond.selects (cR 1) yX2_begin yX2_begin ∈ TT := TT_i 619 (by decide +kernel) rfl
theorem ml_X11_103 : Cond.methodLink RX11 103 yX1_settle ∈ TT := TT_i 624 (by decide +kernel) rfl
theorem mc_X1_settle : MC yX1_settle cX1_settle 2 none 1 := ⟨TT_i 626 (by decide +kernel) rfl, TT_i 19 (by decide +kernel) rfl, by decide +kernel⟩
theorem st_X1_settle : Cond.static yX1_settle ∈ TT := TT_i 625 (by decide +kernel) rfl
theorem ml_X11_109 : Cond.methodLink RX11 109 yX6_forget ∈ TT := TT_i 644 (by decide +kernel) rfl
theorem mc_X6_forget : MC yX6_forget cX6_forget 1 none 0 := ⟨TT_i 647 (by decide +kernel) rfl, TT_i 11 (by decide +kernel) rfl, by decide +kernel⟩
theorem im_X6_forget : Cond.instanceMethod yX6_forget ∈ TT := TT_i 645 (by decide +kernel) rfl
theorem se_X6_forget : Cond.selects (cR 5) yX6_forget yX6_forget ∈ TT := TT_i 646 (by decide +kernel) rfl
theorem ml_X11_112 : Cond.methodLink RX11 112 yX3_settle ∈ TT := TT_i 648 (by decide +kernel) rfl
theorem mc_X3_settle : MC yX3_settle cX3_settle 4 none 1 := ⟨TT_i 651 (by decide +kernel) rfl, TT_i 12 (by decide +kernel) rfl, by decide +kernel⟩
theorem im_X3_settle : Cond.instanceMethod yX3_settle ∈ TT := TT_i 649 (by decide +kernel) rfl
theorem se_X3_settle : Cond.selects (cR 2) yX3_settle yX3_settle ∈ TT := TT_i 650 (by decide +kernel) rfl
theorem ml_X11_113 : Cond.methodLink RX11 113 yX7_settle ∈ TT := TT_i 679 (by decide +kernel) rfl
theorem mc_X7_settle : MC yX7_settle cX7_settle 3 none 1 := ⟨TT_i 682 (by decide +kernel) rfl, TT_i 13 (by decide +kernel) rfl, by decide +kernel⟩
theorem im_X7_settle : Cond.instanceMethod yX7_settle ∈ TT := TT_i 680 (by decide +kernel) rfl
theorem se_X7_settle : Cond.selects (cR 6) yX7_settle yX7_settle ∈ TT := TT_i 681 (by decide +kernel) rfl
theorem fl_X11_114 : FL RX11 114 4 2 := ⟨by decide, by decide, Or.inl (TT_i 54 (by decide +kernel) rfl)⟩
theorem ml_X11_117 : Cond.methodLink RX11 117 yX11_answer ∈ TT := TT_i 696 (by decide +kernel) rfl
theorem mc_X11_answer : MC yX11_answer cX11_answer 2 (some .int) 1 := ⟨TT_i 699 (by decide +kernel) rfl, TT_i 1 (by decide +kernel) rfl, by decide +kernel⟩
theorem im_X11_answer : Cond.instanceMethod yX11_answer ∈ TT := TT_i 698 (by decide +kernel) rfl
theorem se_X11_answer : Cond.selects (cR 9) yX11_answer yX11_answer ∈ TT := TT_sel (q := (yX11_answer, 10)) 27 (by decide +kernel)
theorem fl_X11_120 : FL RX11 120 3 16 := ⟨by decide, by decide, Or.inl (TT_i 242 (by decide +kernel) rfl)⟩
theorem fl_X11_126 : FL RX11 126 3 17 := ⟨by decide, by decide, Or.inl (TT_i 245 (by decide +kernel) rfl)⟩
theorem fl_X11_224 : FL RX11 224 4 1 := ⟨by decide, by decide, Or.inl (TT_i 50 (by decide +kernel) rfl)⟩
theorem ml_X11_129 : Cond.methodLink RX11 129 yX11_isTune ∈ TT := TT_i 712 (by decide +kernel) rfl
theorem mc_X11_isTune : MC yX11_isTune cX11_isTune 2 (some .boolean) 1 := ⟨TT_i 715 (by decide +kernel) rfl, TT_i 1 (by decide +kernel) rfl, by decide +kernel⟩
theorem im_X11_isTune : Cond.instanceMethod yX11_isTune ∈ TT := TT_i 714 (by decide +kernel) rfl
theorem se_X11_isTune : Cond.selects (cR 9) yX11_isTune yX11_isTune ∈ TT := TT_sel (q := (yX11_isTune, 10)) 28 (by decide +kernel)
theorem fl_X11_132 : FL RX11 132 4 9 := ⟨by decide, by decide, Or.inl (TT_i 79 (by decide +kernel) rfl)⟩
theorem ml_X11_135 : Cond.methodLink RX11 135 yX2_rains ∈ TT := TT_i 720 (by decide +kernel) rfl
theorem ml_X11_139 : Cond.methodLink RX11 139 yX1_noteSung ∈ TT := TT_i 724 (by decide +kernel) rfl
theorem ml_X11_200 : Cond.methodLink RX11 200 yX11_isPlace ∈ TT := TT_i 733 (by decide +kernel) rfl
theorem mc_X11_isPlace : MC yX11_isPlace cX11_isPlace 2 (some .boolean) 1 := ⟨TT_i 736 (by decide +kernel) rfl, TT_i 1 (by decide +kernel) rfl, by decide +kernel⟩
theorem im_X11_isPlace : Cond.instanceMethod yX11_isPlace ∈ TT := TT_i 735 (by decide +kernel) rfl
theorem se_X11_isPlace : Cond.selects (cR 9) yX11_isPlace yX11_isPlace ∈ TT := TT_sel (q := (yX11_isPlace, 10)) 30 (by decide +kernel)
theorem ml_X11_143 : Cond.methodLink RX11 143 yX11_areTwoPlaces ∈ TT := TT_i 729 (by decide +kernel) rfl
theorem mc_X11_areTwoPlaces : MC yX11_areTwoPlaces cX11_areTwoPlaces 3 (some .boolean) 2 := ⟨TT_i 732 (by decide +kernel) rfl, TT_i 1 (by decide +kernel) rfl, by decide +kernel⟩
theorem im_X11_areTwoPlaces : Cond.instanceMethod yX11_areTwoPlaces ∈ TT := TT_i 731 (by decide +kernel) rfl
theorem se_X11_areTwoPlaces : Cond.selects (cR 9) yX11_areTwoPlaces yX11_areTwoPlaces ∈ TT := TT_sel (q := (yX11_areTwoPlaces, 10)) 29 (by decide +kernel)
theorem ml_X11_147 : Cond.methodLink RX11 147 yX5_roadBetween ∈ TT := TT_i 737 (by decide +kernel) rfl
theorem fl_X11_151 : FL RX11 151 4 12 := ⟨by decide, by decide, Or.inl (TT_i 86 (by decide +kernel) rfl)⟩
theorem ml_X11_154 : Cond.methodLink RX11 154 yX5_hasGate ∈ TT := TT_i 742 (by decide +kernel) rfl
theorem fl_X11_160 : FL RX11 160 4 14 := ⟨by decide, by decide, Or.inl (TT_i 93 (by decide +kernel) rfl)⟩
theorem fl_X11_157 : FL RX11 157 4 13 := ⟨by decide, by decide, Or.inl (TT_i 89 (by decide +kernel) rfl)⟩
theorem fl_X11_362 : FL RX11 362 4 5 := ⟨by decide, by decide, Or.inl (TT_i 66 (by decide +kernel) rfl)⟩
theorem ml_X11_163 : Cond.methodLink RX11 163 yX11_isInn ∈ TT := TT_i 747 (by decide +kernel) rfl
theorem mc_X11_isInn : MC yX11_isInn cX11_isInn 2 (some .boolean) 1 := ⟨TT_i 750 (by decide +kernel) rfl, TT_i 1 (by decide +kernel) rfl, by decide +kernel⟩
theorem im_X11_isInn : Cond.instanceMethod yX11_isInn ∈ TT := TT_i 749 (by decide +kernel) rfl
theorem se_X11_isInn : Cond.selects (cR 9) yX11_isInn yX11_isInn ∈ TT := TT_sel (q := (yX11_isInn, 10)) 31 (by decide +kernel)
theorem ml_X11_166 : Cond.methodLink RX11 166 yX5_innPart ∈ TT := TT_i 751 (by decide +kernel) rfl
theorem fl_X11_241 : FL RX11 241 4 6 := ⟨by decide, by decide, Or.inl (TT_i 68 (by decide +kernel) rfl)⟩
theorem ml_X11_169 : Cond.methodLink RX11 169 yX11_isPerson ∈ TT := TT_i 759 (by decide +kernel) rfl
theorem mc_X11_isPerson : MC yX11_isPerson cX11_isPerson 2 (some .boolean) 1 := ⟨TT_i 762 (by decide +kernel) rfl, TT_i 1 (by decide +kernel) rfl, by decide +kernel⟩
theorem im_X11_isPerson : Cond.instanceMethod yX11_isPerson ∈ TT := TT_i 761 (by decide +kernel) rfl
theorem se_X11_isPerson : Cond.selects (cR 9) yX11_isPerson yX11_isPerson ∈ TT := TT_sel (q := (yX11_isPerson, 10)) 32 (by decide +kernel)
theorem ml_X11_172 : Cond.methodLink RX11 172 yX2_of ∈ TT := TT_i 763 (by decide +kernel) rfl
theorem ml_X11_175 : Cond.methodLink RX11 175 yX11_roadOf ∈ TT := TT_i 771 (by decide +kernel) rfl
theorem mc_X11_roadOf : MC yX11_roadOf cX11_roadOf 3 (some .int) 2 := ⟨TT_i 774 (by decide +kernel) rfl, TT_i 1 (by decide +kernel) rfl, by decide +kernel⟩
theorem im_X11_roadOf : Cond.instanceMethod yX11_roadOf ∈ TT := TT_i 773 (by decide +kernel) rfl
theorem se_X11_roadOf : Cond.selects (cR 9) yX11_roadOf yX11_roadOf ∈ TT := TT_sel (q := (yX11_roadOf, 10)) 33 (by decide +kernel)
theorem ml_X11_178 : Cond.methodLink RX11 178 yX1_voice ∈ TT := TT_i 775 (by decide +kernel) rfl
theorem ml_X11_182 : Cond.methodLink RX11 182 yX1_isOpen ∈ TT := TT_i 776 (by decide +kernel) rfl
theorem ml_X11_186 : Cond.methodLink RX11 186 yX2_voices ∈ TT := TT_i 783 (by decide +kernel) rfl
theorem ml_X11_189 : Cond.methodLink RX11 189 yX1_gatesOpenTo ∈ TT := TT_i 792 (by decide +kernel) rfl
theorem mc_X1_gatesOpenTo : MC yX1_gatesOpenTo cX1_gatesOpenTo 5 (some .int) 3 := ⟨TT_i 794 (by decide +kernel) rfl, TT_i 19 (by decide +kernel) rfl, by decide +kernel⟩
theorem st_X1_gatesOpenTo : Cond.static yX1_gatesOpenTo ∈ TT := TT_i 793 (by decide +kernel) rfl
theorem ml_X11_193 : Cond.methodLink RX11 193 yX11_isTold ∈ TT := TT_i 800 (by decide +kernel) rfl
theorem mc_X11_isTold : MC yX11_isTold cX11_isTold 1 (some .boolean) 0 := ⟨TT_i 803 (by decide +kernel) rfl, TT_i 1 (by decide +kernel) rfl, by decide +kernel⟩
theorem im_X11_isTold : Cond.instanceMethod yX11_isTold ∈ TT := TT_i 802 (by decide +kernel) rfl
theorem se_X11_isTold : Cond.selects (cR 9) yX11_isTold yX11_isTold ∈ TT := TT_sel (q := (yX11_isTold, 10)) 34 (by decide +kernel)
theorem ml_X11_196 : Cond.methodLink RX11 196 yX3_mostAlike ∈ TT := TT_i 804 (by decide +kernel) rfl
theorem mc_X3_mostAlike : MC yX3_mostAlike cX3_mostAlike 5 (some .int) 1 := ⟨TT_i 806 (by decide +kernel) rfl, TT_i 12 (by decide +kernel) rfl, by decide +kernel⟩
theorem st_X3_mostAlike : Cond.static yX3_mostAlike ∈ TT := TT_i 805 (by decide +kernel) rfl
theorem ml_X11_207 : Cond.methodLink RX11 207 yX10_measure ∈ TT := TT_i 815 (by decide +kernel) rfl
theorem mc_X10_measure : MC yX10_measure cX10_measure 7 none 4 := ⟨TT_i 818 (by decide +kernel) rfl, TT_i 9 (by decide +kernel) rfl, by decide +kernel⟩
theorem im_X10_measure : Cond.instanceMethod yX10_measure ∈ TT := TT_i 816 (by decide +kernel) rfl
theorem se_X10_measure : Cond.selects (cR 8) yX10_measure yX10_measure ∈ TT := TT_i 817 (by decide +kernel) rfl
theorem ml_X11_377 : Cond.methodLink RX11 377 yX10_minutesFrom ∈ TT := TT_i 828 (by decide +kernel) rfl
theorem mc_X10_minutesFrom : MC yX10_minutesFrom cX10_minutesFrom 2 (some .int) 1 := ⟨TT_i 831 (by decide +kernel) rfl, TT_i 9 (by decide +kernel) rfl, by decide +kernel⟩
theorem im_X10_minutesFrom : Cond.instanceMethod yX10_minutesFrom ∈ TT := TT_i 829 (by decide +kernel) rfl
theorem se_X10_minutesFrom : Cond.selects (cR 8) yX10_minutesFrom yX10_minutesFrom ∈ TT := TT_i 830 (by decide +kernel) rfl
theorem ml_X11_203 : Cond.methodLink RX11 203 yX11_minutesTo ∈ TT := TT_i 811 (by decide +kernel) rfl
theorem mc_X11_minutesTo : MC yX11_minutesTo cX11_minutesTo 3 (some .int) 2 := ⟨TT_i 814 (by decide +kernel) rfl, TT_i 1 (by decide +kernel) rfl, by decide +kernel⟩
theorem im_X11_minutesTo : Cond.instanceMethod yX11_minutesTo ∈ TT := TT_i 813 (by decide +kernel) rfl
theorem se_X11_minutesTo : Cond.selects (cR 9) yX11_minutesTo yX11_minutesTo ∈ TT := TT_sel (q := (yX11_minutesTo, 10)) 35 (by decide +kernel)
theorem kc_X11_206 : Cond.constant RX11 206 1000000 ∈ TT := TT_i 832 (by decide +kernel) rfl
theorem ml_X11_211 : Cond.methodLink RX11 211 yX10_placeOn ∈ TT := TT_i 837 (by decide +kernel) rfl
theorem mc_X10_placeOn : MC yX10_placeOn cX10_placeOn 7 (some .int) 4 := ⟨TT_i 840 (by decide +kernel) rfl, TT_i 9 (by decide +kernel) rfl, by decide +kernel⟩
theorem im_X10_placeOn : Cond.instanceMethod yX10_placeOn ∈ TT := TT_i 838 (by decide +kernel) rfl
theorem se_X10_placeOn : Cond.selects (cR 8) yX10_placeOn yX10_placeOn ∈ TT := TT_i 839 (by decide +kernel) rfl
theorem ml_X11_380 : Cond.methodLink RX11 380 yX10_placesReached ∈ TT := TT_i 854 (by decide +kernel) rfl
theorem ml_X11_215 : Cond.methodLink RX11 215 yX11_reachBy ∈ TT := TT_i 850 (by decide +kernel) rfl
theorem mc_X11_reachBy : MC yX11_reachBy cX11_reachBy 4 (some .int) 3 := ⟨TT_i 853 (by decide +kernel) rfl, TT_i 1 (by decide +kernel) rfl, by decide +kernel⟩
theorem im_X11_reachBy : Cond.instanceMethod yX11_reachBy ∈ TT := TT_i 852 (by decide +kernel) rfl
theorem se_X11_reachBy : Cond.selects (cR 9) yX11_reachBy yX11_reachBy ∈ TT := TT_sel (q := (yX11_reachBy, 10)) 38 (by decide +kernel)
theorem ml_X11_219 : Cond.methodLink RX11 219 yJ6_bitCount_0f7a4 ∈ TT := TT_i 865 (by decide +kernel) rfl
theorem ml_X11_227 : Cond.methodLink RX11 227 yX8_plan ∈ TT := TT_i 875 (by decide +kernel) rfl
theorem mc_X8_plan : MC yX8_plan cX8_plan 10 none 3 := ⟨TT_i 878 (by decide +kernel) rfl, TT_i 10 (by decide +kernel) rfl, by decide +kernel⟩
theorem im_X8_plan : Cond.instanceMethod yX8_plan ∈ TT := TT_i 876 (by decide +kernel) rfl
theorem se_X8_plan : Cond.selects (cR 7) yX8_plan yX8_plan ∈ TT := TT_i 877 (by decide +kernel) rfl
theorem ml_X11_231 : Cond.methodLink RX11 231 yX8_bestSet ∈ TT := TT_i 890 (by decide +kernel) rfl
theorem mc_X8_bestSet : MC yX8_bestSet cX8_bestSet 5 (some .int) 2 := ⟨TT_i 893 (by decide +kernel) rfl, TT_i 10 (by decide +kernel) rfl, by decide +kernel⟩
theorem im_X8_bestSet : Cond.instanceMethod yX8_bestSet ∈ TT := TT_i 891 (by decide +kernel) rfl
theorem se_X8_bestSet : Cond.selects (cR 7) yX8_bestSet yX8_bestSet ∈ TT := TT_i 892 (by decide +kernel) rfl
theorem ml_X11_235 : Cond.methodLink RX11 235 yX8_coinsOf ∈ TT := TT_i 899 (by decide +kernel) rfl
theorem mc_X8_coinsOf : MC yX8_coinsOf cX8_coinsOf 2 (some .int) 1 := ⟨TT_i 902 (by decide +kernel) rfl, TT_i 10 (by decide +kernel) rfl, by decide +kernel⟩
theorem im_X8_coinsOf : Cond.instanceMethod yX8_coinsOf ∈ TT := TT_i 900 (by decide +kernel) rfl
theorem se_X8_coinsOf : Cond.selects (cR 7) yX8_coinsOf yX8_coinsOf ∈ TT := TT_i 901 (by decide +kernel) rfl
theorem ml_X11_238 : Cond.methodLink RX11 238 yX8_placesOfAll ∈ TT := TT_i 911 (by decide +kernel) rfl
theorem mc_X8_placesOfAll : MC yX8_placesOfAll cX8_placesOfAll 4 (some .int) 1 := ⟨TT_i 914 (by decide +kernel) rfl, TT_i 10 (by decide +kernel) rfl, by decide +kernel⟩
theorem im_X8_placesOfAll : Cond.instanceMethod yX8_placesOfAll ∈ TT := TT_i 912 (by decide +kernel) rfl
theorem se_X8_placesOfAll : Cond.selects (cR 7) yX8_placesOfAll yX8_placesOfAll ∈ TT := TT_i 913 (by decide +kernel) rfl
theorem ml_X11_244 : Cond.methodLink RX11 244 yX11_areTunes ∈ TT := TT_i 923 (by decide +kernel) rfl
theorem mc_X11_areTunes : MC yX11_areTunes cX11_areTunes 2 (some .boolean) 1 := ⟨TT_i 926 (by decide +kernel) rfl, TT_i 1 (by decide +kernel) rfl, by decide +kernel⟩
theorem im_X11_areTunes : Cond.instanceMethod yX11_areTunes ∈ TT := TT_i 925 (by decide +kernel) rfl
theorem se_X11_areTunes : Cond.selects (cR 9) yX11_areTunes yX11_areTunes ∈ TT := TT_sel (q := (yX11_areTunes, 10)) 41 (by decide +kernel)
theorem ml_X11_247 : Cond.methodLink RX11 247 yX6_compose ∈ TT := TT_i 927 (by decide +kernel) rfl
theorem mc_X6_compose : MC yX6_compose cX6_compose 5 none 2 := ⟨TT_i 930 (by decide +kernel) rfl, TT_i 11 (by decide +kernel) rfl, by decide +kernel⟩
theorem im_X6_compose : Cond.instanceMethod yX6_compose ∈ TT := TT_i 928 (by decide +kernel) rfl
theorem se_X6_compose : Cond.selects (cR 5) yX6_compose yX6_compose ∈ TT := TT_i 929 (by decide +kernel) rfl
theorem ml_X11_251 : Cond.methodLink RX11 251 yX6_notes ∈ TT := TT_i 965 (by decide +kernel) rfl
theorem mc_X6_notes : MC yX6_notes cX6_notes 1 (some .int) 0 := ⟨TT_i 968 (by decide +kernel) rfl, TT_i 11 (by decide +kernel) rfl, by decide +kernel⟩
theorem im_X6_notes : Cond.instanceMethod yX6_notes ∈ TT := TT_i 966 (by decide +kernel) rfl
theorem se_X6_notes : Cond.selects (cR 5) yX6_notes yX6_notes ∈ TT := TT_i 967 (by decide +kernel) rfl
theorem ml_X11_255 : Cond.methodLink RX11 255 yX6_noteAt ∈ TT := TT_i 973 (by decide +kernel) rfl
theorem mc_X6_noteAt : MC yX6_noteAt cX6_noteAt 3 (some .int) 2 := ⟨TT_i 976 (by decide +kernel) rfl, TT_i 11 (by decide +kernel) rfl, by decide +kernel⟩
theorem im_X6_noteAt : Cond.instanceMethod yX6_noteAt ∈ TT := TT_i 974 (by decide +kernel) rfl
theorem se_X6_noteAt : Cond.selects (cR 5) yX6_noteAt yX6_noteAt ∈ TT := TT_i 975 (by decide +kernel) rfl
theorem ml_X11_258 : Cond.methodLink RX11 258 yX11_areTwoTunes ∈ TT := TT_i 981 (by decide +kernel) rfl
theorem mc_X11_areTwoTunes : MC yX11_areTwoTunes cX11_areTwoTunes 3 (some .boolean) 2 := ⟨TT_i 984 (by decide +kernel) rfl, TT_i 1 (by decide +kernel) rfl, by decide +kernel⟩
theorem im_X11_areTwoTunes : Cond.instanceMethod yX11_areTwoTunes ∈ TT := TT_i 983 (by decide +kernel) rfl
theorem se_X11_areTwoTunes : Cond.selects (cR 9) yX11_areTwoTunes yX11_areTwoTunes ∈ TT := TT_sel (q := (yX11_areTwoTunes, 10)) 47 (by decide +kernel)
theorem ml_X11_261 : Cond.methodLink RX11 261 yX6_notesInCommon ∈ TT := TT_i 985 (by decide +kernel) rfl
theorem ml_X11_265 : Cond.methodLink RX11 265 yX3_goTogether ∈ TT := TT_i 990 (by decide +kernel) rfl
theorem ml_X11_269 : Cond.methodLink RX11 269 yX3_howMany ∈ TT := TT_i 995 (by decide +kernel) rfl
theorem mc_X3_howMany : MC yX3_howMany cX3_howMany 2 (some .int) 1 := ⟨TT_i 998 (by decide +kernel) rfl, TT_i 12 (by decide +kernel) rfl, by decide +kernel⟩
theorem im_X3_howMany : Cond.instanceMethod yX3_howMany ∈ TT := TT_i 996 (by decide +kernel) rfl
theorem se_X3_howMany : Cond.selects (cR 2) yX3_howMany yX3_howMany ∈ TT := TT_i 997 (by decide +kernel) rfl
theorem fl_X11_272 : FL RX11 272 2 2 := ⟨by decide, by decide, Or.inl (TT_i 375 (by decide +kernel) rfl)⟩
theorem ml_X11_275 : Cond.methodLink RX11 275 yX7_allRows ∈ TT := TT_i 1007 (by decide +kernel) rfl
theorem fl_X11_368 : FL RX11 368 4 8 := ⟨by decide, by decide, Or.inl (TT_i 74 (by decide +kernel) rfl)⟩
theorem ml_X11_278 : Cond.methodLink RX11 278 yX11_isPlaceInRow ∈ TT := TT_i 1019 (by decide +kernel) rfl
theorem mc_X11_isPlaceInRow : MC yX11_isPlaceInRow cX11_isPlaceInRow 2 (some .boolean) 1 := ⟨TT_i 1022 (by decide +kernel) rfl, TT_i 1 (by decide +kernel) rfl, by decide +kernel⟩
theorem im_X11_isPlaceInRow : Cond.instanceMethod yX11_isPlaceInRow ∈ TT := TT_i 1021 (by decide +kernel) rfl
theorem se_X11_isPlaceInRow : Cond.selects (cR 9) yX11_isPlaceInRow yX11_isPlaceInRow ∈ TT := TT_sel (q := (yX11_isPlaceInRow, 10)) 49 (by decide +kernel)
theorem ml_X11_281 : Cond.methodLink RX11 281 yX7_placesAt ∈ TT := TT_i 1023 (by decide +kernel) rfl
theorem mc_X7_placesAt : MC yX7_placesAt cX7_placesAt 5 (some .int) 2 := ⟨TT_i 1026 (by decide +kernel) rfl, TT_i 13 (by decide +kernel) rfl, by decide +kernel⟩
theorem im_X7_placesAt : Cond.instanceMethod yX7_placesAt ∈ TT := TT_i 1024 (by decide +kernel) rfl
theorem se_X7_placesAt : Cond.selects (cR 6) yX7_placesAt yX7_placesAt ∈ TT := TT_i 1025 (by decide +kernel) rfl
theorem ml_X11_284 : Cond.methodLink RX11 284 yJ6_numberOfTrailingZeros_0f7a4 ∈ TT := TT_i 1031 (by decide +kernel) rfl
theorem ml_X11_287 : Cond.methodLink RX11 287 yX7_whatToAsk ∈ TT := TT_i 1036 (by decide +kernel) rfl
theorem mc_X7_whatToAsk : MC yX7_whatToAsk cX7_whatToAsk 4 (some .int) 1 := ⟨TT_i 1039 (by decide +kernel) rfl, TT_i 13 (by decide +kernel) rfl, by decide +kernel⟩
theorem im_X7_whatToAsk : Cond.instanceMethod yX7_whatToAsk ∈ TT := TT_i 1037 (by decide +kernel) rfl
theorem se_X7_whatToAsk : Cond.selects (cR 6) yX7_whatToAsk yX7_whatToAsk ∈ TT := TT_i 1038 (by decide +kernel) rfl
theorem ml_X11_290 : Cond.methodLink RX11 290 yX7_mostLeft ∈ TT := TT_i 1050 (by decide +kernel) rfl
theorem ml_X11_293 : Cond.methodLink RX11 293 yX5_heardAsBits ∈ TT := TT_i 1055 (by decide +kernel) rfl
theorem mc_X5_heardAsBits : MC yX5_heardAsBits cX5_heardAsBits 3 (some .int) 0 := ⟨TT_i 1058 (by decide +kernel) rfl, TT_i 2 (by decide +kernel) rfl, by decide +kernel⟩
theorem im_X5_heardAsBits : Cond.instanceMethod yX5_heardAsBits ∈ TT := TT_i 1056 (by decide +kernel) rfl
theorem se_X5_heardAsBits : Cond.selects (cR 4) yX5_heardAsBits yX5_heardAsBits ∈ TT := TT_i 1057 (by decide +kernel) rfl
theorem ml_X11_304 : Cond.methodLink RX11 304 yX9_share ∈ TT := TT_i 1069 (by decide +kernel) rfl
theorem ml_X11_296 : Cond.methodLink RX11 296 yX11_isMany ∈ TT := TT_i 1063 (by decide +kernel) rfl
theorem mc_X11_isMany : MC yX11_isMany cX11_isMany 1 (some .boolean) 1 := ⟨TT_i 1065 (by decide +kernel) rfl, TT_i 1 (by decide +kernel) rfl, by decide +kernel⟩
theorem st_X11_isMany : Cond.static yX11_isMany ∈ TT := TT_i 1064 (by decide +kernel) rfl
theorem ml_X11_299 : Cond.methodLink RX11 299 yX9_isPrice ∈ TT := TT_i 1066 (by decide +kernel) rfl
theorem mc_X9_isPrice : MC yX9_isPrice cX9_isPrice 1 (some .boolean) 1 := ⟨TT_i 1068 (by decide +kernel) rfl, TT_i 22 (by decide +kernel) rfl, by decide +kernel⟩
theorem st_X9_isPrice : Cond.static yX9_isPrice ∈ TT := TT_i 1067 (by decide +kernel) rfl
theorem ml_X11_308 : Cond.methodLink RX11 308 yX9_countRests ∈ TT := TT_i 1076 (by decide +kernel) rfl
theorem mc_X9_countRests : MC yX9_countRests cX9_countRests 3 (some .int) 1 := ⟨TT_i 1078 (by decide +kernel) rfl, TT_i 22 (by decide +kernel) rfl, by decide +kernel⟩
theorem st_X9_countRests : Cond.static yX9_countRests ∈ TT := TT_i 1077 (by decide +kernel) rfl
theorem ml_X11_311 : Cond.methodLink RX11 311 yX9_firstRest ∈ TT := TT_i 1087 (by decide +kernel) rfl
theorem mc_X9_firstRest : MC yX9_firstRest cX9_firstRest 2 (some .int) 1 := ⟨TT_i 1089 (by decide +kernel) rfl, TT_i 22 (by decide +kernel) rfl, by decide +kernel⟩
theorem st_X9_firstRest : Cond.static yX9_firstRest ∈ TT := TT_i 1088 (by decide +kernel) rfl
theorem ml_X11_334 : Cond.methodLink RX11 334 yX11_isAllowed ∈ TT := TT_i 1099 (by decide +kernel) rfl
theorem mc_X11_isAllowed : MC yX11_isAllowed cX11_isAllowed 2 (some .boolean) 1 := ⟨TT_i 1102 (by decide +kernel) rfl, TT_i 1 (by decide +kernel) rfl, by decide +kernel⟩
theorem im_X11_isAllowed : Cond.instanceMethod yX11_isAllowed ∈ TT := TT_i 1101 (by decide +kernel) rfl
theorem se_X11_isAllowed : Cond.selects (cR 9) yX11_isAllowed yX11_isAllowed ∈ TT := TT_sel (q := (yX11_isAllowed, 10)) 51 (by decide +kernel)
theorem kc_X11_384 : Cond.constant RX11 384 65537 ∈ TT := TT_i 1098 (by decide +kernel) rfl
theorem fl_X11_356 : FL RX11 356 4 3 := ⟨by decide, by decide, Or.inl (TT_i 61 (by decide +kernel) rfl)⟩
theorem ml_X11_385 : Cond.methodLink RX11 385 yX0_begin ∈ TT := TT_i 1103 (by decide +kernel) rfl
theorem mc_X0_begin : MC yX0_begin cX0_begin 4 none 3 := ⟨TT_i 1106 (by decide +kernel) rfl, TT_i 14 (by decide +kernel) rfl, by decide +kernel⟩
theorem im_X0_begin : Cond.instanceMethod yX0_begin ∈ TT := TT_i 1104 (by decide +kernel) rfl
theorem se_X0_begin : Cond.selects (cR 0) yX0_begin yX0_begin ∈ TT := TT_i 1105 (by decide +kernel) rfl
theorem ml_X11_387 : Cond.methodLink RX11 387 yX0_pass ∈ TT := TT_i 1107 (by decide +kernel) rfl
theorem mc_X0_pass : MC yX0_pass cX0_pass 7 none 3 := ⟨TT_i 1110 (by decide +kernel) rfl, TT_i 14 (by decide +kernel) rfl, by decide +kernel⟩
theorem im_X0_pass : Cond.instanceMethod yX0_pass ∈ TT := TT_i 1108 (by decide +kernel) rfl
theorem se_X0_pass : Cond.selects (cR 0) yX0_pass yX0_pass ∈ TT := TT_i 1109 (by decide +kernel) rfl
theorem ml_X11_314 : Cond.methodLink RX11 314 yX11_letDaysPass ∈ TT := TT_i 1094 (by decide +kernel) rfl
theorem mc_X11_letDaysPass : MC yX11_letDaysPass cX11_letDaysPass 5 (some .boolean) 4 := ⟨TT_i 1097 (by decide +kernel) rfl, TT_i 1 (by decide +kernel) rfl, by decide +kernel⟩
theorem im_X11_letDaysPass : Cond.instanceMethod yX11_letDaysPass ∈ TT := TT_i 1096 (by decide +kernel) rfl
theorem se_X11_letDaysPass : Cond.selects (cR 9) yX11_letDaysPass yX11_letDaysPass ∈ TT := TT_sel (q := (yX11_letDaysPass, 10)) 50 (by decide +kernel)
theorem fl_X11_318 : FL RX11 318 0 2 := ⟨by decide, by decide, Or.inl (TT_i 405 (by decide +kernel) rfl)⟩
theorem fl_X11_321 : FL RX11 321 0 3 := ⟨by decide, by decide, Or.inl (TT_i 407 (by decide +kernel) rfl)⟩
theorem fl_X11_324 : FL RX11 324 0 4 := ⟨by decide, by decide, Or.inl (TT_i 409 (by decide +kernel) rfl)⟩
theorem ml_X11_327 : Cond.methodLink RX11 327 yX2_keep ∈ TT := TT_i 1135 (by decide +kernel) rfl
theorem mc_X2_keep : MC yX2_keep cX2_keep 1 none 0 := ⟨TT_i 1138 (by decide +kernel) rfl, TT_i 8 (by decide +kernel) rfl, by decide +kernel⟩
theorem im_X2_keep : Cond.instanceMethod yX2_keep ∈ TT := TT_i 1136 (by decide +kernel) rfl
theorem se_X2_keep : Cond.selects (cR 1) yX2_keep yX2_keep ∈ TT := TT_i 1137 (by decide +kernel) rfl
theorem ml_X11_330 : Cond.methodLink RX11 330 yX2_set ∈ TT := TT_i 1140 (by decide +kernel) rfl
theorem mc_X2_set : MC yX2_set cX2_set 4 none 3 := ⟨TT_i 1143 (by decide +kernel) rfl, TT_i 8 (by decide +kernel) rfl, by decide +kernel⟩
theorem im_X2_set : Cond.instanceMethod yX2_set ∈ TT := TT_i 1141 (by decide +kernel) rfl
theorem se_X2_set : Cond.selects (cR 1) yX2_set yX2_set ∈ TT := TT_i 1142 (by decide +kernel) rfl
theorem ml_X11_337 : Cond.methodLink RX11 337 yX2_setRain ∈ TT := TT_i 1156 (by decide +kernel) rfl
theorem mc_X2_setRain : MC yX2_setRain cX2_setRain 2 none 1 := ⟨TT_i 1159 (by decide +kernel) rfl, TT_i 8 (by decide +kernel) rfl, by decide +kernel⟩
theorem im_X2_setRain : Cond.instanceMethod yX2_setRain ∈ TT := TT_i 1157 (by decide +kernel) rfl
theorem se_X2_setRain : Cond.selects (cR 1) yX2_setRain yX2_setRain ∈ TT := TT_i 1158 (by decide +kernel) rfl
theorem ml_X11_341 : Cond.methodLink RX11 341 yX2_takeBack ∈ TT := TT_i 1164 (by decide +kernel) rfl
theorem mc_X2_takeBack : MC yX2_takeBack cX2_takeBack 1 (some .boolean) 0 := ⟨TT_i 1167 (by decide +kernel) rfl, TT_i 8 (by decide +kernel) rfl, by decide +kernel⟩
theorem im_X2_takeBack : Cond.instanceMethod yX2_takeBack ∈ TT := TT_i 1165 (by decide +kernel) rfl
theorem se_X2_takeBack : Cond.selects (cR 1) yX2_takeBack yX2_takeBack ∈ TT := TT_i 1166 (by decide +kernel) rfl
theorem ml_X11_344 : Cond.methodLink RX11 344 yX2_addMark ∈ TT := TT_i 1172 (by decide +kernel) rfl
theorem mc_X2_addMark : MC yX2_addMark cX2_addMark 1 (some .int) 0 := ⟨TT_i 1175 (by decide +kernel) rfl, TT_i 8 (by decide +kernel) rfl, by decide +kernel⟩
theorem im_X2_addMark : Cond.instanceMethod yX2_addMark ∈ TT := TT_i 1173 (by decide +kernel) rfl
theorem se_X2_addMark : Cond.selects (cR 1) yX2_addMark yX2_addMark ∈ TT := TT_i 1174 (by decide +kernel) rfl
theorem ml_X11_347 : Cond.methodLink RX11 347 yX2_returnTo ∈ TT := TT_i 1180 (by decide +kernel) rfl
theorem mc_X2_returnTo : MC yX2_returnTo cX2_returnTo 2 (some .boolean) 1 := ⟨TT_i 1183 (by decide +kernel) rfl, TT_i 8 (by decide +kernel) rfl, by decide +kernel⟩
theorem im_X2_returnTo : Cond.instanceMethod yX2_returnTo ∈ TT := TT_i 1181 (by decide +kernel) rfl
theorem se_X2_returnTo : Cond.selects (cR 1) yX2_returnTo yX2_returnTo ∈ TT := TT_i 1182 (by decide +kernel) rfl
theorem fl_X11_353 : FL RX11 353 4 0 := ⟨by decide, by decide, Or.inl (TT_i 44 (by decide +kernel) rfl)⟩
theorem fl_X11_359 : FL RX11 359 4 4 := ⟨by decide, by decide, Or.inl (TT_i 63 (by decide +kernel) rfl)⟩
theorem fl_X11_365 : FL RX11 365 4 7 := ⟨by decide, by decide, Or.inl (TT_i 70 (by decide +kernel) rfl)⟩
theorem fl_X11_371 : FL RX11 371 1 4 := ⟨by decide, by decide, Or.inl (TT_i 296 (by decide +kernel) rfl)⟩
theorem fl_X11_374 : FL RX11 374 1 5 := ⟨by decide, by decide, Or.inl (TT_i 298 (by decide +kernel) rfl)⟩
theorem oi_X12_3 : Cond.methodLink RX12 3 Lib.objectInit ∈ TT := TT_i 1409 (by decide +kernel) rfl
theorem fl_X12_9 : FL RX12 9 10 0 := ⟨by decide, by decide, Or.inl (TT_i 1410 (by decide +kernel) rfl)⟩
theorem fl_X12_15 : FL RX12 15 10 10 := ⟨by decide, by decide, Or.inl (TT_i 1422 (by decide +kernel) rfl)⟩
theorem fw_X12_15 : Cond.fieldLink RX12 15 (cT 10 10).1 (cT 10 10).2.1 (cT 10 10).2.2.1 ∈ TT := TT_i 1422 (by decide +kernel) rfl
theorem fl_X12_19 : FL RX12 19 10 11 := ⟨by decide, by decide, Or.inl (TT_i 1424 (by decide +kernel) rfl)⟩
theorem fw_X12_19 : Cond.fieldLink RX12 19 (cT 10 11).1 (cT 10 11).2.1 (cT 10 11).2.2.1 ∈ TT := TT_i 1424 (by decide +kernel) rfl
theorem fl_X12_22 : FL RX12 22 10 12 := ⟨by decide, by decide, Or.inl (TT_i 1426 (by decide +kernel) rfl)⟩
theorem fw_X12_22 : Cond.fieldLink RX12 22 (cT 10 12).1 (cT 10 12).2.1 (cT 10 12).2.2.1 ∈ TT := TT_i 1426 (by decide +kernel) rfl
theorem fl_X12_25 : FL RX12 25 10 13 := ⟨by decide, by decide, Or.inl (TT_i 1428 (by decide +kernel) rfl)⟩
theorem fw_X12_25 : Cond.fieldLink RX12 25 (cT 10 13).1 (cT 10 13).2.1 (cT 10 13).2.2.1 ∈ TT := TT_i 1428 (by decide +kernel) rfl
theorem fl_X12_28 : FL RX12 28 10 14 := ⟨by decide, by decide, Or.inl (TT_i 1430 (by decide +kernel) rfl)⟩
theorem fw_X12_28 : Cond.fieldLink RX12 28 (cT 10 14).1 (cT 10 14).2.1 (cT 10 14).2.2.1 ∈ TT := TT_i 1430 (by decide +kernel) rfl
theorem fl_X12_31 : FL RX12 31 10 15 := ⟨by decide, by decide, Or.inl (TT_i 1432 (by decide +kernel) rfl)⟩
theorem fw_X12_31 : Cond.fieldLink RX12 31 (cT 10 15).1 (cT 10 15).2.1 (cT 10 15).2.2.1 ∈ TT := TT_i 1432 (by decide +kernel) rfl
theorem fl_X12_34 : FL RX12 34 10 16 := ⟨by decide, by decide, Or.inl (TT_i 1434 (by decide +kernel) rfl)⟩
theorem fw_X12_34 : Cond.fieldLink RX12 34 (cT 10 16).1 (cT 10 16).2.1 (cT 10 16).2.2.1 ∈ TT := TT_i 1434 (by decide +kernel) rfl
theorem fl_X12_37 : FL RX12 37 10 17 := ⟨by decide, by decide, Or.inl (TT_i 1436 (by decide +kernel) rfl)⟩
theorem fw_X12_37 : Cond.fieldLink RX12 37 (cT 10 17).1 (cT 10 17).2.1 (cT 10 17).2.2.1 ∈ TT := TT_i 1436 (by decide +kernel) rfl
theorem fl_X12_40 : FL RX12 40 10 18 := ⟨by decide, by decide, Or.inl (TT_i 1438 (by decide +kernel) rfl)⟩
theorem fw_X12_40 : Cond.fieldLink RX12 40 (cT 10 18).1 (cT 10 18).2.1 (cT 10 18).2.2.1 ∈ TT := TT_i 1438 (by decide +kernel) rfl
theorem fl_X12_43 : FL RX12 43 10 19 := ⟨by decide, by decide, Or.inl (TT_i 1440 (by decide +kernel) rfl)⟩
theorem fw_X12_43 : Cond.fieldLink RX12 43 (cT 10 19).1 (cT 10 19).2.1 (cT 10 19).2.2.1 ∈ TT := TT_i 1440 (by decide +kernel) rfl
theorem fl_X12_46 : FL RX12 46 10 20 := ⟨by decide, by decide, Or.inl (TT_i 1442 (by decide +kernel) rfl)⟩
theorem fw_X12_46 : Cond.fieldLink RX12 46 (cT 10 20).1 (cT 10 20).2.1 (cT 10 20).2.2.1 ∈ TT := TT_i 1442 (by decide +kernel) rfl
theorem fl_X12_49 : FL RX12 49 10 21 := ⟨by decide, by decide, Or.inl (TT_i 1444 (by decide +kernel) rfl)⟩
theorem fw_X12_49 : Cond.fieldLink RX12 49 (cT 10 21).1 (cT 10 21).2.1 (cT 10 21).2.2.1 ∈ TT := TT_i 1444 (by decide +kernel) rfl
theorem fl_X12_52 : FL RX12 52 10 22 := ⟨by decide, by decide, Or.inl (TT_i 1446 (by decide +kernel) rfl)⟩
theorem fw_X12_52 : Cond.fieldLink RX12 52 (cT 10 22).1 (cT 10 22).2.1 (cT 10 22).2.2.1 ∈ TT := TT_i 1446 (by decide +kernel) rfl
theorem fl_X12_55 : FL RX12 55 10 23 := ⟨by decide, by decide, Or.inl (TT_i 1448 (by decide +kernel) rfl)⟩
theorem fw_X12_55 : Cond.fieldLink RX12 55 (cT 10 23).1 (cT 10 23).2.1 (cT 10 23).2.2.1 ∈ TT := TT_i 1448 (by decide +kernel) rfl
theorem fl_X12_58 : FL RX12 58 10 24 := ⟨by decide, by decide, Or.inl (TT_i 1450 (by decide +kernel) rfl)⟩
theorem fw_X12_58 : Cond.fieldLink RX12 58 (cT 10 24).1 (cT 10 24).2.1 (cT 10 24).2.2.1 ∈ TT := TT_i 1450 (by decide +kernel) rfl
theorem fl_X12_61 : FL RX12 61 10 25 := ⟨by decide, by decide, Or.inl (TT_i 1452 (by decide +kernel) rfl)⟩
theorem fw_X12_61 : Cond.fieldLink RX12 61 (cT 10 25).1 (cT 10 25).2.1 (cT 10 25).2.2.1 ∈ TT := TT_i 1452 (by decide +kernel) rfl
theorem fl_X12_65 : FL RX12 65 10 26 := ⟨by decide, by decide, Or.inl (TT_i 1454 (by decide +kernel) rfl)⟩
theorem fw_X12_65 : Cond.fieldLink RX12 65 (cT 10 26).1 (cT 10 26).2.1 (cT 10 26).2.2.1 ∈ TT := TT_i 1454 (by decide +kernel) rfl
theorem fl_X12_68 : FL RX12 68 10 27 := ⟨by decide, by decide, Or.inl (TT_i 1456 (by decide +kernel) rfl)⟩
theorem fw_X12_68 : Cond.fieldLink RX12 68 (cT 10 27).1 (cT 10 27).2.1 (cT 10 27).2.2.1 ∈ TT := TT_i 1456 (by decide +kernel) rfl
theorem fl_X12_71 : FL RX12 71 10 9 := ⟨by decide, by decide, Or.inl (TT_i 1420 (by decide +kernel) rfl)⟩
theorem oi_X13_3 : Cond.methodLink RX13 3 Lib.objectInit ∈ TT := TT_i 1266 (by decide +kernel) rfl
theorem fl_X13_9 : FL RX13 9 11 2 := ⟨by decide, by decide, Or.inl (TT_i 1269 (by decide +kernel) rfl)⟩
theorem ar_byte : Cond.arrayClass .byte ∈ TT := TT_i 284 (by decide +kernel) rfl
theorem fl_X13_13 : FL RX13 13 11 5 := ⟨by decide, by decide, Or.inl (TT_i 1272 (by decide +kernel) rfl)⟩
theorem fw_X13_13 : Cond.fieldLink RX13 13 (cT 11 5).1 (cT 11 5).2.1 (cT 11 5).2.2.1 ∈ TT := TT_i 1272 (by decide +kernel) rfl
theorem fl_X13_17 : FL RX13 17 11 16 := ⟨by decide, by decide, Or.inl (TT_i 1283 (by decide +kernel) rfl)⟩
theorem fw_X13_17 : Cond.fieldLink RX13 17 (cT 11 16).1 (cT 11 16).2.1 (cT 11 16).2.2.1 ∈ TT := TT_i 1283 (by decide +kernel) rfl
theorem fl_X13_21 : FL RX13 21 11 17 := ⟨by decide, by decide, Or.inl (TT_i 1284 (by decide +kernel) rfl)⟩
theorem fw_X13_21 : Cond.fieldLink RX13 21 (cT 11 17).1 (cT 11 17).2.1 (cT 11 17).2.2.1 ∈ TT := TT_i 1284 (by decide +kernel) rfl
theorem fl_X13_24 : FL RX13 24 11 18 := ⟨by decide, by decide, Or.inl (TT_i 1285 (by decide +kernel) rfl)⟩
theorem fw_X13_24 : Cond.fieldLink RX13 24 (cT 11 18).1 (cT 11 18).2.1 (cT 11 18).2.2.1 ∈ TT := TT_i 1285 (by decide +kernel) rfl
theorem fl_X13_27 : FL RX13 27 11 21 := ⟨by decide, by decide, Or.inl (TT_i 1288 (by decide +kernel) rfl)⟩
theorem fw_X13_27 : Cond.fieldLink RX13 27 (cT 11 21).1 (cT 11 21).2.1 (cT 11 21).2.2.1 ∈ TT := TT_i 1288 (by decide +kernel) rfl
theorem fl_X13_30 : FL RX13 30 11 25 := ⟨by decide, by decide, Or.inl (TT_i 1292 (by decide +kernel) rfl)⟩
theorem fw_X13_30 : Cond.fieldLink RX13 30 (cT 11 25).1 (cT 11 25).2.1 (cT 11 25).2.2.1 ∈ TT := TT_i 1292 (by decide +kernel) rfl
theorem fl_X13_33 : FL RX13 33 11 26 := ⟨by decide, by decide, Or.inl (TT_i 1293 (by decide +kernel) rfl)⟩
theorem fw_X13_33 : Cond.fieldLink RX13 33 (cT 11 26).1 (cT 11 26).2.1 (cT 11 26).2.2.1 ∈ TT := TT_i 1293 (by decide +kernel) rfl
theorem fl_X13_36 : FL RX13 36 11 27 := ⟨by decide, by decide, Or.inl (TT_i 1294 (by decide +kernel) rfl)⟩
theorem fw_X13_36 : Cond.fieldLink RX13 36 (cT 11 27).1 (cT 11 27).2.1 (cT 11 27).2.2.1 ∈ TT := TT_i 1294 (by decide +kernel) rfl
theorem fl_X13_39 : FL RX13 39 11 28 := ⟨by decide, by decide, Or.inl (TT_i 1295 (by decide +kernel) rfl)⟩
theorem fw_X13_39 : Cond.fieldLink RX13 39 (cT 11 28).1 (cT 11 28).2.1 (cT 11 28).2.2.1 ∈ TT := TT_i 1295 (by decide +kernel) rfl
theorem fl_X13_42 : FL RX13 42 11 32 := ⟨by decide, by decide, Or.inl (TT_i 1299 (by decide +kernel) rfl)⟩
theorem fw_X13_42 : Cond.fieldLink RX13 42 (cT 11 32).1 (cT 11 32).2.1 (cT 11 32).2.2.1 ∈ TT := TT_i 1299 (by decide +kernel) rfl
theorem fl_X13_45 : FL RX13 45 11 33 := ⟨by decide, by decide, Or.inl (TT_i 1300 (by decide +kernel) rfl)⟩
theorem fw_X13_45 : Cond.fieldLink RX13 45 (cT 11 33).1 (cT 11 33).2.1 (cT 11 33).2.2.1 ∈ TT := TT_i 1300 (by decide +kernel) rfl
theorem fl_X13_48 : FL RX13 48 11 34 := ⟨by decide, by decide, Or.inl (TT_i 1301 (by decide +kernel) rfl)⟩
theorem fw_X13_48 : Cond.fieldLink RX13 48 (cT 11 34).1 (cT 11 34).2.1 (cT 11 34).2.2.1 ∈ TT := TT_i 1301 (by decide +kernel) rfl
theorem fl_X13_51 : FL RX13 51 11 0 := ⟨by decide, by decide, Or.inl (TT_i 1267 (by decide +kernel) rfl)⟩
theorem fl_X13_54 : FL RX13 54 11 1 := ⟨by decide, by decide, Or.inl (TT_i 1268 (by decide +kernel) rfl)⟩
theorem ml_X13_57 : Cond.methodLink RX13 57 yX13_refused ∈ TT := TT_i 1400 (by decide +kernel) rfl
theorem mc_X13_refused : MC yX13_refused cX13_refused 2 (some .int) 1 := ⟨TT_i 1403 (by decide +kernel) rfl, TT_i 15 (by decide +kernel) rfl, by decide +kernel⟩
theorem im_X13_refused : Cond.instanceMethod yX13_refused ∈ TT := TT_i 1402 (by decide +kernel) rfl
theorem se_X13_refused : Cond.selects (cR 11) yX13_refused yX13_refused ∈ TT := TT_sel (q := (yX13_refused, 40)) 55 (by decide +kernel)
theorem ml_X13_61 : Cond.methodLink RX13 61 yX13_good ∈ TT := TT_i 1662 (by decide +kernel) rfl
theorem mc_X13_good : MC yX13_good cX13_good 2 (some .int) 1 := ⟨TT_i 1665 (by decide +kernel) rfl, TT_i 15 (by decide +kernel) rfl, by decide +kernel⟩
theorem im_X13_good : Cond.instanceMethod yX13_good ∈ TT := TT_i 1664 (by decide +kernel) rfl
theorem se_X13_good : Cond.selects (cR 11) yX13_good yX13_good ∈ TT := TT_sel (q := (yX13_good, 40)) 82 (by decide +kernel)
theorem fl_X13_64 : FL RX13 64 11 7 := ⟨by decide, by decide, Or.inl (TT_i 1274 (by decide +kernel) rfl)⟩
theorem ml_X13_67 : Cond.methodLink RX13 67 yJ0_length_8abf5 ∈ TT := TT_i 1546 (by decide +kernel) rfl
theorem kc_X13_73 : Cond.constantLong RX13 73 32 ∈ TT := TT_i 1526 (by decide +kernel) rfl
theorem ml_X13_75 : Cond.methodLink RX13 75 yJ0_charAt_5068e ∈ TT := TT_i 1547 (by decide +kernel) rfl
theorem fl_X13_79 : FL RX13 79 11 9 := ⟨by decide, by decide, Or.inl (TT_i 1276 (by decide +kernel) rfl)⟩
theorem fl_X13_82 : FL RX13 82 11 8 := ⟨by decide, by decide, Or.inl (TT_i 1275 (by decide +kernel) rfl)⟩
theorem ml_X13_85 : Cond.methodLink RX13 85 yX13_byteAt ∈ TT := TT_i 1519 (by decide +kernel) rfl
theorem mc_X13_byteAt : MC yX13_byteAt cX13_byteAt 2 (some .int) 1 := ⟨TT_i 1522 (by decide +kernel) rfl, TT_i 15 (by decide +kernel) rfl, by decide +kernel⟩
theorem im_X13_byteAt : Cond.instanceMethod yX13_byteAt ∈ TT := TT_i 1521 (by decide +kernel) rfl
theorem se_X13_byteAt : Cond.selects (cR 11) yX13_byteAt yX13_byteAt ∈ TT := TT_sel (q := (yX13_byteAt, 40)) 57 (by decide +kernel)
theorem fl_X13_88 : FL RX13 88 11 10 := ⟨by decide, by decide, Or.inl (TT_i 1277 (by decide +kernel) rfl)⟩
theorem ml_X13_91 : Cond.methodLink RX13 91 yX13_isLetter ∈ TT := TT_i 1523 (by decide +kernel) rfl
theorem mc_X13_isLetter : MC yX13_isLetter cX13_isLetter 1 (some .boolean) 1 := ⟨TT_i 1525 (by decide +kernel) rfl, TT_i 15 (by decide +kernel) rfl, by decide +kernel⟩
theorem st_X13_isLetter : Cond.static yX13_isLetter ∈ TT := TT_i 1524 (by decide +kernel) rfl
theorem ml_X13_102 : Cond.methodLink RX13 102 yX13_isDigit ∈ TT := TT_i 1527 (by decide +kernel) rfl
theorem mc_X13_isDigit : MC yX13_isDigit cX13_isDigit 1 (some .boolean) 1 := ⟨TT_i 1529 (by decide +kernel) rfl, TT_i 15 (by decide +kernel) rfl, by decide +kernel⟩
theorem st_X13_isDigit : Cond.static yX13_isDigit ∈ TT := TT_i 1528 (by decide +kernel) rfl
theorem fl_X13_105 : FL RX13 105 11 11 := ⟨by decide, by decide, Or.inl (TT_i 1278 (by decide +kernel) rfl)⟩
theorem fl_X13_95 : FL RX13 95 11 15 := ⟨by decide, by decide, Or.inl (TT_i 1282 (by decide +kernel) rfl)⟩
theorem fl_X13_99 : FL RX13 99 11 14 := ⟨by decide, by decide, Or.inl (TT_i 1281 (by decide +kernel) rfl)⟩
theorem fl_X13_108 : FL RX13 108 11 12 := ⟨by decide, by decide, Or.inl (TT_i 1279 (by decide +kernel) rfl)⟩
theorem fl_X13_111 : FL RX13 111 11 13 := ⟨by decide, by decide, Or.inl (TT_i 1280 (by decide +kernel) rfl)⟩
theorem ml_X13_114 : Cond.methodLink RX13 114 yX13_packed ∈ TT := TT_i 1543 (by decide +kernel) rfl
theorem mc_X13_packed : MC yX13_packed cX13_packed 4 (some .long) 1 := ⟨TT_i 1545 (by decide +kernel) rfl, TT_i 15 (by decide +kernel) rfl, by decide +kernel⟩
theorem st_X13_packed : Cond.static yX13_packed ∈ TT := TT_i 1544 (by decide +kernel) rfl
theorem ml_X13_118 : Cond.methodLink RX13 118 yX13_goesOn ∈ TT := TT_i 1515 (by decide +kernel) rfl
theorem mc_X13_goesOn : MC yX13_goesOn cX13_goesOn 3 none 0 := ⟨TT_i 1518 (by decide +kernel) rfl, TT_i 15 (by decide +kernel) rfl, by decide +kernel⟩
theorem im_X13_goesOn : Cond.instanceMethod yX13_goesOn ∈ TT := TT_i 1517 (by decide +kernel) rfl
theorem se_X13_goesOn : Cond.selects (cR 11) yX13_goesOn yX13_goesOn ∈ TT := TT_sel (q := (yX13_goesOn, 40)) 56 (by decide +kernel)
theorem ml_X13_121 : Cond.methodLink RX13 121 yX13_isWord ∈ TT := TT_i 1539 (by decide +kernel) rfl
theorem mc_X13_isWord : MC yX13_isWord cX13_isWord 2 (some .boolean) 1 := ⟨TT_i 1542 (by decide +kernel) rfl, TT_i 15 (by decide +kernel) rfl, by decide +kernel⟩
theorem im_X13_isWord : Cond.instanceMethod yX13_isWord ∈ TT := TT_i 1541 (by decide +kernel) rfl
theorem se_X13_isWord : Cond.selects (cR 11) yX13_isWord yX13_isWord ∈ TT := TT_sel (q := (yX13_isWord, 40)) 60 (by decide +kernel)
theorem ml_X13_125 : Cond.methodLink RX13 125 yX13_flaw ∈ TT := TT_i 1552 (by decide +kernel) rfl
theorem mc_X13_flaw : MC yX13_flaw cX13_flaw 2 none 1 := ⟨TT_i 1555 (by decide +kernel) rfl, TT_i 15 (by decide +kernel) rfl, by decide +kernel⟩
theorem im_X13_flaw : Cond.instanceMethod yX13_flaw ∈ TT := TT_i 1554 (by decide +kernel) rfl
theorem se_X13_flaw : Cond.selects (cR 11) yX13_flaw yX13_flaw ∈ TT := TT_sel (q := (yX13_flaw, 40)) 62 (by decide +kernel)
theorem ml_X13_129 : Cond.methodLink RX13 129 yX13_in ∈ TT := TT_i 1569 (by decide +kernel) rfl
theorem mc_X13_in : MC yX13_in cX13_in 3 (some .boolean) 3 := ⟨TT_i 1571 (by decide +kernel) rfl, TT_i 15 (by decide +kernel) rfl, by decide +kernel⟩
theorem st_X13_in : Cond.static yX13_in ∈ TT := TT_i 1570 (by decide +kernel) rfl
theorem ml_X13_133 : Cond.methodLink RX13 133 yX13_needs ∈ TT := TT_i 1561 (by decide +kernel) rfl
theorem mc_X13_needs : MC yX13_needs cX13_needs 2 none 1 := ⟨TT_i 1564 (by decide +kernel) rfl, TT_i 15 (by decide +kernel) rfl, by decide +kernel⟩
theorem im_X13_needs : Cond.instanceMethod yX13_needs ∈ TT := TT_i 1563 (by decide +kernel) rfl
theorem se_X13_needs : Cond.selects (cR 11) yX13_needs yX13_needs ∈ TT := TT_sel (q := (yX13_needs, 40)) 64 (by decide +kernel)
theorem ml_X13_137 : Cond.methodLink RX13 137 yX13_readWhole ∈ TT := TT_i 1565 (by decide +kernel) rfl
theorem mc_X13_readWhole : MC yX13_readWhole cX13_readWhole 4 (some .int) 2 := ⟨TT_i 1568 (by decide +kernel) rfl, TT_i 15 (by decide +kernel) rfl, by decide +kernel⟩
theorem im_X13_readWhole : Cond.instanceMethod yX13_readWhole ∈ TT := TT_i 1567 (by decide +kernel) rfl
theorem se_X13_readWhole : Cond.selects (cR 11) yX13_readWhole yX13_readWhole ∈ TT := TT_sel (q := (yX13_readWhole, 40)) 65 (by decide +kernel)
theorem fl_X13_158 : FL RX13 158 11 4 := ⟨by decide, by decide, Or.inl (TT_i 1271 (by decide +kernel) rfl)⟩
theorem fl_X13_162 : FL RX13 162 10 0 := ⟨by decide, by decide, Or.inr ⟨"TuneGatesModel", NW_i 1411 (by decide +kernel) rfl⟩⟩
theorem ml_X13_167 : Cond.methodLink RX13 167 yX13_isName ∈ TT := TT_i 1585 (by decide +kernel) rfl
theorem mc_X13_isName : MC yX13_isName cX13_isName 1 (some .boolean) 0 := ⟨TT_i 1588 (by decide +kernel) rfl, TT_i 15 (by decide +kernel) rfl, by decide +kernel⟩
theorem im_X13_isName : Cond.instanceMethod yX13_isName ∈ TT := TT_i 1587 (by decide +kernel) rfl
theorem se_X13_isName : Cond.selects (cR 11) yX13_isName yX13_isName ∈ TT := TT_sel (q := (yX13_isName, 40)) 69 (by decide +kernel)
theorem ml_X13_171 : Cond.methodLink RX13 171 yX12_find ∈ TT := TT_i 1596 (by decide +kernel) rfl
theorem mc_X12_find : MC yX12_find cX12_find 4 (some .int) 1 := ⟨TT_i 1599 (by decide +kernel) rfl, TT_i 21 (by decide +kernel) rfl, by decide +kernel⟩
theorem im_X12_find : Cond.instanceMethod yX12_find ∈ TT := TT_i 1597 (by decide +kernel) rfl
theorem se_X12_find : Cond.selects (cR 10) yX12_find yX12_find ∈ TT := TT_i 1598 (by decide +kernel) rfl
theorem fl_X13_175 : FL RX13 175 10 25 := ⟨by decide, by decide, Or.inr ⟨"TuneGatesModel", NW_i 1453 (by decide +kernel) rfl⟩⟩
theorem fl_X13_179 : FL RX13 179 10 9 := ⟨by decide, by decide, Or.inr ⟨"TuneGatesModel", NW_i 1421 (by decide +kernel) rfl⟩⟩
theorem fl_X13_182 : FL RX13 182 10 26 := ⟨by decide, by decide, Or.inr ⟨"TuneGatesModel", NW_i 1455 (by decide +kernel) rfl⟩⟩
theorem fl_X13_185 : FL RX13 185 10 27 := ⟨by decide, by decide, Or.inr ⟨"TuneGatesModel", NW_i 1457 (by decide +kernel) rfl⟩⟩
theorem ml_X13_188 : Cond.methodLink RX13 188 yX13_knownOne ∈ TT := TT_i 1621 (by decide +kernel) rfl
theorem mc_X13_knownOne : MC yX13_knownOne cX13_knownOne 3 (some .int) 1 := ⟨TT_i 1624 (by decide +kernel) rfl, TT_i 15 (by decide +kernel) rfl, by decide +kernel⟩
theorem im_X13_knownOne : Cond.instanceMethod yX13_knownOne ∈ TT := TT_i 1623 (by decide +kernel) rfl
theorem se_X13_knownOne : Cond.selects (cR 11) yX13_knownOne yX13_knownOne ∈ TT := TT_sel (q := (yX13_knownOne, 40)) 75 (by decide +kernel)
theorem ml_X13_228 : Cond.methodLink RX13 228 yX13_readPart ∈ TT := TT_i 1557 (by decide +kernel) rfl
theorem mc_X13_readPart : MC yX13_readPart cX13_readPart 4 (some .int) 3 := ⟨TT_i 1560 (by decide +kernel) rfl, TT_i 15 (by decide +kernel) rfl, by decide +kernel⟩
theorem im_X13_readPart : Cond.instanceMethod yX13_readPart ∈ TT := TT_i 1559 (by decide +kernel) rfl
theorem se_X13_readPart : Cond.selects (cR 11) yX13_readPart yX13_readPart ∈ TT := TT_sel (q := (yX13_readPart, 40)) 63 (by decide +kernel)
theorem kc_X13_232 : Cond.constantLong RX13 232 31 ∈ TT := TT_i 1604 (by decide +kernel) rfl
theorem fl_X13_234 : FL RX13 234 10 11 := ⟨by decide, by decide, Or.inr ⟨"TuneGatesModel", NW_i 1425 (by decide +kernel) rfl⟩⟩
theorem fl_X13_237 : FL RX13 237 10 10 := ⟨by decide, by decide, Or.inr ⟨"TuneGatesModel", NW_i 1423 (by decide +kernel) rfl⟩⟩
theorem fl_X13_239 : FL RX13 239 10 1 := ⟨by decide, by decide, Or.inr ⟨"TuneGatesModel", NW_i 1412 (by decide +kernel) rfl⟩⟩
theorem ml_X13_242 : Cond.methodLink RX13 242 yX13_lineBegins ∈ TT := TT_i 1577 (by decide +kernel) rfl
theorem mc_X13_lineBegins : MC yX13_lineBegins cX13_lineBegins 3 none 2 := ⟨TT_i 1580 (by decide +kernel) rfl, TT_i 15 (by decide +kernel) rfl, by decide +kernel⟩
theorem im_X13_lineBegins : Cond.instanceMethod yX13_lineBegins ∈ TT := TT_i 1579 (by decide +kernel) rfl
theorem se_X13_lineBegins : Cond.selects (cR 11) yX13_lineBegins yX13_lineBegins ∈ TT := TT_sel (q := (yX13_lineBegins, 40)) 67 (by decide +kernel)
theorem ml_X13_246 : Cond.methodLink RX13 246 yX13_readFresh ∈ TT := TT_i 1581 (by decide +kernel) rfl
theorem mc_X13_readFresh : MC yX13_readFresh cX13_readFresh 3 (some .long) 0 := ⟨TT_i 1584 (by decide +kernel) rfl, TT_i 15 (by decide +kernel) rfl, by decide +kernel⟩
theorem im_X13_readFresh : Cond.instanceMethod yX13_readFresh ∈ TT := TT_i 1583 (by decide +kernel) rfl
theorem se_X13_readFresh : Cond.selects (cR 11) yX13_readFresh yX13_readFresh ∈ TT := TT_sel (q := (yX13_readFresh, 40)) 68 (by decide +kernel)
theorem ml_X13_253 : Cond.methodLink RX13 253 yX13_names ∈ TT := TT_i 1605 (by decide +kernel) rfl
theorem mc_X13_names : MC yX13_names cX13_names 5 none 3 := ⟨TT_i 1608 (by decide +kernel) rfl, TT_i 15 (by decide +kernel) rfl, by decide +kernel⟩
theorem im_X13_names : Cond.instanceMethod yX13_names ∈ TT := TT_i 1607 (by decide +kernel) rfl
theorem se_X13_names : Cond.selects (cR 11) yX13_names yX13_names ∈ TT := TT_sel (q := (yX13_names, 40)) 71 (by decide +kernel)
theorem ml_X13_250 : Cond.methodLink RX13 250 yX13_areNotes ∈ TT := TT_i 1600 (by decide +kernel) rfl
theorem mc_X13_areNotes : MC yX13_areNotes cX13_areNotes 6 (some .boolean) 1 := ⟨TT_i 1603 (by decide +kernel) rfl, TT_i 15 (by decide +kernel) rfl, by decide +kernel⟩
theorem im_X13_areNotes : Cond.instanceMethod yX13_areNotes ∈ TT := TT_i 1602 (by decide +kernel) rfl
theorem se_X13_areNotes : Cond.selects (cR 11) yX13_areNotes yX13_areNotes ∈ TT := TT_sel (q := (yX13_areNotes, 40)) 70 (by decide +kernel)
theorem fl_X13_197 : FL RX13 197 10 2 := ⟨by decide, by decide, Or.inr ⟨"TuneGatesModel", NW_i 1413 (by decide +kernel) rfl⟩⟩
theorem fl_X13_256 : FL RX13 256 10 3 := ⟨by decide, by decide, Or.inr ⟨"TuneGatesModel", NW_i 1414 (by decide +kernel) rfl⟩⟩
theorem ml_X13_259 : Cond.methodLink RX13 259 yX13_readKnown ∈ TT := TT_i 1617 (by decide +kernel) rfl
theorem mc_X13_readKnown : MC yX13_readKnown cX13_readKnown 3 (some .int) 1 := ⟨TT_i 1620 (by decide +kernel) rfl, TT_i 15 (by decide +kernel) rfl, by decide +kernel⟩
theorem im_X13_readKnown : Cond.instanceMethod yX13_readKnown ∈ TT := TT_i 1619 (by decide +kernel) rfl
theorem se_X13_readKnown : Cond.selects (cR 11) yX13_readKnown yX13_readKnown ∈ TT := TT_sel (q := (yX13_readKnown, 40)) 74 (by decide +kernel)
theorem fl_X13_262 : FL RX13 262 10 12 := ⟨by decide, by decide, Or.inr ⟨"TuneGatesModel", NW_i 1427 (by decide +kernel) rfl⟩⟩
theorem fl_X13_266 : FL RX13 266 10 15 := ⟨by decide, by decide, Or.inr ⟨"TuneGatesModel", NW_i 1433 (by decide +kernel) rfl⟩⟩
theorem fl_X13_269 : FL RX13 269 10 16 := ⟨by decide, by decide, Or.inr ⟨"TuneGatesModel", NW_i 1435 (by decide +kernel) rfl⟩⟩
theorem fl_X13_272 : FL RX13 272 10 13 := ⟨by decide, by decide, Or.inr ⟨"TuneGatesModel", NW_i 1429 (by decide +kernel) rfl⟩⟩
theorem fl_X13_282 : FL RX13 282 10 14 := ⟨by decide, by decide, Or.inr ⟨"TuneGatesModel", NW_i 1431 (by decide +kernel) rfl⟩⟩
theorem fl_X13_284 : FL RX13 284 10 4 := ⟨by decide, by decide, Or.inr ⟨"TuneGatesModel", NW_i 1415 (by decide +kernel) rfl⟩⟩
theorem fl_X13_287 : FL RX13 287 10 5 := ⟨by decide, by decide, Or.inr ⟨"TuneGatesModel", NW_i 1416 (by decide +kernel) rfl⟩⟩
theorem fl_X13_296 : FL RX13 296 10 17 := ⟨by decide, by decide, Or.inr ⟨"TuneGatesModel", NW_i 1437 (by decide +kernel) rfl⟩⟩
theorem fl_X13_299 : FL RX13 299 10 18 := ⟨by decide, by decide, Or.inr ⟨"TuneGatesModel", NW_i 1439 (by decide +kernel) rfl⟩⟩
theorem fl_X13_302 : FL RX13 302 10 19 := ⟨by decide, by decide, Or.inr ⟨"TuneGatesModel", NW_i 1441 (by decide +kernel) rfl⟩⟩
theorem fl_X13_304 : FL RX13 304 10 20 := ⟨by decide, by decide, Or.inr ⟨"TuneGatesModel", NW_i 1443 (by decide +kernel) rfl⟩⟩
theorem fl_X13_306 : FL RX13 306 10 6 := ⟨by decide, by decide, Or.inr ⟨"TuneGatesModel", NW_i 1417 (by decide +kernel) rfl⟩⟩
theorem fl_X13_313 : FL RX13 313 10 21 := ⟨by decide, by decide, Or.inr ⟨"TuneGatesModel", NW_i 1445 (by decide +kernel) rfl⟩⟩
theorem fl_X13_315 : FL RX13 315 10 22 := ⟨by decide, by decide, Or.inr ⟨"TuneGatesModel", NW_i 1447 (by decide +kernel) rfl⟩⟩
theorem fl_X13_317 : FL RX13 317 10 7 := ⟨by decide, by decide, Or.inr ⟨"TuneGatesModel", NW_i 1418 (by decide +kernel) rfl⟩⟩
theorem fl_X13_320 : FL RX13 320 10 23 := ⟨by decide, by decide, Or.inr ⟨"TuneGatesModel", NW_i 1449 (by decide +kernel) rfl⟩⟩
theorem ml_X13_322 : Cond.methodLink RX13 322 yX13_bit ∈ TT := TT_i 1651 (by decide +kernel) rfl
theorem mc_X13_bit : MC yX13_bit cX13_bit 2 (some .boolean) 2 := ⟨TT_i 1653 (by decide +kernel) rfl, TT_i 15 (by decide +kernel) rfl, by decide +kernel⟩
theorem st_X13_bit : Cond.static yX13_bit ∈ TT := TT_i 1652 (by decide +kernel) rfl
theorem fl_X13_326 : FL RX13 326 10 8 := ⟨by decide, by decide, Or.inr ⟨"TuneGatesModel", NW_i 1419 (by decide +kernel) rfl⟩⟩
theorem fl_X13_328 : FL RX13 328 10 24 := ⟨by decide, by decide, Or.inr ⟨"TuneGatesModel", NW_i 1451 (by decide +kernel) rfl⟩⟩
theorem ml_X13_224 : Cond.methodLink RX13 224 yX13_readHeard ∈ TT := TT_i 1654 (by decide +kernel) rfl
theorem mc_X13_readHeard : MC yX13_readHeard cX13_readHeard 2 none 0 := ⟨TT_i 1657 (by decide +kernel) rfl, TT_i 15 (by decide +kernel) rfl, by decide +kernel⟩
theorem im_X13_readHeard : Cond.instanceMethod yX13_readHeard ∈ TT := TT_i 1656 (by decide +kernel) rfl
theorem se_X13_readHeard : Cond.selects (cR 11) yX13_readHeard yX13_readHeard ∈ TT := TT_sel (q := (yX13_readHeard, 40)) 80 (by decide +kernel)
theorem ml_X13_221 : Cond.methodLink RX13 221 yX13_readKnows ∈ TT := TT_i 1647 (by decide +kernel) rfl
theorem mc_X13_readKnows : MC yX13_readKnows cX13_readKnows 3 none 0 := ⟨TT_i 1650 (by decide +kernel) rfl, TT_i 15 (by decide +kernel) rfl, by decide +kernel⟩
theorem im_X13_readKnows : Cond.instanceMethod yX13_readKnows ∈ TT := TT_i 1649 (by decide +kernel) rfl
theorem se_X13_readKnows : Cond.selects (cR 11) yX13_readKnows yX13_readKnows ∈ TT := TT_sel (q := (yX13_readKnows, 40)) 79 (by decide +kernel)
theorem ml_X13_218 : Cond.methodLink RX13 218 yX13_readPerson ∈ TT := TT_i 1641 (by decide +kernel) rfl
theorem mc_X13_readPerson : MC yX13_readPerson cX13_readPerson 5 none 0 := ⟨TT_i 1644 (by decide +kernel) rfl, TT_i 15 (by decide +kernel) rfl, by decide +kernel⟩
theorem im_X13_readPerson : Cond.instanceMethod yX13_readPerson ∈ TT := TT_i 1643 (by decide +kernel) rfl
theorem se_X13_readPerson : Cond.selects (cR 11) yX13_readPerson yX13_readPerson ∈ TT := TT_sel (q := (yX13_readPerson, 40)) 78 (by decide +kernel)
theorem ml_X13_215 : Cond.methodLink RX13 215 yX13_readInn ∈ TT := TT_i 1634 (by decide +kernel) rfl
theorem mc_X13_readInn : MC yX13_readInn cX13_readInn 5 none 0 := ⟨TT_i 1637 (by decide +kernel) rfl, TT_i 15 (by decide +kernel) rfl, by decide +kernel⟩
theorem im_X13_readInn : Cond.instanceMethod yX13_readInn ∈ TT := TT_i 1636 (by decide +kernel) rfl
theorem se_X13_readInn : Cond.selects (cR 11) yX13_readInn yX13_readInn ∈ TT := TT_sel (q := (yX13_readInn, 40)) 77 (by decide +kernel)
theorem ml_X13_212 : Cond.methodLink RX13 212 yX13_readGate ∈ TT := TT_i 1626 (by decide +kernel) rfl
theorem mc_X13_readGate : MC yX13_readGate cX13_readGate 5 none 0 := ⟨TT_i 1629 (by decide +kernel) rfl, TT_i 15 (by decide +kernel) rfl, by decide +kernel⟩
theorem im_X13_readGate : Cond.instanceMethod yX13_readGate ∈ TT := TT_i 1628 (by decide +kernel) rfl
theorem se_X13_readGate : Cond.selects (cR 11) yX13_readGate yX13_readGate ∈ TT := TT_sel (q := (yX13_readGate, 40)) 76 (by decide +kernel)
theorem ml_X13_209 : Cond.methodLink RX13 209 yX13_readRoad ∈ TT := TT_i 1613 (by decide +kernel) rfl
theorem mc_X13_readRoad : MC yX13_readRoad cX13_readRoad 4 none 0 := ⟨TT_i 1616 (by decide +kernel) rfl, TT_i 15 (by decide +kernel) rfl, by decide +kernel⟩
theorem im_X13_readRoad : Cond.instanceMethod yX13_readRoad ∈ TT := TT_i 1615 (by decide +kernel) rfl
theorem se_X13_readRoad : Cond.selects (cR 11) yX13_readRoad yX13_readRoad ∈ TT := TT_sel (q := (yX13_readRoad, 40)) 73 (by decide +kernel)
theorem ml_X13_206 : Cond.methodLink RX13 206 yX13_readPlace ∈ TT := TT_i 1609 (by decide +kernel) rfl
theorem mc_X13_readPlace : MC yX13_readPlace cX13_readPlace 3 none 0 := ⟨TT_i 1612 (by decide +kernel) rfl, TT_i 15 (by decide +kernel) rfl, by decide +kernel⟩
theorem im_X13_readPlace : Cond.instanceMethod yX13_readPlace ∈ TT := TT_i 1611 (by decide +kernel) rfl
theorem se_X13_readPlace : Cond.selects (cR 11) yX13_readPlace yX13_readPlace ∈ TT := TT_sel (q := (yX13_readPlace, 40)) 72 (by decide +kernel)
theorem ml_X13_203 : Cond.methodLink RX13 203 yX13_readTune ∈ TT := TT_i 1573 (by decide +kernel) rfl
theorem mc_X13_readTune : MC yX13_readTune cX13_readTune 3 none 0 := ⟨TT_i 1576 (by decide +kernel) rfl, TT_i 15 (by decide +kernel) rfl, by decide +kernel⟩
theorem im_X13_readTune : Cond.instanceMethod yX13_readTune ∈ TT := TT_i 1575 (by decide +kernel) rfl
theorem se_X13_readTune : Cond.selects (cR 11) yX13_readTune yX13_readTune ∈ TT := TT_sel (q := (yX13_readTune, 40)) 66 (by decide +kernel)
theorem ml_X13_200 : Cond.methodLink RX13 200 yX13_readTurnpike ∈ TT := TT_i 1548 (by decide +kernel) rfl
theorem mc_X13_readTurnpike : MC yX13_readTurnpike cX13_readTurnpike 2 none 0 := ⟨TT_i 1551 (by decide +kernel) rfl, TT_i 15 (by decide +kernel) rfl, by decide +kernel⟩
theorem im_X13_readTurnpike : Cond.instanceMethod yX13_readTurnpike ∈ TT := TT_i 1550 (by decide +kernel) rfl
theorem se_X13_readTurnpike : Cond.selects (cR 11) yX13_readTurnpike yX13_readTurnpike ∈ TT := TT_sel (q := (yX13_readTurnpike, 40)) 61 (by decide +kernel)
theorem ml_X13_191 : Cond.methodLink RX13 191 yX13_readLine ∈ TT := TT_i 1534 (by decide +kernel) rfl
theorem mc_X13_readLine : MC yX13_readLine cX13_readLine 1 none 0 := ⟨TT_i 1537 (by decide +kernel) rfl, TT_i 15 (by decide +kernel) rfl, by decide +kernel⟩
theorem im_X13_readLine : Cond.instanceMethod yX13_readLine ∈ TT := TT_i 1536 (by decide +kernel) rfl
theorem se_X13_readLine : Cond.selects (cR 11) yX13_readLine yX13_readLine ∈ TT := TT_sel (q := (yX13_readLine, 40)) 59 (by decide +kernel)
theorem ml_X13_194 : Cond.methodLink RX13 194 yX13_eatsSemicolon ∈ TT := TT_i 1658 (by decide +kernel) rfl
theorem mc_X13_eatsSemicolon : MC yX13_eatsSemicolon cX13_eatsSemicolon 2 (some .boolean) 0 := ⟨TT_i 1661 (by decide +kernel) rfl, TT_i 15 (by decide +kernel) rfl, by decide +kernel⟩
theorem im_X13_eatsSemicolon : Cond.instanceMethod yX13_eatsSemicolon ∈ TT := TT_i 1660 (by decide +kernel) rfl
theorem se_X13_eatsSemicolon : Cond.selects (cR 11) yX13_eatsSemicolon yX13_eatsSemicolon ∈ TT := TT_sel (q := (yX13_eatsSemicolon, 40)) 81 (by decide +kernel)
theorem fl_X13_331 : FL RX13 331 11 6 := ⟨by decide, by decide, Or.inl (TT_i 1273 (by decide +kernel) rfl)⟩
theorem cl_X13_163 : Cond.classLink RX13 163 (cR 10) ∈ TT := TT_i 1404 (by decide +kernel) rfl
theorem ia_10 : Cond.instantiable (cR 10) (cN 10) ∈ TT := TT_i 1405 (by decide +kernel) rfl
theorem in_10 : Cond.initialized (cR 10) ∈ TT := TT_i 21 (by decide +kernel) rfl
theorem ml_X13_334 : Cond.methodLink RX13 334 yX12_init ∈ TT := TT_i 1406 (by decide +kernel) rfl
theorem mc_X12_init : MC yX12_init cX12_init 2 none 0 := ⟨TT_i 1408 (by decide +kernel) rfl, TT_i 21 (by decide +kernel) rfl, by decide +kernel⟩
theorem im_X12_init : Cond.instanceMethod yX12_init ∈ TT := TT_i 1407 (by decide +kernel) rfl
theorem ml_X13_335 : Cond.methodLink RX13 335 yX13_readAll ∈ TT := TT_i 1530 (by decide +kernel) rfl
theorem mc_X13_readAll : MC yX13_readAll cX13_readAll 2 none 0 := ⟨TT_i 1533 (by decide +kernel) rfl, TT_i 15 (by decide +kernel) rfl, by decide +kernel⟩
theorem im_X13_readAll : Cond.instanceMethod yX13_readAll ∈ TT := TT_i 1532 (by decide +kernel) rfl
theorem se_X13_readAll : Cond.selects (cR 11) yX13_readAll yX13_readAll ∈ TT := TT_sel (q := (yX13_readAll, 40)) 58 (by decide +kernel)
theorem fl_X13_338 : FL RX13 338 11 3 := ⟨by decide, by decide, Or.inl (TT_i 1270 (by decide +kernel) rfl)⟩
theorem fl_X13_341 : FL RX13 341 11 19 := ⟨by decide, by decide, Or.inl (TT_i 1286 (by decide +kernel) rfl)⟩
theorem fl_X13_344 : FL RX13 344 11 20 := ⟨by decide, by decide, Or.inl (TT_i 1287 (by decide +kernel) rfl)⟩
theorem ml_X13_347 : Cond.methodLink RX13 347 yX13_isPlace ∈ TT := TT_i 1706 (by decide +kernel) rfl
theorem mc_X13_isPlace : MC yX13_isPlace cX13_isPlace 2 (some .boolean) 1 := ⟨TT_i 1709 (by decide +kernel) rfl, TT_i 15 (by decide +kernel) rfl, by decide +kernel⟩
theorem im_X13_isPlace : Cond.instanceMethod yX13_isPlace ∈ TT := TT_i 1708 (by decide +kernel) rfl
theorem se_X13_isPlace : Cond.selects (cR 11) yX13_isPlace yX13_isPlace ∈ TT := TT_sel (q := (yX13_isPlace, 40)) 87 (by decide +kernel)
theorem ml_X13_350 : Cond.methodLink RX13 350 yX12_note ∈ TT := TT_i 1694 (by decide +kernel) rfl
theorem mc_X12_note : MC yX12_note cX12_note 3 (some .int) 2 := ⟨TT_i 1697 (by decide +kernel) rfl, TT_i 21 (by decide +kernel) rfl, by decide +kernel⟩
theorem im_X12_note : Cond.instanceMethod yX12_note ∈ TT := TT_i 1695 (by decide +kernel) rfl
theorem se_X12_note : Cond.selects (cR 10) yX12_note yX12_note ∈ TT := TT_i 1696 (by decide +kernel) rfl
theorem ml_X13_352 : Cond.methodLink RX13 352 yX13_of ∈ TT := TT_i 1710 (by decide +kernel) rfl
theorem mc_X13_of : MC yX13_of cX13_of 3 (some .int) 3 := ⟨TT_i 1712 (by decide +kernel) rfl, TT_i 15 (by decide +kernel) rfl, by decide +kernel⟩
theorem st_X13_of : Cond.static yX13_of ∈ TT := TT_i 1711 (by decide +kernel) rfl
theorem ml_X13_356 : Cond.methodLink RX13 356 yX13_sungBy ∈ TT := TT_i 1690 (by decide +kernel) rfl
theorem mc_X13_sungBy : MC yX13_sungBy cX13_sungBy 6 (some .int) 4 := ⟨TT_i 1693 (by decide +kernel) rfl, TT_i 15 (by decide +kernel) rfl, by decide +kernel⟩
theorem im_X13_sungBy : Cond.instanceMethod yX13_sungBy ∈ TT := TT_i 1692 (by decide +kernel) rfl
theorem se_X13_sungBy : Cond.selects (cR 11) yX13_sungBy yX13_sungBy ∈ TT := TT_sel (q := (yX13_sungBy, 40)) 85 (by decide +kernel)
theorem ml_X13_360 : Cond.methodLink RX13 360 yX13_liftsTo ∈ TT := TT_i 1737 (by decide +kernel) rfl
theorem mc_X13_liftsTo : MC yX13_liftsTo cX13_liftsTo 10 (some .boolean) 5 := ⟨TT_i 1740 (by decide +kernel) rfl, TT_i 15 (by decide +kernel) rfl, by decide +kernel⟩
theorem im_X13_liftsTo : Cond.instanceMethod yX13_liftsTo ∈ TT := TT_i 1739 (by decide +kernel) rfl
theorem se_X13_liftsTo : Cond.selects (cR 11) yX13_liftsTo yX13_liftsTo ∈ TT := TT_sel (q := (yX13_liftsTo, 40)) 90 (by decide +kernel)
theorem ml_X13_364 : Cond.methodLink RX13 364 yX13_isTune ∈ TT := TT_i 1678 (by decide +kernel) rfl
theorem mc_X13_isTune : MC yX13_isTune cX13_isTune 2 (some .boolean) 1 := ⟨TT_i 1681 (by decide +kernel) rfl, TT_i 15 (by decide +kernel) rfl, by decide +kernel⟩
theorem im_X13_isTune : Cond.instanceMethod yX13_isTune ∈ TT := TT_i 1680 (by decide +kernel) rfl
theorem se_X13_isTune : Cond.selects (cR 11) yX13_isTune yX13_isTune ∈ TT := TT_sel (q := (yX13_isTune, 40)) 83 (by decide +kernel)
theorem ml_X13_367 : Cond.methodLink RX13 367 yX13_rains ∈ TT := TT_i 1686 (by decide +kernel) rfl
theorem mc_X13_rains : MC yX13_rains cX13_rains 1 (some .boolean) 0 := ⟨TT_i 1689 (by decide +kernel) rfl, TT_i 15 (by decide +kernel) rfl, by decide +kernel⟩
theorem im_X13_rains : Cond.instanceMethod yX13_rains ∈ TT := TT_i 1688 (by decide +kernel) rfl
theorem se_X13_rains : Cond.selects (cR 11) yX13_rains yX13_rains ∈ TT := TT_sel (q := (yX13_rains, 40)) 84 (by decide +kernel)
theorem ml_X13_370 : Cond.methodLink RX13 370 yX13_areTwo ∈ TT := TT_i 1702 (by decide +kernel) rfl
theorem mc_X13_areTwo : MC yX13_areTwo cX13_areTwo 3 (some .boolean) 2 := ⟨TT_i 1705 (by decide +kernel) rfl, TT_i 15 (by decide +kernel) rfl, by decide +kernel⟩
theorem im_X13_areTwo : Cond.instanceMethod yX13_areTwo ∈ TT := TT_i 1704 (by decide +kernel) rfl
theorem se_X13_areTwo : Cond.selects (cR 11) yX13_areTwo yX13_areTwo ∈ TT := TT_sel (q := (yX13_areTwo, 40)) 86 (by decide +kernel)
theorem ml_X13_373 : Cond.methodLink RX13 373 yX13_isPerson ∈ TT := TT_i 1725 (by decide +kernel) rfl
theorem mc_X13_isPerson : MC yX13_isPerson cX13_isPerson 2 (some .boolean) 1 := ⟨TT_i 1728 (by decide +kernel) rfl, TT_i 15 (by decide +kernel) rfl, by decide +kernel⟩
theorem im_X13_isPerson : Cond.instanceMethod yX13_isPerson ∈ TT := TT_i 1727 (by decide +kernel) rfl
theorem se_X13_isPerson : Cond.selects (cR 11) yX13_isPerson yX13_isPerson ∈ TT := TT_sel (q := (yX13_isPerson, 40)) 88 (by decide +kernel)
theorem ml_X13_376 : Cond.methodLink RX13 376 yX13_isRoad ∈ TT := TT_i 1733 (by decide +kernel) rfl
theorem mc_X13_isRoad : MC yX13_isRoad cX13_isRoad 3 (some .boolean) 2 := ⟨TT_i 1736 (by decide +kernel) rfl, TT_i 15 (by decide +kernel) rfl, by decide +kernel⟩
theorem im_X13_isRoad : Cond.instanceMethod yX13_isRoad ∈ TT := TT_i 1735 (by decide +kernel) rfl
theorem se_X13_isRoad : Cond.selects (cR 11) yX13_isRoad yX13_isRoad ∈ TT := TT_sel (q := (yX13_isRoad, 40)) 89 (by decide +kernel)
theorem ml_X13_379 : Cond.methodLink RX13 379 yX13_passesBy ∈ TT := TT_i 1745 (by decide +kernel) rfl
theorem mc_X13_passesBy : MC yX13_passesBy cX13_passesBy 7 (some .boolean) 5 := ⟨TT_i 1748 (by decide +kernel) rfl, TT_i 15 (by decide +kernel) rfl, by decide +kernel⟩
theorem im_X13_passesBy : Cond.instanceMethod yX13_passesBy ∈ TT := TT_i 1747 (by decide +kernel) rfl
theorem se_X13_passesBy : Cond.selects (cR 11) yX13_passesBy yX13_passesBy ∈ TT := TT_sel (q := (yX13_passesBy, 40)) 91 (by decide +kernel)
theorem ml_X13_383 : Cond.methodLink RX13 383 yX13_alikeIn ∈ TT := TT_i 1757 (by decide +kernel) rfl
theorem mc_X13_alikeIn : MC yX13_alikeIn cX13_alikeIn 5 (some .int) 2 := ⟨TT_i 1760 (by decide +kernel) rfl, TT_i 15 (by decide +kernel) rfl, by decide +kernel⟩
theorem im_X13_alikeIn : Cond.instanceMethod yX13_alikeIn ∈ TT := TT_i 1759 (by decide +kernel) rfl
theorem se_X13_alikeIn : Cond.selects (cR 11) yX13_alikeIn yX13_alikeIn ∈ TT := TT_sel (q := (yX13_alikeIn, 40)) 92 (by decide +kernel)
theorem kc_X13_386 : Cond.constant RX13 386 99999 ∈ TT := TT_i 1773 (by decide +kernel) rfl
theorem ml_X13_387 : Cond.methodLink RX13 387 yX13_ways ∈ TT := TT_i 1769 (by decide +kernel) rfl
theorem mc_X13_ways : MC yX13_ways cX13_ways 10 none 3 := ⟨TT_i 1772 (by decide +kernel) rfl, TT_i 15 (by decide +kernel) rfl, by decide +kernel⟩
theorem im_X13_ways : Cond.instanceMethod yX13_ways ∈ TT := TT_i 1771 (by decide +kernel) rfl
theorem se_X13_ways : Cond.selects (cR 11) yX13_ways yX13_ways ∈ TT := TT_sel (q := (yX13_ways, 40)) 94 (by decide +kernel)
theorem ml_X13_391 : Cond.methodLink RX13 391 yX13_farTo ∈ TT := TT_i 1774 (by decide +kernel) rfl
theorem mc_X13_farTo : MC yX13_farTo cX13_farTo 3 (some .int) 2 := ⟨TT_i 1777 (by decide +kernel) rfl, TT_i 15 (by decide +kernel) rfl, by decide +kernel⟩
theorem im_X13_farTo : Cond.instanceMethod yX13_farTo ∈ TT := TT_i 1776 (by decide +kernel) rfl
theorem se_X13_farTo : Cond.selects (cR 11) yX13_farTo yX13_farTo ∈ TT := TT_sel (q := (yX13_farTo, 40)) 95 (by decide +kernel)
theorem ml_X13_394 : Cond.methodLink RX13 394 yX13_waysOf ∈ TT := TT_i 1765 (by decide +kernel) rfl
theorem mc_X13_waysOf : MC yX13_waysOf cX13_waysOf 2 none 1 := ⟨TT_i 1768 (by decide +kernel) rfl, TT_i 15 (by decide +kernel) rfl, by decide +kernel⟩
theorem im_X13_waysOf : Cond.instanceMethod yX13_waysOf ∈ TT := TT_i 1767 (by decide +kernel) rfl
theorem se_X13_waysOf : Cond.selects (cR 11) yX13_waysOf yX13_waysOf ∈ TT := TT_sel (q := (yX13_waysOf, 40)) 93 (by decide +kernel)
theorem ml_X13_397 : Cond.methodLink RX13 397 yX13_reached ∈ TT := TT_i 1786 (by decide +kernel) rfl
theorem mc_X13_reached : MC yX13_reached cX13_reached 4 (some .int) 1 := ⟨TT_i 1789 (by decide +kernel) rfl, TT_i 15 (by decide +kernel) rfl, by decide +kernel⟩
theorem im_X13_reached : Cond.instanceMethod yX13_reached ∈ TT := TT_i 1788 (by decide +kernel) rfl
theorem se_X13_reached : Cond.selects (cR 11) yX13_reached yX13_reached ∈ TT := TT_sel (q := (yX13_reached, 40)) 96 (by decide +kernel)
theorem ml_X13_400 : Cond.methodLink RX13 400 yX13_bits ∈ TT := TT_i 1798 (by decide +kernel) rfl
theorem mc_X13_bits : MC yX13_bits cX13_bits 3 (some .int) 1 := ⟨TT_i 1800 (by decide +kernel) rfl, TT_i 15 (by decide +kernel) rfl, by decide +kernel⟩
theorem st_X13_bits : Cond.static yX13_bits ∈ TT := TT_i 1799 (by decide +kernel) rfl
theorem fl_X13_403 : FL RX13 403 11 22 := ⟨by decide, by decide, Or.inl (TT_i 1289 (by decide +kernel) rfl)⟩
theorem fl_X13_406 : FL RX13 406 11 23 := ⟨by decide, by decide, Or.inl (TT_i 1290 (by decide +kernel) rfl)⟩
theorem fl_X13_409 : FL RX13 409 11 24 := ⟨by decide, by decide, Or.inl (TT_i 1291 (by decide +kernel) rfl)⟩
theorem ml_X13_412 : Cond.methodLink RX13 412 yX13_costOf ∈ TT := TT_i 1809 (by decide +kernel) rfl
theorem mc_X13_costOf : MC yX13_costOf cX13_costOf 4 (some .int) 1 := ⟨TT_i 1812 (by decide +kernel) rfl, TT_i 15 (by decide +kernel) rfl, by decide +kernel⟩
theorem im_X13_costOf : Cond.instanceMethod yX13_costOf ∈ TT := TT_i 1811 (by decide +kernel) rfl
theorem se_X13_costOf : Cond.selects (cR 11) yX13_costOf yX13_costOf ∈ TT := TT_sel (q := (yX13_costOf, 40)) 98 (by decide +kernel)
theorem ml_X13_415 : Cond.methodLink RX13 415 yX13_buysAll ∈ TT := TT_i 1813 (by decide +kernel) rfl
theorem mc_X13_buysAll : MC yX13_buysAll cX13_buysAll 5 none 2 := ⟨TT_i 1816 (by decide +kernel) rfl, TT_i 15 (by decide +kernel) rfl, by decide +kernel⟩
theorem im_X13_buysAll : Cond.instanceMethod yX13_buysAll ∈ TT := TT_i 1815 (by decide +kernel) rfl
theorem se_X13_buysAll : Cond.selects (cR 11) yX13_buysAll yX13_buysAll ∈ TT := TT_sel (q := (yX13_buysAll, 40)) 99 (by decide +kernel)
theorem ml_X13_418 : Cond.methodLink RX13 418 yX13_tripOf ∈ TT := TT_i 1805 (by decide +kernel) rfl
theorem mc_X13_tripOf : MC yX13_tripOf cX13_tripOf 6 (some .int) 2 := ⟨TT_i 1808 (by decide +kernel) rfl, TT_i 15 (by decide +kernel) rfl, by decide +kernel⟩
theorem im_X13_tripOf : Cond.instanceMethod yX13_tripOf ∈ TT := TT_i 1807 (by decide +kernel) rfl
theorem se_X13_tripOf : Cond.selects (cR 11) yX13_tripOf yX13_tripOf ∈ TT := TT_sel (q := (yX13_tripOf, 40)) 97 (by decide +kernel)
theorem ml_X13_421 : Cond.methodLink RX13 421 yX13_endsLike ∈ TT := TT_i 1857 (by decide +kernel) rfl
theorem mc_X13_endsLike : MC yX13_endsLike cX13_endsLike 5 (some .boolean) 3 := ⟨TT_i 1860 (by decide +kernel) rfl, TT_i 15 (by decide +kernel) rfl, by decide +kernel⟩
theorem im_X13_endsLike : Cond.instanceMethod yX13_endsLike ∈ TT := TT_i 1859 (by decide +kernel) rfl
theorem se_X13_endsLike : Cond.selects (cR 11) yX13_endsLike yX13_endsLike ∈ TT := TT_sel (q := (yX13_endsLike, 40)) 106 (by decide +kernel)
theorem fl_X13_424 : FL RX13 424 11 31 := ⟨by decide, by decide, Or.inl (TT_i 1298 (by decide +kernel) rfl)⟩
theorem ml_X13_427 : Cond.methodLink RX13 427 yX13_standsIn ∈ TT := TT_i 1845 (by decide +kernel) rfl
theorem mc_X13_standsIn : MC yX13_standsIn cX13_standsIn 6 (some .boolean) 2 := ⟨TT_i 1848 (by decide +kernel) rfl, TT_i 15 (by decide +kernel) rfl, by decide +kernel⟩
theorem im_X13_standsIn : Cond.instanceMethod yX13_standsIn ∈ TT := TT_i 1847 (by decide +kernel) rfl
theorem se_X13_standsIn : Cond.selects (cR 11) yX13_standsIn yX13_standsIn ∈ TT := TT_sel (q := (yX13_standsIn, 40)) 103 (by decide +kernel)
theorem fl_X13_430 : FL RX13 430 11 29 := ⟨by decide, by decide, Or.inl (TT_i 1296 (by decide +kernel) rfl)⟩
theorem ml_X13_433 : Cond.methodLink RX13 433 yX13_overlapOf ∈ TT := TT_i 1853 (by decide +kernel) rfl
theorem mc_X13_overlapOf : MC yX13_overlapOf cX13_overlapOf 4 (some .int) 2 := ⟨TT_i 1856 (by decide +kernel) rfl, TT_i 15 (by decide +kernel) rfl, by decide +kernel⟩
theorem im_X13_overlapOf : Cond.instanceMethod yX13_overlapOf ∈ TT := TT_i 1855 (by decide +kernel) rfl
theorem se_X13_overlapOf : Cond.selects (cR 11) yX13_overlapOf yX13_overlapOf ∈ TT := TT_sel (q := (yX13_overlapOf, 40)) 105 (by decide +kernel)
theorem fl_X13_436 : FL RX13 436 11 30 := ⟨by decide, by decide, Or.inl (TT_i 1297 (by decide +kernel) rfl)⟩
theorem ml_X13_439 : Cond.methodLink RX13 439 yX13_swaps ∈ TT := TT_i 1869 (by decide +kernel) rfl
theorem mc_X13_swaps : MC yX13_swaps cX13_swaps 4 none 2 := ⟨TT_i 1872 (by decide +kernel) rfl, TT_i 15 (by decide +kernel) rfl, by decide +kernel⟩
theorem im_X13_swaps : Cond.instanceMethod yX13_swaps ∈ TT := TT_i 1871 (by decide +kernel) rfl
theorem se_X13_swaps : Cond.selects (cR 11) yX13_swaps yX13_swaps ∈ TT := TT_sel (q := (yX13_swaps, 40)) 109 (by decide +kernel)
theorem ml_X13_442 : Cond.methodLink RX13 442 yX13_leaves ∈ TT := TT_i 1841 (by decide +kernel) rfl
theorem mc_X13_leaves : MC yX13_leaves cX13_leaves 5 none 1 := ⟨TT_i 1844 (by decide +kernel) rfl, TT_i 15 (by decide +kernel) rfl, by decide +kernel⟩
theorem im_X13_leaves : Cond.instanceMethod yX13_leaves ∈ TT := TT_i 1843 (by decide +kernel) rfl
theorem se_X13_leaves : Cond.selects (cR 11) yX13_leaves yX13_leaves ∈ TT := TT_sel (q := (yX13_leaves, 40)) 102 (by decide +kernel)
theorem ml_X13_445 : Cond.methodLink RX13 445 yX13_laysSong ∈ TT := TT_i 1849 (by decide +kernel) rfl
theorem mc_X13_laysSong : MC yX13_laysSong cX13_laysSong 5 none 0 := ⟨TT_i 1852 (by decide +kernel) rfl, TT_i 15 (by decide +kernel) rfl, by decide +kernel⟩
theorem im_X13_laysSong : Cond.instanceMethod yX13_laysSong ∈ TT := TT_i 1851 (by decide +kernel) rfl
theorem se_X13_laysSong : Cond.selects (cR 11) yX13_laysSong yX13_laysSong ∈ TT := TT_sel (q := (yX13_laysSong, 40)) 104 (by decide +kernel)
theorem ml_X13_448 : Cond.methodLink RX13 448 yX13_isBetter ∈ TT := TT_i 1861 (by decide +kernel) rfl
theorem mc_X13_isBetter : MC yX13_isBetter cX13_isBetter 2 (some .boolean) 0 := ⟨TT_i 1864 (by decide +kernel) rfl, TT_i 15 (by decide +kernel) rfl, by decide +kernel⟩
theorem im_X13_isBetter : Cond.instanceMethod yX13_isBetter ∈ TT := TT_i 1863 (by decide +kernel) rfl
theorem se_X13_isBetter : Cond.selects (cR 11) yX13_isBetter yX13_isBetter ∈ TT := TT_sel (q := (yX13_isBetter, 40)) 107 (by decide +kernel)
theorem ml_X13_451 : Cond.methodLink RX13 451 yX13_nextOrder ∈ TT := TT_i 1865 (by decide +kernel) rfl
theorem mc_X13_nextOrder : MC yX13_nextOrder cX13_nextOrder 5 (some .boolean) 0 := ⟨TT_i 1868 (by decide +kernel) rfl, TT_i 15 (by decide +kernel) rfl, by decide +kernel⟩
theorem im_X13_nextOrder : Cond.instanceMethod yX13_nextOrder ∈ TT := TT_i 1867 (by decide +kernel) rfl
theorem se_X13_nextOrder : Cond.selects (cR 11) yX13_nextOrder yX13_nextOrder ∈ TT := TT_sel (q := (yX13_nextOrder, 40)) 108 (by decide +kernel)
theorem ml_X13_454 : Cond.methodLink RX13 454 yX13_areTunes ∈ TT := TT_i 1833 (by decide +kernel) rfl
theorem mc_X13_areTunes : MC yX13_areTunes cX13_areTunes 2 (some .boolean) 1 := ⟨TT_i 1836 (by decide +kernel) rfl, TT_i 15 (by decide +kernel) rfl, by decide +kernel⟩
theorem im_X13_areTunes : Cond.instanceMethod yX13_areTunes ∈ TT := TT_i 1835 (by decide +kernel) rfl
theorem se_X13_areTunes : Cond.selects (cR 11) yX13_areTunes yX13_areTunes ∈ TT := TT_sel (q := (yX13_areTunes, 40)) 100 (by decide +kernel)
theorem ml_X13_457 : Cond.methodLink RX13 457 yX13_songs ∈ TT := TT_i 1837 (by decide +kernel) rfl
theorem mc_X13_songs : MC yX13_songs cX13_songs 4 none 1 := ⟨TT_i 1840 (by decide +kernel) rfl, TT_i 15 (by decide +kernel) rfl, by decide +kernel⟩
theorem im_X13_songs : Cond.instanceMethod yX13_songs ∈ TT := TT_i 1839 (by decide +kernel) rfl
theorem se_X13_songs : Cond.selects (cR 11) yX13_songs yX13_songs ∈ TT := TT_sel (q := (yX13_songs, 40)) 101 (by decide +kernel)
theorem ml_X13_460 : Cond.methodLink RX13 460 yX13_areTwoTunes ∈ TT := TT_i 1881 (by decide +kernel) rfl
theorem mc_X13_areTwoTunes : MC yX13_areTwoTunes cX13_areTwoTunes 3 (some .boolean) 2 := ⟨TT_i 1884 (by decide +kernel) rfl, TT_i 15 (by decide +kernel) rfl, by decide +kernel⟩
theorem im_X13_areTwoTunes : Cond.instanceMethod yX13_areTwoTunes ∈ TT := TT_i 1883 (by decide +kernel) rfl
theorem se_X13_areTwoTunes : Cond.selects (cR 11) yX13_areTwoTunes yX13_areTwoTunes ∈ TT := TT_sel (q := (yX13_areTwoTunes, 40)) 110 (by decide +kernel)
theorem ml_X13_463 : Cond.methodLink RX13 463 yX13_goTogether ∈ TT := TT_i 1889 (by decide +kernel) rfl
theorem mc_X13_goTogether : MC yX13_goTogether cX13_goTogether 3 (some .boolean) 2 := ⟨TT_i 1892 (by decide +kernel) rfl, TT_i 15 (by decide +kernel) rfl, by decide +kernel⟩
theorem im_X13_goTogether : Cond.instanceMethod yX13_goTogether ∈ TT := TT_i 1891 (by decide +kernel) rfl
theorem se_X13_goTogether : Cond.selects (cR 11) yX13_goTogether yX13_goTogether ∈ TT := TT_sel (q := (yX13_goTogether, 40)) 111 (by decide +kernel)
theorem ml_X13_466 : Cond.methodLink RX13 466 yX13_lowest ∈ TT := TT_i 1901 (by decide +kernel) rfl
theorem mc_X13_lowest : MC yX13_lowest cX13_lowest 2 (some .int) 1 := ⟨TT_i 1903 (by decide +kernel) rfl, TT_i 15 (by decide +kernel) rfl, by decide +kernel⟩
theorem st_X13_lowest : Cond.static yX13_lowest ∈ TT := TT_i 1902 (by decide +kernel) rfl
theorem ml_X13_469 : Cond.methodLink RX13 469 yX13_pairsAll ∈ TT := TT_i 1897 (by decide +kernel) rfl
theorem mc_X13_pairsAll : MC yX13_pairsAll cX13_pairsAll 6 none 0 := ⟨TT_i 1900 (by decide +kernel) rfl, TT_i 15 (by decide +kernel) rfl, by decide +kernel⟩
theorem im_X13_pairsAll : Cond.instanceMethod yX13_pairsAll ∈ TT := TT_i 1899 (by decide +kernel) rfl
theorem se_X13_pairsAll : Cond.selects (cR 11) yX13_pairsAll yX13_pairsAll ∈ TT := TT_sel (q := (yX13_pairsAll, 40)) 112 (by decide +kernel)
theorem ml_X13_472 : Cond.methodLink RX13 472 yX13_isHeard ∈ TT := TT_i 1916 (by decide +kernel) rfl
theorem mc_X13_isHeard : MC yX13_isHeard cX13_isHeard 4 (some .boolean) 3 := ⟨TT_i 1919 (by decide +kernel) rfl, TT_i 15 (by decide +kernel) rfl, by decide +kernel⟩
theorem im_X13_isHeard : Cond.instanceMethod yX13_isHeard ∈ TT := TT_i 1918 (by decide +kernel) rfl
theorem se_X13_isHeard : Cond.selects (cR 11) yX13_isHeard yX13_isHeard ∈ TT := TT_sel (q := (yX13_isHeard, 40)) 114 (by decide +kernel)
theorem fl_X13_475 : FL RX13 475 11 35 := ⟨by decide, by decide, Or.inl (TT_i 1302 (by decide +kernel) rfl)⟩
theorem ml_X13_478 : Cond.methodLink RX13 478 yX13_strangers ∈ TT := TT_i 1912 (by decide +kernel) rfl
theorem mc_X13_strangers : MC yX13_strangers cX13_strangers 5 none 0 := ⟨TT_i 1915 (by decide +kernel) rfl, TT_i 15 (by decide +kernel) rfl, by decide +kernel⟩
theorem im_X13_strangers : Cond.instanceMethod yX13_strangers ∈ TT := TT_i 1914 (by decide +kernel) rfl
theorem se_X13_strangers : Cond.selects (cR 11) yX13_strangers yX13_strangers ∈ TT := TT_sel (q := (yX13_strangers, 40)) 113 (by decide +kernel)
theorem ml_X13_481 : Cond.methodLink RX13 481 yX13_rowsBy ∈ TT := TT_i 1932 (by decide +kernel) rfl
theorem mc_X13_rowsBy : MC yX13_rowsBy cX13_rowsBy 3 (some .int) 2 := ⟨TT_i 1935 (by decide +kernel) rfl, TT_i 15 (by decide +kernel) rfl, by decide +kernel⟩
theorem im_X13_rowsBy : Cond.instanceMethod yX13_rowsBy ∈ TT := TT_i 1934 (by decide +kernel) rfl
theorem se_X13_rowsBy : Cond.selects (cR 11) yX13_rowsBy yX13_rowsBy ∈ TT := TT_sel (q := (yX13_rowsBy, 40)) 117 (by decide +kernel)
theorem ml_X13_484 : Cond.methodLink RX13 484 yX13_isHearing ∈ TT := TT_i 1924 (by decide +kernel) rfl
theorem mc_X13_isHearing : MC yX13_isHearing cX13_isHearing 2 (some .boolean) 1 := ⟨TT_i 1927 (by decide +kernel) rfl, TT_i 15 (by decide +kernel) rfl, by decide +kernel⟩
theorem im_X13_isHearing : Cond.instanceMethod yX13_isHearing ∈ TT := TT_i 1926 (by decide +kernel) rfl
theorem se_X13_isHearing : Cond.selects (cR 11) yX13_isHearing yX13_isHearing ∈ TT := TT_sel (q := (yX13_isHearing, 40)) 115 (by decide +kernel)
theorem ml_X13_487 : Cond.methodLink RX13 487 yX13_couldBe ∈ TT := TT_i 1928 (by decide +kernel) rfl
theorem mc_X13_couldBe : MC yX13_couldBe cX13_couldBe 4 (some .int) 1 := ⟨TT_i 1931 (by decide +kernel) rfl, TT_i 15 (by decide +kernel) rfl, by decide +kernel⟩
theorem im_X13_couldBe : Cond.instanceMethod yX13_couldBe ∈ TT := TT_i 1930 (by decide +kernel) rfl
theorem se_X13_couldBe : Cond.selects (cR 11) yX13_couldBe yX13_couldBe ∈ TT := TT_sel (q := (yX13_couldBe, 40)) 116 (by decide +kernel)
theorem fl_X13_490 : FL RX13 490 11 36 := ⟨by decide, by decide, Or.inl (TT_i 1303 (by decide +kernel) rfl)⟩
theorem ml_X13_493 : Cond.methodLink RX13 493 yX13_toAsk ∈ TT := TT_i 1944 (by decide +kernel) rfl
theorem mc_X13_toAsk : MC yX13_toAsk cX13_toAsk 5 (some .int) 0 := ⟨TT_i 1947 (by decide +kernel) rfl, TT_i 15 (by decide +kernel) rfl, by decide +kernel⟩
theorem im_X13_toAsk : Cond.instanceMethod yX13_toAsk ∈ TT := TT_i 1946 (by decide +kernel) rfl
theorem se_X13_toAsk : Cond.selects (cR 11) yX13_toAsk yX13_toAsk ∈ TT := TT_sel (q := (yX13_toAsk, 40)) 118 (by decide +kernel)
theorem ml_X13_496 : Cond.methodLink RX13 496 yX13_refusesMany ∈ TT := TT_i 1960 (by decide +kernel) rfl
theorem mc_X13_refusesMany : MC yX13_refusesMany cX13_refusesMany 2 (some .int) 1 := ⟨TT_i 1963 (by decide +kernel) rfl, TT_i 15 (by decide +kernel) rfl, by decide +kernel⟩
theorem im_X13_refusesMany : Cond.instanceMethod yX13_refusesMany ∈ TT := TT_i 1962 (by decide +kernel) rfl
theorem se_X13_refusesMany : Cond.selects (cR 11) yX13_refusesMany yX13_refusesMany ∈ TT := TT_sel (q := (yX13_refusesMany, 40)) 119 (by decide +kernel)
theorem ml_X13_502 : Cond.methodLink RX13 502 yX13_gets ∈ TT := TT_i 1968 (by decide +kernel) rfl
theorem mc_X13_gets : MC yX13_gets cX13_gets 3 (some .int) 3 := ⟨TT_i 1970 (by decide +kernel) rfl, TT_i 15 (by decide +kernel) rfl, by decide +kernel⟩
theorem st_X13_gets : Cond.static yX13_gets ∈ TT := TT_i 1969 (by decide +kernel) rfl
theorem ml_X13_499 : Cond.methodLink RX13 499 yX13_lost ∈ TT := TT_i 1964 (by decide +kernel) rfl
theorem mc_X13_lost : MC yX13_lost cX13_lost 2 (some .int) 1 := ⟨TT_i 1967 (by decide +kernel) rfl, TT_i 15 (by decide +kernel) rfl, by decide +kernel⟩
theorem im_X13_lost : Cond.instanceMethod yX13_lost ∈ TT := TT_i 1966 (by decide +kernel) rfl
theorem se_X13_lost : Cond.selects (cR 11) yX13_lost yX13_lost ∈ TT := TT_sel (q := (yX13_lost, 40)) 120 (by decide +kernel)
theorem ml_X13_506 : Cond.methodLink RX13 506 yX13_isRest ∈ TT := TT_i 1975 (by decide +kernel) rfl
theorem mc_X13_isRest : MC yX13_isRest cX13_isRest 4 (some .boolean) 3 := ⟨TT_i 1977 (by decide +kernel) rfl, TT_i 15 (by decide +kernel) rfl, by decide +kernel⟩
theorem st_X13_isRest : Cond.static yX13_isRest ∈ TT := TT_i 1976 (by decide +kernel) rfl
theorem kc_X13_509 : Cond.constant RX13 509 65536 ∈ TT := TT_i 1990 (by decide +kernel) rfl
theorem kc_X13_510 : Cond.constantLong RX13 510 75 ∈ TT := TT_i 1998 (by decide +kernel) rfl
theorem kc_X13_512 : Cond.constantLong RX13 512 74 ∈ TT := TT_i 1999 (by decide +kernel) rfl
theorem kc_X13_514 : Cond.constantLong RX13 514 65537 ∈ TT := TT_i 2000 (by decide +kernel) rfl
theorem fl_X13_516 : FL RX13 516 11 37 := ⟨by decide, by decide, Or.inl (TT_i 1304 (by decide +kernel) rfl)⟩
theorem fl_X13_519 : FL RX13 519 11 38 := ⟨by decide, by decide, Or.inl (TT_i 1305 (by decide +kernel) rfl)⟩
theorem fl_X13_522 : FL RX13 522 11 39 := ⟨by decide, by decide, Or.inl (TT_i 1306 (by decide +kernel) rfl)⟩
theorem ml_X13_525 : Cond.methodLink RX13 525 yX13_drawn ∈ TT := TT_i 1995 (by decide +kernel) rfl
theorem mc_X13_drawn : MC yX13_drawn cX13_drawn 1 (some .int) 1 := ⟨TT_i 1997 (by decide +kernel) rfl, TT_i 15 (by decide +kernel) rfl, by decide +kernel⟩
theorem st_X13_drawn : Cond.static yX13_drawn ∈ TT := TT_i 1996 (by decide +kernel) rfl
theorem ml_X13_528 : Cond.methodLink RX13 528 yX13_refusesDays ∈ TT := TT_i 1986 (by decide +kernel) rfl
theorem mc_X13_refusesDays : MC yX13_refusesDays cX13_refusesDays 4 (some .int) 3 := ⟨TT_i 1989 (by decide +kernel) rfl, TT_i 15 (by decide +kernel) rfl, by decide +kernel⟩
theorem im_X13_refusesDays : Cond.instanceMethod yX13_refusesDays ∈ TT := TT_i 1988 (by decide +kernel) rfl
theorem se_X13_refusesDays : Cond.selects (cR 11) yX13_refusesDays yX13_refusesDays ∈ TT := TT_sel (q := (yX13_refusesDays, 40)) 121 (by decide +kernel)
theorem ml_X13_532 : Cond.methodLink RX13 532 yX13_roamsBy ∈ TT := TT_i 1991 (by decide +kernel) rfl
theorem mc_X13_roamsBy : MC yX13_roamsBy cX13_roamsBy 10 none 4 := ⟨TT_i 1994 (by decide +kernel) rfl, TT_i 15 (by decide +kernel) rfl, by decide +kernel⟩
theorem im_X13_roamsBy : Cond.instanceMethod yX13_roamsBy ∈ TT := TT_i 1993 (by decide +kernel) rfl
theorem se_X13_roamsBy : Cond.selects (cR 11) yX13_roamsBy yX13_roamsBy ∈ TT := TT_sel (q := (yX13_roamsBy, 40)) 122 (by decide +kernel)
theorem ml_X13_536 : Cond.methodLink RX13 536 yX13_remembers ∈ TT := TT_i 2013 (by decide +kernel) rfl
theorem mc_X13_remembers : MC yX13_remembers cX13_remembers 2 none 0 := ⟨TT_i 2016 (by decide +kernel) rfl, TT_i 15 (by decide +kernel) rfl, by decide +kernel⟩
theorem im_X13_remembers : Cond.instanceMethod yX13_remembers ∈ TT := TT_i 2015 (by decide +kernel) rfl
theorem se_X13_remembers : Cond.selects (cR 11) yX13_remembers yX13_remembers ∈ TT := TT_sel (q := (yX13_remembers, 40)) 123 (by decide +kernel)
theorem ml_X13_539 : Cond.methodLink RX13 539 yX13_denied ∈ TT := TT_i 2025 (by decide +kernel) rfl
theorem mc_X13_denied : MC yX13_denied cX13_denied 2 (some .boolean) 1 := ⟨TT_i 2028 (by decide +kernel) rfl, TT_i 15 (by decide +kernel) rfl, by decide +kernel⟩
theorem im_X13_denied : Cond.instanceMethod yX13_denied ∈ TT := TT_i 2027 (by decide +kernel) rfl
theorem se_X13_denied : Cond.selects (cR 11) yX13_denied yX13_denied ∈ TT := TT_sel (q := (yX13_denied, 40)) 124 (by decide +kernel)
theorem ml_X13_542 : Cond.methodLink RX13 542 yX13_granted ∈ TT := TT_i 2029 (by decide +kernel) rfl
theorem mc_X13_granted : MC yX13_granted cX13_granted 1 (some .boolean) 0 := ⟨TT_i 2032 (by decide +kernel) rfl, TT_i 15 (by decide +kernel) rfl, by decide +kernel⟩
theorem im_X13_granted : Cond.instanceMethod yX13_granted ∈ TT := TT_i 2031 (by decide +kernel) rfl
theorem se_X13_granted : Cond.selects (cR 11) yX13_granted yX13_granted ∈ TT := TT_sel (q := (yX13_granted, 40)) 125 (by decide +kernel)
