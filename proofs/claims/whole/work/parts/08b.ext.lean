section AWX
variable {G : GE} {X : CX} {cc : ByteArray} {own : String} {pc : Nat} {lv : List (Nat × AV)} {st : List AV} {h : Mem} {ce sl : Nat}
theorem aw_ldcs (hX : Ok G X cc own) {idx k : Nat} {tx : String} (hm : (own, idx, tx, k) ∈ strR) (d : decode cc pc = .ok (.ldc idx, 2)) (kk : AW G X (pc + 2) lv (vX k :: st) h ce sl) : AW G X pc lv st h ce sl :=
  fun H locs ls hR hS hl => va_ldcS hX.1 hX.2.1 hX.2.2.2.1 (hX.2.2.2.2.2.1.2.2.2.1 _ hm) d (kk H locs ls hR hS hl)
theorem aw_ldcsw (hX : Ok G X cc own) {idx k : Nat} {tx : String} (hm : (own, idx, tx, k) ∈ strR) (d : decode cc pc = .ok (.ldc_w idx, 3)) (kk : AW G X (pc + 3) lv (vX k :: st) h ce sl) : AW G X pc lv st h ce sl := by
  intro H locs ls hR hS hl
  have hZ := hX.2.2.2.2.2.1.2.2.2.1 _ hm
  intro T hT X9
  obtain ⟨t, a1, b1⟩ := kk H locs ls hR hS hl T hT X9
  exact ⟨t, Stand.ldcStringW X9 hX.1 hX.2.2.2.1 (text := tx) (a := gX G k) hZ.1 hZ.2 (g := F0 (xm X) pc ls (st.map (tv G))) rfl (by rw [hX.2.1]; exact d) t a1, b1⟩
theorem aw_sget (hX : Ok G X cc own) {C n ds : String} {idx : Nat} (v : AV) (hZ : va_Z C n ds (tv G v) (gA G) (xs X) (xs X).heap) (hw : Cond.fieldLink own idx C n ds ∈ TT) (d : decode cc pc = .ok (.getstatic idx, 3)) (kk : AW G X (pc + 3) lv (v :: st) h ce sl) : AW G X pc lv st h ce sl :=
  fun H locs ls hR hS hl => va_gets hX.1 hX.2.1 hZ hS hX.2.2.2.1 (hX.2.2.2.2.1 _ hw) (fun _ h9 => h9) d (kk H locs ls hR hS hl)
theorem aw_xget (hX : Ok G X cc own) {C n ds : String} {idx k : Nat} (v : AV) (hE : va_OF C n ds (tv G v) (gX G k) (gA G) (xs X) (xs X).heap) (hw : Cond.fieldLink own idx C n ds ∈ TT) (d : decode cc pc = .ok (.getfield idx, 3)) (kk : AW G X (pc + 3) lv (v :: st) h ce sl) : AW G X pc lv (vX k :: st) h ce sl :=
  fun H locs ls hR hS hl => vk_getf hX.1 hX.2.1 hE hS hX.2.2.2.1 (hX.2.2.2.2.1 _ hw) (fun _ h9 => h9) d (kk H locs ls hR hS hl)
theorem aw_xlen (hX : Ok G X cc own) {k N : Nat} {ty : FieldType} {f : Nat → Value} (hT : va_T ty (gX G k) N f (gA G) (xs X) (xs X).heap) (d : decode cc pc = .ok (.arraylength, 1)) (kk : AW G X (pc + 1) lv (vI (Int32.ofNat N) :: st) h ce sl) : AW G X pc lv (vX k :: st) h ce sl :=
  fun H locs ls hR hS hl => va_tlen hX.1 hX.2.1 hT hS rfl d (kk H locs ls hR hS hl)
theorem aw_xba (hX : Ok G X cc own) {k N : Nat} {f : Nat → Int32} {i : Int32} (hT : va_T .byte (gX G k) N (fun j => .int (f j)) (gA G) (xs X) (xs X).heap) (hin : vp_in i N) (d : decode cc pc = .ok (.baload, 1)) (kk : AW G X (pc + 1) lv (vI (f i.toNatClampNeg) :: st) h ce sl) : AW G X pc lv (vI i :: vX k :: st) h ce sl :=
  fun H locs ls hR hS hl => va_tb hX.1 hX.2.1 hT hS hin rfl d (kk H locs ls hR hS hl)
theorem aw_nret {l : Launch} {y : MethodName} {rm : Room} {post : Option AV → Mem → Prop} {v : Int32} {ty : FieldType} (hX : Ok G X cc own) (hr : Rt G X l y (some ty) rm post) (hc : ce ≤ rm.cells) (hs : sl ≤ rm.slots) (hn : narrow ty (.int v) = .int v) (d : decode cc pc = .ok (.ireturn, 1)) (hp : post (some (vI v)) h) : AW G X pc lv [vI v] h ce sl := by
  intro H locs ls hR hS hl
  rw [hr.1]
  exact W.widen hc hs (W.zret hX.1 hX.2.1 hr.2.2.2.2 hn (fun t ht hW => ⟨⟨some (vI v), h, rfl, hp, by rw [ht]; exact hR⟩, hS.F ht⟩) hS.2.2 d hX.2.2.2.2.2.2.1)
theorem aw_i2c (hX : Ok G X cc own) {x : Int32} (d : decode cc pc = .ok (.i2c, 1)) (k : AW G X (pc + 1) lv (vI (x.toUInt32 % 65536).toInt32 :: st) h ce sl) : AW G X pc lv (vI x :: st) h ce sl := fun H locs ls hR hS hl => lv_i2c hX.1 hX.2.1 d rfl (k H locs ls hR hS hl)
theorem aw_callVX (hX : Ok G X cc own) {y : MethodName} {cd : ByteArray} {mxl idx n k : Nat} {rt : Option FieldType} {rm : Room} {post : Option AV → Mem → Prop} (avs : List AV) (hM : Con (xl X) G y cd mxl rt rm (vX k :: avs) h post) (mc : MC y cd mxl rt n) (hw : Cond.methodLink own idx y ∈ TT) (hw2 : Cond.instanceMethod y ∈ TT) (hw3 : Cond.selects "java/lang/String" y y ∈ TT) (hk20 : k < 20) (hn : avs.length = n) (hR9 : Rm X rm mxl ce sl) (hst : (st.map ac).sum ≤ 8) {stk : List AV} (hk : stk = avs.reverse ++ vX k :: st) (d : decode cc pc = .ok (.invokevirtual idx, 3))
    (kk : ∀ r h', post r h' → AW G X (pc + 3) lv (r.toList ++ st) h' (ce + rm.cells) (sl + rm.slots)) : AW G X pc lv stk h ce sl := by
  intro H locs ls hR hS hl
  subst hk
  rw [stk_e, List.map_cons]
  exact aw_run hS hl (va_runV (As := avs.map (tv G)) (nL := xn X) (C := "java/lang/String") (b := gX G k) ⟨hX.1, hX.2.1, hX.2.2.1, hX.2.2.2.1, hX.2.2.2.2.1⟩ hM ⟨mc.b hX hw hR9, hX.2.2.2.2.1 _ hw2, hX.2.2.2.2.1 _ hw3⟩ ⟨PP_blind G _ h, vk_recv hX.2.2.2.2.2.1.2.2.1 hk20 hS, fun U hU hW => PP_of hX hR hS (vX k :: avs) U hU hW⟩ rfl (by rw [List.length_map]; exact hn) hl.1 rfl (lv_room (by rw [acs]; exact hst)) d hR9.2) kk
/-! Math.min, Math.max -/
def mMax (x y : Int32) : Int32 := if x < y then y else x
def mMin (x y : Int32) : Int32 := if y < x then y else x
theorem mmw : (Cond.static Lib.Math.max.name ∈ TT ∧ Cond.code Lib.Math.max.name Lib.Math.max.code 2 (some .int) ∈ TT) ∧ (Cond.static Lib.Math.min.name ∈ TT ∧ Cond.code Lib.Math.min.name Lib.Math.min.code 2 (some .int) ∈ TT) ∧ Cond.initialized "java/lang/Math" ∈ TT := ⟨⟨TT_i 668 (by decide +kernel) rfl, TT_i 669 (by decide +kernel) rfl⟩, ⟨TT_i 489 (by decide +kernel) rfl, TT_i 490 (by decide +kernel) rfl⟩, TT_i 17 (by decide +kernel) rfl⟩
theorem aw_mmax (hX : Ok G X cc own) {idx : Nat} {x y : Int32} (hw : Cond.methodLink own idx Lib.Math.max.name ∈ TT) (hst : (st.map ac).sum ≤ 8) (hf : 1 ≤ (xr X).frames) (hlo : 21 ≤ (xr X).locals) (hc : ce ≤ (xr X).cells) (hs : sl ≤ (xr X).slots) (d : decode cc pc = .ok (.invokestatic idx, 3)) (kk : AW G X (pc + 3) lv (vI (mMax x y) :: st) h ce sl) : AW G X pc lv (vI y :: vI x :: st) h ce sl :=
  fun H locs ls hR hS hl => va_mmax hX.1 hX.2.1 (hX.2.2.1.trans hl.1.symm) hX.2.2.2.1 (hX.2.2.2.2.1 _ hw) (hX.2.2.2.2.1 _ mmw.1.1) (hX.2.2.2.2.1 _ mmw.2.2) (hX.2.2.2.2.1 _ mmw.1.2) hf (by rw [acs]; omega) hc hs d (kk H locs ls hR hS hl)
theorem aw_mmin (hX : Ok G X cc own) {idx : Nat} {x y : Int32} (hw : Cond.methodLink own idx Lib.Math.min.name ∈ TT) (hst : (st.map ac).sum ≤ 8) (hf : 1 ≤ (xr X).frames) (hlo : 21 ≤ (xr X).locals) (hc : ce ≤ (xr X).cells) (hs : sl ≤ (xr X).slots) (d : decode cc pc = .ok (.invokestatic idx, 3)) (kk : AW G X (pc + 3) lv (vI (mMin x y) :: st) h ce sl) : AW G X pc lv (vI y :: vI x :: st) h ce sl :=
  fun H locs ls hR hS hl => va_mmin hX.1 hX.2.1 (hX.2.2.1.trans hl.1.symm) hX.2.2.2.1 (hX.2.2.2.2.1 _ hw) (hX.2.2.2.2.1 _ mmw.2.1.1) (hX.2.2.2.2.1 _ mmw.2.2) (hX.2.2.2.2.1 _ mmw.2.1.2) hf (by rw [acs]; omega) hc hs d (kk H locs ls hR hS hl)
end AWX
theorem dJ0_length_8abf5_0 : decode cJ0_length_8abf5 0 = .ok (.aload_n 0, 1) := by decide +kernel
theorem dJ0_length_8abf5_1 : decode cJ0_length_8abf5 1 = .ok (.getfield 9, 3) := by decide +kernel
theorem dJ0_length_8abf5_4 : decode cJ0_length_8abf5 4 = .ok (.arraylength, 1) := by decide +kernel
theorem dJ0_length_8abf5_5 : decode cJ0_length_8abf5 5 = .ok (.aload_n 0, 1) := by decide +kernel
theorem dJ0_length_8abf5_6 : decode cJ0_length_8abf5 6 = .ok (.invokevirtual 335, 3) := by decide +kernel
theorem dJ0_length_8abf5_9 : decode cJ0_length_8abf5 9 = .ok (.ishr, 1) := by decide +kernel
theorem dJ0_length_8abf5_10 : decode cJ0_length_8abf5 10 = .ok (.ireturn, 1) := by decide +kernel
theorem dJ0_coder_7d493_0 : decode cJ0_coder_7d493 0 = .ok (.getstatic 38, 3) := by decide +kernel
theorem dJ0_coder_7d493_3 : decode cJ0_coder_7d493 3 = .ok (.ifCond .eq 10, 3) := by decide +kernel
theorem dJ0_coder_7d493_6 : decode cJ0_coder_7d493 6 = .ok (.aload_n 0, 1) := by decide +kernel
theorem dJ0_coder_7d493_7 : decode cJ0_coder_7d493 7 = .ok (.getfield 15, 3) := by decide +kernel
theorem dJ0_coder_7d493_10 : decode cJ0_coder_7d493 10 = .ok (.goto 4, 3) := by decide +kernel
theorem dJ0_coder_7d493_13 : decode cJ0_coder_7d493 13 = .ok (.iconst 1, 1) := by decide +kernel
theorem dJ0_coder_7d493_14 : decode cJ0_coder_7d493 14 = .ok (.ireturn, 1) := by decide +kernel
theorem dJ0_isLatin1_aae02_0 : decode cJ0_isLatin1_aae02 0 = .ok (.getstatic 38, 3) := by decide +kernel
theorem dJ0_isLatin1_aae02_3 : decode cJ0_isLatin1_aae02 3 = .ok (.ifCond .eq 14, 3) := by decide +kernel
theorem dJ0_isLatin1_aae02_6 : decode cJ0_isLatin1_aae02 6 = .ok (.aload_n 0, 1) := by decide +kernel
theorem dJ0_isLatin1_aae02_7 : decode cJ0_isLatin1_aae02 7 = .ok (.getfield 15, 3) := by decide +kernel
theorem dJ0_isLatin1_aae02_10 : decode cJ0_isLatin1_aae02 10 = .ok (.ifCond .ne 7, 3) := by decide +kernel
theorem dJ0_isLatin1_aae02_13 : decode cJ0_isLatin1_aae02 13 = .ok (.iconst 1, 1) := by decide +kernel
theorem dJ0_isLatin1_aae02_14 : decode cJ0_isLatin1_aae02 14 = .ok (.goto 4, 3) := by decide +kernel
theorem dJ0_isLatin1_aae02_17 : decode cJ0_isLatin1_aae02 17 = .ok (.iconst 0, 1) := by decide +kernel
theorem dJ0_isLatin1_aae02_18 : decode cJ0_isLatin1_aae02 18 = .ok (.ireturn, 1) := by decide +kernel
theorem dJ0_charAt_5068e_0 : decode cJ0_charAt_5068e 0 = .ok (.aload_n 0, 1) := by decide +kernel
theorem dJ0_charAt_5068e_1 : decode cJ0_charAt_5068e 1 = .ok (.invokevirtual 492, 3) := by decide +kernel
theorem dJ0_charAt_5068e_4 : decode cJ0_charAt_5068e 4 = .ok (.ifCond .eq 12, 3) := by decide +kernel
theorem dJ0_charAt_5068e_7 : decode cJ0_charAt_5068e 7 = .ok (.aload_n 0, 1) := by decide +kernel
theorem dJ0_charAt_5068e_8 : decode cJ0_charAt_5068e 8 = .ok (.getfield 9, 3) := by decide +kernel
theorem dJ0_charAt_5068e_11 : decode cJ0_charAt_5068e 11 = .ok (.iload_n 1, 1) := by decide +kernel
theorem dJ0_charAt_5068e_12 : decode cJ0_charAt_5068e 12 = .ok (.invokestatic 495, 3) := by decide +kernel
theorem dJ0_charAt_5068e_15 : decode cJ0_charAt_5068e 15 = .ok (.ireturn, 1) := by decide +kernel
theorem dJ0_charAt_5068e_16 : decode cJ0_charAt_5068e 16 = .ok (.aload_n 0, 1) := by decide +kernel
theorem dJ0_charAt_5068e_17 : decode cJ0_charAt_5068e 17 = .ok (.getfield 9, 3) := by decide +kernel
theorem dJ0_charAt_5068e_20 : decode cJ0_charAt_5068e 20 = .ok (.iload_n 1, 1) := by decide +kernel
theorem dJ0_charAt_5068e_21 : decode cJ0_charAt_5068e 21 = .ok (.invokestatic 498, 3) := by decide +kernel
theorem dJ0_charAt_5068e_24 : decode cJ0_charAt_5068e 24 = .ok (.ireturn, 1) := by decide +kernel
theorem dJ1_charAt_3b067_0 : decode cJ1_charAt_3b067 0 = .ok (.iload_n 1, 1) := by decide +kernel
theorem dJ1_charAt_3b067_1 : decode cJ1_charAt_3b067 1 = .ok (.aload_n 0, 1) := by decide +kernel
theorem dJ1_charAt_3b067_2 : decode cJ1_charAt_3b067 2 = .ok (.arraylength, 1) := by decide +kernel
theorem dJ1_charAt_3b067_3 : decode cJ1_charAt_3b067 3 = .ok (.invokestatic 9, 3) := by decide +kernel
theorem dJ1_charAt_3b067_6 : decode cJ1_charAt_3b067 6 = .ok (.aload_n 0, 1) := by decide +kernel
theorem dJ1_charAt_3b067_7 : decode cJ1_charAt_3b067 7 = .ok (.iload_n 1, 1) := by decide +kernel
theorem dJ1_charAt_3b067_8 : decode cJ1_charAt_3b067 8 = .ok (.baload, 1) := by decide +kernel
theorem dJ1_charAt_3b067_9 : decode cJ1_charAt_3b067 9 = .ok (.sipush 255, 3) := by decide +kernel
theorem dJ1_charAt_3b067_12 : decode cJ1_charAt_3b067 12 = .ok (.iand, 1) := by decide +kernel
theorem dJ1_charAt_3b067_13 : decode cJ1_charAt_3b067 13 = .ok (.i2c, 1) := by decide +kernel
theorem dJ1_charAt_3b067_14 : decode cJ1_charAt_3b067 14 = .ok (.ireturn, 1) := by decide +kernel
theorem dJ0_checkIndex_df160_0 : decode cJ0_checkIndex_df160 0 = .ok (.iload_n 0, 1) := by decide +kernel
theorem dJ0_checkIndex_df160_1 : decode cJ0_checkIndex_df160 1 = .ok (.iload_n 1, 1) := by decide +kernel
theorem dJ0_checkIndex_df160_2 : decode cJ0_checkIndex_df160 2 = .ok (.getstatic 1053, 3) := by decide +kernel
theorem dJ0_checkIndex_df160_5 : decode cJ0_checkIndex_df160 5 = .ok (.invokestatic 1059, 3) := by decide +kernel
theorem dJ0_checkIndex_df160_8 : decode cJ0_checkIndex_df160 8 = .ok (.pop, 1) := by decide +kernel
theorem dJ0_checkIndex_df160_9 : decode cJ0_checkIndex_df160 9 = .ok (.return_, 1) := by decide +kernel
theorem dJ3_checkIndex_8e157_0 : decode cJ3_checkIndex_8e157 0 = .ok (.iload_n 0, 1) := by decide +kernel
theorem dJ3_checkIndex_8e157_1 : decode cJ3_checkIndex_8e157 1 = .ok (.ifCond .lt 8, 3) := by decide +kernel
theorem dJ3_checkIndex_8e157_4 : decode cJ3_checkIndex_8e157 4 = .ok (.iload_n 0, 1) := by decide +kernel
theorem dJ3_checkIndex_8e157_5 : decode cJ3_checkIndex_8e157 5 = .ok (.iload_n 1, 1) := by decide +kernel
theorem dJ3_checkIndex_8e157_6 : decode cJ3_checkIndex_8e157 6 = .ok (.if_icmp .lt 10, 3) := by decide +kernel
theorem dJ3_checkIndex_8e157_9 : decode cJ3_checkIndex_8e157 9 = .ok (.aload_n 2, 1) := by decide +kernel
theorem dJ3_checkIndex_8e157_10 : decode cJ3_checkIndex_8e157 10 = .ok (.iload_n 0, 1) := by decide +kernel
theorem dJ3_checkIndex_8e157_11 : decode cJ3_checkIndex_8e157 11 = .ok (.iload_n 1, 1) := by decide +kernel
theorem dJ3_checkIndex_8e157_12 : decode cJ3_checkIndex_8e157 12 = .ok (.invokestatic 95, 3) := by decide +kernel
theorem dJ3_checkIndex_8e157_15 : decode cJ3_checkIndex_8e157 15 = .ok (.athrow, 1) := by decide +kernel
theorem dJ3_checkIndex_8e157_16 : decode cJ3_checkIndex_8e157 16 = .ok (.iload_n 0, 1) := by decide +kernel
theorem dJ3_checkIndex_8e157_17 : decode cJ3_checkIndex_8e157 17 = .ok (.ireturn, 1) := by decide +kernel
theorem mc_J0_length_8abf5 : MC yJ0_length_8abf5 cJ0_length_8abf5 1 (some .int) 0 := ⟨TT_i 160 (by decide +kernel) rfl, TT_i 4 (by decide +kernel) rfl, by decide +kernel⟩
theorem mc_J0_coder_7d493 : MC yJ0_coder_7d493 cJ0_coder_7d493 1 (some .byte) 0 := ⟨TT_i 164 (by decide +kernel) rfl, TT_i 4 (by decide +kernel) rfl, by decide +kernel⟩
theorem mc_J0_isLatin1_aae02 : MC yJ0_isLatin1_aae02 cJ0_isLatin1_aae02 1 (some .boolean) 0 := ⟨TT_i 175 (by decide +kernel) rfl, TT_i 4 (by decide +kernel) rfl, by decide +kernel⟩
theorem mc_J0_charAt_5068e : MC yJ0_charAt_5068e cJ0_charAt_5068e 2 (some .char) 1 := ⟨TT_i 171 (by decide +kernel) rfl, TT_i 4 (by decide +kernel) rfl, by decide +kernel⟩
theorem mc_J1_charAt_3b067 : MC yJ1_charAt_3b067 cJ1_charAt_3b067 2 (some .char) 2 := ⟨TT_i 178 (by decide +kernel) rfl, TT_i 5 (by decide +kernel) rfl, by decide +kernel⟩
theorem mc_J0_checkIndex_df160 : MC yJ0_checkIndex_df160 cJ0_checkIndex_df160 2 none 2 := ⟨TT_i 181 (by decide +kernel) rfl, TT_i 4 (by decide +kernel) rfl, by decide +kernel⟩
theorem mc_J3_checkIndex_8e157 : MC yJ3_checkIndex_8e157 cJ3_checkIndex_8e157 3 (some .int) 3 := ⟨TT_i 186 (by decide +kernel) rfl, TT_i 6 (by decide +kernel) rfl, by decide +kernel⟩
theorem im_J0_length_8abf5 : Cond.instanceMethod yJ0_length_8abf5 ∈ TT := TT_i 158 (by decide +kernel) rfl
theorem se_J0_length_8abf5 : Cond.selects "java/lang/String" yJ0_length_8abf5 yJ0_length_8abf5 ∈ TT := TT_i 159 (by decide +kernel) rfl
theorem im_J0_coder_7d493 : Cond.instanceMethod yJ0_coder_7d493 ∈ TT := TT_i 162 (by decide +kernel) rfl
theorem se_J0_coder_7d493 : Cond.selects "java/lang/String" yJ0_coder_7d493 yJ0_coder_7d493 ∈ TT := TT_i 163 (by decide +kernel) rfl
theorem im_J0_isLatin1_aae02 : Cond.instanceMethod yJ0_isLatin1_aae02 ∈ TT := TT_i 173 (by decide +kernel) rfl
theorem se_J0_isLatin1_aae02 : Cond.selects "java/lang/String" yJ0_isLatin1_aae02 yJ0_isLatin1_aae02 ∈ TT := TT_i 174 (by decide +kernel) rfl
theorem im_J0_charAt_5068e : Cond.instanceMethod yJ0_charAt_5068e ∈ TT := TT_i 169 (by decide +kernel) rfl
theorem se_J0_charAt_5068e : Cond.selects "java/lang/String" yJ0_charAt_5068e yJ0_charAt_5068e ∈ TT := TT_i 170 (by decide +kernel) rfl
theorem st_J1_charAt_3b067 : Cond.static yJ1_charAt_3b067 ∈ TT := TT_i 177 (by decide +kernel) rfl
theorem st_J0_checkIndex_df160 : Cond.static yJ0_checkIndex_df160 ∈ TT := TT_i 180 (by decide +kernel) rfl
theorem st_J3_checkIndex_8e157 : Cond.static yJ3_checkIndex_8e157 ∈ TT := TT_i 185 (by decide +kernel) rfl
theorem xw_cs : Cond.fieldLink RJ0 38 "java/lang/String" "COMPACT_STRINGS" "Z" ∈ TT := TT_i 165 (by decide +kernel) rfl
theorem xw_v : Cond.fieldLink RJ0 9 "java/lang/String" "value" "[B" ∈ TT := TT_i 2077 (by decide +kernel) rfl
theorem xw_c : Cond.fieldLink RJ0 15 "java/lang/String" "coder" "B" ∈ TT := TT_i 2078 (by decide +kernel) rfl
theorem xw_f : Cond.fieldLink RJ0 1053 "jdk/internal/util/Preconditions" "SIOOBE_FORMATTER" "Ljava/util/function/BiFunction;" ∈ TT := TT_i 182 (by decide +kernel) rfl
theorem ml_J0_335 : Cond.methodLink RJ0 335 yJ0_coder_7d493 ∈ TT := TT_i 161 (by decide +kernel) rfl
theorem ml_J0_492 : Cond.methodLink RJ0 492 yJ0_isLatin1_aae02 ∈ TT := TT_i 172 (by decide +kernel) rfl
theorem ml_J0_495 : Cond.methodLink RJ0 495 yJ1_charAt_3b067 ∈ TT := TT_i 176 (by decide +kernel) rfl
theorem ml_J0_1059 : Cond.methodLink RJ0 1059 yJ3_checkIndex_8e157 ∈ TT := TT_i 184 (by decide +kernel) rfl
theorem ml_J1_9 : Cond.methodLink RJ1 9 yJ0_checkIndex_df160 ∈ TT := TT_i 179 (by decide +kernel) rfl
theorem xw_lam : Cond.fieldLink RX4 141 "TuneGates$Reader" "LINES_AT_MOST" "[I" ∈ TT := TT_i 515 (by decide +kernel) rfl
abbrev rm_J0_coder_7d493 : Room := { frames := 0, cells := 0, slots := 0, locals := 0 }
abbrev rm_J0_length_8abf5 : Room := { frames := 2, cells := 0, slots := 0, locals := 60 }
abbrev rm_J0_isLatin1_aae02 : Room := { frames := 0, cells := 0, slots := 0, locals := 0 }
abbrev rm_J3_checkIndex_8e157 : Room := { frames := 0, cells := 0, slots := 0, locals := 0 }
abbrev rm_J0_checkIndex_df160 : Room := { frames := 1, cells := 0, slots := 0, locals := 22 }
abbrev rm_J1_charAt_3b067 : Room := { frames := 2, cells := 0, slots := 0, locals := 43 }
abbrev rm_J0_charAt_5068e : Room := { frames := 3, cells := 0, slots := 0, locals := 90 }
/-! the methods of String that are used, on the constants -/
theorem con_J0_coder (l : Launch) (G : GE) (h : Mem) (k : Nat) (hk : k < 20) : Con l G yJ0_coder_7d493 cJ0_coder_7d493 1 (some .byte) rm_J0_coder_7d493 [vX k] h (ppI h (fun v => v = 0)) := by
  refine Con.of (by decide) (Nat.le_of_ble_eq_true rfl) (fun X hX hr hN => ?_)
  show AW G X 0 [(0, vX k)] [] h 0 0
  have hE := hX.2.2.2.2.2.1.2.2
  refine aw_sget (pc := 0) hX (vI 1) hE.2.2.1 xw_cs dJ0_coder_7d493_0 ?_
  refine aw_if_eq (pc := 3) hX 13 (by decide) dJ0_coder_7d493_3 (fun hc => absurd hc (by decide)) (fun _ => ?_)
  refine aw_xloadn (pc := 6) hX 0 rfl dJ0_coder_7d493_6 ?_
  refine aw_xget (pc := 7) hX (vI 0) (hE.1.1 k hk).2.1 xw_c dJ0_coder_7d493_7 ?_
  refine aw_goto (pc := 10) hX 14 (by decide) dJ0_coder_7d493_10 ?_
  exact aw_nret (pc := 14) hX hr (by decide) (by decide) rfl dJ0_coder_7d493_14 ⟨rfl, _, rfl, rfl⟩
theorem con_J0_isLatin1 (l : Launch) (G : GE) (h : Mem) (k : Nat) (hk : k < 20) : Con l G yJ0_isLatin1_aae02 cJ0_isLatin1_aae02 1 (some .boolean) rm_J0_isLatin1_aae02 [vX k] h (ppI h (fun v => v = 1)) := by
  refine Con.of (by decide) (Nat.le_of_ble_eq_true rfl) (fun X hX hr hN => ?_)
  show AW G X 0 [(0, vX k)] [] h 0 0
  have hE := hX.2.2.2.2.2.1.2.2
  refine aw_sget (pc := 0) hX (vI 1) hE.2.2.1 xw_cs dJ0_isLatin1_aae02_0 ?_
  refine aw_if_eq (pc := 3) hX 17 (by decide) dJ0_isLatin1_aae02_3 (fun hc => absurd hc (by decide)) (fun _ => ?_)
  refine aw_xloadn (pc := 6) hX 0 rfl dJ0_isLatin1_aae02_6 ?_
  refine aw_xget (pc := 7) hX (vI 0) (hE.1.1 k hk).2.1 xw_c dJ0_isLatin1_aae02_7 ?_
  refine aw_if_ne (pc := 10) hX 17 (by decide) dJ0_isLatin1_aae02_10 (fun hc => absurd rfl hc) (fun _ => ?_)
  refine aw_iconst (pc := 13) hX 1 (by decide) dJ0_isLatin1_aae02_13 ?_
  refine aw_goto (pc := 14) hX 18 (by decide) dJ0_isLatin1_aae02_14 ?_
  exact aw_zret (pc := 18) hX hr (by decide) (by decide) dJ0_isLatin1_aae02_18 (Or.inr rfl) ⟨rfl, _, rfl, rfl⟩
theorem con_J0_length (l : Launch) (G : GE) (h : Mem) (k : Nat) (hk : k < 20) : Con l G yJ0_length_8abf5 cJ0_length_8abf5 1 (some .int) rm_J0_length_8abf5 [vX k] h (ppI h (fun v => v = Int32.ofNat (strL.getD k 0))) := by
  refine Con.of (by decide) (Nat.le_of_ble_eq_true rfl) (fun X hX hr hN => ?_)
  show AW G X 0 [(0, vX k)] [] h 0 0
  have hE := hX.2.2.2.2.2.1.2.2
  refine aw_xloadn (pc := 0) hX 0 rfl dJ0_length_8abf5_0 ?_
  refine aw_xget (pc := 1) hX (vX (100 + k)) (hE.1.1 k hk).2.2.1 xw_v dJ0_length_8abf5_1 ?_
  refine aw_xlen (pc := 4) hX (hE.1.1 k hk).2.2.2 dJ0_length_8abf5_4 ?_
  refine aw_xloadn (pc := 5) hX 0 rfl dJ0_length_8abf5_5 ?_
  refine aw_callVX (pc := 6) (st := [vI (Int32.ofNat (strL.getD k 0))]) hX [] (con_J0_coder _ G h k hk) mc_J0_coder_7d493 ml_J0_335 im_J0_coder_7d493 se_J0_coder_7d493 hk rfl (rm_of hr (by decide)) (Nat.le_of_ble_eq_true rfl) rfl dJ0_length_8abf5_6 (kpI rfl rfl (fun v hv => ?_))
  subst hv
  refine aw_ishr (pc := 9) hX dJ0_length_8abf5_9 ?_
  refine aw_iret (pc := 10) hX hr (by decide) (by decide) dJ0_length_8abf5_10 ⟨rfl, _, rfl, ?_⟩
  generalize strL.getD k 0 = n
  apply Int32.toInt_inj.mp
  simp
theorem con_J3_checkIndex (l : Launch) (G : GE) (h : Mem) (i n : Int32) (w : AV) (hw : ac w = 1) (h1 : ¬ i < 0) (h2 : i < n) : Con l G yJ3_checkIndex_8e157 cJ3_checkIndex_8e157 3 (some .int) rm_J3_checkIndex_8e157 [vI i, vI n, w] h (ppI h (fun v => v = i)) := by
  refine Con.of (by decide) (by show 1 + (1 + (ac w + 0)) ≤ 3; omega) (fun X hX hr hN => ?_)
  show AW G X 0 [(0, vI i), (1, vI n), (2, w)] [] h 0 0
  refine aw_iloadn (pc := 0) hX 0 rfl dJ3_checkIndex_8e157_0 ?_
  refine aw_if_lt (pc := 1) hX 9 (by decide) dJ3_checkIndex_8e157_1 (fun hc => absurd hc h1) (fun _ => ?_)
  refine aw_iloadn (pc := 4) hX 0 rfl dJ3_checkIndex_8e157_4 ?_
  refine aw_iloadn (pc := 5) hX 1 rfl dJ3_checkIndex_8e157_5 ?_
  refine aw_ic_lt (pc := 6) hX 16 (by decide) dJ3_checkIndex_8e157_6 (fun _ => ?_) (fun hc => absurd h2 hc)
  refine aw_iloadn (pc := 16) hX 0 rfl dJ3_checkIndex_8e157_16 ?_
  exact aw_iret (pc := 17) hX hr (by decide) (by decide) dJ3_checkIndex_8e157_17 ⟨rfl, _, rfl, rfl⟩
theorem con_J0_checkIndex (l : Launch) (G : GE) (h : Mem) (i n : Int32) (h1 : ¬ i < 0) (h2 : i < n) : Con l G yJ0_checkIndex_df160 cJ0_checkIndex_df160 2 none rm_J0_checkIndex_df160 [vI i, vI n] h (ppV h (fun _ => True)) := by
  refine Con.of (by decide) (Nat.le_of_ble_eq_true rfl) (fun X hX hr hN => ?_)
  show AW G X 0 [(0, vI i), (1, vI n)] [] h 0 0
  have hE := hX.2.2.2.2.2.1.2.2
  refine aw_iloadn (pc := 0) hX 0 rfl dJ0_checkIndex_df160_0 ?_
  refine aw_iloadn (pc := 1) hX 1 rfl dJ0_checkIndex_df160_1 ?_
  obtain ⟨w, hw, hZ⟩ : ∃ w : AV, ac w = 1 ∧ va_Z "jdk/internal/util/Preconditions" "SIOOBE_FORMATTER" "Ljava/util/function/BiFunction;" (tv G w) (gA G) (xs X) (xs X).heap := by
    rcases hE.2.2.2.2.2 with z | z
    · exact ⟨vR 0, rfl, z⟩
    · exact ⟨vX 22, rfl, z⟩
  refine aw_sget (pc := 2) hX w hZ xw_f dJ0_checkIndex_df160_2 ?_
  refine aw_callS (pc := 5) (st := []) hX [vI i, vI n, w] (con_J3_checkIndex _ G h i n w hw h1 h2) mc_J3_checkIndex_8e157 ml_J0_1059 st_J3_checkIndex_8e157 rfl (rm_of hr (by decide)) (Nat.le_of_ble_eq_true rfl) rfl dJ0_checkIndex_df160_5 (kpI rfl rfl (fun v hv => ?_))
  refine aw_pop (pc := 8) hX rfl dJ0_checkIndex_df160_8 ?_
  exact aw_vret (pc := 9) hX hr (by decide) (by decide) dJ0_checkIndex_df160_9 ⟨rfl, rfl, trivial⟩
/-- the signs of the constants: letters -/
theorem strB_ok : (List.range 20).all (fun k => (List.range (strL.getD k 0)).all (fun j => decide (((((strB.getD k []).getD j 0 &&& 255).toUInt32 % 65536).toInt32 = (strB.getD k []).getD j 0) ∧ narrow .char (.int ((strB.getD k []).getD j 0)) = .int ((strB.getD k []).getD j 0)))) = true := by decide +kernel
theorem strB_at {k j : Nat} (hk : k < 20) (hj : j < strL.getD k 0) : ((((strB.getD k []).getD j 0 &&& 255).toUInt32 % 65536).toInt32 = (strB.getD k []).getD j 0) ∧ narrow .char (.int ((strB.getD k []).getD j 0)) = .int ((strB.getD k []).getD j 0) := by
  have h1 := List.all_eq_true.mp strB_ok k (List.mem_range.mpr hk)
  have h2 := List.all_eq_true.mp h1 j (List.mem_range.mpr hj)
  exact of_decide_eq_true h2
theorem strL_ok : (List.range 20).all (fun k => decide (strL.getD k 0 < 100)) = true := by decide +kernel
theorem strL_lt {k : Nat} (hk : k < 20) : strL.getD k 0 < 100 := of_decide_eq_true (List.all_eq_true.mp strL_ok k (List.mem_range.mpr hk))
theorem con_J1_charAt (l : Launch) (G : GE) (h : Mem) (k j : Nat) (hk : k < 20) (hj : j < strL.getD k 0) : Con l G yJ1_charAt_3b067 cJ1_charAt_3b067 2 (some .char) rm_J1_charAt_3b067 [vX (100 + k), vI (nI j)] h (ppI h (fun v => v = (strB.getD k []).getD j 0)) := by
  have hlt := strL_lt hk
  refine Con.of (by decide) (Nat.le_of_ble_eq_true rfl) (fun X hX hr hN => ?_)
  show AW G X 0 [(0, vX (100 + k)), (1, vI (nI j))] [] h 0 0
  have hE := hX.2.2.2.2.2.1.2.2
  have hT := (hE.1.1 k hk).2.2.2
  refine aw_iloadn (pc := 0) hX 1 rfl dJ1_charAt_3b067_0 ?_
  refine aw_xloadn (pc := 1) hX 0 rfl dJ1_charAt_3b067_1 ?_
  refine aw_xlen (pc := 2) hX hT dJ1_charAt_3b067_2 ?_
  refine aw_callS (pc := 3) (st := []) hX [vI (nI j), vI (nI (strL.getD k 0))] (con_J0_checkIndex _ G h _ _ (nI_pos (by omega)) (nI_lt hj (by omega))) mc_J0_checkIndex_df160 ml_J1_9 st_J0_checkIndex_df160 rfl (rm_of hr (by decide)) (Nat.le_of_ble_eq_true rfl) rfl dJ1_charAt_3b067_3 (kpV rfl rfl (fun _ _ => ?_))
  refine aw_xloadn (pc := 6) hX 0 rfl dJ1_charAt_3b067_6 ?_
  refine aw_iloadn (pc := 7) hX 1 rfl dJ1_charAt_3b067_7 ?_
  refine aw_xba (pc := 8) (f := fun j => (strB.getD k []).getD j 0) hX hT (vp_in_nI hj (by omega)) dJ1_charAt_3b067_8 ?_
  refine aw_sipush (pc := 9) hX 255 (by decide) dJ1_charAt_3b067_9 ?_
  refine aw_iand (pc := 12) hX dJ1_charAt_3b067_12 ?_
  refine aw_i2c (pc := 13) hX dJ1_charAt_3b067_13 ?_
  rw [nI_clamp (show j < 2 ^ 31 by omega), (strB_at hk hj).1]
  exact aw_nret (pc := 14) hX hr (by decide) (by decide) (strB_at hk hj).2 dJ1_charAt_3b067_14 ⟨rfl, _, rfl, rfl⟩
theorem con_J0_charAt (l : Launch) (G : GE) (h : Mem) (k j : Nat) (hk : k < 20) (hj : j < strL.getD k 0) : Con l G yJ0_charAt_5068e cJ0_charAt_5068e 2 (some .char) rm_J0_charAt_5068e [vX k, vI (nI j)] h (ppI h (fun v => v = (strB.getD k []).getD j 0)) := by
  refine Con.of (by decide) (Nat.le_of_ble_eq_true rfl) (fun X hX hr hN => ?_)
  show AW G X 0 [(0, vX k), (1, vI (nI j))] [] h 0 0
  have hE := hX.2.2.2.2.2.1.2.2
  refine aw_xloadn (pc := 0) hX 0 rfl dJ0_charAt_5068e_0 ?_
  refine aw_callVX (pc := 1) (st := []) hX [] (con_J0_isLatin1 _ G h k hk) mc_J0_isLatin1_aae02 ml_J0_492 im_J0_isLatin1_aae02 se_J0_isLatin1_aae02 hk rfl (rm_of hr (by decide)) (Nat.le_of_ble_eq_true rfl) rfl dJ0_charAt_5068e_1 (kpI rfl rfl (fun v hv => ?_))
  subst hv
  refine aw_if_eq (pc := 4) hX 16 (by decide) dJ0_charAt_5068e_4 (fun hc => absurd hc (by decide)) (fun _ => ?_)
  refine aw_xloadn (pc := 7) hX 0 rfl dJ0_charAt_5068e_7 ?_
  refine aw_xget (pc := 8) hX (vX (100 + k)) (hE.1.1 k hk).2.2.1 xw_v dJ0_charAt_5068e_8 ?_
  refine aw_iloadn (pc := 11) hX 1 rfl dJ0_charAt_5068e_11 ?_
  refine aw_callS (pc := 12) (st := []) hX [vX (100 + k), vI (nI j)] (con_J1_charAt _ G h k j hk hj) mc_J1_charAt_3b067 ml_J0_495 st_J1_charAt_3b067 rfl (rm_of hr (by decide)) (Nat.le_of_ble_eq_true rfl) rfl dJ0_charAt_5068e_12 (kpI rfl rfl (fun v hv => ?_))
  subst hv
  exact aw_nret (pc := 15) hX hr (by decide) (by decide) (strB_at hk hj).2 dJ0_charAt_5068e_15 ⟨rfl, _, rfl, rfl⟩
/-- length and charAt of the constants, LINES_AT_MOST -/
def xLen (k : Nat) : Option Int32 := if k < 20 then some (Int32.ofNat (strL.getD k 0)) else none
def xChr (k : Nat) (i : Int32) : Option Int32 := if k < 20 ∧ 0 ≤ i.toInt ∧ i.toInt < (strL.getD k 0 : Nat) then some ((strB.getD k []).getD i.toNatClampNeg 0) else none
def xAI (i : Int32) : Option Int32 := if 0 ≤ i.toInt ∧ i.toInt < ((9 : Nat) : Int) then some (lamv i.toNatClampNeg) else none
section AWX2
variable {G : GE} {X : CX} {cc : ByteArray} {own : String} {pc : Nat} {lv : List (Nat × AV)} {st : List AV} {h : Mem} {ce sl : Nat}
theorem aw_callXL (hX : Ok G X cc own) {idx k : Nat} {α : Type} {f : Int32 → Option α} {P : α → Prop} (hy : OK ((xLen k).bind f) P) (hw : Cond.methodLink own idx yJ0_length_8abf5 ∈ TT) (hR9 : Rm X rm_J0_length_8abf5 1 ce sl) (hst : (st.map ac).sum ≤ 8) (d : decode cc pc = .ok (.invokevirtual idx, 3)) (kk : ∀ v, OK (f v) P → AW G X (pc + 3) lv (vI v :: st) h ce sl) : AW G X pc lv (vX k :: st) h ce sl := by
  obtain ⟨v, e, hy⟩ := hy.b
  unfold xLen at e
  split at e
  · rename_i hk
    cases e
    refine aw_callVX (st := st) hX [] (con_J0_length _ G h k hk) mc_J0_length_8abf5 hw im_J0_length_8abf5 se_J0_length_8abf5 hk rfl hR9 hst rfl d (kpI rfl rfl (fun v hv => ?_))
    subst hv
    exact kk _ hy
  · cases e
theorem aw_callXC (hX : Ok G X cc own) {idx k : Nat} {i : Int32} {α : Type} {f : Int32 → Option α} {P : α → Prop} (hy : OK ((xChr k i).bind f) P) (hw : Cond.methodLink own idx yJ0_charAt_5068e ∈ TT) (hR9 : Rm X rm_J0_charAt_5068e 2 ce sl) (hst : (st.map ac).sum ≤ 8) (d : decode cc pc = .ok (.invokevirtual idx, 3)) (kk : ∀ v, OK (f v) P → AW G X (pc + 3) lv (vI v :: st) h ce sl) : AW G X pc lv (vI i :: vX k :: st) h ce sl := by
  obtain ⟨v, e, hy⟩ := hy.b
  unfold xChr at e
  split at e
  · rename_i hc
    obtain ⟨hk, hi⟩ := hc
    cases e
    have hlt := strL_lt hk
    obtain ⟨j, hj, rfl⟩ := vp_in_of (vp_in_iff.mpr hi) (by omega)
    rw [nI_clamp (show j < 2 ^ 31 by omega)] at hy
    refine aw_callVX (st := st) hX [vI (nI j)] (con_J0_charAt _ G h k j hk hj) mc_J0_charAt_5068e hw im_J0_charAt_5068e se_J0_charAt_5068e hk rfl hR9 hst rfl d (kpI rfl rfl (fun v hv => ?_))
    subst hv
    exact kk _ hy
  · cases e
theorem aw_lines (hX : Ok G X cc RX4) (d : decode cc pc = .ok (.getstatic 141, 3)) (kk : AW G X (pc + 3) lv (vX 21 :: st) h ce sl) : AW G X pc lv st h ce sl :=
  aw_sget hX (vX 21) hX.2.2.2.2.2.1.2.2.2.2.2.1 xw_lam d kk
theorem aw_xAI (hX : Ok G X cc own) {i : Int32} {α : Type} {f : Int32 → Option α} {P : α → Prop} (hy : OK ((xAI i).bind f) P) (d : decode cc pc = .ok (.iaload, 1)) (kk : ∀ v, OK (f v) P → AW G X (pc + 1) lv (vI v :: st) h ce sl) : AW G X pc lv (vI i :: vX 21 :: st) h ce sl := by
  obtain ⟨v, e, hy⟩ := hy.b
  unfold xAI at e
  split at e
  · rename_i hi
    cases e
    exact fun H locs ls hR hS hl => va_ti hX.1 hX.2.1 hX.2.2.2.2.2.1.2.2.2.2.2.2.1 hS (vp_in_iff.mpr hi) rfl d (kk _ hy H locs ls hR hS hl)
  · cases e
end AWX2
