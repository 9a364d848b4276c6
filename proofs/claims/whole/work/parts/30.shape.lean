/-! ===== where everything lies ===== -/
def T0L : List (Nat × Nat) := [(99, 0), (9, 0), (4, 0), (100, 6), (100, 48), (100, 20), (100, 10), (100, 10), (100, 10), (100, 49), (100, 24), (100, 5), (100, 20), (100, 21), (3, 0), (100, 1000), (101, 20), (101, 17), (100, 17), (100, 17), (100, 9), (4, 0), (100, 6), (100, 48), (100, 20), (100, 10), (100, 10), (100, 10), (100, 49), (100, 24), (100, 5), (100, 20), (100, 21), (1, 0), (100, 21), (100, 336), (100, 63), (8, 0), (100, 7), (7, 0), (100, 64), (100, 64), (100, 64), (5, 0), (100, 42), (100, 448), (100, 448), (2, 0), (100, 64), (100, 6), (100, 6), (6, 0), (100, 42), (100, 42), (0, 0), (11, 0), (102, 1000), (100, 21), (100, 336), (100, 63), (100, 49), (100, 6), (100, 48), (100, 48), (100, 6), (100, 64), (100, 42), (100, 42), (101, 1)]
def R0L : List (Nat × Nat × Nat) := [(1, 2, 14), (1, 3, 33), (1, 4, 37), (1, 5, 39), (1, 6, 43), (1, 7, 47), (1, 8, 51), (1, 9, 54), (2, 9, 3), (2, 10, 4), (2, 11, 5), (2, 12, 6), (2, 13, 7), (2, 14, 8), (2, 15, 9), (2, 16, 10), (2, 17, 11), (2, 18, 12), (2, 19, 13), (14, 0, 15), (14, 1, 16), (14, 2, 17), (14, 3, 18), (14, 4, 19), (14, 5, 20), (21, 9, 22), (21, 10, 23), (21, 11, 24), (21, 12, 25), (21, 13, 26), (21, 14, 27), (21, 15, 28), (21, 16, 29), (21, 17, 30), (21, 18, 31), (21, 19, 32), (33, 0, 34), (33, 1, 35), (33, 2, 36), (37, 0, 38), (39, 0, 40), (39, 1, 41), (39, 2, 42), (43, 0, 44), (43, 1, 45), (43, 2, 46), (47, 0, 48), (47, 1, 49), (47, 2, 50), (51, 0, 52), (51, 1, 53), (55, 5, 56), (55, 16, 57), (55, 17, 58), (55, 18, 59), (55, 21, 60), (55, 25, 61), (55, 26, 62), (55, 27, 63), (55, 28, 64), (55, 32, 65), (55, 33, 66), (55, 34, 67)]
def SH (h : Mem) : Prop := (∀ a, a < 69 → mT h a = T0L.getD a (99, 0)) ∧ (∀ q ∈ R0L, mR h q.1 q.2.1 = q.2.2) ∧ 69 ≤ mN h
theorem tS_1 {h : Mem} (H : SH h) : mT h 1 = (9, 0) := H.1 1 (by decide)
theorem tS_2 {h : Mem} (H : SH h) : mT h 2 = (4, 0) := H.1 2 (by decide)
theorem tS_3 {h : Mem} (H : SH h) : mT h 3 = (100, 6) := H.1 3 (by decide)
theorem tS_4 {h : Mem} (H : SH h) : mT h 4 = (100, 48) := H.1 4 (by decide)
theorem tS_5 {h : Mem} (H : SH h) : mT h 5 = (100, 20) := H.1 5 (by decide)
theorem tS_6 {h : Mem} (H : SH h) : mT h 6 = (100, 10) := H.1 6 (by decide)
theorem tS_7 {h : Mem} (H : SH h) : mT h 7 = (100, 10) := H.1 7 (by decide)
theorem tS_8 {h : Mem} (H : SH h) : mT h 8 = (100, 10) := H.1 8 (by decide)
theorem tS_9 {h : Mem} (H : SH h) : mT h 9 = (100, 49) := H.1 9 (by decide)
theorem tS_10 {h : Mem} (H : SH h) : mT h 10 = (100, 24) := H.1 10 (by decide)
theorem tS_11 {h : Mem} (H : SH h) : mT h 11 = (100, 5) := H.1 11 (by decide)
theorem tS_12 {h : Mem} (H : SH h) : mT h 12 = (100, 20) := H.1 12 (by decide)
theorem tS_13 {h : Mem} (H : SH h) : mT h 13 = (100, 21) := H.1 13 (by decide)
theorem tS_14 {h : Mem} (H : SH h) : mT h 14 = (3, 0) := H.1 14 (by decide)
theorem tS_15 {h : Mem} (H : SH h) : mT h 15 = (100, 1000) := H.1 15 (by decide)
theorem tS_16 {h : Mem} (H : SH h) : mT h 16 = (101, 20) := H.1 16 (by decide)
theorem tS_17 {h : Mem} (H : SH h) : mT h 17 = (101, 17) := H.1 17 (by decide)
theorem tS_18 {h : Mem} (H : SH h) : mT h 18 = (100, 17) := H.1 18 (by decide)
theorem tS_19 {h : Mem} (H : SH h) : mT h 19 = (100, 17) := H.1 19 (by decide)
theorem tS_20 {h : Mem} (H : SH h) : mT h 20 = (100, 9) := H.1 20 (by decide)
theorem tS_21 {h : Mem} (H : SH h) : mT h 21 = (4, 0) := H.1 21 (by decide)
theorem tS_22 {h : Mem} (H : SH h) : mT h 22 = (100, 6) := H.1 22 (by decide)
theorem tS_23 {h : Mem} (H : SH h) : mT h 23 = (100, 48) := H.1 23 (by decide)
theorem tS_24 {h : Mem} (H : SH h) : mT h 24 = (100, 20) := H.1 24 (by decide)
theorem tS_25 {h : Mem} (H : SH h) : mT h 25 = (100, 10) := H.1 25 (by decide)
theorem tS_26 {h : Mem} (H : SH h) : mT h 26 = (100, 10) := H.1 26 (by decide)
theorem tS_27 {h : Mem} (H : SH h) : mT h 27 = (100, 10) := H.1 27 (by decide)
theorem tS_28 {h : Mem} (H : SH h) : mT h 28 = (100, 49) := H.1 28 (by decide)
theorem tS_29 {h : Mem} (H : SH h) : mT h 29 = (100, 24) := H.1 29 (by decide)
theorem tS_30 {h : Mem} (H : SH h) : mT h 30 = (100, 5) := H.1 30 (by decide)
theorem tS_31 {h : Mem} (H : SH h) : mT h 31 = (100, 20) := H.1 31 (by decide)
theorem tS_32 {h : Mem} (H : SH h) : mT h 32 = (100, 21) := H.1 32 (by decide)
theorem tS_33 {h : Mem} (H : SH h) : mT h 33 = (1, 0) := H.1 33 (by decide)
theorem tS_34 {h : Mem} (H : SH h) : mT h 34 = (100, 21) := H.1 34 (by decide)
theorem tS_35 {h : Mem} (H : SH h) : mT h 35 = (100, 336) := H.1 35 (by decide)
theorem tS_36 {h : Mem} (H : SH h) : mT h 36 = (100, 63) := H.1 36 (by decide)
theorem tS_37 {h : Mem} (H : SH h) : mT h 37 = (8, 0) := H.1 37 (by decide)
theorem tS_38 {h : Mem} (H : SH h) : mT h 38 = (100, 7) := H.1 38 (by decide)
theorem tS_39 {h : Mem} (H : SH h) : mT h 39 = (7, 0) := H.1 39 (by decide)
theorem tS_40 {h : Mem} (H : SH h) : mT h 40 = (100, 64) := H.1 40 (by decide)
theorem tS_41 {h : Mem} (H : SH h) : mT h 41 = (100, 64) := H.1 41 (by decide)
theorem tS_42 {h : Mem} (H : SH h) : mT h 42 = (100, 64) := H.1 42 (by decide)
theorem tS_43 {h : Mem} (H : SH h) : mT h 43 = (5, 0) := H.1 43 (by decide)
theorem tS_44 {h : Mem} (H : SH h) : mT h 44 = (100, 42) := H.1 44 (by decide)
theorem tS_45 {h : Mem} (H : SH h) : mT h 45 = (100, 448) := H.1 45 (by decide)
theorem tS_46 {h : Mem} (H : SH h) : mT h 46 = (100, 448) := H.1 46 (by decide)
theorem tS_47 {h : Mem} (H : SH h) : mT h 47 = (2, 0) := H.1 47 (by decide)
theorem tS_48 {h : Mem} (H : SH h) : mT h 48 = (100, 64) := H.1 48 (by decide)
theorem tS_49 {h : Mem} (H : SH h) : mT h 49 = (100, 6) := H.1 49 (by decide)
theorem tS_50 {h : Mem} (H : SH h) : mT h 50 = (100, 6) := H.1 50 (by decide)
theorem tS_51 {h : Mem} (H : SH h) : mT h 51 = (6, 0) := H.1 51 (by decide)
theorem tS_52 {h : Mem} (H : SH h) : mT h 52 = (100, 42) := H.1 52 (by decide)
theorem tS_53 {h : Mem} (H : SH h) : mT h 53 = (100, 42) := H.1 53 (by decide)
theorem tS_54 {h : Mem} (H : SH h) : mT h 54 = (0, 0) := H.1 54 (by decide)
theorem tS_55 {h : Mem} (H : SH h) : mT h 55 = (11, 0) := H.1 55 (by decide)
theorem tS_56 {h : Mem} (H : SH h) : mT h 56 = (102, 1000) := H.1 56 (by decide)
theorem tS_57 {h : Mem} (H : SH h) : mT h 57 = (100, 21) := H.1 57 (by decide)
theorem tS_58 {h : Mem} (H : SH h) : mT h 58 = (100, 336) := H.1 58 (by decide)
theorem tS_59 {h : Mem} (H : SH h) : mT h 59 = (100, 63) := H.1 59 (by decide)
theorem tS_60 {h : Mem} (H : SH h) : mT h 60 = (100, 49) := H.1 60 (by decide)
theorem tS_61 {h : Mem} (H : SH h) : mT h 61 = (100, 6) := H.1 61 (by decide)
theorem tS_62 {h : Mem} (H : SH h) : mT h 62 = (100, 48) := H.1 62 (by decide)
theorem tS_63 {h : Mem} (H : SH h) : mT h 63 = (100, 48) := H.1 63 (by decide)
theorem tS_64 {h : Mem} (H : SH h) : mT h 64 = (100, 6) := H.1 64 (by decide)
theorem tS_65 {h : Mem} (H : SH h) : mT h 65 = (100, 64) := H.1 65 (by decide)
theorem tS_66 {h : Mem} (H : SH h) : mT h 66 = (100, 42) := H.1 66 (by decide)
theorem tS_67 {h : Mem} (H : SH h) : mT h 67 = (100, 42) := H.1 67 (by decide)
theorem tS_68 {h : Mem} (H : SH h) : mT h 68 = (101, 1) := H.1 68 (by decide)
theorem rS_1_2 {h : Mem} (H : SH h) : mR h 1 2 = 14 := H.2.1 (1, 2, 14) (by decide)
theorem rS_1_3 {h : Mem} (H : SH h) : mR h 1 3 = 33 := H.2.1 (1, 3, 33) (by decide)
theorem rS_1_4 {h : Mem} (H : SH h) : mR h 1 4 = 37 := H.2.1 (1, 4, 37) (by decide)
theorem rS_1_5 {h : Mem} (H : SH h) : mR h 1 5 = 39 := H.2.1 (1, 5, 39) (by decide)
theorem rS_1_6 {h : Mem} (H : SH h) : mR h 1 6 = 43 := H.2.1 (1, 6, 43) (by decide)
theorem rS_1_7 {h : Mem} (H : SH h) : mR h 1 7 = 47 := H.2.1 (1, 7, 47) (by decide)
theorem rS_1_8 {h : Mem} (H : SH h) : mR h 1 8 = 51 := H.2.1 (1, 8, 51) (by decide)
theorem rS_1_9 {h : Mem} (H : SH h) : mR h 1 9 = 54 := H.2.1 (1, 9, 54) (by decide)
theorem rS_2_9 {h : Mem} (H : SH h) : mR h 2 9 = 3 := H.2.1 (2, 9, 3) (by decide)
theorem rS_2_10 {h : Mem} (H : SH h) : mR h 2 10 = 4 := H.2.1 (2, 10, 4) (by decide)
theorem rS_2_11 {h : Mem} (H : SH h) : mR h 2 11 = 5 := H.2.1 (2, 11, 5) (by decide)
theorem rS_2_12 {h : Mem} (H : SH h) : mR h 2 12 = 6 := H.2.1 (2, 12, 6) (by decide)
theorem rS_2_13 {h : Mem} (H : SH h) : mR h 2 13 = 7 := H.2.1 (2, 13, 7) (by decide)
theorem rS_2_14 {h : Mem} (H : SH h) : mR h 2 14 = 8 := H.2.1 (2, 14, 8) (by decide)
theorem rS_2_15 {h : Mem} (H : SH h) : mR h 2 15 = 9 := H.2.1 (2, 15, 9) (by decide)
theorem rS_2_16 {h : Mem} (H : SH h) : mR h 2 16 = 10 := H.2.1 (2, 16, 10) (by decide)
theorem rS_2_17 {h : Mem} (H : SH h) : mR h 2 17 = 11 := H.2.1 (2, 17, 11) (by decide)
theorem rS_2_18 {h : Mem} (H : SH h) : mR h 2 18 = 12 := H.2.1 (2, 18, 12) (by decide)
theorem rS_2_19 {h : Mem} (H : SH h) : mR h 2 19 = 13 := H.2.1 (2, 19, 13) (by decide)
theorem rS_14_0 {h : Mem} (H : SH h) : mR h 14 0 = 15 := H.2.1 (14, 0, 15) (by decide)
theorem rS_14_1 {h : Mem} (H : SH h) : mR h 14 1 = 16 := H.2.1 (14, 1, 16) (by decide)
theorem rS_14_2 {h : Mem} (H : SH h) : mR h 14 2 = 17 := H.2.1 (14, 2, 17) (by decide)
theorem rS_14_3 {h : Mem} (H : SH h) : mR h 14 3 = 18 := H.2.1 (14, 3, 18) (by decide)
theorem rS_14_4 {h : Mem} (H : SH h) : mR h 14 4 = 19 := H.2.1 (14, 4, 19) (by decide)
theorem rS_14_5 {h : Mem} (H : SH h) : mR h 14 5 = 20 := H.2.1 (14, 5, 20) (by decide)
theorem rS_21_9 {h : Mem} (H : SH h) : mR h 21 9 = 22 := H.2.1 (21, 9, 22) (by decide)
theorem rS_21_10 {h : Mem} (H : SH h) : mR h 21 10 = 23 := H.2.1 (21, 10, 23) (by decide)
theorem rS_21_11 {h : Mem} (H : SH h) : mR h 21 11 = 24 := H.2.1 (21, 11, 24) (by decide)
theorem rS_21_12 {h : Mem} (H : SH h) : mR h 21 12 = 25 := H.2.1 (21, 12, 25) (by decide)
theorem rS_21_13 {h : Mem} (H : SH h) : mR h 21 13 = 26 := H.2.1 (21, 13, 26) (by decide)
theorem rS_21_14 {h : Mem} (H : SH h) : mR h 21 14 = 27 := H.2.1 (21, 14, 27) (by decide)
theorem rS_21_15 {h : Mem} (H : SH h) : mR h 21 15 = 28 := H.2.1 (21, 15, 28) (by decide)
theorem rS_21_16 {h : Mem} (H : SH h) : mR h 21 16 = 29 := H.2.1 (21, 16, 29) (by decide)
theorem rS_21_17 {h : Mem} (H : SH h) : mR h 21 17 = 30 := H.2.1 (21, 17, 30) (by decide)
theorem rS_21_18 {h : Mem} (H : SH h) : mR h 21 18 = 31 := H.2.1 (21, 18, 31) (by decide)
theorem rS_21_19 {h : Mem} (H : SH h) : mR h 21 19 = 32 := H.2.1 (21, 19, 32) (by decide)
theorem rS_33_0 {h : Mem} (H : SH h) : mR h 33 0 = 34 := H.2.1 (33, 0, 34) (by decide)
theorem rS_33_1 {h : Mem} (H : SH h) : mR h 33 1 = 35 := H.2.1 (33, 1, 35) (by decide)
theorem rS_33_2 {h : Mem} (H : SH h) : mR h 33 2 = 36 := H.2.1 (33, 2, 36) (by decide)
theorem rS_37_0 {h : Mem} (H : SH h) : mR h 37 0 = 38 := H.2.1 (37, 0, 38) (by decide)
theorem rS_39_0 {h : Mem} (H : SH h) : mR h 39 0 = 40 := H.2.1 (39, 0, 40) (by decide)
theorem rS_39_1 {h : Mem} (H : SH h) : mR h 39 1 = 41 := H.2.1 (39, 1, 41) (by decide)
theorem rS_39_2 {h : Mem} (H : SH h) : mR h 39 2 = 42 := H.2.1 (39, 2, 42) (by decide)
theorem rS_43_0 {h : Mem} (H : SH h) : mR h 43 0 = 44 := H.2.1 (43, 0, 44) (by decide)
theorem rS_43_1 {h : Mem} (H : SH h) : mR h 43 1 = 45 := H.2.1 (43, 1, 45) (by decide)
theorem rS_43_2 {h : Mem} (H : SH h) : mR h 43 2 = 46 := H.2.1 (43, 2, 46) (by decide)
theorem rS_47_0 {h : Mem} (H : SH h) : mR h 47 0 = 48 := H.2.1 (47, 0, 48) (by decide)
theorem rS_47_1 {h : Mem} (H : SH h) : mR h 47 1 = 49 := H.2.1 (47, 1, 49) (by decide)
theorem rS_47_2 {h : Mem} (H : SH h) : mR h 47 2 = 50 := H.2.1 (47, 2, 50) (by decide)
theorem rS_51_0 {h : Mem} (H : SH h) : mR h 51 0 = 52 := H.2.1 (51, 0, 52) (by decide)
theorem rS_51_1 {h : Mem} (H : SH h) : mR h 51 1 = 53 := H.2.1 (51, 1, 53) (by decide)
theorem rS_55_5 {h : Mem} (H : SH h) : mR h 55 5 = 56 := H.2.1 (55, 5, 56) (by decide)
theorem rS_55_16 {h : Mem} (H : SH h) : mR h 55 16 = 57 := H.2.1 (55, 16, 57) (by decide)
theorem rS_55_17 {h : Mem} (H : SH h) : mR h 55 17 = 58 := H.2.1 (55, 17, 58) (by decide)
theorem rS_55_18 {h : Mem} (H : SH h) : mR h 55 18 = 59 := H.2.1 (55, 18, 59) (by decide)
theorem rS_55_21 {h : Mem} (H : SH h) : mR h 55 21 = 60 := H.2.1 (55, 21, 60) (by decide)
theorem rS_55_25 {h : Mem} (H : SH h) : mR h 55 25 = 61 := H.2.1 (55, 25, 61) (by decide)
theorem rS_55_26 {h : Mem} (H : SH h) : mR h 55 26 = 62 := H.2.1 (55, 26, 62) (by decide)
theorem rS_55_27 {h : Mem} (H : SH h) : mR h 55 27 = 63 := H.2.1 (55, 27, 63) (by decide)
theorem rS_55_28 {h : Mem} (H : SH h) : mR h 55 28 = 64 := H.2.1 (55, 28, 64) (by decide)
theorem rS_55_32 {h : Mem} (H : SH h) : mR h 55 32 = 65 := H.2.1 (55, 32, 65) (by decide)
theorem rS_55_33 {h : Mem} (H : SH h) : mR h 55 33 = 66 := H.2.1 (55, 33, 66) (by decide)
theorem rS_55_34 {h : Mem} (H : SH h) : mR h 55 34 = 67 := H.2.1 (55, 34, 67) (by decide)
/-! a Road at r, a Pike at p -/
def RD (h : Mem) (r : Nat) : Prop := mT h r = (4, 0) ∧ mR h r 9 = r + 1 ∧ mR h r 10 = r + 2 ∧ mR h r 11 = r + 3 ∧ mR h r 12 = r + 4 ∧ mR h r 13 = r + 5 ∧ mR h r 14 = r + 6 ∧ mR h r 15 = r + 7 ∧ mR h r 16 = r + 8 ∧ mR h r 17 = r + 9 ∧ mR h r 18 = r + 10 ∧ mR h r 19 = r + 11 ∧ mT h (r + 1) = (100, 6) ∧ mT h (r + 2) = (100, 48) ∧ mT h (r + 3) = (100, 20) ∧ mT h (r + 4) = (100, 10) ∧ mT h (r + 5) = (100, 10) ∧ mT h (r + 6) = (100, 10) ∧ mT h (r + 7) = (100, 49) ∧ mT h (r + 8) = (100, 24) ∧ mT h (r + 9) = (100, 5) ∧ mT h (r + 10) = (100, 20) ∧ mT h (r + 11) = (100, 21)
def PK (h : Mem) (p : Nat) : Prop := mT h p = (10, 0) ∧ mR h p 10 = p + 1 ∧ mR h p 11 = p + 2 ∧ mR h p 12 = p + 3 ∧ mR h p 13 = p + 4 ∧ mR h p 14 = p + 5 ∧ mR h p 15 = p + 6 ∧ mR h p 16 = p + 7 ∧ mR h p 17 = p + 8 ∧ mR h p 18 = p + 9 ∧ mR h p 19 = p + 10 ∧ mR h p 20 = p + 11 ∧ mR h p 21 = p + 12 ∧ mR h p 22 = p + 13 ∧ mR h p 23 = p + 14 ∧ mR h p 24 = p + 15 ∧ mR h p 25 = p + 16 ∧ mR h p 26 = p + 17 ∧ mR h p 27 = p + 18 ∧ mT h (p + 1) = (100, 6) ∧ mT h (p + 2) = (100, 48) ∧ mT h (p + 3) = (100, 49) ∧ mT h (p + 4) = (100, 49) ∧ mT h (p + 5) = (100, 49) ∧ mT h (p + 6) = (100, 10) ∧ mT h (p + 7) = (100, 10) ∧ mT h (p + 8) = (100, 6) ∧ mT h (p + 9) = (100, 6) ∧ mT h (p + 10) = (100, 6) ∧ mT h (p + 11) = (100, 6) ∧ mT h (p + 12) = (100, 4) ∧ mT h (p + 13) = (100, 4) ∧ mT h (p + 14) = (100, 4) ∧ mT h (p + 15) = (100, 5) ∧ mT h (p + 16) = (101, 17) ∧ mT h (p + 17) = (100, 17) ∧ mT h (p + 18) = (100, 17)
theorem tR {h : Mem} {r : Nat} (H : RD h r) : mT h r = (4, 0) := H.1
theorem rR_9 {h : Mem} {r : Nat} (H : RD h r) : mR h r 9 = r + 1 := H.2.1
theorem rR_10 {h : Mem} {r : Nat} (H : RD h r) : mR h r 10 = r + 2 := H.2.2.1
theorem rR_11 {h : Mem} {r : Nat} (H : RD h r) : mR h r 11 = r + 3 := H.2.2.2.1
theorem rR_12 {h : Mem} {r : Nat} (H : RD h r) : mR h r 12 = r + 4 := H.2.2.2.2.1
theorem rR_13 {h : Mem} {r : Nat} (H : RD h r) : mR h r 13 = r + 5 := H.2.2.2.2.2.1
theorem rR_14 {h : Mem} {r : Nat} (H : RD h r) : mR h r 14 = r + 6 := H.2.2.2.2.2.2.1
theorem rR_15 {h : Mem} {r : Nat} (H : RD h r) : mR h r 15 = r + 7 := H.2.2.2.2.2.2.2.1
theorem rR_16 {h : Mem} {r : Nat} (H : RD h r) : mR h r 16 = r + 8 := H.2.2.2.2.2.2.2.2.1
theorem rR_17 {h : Mem} {r : Nat} (H : RD h r) : mR h r 17 = r + 9 := H.2.2.2.2.2.2.2.2.2.1
theorem rR_18 {h : Mem} {r : Nat} (H : RD h r) : mR h r 18 = r + 10 := H.2.2.2.2.2.2.2.2.2.2.1
theorem rR_19 {h : Mem} {r : Nat} (H : RD h r) : mR h r 19 = r + 11 := H.2.2.2.2.2.2.2.2.2.2.2.1
theorem tR_1 {h : Mem} {r : Nat} (H : RD h r) : mT h (r + 1) = (100, 6) := H.2.2.2.2.2.2.2.2.2.2.2.2.1
theorem tR_2 {h : Mem} {r : Nat} (H : RD h r) : mT h (r + 2) = (100, 48) := H.2.2.2.2.2.2.2.2.2.2.2.2.2.1
theorem tR_3 {h : Mem} {r : Nat} (H : RD h r) : mT h (r + 3) = (100, 20) := H.2.2.2.2.2.2.2.2.2.2.2.2.2.2.1
theorem tR_4 {h : Mem} {r : Nat} (H : RD h r) : mT h (r + 4) = (100, 10) := H.2.2.2.2.2.2.2.2.2.2.2.2.2.2.2.1
theorem tR_5 {h : Mem} {r : Nat} (H : RD h r) : mT h (r + 5) = (100, 10) := H.2.2.2.2.2.2.2.2.2.2.2.2.2.2.2.2.1
theorem tR_6 {h : Mem} {r : Nat} (H : RD h r) : mT h (r + 6) = (100, 10) := H.2.2.2.2.2.2.2.2.2.2.2.2.2.2.2.2.2.1
theorem tR_7 {h : Mem} {r : Nat} (H : RD h r) : mT h (r + 7) = (100, 49) := H.2.2.2.2.2.2.2.2.2.2.2.2.2.2.2.2.2.2.1
theorem tR_8 {h : Mem} {r : Nat} (H : RD h r) : mT h (r + 8) = (100, 24) := H.2.2.2.2.2.2.2.2.2.2.2.2.2.2.2.2.2.2.2.1
theorem tR_9 {h : Mem} {r : Nat} (H : RD h r) : mT h (r + 9) = (100, 5) := H.2.2.2.2.2.2.2.2.2.2.2.2.2.2.2.2.2.2.2.2.1
theorem tR_10 {h : Mem} {r : Nat} (H : RD h r) : mT h (r + 10) = (100, 20) := H.2.2.2.2.2.2.2.2.2.2.2.2.2.2.2.2.2.2.2.2.2.1
theorem tR_11 {h : Mem} {r : Nat} (H : RD h r) : mT h (r + 11) = (100, 21) := H.2.2.2.2.2.2.2.2.2.2.2.2.2.2.2.2.2.2.2.2.2.2
theorem tP {h : Mem} {p : Nat} (H : PK h p) : mT h p = (10, 0) := H.1
theorem rP_10 {h : Mem} {p : Nat} (H : PK h p) : mR h p 10 = p + 1 := H.2.1
theorem rP_11 {h : Mem} {p : Nat} (H : PK h p) : mR h p 11 = p + 2 := H.2.2.1
theorem rP_12 {h : Mem} {p : Nat} (H : PK h p) : mR h p 12 = p + 3 := H.2.2.2.1
theorem rP_13 {h : Mem} {p : Nat} (H : PK h p) : mR h p 13 = p + 4 := H.2.2.2.2.1
theorem rP_14 {h : Mem} {p : Nat} (H : PK h p) : mR h p 14 = p + 5 := H.2.2.2.2.2.1
theorem rP_15 {h : Mem} {p : Nat} (H : PK h p) : mR h p 15 = p + 6 := H.2.2.2.2.2.2.1
theorem rP_16 {h : Mem} {p : Nat} (H : PK h p) : mR h p 16 = p + 7 := H.2.2.2.2.2.2.2.1
theorem rP_17 {h : Mem} {p : Nat} (H : PK h p) : mR h p 17 = p + 8 := H.2.2.2.2.2.2.2.2.1
theorem rP_18 {h : Mem} {p : Nat} (H : PK h p) : mR h p 18 = p + 9 := H.2.2.2.2.2.2.2.2.2.1
theorem rP_19 {h : Mem} {p : Nat} (H : PK h p) : mR h p 19 = p + 10 := H.2.2.2.2.2.2.2.2.2.2.1
theorem rP_20 {h : Mem} {p : Nat} (H : PK h p) : mR h p 20 = p + 11 := H.2.2.2.2.2.2.2.2.2.2.2.1
theorem rP_21 {h : Mem} {p : Nat} (H : PK h p) : mR h p 21 = p + 12 := H.2.2.2.2.2.2.2.2.2.2.2.2.1
theorem rP_22 {h : Mem} {p : Nat} (H : PK h p) : mR h p 22 = p + 13 := H.2.2.2.2.2.2.2.2.2.2.2.2.2.1
theorem rP_23 {h : Mem} {p : Nat} (H : PK h p) : mR h p 23 = p + 14 := H.2.2.2.2.2.2.2.2.2.2.2.2.2.2.1
theorem rP_24 {h : Mem} {p : Nat} (H : PK h p) : mR h p 24 = p + 15 := H.2.2.2.2.2.2.2.2.2.2.2.2.2.2.2.1
theorem rP_25 {h : Mem} {p : Nat} (H : PK h p) : mR h p 25 = p + 16 := H.2.2.2.2.2.2.2.2.2.2.2.2.2.2.2.2.1
theorem rP_26 {h : Mem} {p : Nat} (H : PK h p) : mR h p 26 = p + 17 := H.2.2.2.2.2.2.2.2.2.2.2.2.2.2.2.2.2.1
theorem rP_27 {h : Mem} {p : Nat} (H : PK h p) : mR h p 27 = p + 18 := H.2.2.2.2.2.2.2.2.2.2.2.2.2.2.2.2.2.2.1
theorem tP_1 {h : Mem} {p : Nat} (H : PK h p) : mT h (p + 1) = (100, 6) := H.2.2.2.2.2.2.2.2.2.2.2.2.2.2.2.2.2.2.2.1
theorem tP_2 {h : Mem} {p : Nat} (H : PK h p) : mT h (p + 2) = (100, 48) := H.2.2.2.2.2.2.2.2.2.2.2.2.2.2.2.2.2.2.2.2.1
theorem tP_3 {h : Mem} {p : Nat} (H : PK h p) : mT h (p + 3) = (100, 49) := H.2.2.2.2.2.2.2.2.2.2.2.2.2.2.2.2.2.2.2.2.2.1
theorem tP_4 {h : Mem} {p : Nat} (H : PK h p) : mT h (p + 4) = (100, 49) := H.2.2.2.2.2.2.2.2.2.2.2.2.2.2.2.2.2.2.2.2.2.2.1
theorem tP_5 {h : Mem} {p : Nat} (H : PK h p) : mT h (p + 5) = (100, 49) := H.2.2.2.2.2.2.2.2.2.2.2.2.2.2.2.2.2.2.2.2.2.2.2.1
theorem tP_6 {h : Mem} {p : Nat} (H : PK h p) : mT h (p + 6) = (100, 10) := H.2.2.2.2.2.2.2.2.2.2.2.2.2.2.2.2.2.2.2.2.2.2.2.2.1
theorem tP_7 {h : Mem} {p : Nat} (H : PK h p) : mT h (p + 7) = (100, 10) := H.2.2.2.2.2.2.2.2.2.2.2.2.2.2.2.2.2.2.2.2.2.2.2.2.2.1
theorem tP_8 {h : Mem} {p : Nat} (H : PK h p) : mT h (p + 8) = (100, 6) := H.2.2.2.2.2.2.2.2.2.2.2.2.2.2.2.2.2.2.2.2.2.2.2.2.2.2.1
theorem tP_9 {h : Mem} {p : Nat} (H : PK h p) : mT h (p + 9) = (100, 6) := H.2.2.2.2.2.2.2.2.2.2.2.2.2.2.2.2.2.2.2.2.2.2.2.2.2.2.2.1
theorem tP_10 {h : Mem} {p : Nat} (H : PK h p) : mT h (p + 10) = (100, 6) := H.2.2.2.2.2.2.2.2.2.2.2.2.2.2.2.2.2.2.2.2.2.2.2.2.2.2.2.2.1
theorem tP_11 {h : Mem} {p : Nat} (H : PK h p) : mT h (p + 11) = (100, 6) := H.2.2.2.2.2.2.2.2.2.2.2.2.2.2.2.2.2.2.2.2.2.2.2.2.2.2.2.2.2.1
theorem tP_12 {h : Mem} {p : Nat} (H : PK h p) : mT h (p + 12) = (100, 4) := H.2.2.2.2.2.2.2.2.2.2.2.2.2.2.2.2.2.2.2.2.2.2.2.2.2.2.2.2.2.2.1
theorem tP_13 {h : Mem} {p : Nat} (H : PK h p) : mT h (p + 13) = (100, 4) := H.2.2.2.2.2.2.2.2.2.2.2.2.2.2.2.2.2.2.2.2.2.2.2.2.2.2.2.2.2.2.2.1
theorem tP_14 {h : Mem} {p : Nat} (H : PK h p) : mT h (p + 14) = (100, 4) := H.2.2.2.2.2.2.2.2.2.2.2.2.2.2.2.2.2.2.2.2.2.2.2.2.2.2.2.2.2.2.2.2.1
theorem tP_15 {h : Mem} {p : Nat} (H : PK h p) : mT h (p + 15) = (100, 5) := H.2.2.2.2.2.2.2.2.2.2.2.2.2.2.2.2.2.2.2.2.2.2.2.2.2.2.2.2.2.2.2.2.2.1
theorem tP_16 {h : Mem} {p : Nat} (H : PK h p) : mT h (p + 16) = (101, 17) := H.2.2.2.2.2.2.2.2.2.2.2.2.2.2.2.2.2.2.2.2.2.2.2.2.2.2.2.2.2.2.2.2.2.2.1
theorem tP_17 {h : Mem} {p : Nat} (H : PK h p) : mT h (p + 17) = (100, 17) := H.2.2.2.2.2.2.2.2.2.2.2.2.2.2.2.2.2.2.2.2.2.2.2.2.2.2.2.2.2.2.2.2.2.2.2.1
theorem tP_18 {h : Mem} {p : Nat} (H : PK h p) : mT h (p + 18) = (100, 17) := H.2.2.2.2.2.2.2.2.2.2.2.2.2.2.2.2.2.2.2.2.2.2.2.2.2.2.2.2.2.2.2.2.2.2.2.2
theorem SH.r2 {h : Mem} (H : SH h) : RD h 2 := ⟨tS_2 H, rS_2_9 H, rS_2_10 H, rS_2_11 H, rS_2_12 H, rS_2_13 H, rS_2_14 H, rS_2_15 H, rS_2_16 H, rS_2_17 H, rS_2_18 H, rS_2_19 H, tS_3 H, tS_4 H, tS_5 H, tS_6 H, tS_7 H, tS_8 H, tS_9 H, tS_10 H, tS_11 H, tS_12 H, tS_13 H⟩
theorem SH.r21 {h : Mem} (H : SH h) : RD h 21 := ⟨tS_21 H, rS_21_9 H, rS_21_10 H, rS_21_11 H, rS_21_12 H, rS_21_13 H, rS_21_14 H, rS_21_15 H, rS_21_16 H, rS_21_17 H, rS_21_18 H, rS_21_19 H, tS_22 H, tS_23 H, tS_24 H, tS_25 H, tS_26 H, tS_27 H, tS_28 H, tS_29 H, tS_30 H, tS_31 H, tS_32 H⟩
/-! the memory's operations where the kinds are known -/
theorem ck_of {h : Mem} {a c : Nat} {z : Nat} (e : mT h a = (c, z)) : ck h a c = some () := if_pos (by rw [e])
theorem gI_of {h : Mem} {a k c z : Nat} (e : mT h a = (c, z)) : gI h a k c = some (mI h a k) := if_pos (by rw [e])
theorem gL_of {h : Mem} {a k c z : Nat} (e : mT h a = (c, z)) : gL h a k c = some (mL h a k) := if_pos (by rw [e])
theorem gR_of {h : Mem} {a k c z : Nat} (e : mT h a = (c, z)) : gR h a k c = some (mR h a k) := if_pos (by rw [e])
theorem pI_of {h : Mem} {a k c z : Nat} {v : Int32} (e : mT h a = (c, z)) : pI h a k c v = some (wI h a k v) := if_pos (by rw [e])
theorem pL_of {h : Mem} {a k c z : Nat} {v : Int64} (e : mT h a = (c, z)) : pL h a k c v = some (wL h a k v) := if_pos (by rw [e])
theorem pR_of {h : Mem} {a k c z : Nat} {v : Nat} (e : mT h a = (c, z)) : pR h a k c v = some (wR h a k v) := if_pos (by rw [e])
theorem ix_ok {i n : Nat} (hi : i < n) (hn : n < 2 ^ 31) : 0 ≤ (nI i).toInt ∧ (nI i).toInt < (n : Int) := by
  rw [nI_toInt (by omega)]
  omega
theorem aI_of {h : Mem} {a n i : Nat} (e : mT h a = (100, n)) (hi : i < n) (hn : n < 2 ^ 31) : aI h a (nI i) = some (mI h a i) := by
  unfold aI
  rw [e, if_pos ⟨rfl, ix_ok hi hn⟩, nI_clamp (by omega)]
theorem aL_of {h : Mem} {a n i : Nat} (e : mT h a = (101, n)) (hi : i < n) (hn : n < 2 ^ 31) : aL h a (nI i) = some (mL h a i) := by
  unfold aL
  rw [e, if_pos ⟨rfl, ix_ok hi hn⟩, nI_clamp (by omega)]
theorem aB_of {h : Mem} {a n i : Nat} (e : mT h a = (102, n)) (hi : i < n) (hn : n < 2 ^ 31) : aB h a (nI i) = some (mI h a i) := by
  unfold aB
  rw [e, if_pos ⟨rfl, ix_ok hi hn⟩, nI_clamp (by omega)]
theorem sI_of {h : Mem} {a n i : Nat} {v : Int32} (e : mT h a = (100, n)) (hi : i < n) (hn : n < 2 ^ 31) : sI h a (nI i) v = some (wI h a i v) := by
  unfold sI
  rw [e, if_pos ⟨rfl, ix_ok hi hn⟩, nI_clamp (by omega)]
theorem sL_of {h : Mem} {a n i : Nat} {v : Int64} (e : mT h a = (101, n)) (hi : i < n) (hn : n < 2 ^ 31) : sL h a (nI i) v = some (wL h a i v) := by
  unfold sL
  rw [e, if_pos ⟨rfl, ix_ok hi hn⟩, nI_clamp (by omega)]
theorem sB_of {h : Mem} {a n i : Nat} {v : Int32} (e : mT h a = (102, n)) (hi : i < n) (hn : n < 2 ^ 31) : sB h a (nI i) v = some (wI h a i (vp_nar .byte v)) := by
  unfold sB
  rw [e, if_pos ⟨rfl, ix_ok hi hn⟩, nI_clamp (by omega)]
theorem aLen_of {h : Mem} {a n : Nat} (e : mT h a = (100, n)) : aLen h a = some (nI n) := by
  unfold aLen
  rw [e, if_pos (Or.inl rfl)]
  rfl
theorem cpI_of {h : Mem} {a0 a n0 n1 sp dp n : Nat} (e0 : mT h a0 = (100, n0)) (e1 : mT h a = (100, n1)) (h0 : sp + n ≤ n0) (h1 : dp + n ≤ n1) (b0 : n0 < 2 ^ 31) (b1 : n1 < 2 ^ 31) : cpI h a0 (nI sp) a (nI dp) (nI n) = some (rowI h a (va_cpy (mI h a0) (mI h a) sp dp n)) := by
  unfold cpI
  rw [e0, e1, nI_clamp (show sp < 2 ^ 31 by omega), nI_clamp (show dp < 2 ^ 31 by omega), nI_clamp (show n < 2 ^ 31 by omega), if_pos ⟨rfl, rfl, nI_pos (by omega), nI_pos (by omega), nI_pos (by omega), h0, h1⟩]
theorem idv_of {a d : Nat} (ha : a < 2 ^ 31) (h0 : 0 < d) (hd : d < 2 ^ 31) : idv (nI a) (nI d) = some (nI (a / d)) := by
  unfold idv
  rw [if_neg (nI_ne0 h0 hd), pk_div ha h0 hd]
theorem irm_of {a d : Nat} (ha : a < 2 ^ 31) (h0 : 0 < d) (hd : d < 2 ^ 31) : irm (nI a) (nI d) = some (nI (a % d)) := by
  unfold irm
  rw [if_neg (nI_ne0 h0 hd), pk_rem ha h0 hd]
theorem mT_wI (h : Mem) (a k : Nat) (v : Int32) : mT (wI h a k v) = mT h := rfl
theorem mR_wI (h : Mem) (a k : Nat) (v : Int32) : mR (wI h a k v) = mR h := rfl
theorem mL_wI (h : Mem) (a k : Nat) (v : Int32) : mL (wI h a k v) = mL h := rfl
theorem mN_wI (h : Mem) (a k : Nat) (v : Int32) : mN (wI h a k v) = mN h := rfl
theorem mT_wL (h : Mem) (a k : Nat) (v : Int64) : mT (wL h a k v) = mT h := rfl
theorem mR_wL (h : Mem) (a k : Nat) (v : Int64) : mR (wL h a k v) = mR h := rfl
theorem mI_wL (h : Mem) (a k : Nat) (v : Int64) : mI (wL h a k v) = mI h := rfl
theorem mN_wL (h : Mem) (a k : Nat) (v : Int64) : mN (wL h a k v) = mN h := rfl
theorem mT_wR (h : Mem) (a k : Nat) (v : Nat) : mT (wR h a k v) = mT h := rfl
theorem mI_wR (h : Mem) (a k : Nat) (v : Nat) : mI (wR h a k v) = mI h := rfl
theorem mL_wR (h : Mem) (a k : Nat) (v : Nat) : mL (wR h a k v) = mL h := rfl
theorem mN_wR (h : Mem) (a k : Nat) (v : Nat) : mN (wR h a k v) = mN h := rfl
theorem mI_wI_ne (h : Mem) {a b : Nat} (k : Nat) (v : Int32) (e : b ≠ a) : mI (wI h a k v) b = mI h b := mI_row_ne h _ e
theorem mI_wI_at (h : Mem) (a k : Nat) (v : Int32) : mI (wI h a k v) a = upd (mI h a) k v := mI_row h a _
theorem mL_wL_ne (h : Mem) {a b : Nat} (k : Nat) (v : Int64) (e : b ≠ a) : mL (wL h a k v) b = mL h b := mL_row_ne h _ e
theorem mL_wL_at (h : Mem) (a k : Nat) (v : Int64) : mL (wL h a k v) a = vp_updL (mL h a) k v := mL_row h a _
theorem mR_wR_ne (h : Mem) {a b : Nat} (k : Nat) (v : Nat) (e : b ≠ a) : mR (wR h a k v) b = mR h b := mR_row_ne h _ e
theorem mR_wR_at (h : Mem) (a k : Nat) (v : Nat) : mR (wR h a k v) a = updN (mR h a) k v := mR_row h a _
/-! loops -/
theorem iter_step {σ ρ : Type} {f : σ → Option (σ ⊕ ρ)} {n : Nat} {s s' : σ} (h : f s = some (.inl s')) : iter f (n + 1) s = iter f n s' := by
  show (f s).bind _ = _
  rw [h]
  rfl
theorem iter_exit {σ ρ : Type} {f : σ → Option (σ ⊕ ρ)} {n : Nat} {s : σ} {r : ρ} (h : f s = some (.inr r)) : iter f (n + 1) s = some r := by
  show (f s).bind _ = _
  rw [h]
  rfl
theorem iter_n {σ ρ : Type} {f : σ → Option (σ ⊕ ρ)} (S : Nat → σ) : ∀ (k n : Nat), (∀ i, i < k → f (S i) = some (.inl (S (i + 1)))) → iter f (n + k) (S 0) = iter f n (S k)
  | 0, _, _ => rfl
  | k + 1, n, h => by
    rw [show n + (k + 1) = (n + 1) + k by omega, iter_n S k (n + 1) (fun i hi => h i (by omega)), iter_step (h k (by omega))]
/-- a loop that goes through S 0, S 1, .. and leaves at S k -/
theorem iter_for {σ ρ : Type} {f : σ → Option (σ ⊕ ρ)} (S : Nat → σ) (k : Nat) {N : Nat} {r : ρ} (hN : k < N) (hs : ∀ i, i < k → f (S i) = some (.inl (S (i + 1)))) (he : f (S k) = some (.inr r)) : iter f N (S 0) = some r := by
  obtain ⟨n, rfl⟩ : ∃ n, N = (n + 1) + k := ⟨N - 1 - k, by omega⟩
  rw [iter_n S k (n + 1) hs, iter_exit he]
/-- .. from S a on -/
theorem iter_from {σ ρ : Type} {f : σ → Option (σ ⊕ ρ)} (S : Nat → σ) (a k : Nat) {N : Nat} {r : ρ} (hak : a ≤ k) (hN : k - a < N) (hs : ∀ i, a ≤ i → i < k → f (S i) = some (.inl (S (i + 1)))) (he : f (S k) = some (.inr r)) : iter f N (S a) = some r :=
  iter_for (fun i => S (a + i)) (k - a) hN (fun i hi => by
    have := hs (a + i) (by omega) (by omega)
    exact this) (by
    show f (S (a + (k - a))) = _
    rw [show a + (k - a) = k by omega]; exact he)
theorem FU_lt {n : Nat} (h : n < 100000) : n < FU := h
