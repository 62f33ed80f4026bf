/-! ===== what stands at each place of the code ===== -/
theorem zi94_0 : zat 94 0 (.aload 4) 2 (0, 0, 0, 0, .null) := ⟨2, rfl, rfl⟩
theorem zi94_2 : zat 94 2 (.aload_n 0) 3 (0, 0, 0, 0, .null) := ⟨1, rfl, rfl⟩
theorem zi94_3 : zat 94 3 (.iload_n 1) 4 (0, 0, 0, 0, .null) := ⟨1, rfl, rfl⟩
theorem zi94_4 : zat 94 4 (.iload_n 2) 5 (0, 0, 0, 0, .null) := ⟨1, rfl, rfl⟩
theorem zi94_5 : zat 94 5 (.iload_n 3) 6 (0, 0, 0, 0, .null) := ⟨1, rfl, rfl⟩
theorem zi94_6 : zat 94 6 (.invokevirtual 51) 9 (0, 95, 3, 0, .null) := ⟨3, rfl, rfl⟩
theorem zi94_9 : zat 94 9 (.i2l) 10 (0, 0, 0, 0, .null) := ⟨1, rfl, rfl⟩
theorem zi94_10 : zat 94 10 (.putfield 13) 13 (3, 0, 3, 0, .null) := ⟨3, rfl, rfl⟩
theorem zi94_13 : zat 94 13 (.goto 15) 16 (0, 0, 0, 0, .null) := ⟨3, rfl, rfl⟩
theorem zi94_16 : zat 94 16 (.astore 5) 18 (0, 0, 0, 0, .null) := ⟨2, rfl, rfl⟩
theorem zi94_18 : zat 94 18 (.iconst 1) 19 (0, 0, 0, 0, .null) := ⟨1, rfl, rfl⟩
theorem zi94_19 : zat 94 19 (.ireturn) 20 (0, 0, 0, 0, .null) := ⟨1, rfl, rfl⟩
theorem zi94_20 : zat 94 20 (.astore 5) 22 (0, 0, 0, 0, .null) := ⟨2, rfl, rfl⟩
theorem zi94_22 : zat 94 22 (.iconst 2) 23 (0, 0, 0, 0, .null) := ⟨1, rfl, rfl⟩
theorem zi94_23 : zat 94 23 (.ireturn) 24 (0, 0, 0, 0, .null) := ⟨1, rfl, rfl⟩
theorem zi94_24 : zat 94 24 (.astore 5) 26 (0, 0, 0, 0, .null) := ⟨2, rfl, rfl⟩
theorem zi94_26 : zat 94 26 (.iconst 3) 27 (0, 0, 0, 0, .null) := ⟨1, rfl, rfl⟩
theorem zi94_27 : zat 94 27 (.ireturn) 28 (0, 0, 0, 0, .null) := ⟨1, rfl, rfl⟩
theorem zi94_28 : zat 94 28 (.iconst 0) 29 (0, 0, 0, 0, .null) := ⟨1, rfl, rfl⟩
theorem zi94_29 : zat 94 29 (.ireturn) 30 (0, 0, 0, 0, .null) := ⟨1, rfl, rfl⟩
theorem zrt94 : zrt 94 = some .int := rfl
theorem zhh94 : zhh 94 = [(0, 13, 16, 27), (0, 13, 20, 19), (0, 13, 24, 21)] := rfl
theorem zi95_0 : zat 95 0 (.aload_n 0) 1 (0, 0, 0, 0, .null) := ⟨1, rfl, rfl⟩
theorem zi95_1 : zat 95 1 (.iload_n 1) 2 (0, 0, 0, 0, .null) := ⟨1, rfl, rfl⟩
theorem zi95_2 : zat 95 2 (.invokevirtual 51) 5 (0, 13, 1, 0, .null) := ⟨3, rfl, rfl⟩
theorem zi95_5 : zat 95 5 (.astore 4) 7 (0, 0, 0, 0, .null) := ⟨2, rfl, rfl⟩
theorem zi95_7 : zat 95 7 (.iload_n 2) 8 (0, 0, 0, 0, .null) := ⟨1, rfl, rfl⟩
theorem zi95_8 : zat 95 8 (.ifCond .lt 15) 11 (0, 0, 0, 0, .null) := ⟨3, rfl, rfl⟩
theorem zi95_11 : zat 95 11 (.iload_n 2) 12 (0, 0, 0, 0, .null) := ⟨1, rfl, rfl⟩
theorem zi95_12 : zat 95 12 (.aload 4) 14 (0, 0, 0, 0, .null) := ⟨2, rfl, rfl⟩
theorem zi95_14 : zat 95 14 (.getfield 55) 17 (4, 0, 6, 2, .null) := ⟨3, rfl, rfl⟩
theorem zi95_17 : zat 95 17 (.getfield 157) 20 (1, 4, 0, 0, .null) := ⟨3, rfl, rfl⟩
theorem zi95_20 : zat 95 20 (.if_icmp .lt 13) 23 (0, 0, 0, 0, .null) := ⟨3, rfl, rfl⟩
theorem zi95_23 : zat 95 23 (.new 160) 26 (1002, 162, 164, 0, .null) := ⟨3, rfl, rfl⟩
theorem zi95_26 : zat 95 26 (.dup) 27 (0, 0, 0, 0, .null) := ⟨1, rfl, rfl⟩
theorem zi95_33 : zat 95 33 (.iload_n 3) 34 (0, 0, 0, 0, .null) := ⟨1, rfl, rfl⟩
theorem zi95_34 : zat 95 34 (.ifCond .lt 17) 37 (0, 0, 0, 0, .null) := ⟨3, rfl, rfl⟩
theorem zi95_37 : zat 95 37 (.iload_n 3) 38 (0, 0, 0, 0, .null) := ⟨1, rfl, rfl⟩
theorem zi95_38 : zat 95 38 (.iconst 1) 39 (0, 0, 0, 0, .null) := ⟨1, rfl, rfl⟩
theorem zi95_39 : zat 95 39 (.aload 4) 41 (0, 0, 0, 0, .null) := ⟨2, rfl, rfl⟩
theorem zi95_41 : zat 95 41 (.getfield 55) 44 (4, 0, 6, 2, .null) := ⟨3, rfl, rfl⟩
theorem zi95_44 : zat 95 44 (.getfield 154) 47 (1, 3, 0, 0, .null) := ⟨3, rfl, rfl⟩
theorem zi95_47 : zat 95 47 (.ishl) 48 (0, 0, 0, 0, .null) := ⟨1, rfl, rfl⟩
theorem zi95_48 : zat 95 48 (.if_icmp .lt 13) 51 (0, 0, 0, 0, .null) := ⟨3, rfl, rfl⟩
theorem zi95_51 : zat 95 51 (.new 38) 54 (1000, 165, 42, 0, .null) := ⟨3, rfl, rfl⟩
theorem zi95_54 : zat 95 54 (.dup) 55 (0, 0, 0, 0, .null) := ⟨1, rfl, rfl⟩
theorem zi95_61 : zat 95 61 (.aload 4) 63 (0, 0, 0, 0, .null) := ⟨2, rfl, rfl⟩
theorem zi95_63 : zat 95 63 (.invokestatic 143) 66 (3, 91, 1, 0, .null) := ⟨3, rfl, rfl⟩
theorem zi95_66 : zat 95 66 (.aload 4) 68 (0, 0, 0, 0, .null) := ⟨2, rfl, rfl⟩
theorem zi95_68 : zat 95 68 (.getfield 55) 71 (4, 0, 6, 2, .null) := ⟨3, rfl, rfl⟩
theorem zi95_71 : zat 95 71 (.iload_n 2) 72 (0, 0, 0, 0, .null) := ⟨1, rfl, rfl⟩
theorem zi95_72 : zat 95 72 (.iload_n 3) 73 (0, 0, 0, 0, .null) := ⟨1, rfl, rfl⟩
theorem zi95_73 : zat 95 73 (.invokevirtual 167) 76 (0, 96, 2, 1, .null) := ⟨3, rfl, rfl⟩
theorem zi95_76 : zat 95 76 (.aload 4) 78 (0, 0, 0, 0, .null) := ⟨2, rfl, rfl⟩
theorem zi95_78 : zat 95 78 (.getfield 55) 81 (4, 0, 6, 2, .null) := ⟨3, rfl, rfl⟩
theorem zi95_81 : zat 95 81 (.iconst 1) 82 (0, 0, 0, 0, .null) := ⟨1, rfl, rfl⟩
theorem zi95_82 : zat 95 82 (.invokevirtual 170) 85 (0, 14, 1, 1, .null) := ⟨3, rfl, rfl⟩
theorem zi95_85 : zat 95 85 (.ireturn) 86 (0, 0, 0, 0, .null) := ⟨1, rfl, rfl⟩
theorem zrt95 : zrt 95 = some .int := rfl
theorem zhh95 : zhh 95 = [] := rfl
theorem zi96_0 : zat 96 0 (.iconst 0) 1 (0, 0, 0, 0, .null) := ⟨1, rfl, rfl⟩
theorem zi96_1 : zat 96 1 (.istore_n 3) 2 (0, 0, 0, 0, .null) := ⟨1, rfl, rfl⟩
theorem zi96_2 : zat 96 2 (.iload_n 3) 3 (0, 0, 0, 0, .null) := ⟨1, rfl, rfl⟩
theorem zi96_3 : zat 96 3 (.aload_n 0) 4 (0, 0, 0, 0, .null) := ⟨1, rfl, rfl⟩
theorem zi96_4 : zat 96 4 (.getfield 21) 7 (1, 3, 0, 0, .null) := ⟨3, rfl, rfl⟩
theorem zi96_7 : zat 96 7 (.if_icmp .ge 35) 10 (0, 0, 0, 0, .null) := ⟨3, rfl, rfl⟩
theorem zi96_10 : zat 96 10 (.aload_n 0) 11 (0, 0, 0, 0, .null) := ⟨1, rfl, rfl⟩
theorem zi96_11 : zat 96 11 (.aload_n 0) 12 (0, 0, 0, 0, .null) := ⟨1, rfl, rfl⟩
theorem zi96_12 : zat 96 12 (.iload_n 1) 13 (0, 0, 0, 0, .null) := ⟨1, rfl, rfl⟩
theorem zi96_13 : zat 96 13 (.iload_n 3) 14 (0, 0, 0, 0, .null) := ⟨1, rfl, rfl⟩
theorem zi96_14 : zat 96 14 (.invokevirtual 51) 17 (0, 21, 2, 1, .null) := ⟨3, rfl, rfl⟩
theorem zi96_17 : zat 96 17 (.iload_n 2) 18 (0, 0, 0, 0, .null) := ⟨1, rfl, rfl⟩
theorem zi96_18 : zat 96 18 (.iload_n 3) 19 (0, 0, 0, 0, .null) := ⟨1, rfl, rfl⟩
theorem zi96_19 : zat 96 19 (.invokestatic 54) 22 (4, 28, 2, 0, .null) := ⟨3, rfl, rfl⟩
theorem zi96_22 : zat 96 22 (.ifCond .eq 7) 25 (0, 0, 0, 0, .null) := ⟨3, rfl, rfl⟩
theorem zi96_25 : zat 96 25 (.iconst 1) 26 (0, 0, 0, 0, .null) := ⟨1, rfl, rfl⟩
theorem zi96_26 : zat 96 26 (.goto 4) 29 (0, 0, 0, 0, .null) := ⟨3, rfl, rfl⟩
theorem zi96_29 : zat 96 29 (.iconst 2) 30 (0, 0, 0, 0, .null) := ⟨1, rfl, rfl⟩
theorem zi96_30 : zat 96 30 (.iconst (-1)) 31 (0, 0, 0, 0, .null) := ⟨1, rfl, rfl⟩
theorem zi96_31 : zat 96 31 (.iconst 0) 32 (0, 0, 0, 0, .null) := ⟨1, rfl, rfl⟩
theorem zi96_32 : zat 96 32 (.iconst 0) 33 (0, 0, 0, 0, .null) := ⟨1, rfl, rfl⟩
theorem zi96_33 : zat 96 33 (.invokevirtual 39) 36 (0, 3, 5, 1, .null) := ⟨3, rfl, rfl⟩
theorem zi96_36 : zat 96 36 (.iinc 3 1) 39 (0, 0, 0, 0, .null) := ⟨3, rfl, rfl⟩
theorem zi96_39 : zat 96 39 (.goto (-37)) 42 (0, 0, 0, 0, .null) := ⟨3, rfl, rfl⟩
theorem zi96_42 : zat 96 42 (.return_) 43 (0, 0, 0, 0, .null) := ⟨1, rfl, rfl⟩
theorem zrt96 : zrt 96 = none := rfl
theorem zhh96 : zhh 96 = [] := rfl
theorem zi97_0 : zat 97 0 (.aload_n 2) 1 (0, 0, 0, 0, .null) := ⟨1, rfl, rfl⟩
theorem zi97_1 : zat 97 1 (.aload_n 0) 2 (0, 0, 0, 0, .null) := ⟨1, rfl, rfl⟩
theorem zi97_2 : zat 97 2 (.iload_n 1) 3 (0, 0, 0, 0, .null) := ⟨1, rfl, rfl⟩
theorem zi97_3 : zat 97 3 (.invokevirtual 54) 6 (0, 98, 1, 0, .null) := ⟨3, rfl, rfl⟩
theorem zi97_6 : zat 97 6 (.i2l) 7 (0, 0, 0, 0, .null) := ⟨1, rfl, rfl⟩
theorem zi97_7 : zat 97 7 (.putfield 13) 10 (3, 0, 3, 0, .null) := ⟨3, rfl, rfl⟩
theorem zi97_10 : zat 97 10 (.goto 9) 13 (0, 0, 0, 0, .null) := ⟨3, rfl, rfl⟩
theorem zi97_13 : zat 97 13 (.astore_n 3) 14 (0, 0, 0, 0, .null) := ⟨1, rfl, rfl⟩
theorem zi97_14 : zat 97 14 (.iconst 1) 15 (0, 0, 0, 0, .null) := ⟨1, rfl, rfl⟩
theorem zi97_15 : zat 97 15 (.ireturn) 16 (0, 0, 0, 0, .null) := ⟨1, rfl, rfl⟩
theorem zi97_16 : zat 97 16 (.astore_n 3) 17 (0, 0, 0, 0, .null) := ⟨1, rfl, rfl⟩
theorem zi97_17 : zat 97 17 (.iconst 2) 18 (0, 0, 0, 0, .null) := ⟨1, rfl, rfl⟩
theorem zi97_18 : zat 97 18 (.ireturn) 19 (0, 0, 0, 0, .null) := ⟨1, rfl, rfl⟩
theorem zi97_19 : zat 97 19 (.iconst 0) 20 (0, 0, 0, 0, .null) := ⟨1, rfl, rfl⟩
theorem zi97_20 : zat 97 20 (.ireturn) 21 (0, 0, 0, 0, .null) := ⟨1, rfl, rfl⟩
theorem zrt97 : zrt 97 = some .int := rfl
theorem zhh97 : zhh 97 = [(0, 10, 13, 27), (0, 10, 16, 21)] := rfl
theorem zi98_0 : zat 98 0 (.aload_n 0) 1 (0, 0, 0, 0, .null) := ⟨1, rfl, rfl⟩
theorem zi98_1 : zat 98 1 (.iload_n 1) 2 (0, 0, 0, 0, .null) := ⟨1, rfl, rfl⟩
theorem zi98_2 : zat 98 2 (.invokevirtual 51) 5 (0, 13, 1, 0, .null) := ⟨3, rfl, rfl⟩
theorem zi98_5 : zat 98 5 (.astore_n 2) 6 (0, 0, 0, 0, .null) := ⟨1, rfl, rfl⟩
theorem zi98_6 : zat 98 6 (.aload_n 2) 7 (0, 0, 0, 0, .null) := ⟨1, rfl, rfl⟩
theorem zi98_7 : zat 98 7 (.invokestatic 143) 10 (3, 91, 1, 0, .null) := ⟨3, rfl, rfl⟩
theorem zi98_10 : zat 98 10 (.aload_n 2) 11 (0, 0, 0, 0, .null) := ⟨1, rfl, rfl⟩
theorem zi98_11 : zat 98 11 (.getfield 55) 14 (4, 0, 6, 2, .null) := ⟨3, rfl, rfl⟩
theorem zi98_14 : zat 98 14 (.iconst 0) 15 (0, 0, 0, 0, .null) := ⟨1, rfl, rfl⟩
theorem zi98_15 : zat 98 15 (.invokevirtual 170) 18 (0, 14, 1, 1, .null) := ⟨3, rfl, rfl⟩
theorem zi98_18 : zat 98 18 (.ifCond .le 13) 21 (0, 0, 0, 0, .null) := ⟨3, rfl, rfl⟩
theorem zi98_21 : zat 98 21 (.new 45) 24 (1001, 173, 49, 0, .null) := ⟨3, rfl, rfl⟩
theorem zi98_24 : zat 98 24 (.dup) 25 (0, 0, 0, 0, .null) := ⟨1, rfl, rfl⟩
theorem zi98_31 : zat 98 31 (.aload_n 2) 32 (0, 0, 0, 0, .null) := ⟨1, rfl, rfl⟩
theorem zi98_32 : zat 98 32 (.getfield 55) 35 (4, 0, 6, 2, .null) := ⟨3, rfl, rfl⟩
theorem zi98_35 : zat 98 35 (.invokevirtual 175) 38 (0, 99, 0, 1, .null) := ⟨3, rfl, rfl⟩
theorem zi98_38 : zat 98 38 (.istore_n 3) 39 (0, 0, 0, 0, .null) := ⟨1, rfl, rfl⟩
theorem zi98_39 : zat 98 39 (.aload_n 2) 40 (0, 0, 0, 0, .null) := ⟨1, rfl, rfl⟩
theorem zi98_40 : zat 98 40 (.getfield 55) 43 (4, 0, 6, 2, .null) := ⟨3, rfl, rfl⟩
theorem zi98_43 : zat 98 43 (.invokevirtual 178) 46 (0, 2, 0, 1, .null) := ⟨3, rfl, rfl⟩
theorem zi98_46 : zat 98 46 (.iload_n 3) 47 (0, 0, 0, 0, .null) := ⟨1, rfl, rfl⟩
theorem zi98_47 : zat 98 47 (.ireturn) 48 (0, 0, 0, 0, .null) := ⟨1, rfl, rfl⟩
theorem zrt98 : zrt 98 = some .int := rfl
theorem zhh98 : zhh 98 = [] := rfl
theorem zi99_0 : zat 99 0 (.iconst 0) 1 (0, 0, 0, 0, .null) := ⟨1, rfl, rfl⟩
theorem zi99_1 : zat 99 1 (.istore_n 1) 2 (0, 0, 0, 0, .null) := ⟨1, rfl, rfl⟩
theorem zi99_2 : zat 99 2 (.iconst 0) 3 (0, 0, 0, 0, .null) := ⟨1, rfl, rfl⟩
theorem zi99_3 : zat 99 3 (.istore_n 2) 4 (0, 0, 0, 0, .null) := ⟨1, rfl, rfl⟩
theorem zi99_4 : zat 99 4 (.iload_n 2) 5 (0, 0, 0, 0, .null) := ⟨1, rfl, rfl⟩
theorem zi99_5 : zat 99 5 (.aload_n 0) 6 (0, 0, 0, 0, .null) := ⟨1, rfl, rfl⟩
theorem zi99_6 : zat 99 6 (.invokevirtual 31) 9 (0, 4, 0, 1, .null) := ⟨3, rfl, rfl⟩
theorem zi99_9 : zat 99 9 (.if_icmp .ge 31) 12 (0, 0, 0, 0, .null) := ⟨3, rfl, rfl⟩
theorem zi99_12 : zat 99 12 (.aload_n 0) 13 (0, 0, 0, 0, .null) := ⟨1, rfl, rfl⟩
theorem zi99_13 : zat 99 13 (.iload_n 2) 14 (0, 0, 0, 0, .null) := ⟨1, rfl, rfl⟩
theorem zi99_14 : zat 99 14 (.invokevirtual 58) 17 (0, 100, 1, 1, .null) := ⟨3, rfl, rfl⟩
theorem zi99_17 : zat 99 17 (.invokestatic 61) 20 (4, 101, 1, 0, .null) := ⟨3, rfl, rfl⟩
theorem zi99_20 : zat 99 20 (.istore_n 3) 21 (0, 0, 0, 0, .null) := ⟨1, rfl, rfl⟩
theorem zi99_21 : zat 99 21 (.aload_n 0) 22 (0, 0, 0, 0, .null) := ⟨1, rfl, rfl⟩
theorem zi99_22 : zat 99 22 (.iload_n 2) 23 (0, 0, 0, 0, .null) := ⟨1, rfl, rfl⟩
theorem zi99_23 : zat 99 23 (.iload_n 3) 24 (0, 0, 0, 0, .null) := ⟨1, rfl, rfl⟩
theorem zi99_24 : zat 99 24 (.invokevirtual 35) 27 (0, 5, 2, 1, .null) := ⟨3, rfl, rfl⟩
theorem zi99_27 : zat 99 27 (.iload_n 1) 28 (0, 0, 0, 0, .null) := ⟨1, rfl, rfl⟩
theorem zi99_28 : zat 99 28 (.iload_n 3) 29 (0, 0, 0, 0, .null) := ⟨1, rfl, rfl⟩
theorem zi99_29 : zat 99 29 (.invokestatic 64) 32 (4, 44, 1, 0, .null) := ⟨3, rfl, rfl⟩
theorem zi99_32 : zat 99 32 (.iadd) 33 (0, 0, 0, 0, .null) := ⟨1, rfl, rfl⟩
theorem zi99_33 : zat 99 33 (.istore_n 1) 34 (0, 0, 0, 0, .null) := ⟨1, rfl, rfl⟩
theorem zi99_34 : zat 99 34 (.iinc 2 1) 37 (0, 0, 0, 0, .null) := ⟨3, rfl, rfl⟩
theorem zi99_37 : zat 99 37 (.goto (-33)) 40 (0, 0, 0, 0, .null) := ⟨3, rfl, rfl⟩
theorem zi99_40 : zat 99 40 (.iload_n 1) 41 (0, 0, 0, 0, .null) := ⟨1, rfl, rfl⟩
theorem zi99_41 : zat 99 41 (.ireturn) 42 (0, 0, 0, 0, .null) := ⟨1, rfl, rfl⟩
theorem zrt99 : zrt 99 = some .int := rfl
theorem zhh99 : zhh 99 = [] := rfl
theorem zi100_0 : zat 100 0 (.iconst 0) 1 (0, 0, 0, 0, .null) := ⟨1, rfl, rfl⟩
theorem zi100_1 : zat 100 1 (.istore_n 2) 2 (0, 0, 0, 0, .null) := ⟨1, rfl, rfl⟩
theorem zi100_2 : zat 100 2 (.iconst 0) 3 (0, 0, 0, 0, .null) := ⟨1, rfl, rfl⟩
theorem zi100_3 : zat 100 3 (.istore_n 3) 4 (0, 0, 0, 0, .null) := ⟨1, rfl, rfl⟩
theorem zi100_4 : zat 100 4 (.iload_n 3) 5 (0, 0, 0, 0, .null) := ⟨1, rfl, rfl⟩
theorem zi100_5 : zat 100 5 (.aload_n 0) 6 (0, 0, 0, 0, .null) := ⟨1, rfl, rfl⟩
theorem zi100_6 : zat 100 6 (.iload_n 1) 7 (0, 0, 0, 0, .null) := ⟨1, rfl, rfl⟩
theorem zi100_7 : zat 100 7 (.invokevirtual 43) 10 (0, 6, 1, 1, .null) := ⟨3, rfl, rfl⟩
theorem zi100_10 : zat 100 10 (.if_icmp .ge 29) 13 (0, 0, 0, 0, .null) := ⟨3, rfl, rfl⟩
theorem zi100_13 : zat 100 13 (.aload_n 0) 14 (0, 0, 0, 0, .null) := ⟨1, rfl, rfl⟩
theorem zi100_14 : zat 100 14 (.aload_n 0) 15 (0, 0, 0, 0, .null) := ⟨1, rfl, rfl⟩
theorem zi100_15 : zat 100 15 (.iload_n 1) 16 (0, 0, 0, 0, .null) := ⟨1, rfl, rfl⟩
theorem zi100_16 : zat 100 16 (.iload_n 3) 17 (0, 0, 0, 0, .null) := ⟨1, rfl, rfl⟩
theorem zi100_17 : zat 100 17 (.invokevirtual 51) 20 (0, 21, 2, 1, .null) := ⟨3, rfl, rfl⟩
theorem zi100_20 : zat 100 20 (.invokevirtual 67) 23 (0, 16, 1, 1, .null) := ⟨3, rfl, rfl⟩
theorem zi100_23 : zat 100 23 (.iconst 1) 24 (0, 0, 0, 0, .null) := ⟨1, rfl, rfl⟩
theorem zi100_24 : zat 100 24 (.if_icmp .ne 9) 27 (0, 0, 0, 0, .null) := ⟨3, rfl, rfl⟩
theorem zi100_27 : zat 100 27 (.iload_n 2) 28 (0, 0, 0, 0, .null) := ⟨1, rfl, rfl⟩
theorem zi100_28 : zat 100 28 (.iconst 1) 29 (0, 0, 0, 0, .null) := ⟨1, rfl, rfl⟩
theorem zi100_29 : zat 100 29 (.iload_n 3) 30 (0, 0, 0, 0, .null) := ⟨1, rfl, rfl⟩
theorem zi100_30 : zat 100 30 (.ishl) 31 (0, 0, 0, 0, .null) := ⟨1, rfl, rfl⟩
theorem zi100_31 : zat 100 31 (.ior) 32 (0, 0, 0, 0, .null) := ⟨1, rfl, rfl⟩
theorem zi100_32 : zat 100 32 (.istore_n 2) 33 (0, 0, 0, 0, .null) := ⟨1, rfl, rfl⟩
theorem zi100_33 : zat 100 33 (.iinc 3 1) 36 (0, 0, 0, 0, .null) := ⟨3, rfl, rfl⟩
theorem zi100_36 : zat 100 36 (.goto (-32)) 39 (0, 0, 0, 0, .null) := ⟨3, rfl, rfl⟩
theorem zi100_39 : zat 100 39 (.iload_n 2) 40 (0, 0, 0, 0, .null) := ⟨1, rfl, rfl⟩
theorem zi100_40 : zat 100 40 (.ireturn) 41 (0, 0, 0, 0, .null) := ⟨1, rfl, rfl⟩
theorem zrt100 : zrt 100 = some .int := rfl
theorem zhh100 : zhh 100 = [] := rfl
theorem zi101_0 : zat 101 0 (.iload_n 0) 1 (0, 0, 0, 0, .null) := ⟨1, rfl, rfl⟩
theorem zi101_1 : zat 101 1 (.ifCond .lt 19) 4 (0, 0, 0, 0, .null) := ⟨3, rfl, rfl⟩
theorem zi101_4 : zat 101 4 (.iload_n 0) 5 (0, 0, 0, 0, .null) := ⟨1, rfl, rfl⟩
theorem zi101_5 : zat 101 5 (.getstatic 199) 8 (0, 0, 0, 0, .null) := ⟨3, rfl, rfl⟩
theorem zi101_8 : zat 101 8 (.arraylength) 9 (0, 0, 0, 0, .null) := ⟨1, rfl, rfl⟩
theorem zi101_9 : zat 101 9 (.if_icmp .ge 11) 12 (0, 0, 0, 0, .null) := ⟨3, rfl, rfl⟩
theorem zi101_12 : zat 101 12 (.getstatic 199) 15 (0, 0, 0, 0, .null) := ⟨3, rfl, rfl⟩
theorem zi101_15 : zat 101 15 (.iload_n 0) 16 (0, 0, 0, 0, .null) := ⟨1, rfl, rfl⟩
theorem zi101_16 : zat 101 16 (.iaload) 17 (0, 0, 0, 0, .null) := ⟨1, rfl, rfl⟩
theorem zi101_17 : zat 101 17 (.goto 4) 20 (0, 0, 0, 0, .null) := ⟨3, rfl, rfl⟩
theorem zi101_20 : zat 101 20 (.iconst 0) 21 (0, 0, 0, 0, .null) := ⟨1, rfl, rfl⟩
theorem zi101_21 : zat 101 21 (.ireturn) 22 (0, 0, 0, 0, .null) := ⟨1, rfl, rfl⟩
theorem zrt101 : zrt 101 = some .int := rfl
theorem zhh101 : zhh 101 = [] := rfl
theorem zi102_0 : zat 102 0 (.aload_n 2) 1 (0, 0, 0, 0, .null) := ⟨1, rfl, rfl⟩
theorem zi102_1 : zat 102 1 (.aload_n 0) 2 (0, 0, 0, 0, .null) := ⟨1, rfl, rfl⟩
theorem zi102_2 : zat 102 2 (.iload_n 1) 3 (0, 0, 0, 0, .null) := ⟨1, rfl, rfl⟩
theorem zi102_3 : zat 102 3 (.invokevirtual 57) 6 (0, 103, 1, 0, .null) := ⟨3, rfl, rfl⟩
theorem zi102_6 : zat 102 6 (.i2l) 7 (0, 0, 0, 0, .null) := ⟨1, rfl, rfl⟩
theorem zi102_7 : zat 102 7 (.putfield 13) 10 (3, 0, 3, 0, .null) := ⟨3, rfl, rfl⟩
theorem zi102_10 : zat 102 10 (.goto 6) 13 (0, 0, 0, 0, .null) := ⟨3, rfl, rfl⟩
theorem zi102_13 : zat 102 13 (.astore_n 3) 14 (0, 0, 0, 0, .null) := ⟨1, rfl, rfl⟩
theorem zi102_14 : zat 102 14 (.iconst 1) 15 (0, 0, 0, 0, .null) := ⟨1, rfl, rfl⟩
theorem zi102_15 : zat 102 15 (.ireturn) 16 (0, 0, 0, 0, .null) := ⟨1, rfl, rfl⟩
theorem zi102_16 : zat 102 16 (.iconst 0) 17 (0, 0, 0, 0, .null) := ⟨1, rfl, rfl⟩
theorem zi102_17 : zat 102 17 (.ireturn) 18 (0, 0, 0, 0, .null) := ⟨1, rfl, rfl⟩
theorem zrt102 : zrt 102 = some .int := rfl
theorem zhh102 : zhh 102 = [(0, 10, 13, 27)] := rfl
theorem zi103_0 : zat 103 0 (.aload_n 0) 1 (0, 0, 0, 0, .null) := ⟨1, rfl, rfl⟩
theorem zi103_1 : zat 103 1 (.iload_n 1) 2 (0, 0, 0, 0, .null) := ⟨1, rfl, rfl⟩
theorem zi103_2 : zat 103 2 (.invokevirtual 51) 5 (0, 13, 1, 0, .null) := ⟨3, rfl, rfl⟩
theorem zi103_5 : zat 103 5 (.astore_n 2) 6 (0, 0, 0, 0, .null) := ⟨1, rfl, rfl⟩
theorem zi103_6 : zat 103 6 (.aload_n 2) 7 (0, 0, 0, 0, .null) := ⟨1, rfl, rfl⟩
theorem zi103_7 : zat 103 7 (.getfield 55) 10 (4, 0, 6, 2, .null) := ⟨3, rfl, rfl⟩
theorem zi103_10 : zat 103 10 (.invokevirtual 181) 13 (0, 15, 0, 1, .null) := ⟨3, rfl, rfl⟩
theorem zi103_13 : zat 103 13 (.aload_n 2) 14 (0, 0, 0, 0, .null) := ⟨1, rfl, rfl⟩
theorem zi103_14 : zat 103 14 (.getfield 55) 17 (4, 0, 6, 2, .null) := ⟨3, rfl, rfl⟩
theorem zi103_17 : zat 103 17 (.iconst 0) 18 (0, 0, 0, 0, .null) := ⟨1, rfl, rfl⟩
theorem zi103_18 : zat 103 18 (.invokevirtual 170) 21 (0, 14, 1, 1, .null) := ⟨3, rfl, rfl⟩
theorem zi103_21 : zat 103 21 (.isub) 22 (0, 0, 0, 0, .null) := ⟨1, rfl, rfl⟩
theorem zi103_22 : zat 103 22 (.istore_n 3) 23 (0, 0, 0, 0, .null) := ⟨1, rfl, rfl⟩
theorem zi103_23 : zat 103 23 (.aload_n 2) 24 (0, 0, 0, 0, .null) := ⟨1, rfl, rfl⟩
theorem zi103_24 : zat 103 24 (.getfield 55) 27 (4, 0, 6, 2, .null) := ⟨3, rfl, rfl⟩
theorem zi103_27 : zat 103 27 (.invokevirtual 178) 30 (0, 2, 0, 1, .null) := ⟨3, rfl, rfl⟩
theorem zi103_30 : zat 103 30 (.aload_n 2) 31 (0, 0, 0, 0, .null) := ⟨1, rfl, rfl⟩
theorem zi103_31 : zat 103 31 (.iconst 0) 32 (0, 0, 0, 0, .null) := ⟨1, rfl, rfl⟩
theorem zi103_32 : zat 103 32 (.putfield 110) 35 (4, 4, 0, 0, .null) := ⟨3, rfl, rfl⟩
theorem zi103_35 : zat 103 35 (.iload_n 3) 36 (0, 0, 0, 0, .null) := ⟨1, rfl, rfl⟩
theorem zi103_36 : zat 103 36 (.ireturn) 37 (0, 0, 0, 0, .null) := ⟨1, rfl, rfl⟩
theorem zrt103 : zrt 103 = some .int := rfl
theorem zhh103 : zhh 103 = [] := rfl
theorem zi104_0 : zat 104 0 (.aload 4) 2 (0, 0, 0, 0, .null) := ⟨2, rfl, rfl⟩
theorem zi104_2 : zat 104 2 (.aload_n 0) 3 (0, 0, 0, 0, .null) := ⟨1, rfl, rfl⟩
theorem zi104_3 : zat 104 3 (.iload_n 1) 4 (0, 0, 0, 0, .null) := ⟨1, rfl, rfl⟩
theorem zi104_4 : zat 104 4 (.iload_n 2) 5 (0, 0, 0, 0, .null) := ⟨1, rfl, rfl⟩
theorem zi104_5 : zat 104 5 (.iload_n 3) 6 (0, 0, 0, 0, .null) := ⟨1, rfl, rfl⟩
theorem zi104_6 : zat 104 6 (.invokevirtual 60) 9 (0, 39, 3, 0, .null) := ⟨3, rfl, rfl⟩
theorem zi104_9 : zat 104 9 (.i2l) 10 (0, 0, 0, 0, .null) := ⟨1, rfl, rfl⟩
theorem zi104_10 : zat 104 10 (.putfield 13) 13 (3, 0, 3, 0, .null) := ⟨3, rfl, rfl⟩
theorem zi104_13 : zat 104 13 (.goto 11) 16 (0, 0, 0, 0, .null) := ⟨3, rfl, rfl⟩
theorem zi104_16 : zat 104 16 (.astore 5) 18 (0, 0, 0, 0, .null) := ⟨2, rfl, rfl⟩
theorem zi104_18 : zat 104 18 (.iconst 1) 19 (0, 0, 0, 0, .null) := ⟨1, rfl, rfl⟩
theorem zi104_19 : zat 104 19 (.ireturn) 20 (0, 0, 0, 0, .null) := ⟨1, rfl, rfl⟩
theorem zi104_20 : zat 104 20 (.astore 5) 22 (0, 0, 0, 0, .null) := ⟨2, rfl, rfl⟩
theorem zi104_22 : zat 104 22 (.iconst 2) 23 (0, 0, 0, 0, .null) := ⟨1, rfl, rfl⟩
theorem zi104_23 : zat 104 23 (.ireturn) 24 (0, 0, 0, 0, .null) := ⟨1, rfl, rfl⟩
theorem zi104_24 : zat 104 24 (.iconst 0) 25 (0, 0, 0, 0, .null) := ⟨1, rfl, rfl⟩
theorem zi104_25 : zat 104 25 (.ireturn) 26 (0, 0, 0, 0, .null) := ⟨1, rfl, rfl⟩
theorem zrt104 : zrt 104 = some .int := rfl
theorem zhh104 : zhh 104 = [(0, 13, 16, 27), (0, 13, 20, 19)] := rfl
theorem zi105_0 : zat 105 0 (.aload 4) 2 (0, 0, 0, 0, .null) := ⟨2, rfl, rfl⟩
theorem zi105_2 : zat 105 2 (.aload_n 0) 3 (0, 0, 0, 0, .null) := ⟨1, rfl, rfl⟩
theorem zi105_3 : zat 105 3 (.iload_n 1) 4 (0, 0, 0, 0, .null) := ⟨1, rfl, rfl⟩
theorem zi105_4 : zat 105 4 (.iload_n 2) 5 (0, 0, 0, 0, .null) := ⟨1, rfl, rfl⟩
theorem zi105_5 : zat 105 5 (.iload_n 3) 6 (0, 0, 0, 0, .null) := ⟨1, rfl, rfl⟩
theorem zi105_6 : zat 105 6 (.invokevirtual 63) 9 (0, 42, 3, 0, .null) := ⟨3, rfl, rfl⟩
theorem zi105_9 : zat 105 9 (.i2l) 10 (0, 0, 0, 0, .null) := ⟨1, rfl, rfl⟩
theorem zi105_10 : zat 105 10 (.putfield 13) 13 (3, 0, 3, 0, .null) := ⟨3, rfl, rfl⟩
theorem zi105_13 : zat 105 13 (.goto 11) 16 (0, 0, 0, 0, .null) := ⟨3, rfl, rfl⟩
theorem zi105_16 : zat 105 16 (.astore 5) 18 (0, 0, 0, 0, .null) := ⟨2, rfl, rfl⟩
theorem zi105_18 : zat 105 18 (.iconst 1) 19 (0, 0, 0, 0, .null) := ⟨1, rfl, rfl⟩
theorem zi105_19 : zat 105 19 (.ireturn) 20 (0, 0, 0, 0, .null) := ⟨1, rfl, rfl⟩
theorem zi105_20 : zat 105 20 (.astore 5) 22 (0, 0, 0, 0, .null) := ⟨2, rfl, rfl⟩
theorem zi105_22 : zat 105 22 (.iconst 2) 23 (0, 0, 0, 0, .null) := ⟨1, rfl, rfl⟩
theorem zi105_23 : zat 105 23 (.ireturn) 24 (0, 0, 0, 0, .null) := ⟨1, rfl, rfl⟩
theorem zi105_24 : zat 105 24 (.iconst 0) 25 (0, 0, 0, 0, .null) := ⟨1, rfl, rfl⟩
theorem zi105_25 : zat 105 25 (.ireturn) 26 (0, 0, 0, 0, .null) := ⟨1, rfl, rfl⟩
theorem zrt105 : zrt 105 = some .int := rfl
theorem zhh105 : zhh 105 = [(0, 13, 16, 27), (0, 13, 20, 19)] := rfl
theorem zi106_0 : zat 106 0 (.aload 4) 2 (0, 0, 0, 0, .null) := ⟨2, rfl, rfl⟩
theorem zi106_2 : zat 106 2 (.aload_n 0) 3 (0, 0, 0, 0, .null) := ⟨1, rfl, rfl⟩
theorem zi106_3 : zat 106 3 (.iload_n 1) 4 (0, 0, 0, 0, .null) := ⟨1, rfl, rfl⟩
theorem zi106_4 : zat 106 4 (.iload_n 2) 5 (0, 0, 0, 0, .null) := ⟨1, rfl, rfl⟩
theorem zi106_5 : zat 106 5 (.iload_n 3) 6 (0, 0, 0, 0, .null) := ⟨1, rfl, rfl⟩
theorem zi106_6 : zat 106 6 (.invokevirtual 66) 9 (0, 46, 3, 0, .null) := ⟨3, rfl, rfl⟩
theorem zi106_9 : zat 106 9 (.i2l) 10 (0, 0, 0, 0, .null) := ⟨1, rfl, rfl⟩
theorem zi106_10 : zat 106 10 (.putfield 13) 13 (3, 0, 3, 0, .null) := ⟨3, rfl, rfl⟩
theorem zi106_13 : zat 106 13 (.goto 11) 16 (0, 0, 0, 0, .null) := ⟨3, rfl, rfl⟩
theorem zi106_16 : zat 106 16 (.astore 5) 18 (0, 0, 0, 0, .null) := ⟨2, rfl, rfl⟩
theorem zi106_18 : zat 106 18 (.iconst 1) 19 (0, 0, 0, 0, .null) := ⟨1, rfl, rfl⟩
theorem zi106_19 : zat 106 19 (.ireturn) 20 (0, 0, 0, 0, .null) := ⟨1, rfl, rfl⟩
theorem zi106_20 : zat 106 20 (.astore 5) 22 (0, 0, 0, 0, .null) := ⟨2, rfl, rfl⟩
theorem zi106_22 : zat 106 22 (.iconst 2) 23 (0, 0, 0, 0, .null) := ⟨1, rfl, rfl⟩
theorem zi106_23 : zat 106 23 (.ireturn) 24 (0, 0, 0, 0, .null) := ⟨1, rfl, rfl⟩
theorem zi106_24 : zat 106 24 (.iconst 0) 25 (0, 0, 0, 0, .null) := ⟨1, rfl, rfl⟩
theorem zi106_25 : zat 106 25 (.ireturn) 26 (0, 0, 0, 0, .null) := ⟨1, rfl, rfl⟩
theorem zrt106 : zrt 106 = some .int := rfl
theorem zhh106 : zhh 106 = [(0, 13, 16, 27), (0, 13, 20, 19)] := rfl
theorem zi107_0 : zat 107 0 (.aload_n 3) 1 (0, 0, 0, 0, .null) := ⟨1, rfl, rfl⟩
theorem zi107_1 : zat 107 1 (.aload_n 0) 2 (0, 0, 0, 0, .null) := ⟨1, rfl, rfl⟩
theorem zi107_2 : zat 107 2 (.iload_n 1) 3 (0, 0, 0, 0, .null) := ⟨1, rfl, rfl⟩
theorem zi107_3 : zat 107 3 (.iload_n 2) 4 (0, 0, 0, 0, .null) := ⟨1, rfl, rfl⟩
theorem zi107_4 : zat 107 4 (.invokevirtual 69) 7 (0, 18, 2, 0, .null) := ⟨3, rfl, rfl⟩
theorem zi107_7 : zat 107 7 (.i2l) 8 (0, 0, 0, 0, .null) := ⟨1, rfl, rfl⟩
theorem zi107_8 : zat 107 8 (.putfield 13) 11 (3, 0, 3, 0, .null) := ⟨3, rfl, rfl⟩
theorem zi107_11 : zat 107 11 (.goto 11) 14 (0, 0, 0, 0, .null) := ⟨3, rfl, rfl⟩
theorem zi107_14 : zat 107 14 (.astore 4) 16 (0, 0, 0, 0, .null) := ⟨2, rfl, rfl⟩
theorem zi107_16 : zat 107 16 (.iconst 1) 17 (0, 0, 0, 0, .null) := ⟨1, rfl, rfl⟩
theorem zi107_17 : zat 107 17 (.ireturn) 18 (0, 0, 0, 0, .null) := ⟨1, rfl, rfl⟩
theorem zi107_18 : zat 107 18 (.astore 4) 20 (0, 0, 0, 0, .null) := ⟨2, rfl, rfl⟩
theorem zi107_20 : zat 107 20 (.iconst 2) 21 (0, 0, 0, 0, .null) := ⟨1, rfl, rfl⟩
theorem zi107_21 : zat 107 21 (.ireturn) 22 (0, 0, 0, 0, .null) := ⟨1, rfl, rfl⟩
theorem zi107_22 : zat 107 22 (.iconst 0) 23 (0, 0, 0, 0, .null) := ⟨1, rfl, rfl⟩
theorem zi107_23 : zat 107 23 (.ireturn) 24 (0, 0, 0, 0, .null) := ⟨1, rfl, rfl⟩
theorem zrt107 : zrt 107 = some .int := rfl
theorem zhh107 : zhh 107 = [(0, 11, 14, 27), (0, 11, 18, 19)] := rfl
theorem zi108_0 : zat 108 0 (.aload_n 2) 1 (0, 0, 0, 0, .null) := ⟨1, rfl, rfl⟩
theorem zi108_1 : zat 108 1 (.aload_n 0) 2 (0, 0, 0, 0, .null) := ⟨1, rfl, rfl⟩
theorem zi108_2 : zat 108 2 (.iload_n 1) 3 (0, 0, 0, 0, .null) := ⟨1, rfl, rfl⟩
theorem zi108_3 : zat 108 3 (.invokevirtual 72) 6 (0, 109, 1, 0, .null) := ⟨3, rfl, rfl⟩
theorem zi108_6 : zat 108 6 (.putfield 76) 9 (3, 2, 6, 0, .null) := ⟨3, rfl, rfl⟩
theorem zi108_9 : zat 108 9 (.goto 6) 12 (0, 0, 0, 0, .null) := ⟨3, rfl, rfl⟩
theorem zi108_12 : zat 108 12 (.astore_n 3) 13 (0, 0, 0, 0, .null) := ⟨1, rfl, rfl⟩
theorem zi108_13 : zat 108 13 (.iconst 1) 14 (0, 0, 0, 0, .null) := ⟨1, rfl, rfl⟩
theorem zi108_14 : zat 108 14 (.ireturn) 15 (0, 0, 0, 0, .null) := ⟨1, rfl, rfl⟩
theorem zi108_15 : zat 108 15 (.iconst 0) 16 (0, 0, 0, 0, .null) := ⟨1, rfl, rfl⟩
theorem zi108_16 : zat 108 16 (.ireturn) 17 (0, 0, 0, 0, .null) := ⟨1, rfl, rfl⟩
theorem zrt108 : zrt 108 = some .int := rfl
theorem zhh108 : zhh 108 = [(0, 9, 12, 27)] := rfl
theorem zi109_0 : zat 109 0 (.aload_n 0) 1 (0, 0, 0, 0, .null) := ⟨1, rfl, rfl⟩
theorem zi109_1 : zat 109 1 (.iload_n 1) 2 (0, 0, 0, 0, .null) := ⟨1, rfl, rfl⟩
theorem zi109_2 : zat 109 2 (.invokevirtual 51) 5 (0, 13, 1, 0, .null) := ⟨3, rfl, rfl⟩
theorem zi109_5 : zat 109 5 (.getfield 55) 8 (4, 0, 6, 2, .null) := ⟨3, rfl, rfl⟩
theorem zi109_8 : zat 109 8 (.astore_n 2) 9 (0, 0, 0, 0, .null) := ⟨1, rfl, rfl⟩
theorem zi109_9 : zat 109 9 (.new 221) 12 (5, 4, 0, 0, .null) := ⟨3, rfl, rfl⟩
theorem zi109_12 : zat 109 12 (.dup) 13 (0, 0, 0, 0, .null) := ⟨1, rfl, rfl⟩
theorem zi109_13 : zat 109 13 (.invokespecial 223) 16 (5, 110, 0, 0, .null) := ⟨3, rfl, rfl⟩
theorem zi109_16 : zat 109 16 (.astore_n 3) 17 (0, 0, 0, 0, .null) := ⟨1, rfl, rfl⟩
theorem zi109_17 : zat 109 17 (.iconst 0) 18 (0, 0, 0, 0, .null) := ⟨1, rfl, rfl⟩
theorem zi109_18 : zat 109 18 (.istore 4) 20 (0, 0, 0, 0, .null) := ⟨2, rfl, rfl⟩
theorem zi109_20 : zat 109 20 (.iload 4) 22 (0, 0, 0, 0, .null) := ⟨2, rfl, rfl⟩
theorem zi109_22 : zat 109 22 (.aload_n 2) 23 (0, 0, 0, 0, .null) := ⟨1, rfl, rfl⟩
theorem zi109_23 : zat 109 23 (.getfield 157) 26 (1, 4, 0, 0, .null) := ⟨3, rfl, rfl⟩
theorem zi109_26 : zat 109 26 (.if_icmp .ge 59) 29 (0, 0, 0, 0, .null) := ⟨3, rfl, rfl⟩
theorem zi109_29 : zat 109 29 (.iload 4) 31 (0, 0, 0, 0, .null) := ⟨2, rfl, rfl⟩
theorem zi109_31 : zat 109 31 (.ifCond .le 10) 34 (0, 0, 0, 0, .null) := ⟨3, rfl, rfl⟩
theorem zi109_34 : zat 109 34 (.aload_n 3) 35 (0, 0, 0, 0, .null) := ⟨1, rfl, rfl⟩
theorem zi109_35 : zat 109 35 (.bipush 47) 37 (0, 0, 0, 0, .null) := ⟨2, rfl, rfl⟩
theorem zi109_37 : zat 109 37 (.invokevirtual 224) 40 (0, 112, 1, 5, .null) := ⟨3, rfl, rfl⟩
theorem zi109_40 : zat 109 40 (.pop) 41 (0, 0, 0, 0, .null) := ⟨1, rfl, rfl⟩
theorem zi109_41 : zat 109 41 (.iconst 0) 42 (0, 0, 0, 0, .null) := ⟨1, rfl, rfl⟩
theorem zi109_42 : zat 109 42 (.istore 5) 44 (0, 0, 0, 0, .null) := ⟨2, rfl, rfl⟩
theorem zi109_44 : zat 109 44 (.iload 5) 46 (0, 0, 0, 0, .null) := ⟨2, rfl, rfl⟩
theorem zi109_46 : zat 109 46 (.aload_n 2) 47 (0, 0, 0, 0, .null) := ⟨1, rfl, rfl⟩
theorem zi109_47 : zat 109 47 (.getfield 154) 50 (1, 3, 0, 0, .null) := ⟨3, rfl, rfl⟩
theorem zi109_50 : zat 109 50 (.if_icmp .ge 29) 53 (0, 0, 0, 0, .null) := ⟨3, rfl, rfl⟩
theorem zi109_53 : zat 109 53 (.aload_n 3) 54 (0, 0, 0, 0, .null) := ⟨1, rfl, rfl⟩
theorem zi109_54 : zat 109 54 (.aload_n 2) 55 (0, 0, 0, 0, .null) := ⟨1, rfl, rfl⟩
theorem zi109_55 : zat 109 55 (.aload_n 2) 56 (0, 0, 0, 0, .null) := ⟨1, rfl, rfl⟩
theorem zi109_56 : zat 109 56 (.iload 4) 58 (0, 0, 0, 0, .null) := ⟨2, rfl, rfl⟩
theorem zi109_58 : zat 109 58 (.iload 5) 60 (0, 0, 0, 0, .null) := ⟨2, rfl, rfl⟩
theorem zi109_60 : zat 109 60 (.invokevirtual 228) 63 (0, 21, 2, 1, .null) := ⟨3, rfl, rfl⟩
theorem zi109_63 : zat 109 63 (.invokevirtual 135) 66 (0, 16, 1, 1, .null) := ⟨3, rfl, rfl⟩
theorem zi109_66 : zat 109 66 (.invokestatic 231) 69 (3, 123, 1, 0, .null) := ⟨3, rfl, rfl⟩
theorem zi109_69 : zat 109 69 (.invokevirtual 224) 72 (0, 112, 1, 5, .null) := ⟨3, rfl, rfl⟩
theorem zi109_72 : zat 109 72 (.pop) 73 (0, 0, 0, 0, .null) := ⟨1, rfl, rfl⟩
theorem zi109_73 : zat 109 73 (.iinc 5 1) 76 (0, 0, 0, 0, .null) := ⟨3, rfl, rfl⟩
theorem zi109_76 : zat 109 76 (.goto (-32)) 79 (0, 0, 0, 0, .null) := ⟨3, rfl, rfl⟩
theorem zi109_79 : zat 109 79 (.iinc 4 1) 82 (0, 0, 0, 0, .null) := ⟨3, rfl, rfl⟩
theorem zi109_82 : zat 109 82 (.goto (-62)) 85 (0, 0, 0, 0, .null) := ⟨3, rfl, rfl⟩
theorem zi109_85 : zat 109 85 (.aload_n 3) 86 (0, 0, 0, 0, .null) := ⟨1, rfl, rfl⟩
theorem zi109_86 : zat 109 86 (.invokevirtual 235) 89 (0, 124, 0, 5, .null) := ⟨3, rfl, rfl⟩
theorem zi109_89 : zat 109 89 (.areturn) 90 (0, 0, 0, 0, .null) := ⟨1, rfl, rfl⟩
theorem zrt109 : zrt 109 = some (.object "java/lang/String") := rfl
theorem zhh109 : zhh 109 = [] := rfl
theorem zi110_0 : zat 110 0 (.aload_n 0) 1 (0, 0, 0, 0, .null) := ⟨1, rfl, rfl⟩
theorem zi110_1 : zat 110 1 (.bipush 16) 3 (0, 0, 0, 0, .null) := ⟨2, rfl, rfl⟩
theorem zi110_3 : zat 110 3 (.invokespecial 1) 6 (5, 111, 1, 0, .null) := ⟨3, rfl, rfl⟩
theorem zi110_6 : zat 110 6 (.return_) 7 (0, 0, 0, 0, .null) := ⟨1, rfl, rfl⟩
theorem zrt110 : zrt 110 = none := rfl
theorem zhh110 : zhh 110 = [] := rfl
theorem zi111_0 : zat 111 0 (.aload_n 0) 1 (0, 0, 0, 0, .null) := ⟨1, rfl, rfl⟩
theorem zi111_1 : zat 111 1 (.invokespecial 3) 4 (20, 0, 0, 0, .null) := ⟨3, rfl, rfl⟩
theorem zi111_4 : zat 111 4 (.getstatic 18) 7 (2, 0, 0, 0, .null) := ⟨3, rfl, rfl⟩
theorem zi111_7 : zat 111 7 (.ifCond .eq 18) 10 (0, 0, 0, 0, .null) := ⟨3, rfl, rfl⟩
theorem zi111_10 : zat 111 10 (.aload_n 0) 11 (0, 0, 0, 0, .null) := ⟨1, rfl, rfl⟩
theorem zi111_11 : zat 111 11 (.iload_n 1) 12 (0, 0, 0, 0, .null) := ⟨1, rfl, rfl⟩
theorem zi111_12 : zat 111 12 (.newarray .byte) 14 (65, 0, 0, 0, .null) := ⟨2, rfl, rfl⟩
theorem zi111_14 : zat 111 14 (.putfield 15) 17 (5, 0, 7, 0, .null) := ⟨3, rfl, rfl⟩
theorem zi111_17 : zat 111 17 (.aload_n 0) 18 (0, 0, 0, 0, .null) := ⟨1, rfl, rfl⟩
theorem zi111_18 : zat 111 18 (.iconst 0) 19 (0, 0, 0, 0, .null) := ⟨1, rfl, rfl⟩
theorem zi111_19 : zat 111 19 (.putfield 22) 22 (5, 1, 2, 0, .null) := ⟨3, rfl, rfl⟩
theorem zi111_22 : zat 111 22 (.goto 16) 25 (0, 0, 0, 0, .null) := ⟨3, rfl, rfl⟩
theorem zi111_25 : zat 111 25 (.aload_n 0) 26 (0, 0, 0, 0, .null) := ⟨1, rfl, rfl⟩
theorem zi111_26 : zat 111 26 (.iload_n 1) 27 (0, 0, 0, 0, .null) := ⟨1, rfl, rfl⟩
theorem zi111_30 : zat 111 30 (.putfield 15) 33 (5, 0, 7, 0, .null) := ⟨3, rfl, rfl⟩
theorem zi111_33 : zat 111 33 (.aload_n 0) 34 (0, 0, 0, 0, .null) := ⟨1, rfl, rfl⟩
theorem zi111_34 : zat 111 34 (.iconst 1) 35 (0, 0, 0, 0, .null) := ⟨1, rfl, rfl⟩
theorem zi111_35 : zat 111 35 (.putfield 22) 38 (5, 1, 2, 0, .null) := ⟨3, rfl, rfl⟩
theorem zi111_38 : zat 111 38 (.return_) 39 (0, 0, 0, 0, .null) := ⟨1, rfl, rfl⟩
theorem zrt111 : zrt 111 = none := rfl
theorem zhh111 : zhh 111 = [] := rfl
theorem zi112_0 : zat 112 0 (.aload_n 0) 1 (0, 0, 0, 0, .null) := ⟨1, rfl, rfl⟩
theorem zi112_1 : zat 112 1 (.iload_n 1) 2 (0, 0, 0, 0, .null) := ⟨1, rfl, rfl⟩
theorem zi112_2 : zat 112 2 (.invokespecial 50) 5 (7, 113, 1, 5, .null) := ⟨3, rfl, rfl⟩
theorem zi112_5 : zat 112 5 (.pop) 6 (0, 0, 0, 0, .null) := ⟨1, rfl, rfl⟩
theorem zi112_6 : zat 112 6 (.aload_n 0) 7 (0, 0, 0, 0, .null) := ⟨1, rfl, rfl⟩
theorem zi112_7 : zat 112 7 (.areturn) 8 (0, 0, 0, 0, .null) := ⟨1, rfl, rfl⟩
theorem zrt112 : zrt 112 = some (.object "java/lang/StringBuilder") := rfl
theorem zhh112 : zhh 112 = [] := rfl
theorem zi113_0 : zat 113 0 (.aload_n 0) 1 (0, 0, 0, 0, .null) := ⟨1, rfl, rfl⟩
theorem zi113_1 : zat 113 1 (.aload_n 0) 2 (0, 0, 0, 0, .null) := ⟨1, rfl, rfl⟩
theorem zi113_2 : zat 113 2 (.getfield 79) 5 (5, 3, 0, 0, .null) := ⟨3, rfl, rfl⟩
theorem zi113_5 : zat 113 5 (.iconst 1) 6 (0, 0, 0, 0, .null) := ⟨1, rfl, rfl⟩
theorem zi113_6 : zat 113 6 (.iadd) 7 (0, 0, 0, 0, .null) := ⟨1, rfl, rfl⟩
theorem zi113_7 : zat 113 7 (.invokevirtual 100) 10 (0, 114, 1, 5, .null) := ⟨3, rfl, rfl⟩
theorem zi113_10 : zat 113 10 (.aload_n 0) 11 (0, 0, 0, 0, .null) := ⟨1, rfl, rfl⟩
theorem zi113_11 : zat 113 11 (.invokevirtual 83) 14 (0, 120, 0, 5, .null) := ⟨3, rfl, rfl⟩
theorem zi113_14 : zat 113 14 (.ifCond .eq 31) 17 (0, 0, 0, 0, .null) := ⟨3, rfl, rfl⟩
theorem zi113_17 : zat 113 17 (.iload_n 1) 18 (0, 0, 0, 0, .null) := ⟨1, rfl, rfl⟩
theorem zi113_18 : zat 113 18 (.invokestatic 191) 21 (3, 121, 1, 0, .null) := ⟨3, rfl, rfl⟩
theorem zi113_21 : zat 113 21 (.ifCond .eq 24) 24 (0, 0, 0, 0, .null) := ⟨3, rfl, rfl⟩
theorem zi113_24 : zat 113 24 (.aload_n 0) 25 (0, 0, 0, 0, .null) := ⟨1, rfl, rfl⟩
theorem zi113_25 : zat 113 25 (.getfield 15) 28 (5, 0, 7, 0, .null) := ⟨3, rfl, rfl⟩
theorem zi113_28 : zat 113 28 (.aload_n 0) 29 (0, 0, 0, 0, .null) := ⟨1, rfl, rfl⟩
theorem zi113_29 : zat 113 29 (.dup) 30 (0, 0, 0, 0, .null) := ⟨1, rfl, rfl⟩
theorem zi113_30 : zat 113 30 (.getfield 79) 33 (5, 3, 0, 0, .null) := ⟨3, rfl, rfl⟩
theorem zi113_33 : zat 113 33 (.dup_x1) 34 (0, 0, 0, 0, .null) := ⟨1, rfl, rfl⟩
theorem zi113_34 : zat 113 34 (.iconst 1) 35 (0, 0, 0, 0, .null) := ⟨1, rfl, rfl⟩
theorem zi113_35 : zat 113 35 (.iadd) 36 (0, 0, 0, 0, .null) := ⟨1, rfl, rfl⟩
theorem zi113_36 : zat 113 36 (.putfield 79) 39 (5, 3, 0, 0, .null) := ⟨3, rfl, rfl⟩
theorem zi113_39 : zat 113 39 (.iload_n 1) 40 (0, 0, 0, 0, .null) := ⟨1, rfl, rfl⟩
theorem zi113_40 : zat 113 40 (.i2b) 41 (0, 0, 0, 0, .null) := ⟨1, rfl, rfl⟩
theorem zi113_41 : zat 113 41 (.bastore) 42 (0, 0, 0, 0, .null) := ⟨1, rfl, rfl⟩
theorem zi113_42 : zat 113 42 (.goto 33) 45 (0, 0, 0, 0, .null) := ⟨3, rfl, rfl⟩
theorem zi113_45 : zat 113 45 (.aload_n 0) 46 (0, 0, 0, 0, .null) := ⟨1, rfl, rfl⟩
theorem zi113_46 : zat 113 46 (.invokevirtual 83) 49 (0, 120, 0, 5, .null) := ⟨3, rfl, rfl⟩
theorem zi113_49 : zat 113 49 (.ifCond .eq 7) 52 (0, 0, 0, 0, .null) := ⟨3, rfl, rfl⟩
theorem zi113_52 : zat 113 52 (.aload_n 0) 53 (0, 0, 0, 0, .null) := ⟨1, rfl, rfl⟩
theorem zi113_56 : zat 113 56 (.aload_n 0) 57 (0, 0, 0, 0, .null) := ⟨1, rfl, rfl⟩
theorem zi113_57 : zat 113 57 (.getfield 15) 60 (5, 0, 7, 0, .null) := ⟨3, rfl, rfl⟩
theorem zi113_60 : zat 113 60 (.aload_n 0) 61 (0, 0, 0, 0, .null) := ⟨1, rfl, rfl⟩
theorem zi113_61 : zat 113 61 (.dup) 62 (0, 0, 0, 0, .null) := ⟨1, rfl, rfl⟩
theorem zi113_62 : zat 113 62 (.getfield 79) 65 (5, 3, 0, 0, .null) := ⟨3, rfl, rfl⟩
theorem zi113_65 : zat 113 65 (.dup_x1) 66 (0, 0, 0, 0, .null) := ⟨1, rfl, rfl⟩
theorem zi113_66 : zat 113 66 (.iconst 1) 67 (0, 0, 0, 0, .null) := ⟨1, rfl, rfl⟩
theorem zi113_67 : zat 113 67 (.iadd) 68 (0, 0, 0, 0, .null) := ⟨1, rfl, rfl⟩
theorem zi113_68 : zat 113 68 (.putfield 79) 71 (5, 3, 0, 0, .null) := ⟨3, rfl, rfl⟩
theorem zi113_71 : zat 113 71 (.iload_n 1) 72 (0, 0, 0, 0, .null) := ⟨1, rfl, rfl⟩
theorem zi113_75 : zat 113 75 (.aload_n 0) 76 (0, 0, 0, 0, .null) := ⟨1, rfl, rfl⟩
theorem zi113_76 : zat 113 76 (.areturn) 77 (0, 0, 0, 0, .null) := ⟨1, rfl, rfl⟩
theorem zrt113 : zrt 113 = some (.object "java/lang/AbstractStringBuilder") := rfl
theorem zhh113 : zhh 113 = [] := rfl
theorem zi114_0 : zat 114 0 (.aload_n 0) 1 (0, 0, 0, 0, .null) := ⟨1, rfl, rfl⟩
theorem zi114_1 : zat 114 1 (.getfield 15) 4 (5, 0, 7, 0, .null) := ⟨3, rfl, rfl⟩
theorem zi114_4 : zat 114 4 (.arraylength) 5 (0, 0, 0, 0, .null) := ⟨1, rfl, rfl⟩
theorem zi114_5 : zat 114 5 (.aload_n 0) 6 (0, 0, 0, 0, .null) := ⟨1, rfl, rfl⟩
theorem zi114_6 : zat 114 6 (.getfield 22) 9 (5, 1, 2, 0, .null) := ⟨3, rfl, rfl⟩
theorem zi114_9 : zat 114 9 (.ishr) 10 (0, 0, 0, 0, .null) := ⟨1, rfl, rfl⟩
theorem zi114_10 : zat 114 10 (.istore_n 2) 11 (0, 0, 0, 0, .null) := ⟨1, rfl, rfl⟩
theorem zi114_11 : zat 114 11 (.iload_n 1) 12 (0, 0, 0, 0, .null) := ⟨1, rfl, rfl⟩
theorem zi114_12 : zat 114 12 (.iload_n 2) 13 (0, 0, 0, 0, .null) := ⟨1, rfl, rfl⟩
theorem zi114_13 : zat 114 13 (.isub) 14 (0, 0, 0, 0, .null) := ⟨1, rfl, rfl⟩
theorem zi114_14 : zat 114 14 (.ifCond .le 24) 17 (0, 0, 0, 0, .null) := ⟨3, rfl, rfl⟩
theorem zi114_17 : zat 114 17 (.aload_n 0) 18 (0, 0, 0, 0, .null) := ⟨1, rfl, rfl⟩
theorem zi114_18 : zat 114 18 (.aload_n 0) 19 (0, 0, 0, 0, .null) := ⟨1, rfl, rfl⟩
theorem zi114_19 : zat 114 19 (.getfield 15) 22 (5, 0, 7, 0, .null) := ⟨3, rfl, rfl⟩
theorem zi114_22 : zat 114 22 (.aload_n 0) 23 (0, 0, 0, 0, .null) := ⟨1, rfl, rfl⟩
theorem zi114_23 : zat 114 23 (.iload_n 1) 24 (0, 0, 0, 0, .null) := ⟨1, rfl, rfl⟩
theorem zi114_24 : zat 114 24 (.invokevirtual 104) 27 (0, 115, 1, 5, .null) := ⟨3, rfl, rfl⟩
theorem zi114_27 : zat 114 27 (.aload_n 0) 28 (0, 0, 0, 0, .null) := ⟨1, rfl, rfl⟩
theorem zi114_28 : zat 114 28 (.getfield 22) 31 (5, 1, 2, 0, .null) := ⟨3, rfl, rfl⟩
theorem zi114_31 : zat 114 31 (.ishl) 32 (0, 0, 0, 0, .null) := ⟨1, rfl, rfl⟩
theorem zi114_32 : zat 114 32 (.invokestatic 108) 35 (3, 118, 2, 0, .null) := ⟨3, rfl, rfl⟩
theorem zi114_35 : zat 114 35 (.putfield 15) 38 (5, 0, 7, 0, .null) := ⟨3, rfl, rfl⟩
theorem zi114_38 : zat 114 38 (.return_) 39 (0, 0, 0, 0, .null) := ⟨1, rfl, rfl⟩
theorem zrt114 : zrt 114 = none := rfl
theorem zhh114 : zhh 114 = [] := rfl
theorem zi115_0 : zat 115 0 (.aload_n 0) 1 (0, 0, 0, 0, .null) := ⟨1, rfl, rfl⟩
theorem zi115_1 : zat 115 1 (.getfield 15) 4 (5, 0, 7, 0, .null) := ⟨3, rfl, rfl⟩
theorem zi115_4 : zat 115 4 (.arraylength) 5 (0, 0, 0, 0, .null) := ⟨1, rfl, rfl⟩
theorem zi115_5 : zat 115 5 (.istore_n 2) 6 (0, 0, 0, 0, .null) := ⟨1, rfl, rfl⟩
theorem zi115_6 : zat 115 6 (.iload_n 1) 7 (0, 0, 0, 0, .null) := ⟨1, rfl, rfl⟩
theorem zi115_7 : zat 115 7 (.aload_n 0) 8 (0, 0, 0, 0, .null) := ⟨1, rfl, rfl⟩
theorem zi115_8 : zat 115 8 (.getfield 22) 11 (5, 1, 2, 0, .null) := ⟨3, rfl, rfl⟩
theorem zi115_11 : zat 115 11 (.ishl) 12 (0, 0, 0, 0, .null) := ⟨1, rfl, rfl⟩
theorem zi115_12 : zat 115 12 (.istore_n 3) 13 (0, 0, 0, 0, .null) := ⟨1, rfl, rfl⟩
theorem zi115_13 : zat 115 13 (.iload_n 3) 14 (0, 0, 0, 0, .null) := ⟨1, rfl, rfl⟩
theorem zi115_14 : zat 115 14 (.iload_n 2) 15 (0, 0, 0, 0, .null) := ⟨1, rfl, rfl⟩
theorem zi115_15 : zat 115 15 (.isub) 16 (0, 0, 0, 0, .null) := ⟨1, rfl, rfl⟩
theorem zi115_16 : zat 115 16 (.istore 4) 18 (0, 0, 0, 0, .null) := ⟨2, rfl, rfl⟩
theorem zi115_18 : zat 115 18 (.iload_n 2) 19 (0, 0, 0, 0, .null) := ⟨1, rfl, rfl⟩
theorem zi115_19 : zat 115 19 (.iload 4) 21 (0, 0, 0, 0, .null) := ⟨2, rfl, rfl⟩
theorem zi115_21 : zat 115 21 (.iload_n 2) 22 (0, 0, 0, 0, .null) := ⟨1, rfl, rfl⟩
theorem zi115_22 : zat 115 22 (.iconst 2) 23 (0, 0, 0, 0, .null) := ⟨1, rfl, rfl⟩
theorem zi115_23 : zat 115 23 (.aload_n 0) 24 (0, 0, 0, 0, .null) := ⟨1, rfl, rfl⟩
theorem zi115_24 : zat 115 24 (.getfield 22) 27 (5, 1, 2, 0, .null) := ⟨3, rfl, rfl⟩
theorem zi115_27 : zat 115 27 (.ishl) 28 (0, 0, 0, 0, .null) := ⟨1, rfl, rfl⟩
theorem zi115_28 : zat 115 28 (.iadd) 29 (0, 0, 0, 0, .null) := ⟨1, rfl, rfl⟩
theorem zi115_29 : zat 115 29 (.invokestatic 114) 32 (3, 116, 3, 0, .null) := ⟨3, rfl, rfl⟩
theorem zi115_32 : zat 115 32 (.istore 5) 34 (0, 0, 0, 0, .null) := ⟨2, rfl, rfl⟩
theorem zi115_34 : zat 115 34 (.iload 5) 36 (0, 0, 0, 0, .null) := ⟨2, rfl, rfl⟩
theorem zi115_36 : zat 115 36 (.ldc 39) 38 (0, 0, 0, 0, .int 2147483647) := ⟨2, rfl, rfl⟩
theorem zi115_38 : zat 115 38 (.if_icmp .ne 13) 41 (0, 0, 0, 0, .null) := ⟨3, rfl, rfl⟩
theorem zi115_44 : zat 115 44 (.dup) 45 (0, 0, 0, 0, .null) := ⟨1, rfl, rfl⟩
theorem zi115_51 : zat 115 51 (.iload 5) 53 (0, 0, 0, 0, .null) := ⟨2, rfl, rfl⟩
theorem zi115_53 : zat 115 53 (.aload_n 0) 54 (0, 0, 0, 0, .null) := ⟨1, rfl, rfl⟩
theorem zi115_54 : zat 115 54 (.getfield 22) 57 (5, 1, 2, 0, .null) := ⟨3, rfl, rfl⟩
theorem zi115_57 : zat 115 57 (.ishr) 58 (0, 0, 0, 0, .null) := ⟨1, rfl, rfl⟩
theorem zi115_58 : zat 115 58 (.ireturn) 59 (0, 0, 0, 0, .null) := ⟨1, rfl, rfl⟩
theorem zrt115 : zrt 115 = some .int := rfl
theorem zhh115 : zhh 115 = [] := rfl
theorem zi116_0 : zat 116 0 (.iload_n 0) 1 (0, 0, 0, 0, .null) := ⟨1, rfl, rfl⟩
theorem zi116_1 : zat 116 1 (.iload_n 1) 2 (0, 0, 0, 0, .null) := ⟨1, rfl, rfl⟩
theorem zi116_2 : zat 116 2 (.iload_n 2) 3 (0, 0, 0, 0, .null) := ⟨1, rfl, rfl⟩
theorem zi116_3 : zat 116 3 (.invokestatic 194) 6 (3, 117, 2, 0, .null) := ⟨3, rfl, rfl⟩
theorem zi116_6 : zat 116 6 (.iadd) 7 (0, 0, 0, 0, .null) := ⟨1, rfl, rfl⟩
theorem zi116_7 : zat 116 7 (.istore_n 3) 8 (0, 0, 0, 0, .null) := ⟨1, rfl, rfl⟩
theorem zi116_8 : zat 116 8 (.iconst 0) 9 (0, 0, 0, 0, .null) := ⟨1, rfl, rfl⟩
theorem zi116_9 : zat 116 9 (.iload_n 3) 10 (0, 0, 0, 0, .null) := ⟨1, rfl, rfl⟩
theorem zi116_10 : zat 116 10 (.if_icmp .ge 11) 13 (0, 0, 0, 0, .null) := ⟨3, rfl, rfl⟩
theorem zi116_13 : zat 116 13 (.iload_n 3) 14 (0, 0, 0, 0, .null) := ⟨1, rfl, rfl⟩
theorem zi116_14 : zat 116 14 (.ldc 200) 16 (0, 0, 0, 0, .int 2147483639) := ⟨2, rfl, rfl⟩
theorem zi116_16 : zat 116 16 (.if_icmp .gt 5) 19 (0, 0, 0, 0, .null) := ⟨3, rfl, rfl⟩
theorem zi116_19 : zat 116 19 (.iload_n 3) 20 (0, 0, 0, 0, .null) := ⟨1, rfl, rfl⟩
theorem zi116_20 : zat 116 20 (.ireturn) 21 (0, 0, 0, 0, .null) := ⟨1, rfl, rfl⟩
theorem zi116_21 : zat 116 21 (.iload_n 0) 22 (0, 0, 0, 0, .null) := ⟨1, rfl, rfl⟩
theorem zi116_22 : zat 116 22 (.iload_n 1) 23 (0, 0, 0, 0, .null) := ⟨1, rfl, rfl⟩
theorem zi116_26 : zat 116 26 (.ireturn) 27 (0, 0, 0, 0, .null) := ⟨1, rfl, rfl⟩
theorem zrt116 : zrt 116 = some .int := rfl
theorem zhh116 : zhh 116 = [] := rfl
theorem zi117_0 : zat 117 0 (.iload_n 0) 1 (0, 0, 0, 0, .null) := ⟨1, rfl, rfl⟩
theorem zi117_1 : zat 117 1 (.iload_n 1) 2 (0, 0, 0, 0, .null) := ⟨1, rfl, rfl⟩
theorem zi117_2 : zat 117 2 (.if_icmp .lt 7) 5 (0, 0, 0, 0, .null) := ⟨3, rfl, rfl⟩
theorem zi117_5 : zat 117 5 (.iload_n 0) 6 (0, 0, 0, 0, .null) := ⟨1, rfl, rfl⟩
theorem zi117_6 : zat 117 6 (.goto 4) 9 (0, 0, 0, 0, .null) := ⟨3, rfl, rfl⟩
theorem zi117_9 : zat 117 9 (.iload_n 1) 10 (0, 0, 0, 0, .null) := ⟨1, rfl, rfl⟩
theorem zi117_10 : zat 117 10 (.ireturn) 11 (0, 0, 0, 0, .null) := ⟨1, rfl, rfl⟩
theorem zrt117 : zrt 117 = some .int := rfl
theorem zhh117 : zhh 117 = [] := rfl
theorem zi118_0 : zat 118 0 (.iload_n 1) 1 (0, 0, 0, 0, .null) := ⟨1, rfl, rfl⟩
theorem zi118_1 : zat 118 1 (.aload_n 0) 2 (0, 0, 0, 0, .null) := ⟨1, rfl, rfl⟩
theorem zi118_2 : zat 118 2 (.arraylength) 3 (0, 0, 0, 0, .null) := ⟨1, rfl, rfl⟩
theorem zi118_3 : zat 118 3 (.if_icmp .ne 11) 6 (0, 0, 0, 0, .null) := ⟨3, rfl, rfl⟩
theorem zi118_6 : zat 118 6 (.aload_n 0) 7 (0, 0, 0, 0, .null) := ⟨1, rfl, rfl⟩
theorem zi118_13 : zat 118 13 (.areturn) 14 (0, 0, 0, 0, .null) := ⟨1, rfl, rfl⟩
theorem zi118_14 : zat 118 14 (.iload_n 1) 15 (0, 0, 0, 0, .null) := ⟨1, rfl, rfl⟩
theorem zi118_15 : zat 118 15 (.newarray .byte) 17 (65, 0, 0, 0, .null) := ⟨2, rfl, rfl⟩
theorem zi118_17 : zat 118 17 (.astore_n 2) 18 (0, 0, 0, 0, .null) := ⟨1, rfl, rfl⟩
theorem zi118_18 : zat 118 18 (.aload_n 0) 19 (0, 0, 0, 0, .null) := ⟨1, rfl, rfl⟩
theorem zi118_19 : zat 118 19 (.iconst 0) 20 (0, 0, 0, 0, .null) := ⟨1, rfl, rfl⟩
theorem zi118_20 : zat 118 20 (.aload_n 2) 21 (0, 0, 0, 0, .null) := ⟨1, rfl, rfl⟩
theorem zi118_21 : zat 118 21 (.iconst 0) 22 (0, 0, 0, 0, .null) := ⟨1, rfl, rfl⟩
theorem zi118_22 : zat 118 22 (.aload_n 0) 23 (0, 0, 0, 0, .null) := ⟨1, rfl, rfl⟩
theorem zi118_23 : zat 118 23 (.arraylength) 24 (0, 0, 0, 0, .null) := ⟨1, rfl, rfl⟩
theorem zi118_24 : zat 118 24 (.iload_n 1) 25 (0, 0, 0, 0, .null) := ⟨1, rfl, rfl⟩
theorem zi118_25 : zat 118 25 (.invokestatic 304) 28 (3, 119, 2, 0, .null) := ⟨3, rfl, rfl⟩
theorem zi118_28 : zat 118 28 (.invokestatic 150) 31 (21, 0, 5, 0, .null) := ⟨3, rfl, rfl⟩
theorem zi118_31 : zat 118 31 (.aload_n 2) 32 (0, 0, 0, 0, .null) := ⟨1, rfl, rfl⟩
theorem zi118_32 : zat 118 32 (.areturn) 33 (0, 0, 0, 0, .null) := ⟨1, rfl, rfl⟩
theorem zrt118 : zrt 118 = some (.array .byte) := rfl
theorem zhh118 : zhh 118 = [] := rfl
theorem zi119_0 : zat 119 0 (.iload_n 0) 1 (0, 0, 0, 0, .null) := ⟨1, rfl, rfl⟩
theorem zi119_1 : zat 119 1 (.iload_n 1) 2 (0, 0, 0, 0, .null) := ⟨1, rfl, rfl⟩
theorem zi119_2 : zat 119 2 (.if_icmp .gt 7) 5 (0, 0, 0, 0, .null) := ⟨3, rfl, rfl⟩
theorem zi119_5 : zat 119 5 (.iload_n 0) 6 (0, 0, 0, 0, .null) := ⟨1, rfl, rfl⟩
theorem zi119_6 : zat 119 6 (.goto 4) 9 (0, 0, 0, 0, .null) := ⟨3, rfl, rfl⟩
theorem zi119_9 : zat 119 9 (.iload_n 1) 10 (0, 0, 0, 0, .null) := ⟨1, rfl, rfl⟩
theorem zi119_10 : zat 119 10 (.ireturn) 11 (0, 0, 0, 0, .null) := ⟨1, rfl, rfl⟩
theorem zrt119 : zrt 119 = some .int := rfl
theorem zhh119 : zhh 119 = [] := rfl
theorem zi120_0 : zat 120 0 (.getstatic 18) 3 (2, 0, 0, 0, .null) := ⟨3, rfl, rfl⟩
theorem zi120_3 : zat 120 3 (.ifCond .eq 14) 6 (0, 0, 0, 0, .null) := ⟨3, rfl, rfl⟩
theorem zi120_6 : zat 120 6 (.aload_n 0) 7 (0, 0, 0, 0, .null) := ⟨1, rfl, rfl⟩
theorem zi120_7 : zat 120 7 (.getfield 22) 10 (5, 1, 2, 0, .null) := ⟨3, rfl, rfl⟩
theorem zi120_10 : zat 120 10 (.ifCond .ne 7) 13 (0, 0, 0, 0, .null) := ⟨3, rfl, rfl⟩
theorem zi120_13 : zat 120 13 (.iconst 1) 14 (0, 0, 0, 0, .null) := ⟨1, rfl, rfl⟩
theorem zi120_14 : zat 120 14 (.goto 4) 17 (0, 0, 0, 0, .null) := ⟨3, rfl, rfl⟩
theorem zi120_17 : zat 120 17 (.iconst 0) 18 (0, 0, 0, 0, .null) := ⟨1, rfl, rfl⟩
theorem zi120_18 : zat 120 18 (.ireturn) 19 (0, 0, 0, 0, .null) := ⟨1, rfl, rfl⟩
theorem zrt120 : zrt 120 = some .boolean := rfl
theorem zhh120 : zhh 120 = [] := rfl
theorem zi121_0 : zat 121 0 (.iload_n 0) 1 (0, 0, 0, 0, .null) := ⟨1, rfl, rfl⟩
theorem zi121_1 : zat 121 1 (.sipush 255) 4 (0, 0, 0, 0, .null) := ⟨3, rfl, rfl⟩
theorem zi121_4 : zat 121 4 (.if_icmp .gt 7) 7 (0, 0, 0, 0, .null) := ⟨3, rfl, rfl⟩
theorem zi121_7 : zat 121 7 (.iconst 1) 8 (0, 0, 0, 0, .null) := ⟨1, rfl, rfl⟩
theorem zi121_8 : zat 121 8 (.goto 4) 11 (0, 0, 0, 0, .null) := ⟨3, rfl, rfl⟩
theorem zi121_11 : zat 121 11 (.iconst 0) 12 (0, 0, 0, 0, .null) := ⟨1, rfl, rfl⟩
theorem zi121_12 : zat 121 12 (.ireturn) 13 (0, 0, 0, 0, .null) := ⟨1, rfl, rfl⟩
theorem zrt121 : zrt 121 = some .boolean := rfl
theorem zhh121 : zhh 121 = [] := rfl
theorem zi122_0 : zat 122 0 (.iload_n 0) 1 (0, 0, 0, 0, .null) := ⟨1, rfl, rfl⟩
theorem zi122_1 : zat 122 1 (.ifCond .lt 8) 4 (0, 0, 0, 0, .null) := ⟨3, rfl, rfl⟩
theorem zi122_4 : zat 122 4 (.iload_n 0) 5 (0, 0, 0, 0, .null) := ⟨1, rfl, rfl⟩
theorem zi122_5 : zat 122 5 (.iload_n 1) 6 (0, 0, 0, 0, .null) := ⟨1, rfl, rfl⟩
theorem zi122_6 : zat 122 6 (.if_icmp .lt 10) 9 (0, 0, 0, 0, .null) := ⟨3, rfl, rfl⟩
theorem zi122_9 : zat 122 9 (.aload_n 2) 10 (0, 0, 0, 0, .null) := ⟨1, rfl, rfl⟩
theorem zi122_10 : zat 122 10 (.iload_n 0) 11 (0, 0, 0, 0, .null) := ⟨1, rfl, rfl⟩
theorem zi122_11 : zat 122 11 (.iload_n 1) 12 (0, 0, 0, 0, .null) := ⟨1, rfl, rfl⟩
theorem zi122_16 : zat 122 16 (.iload_n 0) 17 (0, 0, 0, 0, .null) := ⟨1, rfl, rfl⟩
theorem zi122_17 : zat 122 17 (.ireturn) 18 (0, 0, 0, 0, .null) := ⟨1, rfl, rfl⟩
theorem zrt122 : zrt 122 = some .int := rfl
theorem zhh122 : zhh 122 = [] := rfl
theorem zi123_0 : zat 123 0 (.iload_n 0) 1 (0, 0, 0, 0, .null) := ⟨1, rfl, rfl⟩
theorem zi123_1 : zat 123 1 (.iconst 1) 2 (0, 0, 0, 0, .null) := ⟨1, rfl, rfl⟩
theorem zi123_2 : zat 123 2 (.if_icmp .ne 8) 5 (0, 0, 0, 0, .null) := ⟨3, rfl, rfl⟩
theorem zi123_5 : zat 123 5 (.bipush 35) 7 (0, 0, 0, 0, .null) := ⟨2, rfl, rfl⟩
theorem zi123_7 : zat 123 7 (.goto 15) 10 (0, 0, 0, 0, .null) := ⟨3, rfl, rfl⟩
theorem zi123_10 : zat 123 10 (.iload_n 0) 11 (0, 0, 0, 0, .null) := ⟨1, rfl, rfl⟩
theorem zi123_11 : zat 123 11 (.iconst 2) 12 (0, 0, 0, 0, .null) := ⟨1, rfl, rfl⟩
theorem zi123_12 : zat 123 12 (.if_icmp .ne 8) 15 (0, 0, 0, 0, .null) := ⟨3, rfl, rfl⟩
theorem zi123_15 : zat 123 15 (.bipush 46) 17 (0, 0, 0, 0, .null) := ⟨2, rfl, rfl⟩
theorem zi123_17 : zat 123 17 (.goto 5) 20 (0, 0, 0, 0, .null) := ⟨3, rfl, rfl⟩
theorem zi123_20 : zat 123 20 (.bipush 63) 22 (0, 0, 0, 0, .null) := ⟨2, rfl, rfl⟩
theorem zi123_22 : zat 123 22 (.ireturn) 23 (0, 0, 0, 0, .null) := ⟨1, rfl, rfl⟩
theorem zrt123 : zrt 123 = some .char := rfl
theorem zhh123 : zhh 123 = [] := rfl
theorem zi124_0 : zat 124 0 (.new 18) 3 (6, 4, 0, 0, .null) := ⟨3, rfl, rfl⟩
theorem zi124_3 : zat 124 3 (.dup) 4 (0, 0, 0, 0, .null) := ⟨1, rfl, rfl⟩
theorem zi124_4 : zat 124 4 (.aload_n 0) 5 (0, 0, 0, 0, .null) := ⟨1, rfl, rfl⟩
theorem zi124_5 : zat 124 5 (.invokespecial 137) 8 (5, 125, 1, 0, .null) := ⟨3, rfl, rfl⟩
theorem zi124_8 : zat 124 8 (.areturn) 9 (0, 0, 0, 0, .null) := ⟨1, rfl, rfl⟩
theorem zrt124 : zrt 124 = some (.object "java/lang/String") := rfl
theorem zhh124 : zhh 124 = [] := rfl
theorem zi125_0 : zat 125 0 (.aload_n 0) 1 (0, 0, 0, 0, .null) := ⟨1, rfl, rfl⟩
theorem zi125_1 : zat 125 1 (.aload_n 1) 2 (0, 0, 0, 0, .null) := ⟨1, rfl, rfl⟩
theorem zi125_2 : zat 125 2 (.aconst_null) 3 (0, 0, 0, 0, .null) := ⟨1, rfl, rfl⟩
theorem zi125_3 : zat 125 3 (.invokespecial 489) 6 (5, 126, 2, 0, .null) := ⟨3, rfl, rfl⟩
theorem zi125_6 : zat 125 6 (.return_) 7 (0, 0, 0, 0, .null) := ⟨1, rfl, rfl⟩
theorem zrt125 : zrt 125 = none := rfl
theorem zhh125 : zhh 125 = [] := rfl
theorem zi126_0 : zat 126 0 (.aload_n 0) 1 (0, 0, 0, 0, .null) := ⟨1, rfl, rfl⟩
theorem zi126_1 : zat 126 1 (.invokespecial 1) 4 (20, 0, 0, 0, .null) := ⟨3, rfl, rfl⟩
theorem zi126_4 : zat 126 4 (.aload_n 1) 5 (0, 0, 0, 0, .null) := ⟨1, rfl, rfl⟩
theorem zi126_5 : zat 126 5 (.invokevirtual 552) 8 (0, 127, 0, 5, .null) := ⟨3, rfl, rfl⟩
theorem zi126_8 : zat 126 8 (.astore_n 3) 9 (0, 0, 0, 0, .null) := ⟨1, rfl, rfl⟩
theorem zi126_9 : zat 126 9 (.aload_n 1) 10 (0, 0, 0, 0, .null) := ⟨1, rfl, rfl⟩
theorem zi126_10 : zat 126 10 (.invokevirtual 549) 13 (2, 128, 0, 5, .null) := ⟨3, rfl, rfl⟩
theorem zi126_13 : zat 126 13 (.istore 4) 15 (0, 0, 0, 0, .null) := ⟨2, rfl, rfl⟩
theorem zi126_15 : zat 126 15 (.aload_n 1) 16 (0, 0, 0, 0, .null) := ⟨1, rfl, rfl⟩
theorem zi126_16 : zat 126 16 (.invokevirtual 1047) 19 (0, 120, 0, 5, .null) := ⟨3, rfl, rfl⟩
theorem zi126_19 : zat 126 19 (.ifCond .eq 22) 22 (0, 0, 0, 0, .null) := ⟨3, rfl, rfl⟩
theorem zi126_22 : zat 126 22 (.aload_n 0) 23 (0, 0, 0, 0, .null) := ⟨1, rfl, rfl⟩
theorem zi126_23 : zat 126 23 (.iconst 0) 24 (0, 0, 0, 0, .null) := ⟨1, rfl, rfl⟩
theorem zi126_24 : zat 126 24 (.putfield 15) 27 (6, 1, 2, 1, .null) := ⟨3, rfl, rfl⟩
theorem zi126_27 : zat 126 27 (.aload_n 0) 28 (0, 0, 0, 0, .null) := ⟨1, rfl, rfl⟩
theorem zi126_28 : zat 126 28 (.aload_n 3) 29 (0, 0, 0, 0, .null) := ⟨1, rfl, rfl⟩
theorem zi126_29 : zat 126 29 (.iconst 0) 30 (0, 0, 0, 0, .null) := ⟨1, rfl, rfl⟩
theorem zi126_30 : zat 126 30 (.iload 4) 32 (0, 0, 0, 0, .null) := ⟨2, rfl, rfl⟩
theorem zi126_32 : zat 126 32 (.invokestatic 54) 35 (3, 130, 3, 0, .null) := ⟨3, rfl, rfl⟩
theorem zi126_35 : zat 126 35 (.putfield 9) 38 (6, 0, 7, 1, .null) := ⟨3, rfl, rfl⟩
theorem zi126_38 : zat 126 38 (.goto 59) 41 (0, 0, 0, 0, .null) := ⟨3, rfl, rfl⟩
theorem zi126_41 : zat 126 41 (.getstatic 38) 44 (2, 0, 0, 0, .null) := ⟨3, rfl, rfl⟩
theorem zi126_44 : zat 126 44 (.ifCond .eq 35) 47 (0, 0, 0, 0, .null) := ⟨3, rfl, rfl⟩
theorem zi126_47 : zat 126 47 (.aload_n 1) 48 (0, 0, 0, 0, .null) := ⟨1, rfl, rfl⟩
theorem zi126_48 : zat 126 48 (.getfield 1048) 51 (5, 2, 1, 0, .null) := ⟨3, rfl, rfl⟩
theorem zi126_51 : zat 126 51 (.ifCond .eq 28) 54 (0, 0, 0, 0, .null) := ⟨3, rfl, rfl⟩
theorem zi126_54 : zat 126 54 (.aload_n 0) 55 (0, 0, 0, 0, .null) := ⟨1, rfl, rfl⟩
theorem zi126_55 : zat 126 55 (.aload_n 3) 56 (0, 0, 0, 0, .null) := ⟨1, rfl, rfl⟩
theorem zi126_56 : zat 126 56 (.iconst 0) 57 (0, 0, 0, 0, .null) := ⟨1, rfl, rfl⟩
theorem zi126_57 : zat 126 57 (.iload 4) 59 (0, 0, 0, 0, .null) := ⟨2, rfl, rfl⟩
theorem zi126_62 : zat 126 62 (.putfield 9) 65 (6, 0, 7, 1, .null) := ⟨3, rfl, rfl⟩
theorem zi126_65 : zat 126 65 (.aload_n 0) 66 (0, 0, 0, 0, .null) := ⟨1, rfl, rfl⟩
theorem zi126_66 : zat 126 66 (.aload_n 0) 67 (0, 0, 0, 0, .null) := ⟨1, rfl, rfl⟩
theorem zi126_67 : zat 126 67 (.getfield 9) 70 (6, 0, 7, 1, .null) := ⟨3, rfl, rfl⟩
theorem zi126_70 : zat 126 70 (.iload 4) 72 (0, 0, 0, 0, .null) := ⟨2, rfl, rfl⟩
theorem zi126_75 : zat 126 75 (.putfield 15) 78 (6, 1, 2, 1, .null) := ⟨3, rfl, rfl⟩
theorem zi126_78 : zat 126 78 (.return_) 79 (0, 0, 0, 0, .null) := ⟨1, rfl, rfl⟩
theorem zi126_79 : zat 126 79 (.aload_n 0) 80 (0, 0, 0, 0, .null) := ⟨1, rfl, rfl⟩
theorem zi126_80 : zat 126 80 (.iconst 1) 81 (0, 0, 0, 0, .null) := ⟨1, rfl, rfl⟩
theorem zi126_81 : zat 126 81 (.putfield 15) 84 (6, 1, 2, 1, .null) := ⟨3, rfl, rfl⟩
theorem zi126_84 : zat 126 84 (.aload_n 0) 85 (0, 0, 0, 0, .null) := ⟨1, rfl, rfl⟩
theorem zi126_85 : zat 126 85 (.aload_n 3) 86 (0, 0, 0, 0, .null) := ⟨1, rfl, rfl⟩
theorem zi126_86 : zat 126 86 (.iconst 0) 87 (0, 0, 0, 0, .null) := ⟨1, rfl, rfl⟩
theorem zi126_87 : zat 126 87 (.iload 4) 89 (0, 0, 0, 0, .null) := ⟨2, rfl, rfl⟩
theorem zi126_89 : zat 126 89 (.iconst 1) 90 (0, 0, 0, 0, .null) := ⟨1, rfl, rfl⟩
theorem zi126_90 : zat 126 90 (.ishl) 91 (0, 0, 0, 0, .null) := ⟨1, rfl, rfl⟩
theorem zi126_91 : zat 126 91 (.invokestatic 54) 94 (3, 130, 3, 0, .null) := ⟨3, rfl, rfl⟩
theorem zi126_94 : zat 126 94 (.putfield 9) 97 (6, 0, 7, 1, .null) := ⟨3, rfl, rfl⟩
theorem zi126_97 : zat 126 97 (.return_) 98 (0, 0, 0, 0, .null) := ⟨1, rfl, rfl⟩
theorem zrt126 : zrt 126 = none := rfl
theorem zhh126 : zhh 126 = [] := rfl
theorem zi127_0 : zat 127 0 (.aload_n 0) 1 (0, 0, 0, 0, .null) := ⟨1, rfl, rfl⟩
theorem zi127_1 : zat 127 1 (.getfield 15) 4 (5, 0, 7, 0, .null) := ⟨3, rfl, rfl⟩
theorem zi127_4 : zat 127 4 (.areturn) 5 (0, 0, 0, 0, .null) := ⟨1, rfl, rfl⟩
theorem zrt127 : zrt 127 = some (.array .byte) := rfl
theorem zhh127 : zhh 127 = [] := rfl
theorem zi128_0 : zat 128 0 (.aload_n 0) 1 (0, 0, 0, 0, .null) := ⟨1, rfl, rfl⟩
theorem zi128_1 : zat 128 1 (.invokespecial 343) 4 (7, 129, 0, 5, .null) := ⟨3, rfl, rfl⟩
theorem zi128_4 : zat 128 4 (.ireturn) 5 (0, 0, 0, 0, .null) := ⟨1, rfl, rfl⟩
theorem zrt128 : zrt 128 = some .int := rfl
theorem zhh128 : zhh 128 = [] := rfl
theorem zi129_0 : zat 129 0 (.aload_n 0) 1 (0, 0, 0, 0, .null) := ⟨1, rfl, rfl⟩
theorem zi129_1 : zat 129 1 (.getfield 79) 4 (5, 3, 0, 0, .null) := ⟨3, rfl, rfl⟩
theorem zi129_4 : zat 129 4 (.ireturn) 5 (0, 0, 0, 0, .null) := ⟨1, rfl, rfl⟩
theorem zrt129 : zrt 129 = some .int := rfl
theorem zhh129 : zhh 129 = [] := rfl
theorem zi130_0 : zat 130 0 (.iload_n 1) 1 (0, 0, 0, 0, .null) := ⟨1, rfl, rfl⟩
theorem zi130_1 : zat 130 1 (.ifCond .ne 9) 4 (0, 0, 0, 0, .null) := ⟨3, rfl, rfl⟩
theorem zi130_4 : zat 130 4 (.iload_n 2) 5 (0, 0, 0, 0, .null) := ⟨1, rfl, rfl⟩
theorem zi130_5 : zat 130 5 (.aload_n 0) 6 (0, 0, 0, 0, .null) := ⟨1, rfl, rfl⟩
theorem zi130_6 : zat 130 6 (.arraylength) 7 (0, 0, 0, 0, .null) := ⟨1, rfl, rfl⟩
theorem zi130_7 : zat 130 7 (.if_icmp .eq 10) 10 (0, 0, 0, 0, .null) := ⟨3, rfl, rfl⟩
theorem zi130_10 : zat 130 10 (.aload_n 0) 11 (0, 0, 0, 0, .null) := ⟨1, rfl, rfl⟩
theorem zi130_11 : zat 130 11 (.iload_n 1) 12 (0, 0, 0, 0, .null) := ⟨1, rfl, rfl⟩
theorem zi130_12 : zat 130 12 (.iload_n 2) 13 (0, 0, 0, 0, .null) := ⟨1, rfl, rfl⟩
theorem zi130_13 : zat 130 13 (.invokestatic 339) 16 (3, 131, 3, 0, .null) := ⟨3, rfl, rfl⟩
theorem zi130_16 : zat 130 16 (.areturn) 17 (0, 0, 0, 0, .null) := ⟨1, rfl, rfl⟩
theorem zi130_17 : zat 130 17 (.aload_n 0) 18 (0, 0, 0, 0, .null) := ⟨1, rfl, rfl⟩
theorem zi130_24 : zat 130 24 (.areturn) 25 (0, 0, 0, 0, .null) := ⟨1, rfl, rfl⟩
theorem zrt130 : zrt 130 = some (.array .byte) := rfl
theorem zhh130 : zhh 130 = [] := rfl
theorem zi131_0 : zat 131 0 (.iload_n 1) 1 (0, 0, 0, 0, .null) := ⟨1, rfl, rfl⟩
theorem zi131_1 : zat 131 1 (.iload_n 2) 2 (0, 0, 0, 0, .null) := ⟨1, rfl, rfl⟩
theorem zi131_2 : zat 131 2 (.invokestatic 343) 5 (3, 132, 2, 0, .null) := ⟨3, rfl, rfl⟩
theorem zi131_5 : zat 131 5 (.iload_n 2) 6 (0, 0, 0, 0, .null) := ⟨1, rfl, rfl⟩
theorem zi131_6 : zat 131 6 (.iload_n 1) 7 (0, 0, 0, 0, .null) := ⟨1, rfl, rfl⟩
theorem zi131_7 : zat 131 7 (.isub) 8 (0, 0, 0, 0, .null) := ⟨1, rfl, rfl⟩
theorem zi131_8 : zat 131 8 (.istore_n 3) 9 (0, 0, 0, 0, .null) := ⟨1, rfl, rfl⟩
theorem zi131_9 : zat 131 9 (.iload_n 3) 10 (0, 0, 0, 0, .null) := ⟨1, rfl, rfl⟩
theorem zi131_10 : zat 131 10 (.newarray .byte) 12 (65, 0, 0, 0, .null) := ⟨2, rfl, rfl⟩
theorem zi131_12 : zat 131 12 (.astore 4) 14 (0, 0, 0, 0, .null) := ⟨2, rfl, rfl⟩
theorem zi131_14 : zat 131 14 (.aload_n 0) 15 (0, 0, 0, 0, .null) := ⟨1, rfl, rfl⟩
theorem zi131_15 : zat 131 15 (.iload_n 1) 16 (0, 0, 0, 0, .null) := ⟨1, rfl, rfl⟩
theorem zi131_16 : zat 131 16 (.aload 4) 18 (0, 0, 0, 0, .null) := ⟨2, rfl, rfl⟩
theorem zi131_18 : zat 131 18 (.iconst 0) 19 (0, 0, 0, 0, .null) := ⟨1, rfl, rfl⟩
theorem zi131_19 : zat 131 19 (.aload_n 0) 20 (0, 0, 0, 0, .null) := ⟨1, rfl, rfl⟩
theorem zi131_20 : zat 131 20 (.arraylength) 21 (0, 0, 0, 0, .null) := ⟨1, rfl, rfl⟩
theorem zi131_21 : zat 131 21 (.iload_n 1) 22 (0, 0, 0, 0, .null) := ⟨1, rfl, rfl⟩
theorem zi131_22 : zat 131 22 (.isub) 23 (0, 0, 0, 0, .null) := ⟨1, rfl, rfl⟩
theorem zi131_23 : zat 131 23 (.iload_n 3) 24 (0, 0, 0, 0, .null) := ⟨1, rfl, rfl⟩
theorem zi131_24 : zat 131 24 (.invokestatic 304) 27 (3, 119, 2, 0, .null) := ⟨3, rfl, rfl⟩
theorem zi131_27 : zat 131 27 (.invokestatic 150) 30 (21, 0, 5, 0, .null) := ⟨3, rfl, rfl⟩
theorem zi131_30 : zat 131 30 (.aload 4) 32 (0, 0, 0, 0, .null) := ⟨2, rfl, rfl⟩
theorem zi131_32 : zat 131 32 (.areturn) 33 (0, 0, 0, 0, .null) := ⟨1, rfl, rfl⟩
theorem zrt131 : zrt 131 = some (.array .byte) := rfl
theorem zhh131 : zhh 131 = [] := rfl
theorem zi132_0 : zat 132 0 (.iload_n 1) 1 (0, 0, 0, 0, .null) := ⟨1, rfl, rfl⟩
theorem zi132_1 : zat 132 1 (.iload_n 0) 2 (0, 0, 0, 0, .null) := ⟨1, rfl, rfl⟩
theorem zi132_2 : zat 132 2 (.if_icmp .ge 35) 5 (0, 0, 0, 0, .null) := ⟨3, rfl, rfl⟩
theorem zi132_8 : zat 132 8 (.dup) 9 (0, 0, 0, 0, .null) := ⟨1, rfl, rfl⟩
theorem zi132_9 : zat 132 9 (.new 45) 12 (5, 4, 0, 0, .null) := ⟨3, rfl, rfl⟩
theorem zi132_12 : zat 132 12 (.dup) 13 (0, 0, 0, 0, .null) := ⟨1, rfl, rfl⟩
theorem zi132_13 : zat 132 13 (.invokespecial 47) 16 (5, 110, 0, 0, .null) := ⟨3, rfl, rfl⟩
theorem zi132_16 : zat 132 16 (.iload_n 0) 17 (0, 0, 0, 0, .null) := ⟨1, rfl, rfl⟩
theorem zi132_26 : zat 132 26 (.iload_n 1) 27 (0, 0, 0, 0, .null) := ⟨1, rfl, rfl⟩
theorem zi132_30 : zat 132 30 (.invokevirtual 61) 33 (0, 124, 0, 5, .null) := ⟨3, rfl, rfl⟩
theorem zi132_37 : zat 132 37 (.return_) 38 (0, 0, 0, 0, .null) := ⟨1, rfl, rfl⟩
theorem zrt132 : zrt 132 = none := rfl
theorem zhh132 : zhh 132 = [] := rfl
theorem zi133_0 : zat 133 0 (.aload_n 0) 1 (0, 0, 0, 0, .null) := ⟨1, rfl, rfl⟩
theorem zi133_1 : zat 133 1 (.getfield 9) 4 (6, 0, 7, 1, .null) := ⟨3, rfl, rfl⟩
theorem zi133_4 : zat 133 4 (.arraylength) 5 (0, 0, 0, 0, .null) := ⟨1, rfl, rfl⟩
theorem zi133_5 : zat 133 5 (.aload_n 0) 6 (0, 0, 0, 0, .null) := ⟨1, rfl, rfl⟩
theorem zi133_6 : zat 133 6 (.invokevirtual 335) 9 (0, 134, 0, 6, .null) := ⟨3, rfl, rfl⟩
theorem zi133_9 : zat 133 9 (.ishr) 10 (0, 0, 0, 0, .null) := ⟨1, rfl, rfl⟩
theorem zi133_10 : zat 133 10 (.ireturn) 11 (0, 0, 0, 0, .null) := ⟨1, rfl, rfl⟩
theorem zrt133 : zrt 133 = some .int := rfl
theorem zhh133 : zhh 133 = [] := rfl
theorem zi134_0 : zat 134 0 (.getstatic 38) 3 (2, 0, 0, 0, .null) := ⟨3, rfl, rfl⟩
theorem zi134_3 : zat 134 3 (.ifCond .eq 10) 6 (0, 0, 0, 0, .null) := ⟨3, rfl, rfl⟩
theorem zi134_6 : zat 134 6 (.aload_n 0) 7 (0, 0, 0, 0, .null) := ⟨1, rfl, rfl⟩
theorem zi134_7 : zat 134 7 (.getfield 15) 10 (6, 1, 2, 1, .null) := ⟨3, rfl, rfl⟩
theorem zi134_10 : zat 134 10 (.goto 4) 13 (0, 0, 0, 0, .null) := ⟨3, rfl, rfl⟩
theorem zi134_13 : zat 134 13 (.iconst 1) 14 (0, 0, 0, 0, .null) := ⟨1, rfl, rfl⟩
theorem zi134_14 : zat 134 14 (.ireturn) 15 (0, 0, 0, 0, .null) := ⟨1, rfl, rfl⟩
theorem zrt134 : zrt 134 = some .byte := rfl
theorem zhh134 : zhh 134 = [] := rfl
theorem zi135_0 : zat 135 0 (.aload_n 3) 1 (0, 0, 0, 0, .null) := ⟨1, rfl, rfl⟩
theorem zi135_1 : zat 135 1 (.aload_n 0) 2 (0, 0, 0, 0, .null) := ⟨1, rfl, rfl⟩
theorem zi135_2 : zat 135 2 (.iload_n 1) 3 (0, 0, 0, 0, .null) := ⟨1, rfl, rfl⟩
theorem zi135_3 : zat 135 3 (.iload_n 2) 4 (0, 0, 0, 0, .null) := ⟨1, rfl, rfl⟩
theorem zi135_4 : zat 135 4 (.invokevirtual 80) 7 (0, 47, 2, 0, .null) := ⟨3, rfl, rfl⟩
theorem zi135_7 : zat 135 7 (.i2l) 8 (0, 0, 0, 0, .null) := ⟨1, rfl, rfl⟩
theorem zi135_8 : zat 135 8 (.putfield 13) 11 (3, 0, 3, 0, .null) := ⟨3, rfl, rfl⟩
theorem zi135_11 : zat 135 11 (.goto 11) 14 (0, 0, 0, 0, .null) := ⟨3, rfl, rfl⟩
theorem zi135_14 : zat 135 14 (.astore 4) 16 (0, 0, 0, 0, .null) := ⟨2, rfl, rfl⟩
theorem zi135_16 : zat 135 16 (.iconst 1) 17 (0, 0, 0, 0, .null) := ⟨1, rfl, rfl⟩
theorem zi135_17 : zat 135 17 (.ireturn) 18 (0, 0, 0, 0, .null) := ⟨1, rfl, rfl⟩
theorem zi135_18 : zat 135 18 (.astore 4) 20 (0, 0, 0, 0, .null) := ⟨2, rfl, rfl⟩
theorem zi135_20 : zat 135 20 (.iconst 2) 21 (0, 0, 0, 0, .null) := ⟨1, rfl, rfl⟩
theorem zi135_21 : zat 135 21 (.ireturn) 22 (0, 0, 0, 0, .null) := ⟨1, rfl, rfl⟩
theorem zi135_22 : zat 135 22 (.iconst 0) 23 (0, 0, 0, 0, .null) := ⟨1, rfl, rfl⟩
theorem zi135_23 : zat 135 23 (.ireturn) 24 (0, 0, 0, 0, .null) := ⟨1, rfl, rfl⟩
theorem zrt135 : zrt 135 = some .int := rfl
theorem zhh135 : zhh 135 = [(0, 11, 14, 27), (0, 11, 18, 19)] := rfl
theorem zi136_0 : zat 136 0 (.aload_n 3) 1 (0, 0, 0, 0, .null) := ⟨1, rfl, rfl⟩
theorem zi136_1 : zat 136 1 (.aload_n 0) 2 (0, 0, 0, 0, .null) := ⟨1, rfl, rfl⟩
theorem zi136_2 : zat 136 2 (.iload_n 1) 3 (0, 0, 0, 0, .null) := ⟨1, rfl, rfl⟩
theorem zi136_3 : zat 136 3 (.iload_n 2) 4 (0, 0, 0, 0, .null) := ⟨1, rfl, rfl⟩
theorem zi136_4 : zat 136 4 (.invokevirtual 83) 7 (0, 137, 2, 0, .null) := ⟨3, rfl, rfl⟩
theorem zi136_7 : zat 136 7 (.putfield 87) 10 (3, 1, 4, 0, .null) := ⟨3, rfl, rfl⟩
theorem zi136_10 : zat 136 10 (.goto 7) 13 (0, 0, 0, 0, .null) := ⟨3, rfl, rfl⟩
theorem zi136_13 : zat 136 13 (.astore 4) 15 (0, 0, 0, 0, .null) := ⟨2, rfl, rfl⟩
theorem zi136_15 : zat 136 15 (.iconst 1) 16 (0, 0, 0, 0, .null) := ⟨1, rfl, rfl⟩
theorem zi136_16 : zat 136 16 (.ireturn) 17 (0, 0, 0, 0, .null) := ⟨1, rfl, rfl⟩
theorem zi136_17 : zat 136 17 (.iconst 0) 18 (0, 0, 0, 0, .null) := ⟨1, rfl, rfl⟩
theorem zi136_18 : zat 136 18 (.ireturn) 19 (0, 0, 0, 0, .null) := ⟨1, rfl, rfl⟩
theorem zrt136 : zrt 136 = some .int := rfl
theorem zhh136 : zhh 136 = [(0, 10, 13, 27)] := rfl
theorem zi137_0 : zat 137 0 (.aload_n 0) 1 (0, 0, 0, 0, .null) := ⟨1, rfl, rfl⟩
theorem zi137_1 : zat 137 1 (.iload_n 1) 2 (0, 0, 0, 0, .null) := ⟨1, rfl, rfl⟩
theorem zi137_2 : zat 137 2 (.invokevirtual 51) 5 (0, 13, 1, 0, .null) := ⟨3, rfl, rfl⟩
theorem zi137_5 : zat 137 5 (.astore_n 3) 6 (0, 0, 0, 0, .null) := ⟨1, rfl, rfl⟩
theorem zi137_6 : zat 137 6 (.aload_n 3) 7 (0, 0, 0, 0, .null) := ⟨1, rfl, rfl⟩
theorem zi137_7 : zat 137 7 (.getfield 55) 10 (4, 0, 6, 2, .null) := ⟨3, rfl, rfl⟩
theorem zi137_10 : zat 137 10 (.iload_n 2) 11 (0, 0, 0, 0, .null) := ⟨1, rfl, rfl⟩
theorem zi137_11 : zat 137 11 (.invokestatic 86) 14 (3, 40, 2, 0, .null) := ⟨3, rfl, rfl⟩
theorem zi137_14 : zat 137 14 (.aload_n 3) 15 (0, 0, 0, 0, .null) := ⟨1, rfl, rfl⟩
theorem zi137_15 : zat 137 15 (.getfield 209) 18 (4, 1, 6, 2, .null) := ⟨3, rfl, rfl⟩
theorem zi137_18 : zat 137 18 (.aload_n 3) 19 (0, 0, 0, 0, .null) := ⟨1, rfl, rfl⟩
theorem zi137_19 : zat 137 19 (.getfield 55) 22 (4, 0, 6, 2, .null) := ⟨3, rfl, rfl⟩
theorem zi137_22 : zat 137 22 (.sipush 500) 25 (0, 0, 0, 0, .null) := ⟨3, rfl, rfl⟩
theorem zi137_25 : zat 137 25 (.invokevirtual 96) 28 (0, 22, 2, 2, .null) := ⟨3, rfl, rfl⟩
theorem zi137_28 : zat 137 28 (.iload_n 2) 29 (0, 0, 0, 0, .null) := ⟨1, rfl, rfl⟩
theorem zi137_29 : zat 137 29 (.invokevirtual 244) 32 (0, 57, 1, 2, .null) := ⟨3, rfl, rfl⟩
theorem zi137_32 : zat 137 32 (.dreturn) 33 (0, 0, 0, 0, .null) := ⟨1, rfl, rfl⟩
theorem zrt137 : zrt 137 = some .double := rfl
theorem zhh137 : zhh 137 = [] := rfl
theorem zi138_0 : zat 138 0 (.aload_n 3) 1 (0, 0, 0, 0, .null) := ⟨1, rfl, rfl⟩
theorem zi138_1 : zat 138 1 (.aload_n 0) 2 (0, 0, 0, 0, .null) := ⟨1, rfl, rfl⟩
theorem zi138_2 : zat 138 2 (.iload_n 1) 3 (0, 0, 0, 0, .null) := ⟨1, rfl, rfl⟩
theorem zi138_3 : zat 138 3 (.iload_n 2) 4 (0, 0, 0, 0, .null) := ⟨1, rfl, rfl⟩
theorem zi138_4 : zat 138 4 (.invokevirtual 91) 7 (0, 49, 2, 0, .null) := ⟨3, rfl, rfl⟩
theorem zi138_7 : zat 138 7 (.putfield 87) 10 (3, 1, 4, 0, .null) := ⟨3, rfl, rfl⟩
theorem zi138_10 : zat 138 10 (.goto 11) 13 (0, 0, 0, 0, .null) := ⟨3, rfl, rfl⟩
theorem zi138_13 : zat 138 13 (.astore 4) 15 (0, 0, 0, 0, .null) := ⟨2, rfl, rfl⟩
theorem zi138_15 : zat 138 15 (.iconst 1) 16 (0, 0, 0, 0, .null) := ⟨1, rfl, rfl⟩
theorem zi138_16 : zat 138 16 (.ireturn) 17 (0, 0, 0, 0, .null) := ⟨1, rfl, rfl⟩
theorem zi138_17 : zat 138 17 (.astore 4) 19 (0, 0, 0, 0, .null) := ⟨2, rfl, rfl⟩
theorem zi138_19 : zat 138 19 (.iconst 2) 20 (0, 0, 0, 0, .null) := ⟨1, rfl, rfl⟩
theorem zi138_20 : zat 138 20 (.ireturn) 21 (0, 0, 0, 0, .null) := ⟨1, rfl, rfl⟩
theorem zi138_21 : zat 138 21 (.iconst 0) 22 (0, 0, 0, 0, .null) := ⟨1, rfl, rfl⟩
theorem zi138_22 : zat 138 22 (.ireturn) 23 (0, 0, 0, 0, .null) := ⟨1, rfl, rfl⟩
theorem zrt138 : zrt 138 = some .int := rfl
theorem zhh138 : zhh 138 = [(0, 10, 13, 27), (0, 10, 17, 19)] := rfl
theorem zi139_0 : zat 139 0 (.aload_n 2) 1 (0, 0, 0, 0, .null) := ⟨1, rfl, rfl⟩
theorem zi139_1 : zat 139 1 (.aload_n 0) 2 (0, 0, 0, 0, .null) := ⟨1, rfl, rfl⟩
theorem zi139_2 : zat 139 2 (.iload_n 1) 3 (0, 0, 0, 0, .null) := ⟨1, rfl, rfl⟩
theorem zi139_3 : zat 139 3 (.invokevirtual 94) 6 (0, 11, 1, 0, .null) := ⟨3, rfl, rfl⟩
theorem zi139_6 : zat 139 6 (.i2l) 7 (0, 0, 0, 0, .null) := ⟨1, rfl, rfl⟩
theorem zi139_7 : zat 139 7 (.putfield 13) 10 (3, 0, 3, 0, .null) := ⟨3, rfl, rfl⟩
theorem zi139_10 : zat 139 10 (.goto 6) 13 (0, 0, 0, 0, .null) := ⟨3, rfl, rfl⟩
theorem zi139_13 : zat 139 13 (.astore_n 3) 14 (0, 0, 0, 0, .null) := ⟨1, rfl, rfl⟩
theorem zi139_14 : zat 139 14 (.iconst 1) 15 (0, 0, 0, 0, .null) := ⟨1, rfl, rfl⟩
theorem zi139_15 : zat 139 15 (.ireturn) 16 (0, 0, 0, 0, .null) := ⟨1, rfl, rfl⟩
theorem zi139_16 : zat 139 16 (.iconst 0) 17 (0, 0, 0, 0, .null) := ⟨1, rfl, rfl⟩
theorem zi139_17 : zat 139 17 (.ireturn) 18 (0, 0, 0, 0, .null) := ⟨1, rfl, rfl⟩
theorem zrt139 : zrt 139 = some .int := rfl
theorem zhh139 : zhh 139 = [(0, 10, 13, 19)] := rfl
theorem zi140_0 : zat 140 0 (.aload_n 2) 1 (0, 0, 0, 0, .null) := ⟨1, rfl, rfl⟩
theorem zi140_1 : zat 140 1 (.aload_n 0) 2 (0, 0, 0, 0, .null) := ⟨1, rfl, rfl⟩
theorem zi140_2 : zat 140 2 (.iload_n 1) 3 (0, 0, 0, 0, .null) := ⟨1, rfl, rfl⟩
theorem zi140_3 : zat 140 3 (.invokevirtual 97) 6 (0, 55, 1, 0, .null) := ⟨3, rfl, rfl⟩
theorem zi140_6 : zat 140 6 (.i2l) 7 (0, 0, 0, 0, .null) := ⟨1, rfl, rfl⟩
theorem zi140_7 : zat 140 7 (.putfield 13) 10 (3, 0, 3, 0, .null) := ⟨3, rfl, rfl⟩
theorem zi140_10 : zat 140 10 (.goto 6) 13 (0, 0, 0, 0, .null) := ⟨3, rfl, rfl⟩
theorem zi140_13 : zat 140 13 (.astore_n 3) 14 (0, 0, 0, 0, .null) := ⟨1, rfl, rfl⟩
theorem zi140_14 : zat 140 14 (.iconst 1) 15 (0, 0, 0, 0, .null) := ⟨1, rfl, rfl⟩
theorem zi140_15 : zat 140 15 (.ireturn) 16 (0, 0, 0, 0, .null) := ⟨1, rfl, rfl⟩
theorem zi140_16 : zat 140 16 (.iconst 0) 17 (0, 0, 0, 0, .null) := ⟨1, rfl, rfl⟩
theorem zi140_17 : zat 140 17 (.ireturn) 18 (0, 0, 0, 0, .null) := ⟨1, rfl, rfl⟩
theorem zrt140 : zrt 140 = some .int := rfl
theorem zhh140 : zhh 140 = [(0, 10, 13, 27)] := rfl
theorem zi141_0 : zat 141 0 (.aload_n 2) 1 (0, 0, 0, 0, .null) := ⟨1, rfl, rfl⟩
theorem zi141_1 : zat 141 1 (.aload_n 0) 2 (0, 0, 0, 0, .null) := ⟨1, rfl, rfl⟩
theorem zi141_2 : zat 141 2 (.iload_n 1) 3 (0, 0, 0, 0, .null) := ⟨1, rfl, rfl⟩
theorem zi141_3 : zat 141 3 (.invokevirtual 100) 6 (0, 56, 1, 0, .null) := ⟨3, rfl, rfl⟩
theorem zi141_6 : zat 141 6 (.i2l) 7 (0, 0, 0, 0, .null) := ⟨1, rfl, rfl⟩
theorem zi141_7 : zat 141 7 (.putfield 13) 10 (3, 0, 3, 0, .null) := ⟨3, rfl, rfl⟩
theorem zi141_10 : zat 141 10 (.goto 6) 13 (0, 0, 0, 0, .null) := ⟨3, rfl, rfl⟩
theorem zi141_13 : zat 141 13 (.astore_n 3) 14 (0, 0, 0, 0, .null) := ⟨1, rfl, rfl⟩
theorem zi141_14 : zat 141 14 (.iconst 1) 15 (0, 0, 0, 0, .null) := ⟨1, rfl, rfl⟩
theorem zi141_15 : zat 141 15 (.ireturn) 16 (0, 0, 0, 0, .null) := ⟨1, rfl, rfl⟩
theorem zi141_16 : zat 141 16 (.iconst 0) 17 (0, 0, 0, 0, .null) := ⟨1, rfl, rfl⟩
theorem zi141_17 : zat 141 17 (.ireturn) 18 (0, 0, 0, 0, .null) := ⟨1, rfl, rfl⟩
theorem zrt141 : zrt 141 = some .int := rfl
theorem zhh141 : zhh 141 = [(0, 10, 13, 27)] := rfl
theorem zi142_0 : zat 142 0 (.aload 5) 2 (0, 0, 0, 0, .null) := ⟨2, rfl, rfl⟩
theorem zi142_2 : zat 142 2 (.aload_n 0) 3 (0, 0, 0, 0, .null) := ⟨1, rfl, rfl⟩
theorem zi142_3 : zat 142 3 (.iload_n 1) 4 (0, 0, 0, 0, .null) := ⟨1, rfl, rfl⟩
theorem zi142_4 : zat 142 4 (.iload_n 2) 5 (0, 0, 0, 0, .null) := ⟨1, rfl, rfl⟩
theorem zi142_5 : zat 142 5 (.iload_n 3) 6 (0, 0, 0, 0, .null) := ⟨1, rfl, rfl⟩
theorem zi142_6 : zat 142 6 (.iload 4) 8 (0, 0, 0, 0, .null) := ⟨2, rfl, rfl⟩
theorem zi142_8 : zat 142 8 (.invokevirtual 103) 11 (0, 143, 4, 0, .null) := ⟨3, rfl, rfl⟩
theorem zi142_11 : zat 142 11 (.i2l) 12 (0, 0, 0, 0, .null) := ⟨1, rfl, rfl⟩
theorem zi142_12 : zat 142 12 (.putfield 13) 15 (3, 0, 3, 0, .null) := ⟨3, rfl, rfl⟩
theorem zi142_15 : zat 142 15 (.goto 15) 18 (0, 0, 0, 0, .null) := ⟨3, rfl, rfl⟩
theorem zi142_18 : zat 142 18 (.astore 6) 20 (0, 0, 0, 0, .null) := ⟨2, rfl, rfl⟩
theorem zi142_20 : zat 142 20 (.iconst 1) 21 (0, 0, 0, 0, .null) := ⟨1, rfl, rfl⟩
theorem zi142_21 : zat 142 21 (.ireturn) 22 (0, 0, 0, 0, .null) := ⟨1, rfl, rfl⟩
theorem zi142_22 : zat 142 22 (.astore 6) 24 (0, 0, 0, 0, .null) := ⟨2, rfl, rfl⟩
theorem zi142_24 : zat 142 24 (.iconst 2) 25 (0, 0, 0, 0, .null) := ⟨1, rfl, rfl⟩
theorem zi142_25 : zat 142 25 (.ireturn) 26 (0, 0, 0, 0, .null) := ⟨1, rfl, rfl⟩
theorem zi142_26 : zat 142 26 (.astore 6) 28 (0, 0, 0, 0, .null) := ⟨2, rfl, rfl⟩
theorem zi142_28 : zat 142 28 (.iconst 3) 29 (0, 0, 0, 0, .null) := ⟨1, rfl, rfl⟩
theorem zi142_29 : zat 142 29 (.ireturn) 30 (0, 0, 0, 0, .null) := ⟨1, rfl, rfl⟩
theorem zi142_30 : zat 142 30 (.iconst 0) 31 (0, 0, 0, 0, .null) := ⟨1, rfl, rfl⟩
theorem zi142_31 : zat 142 31 (.ireturn) 32 (0, 0, 0, 0, .null) := ⟨1, rfl, rfl⟩
theorem zrt142 : zrt 142 = some .int := rfl
theorem zhh142 : zhh 142 = [(0, 15, 18, 27), (0, 15, 22, 19), (0, 15, 26, 21)] := rfl
theorem zi143_0 : zat 143 0 (.aload_n 0) 1 (0, 0, 0, 0, .null) := ⟨1, rfl, rfl⟩
theorem zi143_1 : zat 143 1 (.iload_n 1) 2 (0, 0, 0, 0, .null) := ⟨1, rfl, rfl⟩
theorem zi143_2 : zat 143 2 (.invokevirtual 51) 5 (0, 13, 1, 0, .null) := ⟨3, rfl, rfl⟩
theorem zi143_5 : zat 143 5 (.getfield 55) 8 (4, 0, 6, 2, .null) := ⟨3, rfl, rfl⟩
theorem zi143_8 : zat 143 8 (.astore 5) 10 (0, 0, 0, 0, .null) := ⟨2, rfl, rfl⟩
theorem zi143_10 : zat 143 10 (.aload 5) 12 (0, 0, 0, 0, .null) := ⟨2, rfl, rfl⟩
theorem zi143_12 : zat 143 12 (.iload_n 2) 13 (0, 0, 0, 0, .null) := ⟨1, rfl, rfl⟩
theorem zi143_13 : zat 143 13 (.invokestatic 86) 16 (3, 40, 2, 0, .null) := ⟨3, rfl, rfl⟩
theorem zi143_16 : zat 143 16 (.iload 4) 18 (0, 0, 0, 0, .null) := ⟨2, rfl, rfl⟩
theorem zi143_18 : zat 143 18 (.iconst 2) 19 (0, 0, 0, 0, .null) := ⟨1, rfl, rfl⟩
theorem zi143_19 : zat 143 19 (.invokestatic 184) 22 (3, 12, 2, 0, .null) := ⟨3, rfl, rfl⟩
theorem zi143_22 : zat 143 22 (.aload 5) 24 (0, 0, 0, 0, .null) := ⟨2, rfl, rfl⟩
theorem zi143_24 : zat 143 24 (.iload_n 2) 25 (0, 0, 0, 0, .null) := ⟨1, rfl, rfl⟩
theorem zi143_25 : zat 143 25 (.invokestatic 89) 28 (3, 77, 2, 0, .null) := ⟨3, rfl, rfl⟩
theorem zi143_28 : zat 143 28 (.aload_n 0) 29 (0, 0, 0, 0, .null) := ⟨1, rfl, rfl⟩
theorem zi143_29 : zat 143 29 (.aload 5) 31 (0, 0, 0, 0, .null) := ⟨2, rfl, rfl⟩
theorem zi143_31 : zat 143 31 (.iload_n 2) 32 (0, 0, 0, 0, .null) := ⟨1, rfl, rfl⟩
theorem zi143_32 : zat 143 32 (.iload_n 3) 33 (0, 0, 0, 0, .null) := ⟨1, rfl, rfl⟩
theorem zi143_33 : zat 143 33 (.invokevirtual 92) 36 (0, 78, 3, 0, .null) := ⟨3, rfl, rfl⟩
theorem zi143_36 : zat 143 36 (.iload 4) 38 (0, 0, 0, 0, .null) := ⟨2, rfl, rfl⟩
theorem zi143_38 : zat 143 38 (.iconst 2) 39 (0, 0, 0, 0, .null) := ⟨1, rfl, rfl⟩
theorem zi143_39 : zat 143 39 (.if_icmp .ne 21) 42 (0, 0, 0, 0, .null) := ⟨3, rfl, rfl⟩
theorem zi143_42 : zat 143 42 (.aload_n 0) 43 (0, 0, 0, 0, .null) := ⟨1, rfl, rfl⟩
theorem zi143_43 : zat 143 43 (.getfield 27) 46 (0, 2, 6, 1, .null) := ⟨3, rfl, rfl⟩
theorem zi143_46 : zat 143 46 (.aload_n 0) 47 (0, 0, 0, 0, .null) := ⟨1, rfl, rfl⟩
theorem zi143_47 : zat 143 47 (.getfield 20) 50 (0, 1, 6, 1, .null) := ⟨3, rfl, rfl⟩
theorem zi143_50 : zat 143 50 (.sipush 500) 53 (0, 0, 0, 0, .null) := ⟨3, rfl, rfl⟩
theorem zi143_53 : zat 143 53 (.invokevirtual 96) 56 (0, 22, 2, 2, .null) := ⟨3, rfl, rfl⟩
theorem zi143_56 : zat 143 56 (.getfield 100) 59 (2, 10, 0, 0, .null) := ⟨3, rfl, rfl⟩
theorem zi143_59 : zat 143 59 (.ireturn) 60 (0, 0, 0, 0, .null) := ⟨1, rfl, rfl⟩
theorem zi143_60 : zat 143 60 (.aload_n 0) 61 (0, 0, 0, 0, .null) := ⟨1, rfl, rfl⟩
theorem zi143_61 : zat 143 61 (.getfield 20) 64 (0, 1, 6, 1, .null) := ⟨3, rfl, rfl⟩
theorem zi143_64 : zat 143 64 (.iconst 0) 65 (0, 0, 0, 0, .null) := ⟨1, rfl, rfl⟩
theorem zi143_65 : zat 143 65 (.invokevirtual 120) 68 (0, 25, 1, 1, .null) := ⟨3, rfl, rfl⟩
theorem zi143_68 : zat 143 68 (.istore 6) 70 (0, 0, 0, 0, .null) := ⟨2, rfl, rfl⟩
theorem zi143_70 : zat 143 70 (.iload 4) 72 (0, 0, 0, 0, .null) := ⟨2, rfl, rfl⟩
theorem zi143_72 : zat 143 72 (.ifCond .ne 6) 75 (0, 0, 0, 0, .null) := ⟨3, rfl, rfl⟩
theorem zi143_75 : zat 143 75 (.iload 6) 77 (0, 0, 0, 0, .null) := ⟨2, rfl, rfl⟩
theorem zi143_77 : zat 143 77 (.ireturn) 78 (0, 0, 0, 0, .null) := ⟨1, rfl, rfl⟩
theorem zi143_78 : zat 143 78 (.aload_n 0) 79 (0, 0, 0, 0, .null) := ⟨1, rfl, rfl⟩
theorem zi143_79 : zat 143 79 (.getfield 20) 82 (0, 1, 6, 1, .null) := ⟨3, rfl, rfl⟩
theorem zi143_82 : zat 143 82 (.invokevirtual 206) 85 (0, 19, 0, 1, .null) := ⟨3, rfl, rfl⟩
theorem zi143_85 : zat 143 85 (.ifCond .le 7) 88 (0, 0, 0, 0, .null) := ⟨3, rfl, rfl⟩
theorem zi143_88 : zat 143 88 (.iconst 1) 89 (0, 0, 0, 0, .null) := ⟨1, rfl, rfl⟩
theorem zi143_89 : zat 143 89 (.goto 4) 92 (0, 0, 0, 0, .null) := ⟨3, rfl, rfl⟩
theorem zi143_92 : zat 143 92 (.iconst 0) 93 (0, 0, 0, 0, .null) := ⟨1, rfl, rfl⟩
theorem zi143_93 : zat 143 93 (.ireturn) 94 (0, 0, 0, 0, .null) := ⟨1, rfl, rfl⟩
theorem zrt143 : zrt 143 = some .int := rfl
theorem zhh143 : zhh 143 = [] := rfl
theorem zi144_0 : zat 144 0 (.aload_n 2) 1 (0, 0, 0, 0, .null) := ⟨1, rfl, rfl⟩
theorem zi144_1 : zat 144 1 (.aload_n 0) 2 (0, 0, 0, 0, .null) := ⟨1, rfl, rfl⟩
theorem zi144_2 : zat 144 2 (.iload_n 1) 3 (0, 0, 0, 0, .null) := ⟨1, rfl, rfl⟩
theorem zi144_3 : zat 144 3 (.invokevirtual 107) 6 (0, 58, 1, 0, .null) := ⟨3, rfl, rfl⟩
theorem zi144_6 : zat 144 6 (.i2l) 7 (0, 0, 0, 0, .null) := ⟨1, rfl, rfl⟩
theorem zi144_7 : zat 144 7 (.putfield 13) 10 (3, 0, 3, 0, .null) := ⟨3, rfl, rfl⟩
theorem zi144_10 : zat 144 10 (.goto 6) 13 (0, 0, 0, 0, .null) := ⟨3, rfl, rfl⟩
theorem zi144_13 : zat 144 13 (.astore_n 3) 14 (0, 0, 0, 0, .null) := ⟨1, rfl, rfl⟩
theorem zi144_14 : zat 144 14 (.iconst 1) 15 (0, 0, 0, 0, .null) := ⟨1, rfl, rfl⟩
theorem zi144_15 : zat 144 15 (.ireturn) 16 (0, 0, 0, 0, .null) := ⟨1, rfl, rfl⟩
theorem zi144_16 : zat 144 16 (.iconst 0) 17 (0, 0, 0, 0, .null) := ⟨1, rfl, rfl⟩
theorem zi144_17 : zat 144 17 (.ireturn) 18 (0, 0, 0, 0, .null) := ⟨1, rfl, rfl⟩
theorem zrt144 : zrt 144 = some .int := rfl
theorem zhh144 : zhh 144 = [(0, 10, 13, 27)] := rfl
theorem zi145_0 : zat 145 0 (.aload_n 3) 1 (0, 0, 0, 0, .null) := ⟨1, rfl, rfl⟩
theorem zi145_1 : zat 145 1 (.aload_n 0) 2 (0, 0, 0, 0, .null) := ⟨1, rfl, rfl⟩
theorem zi145_2 : zat 145 2 (.iload_n 1) 3 (0, 0, 0, 0, .null) := ⟨1, rfl, rfl⟩
theorem zi145_3 : zat 145 3 (.iload_n 2) 4 (0, 0, 0, 0, .null) := ⟨1, rfl, rfl⟩
theorem zi145_4 : zat 145 4 (.invokevirtual 110) 7 (0, 61, 2, 0, .null) := ⟨3, rfl, rfl⟩
theorem zi145_7 : zat 145 7 (.i2l) 8 (0, 0, 0, 0, .null) := ⟨1, rfl, rfl⟩
theorem zi145_8 : zat 145 8 (.putfield 13) 11 (3, 0, 3, 0, .null) := ⟨3, rfl, rfl⟩
theorem zi145_11 : zat 145 11 (.goto 7) 14 (0, 0, 0, 0, .null) := ⟨3, rfl, rfl⟩
theorem zi145_14 : zat 145 14 (.astore 4) 16 (0, 0, 0, 0, .null) := ⟨2, rfl, rfl⟩
theorem zi145_16 : zat 145 16 (.iconst 1) 17 (0, 0, 0, 0, .null) := ⟨1, rfl, rfl⟩
theorem zi145_17 : zat 145 17 (.ireturn) 18 (0, 0, 0, 0, .null) := ⟨1, rfl, rfl⟩
theorem zi145_18 : zat 145 18 (.iconst 0) 19 (0, 0, 0, 0, .null) := ⟨1, rfl, rfl⟩
theorem zi145_19 : zat 145 19 (.ireturn) 20 (0, 0, 0, 0, .null) := ⟨1, rfl, rfl⟩
theorem zrt145 : zrt 145 = some .int := rfl
theorem zhh145 : zhh 145 = [(0, 11, 14, 27)] := rfl
theorem zi146_0 : zat 146 0 (.aload_n 0) 1 (0, 0, 0, 0, .null) := ⟨1, rfl, rfl⟩
theorem zi146_1 : zat 146 1 (.invokespecial 1) 4 (20, 0, 0, 0, .null) := ⟨3, rfl, rfl⟩
theorem zi146_4 : zat 146 4 (.aload_n 0) 5 (0, 0, 0, 0, .null) := ⟨1, rfl, rfl⟩
theorem zi146_5 : zat 146 5 (.new 7) 8 (8, 3, 0, 0, .null) := ⟨3, rfl, rfl⟩
theorem zi146_8 : zat 146 8 (.dup) 9 (0, 0, 0, 0, .null) := ⟨1, rfl, rfl⟩
theorem zi146_9 : zat 146 9 (.invokespecial 9) 12 (5, 147, 0, 0, .null) := ⟨3, rfl, rfl⟩
theorem zi146_12 : zat 146 12 (.putfield 10) 15 (7, 1, 6, 1, .null) := ⟨3, rfl, rfl⟩
theorem zi146_15 : zat 146 15 (.return_) 16 (0, 0, 0, 0, .null) := ⟨1, rfl, rfl⟩
theorem zrt146 : zrt 146 = none := rfl
theorem zhh146 : zhh 146 = [] := rfl
theorem zi147_0 : zat 147 0 (.aload_n 0) 1 (0, 0, 0, 0, .null) := ⟨1, rfl, rfl⟩
theorem zi147_1 : zat 147 1 (.invokespecial 1) 4 (5, 148, 0, 0, .null) := ⟨3, rfl, rfl⟩
theorem zi147_4 : zat 147 4 (.aload_n 0) 5 (0, 0, 0, 0, .null) := ⟨1, rfl, rfl⟩
theorem zi147_5 : zat 147 5 (.getstatic 39) 8 (3, 0, 0, 0, .null) := ⟨3, rfl, rfl⟩
theorem zi147_8 : zat 147 8 (.putfield 9) 11 (8, 0, 7, 0, .null) := ⟨3, rfl, rfl⟩
theorem zi147_11 : zat 147 11 (.return_) 12 (0, 0, 0, 0, .null) := ⟨1, rfl, rfl⟩
theorem zrt147 : zrt 147 = none := rfl
theorem zhh147 : zhh 147 = [] := rfl
theorem zi148_0 : zat 148 0 (.aload_n 0) 1 (0, 0, 0, 0, .null) := ⟨1, rfl, rfl⟩
theorem zi148_1 : zat 148 1 (.invokespecial 1) 4 (5, 149, 0, 0, .null) := ⟨3, rfl, rfl⟩
theorem zi148_4 : zat 148 4 (.aload_n 0) 5 (0, 0, 0, 0, .null) := ⟨1, rfl, rfl⟩
theorem zi148_5 : zat 148 5 (.iconst 0) 6 (0, 0, 0, 0, .null) := ⟨1, rfl, rfl⟩
theorem zi148_6 : zat 148 6 (.putfield 7) 9 (8, 2, 0, 0, .null) := ⟨3, rfl, rfl⟩
theorem zi148_9 : zat 148 9 (.return_) 10 (0, 0, 0, 0, .null) := ⟨1, rfl, rfl⟩
theorem zrt148 : zrt 148 = none := rfl
theorem zhh148 : zhh 148 = [] := rfl
theorem zi149_0 : zat 149 0 (.aload_n 0) 1 (0, 0, 0, 0, .null) := ⟨1, rfl, rfl⟩
theorem zi149_1 : zat 149 1 (.invokespecial 1) 4 (20, 0, 0, 0, .null) := ⟨3, rfl, rfl⟩
theorem zi149_4 : zat 149 4 (.return_) 5 (0, 0, 0, 0, .null) := ⟨1, rfl, rfl⟩
theorem zrt149 : zrt 149 = none := rfl
theorem zhh149 : zhh 149 = [] := rfl
