/-! printed: the blocks by their labels -/
theorem pg_1_0 : zpg 1 0 = [.aload 0, .invokeinterface 0 1, .ifCond .lt 28, .aload 0, .invokeinterface 0 1, .iconst 21, .if_icmp .ge 28, .aload 0, .getstatic 0, .aload 0, .invokeinterface 0 1, .aaload, .goto 34] := rfl
theorem pg_1_28 : zpg 1 28 = [.aload 0, .getstatic 0, .iconst 0, .aaload, .areturn] := rfl
theorem pg_1_34 : zpg 1 34 = [.areturn] := rfl
theorem pg_2_0 : zpg 2 0 = [.aload 0, .aload 0, .invokeinterface 0 1, .iconst 1, .iadd, .iconst 21, .irem, .multianewarray 0 1, .aload 0, .invokedynamic 1, .aload 1, .invokedynamic 48, .aload 0, .aload 0, .invokeinterface 0 2, .iconst 1, .iadd, .iconst 20, .ldiv, .multianewarray 0 2, .aload 0, .iconst 0, .multianewarray 0 3, .return_] := rfl
theorem pg_3_0 : zpg 3 0 = [.aload 0, .invokeinterface 0 2, .ifCond .ne 9, .iconst 0, .ireturn] := rfl
theorem pg_3_9 : zpg 3 9 = [.aload 0, .aload 0, .invokeinterface 0 1, .iconst 21, .iadd, .iconst 1, .isub, .iconst 21, .irem, .multianewarray 0 1, .aload 0, .dup, .invokeinterface 0 2, .iconst 1, .isub, .multianewarray 0 2, .aload 0, .dup, .invokeinterface 0 3, .iconst 1, .iadd, .multianewarray 0 3, .iconst 1, .ireturn] := rfl
theorem pg_4_0 : zpg 4 0 = [.aload 0, .invokeinterface 0 3, .ifCond .ne 9, .iconst 0, .ireturn] := rfl
theorem pg_4_9 : zpg 4 9 = [.aload 0, .aload 0, .invokeinterface 0 1, .iconst 1, .iadd, .iconst 21, .irem, .multianewarray 0 1, .aload 0, .dup, .invokeinterface 0 2, .iconst 1, .iadd, .multianewarray 0 2, .aload 0, .dup, .invokeinterface 0 3, .iconst 1, .isub, .multianewarray 0 3, .iconst 1, .ireturn] := rfl
theorem pg_5_0 : zpg 5 0 = [.aload 0, .invokedynamic 1, .aload 1, .invokedynamic 48, .aload 0, .iconst 0, .multianewarray 0 2, .aload 0, .iconst 0, .multianewarray 0 3, .return_] := rfl
theorem pg_7_0 : zpg 7 0 = [.aload 1, .iload 2, .invokedynamic 51, .ifCond .eq 16, .aload 1, .iload 2, .invokedynamic 54, .ifCond .eq 18, .iconst (-1), .ireturn] := rfl
theorem pg_7_16 : zpg 7 16 = [.iconst (-1), .ireturn] := rfl
theorem pg_7_18 : zpg 7 18 = [.aload 1, .iload 2, .iconst 1, .invokedynamic 49, .istore 3, .aload 1, .iload 3, .invokedynamic 56, .ifCond .ne 36, .iconst (-2), .ireturn] := rfl
theorem pg_7_36 : zpg 7 36 = [.aload 1, .iload 2, .invokedynamic 53, .ifCond .eq 52, .aload 0, .aload 1, .iload 2, .iload 3, .invokedynamic 8, .ireturn] := rfl
theorem pg_7_52 : zpg 7 52 = [.aload 0, .aload 1, .iload 2, .iload 3, .iconst 0, .invokedynamic 11, .iconst (-1), .if_icmp .ne 67, .iconst (-4), .ireturn] := rfl
theorem pg_7_67 : zpg 7 67 = [.aload 1, .iload 2, .iconst 3, .iconst 1, .invokedynamic 50, .aload 1, .iload 2, .iconst 6, .invokedynamic 49, .ireturn] := rfl
theorem pg_8_0 : zpg 8 0 = [.aload 1, .iload 3, .invokedynamic 61, .istore 4, .goto_w 7] := rfl
theorem pg_8_7 : zpg 8 7 = [.iload 4, .iconst 31, .if_icmp .gt 30, .aload 1, .iload 3, .iload 4, .invokedynamic 63, .ifCond .ne 30, .iinc 4 1, .goto 7] := rfl
theorem pg_8_30 : zpg 8 30 = [.iload 4, .iconst 31, .if_icmp .le 40, .iconst (-3), .ireturn] := rfl
theorem pg_8_40 : zpg 8 40 = [.iload 4, .istore 5, .aload 1, .iload 2, .iconst 4, .invokedynamic 49, .istore 6, .goto_w 52] := rfl
theorem pg_8_52 : zpg 8 52 = [.iload 6, .ifCond .le 81, .aload 1, .iload 3, .iload 5, .iconst 1, .iadd, .invokedynamic 63, .ifCond .ne 72, .goto 81] := rfl
theorem pg_8_72 : zpg 8 72 = [.iinc 5 1, .iinc 6 (-1), .goto 52] := rfl
theorem pg_8_81 : zpg 8 81 = [.iconst 0, .istore 6, .goto_w 84] := rfl
theorem pg_8_84 : zpg 8 84 = [.iload 6, .iconst 2, .if_icmp .ge 111, .aload 0, .aload 1, .iload 2, .iload 3, .iload 6, .invokedynamic 9, .ifCond .ne 105, .iconst (-4), .ireturn] := rfl
theorem pg_8_105 : zpg 8 105 = [.iinc 6 1, .goto 84] := rfl
theorem pg_8_111 : zpg 8 111 = [.aload 1, .iload 2, .iconst 7, .iload 4, .invokedynamic 50, .aload 1, .iload 2, .iconst 8, .iload 5, .invokedynamic 50, .aload 1, .iload 2, .iconst 3, .iconst 1, .invokedynamic 50, .iload 4, .ireturn] := rfl
theorem pg_9_0 : zpg 9 0 = [.aload 1, .iload 2, .iconst 5, .invokedynamic 49, .iconst 16, .invokedynamic 139, .istore 5, .iload 5, .ifCond .ne 20, .iconst 1, .ireturn] := rfl
theorem pg_9_20 : zpg 9 20 = [.aload 0, .getstatic 64, .aload 1, .iload 3, .iload 4, .invokedynamic 33, .aload 1, .iload 3, .iload 4, .invokedynamic 59, .istore 6, .aload 0, .getstatic 64, .iload 5, .iconst 16, .iload 6, .iload 6, .aload 1, .iload 3, .iload 4, .invokedynamic 60, .iadd, .invokedynamic 43, .istore 7, .aload 1, .iload 2, .iconst 18, .iload 4, .iadd, .iload 7, .invokedynamic 50, .aload 1, .iload 2, .iconst 20, .iload 4, .iadd, .iload 5, .invokedynamic 50, .iload 7, .iconst (-1), .if_icmp .eq 99, .iconst 1, .goto 100] := rfl
theorem pg_9_99 : zpg 9 99 = [.iconst 0, .ireturn] := rfl
theorem pg_9_100 : zpg 9 100 = [.ireturn] := rfl
theorem pg_10_0 : zpg 10 0 = [.aload 1, .iload 2, .invokedynamic 52, .ifCond .eq 16, .aload 1, .iload 2, .invokedynamic 54, .ifCond .eq 18, .iconst (-1), .ireturn] := rfl
theorem pg_10_16 : zpg 10 16 = [.iconst (-1), .ireturn] := rfl
theorem pg_10_18 : zpg 10 18 = [.aload 1, .iload 2, .iconst 1, .invokedynamic 49, .istore 3, .aload 1, .iload 3, .invokedynamic 56, .ifCond .ne 36, .iconst (-2), .ireturn] := rfl
theorem pg_10_36 : zpg 10 36 = [.aload 0, .aload 1, .iload 2, .iload 3, .iconst 3, .invokedynamic 11, .istore 4, .iload 4, .iconst (-1), .if_icmp .ne 55, .iconst (-4), .ireturn] := rfl
theorem pg_10_55 : zpg 10 55 = [.aload 1, .iload 2, .iconst 3, .iconst 1, .invokedynamic 50, .iload 4, .ireturn] := rfl
theorem pg_11_0 : zpg 11 0 = [.iconst 0, .istore 5, .iconst 0, .istore 6, .goto_w 6] := rfl
theorem pg_11_6 : zpg 11 6 = [.iload 6, .iconst 2, .if_icmp .ge 102, .aload 1, .iload 2, .iload 6, .invokedynamic 76, .istore 7, .iload 7, .ifCond .ne 29, .goto 96] := rfl
theorem pg_11_29 : zpg 11 29 = [.aload 0, .aload 1, .iload 3, .iload 6, .invokedynamic 12, .iload 7, .aload 0, .getstatic 64, .invokedynamic 41, .iadd, .aload 1, .iload 3, .iload 6, .invokedynamic 60, .if_icmp .gt 61, .iconst 1, .goto 62] := rfl
theorem pg_11_61 : zpg 11 61 = [.iconst 0, .istore 8, .iload 8, .ifCond .eq 83, .aload 0, .aload 1, .iload 2, .iload 3, .iload 6, .iload 4, .invokedynamic 13, .ifCond .ne 85, .iconst (-1), .ireturn] := rfl
theorem pg_11_62 : zpg 11 62 = [.istore 8, .iload 8, .ifCond .eq 83, .aload 0, .aload 1, .iload 2, .iload 3, .iload 6, .iload 4, .invokedynamic 13, .ifCond .ne 85, .iconst (-1), .ireturn] := rfl
theorem pg_11_83 : zpg 11 83 = [.iconst (-1), .ireturn] := rfl
theorem pg_11_85 : zpg 11 85 = [.iload 5, .aload 0, .aload 1, .iload 2, .invokedynamic 17, .iadd, .istore 5, .iinc 6 1, .goto 6] := rfl
theorem pg_11_96 : zpg 11 96 = [.iinc 6 1, .goto 6] := rfl
theorem pg_11_102 : zpg 11 102 = [.iload 5, .ireturn] := rfl
theorem pg_12_0 : zpg 12 0 = [.aload 0, .getstatic 64, .aload 1, .iload 2, .iload 3, .invokedynamic 33, .aload 0, .getstatic 65, .invokedynamic 32, .iconst 0, .istore 4, .goto_w 20] := rfl
theorem pg_12_20 : zpg 12 20 = [.iload 4, .aload 0, .getstatic 64, .invokeinterface 4 5, .if_icmp .ge 72, .iload 4, .iconst 27, .if_icmp .ge 72, .aload 0, .getstatic 64, .getstatic 257, .iload 4, .iaload, .iconst (-1), .if_icmp .eq 66, .aload 0, .getstatic 65, .aload 0, .getstatic 64, .iload 4, .invokedynamic 36, .iinc 4 1, .goto 20] := rfl
theorem pg_12_66 : zpg 12 66 = [.iinc 4 1, .goto 20] := rfl
theorem pg_12_72 : zpg 12 72 = [.return_] := rfl
theorem pg_13_0 : zpg 13 0 = [.iconst 0, .istore 6, .goto_w 3] := rfl
theorem pg_13_3 : zpg 13 3 = [.iload 6, .iload 5, .if_icmp .gt 111, .iload 6, .aload 0, .getstatic 65, .invokeinterface 4 5, .if_icmp .gt 111, .iconst 0, .istore 7, .goto_w 25] := rfl
theorem pg_13_25 : zpg 13 25 = [.iload 7, .iload 6, .if_icmp .ge 53, .iload 7, .iconst 3, .if_icmp .ge 53, .aload 0, .getstatic 68, .iload 7, .iload 7, .iastore, .iinc 7 1, .goto 25] := rfl
theorem pg_13_53 : zpg 13 53 = [.iconst 0, .istore 7, .goto_w 56] := rfl
theorem pg_13_56 : zpg 13 56 = [.iload 7, .iconst 10000, .if_icmp .ge 105, .aload 0, .aload 1, .iload 2, .iload 4, .iload 6, .invokedynamic 16, .aload 0, .aload 1, .iload 3, .iload 4, .invokedynamic 15, .ifCond .eq 87, .iconst 1, .ireturn] := rfl
theorem pg_13_87 : zpg 13 87 = [.aload 0, .iload 6, .invokedynamic 14, .ifCond .ne 99, .goto 105] := rfl
theorem pg_13_99 : zpg 13 99 = [.iinc 7 1, .goto 56] := rfl
theorem pg_13_105 : zpg 13 105 = [.iinc 6 1, .goto 3] := rfl
theorem pg_13_111 : zpg 13 111 = [.iconst 0, .ireturn] := rfl
theorem pg_14_0 : zpg 14 0 = [.iload 1, .iconst 3, .ldiv, .iconst 1, .isub, .istore 2, .goto_w 8] := rfl
theorem pg_14_8 : zpg 14 8 = [.iload 2, .ifCond .lt 86, .aload 0, .getstatic 68, .iload 2, .iaload, .aload 0, .getstatic 65, .invokeinterface 4 5, .iload 1, .isub, .iload 2, .iadd, .if_icmp .ge 80, .aload 0, .getstatic 68, .iload 2, .dup2, .iaload, .iconst 1, .iadd, .iastore, .iload 2, .iconst 1, .iadd, .istore 3, .goto_w 46] := rfl
theorem pg_14_46 : zpg 14 46 = [.iload 3, .iload 1, .if_icmp .ge 78, .iload 3, .iconst 3, .if_icmp .ge 78, .aload 0, .getstatic 68, .iload 3, .aload 0, .getstatic 68, .iload 3, .iconst 1, .isub, .iaload, .iconst 1, .iadd, .iastore, .iinc 3 1, .goto 46] := rfl
theorem pg_14_78 : zpg 14 78 = [.iconst 1, .ireturn] := rfl
theorem pg_14_80 : zpg 14 80 = [.iinc 2 (-1), .goto 8] := rfl
theorem pg_14_86 : zpg 14 86 = [.iconst 0, .ireturn] := rfl
theorem pg_15_0 : zpg 15 0 = [.aload 1, .iload 2, .iload 3, .invokedynamic 59, .istore 4, .iload 4, .aload 1, .iload 2, .iload 3, .invokedynamic 60, .iadd, .istore 5, .iconst 0, .istore 6, .goto_w 22] := rfl
theorem pg_15_22 : zpg 15 22 = [.iload 6, .aload 0, .getstatic 67, .invokeinterface 4 5, .if_icmp .ge 109, .iload 6, .iconst 27, .if_icmp .ge 109, .aload 0, .getstatic 67, .getstatic 259, .iload 6, .iaload, .istore 7, .aload 0, .getstatic 66, .iload 7, .iload 7, .iload 4, .iload 5, .invokedynamic 43, .istore 8, .iload 8, .iconst (-1), .if_icmp .ne 78, .iconst 0, .ireturn] := rfl
theorem pg_15_78 : zpg 15 78 = [.aload 0, .getstatic 67, .getstatic 260, .iload 6, .iload 8, .iastore, .aload 0, .getstatic 66, .aload 0, .getstatic 67, .iload 6, .invokedynamic 36, .iinc 6 1, .goto 22] := rfl
theorem pg_15_109 : zpg 15 109 = [.iconst 1, .ireturn] := rfl
theorem pg_16_0 : zpg 16 0 = [.aload 0, .getstatic 66, .invokedynamic 32, .aload 0, .getstatic 67, .invokedynamic 32, .aload 0, .getstatic 67, .aload 1, .iload 2, .iload 3, .invokedynamic 34, .iconst 0, .istore 5, .goto_w 27] := rfl
theorem pg_16_27 : zpg 16 27 = [.iload 5, .aload 0, .getstatic 64, .invokeinterface 4 5, .if_icmp .ge 79, .iload 5, .iconst 27, .if_icmp .ge 79, .aload 0, .getstatic 64, .getstatic 257, .iload 5, .iaload, .iconst (-1), .if_icmp .ne 73, .aload 0, .getstatic 66, .aload 0, .getstatic 64, .iload 5, .invokedynamic 36, .iinc 5 1, .goto 27] := rfl
theorem pg_16_73 : zpg 16 73 = [.iinc 5 1, .goto 27] := rfl
theorem pg_16_79 : zpg 16 79 = [.iconst 0, .istore 5, .iconst 0, .istore 6, .goto_w 85] := rfl
theorem pg_16_85 : zpg 16 85 = [.iload 6, .aload 0, .getstatic 65, .invokeinterface 4 5, .if_icmp .ge 160, .iload 5, .iload 4, .if_icmp .ge 141, .iload 5, .iconst 3, .if_icmp .ge 141, .aload 0, .getstatic 68, .iload 5, .iaload, .iload 6, .if_icmp .ne 141, .aload 0, .getstatic 67, .aload 0, .getstatic 65, .iload 6, .invokedynamic 36, .iinc 5 1, .goto 154] := rfl
theorem pg_16_141 : zpg 16 141 = [.aload 0, .getstatic 66, .aload 0, .getstatic 65, .iload 6, .invokedynamic 36, .iinc 6 1, .goto 85] := rfl
theorem pg_16_154 : zpg 16 154 = [.iinc 6 1, .goto 85] := rfl
theorem pg_16_160 : zpg 16 160 = [.aload 0, .getstatic 67, .invokedynamic 37, .return_] := rfl
theorem pg_17_0 : zpg 17 0 = [.iconst 0, .istore 3, .iconst 0, .istore 4, .goto_w 5] := rfl
theorem pg_17_5 : zpg 17 5 = [.iload 4, .aload 0, .getstatic 67, .invokeinterface 4 5, .if_icmp .ge 105, .iload 4, .iconst 27, .if_icmp .ge 105, .iconst 15, .aload 0, .getstatic 67, .getstatic 257, .iload 4, .iaload, .iadd, .istore 5, .aload 0, .getstatic 67, .getstatic 256, .iload 4, .iaload, .istore 6, .iload 6, .iload 2, .if_icmp .eq 81, .aload 1, .iload 6, .iload 5, .invokedynamic 49, .aload 0, .getstatic 67, .getstatic 260, .iload 4, .iaload, .if_icmp .eq 81, .iinc 3 1, .aload 1, .iload 6, .iload 5, .aload 0, .getstatic 67, .getstatic 260, .iload 4, .iaload, .invokedynamic 50, .iinc 4 1, .goto 5] := rfl
theorem pg_17_81 : zpg 17 81 = [.aload 1, .iload 6, .iload 5, .aload 0, .getstatic 67, .getstatic 260, .iload 4, .iaload, .invokedynamic 50, .iinc 4 1, .goto 5] := rfl
theorem pg_17_105 : zpg 17 105 = [.iload 3, .ireturn] := rfl
theorem pg_19_0 : zpg 19 0 = [.aload 1, .invokedynamic 74, .aload 1, .iconst 0, .multianewarray 5 5, .aload 1, .iconst (-1), .iconst 1, .iconst 0, .invokedynamic 20, .pop, .iconst 0, .istore 2, .goto_w 19] := rfl
theorem pg_19_19 : zpg 19 19 = [.iload 2, .iconst 20, .if_icmp .ge 93, .iconst 0, .istore 3, .goto_w 27] := rfl
theorem pg_19_27 : zpg 19 27 = [.iload 3, .iconst 2, .if_icmp .ge 52, .aload 0, .aload 1, .iload 3, .invokedynamic 21, .aload 1, .iload 3, .invokedynamic 57, .if_icmp .gt 52, .iinc 3 1, .goto 27] := rfl
theorem pg_19_52 : zpg 19 52 = [.iload 3, .iconst 2, .if_icmp .ne 60, .goto 93] := rfl
theorem pg_19_60 : zpg 19 60 = [.aload 1, .iload 3, .iconst 1, .invokedynamic 77, .istore 4, .aload 1, .iload 4, .iconst (-1), .if_icmp .eq 80, .iload 4, .goto 84] := rfl
theorem pg_19_80 : zpg 19 80 = [.aload 1, .invokedynamic 78, .invokedynamic 79, .iinc 2 1, .goto 19] := rfl
theorem pg_19_84 : zpg 19 84 = [.invokedynamic 79, .iinc 2 1, .goto 19] := rfl
theorem pg_19_93 : zpg 19 93 = [.iconst 0, .istore 2, .goto_w 95] := rfl
theorem pg_19_95 : zpg 19 95 = [.iload 2, .iconst 2, .if_icmp .ge 152, .aload 0, .aload 1, .iconst (-1), .iload 2, .invokedynamic 25, .iconst 0, .istore 3, .goto_w 109] := rfl
theorem pg_19_109 : zpg 19 109 = [.iload 3, .aload 1, .invokeinterface 5 4, .if_icmp .ge 146, .aload 1, .aload 1, .iload 3, .invokedynamic 58, .invokedynamic 22, .ifCond .eq 140, .aload 0, .aload 1, .aload 1, .iload 3, .invokedynamic 58, .iload 2, .invokedynamic 25, .iinc 3 1, .goto 109] := rfl
theorem pg_19_140 : zpg 19 140 = [.iinc 3 1, .goto 109] := rfl
theorem pg_19_146 : zpg 19 146 = [.iinc 2 1, .goto 95] := rfl
theorem pg_19_152 : zpg 19 152 = [.return_] := rfl
theorem pg_20_0 : zpg 20 0 = [.iload 2, .istore 4, .iconst 0, .istore 5, .goto_w 6] := rfl
theorem pg_20_6 : zpg 20 6 = [.iload 5, .aload 0, .invokeinterface 5 4, .if_icmp .ge 143, .iload 3, .iconst 4, .if_icmp .gt 143, .aload 0, .iload 5, .invokedynamic 58, .istore 6, .aload 0, .iload 6, .iconst 1, .invokedynamic 49, .iload 1, .if_icmp .eq 42, .goto 137] := rfl
theorem pg_20_42 : zpg 20 42 = [.aload 0, .iload 6, .invokedynamic 53, .ifCond .ne 62, .aload 0, .iload 6, .iconst 3, .iconst 1, .invokedynamic 50, .goto 137] := rfl
theorem pg_20_62 : zpg 20 62 = [.iload 4, .iconst 31, .if_icmp .gt 137, .aload 0, .iload 6, .iconst 3, .iconst 1, .invokedynamic 50, .aload 0, .iload 6, .iconst 7, .iload 4, .invokedynamic 50, .aload 0, .iload 6, .iload 4, .iconst 1, .iadd, .iload 3, .iconst 1, .iadd, .invokedynamic 20, .iconst 1, .isub, .istore 7, .iload 7, .aload 0, .iload 6, .iconst 4, .invokedynamic 49, .iadd, .iconst 31, .ldiv, .istore 8, .aload 0, .iload 6, .iconst 8, .iload 8, .invokedynamic 50, .iload 8, .iconst 1, .iadd, .istore 4, .iinc 5 1, .goto 6] := rfl
theorem pg_20_137 : zpg 20 137 = [.iinc 5 1, .goto 6] := rfl
theorem pg_20_143 : zpg 20 143 = [.iload 4, .ireturn] := rfl
theorem pg_21_0 : zpg 21 0 = [.aload 1, .invokeinterface 5 4, .iconst 1, .isub, .istore 3, .goto_w 7] := rfl
theorem pg_21_7 : zpg 21 7 = [.iload 3, .ifCond .lt 90, .aload 1, .iload 3, .invokedynamic 58, .istore 4, .aload 1, .iload 4, .invokedynamic 22, .ifCond .eq 84, .aload 0, .aload 1, .iload 4, .iload 2, .invokedynamic 23, .aload 1, .iload 4, .iconst 5, .invokedynamic 49, .iadd, .istore 5, .aload 1, .iload 4, .iconst 20, .iload 2, .iadd, .iload 5, .iconst 16, .invokedynamic 139, .invokedynamic 50, .aload 1, .iload 4, .iconst 22, .iload 2, .iadd, .iconst 16, .aload 0, .getstatic 128, .invokedynamic 42, .lmul, .invokedynamic 50, .iinc 3 (-1), .goto 7] := rfl
theorem pg_21_84 : zpg 21 84 = [.iinc 3 (-1), .goto 7] := rfl
theorem pg_21_90 : zpg 21 90 = [.aload 0, .aload 1, .iconst (-1), .iload 2, .invokedynamic 23, .ireturn] := rfl
theorem pg_22_0 : zpg 22 0 = [.aload 0, .iload 1, .iconst 0, .invokedynamic 49, .iconst 2, .if_icmp .ne 24, .aload 0, .iload 1, .iconst 3, .invokedynamic 49, .iconst 1, .if_icmp .ne 24, .iconst 1, .goto 25] := rfl
theorem pg_22_24 : zpg 22 24 = [.iconst 0, .ireturn] := rfl
theorem pg_22_25 : zpg 22 25 = [.ireturn] := rfl
theorem pg_23_0 : zpg 23 0 = [.aload 0, .getstatic 128, .aload 1, .iload 2, .iload 3, .invokedynamic 33, .aload 0, .getstatic 128, .invokedynamic 37, .aload 0, .getstatic 128, .invokedynamic 40, .ireturn] := rfl
theorem pg_24_0 : zpg 24 0 = [.aload 0, .getstatic 128, .aload 1, .iload 2, .iload 3, .invokedynamic 33, .aload 0, .getstatic 128, .invokedynamic 42, .ireturn] := rfl
theorem pg_25_0 : zpg 25 0 = [.aload 0, .aload 1, .iload 2, .iload 3, .invokedynamic 23, .pop, .aload 1, .iload 2, .iload 3, .invokedynamic 59, .istore 4, .iconst 0, .istore 5, .goto_w 19] := rfl
theorem pg_25_19 : zpg 25 19 = [.iload 5, .aload 0, .getstatic 128, .invokeinterface 4 5, .if_icmp .ge 105, .iload 5, .iconst 27, .if_icmp .ge 105, .aload 0, .getstatic 128, .getstatic 257, .iload 5, .iaload, .istore 6, .iload 6, .iconst (-1), .if_icmp .ne 63, .iconst 18, .iload 3, .iadd, .goto 68] := rfl
theorem pg_25_63 : zpg 25 63 = [.iconst 15, .iload 6, .iadd, .istore 7, .aload 1, .aload 0, .getstatic 128, .getstatic 256, .iload 5, .iaload, .iload 7, .iload 4, .aload 0, .getstatic 128, .getstatic 260, .iload 5, .iaload, .iadd, .invokedynamic 50, .iinc 5 1, .goto 19] := rfl
theorem pg_25_68 : zpg 25 68 = [.istore 7, .aload 1, .aload 0, .getstatic 128, .getstatic 256, .iload 5, .iaload, .iload 7, .iload 4, .aload 0, .getstatic 128, .getstatic 260, .iload 5, .iaload, .iadd, .invokedynamic 50, .iinc 5 1, .goto 19] := rfl
theorem pg_25_105 : zpg 25 105 = [.return_] := rfl
theorem pg_27_0 : zpg 27 0 = [.aload 0, .iconst (-1), .multianewarray 3 1, .aload 0, .iconst 0, .multianewarray 3 2, .aload 0, .iload 2, .multianewarray 3 3, .aload 0, .aload 1, .iload 2, .iload 3, .iload 4, .invokedynamic 30, .ireturn] := rfl
theorem pg_28_0 : zpg 28 0 = [.aload 0, .iconst (-1), .multianewarray 3 1, .aload 0, .iconst 0, .multianewarray 3 2, .aload 0, .iload 2, .multianewarray 3 3, .iconst 0, .istore 5, .goto_w 18] := rfl
theorem pg_28_18 : zpg 28 18 = [.iload 5, .iconst 4, .if_icmp .gt 91, .aload 0, .aload 1, .aload 0, .invokeinterface 3 3, .iload 3, .iload 4, .invokedynamic 30, .ifCond .ne 61, .aload 0, .invokeinterface 3 3, .iconst (-1), .if_icmp .eq 61, .aload 1, .aload 0, .invokeinterface 3 3, .iload 3, .iload 4, .invokedynamic 29, .ifCond .eq 62, .return_] := rfl
theorem pg_28_61 : zpg 28 61 = [.return_] := rfl
theorem pg_28_62 : zpg 28 62 = [.aload 0, .dup, .invokeinterface 3 2, .iconst 1, .iadd, .multianewarray 3 2, .aload 0, .aload 1, .aload 0, .invokeinterface 3 3, .iconst 1, .invokedynamic 49, .multianewarray 3 3, .iinc 5 1, .goto 18] := rfl
theorem pg_28_91 : zpg 28 91 = [.return_] := rfl
theorem pg_29_0 : zpg 29 0 = [.aload 0, .iload 1, .iload 2, .invokedynamic 59, .istore 4, .iload 4, .ifCond .lt 36, .iload 3, .iload 4, .if_icmp .lt 36, .iload 3, .iload 4, .isub, .aload 0, .iload 1, .iload 2, .invokedynamic 60, .if_icmp .ge 36, .iconst 1, .goto 37] := rfl
theorem pg_29_36 : zpg 29 36 = [.iconst 0, .ireturn] := rfl
theorem pg_29_37 : zpg 29 37 = [.ireturn] := rfl
theorem pg_30_0 : zpg 30 0 = [.iload 2, .istore 5, .iconst 0, .istore 6, .goto_w 6] := rfl
theorem pg_30_6 : zpg 30 6 = [.iload 6, .iconst 4, .if_icmp .gt 115, .aload 0, .getstatic 192, .aload 1, .iload 5, .iload 3, .invokedynamic 33, .aload 0, .getstatic 192, .iload 4, .invokedynamic 45, .istore 7, .iload 7, .ifCond .lt 46, .iload 7, .iconst 27, .if_icmp .lt 57, .iload 6, .ifCond .le 55, .iconst 1, .goto 56] := rfl
theorem pg_30_46 : zpg 30 46 = [.iload 6, .ifCond .le 55, .iconst 1, .goto 56] := rfl
theorem pg_30_55 : zpg 30 55 = [.iconst 0, .ireturn] := rfl
theorem pg_30_56 : zpg 30 56 = [.ireturn] := rfl
theorem pg_30_57 : zpg 30 57 = [.aload 0, .getstatic 192, .getstatic 257, .iload 7, .iaload, .iconst (-1), .if_icmp .eq 87, .aload 0, .aload 0, .getstatic 192, .getstatic 256, .iload 7, .iaload, .multianewarray 3 1, .iconst 1, .ireturn] := rfl
theorem pg_30_87 : zpg 30 87 = [.aload 0, .dup, .invokeinterface 3 2, .iconst 1, .iadd, .multianewarray 3 2, .aload 0, .getstatic 192, .getstatic 256, .iload 7, .iaload, .istore 5, .iinc 6 1, .goto 6] := rfl
theorem pg_30_115 : zpg 30 115 = [.iconst 1, .ireturn] := rfl
theorem pg_32_0 : zpg 32 0 = [.aload 0, .iconst 0, .multianewarray 4 5, .return_] := rfl
theorem pg_33_0 : zpg 33 0 = [.aload 0, .invokedynamic 32, .iconst 0, .istore 4, .goto_w 7] := rfl
theorem pg_33_7 : zpg 33 7 = [.iload 4, .aload 1, .invokeinterface 5 4, .if_icmp .ge 127, .aload 1, .iload 4, .invokedynamic 58, .istore 5, .aload 1, .iload 5, .iconst 1, .invokedynamic 49, .iload 2, .if_icmp .ne 121, .aload 1, .iload 5, .iconst 3, .invokedynamic 49, .iconst 1, .if_icmp .eq 49, .goto 121] := rfl
theorem pg_33_49 : zpg 33 49 = [.aload 1, .iload 5, .iconst 0, .invokedynamic 49, .iconst 1, .if_icmp .ne 71, .aload 0, .aload 1, .iload 5, .iload 3, .invokedynamic 34, .goto 121] := rfl
theorem pg_33_71 : zpg 33 71 = [.aload 1, .iload 5, .iconst 20, .iload 3, .iadd, .invokedynamic 49, .ifCond .le 121, .aload 0, .iload 5, .iconst (-1), .aload 1, .iload 5, .iconst 22, .iload 3, .iadd, .invokedynamic 49, .aload 1, .iload 5, .iconst 20, .iload 3, .iadd, .invokedynamic 49, .aload 1, .iload 5, .iconst 18, .iload 3, .iadd, .invokedynamic 49, .invokedynamic 35, .iinc 4 1, .goto 7] := rfl
theorem pg_33_121 : zpg 33 121 = [.iinc 4 1, .goto 7] := rfl
theorem pg_33_127 : zpg 33 127 = [.return_] := rfl
theorem pg_34_0 : zpg 34 0 = [.iconst 0, .istore 4, .goto_w 3] := rfl
theorem pg_34_3 : zpg 34 3 = [.iload 4, .aload 1, .iload 2, .iconst 6, .invokedynamic 49, .if_icmp .ge 68, .aload 1, .iload 2, .iconst 9, .iload 4, .iadd, .invokedynamic 49, .iload 3, .if_icmp .ne 62, .aload 1, .iload 2, .iconst 12, .iload 4, .iadd, .invokedynamic 49, .istore 5, .aload 0, .iload 2, .iload 4, .iload 5, .iload 5, .aload 1, .iload 2, .iconst 15, .iload 4, .iadd, .invokedynamic 49, .invokedynamic 35, .iinc 4 1, .goto 3] := rfl
theorem pg_34_62 : zpg 34 62 = [.iinc 4 1, .goto 3] := rfl
theorem pg_34_68 : zpg 34 68 = [.return_] := rfl
theorem pg_35_0 : zpg 35 0 = [.aload 0, .invokeinterface 4 5, .ifCond .lt 78, .aload 0, .invokeinterface 4 5, .iconst 27, .if_icmp .ge 78, .aload 0, .getstatic 256, .aload 0, .invokeinterface 4 5, .iload 1, .iastore, .aload 0, .getstatic 257, .aload 0, .invokeinterface 4 5, .iload 2, .iastore, .aload 0, .getstatic 258, .aload 0, .invokeinterface 4 5, .iload 3, .iastore, .aload 0, .getstatic 259, .aload 0, .invokeinterface 4 5, .iload 4, .iastore, .aload 0, .getstatic 260, .aload 0, .invokeinterface 4 5, .iload 5, .iastore, .aload 0, .dup, .invokeinterface 4 5, .iconst 1, .iadd, .multianewarray 4 5, .return_] := rfl
theorem pg_35_78 : zpg 35 78 = [.return_] := rfl
theorem pg_36_0 : zpg 36 0 = [.iload 2, .ifCond .lt 52, .iload 2, .aload 1, .invokeinterface 4 5, .if_icmp .ge 52, .iload 2, .iconst 27, .if_icmp .ge 52, .aload 0, .aload 1, .getstatic 256, .iload 2, .iaload, .aload 1, .getstatic 257, .iload 2, .iaload, .aload 1, .getstatic 258, .iload 2, .iaload, .aload 1, .getstatic 259, .iload 2, .iaload, .aload 1, .getstatic 260, .iload 2, .iaload, .invokedynamic 35, .return_] := rfl
theorem pg_36_52 : zpg 36 52 = [.return_] := rfl
theorem pg_37_0 : zpg 37 0 = [.iconst 1, .istore 1, .goto_w 2] := rfl
theorem pg_37_2 : zpg 37 2 = [.iload 1, .aload 0, .invokeinterface 4 5, .if_icmp .ge 85, .iload 1, .iconst 27, .if_icmp .ge 85, .iload 1, .istore 2, .goto_w 18] := rfl
theorem pg_37_18 : zpg 37 18 = [.iload 2, .ifCond .le 79, .aload 0, .iload 2, .iload 2, .iconst 1, .isub, .invokedynamic 38, .ifCond .eq 79, .aload 0, .getstatic 256, .iload 2, .invokedynamic 39, .aload 0, .getstatic 257, .iload 2, .invokedynamic 39, .aload 0, .getstatic 258, .iload 2, .invokedynamic 39, .aload 0, .getstatic 259, .iload 2, .invokedynamic 39, .aload 0, .getstatic 260, .iload 2, .invokedynamic 39, .iinc 2 (-1), .goto 18] := rfl
theorem pg_37_79 : zpg 37 79 = [.iinc 1 1, .goto 2] := rfl
theorem pg_37_85 : zpg 37 85 = [.return_] := rfl
theorem pg_38_0 : zpg 38 0 = [.aload 0, .getstatic 258, .iload 1, .iaload, .aload 0, .getstatic 258, .iload 2, .iaload, .if_icmp .gt 45, .aload 0, .getstatic 258, .iload 1, .iaload, .aload 0, .getstatic 258, .iload 2, .iaload, .if_icmp .ne 49, .aload 0, .getstatic 259, .iload 1, .iaload, .aload 0, .getstatic 259, .iload 2, .iaload, .if_icmp .le 49, .iconst 1, .goto 50] := rfl
theorem pg_38_45 : zpg 38 45 = [.iconst 1, .goto 50] := rfl
theorem pg_38_49 : zpg 38 49 = [.iconst 0, .ireturn] := rfl
theorem pg_38_50 : zpg 38 50 = [.ireturn] := rfl
theorem pg_39_0 : zpg 39 0 = [.iload 1, .ifCond .le 28, .iload 1, .aload 0, .arraylength, .if_icmp .ge 28, .aload 0, .iload 1, .iaload, .istore 2, .aload 0, .iload 1, .aload 0, .iload 1, .iconst 1, .isub, .iaload, .iastore, .aload 0, .iload 1, .iconst 1, .isub, .iload 2, .iastore, .return_] := rfl
theorem pg_39_28 : zpg 39 28 = [.return_] := rfl
theorem pg_40_0 : zpg 40 0 = [.iconst 0, .istore 1, .iconst 0, .istore 2, .goto_w 4] := rfl
theorem pg_40_4 : zpg 40 4 = [.iload 2, .aload 0, .invokeinterface 4 5, .if_icmp .ge 54, .iload 2, .iconst 27, .if_icmp .ge 54, .aload 0, .getstatic 260, .iload 2, .iload 1, .aload 0, .getstatic 258, .iload 2, .iaload, .invokedynamic 139, .iastore, .aload 0, .getstatic 260, .iload 2, .iaload, .aload 0, .getstatic 259, .iload 2, .iaload, .iadd, .istore 1, .iinc 2 1, .goto 4] := rfl
theorem pg_40_54 : zpg 40 54 = [.iload 1, .ireturn] := rfl
theorem pg_41_0 : zpg 41 0 = [.iconst 0, .istore 1, .iconst 0, .istore 2, .goto_w 4] := rfl
theorem pg_41_4 : zpg 41 4 = [.iload 2, .aload 0, .invokeinterface 4 5, .if_icmp .ge 33, .iload 2, .iconst 27, .if_icmp .ge 33, .iload 1, .aload 0, .getstatic 259, .iload 2, .iaload, .iadd, .istore 1, .iinc 2 1, .goto 4] := rfl
theorem pg_41_33 : zpg 41 33 = [.iload 1, .ireturn] := rfl
theorem pg_42_0 : zpg 42 0 = [.iconst 0, .istore 1, .iconst 0, .istore 2, .goto_w 4] := rfl
theorem pg_42_4 : zpg 42 4 = [.iload 2, .aload 0, .invokeinterface 4 5, .if_icmp .ge 35, .iload 2, .iconst 27, .if_icmp .ge 35, .iload 1, .aload 0, .getstatic 258, .iload 2, .iaload, .lmul, .istore 1, .iinc 2 1, .goto 4] := rfl
theorem pg_42_35 : zpg 42 35 = [.iload 1, .ireturn] := rfl
theorem pg_43_0 : zpg 43 0 = [.iload 3, .iload 2, .invokedynamic 139, .istore 5, .iconst 0, .istore 6, .goto_w 10] := rfl
theorem pg_43_10 : zpg 43 10 = [.iload 6, .aload 0, .invokeinterface 4 5, .if_icmp .gt 76, .iload 5, .iload 1, .iadd, .iload 4, .if_icmp .le 30, .iconst (-1), .ireturn] := rfl
theorem pg_43_30 : zpg 43 30 = [.aload 0, .iload 5, .iload 1, .iconst (-1), .invokedynamic 44, .istore 7, .iload 7, .iconst (-1), .if_icmp .ne 49, .iload 5, .ireturn] := rfl
theorem pg_43_49 : zpg 43 49 = [.aload 0, .getstatic 260, .iload 7, .iaload, .aload 0, .getstatic 259, .iload 7, .iaload, .iadd, .iload 2, .invokedynamic 139, .istore 5, .iinc 6 1, .goto 10] := rfl
theorem pg_43_76 : zpg 43 76 = [.iconst (-1), .ireturn] := rfl
theorem pg_44_0 : zpg 44 0 = [.iconst 0, .istore 4, .goto_w 3] := rfl
theorem pg_44_3 : zpg 44 3 = [.iload 4, .aload 0, .invokeinterface 4 5, .if_icmp .ge 66, .iload 4, .iconst 27, .if_icmp .ge 66, .iload 4, .iload 3, .if_icmp .eq 60, .aload 0, .getstatic 260, .iload 4, .iaload, .iload 1, .iload 2, .iadd, .if_icmp .ge 60, .iload 1, .aload 0, .getstatic 260, .iload 4, .iaload, .aload 0, .getstatic 259, .iload 4, .iaload, .iadd, .if_icmp .ge 60, .iload 4, .ireturn] := rfl
theorem pg_44_60 : zpg 44 60 = [.iinc 4 1, .goto 3] := rfl
theorem pg_44_66 : zpg 44 66 = [.iconst (-1), .ireturn] := rfl
theorem pg_45_0 : zpg 45 0 = [.iconst (-1), .istore 2, .iconst 0, .istore 3, .goto_w 4] := rfl
theorem pg_45_4 : zpg 45 4 = [.iload 3, .aload 0, .invokeinterface 4 5, .if_icmp .ge 74, .iload 3, .iconst 27, .if_icmp .ge 74, .aload 0, .getstatic 260, .iload 3, .iaload, .ifCond .lt 68, .iload 1, .aload 0, .getstatic 260, .iload 3, .iaload, .if_icmp .lt 68, .iload 1, .aload 0, .getstatic 260, .iload 3, .iaload, .isub, .aload 0, .getstatic 259, .iload 3, .iaload, .if_icmp .ge 68, .aload 0, .getstatic 257, .iload 3, .iaload, .iconst (-1), .if_icmp .eq 66, .iload 3, .ireturn] := rfl
theorem pg_45_66 : zpg 45 66 = [.iload 3, .istore 2, .iinc 3 1, .goto 4] := rfl
theorem pg_45_68 : zpg 45 68 = [.iinc 3 1, .goto 4] := rfl
theorem pg_45_74 : zpg 45 74 = [.iload 2, .ireturn] := rfl
theorem pg_46_0 : zpg 46 0 = [.iconst 0, .istore 3, .iconst 0, .istore 4, .goto_w 5] := rfl
theorem pg_46_5 : zpg 46 5 = [.iload 4, .aload 0, .invokeinterface 4 5, .if_icmp .ge 96, .iload 4, .iconst 27, .if_icmp .ge 96, .aload 0, .getstatic 260, .iload 4, .iaload, .iload 1, .if_icmp .lt 55, .aload 0, .getstatic 260, .iload 4, .iaload, .aload 0, .getstatic 259, .iload 4, .iaload, .iadd, .iload 2, .if_icmp .gt 55, .iconst 1, .goto 56] := rfl
theorem pg_46_55 : zpg 46 55 = [.iconst 0, .istore 5, .iload 5, .ifCond .eq 87, .aload 0, .aload 0, .getstatic 260, .iload 4, .iaload, .aload 0, .getstatic 259, .iload 4, .iaload, .iload 4, .invokedynamic 44, .iconst (-1), .if_icmp .eq 90, .iinc 3 1, .iinc 4 1, .goto 5] := rfl
theorem pg_46_56 : zpg 46 56 = [.istore 5, .iload 5, .ifCond .eq 87, .aload 0, .aload 0, .getstatic 260, .iload 4, .iaload, .aload 0, .getstatic 259, .iload 4, .iaload, .iload 4, .invokedynamic 44, .iconst (-1), .if_icmp .eq 90, .iinc 3 1, .iinc 4 1, .goto 5] := rfl
theorem pg_46_87 : zpg 46 87 = [.iinc 3 1, .iinc 4 1, .goto 5] := rfl
theorem pg_46_90 : zpg 46 90 = [.iinc 4 1, .goto 5] := rfl
theorem pg_46_96 : zpg 46 96 = [.iload 3, .ireturn] := rfl
theorem pg_48_0 : zpg 48 0 = [.aload 1, .getstatic 320, .iconst 0, .aload 0, .getstatic 320, .iconst 0, .iconst 480, .lshl, .aload 1, .getstatic 321, .iconst 0, .aload 0, .getstatic 321, .iconst 0, .iconst 2, .lshl, .aload 1, .getstatic 322, .iconst 0, .aload 0, .getstatic 322, .iconst 0, .iconst 20, .lshl, .aload 1, .getstatic 323, .iconst 0, .aload 0, .getstatic 323, .iconst 0, .iconst 20, .lshl, .aload 0, .aload 1, .invokeinterface 5 4, .multianewarray 5 4, .aload 0, .aload 1, .invokeinterface 5 5, .multianewarray 5 5, .return_] := rfl
theorem pg_49_0 : zpg 49 0 = [.iload 1, .ifCond .lt 20, .iload 1, .iconst 20, .if_icmp .ge 20, .iload 2, .ifCond .lt 20, .iload 2, .iconst 24, .if_icmp .lt 22, .iconst (-1), .ireturn] := rfl
theorem pg_49_20 : zpg 49 20 = [.iconst (-1), .ireturn] := rfl
theorem pg_49_22 : zpg 49 22 = [.aload 0, .getstatic 320, .iload 1, .iconst 24, .imul, .iload 2, .iadd, .iaload, .ireturn] := rfl
theorem pg_50_0 : zpg 50 0 = [.iload 1, .ifCond .lt 32, .iload 1, .iconst 20, .if_icmp .ge 32, .iload 2, .ifCond .lt 32, .iload 2, .iconst 24, .if_icmp .ge 32, .aload 0, .getstatic 320, .iload 1, .iconst 24, .imul, .iload 2, .iadd, .iload 3, .iastore, .return_] := rfl
theorem pg_50_32 : zpg 50 32 = [.return_] := rfl
theorem pg_51_0 : zpg 51 0 = [.aload 0, .iload 1, .iconst 0, .invokedynamic 49, .ifCond .le 13, .iconst 1, .goto 14] := rfl
theorem pg_51_13 : zpg 51 13 = [.iconst 0, .ireturn] := rfl
theorem pg_51_14 : zpg 51 14 = [.ireturn] := rfl
theorem pg_52_0 : zpg 52 0 = [.aload 0, .iload 1, .iconst 0, .invokedynamic 49, .iconst 1, .if_icmp .ne 14, .iconst 1, .goto 15] := rfl
theorem pg_52_14 : zpg 52 14 = [.iconst 0, .ireturn] := rfl
theorem pg_52_15 : zpg 52 15 = [.ireturn] := rfl
theorem pg_53_0 : zpg 53 0 = [.aload 0, .iload 1, .iconst 0, .invokedynamic 49, .iconst 2, .if_icmp .ne 14, .iconst 1, .goto 15] := rfl
theorem pg_53_14 : zpg 53 14 = [.iconst 0, .ireturn] := rfl
theorem pg_53_15 : zpg 53 15 = [.ireturn] := rfl
theorem pg_54_0 : zpg 54 0 = [.aload 0, .iload 1, .iconst 3, .invokedynamic 49, .iconst 1, .if_icmp .ne 14, .iconst 1, .goto 15] := rfl
theorem pg_54_14 : zpg 54 14 = [.iconst 0, .ireturn] := rfl
theorem pg_54_15 : zpg 54 15 = [.ireturn] := rfl
theorem pg_55_0 : zpg 55 0 = [.iload 1, .iconst (-1), .if_icmp .eq 13, .aload 0, .iload 1, .invokedynamic 53, .ifCond .eq 17, .iconst 1, .goto 18] := rfl
theorem pg_55_13 : zpg 55 13 = [.iconst 1, .goto 18] := rfl
theorem pg_55_17 : zpg 55 17 = [.iconst 0, .ireturn] := rfl
theorem pg_55_18 : zpg 55 18 = [.ireturn] := rfl
theorem pg_56_0 : zpg 56 0 = [.iload 1, .iconst (-1), .if_icmp .eq 21, .aload 0, .iload 1, .invokedynamic 53, .ifCond .eq 25, .aload 0, .iload 1, .invokedynamic 54, .ifCond .eq 25, .iconst 1, .goto 26] := rfl
theorem pg_56_21 : zpg 56 21 = [.iconst 1, .goto 26] := rfl
theorem pg_56_25 : zpg 56 25 = [.iconst 0, .ireturn] := rfl
theorem pg_56_26 : zpg 56 26 = [.ireturn] := rfl
theorem pg_57_0 : zpg 57 0 = [.iload 1, .ifCond .lt 18, .iload 1, .iconst 2, .if_icmp .ge 18, .aload 0, .getstatic 321, .iload 1, .iaload, .goto 19] := rfl
theorem pg_57_18 : zpg 57 18 = [.iconst 0, .ireturn] := rfl
theorem pg_57_19 : zpg 57 19 = [.ireturn] := rfl
theorem pg_58_0 : zpg 58 0 = [.iload 1, .ifCond .lt 27, .iload 1, .aload 0, .invokeinterface 5 4, .if_icmp .ge 27, .iload 1, .iconst 20, .if_icmp .ge 27, .aload 0, .getstatic 322, .iload 1, .iaload, .goto 28] := rfl
theorem pg_58_27 : zpg 58 27 = [.iconst (-1), .ireturn] := rfl
theorem pg_58_28 : zpg 58 28 = [.ireturn] := rfl
theorem pg_59_0 : zpg 59 0 = [.iload 1, .iconst (-1), .if_icmp .eq 17, .aload 0, .iload 1, .iconst 20, .iload 2, .iadd, .invokedynamic 49, .ifCond .ne 21, .iconst 0, .goto 30] := rfl
theorem pg_59_17 : zpg 59 17 = [.iconst 0, .goto 30] := rfl
theorem pg_59_21 : zpg 59 21 = [.aload 0, .iload 1, .iconst 18, .iload 2, .iadd, .invokedynamic 49, .ireturn] := rfl
theorem pg_59_30 : zpg 59 30 = [.ireturn] := rfl
theorem pg_60_0 : zpg 60 0 = [.iload 1, .iconst (-1), .if_icmp .ne 13, .aload 0, .iload 2, .invokedynamic 57, .goto 22] := rfl
theorem pg_60_13 : zpg 60 13 = [.aload 0, .iload 1, .iconst 20, .iload 2, .iadd, .invokedynamic 49, .ireturn] := rfl
theorem pg_60_22 : zpg 60 22 = [.ireturn] := rfl
theorem pg_61_0 : zpg 61 0 = [.iload 1, .iconst (-1), .if_icmp .ne 9, .iconst 0, .goto 16] := rfl
theorem pg_61_9 : zpg 61 9 = [.aload 0, .iload 1, .iconst 7, .invokedynamic 49, .ireturn] := rfl
theorem pg_61_16 : zpg 61 16 = [.ireturn] := rfl
theorem pg_62_0 : zpg 62 0 = [.iload 1, .iconst (-1), .if_icmp .ne 10, .iconst 31, .goto 17] := rfl
theorem pg_62_10 : zpg 62 10 = [.aload 0, .iload 1, .iconst 8, .invokedynamic 49, .ireturn] := rfl
theorem pg_62_17 : zpg 62 17 = [.ireturn] := rfl
theorem pg_63_0 : zpg 63 0 = [.iload 2, .aload 0, .iload 1, .invokedynamic 61, .if_icmp .le 18, .iload 2, .aload 0, .iload 1, .invokedynamic 62, .if_icmp .le 20, .iconst 0, .ireturn] := rfl
theorem pg_63_18 : zpg 63 18 = [.iconst 0, .ireturn] := rfl
theorem pg_63_20 : zpg 63 20 = [.iconst 0, .istore 3, .goto_w 22] := rfl
theorem pg_63_22 : zpg 63 22 = [.iload 3, .aload 0, .invokeinterface 5 4, .if_icmp .ge 98, .aload 0, .iload 3, .invokedynamic 58, .istore 4, .aload 0, .iload 4, .iconst 1, .invokedynamic 49, .iload 1, .if_icmp .ne 92, .aload 0, .iload 4, .invokedynamic 53, .ifCond .eq 92, .aload 0, .iload 4, .invokedynamic 54, .ifCond .eq 92, .iload 2, .aload 0, .iload 4, .iconst 7, .invokedynamic 49, .if_icmp .lt 92, .iload 2, .aload 0, .iload 4, .iconst 8, .invokedynamic 49, .if_icmp .gt 92, .iconst 0, .ireturn] := rfl
theorem pg_63_92 : zpg 63 92 = [.iinc 3 1, .goto 22] := rfl
theorem pg_63_98 : zpg 63 98 = [.iconst 1, .ireturn] := rfl
theorem pg_64_0 : zpg 64 0 = [.iconst 0, .istore 3, .goto_w 2] := rfl
theorem pg_64_2 : zpg 64 2 = [.iload 3, .iconst 20, .if_icmp .ge 44, .aload 0, .iload 3, .invokedynamic 51, .ifCond .eq 38, .aload 0, .iload 3, .iconst 1, .invokedynamic 49, .iload 1, .if_icmp .ne 38, .aload 0, .iload 3, .iconst 2, .invokedynamic 49, .iload 2, .if_icmp .ne 38, .iload 3, .ireturn] := rfl
theorem pg_64_38 : zpg 64 38 = [.iinc 3 1, .goto 2] := rfl
theorem pg_64_44 : zpg 64 44 = [.iconst (-1), .ireturn] := rfl
theorem pg_65_0 : zpg 65 0 = [.iconst 0, .istore 1, .goto_w 2] := rfl
theorem pg_65_2 : zpg 65 2 = [.iload 1, .iconst 20, .if_icmp .ge 24, .aload 0, .iload 1, .invokedynamic 51, .ifCond .ne 18, .iload 1, .ireturn] := rfl
theorem pg_65_18 : zpg 65 18 = [.iinc 1 1, .goto 2] := rfl
theorem pg_65_24 : zpg 65 24 = [.iconst (-1), .ireturn] := rfl
theorem pg_66_0 : zpg 66 0 = [.iconst 0, .istore 2, .iload 1, .istore 3, .goto_w 4] := rfl
theorem pg_66_4 : zpg 66 4 = [.iload 3, .iconst (-1), .if_icmp .eq 27, .iload 2, .iconst 4, .if_icmp .gt 27, .iinc 2 1, .aload 0, .iload 3, .iconst 1, .invokedynamic 49, .istore 3, .goto 4] := rfl
theorem pg_66_27 : zpg 66 27 = [.iload 2, .ireturn] := rfl
theorem pg_67_0 : zpg 67 0 = [.aload 0, .iload 1, .iconst 1, .invokedynamic 49, .istore 3, .iconst 0, .istore 4, .goto_w 10] := rfl
theorem pg_67_10 : zpg 67 10 = [.iload 4, .iconst 4, .if_icmp .ge 41, .iload 3, .iconst (-1), .if_icmp .eq 41, .iload 3, .iload 2, .if_icmp .ne 28, .iconst 1, .ireturn] := rfl
theorem pg_67_28 : zpg 67 28 = [.aload 0, .iload 3, .iconst 1, .invokedynamic 49, .istore 3, .iinc 4 1, .goto 10] := rfl
theorem pg_67_41 : zpg 67 41 = [.iconst 0, .ireturn] := rfl
theorem pg_68_0 : zpg 68 0 = [.iconst 0, .istore 2, .iconst 0, .istore 3, .goto_w 4] := rfl
theorem pg_68_4 : zpg 68 4 = [.iload 3, .iconst 20, .if_icmp .ge 59, .aload 0, .iload 3, .invokedynamic 51, .ifCond .eq 53, .aload 0, .iload 3, .iload 1, .invokedynamic 67, .ifCond .eq 53, .iload 2, .aload 0, .aload 0, .iload 3, .iconst 1, .invokedynamic 49, .invokedynamic 66, .aload 0, .aload 0, .iload 1, .iconst 1, .invokedynamic 49, .invokedynamic 66, .isub, .lmul, .istore 2, .iinc 3 1, .goto 4] := rfl
theorem pg_68_53 : zpg 68 53 = [.iinc 3 1, .goto 4] := rfl
theorem pg_68_59 : zpg 68 59 = [.iload 2, .ireturn] := rfl
theorem pg_69_0 : zpg 69 0 = [.aload 0, .iload 1, .invokedynamic 55, .ifCond .eq 43, .iload 2, .ifCond .lt 43, .iload 2, .iconst 8, .if_icmp .ge 43, .aload 0, .iload 1, .iload 2, .invokedynamic 64, .iconst (-1), .if_icmp .ne 43, .aload 0, .iload 1, .invokedynamic 66, .iload 3, .iadd, .iconst 4, .if_icmp .gt 43, .iconst 1, .goto 44] := rfl
theorem pg_69_43 : zpg 69 43 = [.iconst 0, .ireturn] := rfl
theorem pg_69_44 : zpg 69 44 = [.ireturn] := rfl
theorem pg_70_0 : zpg 70 0 = [.aload 0, .iload 1, .iconst 0, .iload 2, .invokedynamic 50, .aload 0, .iload 1, .iconst 1, .iload 3, .invokedynamic 50, .aload 0, .iload 1, .iconst 2, .iload 4, .invokedynamic 50, .aload 0, .iload 1, .invokedynamic 75, .aload 0, .iconst 0, .multianewarray 5 4, .aload 0, .iconst (-1), .iconst 0, .invokedynamic 71, .return_] := rfl
theorem pg_71_0 : zpg 71 0 = [.iload 2, .iconst 4, .if_icmp .le 6, .return_] := rfl
theorem pg_71_6 : zpg 71 6 = [.iconst 0, .istore 3, .goto_w 8] := rfl
theorem pg_71_8 : zpg 71 8 = [.iload 3, .iconst 8, .if_icmp .ge 89, .aload 0, .iload 1, .iload 3, .invokedynamic 64, .istore 4, .iload 4, .iconst (-1), .if_icmp .eq 83, .aload 0, .invokeinterface 5 4, .ifCond .lt 83, .aload 0, .invokeinterface 5 4, .iconst 20, .if_icmp .ge 83, .aload 0, .getstatic 322, .aload 0, .invokeinterface 5 4, .iload 4, .iastore, .aload 0, .dup, .invokeinterface 5 4, .iconst 1, .iadd, .multianewarray 5 4, .aload 0, .iload 4, .invokedynamic 53, .ifCond .eq 83, .aload 0, .iload 4, .iload 2, .iconst 1, .iadd, .invokedynamic 71, .iinc 3 1, .goto 8] := rfl
theorem pg_71_83 : zpg 71 83 = [.iinc 3 1, .goto 8] := rfl
theorem pg_71_89 : zpg 71 89 = [.return_] := rfl
theorem pg_72_0 : zpg 72 0 = [.aload 0, .invokeinterface 5 4, .istore 2, .iload 2, .iconst 1, .isub, .istore 3, .goto_w 9] := rfl
theorem pg_72_9 : zpg 72 9 = [.iload 3, .ifCond .lt 67, .aload 0, .iload 3, .invokedynamic 58, .istore 4, .iload 4, .iload 1, .if_icmp .eq 36, .aload 0, .iload 4, .iload 1, .invokedynamic 67, .ifCond .eq 61, .iconst 0, .istore 5, .goto_w 39] := rfl
theorem pg_72_36 : zpg 72 36 = [.iconst 0, .istore 5, .goto_w 39] := rfl
theorem pg_72_39 : zpg 72 39 = [.iload 5, .iconst 24, .if_icmp .ge 61, .aload 0, .iload 4, .iload 5, .iconst 0, .invokedynamic 50, .iinc 5 1, .goto 39] := rfl
theorem pg_72_61 : zpg 72 61 = [.iinc 3 (-1), .goto 9] := rfl
theorem pg_72_67 : zpg 72 67 = [.iconst 0, .istore 3, .iconst 0, .istore 4, .goto_w 72] := rfl
theorem pg_72_72 : zpg 72 72 = [.iload 4, .iload 2, .if_icmp .ge 121, .iload 4, .iconst 20, .if_icmp .ge 121, .aload 0, .aload 0, .getstatic 322, .iload 4, .iaload, .invokedynamic 51, .ifCond .eq 115, .aload 0, .getstatic 322, .iload 3, .aload 0, .getstatic 322, .iload 4, .iaload, .iastore, .iinc 3 1, .iinc 4 1, .goto 72] := rfl
theorem pg_72_115 : zpg 72 115 = [.iinc 4 1, .goto 72] := rfl
theorem pg_72_121 : zpg 72 121 = [.aload 0, .iload 3, .multianewarray 5 4, .iload 2, .iload 3, .isub, .ireturn] := rfl
theorem pg_73_0 : zpg 73 0 = [.iconst 0, .istore 2, .iconst 0, .istore 3, .goto_w 4] := rfl
theorem pg_73_4 : zpg 73 4 = [.iload 3, .iconst 20, .if_icmp .ge 53, .aload 0, .iload 3, .invokedynamic 54, .ifCond .eq 47, .iload 3, .iload 1, .if_icmp .eq 32, .aload 0, .iload 3, .iload 1, .invokedynamic 67, .ifCond .eq 47, .aload 0, .iload 3, .iconst 3, .iconst 0, .invokedynamic 50, .aload 0, .iload 3, .invokedynamic 75, .iinc 2 1, .iinc 3 1, .goto 4] := rfl
theorem pg_73_32 : zpg 73 32 = [.aload 0, .iload 3, .iconst 3, .iconst 0, .invokedynamic 50, .aload 0, .iload 3, .invokedynamic 75, .iinc 2 1, .iinc 3 1, .goto 4] := rfl
theorem pg_73_47 : zpg 73 47 = [.iinc 3 1, .goto 4] := rfl
theorem pg_73_53 : zpg 73 53 = [.iload 2, .ireturn] := rfl
theorem pg_74_0 : zpg 74 0 = [.iconst 0, .istore 1, .goto_w 2] := rfl
theorem pg_74_2 : zpg 74 2 = [.iload 1, .iconst 20, .if_icmp .ge 26, .aload 0, .iload 1, .iconst 3, .iconst 0, .invokedynamic 50, .aload 0, .iload 1, .invokedynamic 75, .iinc 1 1, .goto 2] := rfl
theorem pg_74_26 : zpg 74 26 = [.return_] := rfl
theorem pg_75_0 : zpg 75 0 = [.aload 0, .iload 1, .iconst 7, .iconst (-1), .invokedynamic 50, .aload 0, .iload 1, .iconst 8, .iconst (-1), .invokedynamic 50, .iconst 0, .istore 2, .goto_w 18] := rfl
theorem pg_75_18 : zpg 75 18 = [.iload 2, .iconst 3, .if_icmp .ge 39, .aload 0, .iload 1, .iconst 15, .iload 2, .iadd, .iconst (-1), .invokedynamic 50, .iinc 2 1, .goto 18] := rfl
theorem pg_75_39 : zpg 75 39 = [.iconst 0, .istore 2, .goto_w 41] := rfl
theorem pg_75_41 : zpg 75 41 = [.iload 2, .iconst 2, .if_icmp .ge 72, .aload 0, .iload 1, .iconst 18, .iload 2, .iadd, .iconst (-1), .invokedynamic 50, .aload 0, .iload 1, .iconst 20, .iload 2, .iadd, .iconst 0, .invokedynamic 50, .iinc 2 1, .goto 41] := rfl
theorem pg_75_72 : zpg 75 72 = [.return_] := rfl
theorem pg_76_0 : zpg 76 0 = [.iconst 0, .istore 3, .iconst 0, .istore 4, .goto_w 5] := rfl
theorem pg_76_5 : zpg 76 5 = [.iload 4, .aload 0, .iload 1, .iconst 6, .invokedynamic 49, .if_icmp .ge 50, .aload 0, .iload 1, .iconst 9, .iload 4, .iadd, .invokedynamic 49, .iload 2, .if_icmp .ne 44, .iload 3, .aload 0, .iload 1, .iconst 12, .iload 4, .iadd, .invokedynamic 49, .iadd, .istore 3, .iinc 4 1, .goto 5] := rfl
theorem pg_76_44 : zpg 76 44 = [.iinc 4 1, .goto 5] := rfl
theorem pg_76_50 : zpg 76 50 = [.iload 3, .ireturn] := rfl
theorem pg_77_0 : zpg 77 0 = [.iconst (-1), .istore 3, .iconst 0, .istore 4, .iconst 0, .istore 5, .goto_w 8] := rfl
theorem pg_77_8 : zpg 77 8 = [.iload 5, .aload 0, .invokeinterface 5 4, .if_icmp .ge 76, .aload 0, .iload 5, .invokedynamic 58, .istore 6, .aload 0, .iload 6, .invokedynamic 52, .ifCond .eq 70, .aload 0, .iload 6, .invokedynamic 54, .ifCond .ne 47, .iload 2, .ifCond .ne 70, .aload 0, .iload 6, .iload 1, .invokedynamic 76, .istore 7, .iload 7, .iload 4, .if_icmp .le 70, .iload 7, .istore 4, .iload 6, .istore 3, .iinc 5 1, .goto 8] := rfl
theorem pg_77_47 : zpg 77 47 = [.aload 0, .iload 6, .iload 1, .invokedynamic 76, .istore 7, .iload 7, .iload 4, .if_icmp .le 70, .iload 7, .istore 4, .iload 6, .istore 3, .iinc 5 1, .goto 8] := rfl
theorem pg_77_70 : zpg 77 70 = [.iinc 5 1, .goto 8] := rfl
theorem pg_77_76 : zpg 77 76 = [.iload 3, .ireturn] := rfl
theorem pg_78_0 : zpg 78 0 = [.iconst (-1), .istore 1, .iconst (-1), .istore 2, .iconst 0, .istore 3, .goto_w 6] := rfl
theorem pg_78_6 : zpg 78 6 = [.iload 3, .aload 0, .invokeinterface 5 4, .if_icmp .ge 67, .aload 0, .iload 3, .invokedynamic 58, .istore 4, .aload 0, .iload 4, .invokedynamic 53, .ifCond .eq 61, .aload 0, .iload 4, .invokedynamic 54, .ifCond .eq 61, .aload 0, .iload 4, .iconst 5, .invokedynamic 49, .iload 2, .if_icmp .le 61, .aload 0, .iload 4, .iconst 5, .invokedynamic 49, .istore 2, .iload 4, .istore 1, .iinc 3 1, .goto 6] := rfl
theorem pg_78_61 : zpg 78 61 = [.iinc 3 1, .goto 6] := rfl
theorem pg_78_67 : zpg 78 67 = [.iload 1, .ireturn] := rfl
theorem pg_79_0 : zpg 79 0 = [.aload 0, .iload 1, .invokedynamic 73, .pop, .aload 0, .invokeinterface 5 5, .ifCond .lt 42, .aload 0, .invokeinterface 5 5, .iconst 20, .if_icmp .ge 42, .aload 0, .getstatic 323, .aload 0, .invokeinterface 5 5, .iload 1, .iastore, .aload 0, .dup, .invokeinterface 5 5, .iconst 1, .iadd, .multianewarray 5 5, .return_] := rfl
theorem pg_79_42 : zpg 79 42 = [.return_] := rfl
theorem pg_80_0 : zpg 80 0 = [.iconst 0, .istore 1, .iconst 0, .istore 2, .goto_w 4] := rfl
theorem pg_80_4 : zpg 80 4 = [.iload 2, .iconst 20, .if_icmp .ge 27, .aload 0, .iload 2, .invokedynamic 54, .ifCond .eq 21, .iinc 1 1, .iinc 2 1, .goto 4] := rfl
theorem pg_80_21 : zpg 80 21 = [.iinc 2 1, .goto 4] := rfl
theorem pg_80_27 : zpg 80 27 = [.iload 1, .ireturn] := rfl
theorem pg_81_0 : zpg 81 0 = [.iconst 0, .istore 1, .iconst 0, .istore 2, .goto_w 4] := rfl
theorem pg_81_4 : zpg 81 4 = [.iload 2, .iconst 20, .if_icmp .ge 27, .aload 0, .iload 2, .invokedynamic 53, .ifCond .eq 21, .iinc 1 1, .iinc 2 1, .goto 4] := rfl
theorem pg_81_21 : zpg 81 21 = [.iinc 2 1, .goto 4] := rfl
theorem pg_81_27 : zpg 81 27 = [.iload 1, .ireturn] := rfl
theorem pg_82_0 : zpg 82 0 = [.iconst 0, .istore 1, .iconst 0, .istore 2, .goto_w 4] := rfl
theorem pg_82_4 : zpg 82 4 = [.iload 2, .iconst 20, .if_icmp .ge 42, .aload 0, .iload 2, .invokedynamic 52, .ifCond .eq 36, .aload 0, .iload 2, .invokedynamic 54, .ifCond .eq 36, .iload 1, .aload 0, .iload 2, .iconst 6, .invokedynamic 49, .iadd, .istore 1, .iinc 2 1, .goto 4] := rfl
theorem pg_82_36 : zpg 82 36 = [.iinc 2 1, .goto 4] := rfl
theorem pg_82_42 : zpg 82 42 = [.iload 1, .ireturn] := rfl
theorem pg_83_0 : zpg 83 0 = [.iconst 0, .istore 1, .iconst 0, .istore 2, .goto_w 4] := rfl
theorem pg_83_4 : zpg 83 4 = [.iload 2, .iconst 20, .if_icmp .ge 44, .aload 0, .iload 2, .invokedynamic 53, .ifCond .eq 38, .aload 0, .iload 2, .invokedynamic 54, .ifCond .eq 38, .iload 1, .aload 0, .iload 2, .iconst 7, .invokedynamic 49, .lmul, .istore 1, .iinc 2 1, .goto 4] := rfl
theorem pg_83_38 : zpg 83 38 = [.iinc 2 1, .goto 4] := rfl
theorem pg_83_44 : zpg 83 44 = [.iload 1, .ireturn] := rfl
theorem pg_85_0 : zpg 85 0 = [.aload 0, .iconst 1, .iload 1, .iload 2, .iconst 0, .iconst 0, .invokedynamic 87, .ireturn] := rfl
theorem pg_86_0 : zpg 86 0 = [.iload 3, .ifCond .lt 22, .iload 3, .iconst 3, .if_icmp .gt 22, .iload 4, .ifCond .lt 22, .iload 4, .iconst 128, .if_icmp .le 24, .iconst (-1), .ireturn] := rfl
theorem pg_86_22 : zpg 86 22 = [.iconst (-1), .ireturn] := rfl
theorem pg_86_24 : zpg 86 24 = [.aload 0, .iconst 2, .iload 1, .iload 2, .iload 3, .iload 4, .invokedynamic 87, .ireturn] := rfl
theorem pg_87_0 : zpg 87 0 = [.aload 0, .invokedynamic 136, .astore 6, .aload 6, .invokedynamic 65, .istore 7, .iload 7, .iconst (-1), .if_icmp .eq 30, .aload 6, .iload 2, .iload 3, .iconst 0, .invokedynamic 69, .ifCond .ne 32, .iconst (-1), .ireturn] := rfl
theorem pg_87_30 : zpg 87 30 = [.iconst (-1), .ireturn] := rfl
theorem pg_87_32 : zpg 87 32 = [.aload 6, .iload 7, .iload 1, .iload 2, .iload 3, .invokedynamic 70, .aload 6, .iload 7, .iconst 4, .iload 4, .invokedynamic 50, .aload 6, .iload 7, .iconst 5, .iload 5, .invokedynamic 50, .aload 0, .getstatic 384, .aload 6, .invokedynamic 2, .iload 7, .ireturn] := rfl
theorem pg_88_0 : zpg 88 0 = [.aload 0, .invokedynamic 136, .astore 4, .aload 4, .iload 1, .invokedynamic 52, .ifCond .eq 38, .aload 4, .iload 1, .invokedynamic 54, .ifCond .ne 38, .iload 2, .invokedynamic 137, .ifCond .eq 38, .iload 3, .invokedynamic 138, .ifCond .ne 40, .iconst (-1), .ireturn] := rfl
theorem pg_88_38 : zpg 88 38 = [.iconst (-1), .ireturn] := rfl
theorem pg_88_40 : zpg 88 40 = [.aload 4, .iload 1, .iconst 6, .invokedynamic 49, .istore 5, .iload 5, .ifCond .lt 61, .iload 5, .iconst 3, .if_icmp .lt 63, .iconst (-1), .ireturn] := rfl
theorem pg_88_61 : zpg 88 61 = [.iconst (-1), .ireturn] := rfl
theorem pg_88_63 : zpg 88 63 = [.aload 4, .iload 1, .iconst 9, .iload 5, .iadd, .iload 2, .invokedynamic 50, .aload 4, .iload 1, .iconst 12, .iload 5, .iadd, .iconst 1, .iload 3, .ishl, .invokedynamic 50, .aload 4, .iload 1, .iconst 15, .iload 5, .iadd, .iconst (-1), .invokedynamic 50, .aload 4, .iload 1, .iconst 6, .iload 5, .iconst 1, .iadd, .invokedynamic 50, .aload 0, .getstatic 384, .aload 4, .invokedynamic 2, .iload 5, .ireturn] := rfl
theorem pg_89_0 : zpg 89 0 = [.aload 0, .invokedynamic 136, .astore 2, .aload 2, .iload 1, .invokedynamic 51, .ifCond .ne 15, .iconst (-1), .ireturn] := rfl
theorem pg_89_15 : zpg 89 15 = [.aload 2, .iload 1, .invokedynamic 72, .istore 3, .aload 0, .getstatic 384, .aload 2, .invokedynamic 2, .iload 3, .ireturn] := rfl
theorem pg_90_0 : zpg 90 0 = [.aload 0, .invokedynamic 136, .astore 4, .aload 4, .iload 1, .invokedynamic 51, .ifCond .eq 29, .aload 4, .iload 1, .invokedynamic 54, .ifCond .ne 29, .iload 2, .iload 1, .if_icmp .ne 31, .iconst 0, .ireturn] := rfl
theorem pg_90_29 : zpg 90 29 = [.iconst 0, .ireturn] := rfl
theorem pg_90_31 : zpg 90 31 = [.aload 4, .iload 2, .iload 1, .invokedynamic 67, .ifCond .ne 57, .aload 4, .iload 2, .iload 3, .aload 4, .iload 1, .invokedynamic 68, .invokedynamic 69, .ifCond .ne 59, .iconst 0, .ireturn] := rfl
theorem pg_90_57 : zpg 90 57 = [.iconst 0, .ireturn] := rfl
theorem pg_90_59 : zpg 90 59 = [.aload 4, .iload 1, .aload 4, .iload 1, .iconst 0, .invokedynamic 49, .iload 2, .iload 3, .invokedynamic 70, .aload 0, .getstatic 384, .aload 4, .invokedynamic 2, .iconst 1, .ireturn] := rfl
theorem pg_91_0 : zpg 91 0 = [.aload 0, .invokedynamic 136, .astore 3, .iload 1, .invokedynamic 137, .ifCond .eq 30, .iload 2, .ifCond .lt 30, .iload 2, .iconst 1024, .if_icmp .gt 30, .aload 3, .invokedynamic 80, .ifCond .le 32, .iconst 0, .ireturn] := rfl
theorem pg_91_30 : zpg 91 30 = [.iconst 0, .ireturn] := rfl
theorem pg_91_32 : zpg 91 32 = [.aload 3, .getstatic 321, .iload 1, .iload 2, .iastore, .aload 0, .getstatic 384, .aload 3, .invokedynamic 2, .iconst 1, .ireturn] := rfl
theorem pg_92_0 : zpg 92 0 = [.aload 0, .invokedynamic 136, .astore 1, .aload 0, .getstatic 389, .aload 1, .invokedynamic 19, .aload 0, .getstatic 384, .aload 1, .invokedynamic 2, .aload 1, .invokedynamic 80, .ireturn] := rfl
theorem pg_93_0 : zpg 93 0 = [.aload 0, .invokedynamic 136, .astore 2, .aload 0, .getstatic 390, .aload 2, .iload 1, .invokedynamic 7, .istore 3, .iload 3, .ifCond .lt 27, .aload 0, .getstatic 384, .aload 2, .invokedynamic 2, .iload 3, .ireturn] := rfl
theorem pg_93_27 : zpg 93 27 = [.iload 3, .ireturn] := rfl
theorem pg_94_0 : zpg 94 0 = [.aload 0, .invokedynamic 136, .astore 2, .aload 2, .iload 1, .invokedynamic 54, .ifCond .ne 15, .iconst (-1), .ireturn] := rfl
theorem pg_94_15 : zpg 94 15 = [.aload 2, .iload 1, .invokedynamic 73, .istore 3, .aload 0, .getstatic 384, .aload 2, .invokedynamic 2, .iload 3, .ireturn] := rfl
theorem pg_95_0 : zpg 95 0 = [.aload 0, .invokedynamic 136, .astore 2, .aload 0, .getstatic 390, .aload 2, .iload 1, .invokedynamic 10, .istore 3, .iload 3, .ifCond .lt 27, .aload 0, .getstatic 384, .aload 2, .invokedynamic 2, .iload 3, .ireturn] := rfl
theorem pg_95_27 : zpg 95 27 = [.iload 3, .ireturn] := rfl
theorem pg_96_0 : zpg 96 0 = [.aload 0, .getstatic 390, .aload 0, .invokedynamic 136, .iload 1, .invokedynamic 10, .ireturn] := rfl
theorem pg_97_0 : zpg 97 0 = [.aload 0, .getstatic 384, .invokedynamic 1, .astore 2, .iload 1, .ifCond .lt 38, .iload 1, .aload 2, .invokeinterface 5 5, .if_icmp .ge 38, .iload 1, .aload 2, .getstatic 323, .arraylength, .if_icmp .ge 38, .aload 2, .getstatic 323, .iload 1, .iaload, .goto 39] := rfl
theorem pg_97_38 : zpg 97 38 = [.iconst (-1), .ireturn] := rfl
theorem pg_97_39 : zpg 97 39 = [.ireturn] := rfl
theorem pg_98_0 : zpg 98 0 = [.aload 0, .getstatic 384, .invokedynamic 1, .astore 3, .aload 3, .iload 1, .invokedynamic 51, .ifCond .ne 19, .iconst (-2), .ireturn] := rfl
theorem pg_98_19 : zpg 98 19 = [.iload 2, .tableswitch 121 0 6 #[64, 78, 85, 92, 99, 107, 114]] := rfl
theorem pg_98_64 : zpg 98 64 = [.aload 3, .iload 1, .invokedynamic 53, .ifCond .eq 76, .iconst 1, .goto 77] := rfl
theorem pg_98_76 : zpg 98 76 = [.iconst 0, .ireturn] := rfl
theorem pg_98_77 : zpg 98 77 = [.ireturn] := rfl
theorem pg_98_78 : zpg 98 78 = [.aload 3, .iload 1, .iconst 1, .invokedynamic 49, .ireturn] := rfl
theorem pg_98_85 : zpg 98 85 = [.aload 3, .iload 1, .iconst 2, .invokedynamic 49, .ireturn] := rfl
theorem pg_98_92 : zpg 98 92 = [.aload 3, .iload 1, .iconst 3, .invokedynamic 49, .ireturn] := rfl
theorem pg_98_99 : zpg 98 99 = [.aload 3, .iload 1, .iconst 6, .invokedynamic 49, .ireturn] := rfl
theorem pg_98_107 : zpg 98 107 = [.aload 3, .iload 1, .iconst 4, .invokedynamic 49, .ireturn] := rfl
theorem pg_98_114 : zpg 98 114 = [.aload 3, .iload 1, .iconst 5, .invokedynamic 49, .ireturn] := rfl
theorem pg_98_121 : zpg 98 121 = [.iconst (-2), .ireturn] := rfl
theorem pg_99_0 : zpg 99 0 = [.aload 0, .getstatic 384, .invokedynamic 1, .astore 4, .aload 4, .iload 1, .invokedynamic 52, .ifCond .eq 34, .iload 2, .ifCond .lt 34, .iload 2, .aload 4, .iload 1, .iconst 6, .invokedynamic 49, .if_icmp .lt 37, .iconst (-2), .ireturn] := rfl
theorem pg_99_34 : zpg 99 34 = [.iconst (-2), .ireturn] := rfl
theorem pg_99_37 : zpg 99 37 = [.iload 3, .tableswitch 97 0 2 #[64, 75, 86]] := rfl
theorem pg_99_64 : zpg 99 64 = [.aload 4, .iload 1, .iconst 9, .iload 2, .iadd, .invokedynamic 49, .ireturn] := rfl
theorem pg_99_75 : zpg 99 75 = [.aload 4, .iload 1, .iconst 12, .iload 2, .iadd, .invokedynamic 49, .ireturn] := rfl
theorem pg_99_86 : zpg 99 86 = [.aload 4, .iload 1, .iconst 15, .iload 2, .iadd, .invokedynamic 49, .ireturn] := rfl
theorem pg_99_97 : zpg 99 97 = [.iconst (-2), .ireturn] := rfl
theorem pg_100_0 : zpg 100 0 = [.aload 0, .getstatic 384, .invokedynamic 1, .astore 3, .aload 3, .iload 1, .invokedynamic 53, .ifCond .eq 24, .aload 3, .iload 1, .invokedynamic 54, .ifCond .ne 27, .iconst (-2), .ireturn] := rfl
theorem pg_100_24 : zpg 100 24 = [.iconst (-2), .ireturn] := rfl
theorem pg_100_27 : zpg 100 27 = [.iload 2, .tableswitch 116 0 5 #[68, 76, 84, 92, 100, 108]] := rfl
theorem pg_100_68 : zpg 100 68 = [.aload 3, .iload 1, .iconst 7, .invokedynamic 49, .ireturn] := rfl
theorem pg_100_76 : zpg 100 76 = [.aload 3, .iload 1, .iconst 8, .invokedynamic 49, .ireturn] := rfl
theorem pg_100_84 : zpg 100 84 = [.aload 3, .iload 1, .iconst 18, .invokedynamic 49, .ireturn] := rfl
theorem pg_100_92 : zpg 100 92 = [.aload 3, .iload 1, .iconst 20, .invokedynamic 49, .ireturn] := rfl
theorem pg_100_100 : zpg 100 100 = [.aload 3, .iload 1, .iconst 19, .invokedynamic 49, .ireturn] := rfl
theorem pg_100_108 : zpg 100 108 = [.aload 3, .iload 1, .iconst 21, .invokedynamic 49, .ireturn] := rfl
theorem pg_100_116 : zpg 100 116 = [.iconst (-2), .ireturn] := rfl
theorem pg_101_0 : zpg 101 0 = [.aload 0, .getstatic 384, .invokedynamic 1, .astore 2, .aload 2, .iload 1, .iconst 1, .invokedynamic 49, .istore 3, .aload 2, .iload 1, .invokedynamic 51, .ifCond .eq 39, .aload 2, .iload 3, .invokedynamic 56, .ifCond .eq 39, .aload 2, .iload 3, .invokedynamic 61, .goto 40] := rfl
theorem pg_101_39 : zpg 101 39 = [.iconst (-1), .ireturn] := rfl
theorem pg_101_40 : zpg 101 40 = [.ireturn] := rfl
theorem pg_102_0 : zpg 102 0 = [.aload 0, .getstatic 384, .invokedynamic 1, .astore 3, .iload 1, .ifCond .ne 19, .aload 3, .iconst (-1), .iload 2, .invokedynamic 64, .ireturn] := rfl
theorem pg_102_19 : zpg 102 19 = [.iconst 0, .istore 4, .goto_w 22] := rfl
theorem pg_102_22 : zpg 102 22 = [.iload 4, .aload 3, .invokeinterface 5 4, .if_icmp .ge 83, .aload 3, .iload 4, .invokedynamic 58, .istore 5, .aload 3, .iload 5, .invokedynamic 53, .ifCond .eq 77, .aload 3, .iload 5, .invokedynamic 54, .ifCond .eq 77, .aload 3, .iload 5, .iconst 7, .invokedynamic 49, .iload 1, .if_icmp .ne 77, .aload 3, .iload 5, .iload 2, .invokedynamic 64, .ireturn] := rfl
theorem pg_102_77 : zpg 102 77 = [.iinc 4 1, .goto 22] := rfl
theorem pg_102_83 : zpg 102 83 = [.iconst (-1), .ireturn] := rfl
theorem pg_103_0 : zpg 103 0 = [.aload 0, .getstatic 384, .invokedynamic 1, .iload 1, .invokedynamic 58, .ireturn] := rfl
theorem pg_104_0 : zpg 104 0 = [.iload 1, .invokedynamic 137, .ifCond .ne 9, .iconst (-1), .ireturn] := rfl
theorem pg_104_9 : zpg 104 9 = [.aload 0, .getstatic 391, .aload 0, .getstatic 384, .invokedynamic 1, .iconst (-1), .iload 1, .iload 2, .invokedynamic 27, .pop, .aload 0, .getstatic 391, .invokeinterface 3 1, .ireturn] := rfl
theorem pg_105_0 : zpg 105 0 = [.iload 1, .invokedynamic 137, .ifCond .ne 9, .iconst (-1), .ireturn] := rfl
theorem pg_105_9 : zpg 105 9 = [.aload 0, .getstatic 391, .aload 0, .getstatic 384, .invokedynamic 1, .iconst (-1), .iload 1, .iload 2, .invokedynamic 27, .istore 3, .iload 3, .ifCond .eq 41, .aload 0, .getstatic 391, .invokeinterface 3 2, .goto 42] := rfl
theorem pg_105_41 : zpg 105 41 = [.iconst (-1), .ireturn] := rfl
theorem pg_105_42 : zpg 105 42 = [.ireturn] := rfl
theorem pg_106_0 : zpg 106 0 = [.aload 0, .getstatic 384, .invokedynamic 1, .astore 5, .aload 5, .iload 1, .iconst 1, .invokedynamic 49, .istore 6, .aload 5, .iload 1, .invokedynamic 51, .ifCond .eq 44, .aload 5, .iload 6, .invokedynamic 56, .ifCond .eq 44, .iload 2, .invokedynamic 137, .ifCond .ne 47, .iconst (-2), .ireturn] := rfl
theorem pg_106_44 : zpg 106 44 = [.iconst (-2), .ireturn] := rfl
theorem pg_106_47 : zpg 106 47 = [.aload 0, .getstatic 391, .aload 5, .iload 6, .iload 2, .iload 3, .invokedynamic 28, .iload 4, .tableswitch 117 0 2 #[88, 96, 104]] := rfl
theorem pg_106_88 : zpg 106 88 = [.aload 0, .getstatic 391, .invokeinterface 3 1, .ireturn] := rfl
theorem pg_106_96 : zpg 106 96 = [.aload 0, .getstatic 391, .invokeinterface 3 2, .ireturn] := rfl
theorem pg_106_104 : zpg 106 104 = [.aload 5, .aload 0, .getstatic 391, .invokeinterface 3 3, .invokedynamic 61, .ireturn] := rfl
theorem pg_106_117 : zpg 106 117 = [.iconst (-2), .ireturn] := rfl
theorem pg_107_0 : zpg 107 0 = [.aload 0, .getstatic 384, .invokedynamic 1, .astore 2, .aload 2, .iload 1, .invokedynamic 52, .ifCond .ne 19, .iconst (-2), .ireturn] := rfl
theorem pg_107_19 : zpg 107 19 = [.iconst (-1), .istore 3, .goto_w 21] := rfl
theorem pg_107_21 : zpg 107 21 = [.iload 3, .aload 2, .invokeinterface 5 4, .if_icmp .ge 99, .aload 2, .iload 3, .invokedynamic 58, .istore 4, .iload 3, .ifCond .lt 58, .iload 4, .iload 1, .if_icmp .eq 93, .aload 2, .iload 4, .invokedynamic 52, .ifCond .ne 58, .goto 93] := rfl
theorem pg_107_58 : zpg 107 58 = [.aload 0, .invokedynamic 136, .astore 5, .aload 5, .iload 4, .invokedynamic 72, .pop, .aload 0, .getstatic 389, .aload 5, .invokedynamic 19, .aload 5, .iload 1, .invokedynamic 54, .ifCond .eq 93, .iload 4, .ireturn] := rfl
theorem pg_107_93 : zpg 107 93 = [.iinc 3 1, .goto 21] := rfl
theorem pg_107_99 : zpg 107 99 = [.iconst (-1), .ireturn] := rfl
theorem pg_108_0 : zpg 108 0 = [.iload 1, .ifCond .lt 21, .iload 1, .iconst 1000, .if_icmp .ge 21, .iload 2, .ifCond .lt 21, .iload 2, .iconst 100, .if_icmp .le 23, .iconst (-1), .ireturn] := rfl
theorem pg_108_21 : zpg 108 21 = [.iconst (-1), .ireturn] := rfl
theorem pg_108_23 : zpg 108 23 = [.aload 0, .getstatic 384, .invokedynamic 1, .astore 4, .aload 0, .invokedynamic 136, .astore 5, .iload 1, .istore 6, .iconst 0, .istore 7, .iconst 0, .istore 8, .goto_w 47] := rfl
theorem pg_108_47 : zpg 108 47 = [.iload 8, .aload 4, .invokeinterface 5 4, .if_icmp .ge 118, .aload 4, .iload 8, .invokedynamic 58, .istore 9, .aload 4, .iload 9, .invokedynamic 52, .ifCond .eq 112, .iconst 137, .iload 6, .imul, .iconst 71, .iadd, .iconst 1000, .irem, .istore 6, .iload 6, .iconst 100, .irem, .iload 2, .if_icmp .ge 112, .iload 7, .aload 5, .iload 9, .invokedynamic 72, .iadd, .istore 7, .iinc 8 1, .goto 47] := rfl
theorem pg_108_112 : zpg 108 112 = [.iinc 8 1, .goto 47] := rfl
theorem pg_108_118 : zpg 108 118 = [.aload 0, .getstatic 389, .aload 5, .invokedynamic 19, .iload 3, .tableswitch 171 0 2 #[156, 162, 165]] := rfl
theorem pg_108_156 : zpg 108 156 = [.aload 5, .invokedynamic 80, .ireturn] := rfl
theorem pg_108_162 : zpg 108 162 = [.iload 7, .ireturn] := rfl
theorem pg_108_165 : zpg 108 165 = [.aload 5, .invokeinterface 5 5, .ireturn] := rfl
theorem pg_108_171 : zpg 108 171 = [.iconst (-1), .ireturn] := rfl
theorem pg_109_0 : zpg 109 0 = [.aload 0, .getstatic 384, .invokedynamic 1, .astore 2, .aload 0, .invokedynamic 136, .astore 3, .aload 0, .getstatic 389, .aload 3, .invokedynamic 19, .iload 1, .tableswitch 74 0 3 #[52, 57, 63, 69]] := rfl
theorem pg_109_52 : zpg 109 52 = [.aload 3, .invokedynamic 80, .ireturn] := rfl
theorem pg_109_57 : zpg 109 57 = [.aload 2, .aload 3, .invokedynamic 110, .ireturn] := rfl
theorem pg_109_63 : zpg 109 63 = [.aload 2, .aload 3, .invokedynamic 111, .ireturn] := rfl
theorem pg_109_69 : zpg 109 69 = [.aload 3, .invokeinterface 5 5, .ireturn] := rfl
theorem pg_109_74 : zpg 109 74 = [.iconst (-1), .ireturn] := rfl
theorem pg_110_0 : zpg 110 0 = [.iconst 0, .istore 2, .iconst 0, .istore 3, .goto_w 4] := rfl
theorem pg_110_4 : zpg 110 4 = [.iload 3, .iconst 20, .if_icmp .ge 87, .aload 0, .iload 3, .invokedynamic 52, .ifCond .eq 81, .aload 0, .iload 3, .invokedynamic 54, .ifCond .eq 81, .aload 1, .iload 3, .invokedynamic 54, .ifCond .eq 81, .iconst 0, .istore 4, .goto_w 37] := rfl
theorem pg_110_37 : zpg 110 37 = [.iload 4, .aload 0, .iload 3, .iconst 6, .invokedynamic 49, .if_icmp .ge 81, .aload 0, .iload 3, .iconst 15, .iload 4, .iadd, .invokedynamic 49, .aload 1, .iload 3, .iconst 15, .iload 4, .iadd, .invokedynamic 49, .if_icmp .eq 75, .iinc 2 1, .iinc 4 1, .goto 37] := rfl
theorem pg_110_75 : zpg 110 75 = [.iinc 4 1, .goto 37] := rfl
theorem pg_110_81 : zpg 110 81 = [.iinc 3 1, .goto 4] := rfl
theorem pg_110_87 : zpg 110 87 = [.iload 2, .ireturn] := rfl
theorem pg_111_0 : zpg 111 0 = [.iconst 0, .istore 2, .iconst 0, .istore 3, .goto_w 4] := rfl
theorem pg_111_4 : zpg 111 4 = [.iload 3, .iconst 20, .if_icmp .ge 35, .aload 0, .iload 3, .invokedynamic 54, .ifCond .eq 29, .aload 1, .iload 3, .invokedynamic 54, .ifCond .ne 29, .iinc 2 1, .iinc 3 1, .goto 4] := rfl
theorem pg_111_29 : zpg 111 29 = [.iinc 3 1, .goto 4] := rfl
theorem pg_111_35 : zpg 111 35 = [.iload 2, .ireturn] := rfl
theorem pg_112_0 : zpg 112 0 = [.aload 0, .iload 1, .iload 2, .invokedynamic 114, .ifCond .ne 12, .iconst (-2), .ireturn] := rfl
theorem pg_112_12 : zpg 112 12 = [.aload 0, .getstatic 389, .aload 0, .getstatic 387, .iload 1, .iload 2, .invokedynamic 23, .ireturn] := rfl
theorem pg_113_0 : zpg 113 0 = [.aload 0, .iload 1, .iload 2, .invokedynamic 114, .ifCond .ne 12, .iconst (-2), .ireturn] := rfl
theorem pg_113_12 : zpg 113 12 = [.aload 0, .getstatic 389, .aload 0, .getstatic 387, .iload 1, .iload 2, .invokedynamic 24, .ireturn] := rfl
theorem pg_114_0 : zpg 114 0 = [.aload 0, .invokedynamic 136, .astore 3, .aload 3, .iload 1, .invokedynamic 55, .ifCond .eq 20, .iload 2, .invokedynamic 137, .ifCond .ne 22, .iconst 0, .ireturn] := rfl
theorem pg_114_20 : zpg 114 20 = [.iconst 0, .ireturn] := rfl
theorem pg_114_22 : zpg 114 22 = [.iconst 0, .istore 4, .goto_w 25] := rfl
theorem pg_114_25 : zpg 114 25 = [.iload 4, .aload 3, .invokeinterface 5 4, .if_icmp .ge 52, .aload 3, .aload 3, .iload 4, .invokedynamic 58, .iconst 3, .iconst 1, .invokedynamic 50, .iinc 4 1, .goto 25] := rfl
theorem pg_114_52 : zpg 114 52 = [.aload 0, .getstatic 389, .aload 3, .iload 2, .invokedynamic 21, .pop, .iconst 1, .ireturn] := rfl
theorem pg_115_0 : zpg 115 0 = [.aload 0, .getstatic 384, .invokedynamic 1, .astore 3, .aload 3, .iload 1, .invokedynamic 51, .ifCond .eq 25, .iload 2, .ifCond .lt 25, .iload 2, .iconst 4, .if_icmp .lt 27, .iconst (-1), .ireturn] := rfl
theorem pg_115_25 : zpg 115 25 = [.iconst (-1), .ireturn] := rfl
theorem pg_115_27 : zpg 115 27 = [.iload 2, .aload 3, .iload 1, .iconst 2, .invokedynamic 49, .iadd, .istore 4, .aload 3, .iload 1, .iconst 1, .invokedynamic 49, .istore 5, .iconst 0, .istore 6, .goto_w 48] := rfl
theorem pg_115_48 : zpg 115 48 = [.iload 6, .iconst 4, .if_icmp .ge 87, .iload 5, .iconst (-1), .if_icmp .eq 87, .iload 4, .aload 3, .iload 5, .iconst 2, .invokedynamic 49, .iadd, .istore 4, .aload 3, .iload 5, .iconst 1, .invokedynamic 49, .istore 5, .iinc 6 1, .goto 48] := rfl
theorem pg_115_87 : zpg 115 87 = [.iload 4, .iconst 4, .irem, .ireturn] := rfl
theorem pg_116_0 : zpg 116 0 = [.aload 0, .getstatic 384, .invokedynamic 1, .astore 3, .aload 3, .iload 1, .invokedynamic 51, .ifCond .eq 24, .aload 3, .iload 2, .invokedynamic 51, .ifCond .ne 26, .iconst (-1), .ireturn] := rfl
theorem pg_116_24 : zpg 116 24 = [.iconst (-1), .ireturn] := rfl
theorem pg_116_26 : zpg 116 26 = [.iconst 0, .istore 4, .iconst 0, .istore 5, .goto_w 32] := rfl
theorem pg_116_32 : zpg 116 32 = [.iload 5, .iconst 20, .if_icmp .ge 89, .aload 3, .iload 1, .iload 5, .invokedynamic 67, .aload 3, .iload 2, .iload 5, .invokedynamic 67, .if_icmp .eq 60, .iconst 1, .goto 61] := rfl
theorem pg_116_60 : zpg 116 60 = [.iconst 0, .istore 6, .iload 6, .ifCond .eq 83, .iload 5, .iload 1, .if_icmp .eq 83, .iload 5, .iload 2, .if_icmp .eq 83, .iinc 4 1, .iinc 5 1, .goto 32] := rfl
theorem pg_116_61 : zpg 116 61 = [.istore 6, .iload 6, .ifCond .eq 83, .iload 5, .iload 1, .if_icmp .eq 83, .iload 5, .iload 2, .if_icmp .eq 83, .iinc 4 1, .iinc 5 1, .goto 32] := rfl
theorem pg_116_83 : zpg 116 83 = [.iinc 5 1, .goto 32] := rfl
theorem pg_116_89 : zpg 116 89 = [.iload 4, .ireturn] := rfl
theorem pg_117_0 : zpg 117 0 = [.aload 0, .getstatic 384, .invokedynamic 1, .astore 3, .aload 3, .iload 1, .invokedynamic 51, .ifCond .eq 24, .aload 3, .iload 2, .invokedynamic 51, .ifCond .ne 27, .iconst (-2), .ireturn] := rfl
theorem pg_117_24 : zpg 117 24 = [.iconst (-2), .ireturn] := rfl
theorem pg_117_27 : zpg 117 27 = [.aload 3, .iload 1, .iconst 1, .invokedynamic 49, .istore 4, .iconst 0, .istore 5, .goto_w 38] := rfl
theorem pg_117_38 : zpg 117 38 = [.iload 5, .iconst 4, .if_icmp .ge 78, .iload 4, .iconst (-1), .if_icmp .eq 78, .aload 3, .iload 2, .iload 4, .invokedynamic 67, .ifCond .eq 63, .iload 4, .ireturn] := rfl
theorem pg_117_63 : zpg 117 63 = [.aload 3, .iload 4, .iconst 1, .invokedynamic 49, .istore 4, .iinc 5 1, .goto 38] := rfl
theorem pg_117_78 : zpg 117 78 = [.iconst (-1), .ireturn] := rfl
theorem pg_118_0 : zpg 118 0 = [.aload 0, .iload 1, .iload 2, .invokedynamic 121, .ifCond .ne 12, .iconst (-2), .ireturn] := rfl
theorem pg_118_12 : zpg 118 12 = [.aload 0, .getstatic 384, .invokedynamic 1, .iload 1, .iload 2, .invokedynamic 60, .aload 0, .getstatic 388, .invokedynamic 41, .isub, .ireturn] := rfl
theorem pg_119_0 : zpg 119 0 = [.aload 0, .iload 1, .iload 2, .invokedynamic 121, .ifCond .ne 12, .iconst (-2), .ireturn] := rfl
theorem pg_119_12 : zpg 119 12 = [.aload 0, .getstatic 384, .invokedynamic 1, .astore 3, .aload 3, .iload 1, .iload 2, .invokedynamic 59, .istore 4, .iload 4, .aload 3, .iload 1, .iload 2, .invokedynamic 60, .iadd, .istore 5, .iconst 8, .istore 6, .goto_w 43] := rfl
theorem pg_119_43 : zpg 119 43 = [.iload 6, .ifCond .lt 80, .aload 0, .getstatic 388, .iconst 1, .iload 6, .ishl, .iconst 1, .iload 6, .ishl, .iload 4, .iload 5, .invokedynamic 43, .iconst (-1), .if_icmp .eq 74, .iload 6, .ireturn] := rfl
theorem pg_119_74 : zpg 119 74 = [.iinc 6 (-1), .goto 43] := rfl
theorem pg_119_80 : zpg 119 80 = [.iconst (-1), .ireturn] := rfl
theorem pg_120_0 : zpg 120 0 = [.aload 0, .iload 1, .iload 2, .invokedynamic 121, .ifCond .eq 16, .iload 3, .invokedynamic 138, .ifCond .ne 19, .iconst (-2), .ireturn] := rfl
theorem pg_120_16 : zpg 120 16 = [.iconst (-2), .ireturn] := rfl
theorem pg_120_19 : zpg 120 19 = [.aload 0, .getstatic 384, .invokedynamic 1, .astore 4, .iconst 1, .iload 3, .ishl, .istore 5, .aload 4, .iload 1, .iload 2, .invokedynamic 59, .istore 6, .iload 6, .aload 4, .iload 1, .iload 2, .invokedynamic 60, .iadd, .istore 7, .iconst 0, .istore 8, .goto_w 57] := rfl
theorem pg_120_57 : zpg 120 57 = [.iload 8, .iconst 1024, .if_icmp .ge 104, .aload 0, .getstatic 388, .iload 5, .iload 5, .iload 6, .iload 7, .invokedynamic 43, .istore 9, .iload 9, .iconst (-1), .if_icmp .ne 91, .iload 8, .ireturn] := rfl
theorem pg_120_91 : zpg 120 91 = [.iload 9, .iload 5, .iadd, .istore 6, .iinc 8 1, .goto 57] := rfl
theorem pg_120_104 : zpg 120 104 = [.iconst 1024, .ireturn] := rfl
theorem pg_121_0 : zpg 121 0 = [.aload 0, .getstatic 384, .invokedynamic 1, .astore 3, .aload 3, .iload 1, .invokedynamic 56, .ifCond .eq 23, .iload 2, .invokedynamic 137, .ifCond .ne 25, .iconst 0, .ireturn] := rfl
theorem pg_121_23 : zpg 121 23 = [.iconst 0, .ireturn] := rfl
theorem pg_121_25 : zpg 121 25 = [.aload 0, .getstatic 388, .aload 3, .iload 1, .iload 2, .invokedynamic 33, .iconst 1, .ireturn] := rfl
theorem pg_122_0 : zpg 122 0 = [.aload 0, .getstatic 384, .invokedynamic 1, .astore 2, .aload 2, .iload 1, .invokedynamic 56, .ifCond .ne 19, .iconst (-2), .ireturn] := rfl
theorem pg_122_19 : zpg 122 19 = [.iconst 0, .istore 3, .iconst 0, .istore 4, .goto_w 24] := rfl
theorem pg_122_24 : zpg 122 24 = [.iload 4, .iconst 31, .if_icmp .gt 50, .aload 2, .iload 1, .iload 4, .invokedynamic 63, .ifCond .eq 44, .iinc 3 1, .iinc 4 1, .goto 24] := rfl
theorem pg_122_44 : zpg 122 44 = [.iinc 4 1, .goto 24] := rfl
theorem pg_122_50 : zpg 122 50 = [.iload 3, .ireturn] := rfl
theorem pg_123_0 : zpg 123 0 = [.aload 0, .invokedynamic 136, .astore 2, .aload 2, .iload 1, .invokedynamic 52, .ifCond .eq 21, .aload 2, .iload 1, .invokedynamic 54, .ifCond .eq 24, .iconst (-2), .ireturn] := rfl
theorem pg_123_21 : zpg 123 21 = [.iconst (-2), .ireturn] := rfl
theorem pg_123_24 : zpg 123 24 = [.aload 0, .aload 2, .iload 1, .iconst (-1), .invokedynamic 124, .ifCond .eq 36, .iconst (-1), .ireturn] := rfl
theorem pg_123_36 : zpg 123 36 = [.iconst 0, .istore 3, .goto_w 38] := rfl
theorem pg_123_38 : zpg 123 38 = [.iload 3, .aload 2, .invokeinterface 5 4, .if_icmp .ge 91, .aload 2, .iload 3, .invokedynamic 58, .istore 4, .aload 2, .iload 4, .invokedynamic 53, .ifCond .eq 85, .aload 2, .iload 4, .invokedynamic 54, .ifCond .eq 85, .aload 0, .aload 2, .iload 1, .iload 4, .invokedynamic 124, .ifCond .eq 85, .iload 4, .ireturn] := rfl
theorem pg_123_85 : zpg 123 85 = [.iinc 3 1, .goto 38] := rfl
theorem pg_123_91 : zpg 123 91 = [.iconst (-2), .ireturn] := rfl
theorem pg_124_0 : zpg 124 0 = [.aload 1, .iload 2, .iconst 1, .invokedynamic 49, .iload 3, .if_icmp .ne 14, .iconst 1, .goto 15] := rfl
theorem pg_124_14 : zpg 124 14 = [.iconst 0, .istore 4, .iconst 0, .istore 5, .goto_w 20] := rfl
theorem pg_124_15 : zpg 124 15 = [.istore 4, .iconst 0, .istore 5, .goto_w 20] := rfl
theorem pg_124_20 : zpg 124 20 = [.iload 5, .iconst 8, .if_icmp .ge 48, .iload 4, .ifCond .ne 48, .aload 1, .iload 3, .iload 5, .iconst 0, .invokedynamic 69, .istore 4, .iinc 5 1, .goto 20] := rfl
theorem pg_124_48 : zpg 124 48 = [.iload 4, .ifCond .eq 72, .aload 0, .getstatic 390, .aload 1, .iload 2, .iload 3, .iconst 0, .invokedynamic 11, .iconst (-1), .if_icmp .eq 72, .iconst 1, .goto 73] := rfl
theorem pg_124_72 : zpg 124 72 = [.iconst 0, .ireturn] := rfl
theorem pg_124_73 : zpg 124 73 = [.ireturn] := rfl
theorem pg_125_0 : zpg 125 0 = [.iload 1, .invokedynamic 137, .ifCond .ne 9, .iconst (-1), .ireturn] := rfl
theorem pg_125_9 : zpg 125 9 = [.aload 0, .getstatic 384, .invokedynamic 1, .iload 1, .iconst 0, .invokedynamic 77, .ireturn] := rfl
theorem pg_126_0 : zpg 126 0 = [.iload 1, .invokedynamic 137, .ifCond .ne 9, .iconst (-1), .ireturn] := rfl
theorem pg_126_9 : zpg 126 9 = [.aload 0, .getstatic 384, .invokedynamic 1, .astore 3, .iload 2, .tableswitch 86 0 3 #[48, 55, 73, 79]] := rfl
theorem pg_126_48 : zpg 126 48 = [.aload 3, .iload 1, .iconst 1, .invokedynamic 127, .ireturn] := rfl
theorem pg_126_55 : zpg 126 55 = [.aload 0, .getstatic 388, .aload 3, .iconst (-1), .iload 1, .invokedynamic 33, .aload 0, .getstatic 388, .invokedynamic 41, .ireturn] := rfl
theorem pg_126_73 : zpg 126 73 = [.aload 3, .iload 1, .invokedynamic 128, .ireturn] := rfl
theorem pg_126_79 : zpg 126 79 = [.aload 3, .iload 1, .iconst 0, .invokedynamic 127, .ireturn] := rfl
theorem pg_126_86 : zpg 126 86 = [.iconst (-1), .ireturn] := rfl
theorem pg_127_0 : zpg 127 0 = [.iconst 0, .istore 3, .iconst 0, .istore 4, .goto_w 5] := rfl
theorem pg_127_5 : zpg 127 5 = [.iload 4, .iconst 20, .if_icmp .ge 50, .aload 0, .iload 4, .invokedynamic 52, .ifCond .eq 44, .aload 0, .iload 4, .invokedynamic 54, .ifCond .ne 34, .iload 2, .ifCond .ne 44, .iload 3, .aload 0, .iload 4, .iload 1, .invokedynamic 76, .iadd, .istore 3, .iinc 4 1, .goto 5] := rfl
theorem pg_127_34 : zpg 127 34 = [.iload 3, .aload 0, .iload 4, .iload 1, .invokedynamic 76, .iadd, .istore 3, .iinc 4 1, .goto 5] := rfl
theorem pg_127_44 : zpg 127 44 = [.iinc 4 1, .goto 5] := rfl
theorem pg_127_50 : zpg 127 50 = [.iload 3, .ireturn] := rfl
theorem pg_128_0 : zpg 128 0 = [.iconst 0, .istore 2, .iconst 0, .istore 3, .goto_w 4] := rfl
theorem pg_128_4 : zpg 128 4 = [.iload 3, .iconst 20, .if_icmp .ge 44, .aload 0, .iload 3, .invokedynamic 53, .ifCond .eq 38, .aload 0, .iload 3, .invokedynamic 54, .ifCond .eq 38, .iload 2, .aload 0, .iload 3, .iconst 20, .iload 1, .iadd, .invokedynamic 49, .iadd, .istore 2, .iinc 3 1, .goto 4] := rfl
theorem pg_128_38 : zpg 128 38 = [.iinc 3 1, .goto 4] := rfl
theorem pg_128_44 : zpg 128 44 = [.iload 2, .ireturn] := rfl
theorem pg_129_0 : zpg 129 0 = [.iload 1, .invokedynamic 137, .ifCond .ne 9, .iconst (-1), .ireturn] := rfl
theorem pg_129_9 : zpg 129 9 = [.aload 0, .getstatic 384, .invokedynamic 1, .astore 2, .aload 0, .aload 2, .iconst (-1), .iload 1, .invokedynamic 130, .istore 3, .iconst 0, .istore 4, .goto_w 28] := rfl
theorem pg_129_28 : zpg 129 28 = [.iload 4, .iconst 20, .if_icmp .ge 70, .aload 2, .iload 4, .invokedynamic 53, .ifCond .eq 64, .aload 2, .iload 4, .invokedynamic 54, .ifCond .eq 64, .iload 3, .aload 0, .aload 2, .iload 4, .iload 1, .invokedynamic 130, .iadd, .istore 3, .iinc 4 1, .goto 28] := rfl
theorem pg_129_64 : zpg 129 64 = [.iinc 4 1, .goto 28] := rfl
theorem pg_129_70 : zpg 129 70 = [.iload 3, .ireturn] := rfl
theorem pg_130_0 : zpg 130 0 = [.aload 0, .getstatic 388, .aload 1, .iload 2, .iload 3, .invokedynamic 33, .aload 1, .iload 2, .iload 3, .invokedynamic 59, .istore 4, .aload 0, .getstatic 388, .iload 4, .iload 4, .aload 1, .iload 2, .iload 3, .invokedynamic 60, .iadd, .invokedynamic 46, .ireturn] := rfl
theorem pg_131_0 : zpg 131 0 = [.aload 0, .getstatic 384, .invokedynamic 3, .ireturn] := rfl
theorem pg_132_0 : zpg 132 0 = [.aload 0, .getstatic 384, .invokedynamic 4, .ireturn] := rfl
theorem pg_133_0 : zpg 133 0 = [.iload 1, .ifCond .lt 9, .iload 1, .iconst 2, .if_icmp .lt 11, .iconst (-1), .ireturn] := rfl
theorem pg_133_9 : zpg 133 9 = [.iconst (-1), .ireturn] := rfl
theorem pg_133_11 : zpg 133 11 = [.aload 0, .getstatic 384, .invokedynamic 1, .astore 2, .aload 0, .getstatic 385, .iload 1, .aaload, .aload 2, .invokedynamic 48, .aload 0, .getstatic 386, .iload 1, .iconst 1, .bastore, .aload 2, .invokeinterface 5 4, .ireturn] := rfl
theorem pg_134_0 : zpg 134 0 = [.iload 1, .ifCond .lt 18, .iload 1, .iconst 2, .if_icmp .ge 18, .aload 0, .getstatic 386, .iload 1, .baload, .ifCond .ne 20, .iconst (-1), .ireturn] := rfl
theorem pg_134_18 : zpg 134 18 = [.iconst (-1), .ireturn] := rfl
theorem pg_134_20 : zpg 134 20 = [.aload 0, .getstatic 384, .aload 0, .getstatic 385, .iload 1, .aaload, .invokedynamic 5, .aload 0, .getstatic 384, .invokedynamic 1, .invokeinterface 5 4, .ireturn] := rfl
theorem pg_135_0 : zpg 135 0 = [.aload 0, .getstatic 384, .invokedynamic 1, .astore 2, .iload 1, .tableswitch 122 0 9 #[64, 69, 74, 79, 84, 89, 94, 102, 110, 116]] := rfl
theorem pg_135_64 : zpg 135 64 = [.aload 2, .invokeinterface 5 4, .ireturn] := rfl
theorem pg_135_69 : zpg 135 69 = [.aload 2, .invokedynamic 81, .ireturn] := rfl
theorem pg_135_74 : zpg 135 74 = [.aload 2, .invokedynamic 80, .ireturn] := rfl
theorem pg_135_79 : zpg 135 79 = [.aload 2, .invokedynamic 82, .ireturn] := rfl
theorem pg_135_84 : zpg 135 84 = [.aload 2, .invokedynamic 83, .ireturn] := rfl
theorem pg_135_89 : zpg 135 89 = [.aload 2, .invokeinterface 5 5, .ireturn] := rfl
theorem pg_135_94 : zpg 135 94 = [.aload 0, .getstatic 384, .invokeinterface 0 2, .ireturn] := rfl
theorem pg_135_102 : zpg 135 102 = [.aload 0, .getstatic 384, .invokeinterface 0 3, .ireturn] := rfl
theorem pg_135_110 : zpg 135 110 = [.aload 2, .iconst 0, .invokedynamic 57, .ireturn] := rfl
theorem pg_135_116 : zpg 135 116 = [.aload 2, .iconst 1, .invokedynamic 57, .ireturn] := rfl
theorem pg_135_122 : zpg 135 122 = [.iconst (-1), .ireturn] := rfl
theorem pg_136_0 : zpg 136 0 = [.aload 0, .getstatic 387, .aload 0, .getstatic 384, .invokedynamic 1, .invokedynamic 48, .aload 0, .getstatic 387, .areturn] := rfl
theorem pg_137_0 : zpg 137 0 = [.iload 0, .ifCond .lt 13, .iload 0, .iconst 2, .if_icmp .ge 13, .iconst 1, .goto 14] := rfl
theorem pg_137_13 : zpg 137 13 = [.iconst 0, .ireturn] := rfl
theorem pg_137_14 : zpg 137 14 = [.ireturn] := rfl
theorem pg_138_0 : zpg 138 0 = [.iload 0, .ifCond .lt 14, .iload 0, .iconst 8, .if_icmp .gt 14, .iconst 1, .goto 15] := rfl
theorem pg_138_14 : zpg 138 14 = [.iconst 0, .ireturn] := rfl
theorem pg_138_15 : zpg 138 15 = [.ireturn] := rfl
theorem pg_139_0 : zpg 139 0 = [.iload 0, .iload 1, .iadd, .iconst 1, .isub, .iload 1, .ineg, .iand, .ireturn] := rfl
theorem pg_141_0 : zpg 141 0 = [.iload 0, .iload 1, .if_icmp .lt 14, .iload 0, .iload 2, .if_icmp .gt 14, .iconst 1, .goto 15] := rfl
theorem pg_141_14 : zpg 141 14 = [.iconst 0, .ireturn] := rfl
theorem pg_141_15 : zpg 141 15 = [.ireturn] := rfl
theorem pg_142_0 : zpg 142 0 = [.aload 0, .getstatic 448, .iconst 23, .iload 1, .imul, .iload 2, .iadd, .iaload, .ireturn] := rfl
theorem pg_143_0 : zpg 143 0 = [.aload 0, .getstatic 448, .iconst 23, .iload 1, .imul, .iload 2, .iadd, .iload 3, .iastore, .return_] := rfl
theorem pg_144_0 : zpg 144 0 = [.iload 1, .iconst 0, .iconst 19, .invokedynamic 141, .ifCond .eq 24, .aload 0, .iload 1, .iconst 0, .invokedynamic 142, .iconst 1, .if_icmp .ne 24, .iconst 1, .goto 25] := rfl
theorem pg_144_24 : zpg 144 24 = [.iconst 0, .ireturn] := rfl
theorem pg_144_25 : zpg 144 25 = [.ireturn] := rfl
theorem pg_145_0 : zpg 145 0 = [.aload 0, .iload 1, .invokedynamic 144, .ifCond .eq 21, .aload 0, .iload 1, .iconst 1, .invokedynamic 142, .ifCond .ne 21, .iconst 1, .goto 22] := rfl
theorem pg_145_21 : zpg 145 21 = [.iconst 0, .ireturn] := rfl
theorem pg_145_22 : zpg 145 22 = [.ireturn] := rfl
theorem pg_146_0 : zpg 146 0 = [.aload 0, .iload 1, .invokedynamic 144, .ifCond .eq 22, .aload 0, .iload 1, .iconst 1, .invokedynamic 142, .iconst 1, .if_icmp .ne 22, .iconst 1, .goto 23] := rfl
theorem pg_146_22 : zpg 146 22 = [.iconst 0, .ireturn] := rfl
theorem pg_146_23 : zpg 146 23 = [.ireturn] := rfl
theorem pg_147_0 : zpg 147 0 = [.aload 0, .iload 1, .invokedynamic 144, .ifCond .eq 22, .aload 0, .iload 1, .iconst 4, .invokedynamic 142, .iconst 1, .if_icmp .ne 22, .iconst 1, .goto 23] := rfl
theorem pg_147_22 : zpg 147 22 = [.iconst 0, .ireturn] := rfl
theorem pg_147_23 : zpg 147 23 = [.ireturn] := rfl
theorem pg_148_0 : zpg 148 0 = [.iload 0, .iconst 0, .iconst 1, .invokedynamic 141, .ireturn] := rfl
theorem pg_149_0 : zpg 149 0 = [.iload 0, .iload 1, .ishr, .iconst 1, .iand, .iconst 1, .if_icmp .ne 13, .iconst 1, .goto 14] := rfl
theorem pg_149_13 : zpg 149 13 = [.iconst 0, .ireturn] := rfl
theorem pg_149_14 : zpg 149 14 = [.ireturn] := rfl
theorem pg_150_0 : zpg 150 0 = [.iconst 0, .istore 1, .iconst 0, .istore 2, .goto_w 4] := rfl
theorem pg_150_4 : zpg 150 4 = [.iload 2, .iconst 20, .if_icmp .ge 32, .iload 1, .iload 0, .iload 2, .invokedynamic 149, .ifCond .eq 23, .iconst 1, .goto 24] := rfl
theorem pg_150_23 : zpg 150 23 = [.iconst 0, .iadd, .istore 1, .iinc 2 1, .goto 4] := rfl
theorem pg_150_24 : zpg 150 24 = [.iadd, .istore 1, .iinc 2 1, .goto 4] := rfl
theorem pg_150_32 : zpg 150 32 = [.iload 1, .ireturn] := rfl
theorem pg_151_0 : zpg 151 0 = [.iconst 0, .istore 1, .iconst 0, .istore 2, .goto_w 4] := rfl
theorem pg_151_4 : zpg 151 4 = [.iload 2, .iconst 20, .if_icmp .ge 30, .aload 0, .iload 2, .invokedynamic 144, .ifCond .eq 24, .iload 1, .iconst 1, .iload 2, .ishl, .ior, .istore 1, .iinc 2 1, .goto 4] := rfl
theorem pg_151_24 : zpg 151 24 = [.iinc 2 1, .goto 4] := rfl
theorem pg_151_30 : zpg 151 30 = [.iload 1, .ireturn] := rfl
theorem pg_152_0 : zpg 152 0 = [.iconst 0, .istore 1, .iconst 0, .istore 2, .goto_w 4] := rfl
theorem pg_152_4 : zpg 152 4 = [.iload 2, .iconst 20, .if_icmp .ge 30, .aload 0, .iload 2, .invokedynamic 147, .ifCond .eq 24, .iload 1, .iconst 1, .iload 2, .ishl, .ior, .istore 1, .iinc 2 1, .goto 4] := rfl
theorem pg_152_24 : zpg 152 24 = [.iinc 2 1, .goto 4] := rfl
theorem pg_152_30 : zpg 152 30 = [.iload 1, .ireturn] := rfl
theorem pg_153_0 : zpg 153 0 = [.iconst 0, .istore 2, .aload 0, .iload 1, .iconst 2, .invokedynamic 142, .istore 3, .goto_w 9] := rfl
theorem pg_153_9 : zpg 153 9 = [.iload 3, .ifCond .lt 26, .iinc 2 1, .aload 0, .iload 3, .iconst 2, .invokedynamic 142, .istore 3, .goto 9] := rfl
theorem pg_153_26 : zpg 153 26 = [.iload 2, .ireturn] := rfl
theorem pg_154_0 : zpg 154 0 = [.iconst 0, .istore 2, .aload 0, .iload 1, .iconst 2, .invokedynamic 142, .istore 3, .goto_w 9] := rfl
theorem pg_154_9 : zpg 154 9 = [.iload 3, .ifCond .lt 29, .iload 2, .iconst 1, .iload 3, .ishl, .ior, .istore 2, .aload 0, .iload 3, .iconst 2, .invokedynamic 142, .istore 3, .goto 9] := rfl
theorem pg_154_29 : zpg 154 29 = [.iload 2, .ireturn] := rfl
theorem pg_155_0 : zpg 155 0 = [.iconst 0, .istore 2, .iconst 1, .istore 3, .aload 0, .iload 1, .invokedynamic 153, .istore 4, .goto_w 11] := rfl
theorem pg_155_11 : zpg 155 11 = [.iload 4, .iconst 4, .if_icmp .ge 28, .iload 3, .iconst 9, .imul, .istore 3, .iinc 4 1, .goto 11] := rfl
theorem pg_155_28 : zpg 155 28 = [.iload 1, .istore 4, .goto_w 31] := rfl
theorem pg_155_31 : zpg 155 31 = [.iload 4, .ifCond .lt 67, .iload 2, .iload 3, .aload 0, .iload 4, .iconst 3, .invokedynamic 142, .iconst 1, .iadd, .imul, .iadd, .istore 2, .iload 3, .iconst 9, .imul, .istore 3, .aload 0, .iload 4, .iconst 2, .invokedynamic 142, .istore 4, .goto 31] := rfl
theorem pg_155_67 : zpg 155 67 = [.iload 2, .ireturn] := rfl
theorem pg_156_0 : zpg 156 0 = [.aload 0, .iconst 0, .multianewarray 7 2, .iconst 0, .istore 1, .goto_w 7] := rfl
theorem pg_156_7 : zpg 156 7 = [.iload 1, .iconst 20, .if_icmp .ge 96, .aload 0, .iload 1, .invokedynamic 144, .ifCond .ne 24, .goto 90] := rfl
theorem pg_156_24 : zpg 156 24 = [.aload 0, .invokeinterface 7 2, .istore 2, .goto_w 29] := rfl
theorem pg_156_29 : zpg 156 29 = [.iload 2, .ifCond .le 73, .aload 0, .aload 0, .getstatic 449, .iload 2, .iconst 1, .isub, .iaload, .invokedynamic 155, .aload 0, .iload 1, .invokedynamic 155, .if_icmp .le 73, .aload 0, .getstatic 449, .iload 2, .aload 0, .getstatic 449, .iload 2, .iconst 1, .isub, .iaload, .iastore, .iinc 2 (-1), .goto 29] := rfl
theorem pg_156_73 : zpg 156 73 = [.aload 0, .getstatic 449, .iload 2, .iload 1, .iastore, .aload 0, .dup, .invokeinterface 7 2, .iconst 1, .iadd, .multianewarray 7 2, .iinc 1 1, .goto 7] := rfl
theorem pg_156_90 : zpg 156 90 = [.iinc 1 1, .goto 7] := rfl
theorem pg_156_96 : zpg 156 96 = [.return_] := rfl
theorem pg_157_0 : zpg 157 0 = [.iconst 0, .istore 3, .goto_w 2] := rfl
theorem pg_157_2 : zpg 157 2 = [.iload 3, .iconst 20, .if_icmp .ge 44, .aload 0, .iload 3, .invokedynamic 144, .ifCond .eq 38, .aload 0, .iload 3, .iconst 2, .invokedynamic 142, .iload 1, .if_icmp .ne 38, .aload 0, .iload 3, .iconst 3, .invokedynamic 142, .iload 2, .if_icmp .ne 38, .iload 3, .ireturn] := rfl
theorem pg_157_38 : zpg 157 38 = [.iinc 3 1, .goto 2] := rfl
theorem pg_157_44 : zpg 157 44 = [.iconst (-1), .ireturn] := rfl
theorem pg_158_0 : zpg 158 0 = [.iload 1, .iconst (-1), .if_icmp .eq 13, .aload 0, .iload 1, .invokedynamic 146, .ifCond .eq 36, .iload 2, .iconst 0, .iconst 7, .invokedynamic 141, .ifCond .eq 36, .aload 0, .iload 1, .iload 2, .invokedynamic 157, .ifCond .ge 36, .iconst 1, .goto 37] := rfl
theorem pg_158_13 : zpg 158 13 = [.iload 2, .iconst 0, .iconst 7, .invokedynamic 141, .ifCond .eq 36, .aload 0, .iload 1, .iload 2, .invokedynamic 157, .ifCond .ge 36, .iconst 1, .goto 37] := rfl
theorem pg_158_36 : zpg 158 36 = [.iconst 0, .ireturn] := rfl
theorem pg_158_37 : zpg 158 37 = [.ireturn] := rfl
theorem pg_159_0 : zpg 159 0 = [.iload 1, .iconst (-1), .if_icmp .ne 9, .iconst 0, .goto 16] := rfl
theorem pg_159_9 : zpg 159 9 = [.aload 0, .iload 1, .invokedynamic 153, .iconst 1, .iadd, .ireturn] := rfl
theorem pg_159_16 : zpg 159 16 = [.ireturn] := rfl
theorem pg_160_0 : zpg 160 0 = [.iconst 0, .istore 1, .goto_w 2] := rfl
theorem pg_160_2 : zpg 160 2 = [.iload 1, .iconst 20, .if_icmp .ge 24, .aload 0, .iload 1, .invokedynamic 144, .ifCond .ne 18, .iload 1, .ireturn] := rfl
theorem pg_160_18 : zpg 160 18 = [.iinc 1 1, .goto 2] := rfl
theorem pg_160_24 : zpg 160 24 = [.iconst (-1), .ireturn] := rfl
theorem pg_161_0 : zpg 161 0 = [.aload 0, .iload 1, .iload 2, .invokedynamic 158, .ifCond .eq 29, .aload 0, .iload 1, .invokedynamic 159, .iconst 4, .if_icmp .gt 29, .aload 0, .invokedynamic 160, .ifCond .lt 29, .iconst 1, .goto 30] := rfl
theorem pg_161_29 : zpg 161 29 = [.iconst 0, .ireturn] := rfl
theorem pg_161_30 : zpg 161 30 = [.ireturn] := rfl
theorem pg_162_0 : zpg 162 0 = [.aload 0, .invokedynamic 160, .istore 4, .iconst 0, .istore 5, .goto_w 9] := rfl
theorem pg_162_9 : zpg 162 9 = [.iload 5, .iconst 23, .if_icmp .ge 31, .aload 0, .iload 4, .iload 5, .iconst 0, .invokedynamic 143, .iinc 5 1, .goto 9] := rfl
theorem pg_162_31 : zpg 162 31 = [.aload 0, .iload 4, .iconst 0, .iconst 1, .invokedynamic 143, .aload 0, .iload 4, .iconst 1, .iload 3, .invokedynamic 143, .aload 0, .iload 4, .iconst 2, .iload 1, .invokedynamic 143, .aload 0, .iload 4, .iconst 3, .iload 2, .invokedynamic 143, .aload 0, .iload 4, .invokedynamic 163, .iload 4, .ireturn] := rfl
theorem pg_163_0 : zpg 163 0 = [.aload 0, .iload 1, .iconst 4, .iconst 0, .invokedynamic 143, .aload 0, .iload 1, .iconst 17, .iconst (-1), .invokedynamic 143, .aload 0, .iload 1, .iconst 18, .iconst (-1), .invokedynamic 143, .iconst 0, .istore 2, .goto_w 25] := rfl
theorem pg_163_25 : zpg 163 25 = [.iload 2, .iconst 3, .if_icmp .ge 46, .aload 0, .iload 1, .iconst 12, .iload 2, .iadd, .iconst (-1), .invokedynamic 143, .iinc 2 1, .goto 25] := rfl
theorem pg_163_46 : zpg 163 46 = [.iconst 0, .istore 2, .goto_w 48] := rfl
theorem pg_163_48 : zpg 163 48 = [.iload 2, .iconst 2, .if_icmp .ge 79, .aload 0, .iload 1, .iconst 19, .iload 2, .iadd, .iconst (-1), .invokedynamic 143, .aload 0, .iload 1, .iconst 21, .iload 2, .iadd, .iconst 0, .invokedynamic 143, .iinc 2 1, .goto 48] := rfl
theorem pg_163_79 : zpg 163 79 = [.return_] := rfl
theorem pg_164_0 : zpg 164 0 = [.aload 0, .iload 1, .iload 2, .invokedynamic 161, .ifCond .ne 11, .iconst (-1), .ireturn] := rfl
theorem pg_164_11 : zpg 164 11 = [.aload 0, .invokedynamic 264, .aload 0, .iload 1, .iload 2, .iconst 0, .invokedynamic 162, .ireturn] := rfl
theorem pg_165_0 : zpg 165 0 = [.aload 0, .iload 1, .iload 2, .invokedynamic 161, .ifCond .eq 30, .iload 3, .iconst 0, .iconst 3, .invokedynamic 141, .ifCond .eq 30, .iload 4, .iconst 0, .iconst 128, .invokedynamic 141, .ifCond .ne 32, .iconst (-1), .ireturn] := rfl
theorem pg_165_30 : zpg 165 30 = [.iconst (-1), .ireturn] := rfl
theorem pg_165_32 : zpg 165 32 = [.aload 0, .invokedynamic 264, .aload 0, .iload 1, .iload 2, .iconst 1, .invokedynamic 162, .istore 5, .aload 0, .iload 5, .iconst 15, .iload 3, .invokedynamic 143, .aload 0, .iload 5, .iconst 16, .iload 4, .invokedynamic 143, .iload 5, .ireturn] := rfl
theorem pg_166_0 : zpg 166 0 = [.aload 0, .iload 1, .invokedynamic 145, .ifCond .eq 43, .aload 0, .iload 1, .invokedynamic 147, .ifCond .ne 43, .aload 0, .iload 1, .iconst 5, .invokedynamic 142, .iconst 3, .if_icmp .eq 43, .iload 2, .invokedynamic 148, .ifCond .eq 43, .iload 3, .iconst 0, .iconst 8, .invokedynamic 141, .ifCond .ne 45, .iconst (-1), .ireturn] := rfl
theorem pg_166_43 : zpg 166 43 = [.iconst (-1), .ireturn] := rfl
theorem pg_166_45 : zpg 166 45 = [.aload 0, .invokedynamic 264, .aload 0, .iload 1, .iconst 5, .invokedynamic 142, .istore 4, .aload 0, .iload 1, .iconst 6, .iload 4, .iadd, .iload 2, .invokedynamic 143, .aload 0, .iload 1, .iconst 9, .iload 4, .iadd, .iconst 1, .iload 3, .ishl, .invokedynamic 143, .aload 0, .iload 1, .iconst 5, .iload 4, .iconst 1, .iadd, .invokedynamic 143, .iload 4, .ireturn] := rfl
theorem pg_167_0 : zpg 167 0 = [.iconst 1, .iload 1, .ishl, .istore 2, .iconst 0, .istore 3, .goto_w 6] := rfl
theorem pg_167_6 : zpg 167 6 = [.iload 3, .iconst 20, .if_icmp .ge 44, .aload 0, .iload 3, .invokedynamic 144, .ifCond .eq 38, .aload 0, .iload 3, .invokedynamic 154, .iload 1, .invokedynamic 149, .ifCond .eq 38, .iload 2, .iconst 1, .iload 3, .ishl, .ior, .istore 2, .iinc 3 1, .goto 6] := rfl
theorem pg_167_38 : zpg 167 38 = [.iinc 3 1, .goto 6] := rfl
theorem pg_167_44 : zpg 167 44 = [.iload 2, .ireturn] := rfl
theorem pg_168_0 : zpg 168 0 = [.aload 0, .iload 1, .invokedynamic 144, .ifCond .ne 10, .iconst (-1), .ireturn] := rfl
theorem pg_168_10 : zpg 168 10 = [.aload 0, .invokedynamic 264, .aload 0, .iload 1, .invokedynamic 167, .istore 2, .iconst 0, .istore 3, .goto_w 22] := rfl
theorem pg_168_22 : zpg 168 22 = [.iload 3, .iconst 20, .if_icmp .ge 49, .iload 2, .iload 3, .invokedynamic 149, .ifCond .eq 43, .aload 0, .iload 3, .iconst 0, .iconst 0, .invokedynamic 143, .iinc 3 1, .goto 22] := rfl
theorem pg_168_43 : zpg 168 43 = [.iinc 3 1, .goto 22] := rfl
theorem pg_168_49 : zpg 168 49 = [.iload 2, .invokedynamic 150, .ireturn] := rfl
theorem pg_169_0 : zpg 169 0 = [.aload 0, .iload 1, .invokedynamic 167, .istore 2, .iconst 0, .istore 3, .iconst 0, .istore 4, .goto_w 11] := rfl
theorem pg_169_11 : zpg 169 11 = [.iload 4, .iconst 20, .if_icmp .ge 62, .iload 2, .iload 4, .invokedynamic 149, .ifCond .eq 56, .aload 0, .iload 4, .invokedynamic 153, .aload 0, .iload 1, .invokedynamic 153, .isub, .iload 3, .if_icmp .le 56, .aload 0, .iload 4, .invokedynamic 153, .aload 0, .iload 1, .invokedynamic 153, .isub, .istore 3, .iinc 4 1, .goto 11] := rfl
theorem pg_169_56 : zpg 169 56 = [.iinc 4 1, .goto 11] := rfl
theorem pg_169_62 : zpg 169 62 = [.iload 3, .ireturn] := rfl
theorem pg_170_0 : zpg 170 0 = [.aload 0, .iload 1, .invokedynamic 144, .ifCond .eq 41, .aload 0, .iload 1, .invokedynamic 147, .ifCond .ne 41, .aload 0, .iload 2, .iload 3, .invokedynamic 158, .ifCond .eq 41, .iload 2, .ifCond .lt 43, .aload 0, .iload 1, .invokedynamic 167, .iload 2, .invokedynamic 149, .ifCond .eq 43, .iconst 0, .ireturn] := rfl
theorem pg_170_41 : zpg 170 41 = [.iconst 0, .ireturn] := rfl
theorem pg_170_43 : zpg 170 43 = [.aload 0, .iload 2, .invokedynamic 159, .aload 0, .iload 1, .invokedynamic 169, .iadd, .iconst 4, .if_icmp .le 60, .iconst 0, .ireturn] := rfl
theorem pg_170_60 : zpg 170 60 = [.aload 0, .invokedynamic 264, .aload 0, .iload 1, .iconst 2, .iload 2, .invokedynamic 143, .aload 0, .iload 1, .iconst 3, .iload 3, .invokedynamic 143, .iconst 1, .ireturn] := rfl
theorem pg_171_0 : zpg 171 0 = [.iload 1, .invokedynamic 148, .ifCond .eq 25, .iload 2, .iconst 0, .iconst 1024, .invokedynamic 141, .ifCond .eq 25, .aload 0, .invokedynamic 152, .ifCond .eq 27, .iconst 0, .ireturn] := rfl
theorem pg_171_25 : zpg 171 25 = [.iconst 0, .ireturn] := rfl
theorem pg_171_27 : zpg 171 27 = [.aload 0, .invokedynamic 264, .aload 0, .getstatic 448, .iconst 460, .iload 1, .iadd, .iload 2, .iastore, .iconst 1, .ireturn] := rfl
theorem pg_172_0 : zpg 172 0 = [.iconst 21, .iload 0, .imul, .iload 1, .iadd, .ireturn] := rfl
theorem pg_173_0 : zpg 173 0 = [.iconst 80, .iload 0, .imul, .iload 1, .iadd, .ireturn] := rfl
theorem pg_174_0 : zpg 174 0 = [.iload 0, .iconst 60, .if_icmp .ge 12, .iload 0, .iconst 3, .idiv, .goto 16] := rfl
theorem pg_174_12 : zpg 174 12 = [.iload 0, .iconst 60, .isub, .ireturn] := rfl
theorem pg_174_16 : zpg 174 16 = [.ireturn] := rfl
theorem pg_175_0 : zpg 175 0 = [.aload 0, .iload 1, .iconst 2, .invokedynamic 142, .ifCond .ge 14, .iconst 20, .goto 20] := rfl
theorem pg_175_14 : zpg 175 14 = [.aload 0, .iload 1, .iconst 2, .invokedynamic 142, .ireturn] := rfl
theorem pg_175_20 : zpg 175 20 = [.ireturn] := rfl
theorem pg_176_0 : zpg 176 0 = [.iconst 4, .aload 0, .iload 1, .invokedynamic 174, .iconst 3, .invokedynamic 142, .imul, .iload 1, .iconst 60, .if_icmp .ge 23, .iload 1, .iconst 3, .irem, .goto 24] := rfl
theorem pg_176_23 : zpg 176 23 = [.iconst 0, .iadd, .ireturn] := rfl
theorem pg_176_24 : zpg 176 24 = [.iadd, .ireturn] := rfl
theorem pg_177_0 : zpg 177 0 = [.iload 1, .iload 2, .invokedynamic 173, .istore 4, .iload 1, .iload 3, .invokedynamic 173, .istore 5, .aload 0, .getstatic 455, .iload 4, .iaload, .aload 0, .getstatic 455, .iload 5, .iaload, .if_icmp .eq 54, .aload 0, .getstatic 455, .iload 4, .iaload, .aload 0, .getstatic 455, .iload 5, .iaload, .if_icmp .le 52, .iconst 1, .goto 53] := rfl
theorem pg_177_52 : zpg 177 52 = [.iconst 0, .ireturn] := rfl
theorem pg_177_53 : zpg 177 53 = [.ireturn] := rfl
theorem pg_177_54 : zpg 177 54 = [.aload 0, .getstatic 454, .iload 4, .iaload, .aload 0, .getstatic 454, .iload 5, .iaload, .if_icmp .eq 94, .aload 0, .getstatic 454, .iload 4, .iaload, .aload 0, .getstatic 454, .iload 5, .iaload, .if_icmp .le 92, .iconst 1, .goto 93] := rfl
theorem pg_177_92 : zpg 177 92 = [.iconst 0, .ireturn] := rfl
theorem pg_177_93 : zpg 177 93 = [.ireturn] := rfl
theorem pg_177_94 : zpg 177 94 = [.aload 0, .iload 2, .invokedynamic 176, .aload 0, .iload 3, .invokedynamic 176, .if_icmp .ge 111, .iconst 1, .goto 112] := rfl
theorem pg_177_111 : zpg 177 111 = [.iconst 0, .ireturn] := rfl
theorem pg_177_112 : zpg 177 112 = [.ireturn] := rfl
theorem pg_178_0 : zpg 178 0 = [.iload 0, .iload 1, .iadd, .iconst 1, .isub, .iload 1, .idiv, .iload 1, .imul, .ireturn] := rfl
theorem pg_179_0 : zpg 179 0 = [.aload 0, .iconst 0, .multianewarray 7 9, .iconst 0, .istore 4, .goto_w 8] := rfl
theorem pg_179_8 : zpg 179 8 = [.iload 4, .iconst 20, .if_icmp .ge 217, .iload 3, .iload 4, .invokedynamic 149, .ifCond .eq 211, .aload 0, .iload 4, .invokedynamic 175, .iload 2, .if_icmp .eq 37, .goto 211] := rfl
theorem pg_179_37 : zpg 179 37 = [.iconst 0, .istore 5, .goto_w 40] := rfl
theorem pg_179_40 : zpg 179 40 = [.iload 5, .aload 0, .iload 4, .iconst 5, .invokedynamic 142, .if_icmp .ge 156, .aload 0, .iload 4, .iconst 6, .iload 5, .iadd, .invokedynamic 142, .iload 1, .if_icmp .eq 70, .goto 150] := rfl
theorem pg_179_70 : zpg 179 70 = [.aload 0, .getstatic 454, .iload 1, .iconst 3, .iload 4, .imul, .iload 5, .iadd, .invokedynamic 173, .aload 0, .iload 4, .iconst 9, .iload 5, .iadd, .invokedynamic 142, .iastore, .aload 0, .getstatic 455, .iload 1, .iconst 3, .iload 4, .imul, .iload 5, .iadd, .invokedynamic 173, .aload 0, .iload 4, .iconst 9, .iload 5, .iadd, .invokedynamic 142, .iastore, .aload 0, .getstatic 456, .aload 0, .invokeinterface 7 9, .iconst 3, .iload 4, .imul, .iload 5, .iadd, .iastore, .aload 0, .dup, .invokeinterface 7 9, .iconst 1, .iadd, .multianewarray 7 9, .iinc 5 1, .goto 40] := rfl
theorem pg_179_150 : zpg 179 150 = [.iinc 5 1, .goto 40] := rfl
theorem pg_179_156 : zpg 179 156 = [.aload 0, .iload 4, .iconst 1, .invokedynamic 142, .iconst 1, .if_icmp .ne 211, .aload 0, .getstatic 454, .iload 1, .iconst 60, .iload 4, .iadd, .invokedynamic 173, .iaload, .ifCond .ne 187, .goto 211] := rfl
theorem pg_179_187 : zpg 179 187 = [.aload 0, .getstatic 456, .aload 0, .invokeinterface 7 9, .iconst 60, .iload 4, .iadd, .iastore, .aload 0, .dup, .invokeinterface 7 9, .iconst 1, .iadd, .multianewarray 7 9, .iinc 4 1, .goto 8] := rfl
theorem pg_179_211 : zpg 179 211 = [.iinc 4 1, .goto 8] := rfl
theorem pg_179_217 : zpg 179 217 = [.return_] := rfl
theorem pg_180_0 : zpg 180 0 = [.aload 0, .iload 1, .iload 2, .iload 3, .invokedynamic 179, .iconst 0, .istore 4, .iconst 0, .istore 5, .aload 0, .invokeinterface 7 9, .istore 6, .goto_w 19] := rfl
theorem pg_180_19 : zpg 180 19 = [.iload 6, .ifCond .le 161, .iconst 0, .istore 7, .iconst 1, .istore 8, .goto_w 30] := rfl
theorem pg_180_30 : zpg 180 30 = [.iload 8, .iload 6, .if_icmp .ge 69, .aload 0, .iload 1, .aload 0, .getstatic 456, .iload 8, .iaload, .aload 0, .getstatic 456, .iload 7, .iaload, .invokedynamic 177, .ifCond .eq 63, .iload 8, .istore 7, .iinc 8 1, .goto 30] := rfl
theorem pg_180_63 : zpg 180 63 = [.iinc 8 1, .goto 30] := rfl
theorem pg_180_69 : zpg 180 69 = [.iload 1, .aload 0, .getstatic 456, .iload 7, .iaload, .invokedynamic 173, .istore 8, .aload 0, .getstatic 453, .iload 8, .iload 4, .aload 0, .getstatic 455, .iload 8, .iaload, .invokedynamic 178, .iastore, .aload 0, .getstatic 453, .iload 8, .iaload, .aload 0, .getstatic 454, .iload 8, .iaload, .iadd, .istore 4, .aload 0, .getstatic 455, .iload 8, .iaload, .iload 5, .if_icmp .le 139, .aload 0, .getstatic 455, .iload 8, .iaload, .istore 5, .aload 0, .getstatic 456, .iload 7, .aload 0, .getstatic 456, .iload 6, .iconst 1, .isub, .iaload, .iastore, .iinc 6 (-1), .goto 19] := rfl
theorem pg_180_139 : zpg 180 139 = [.aload 0, .getstatic 456, .iload 7, .aload 0, .getstatic 456, .iload 6, .iconst 1, .isub, .iaload, .iastore, .iinc 6 (-1), .goto 19] := rfl
theorem pg_180_161 : zpg 180 161 = [.aload 0, .getstatic 451, .iload 1, .iload 2, .invokedynamic 172, .iload 4, .iastore, .aload 0, .getstatic 452, .iload 1, .iload 2, .invokedynamic 172, .iload 5, .iastore, .iload 2, .iconst 20, .if_icmp .ne 192, .return_] := rfl
theorem pg_180_192 : zpg 180 192 = [.aload 0, .getstatic 454, .iload 1, .iconst 60, .iload 2, .iadd, .invokedynamic 173, .iload 4, .aload 0, .iload 2, .iconst 16, .invokedynamic 142, .iadd, .iconst 16, .invokedynamic 178, .iastore, .aload 0, .getstatic 455, .iload 1, .iconst 60, .iload 2, .iadd, .invokedynamic 173, .iload 5, .iconst 16, .if_icmp .le 244, .iload 5, .goto 246] := rfl
theorem pg_180_244 : zpg 180 244 = [.iconst 16, .iastore, .return_] := rfl
theorem pg_180_246 : zpg 180 246 = [.iastore, .return_] := rfl
theorem pg_181_0 : zpg 181 0 = [.iconst 0, .istore 2, .goto_w 2] := rfl
theorem pg_181_2 : zpg 181 2 = [.iload 2, .iconst 2, .if_icmp .ge 87, .iconst 4, .istore 3, .goto_w 9] := rfl
theorem pg_181_9 : zpg 181 9 = [.iload 3, .ifCond .lt 73, .iconst 0, .istore 4, .goto_w 16] := rfl
theorem pg_181_16 : zpg 181 16 = [.iload 4, .iconst 20, .if_icmp .ge 67, .iload 1, .iload 4, .invokedynamic 149, .ifCond .eq 61, .aload 0, .iload 4, .iconst 1, .invokedynamic 142, .iconst 1, .if_icmp .ne 61, .aload 0, .iload 4, .invokedynamic 153, .iload 3, .if_icmp .ne 61, .aload 0, .iload 2, .iload 4, .iload 1, .invokedynamic 180, .iinc 4 1, .goto 16] := rfl
theorem pg_181_61 : zpg 181 61 = [.iinc 4 1, .goto 16] := rfl
theorem pg_181_67 : zpg 181 67 = [.iinc 3 (-1), .goto 9] := rfl
theorem pg_181_73 : zpg 181 73 = [.aload 0, .iload 2, .iconst 20, .iload 1, .invokedynamic 180, .iinc 2 1, .goto 2] := rfl
theorem pg_181_87 : zpg 181 87 = [.return_] := rfl
theorem pg_182_0 : zpg 182 0 = [.aload 0, .dup, .invokeinterface 7 11, .iconst 1, .isub, .multianewarray 7 11, .aload 0, .getstatic 458, .aload 0, .invokeinterface 7 11, .iaload, .istore 1, .aload 0, .invokeinterface 7 12, .iconst 1, .isub, .aload 0, .iload 1, .iconst 15, .invokedynamic 142, .iadd, .istore 2, .aload 0, .iload 1, .iconst 18, .iload 2, .iconst 31, .if_icmp .ge 49, .iload 2, .goto 51] := rfl
theorem pg_182_49 : zpg 182 49 = [.iconst 31, .invokedynamic 143, .aload 0, .aload 0, .iload 1, .iconst 18, .invokedynamic 142, .iconst 1, .iadd, .multianewarray 7 12, .return_] := rfl
theorem pg_182_51 : zpg 182 51 = [.invokedynamic 143, .aload 0, .aload 0, .iload 1, .iconst 18, .invokedynamic 142, .iconst 1, .iadd, .multianewarray 7 12, .return_] := rfl
theorem pg_183_0 : zpg 183 0 = [.aload 0, .invokedynamic 156, .aload 0, .iconst 0, .multianewarray 7 11, .aload 0, .iconst 1, .multianewarray 7 12, .iconst 0, .istore 1, .iconst 0, .istore 2, .goto_w 18] := rfl
theorem pg_183_18 : zpg 183 18 = [.iload 2, .aload 0, .invokeinterface 7 2, .if_icmp .ge 163, .aload 0, .getstatic 449, .iload 2, .iaload, .istore 3, .aload 0, .iload 3, .iconst 2, .invokedynamic 142, .istore 4, .iload 4, .ifCond .lt 58, .iload 1, .iload 4, .invokedynamic 149, .ifCond .ne 58, .goto 157] := rfl
theorem pg_183_58 : zpg 183 58 = [.aload 0, .invokeinterface 7 11, .ifCond .le 88, .aload 0, .getstatic 458, .aload 0, .invokeinterface 7 11, .iconst 1, .isub, .iaload, .iload 4, .if_icmp .eq 88, .aload 0, .invokedynamic 182, .goto 58] := rfl
theorem pg_183_88 : zpg 183 88 = [.aload 0, .iload 3, .iconst 1, .invokedynamic 142, .iconst 1, .if_icmp .ne 151, .aload 0, .invokeinterface 7 12, .iconst 31, .if_icmp .le 110, .goto 157] := rfl
theorem pg_183_110 : zpg 183 110 = [.aload 0, .iload 3, .iconst 17, .aload 0, .invokeinterface 7 12, .invokedynamic 143, .aload 0, .dup, .invokeinterface 7 12, .iconst 1, .iadd, .multianewarray 7 12, .aload 0, .getstatic 458, .aload 0, .invokeinterface 7 11, .iload 3, .iastore, .aload 0, .dup, .invokeinterface 7 11, .iconst 1, .iadd, .multianewarray 7 11, .iload 1, .iconst 1, .iload 3, .ishl, .ior, .istore 1, .iinc 2 1, .goto 18] := rfl
theorem pg_183_151 : zpg 183 151 = [.iload 1, .iconst 1, .iload 3, .ishl, .ior, .istore 1, .iinc 2 1, .goto 18] := rfl
theorem pg_183_157 : zpg 183 157 = [.iinc 2 1, .goto 18] := rfl
theorem pg_183_163 : zpg 183 163 = [.aload 0, .invokeinterface 7 11, .ifCond .le 177, .aload 0, .invokedynamic 182, .goto 163] := rfl
theorem pg_183_177 : zpg 183 177 = [.iload 1, .ireturn] := rfl
theorem pg_184_0 : zpg 184 0 = [.iconst 0, .istore 3, .iconst 0, .istore 4, .goto_w 5] := rfl
theorem pg_184_5 : zpg 184 5 = [.iload 4, .aload 0, .iload 1, .iconst 5, .invokedynamic 142, .if_icmp .ge 53, .iload 3, .aload 0, .iload 1, .iconst 6, .iload 4, .iadd, .invokedynamic 142, .iload 2, .if_icmp .ne 44, .aload 0, .iload 1, .iconst 9, .iload 4, .iadd, .invokedynamic 142, .goto 45] := rfl
theorem pg_184_44 : zpg 184 44 = [.iconst 0, .iadd, .istore 3, .iinc 4 1, .goto 5] := rfl
theorem pg_184_45 : zpg 184 45 = [.iadd, .istore 3, .iinc 4 1, .goto 5] := rfl
theorem pg_184_53 : zpg 184 53 = [.iload 3, .ireturn] := rfl
theorem pg_185_0 : zpg 185 0 = [.iconst (-1), .istore 3, .iconst 0, .istore 4, .iconst 0, .istore 5, .goto_w 8] := rfl
theorem pg_185_8 : zpg 185 8 = [.iload 5, .aload 0, .invokeinterface 7 2, .if_icmp .ge 78, .aload 0, .getstatic 449, .iload 5, .iaload, .istore 6, .iload 1, .iload 6, .invokedynamic 149, .ifCond .eq 72, .aload 0, .iload 6, .iconst 1, .invokedynamic 142, .ifCond .ne 72, .aload 0, .iload 6, .iload 2, .invokedynamic 184, .iload 4, .if_icmp .gt 60, .goto 72] := rfl
theorem pg_185_60 : zpg 185 60 = [.iload 6, .istore 3, .aload 0, .iload 6, .iload 2, .invokedynamic 184, .istore 4, .iinc 5 1, .goto 8] := rfl
theorem pg_185_72 : zpg 185 72 = [.iinc 5 1, .goto 8] := rfl
theorem pg_185_78 : zpg 185 78 = [.iload 3, .ifCond .lt 84, .iload 3, .ireturn] := rfl
theorem pg_185_84 : zpg 185 84 = [.iconst 0, .istore 5, .goto_w 87] := rfl
theorem pg_185_87 : zpg 185 87 = [.iload 5, .aload 0, .invokeinterface 7 2, .if_icmp .ge 159, .aload 0, .getstatic 449, .iload 5, .iaload, .istore 6, .iload 1, .iload 6, .invokedynamic 149, .ifCond .eq 153, .aload 0, .iload 6, .iconst 1, .invokedynamic 142, .iconst 1, .if_icmp .ne 153, .iload 3, .ifCond .lt 150, .aload 0, .iload 6, .iconst 16, .invokedynamic 142, .aload 0, .iload 3, .iconst 16, .invokedynamic 142, .if_icmp .gt 150, .goto 153] := rfl
theorem pg_185_150 : zpg 185 150 = [.iload 6, .istore 3, .iinc 5 1, .goto 87] := rfl
theorem pg_185_153 : zpg 185 153 = [.iinc 5 1, .goto 87] := rfl
theorem pg_185_159 : zpg 185 159 = [.iload 3, .ireturn] := rfl
theorem pg_186_0 : zpg 186 0 = [.iconst 0, .istore 1, .goto_w 2] := rfl
theorem pg_186_2 : zpg 186 2 = [.iload 1, .iconst 2, .if_icmp .ge 39, .aload 0, .getstatic 451, .iload 1, .iconst 20, .invokedynamic 172, .iaload, .aload 0, .getstatic 448, .iconst 460, .iload 1, .iadd, .iaload, .if_icmp .le 33, .iload 1, .ireturn] := rfl
theorem pg_186_33 : zpg 186 33 = [.iinc 1 1, .goto 2] := rfl
theorem pg_186_39 : zpg 186 39 = [.iconst (-1), .ireturn] := rfl
theorem pg_187_0 : zpg 187 0 = [.iconst 0, .istore 1, .goto_w 2] := rfl
theorem pg_187_2 : zpg 187 2 = [.iload 1, .iconst 20, .if_icmp .ge 27, .aload 0, .iload 1, .invokedynamic 144, .ifCond .eq 21, .aload 0, .iload 1, .invokedynamic 163, .iinc 1 1, .goto 2] := rfl
theorem pg_187_21 : zpg 187 21 = [.iinc 1 1, .goto 2] := rfl
theorem pg_187_27 : zpg 187 27 = [.aload 0, .getstatic 448, .iconst 462, .iconst 0, .iastore, .aload 0, .invokedynamic 183, .istore 1, .aload 0, .iload 1, .invokedynamic 181, .aload 0, .invokedynamic 186, .istore 2, .goto_w 51] := rfl
theorem pg_187_51 : zpg 187 51 = [.iload 2, .ifCond .lt 115, .aload 0, .iload 1, .iload 2, .invokedynamic 185, .istore 3, .aload 0, .getstatic 448, .iconst 463, .aload 0, .getstatic 448, .iconst 462, .iaload, .iadd, .iload 3, .iastore, .aload 0, .getstatic 448, .iconst 462, .dup2, .iaload, .iconst 1, .iadd, .iastore, .iload 1, .aload 0, .iload 3, .invokedynamic 167, .iconst (-1), .ixor, .iand, .istore 1, .aload 0, .iload 1, .invokedynamic 181, .aload 0, .invokedynamic 186, .istore 2, .goto 51] := rfl
theorem pg_187_115 : zpg 187 115 = [.iconst 0, .istore 2, .goto_w 117] := rfl
theorem pg_187_117 : zpg 187 117 = [.iload 2, .iconst 20, .if_icmp .ge 160, .iload 1, .iload 2, .invokedynamic 149, .ifCond .eq 141, .aload 0, .iload 2, .iconst 4, .iconst 1, .invokedynamic 143, .goto 154] := rfl
theorem pg_187_141 : zpg 187 141 = [.aload 0, .iload 2, .invokedynamic 144, .ifCond .eq 154, .aload 0, .iload 2, .invokedynamic 163, .iinc 2 1, .goto 117] := rfl
theorem pg_187_154 : zpg 187 154 = [.iinc 2 1, .goto 117] := rfl
theorem pg_187_160 : zpg 187 160 = [.iconst 0, .istore 2, .goto_w 162] := rfl
theorem pg_187_162 : zpg 187 162 = [.iload 2, .iconst 4, .if_icmp .gt 209, .iconst 0, .istore 3, .goto_w 169] := rfl
theorem pg_187_169 : zpg 187 169 = [.iload 3, .iconst 20, .if_icmp .ge 203, .aload 0, .iload 3, .invokedynamic 147, .ifCond .eq 197, .aload 0, .iload 3, .invokedynamic 153, .iload 2, .if_icmp .ne 197, .aload 0, .iload 3, .invokedynamic 188, .iinc 3 1, .goto 169] := rfl
theorem pg_187_197 : zpg 187 197 = [.iinc 3 1, .goto 169] := rfl
theorem pg_187_203 : zpg 187 203 = [.iinc 2 1, .goto 162] := rfl
theorem pg_187_209 : zpg 187 209 = [.iload 1, .invokedynamic 150, .ireturn] := rfl
theorem pg_188_0 : zpg 188 0 = [.aload 0, .iload 1, .iconst 2, .invokedynamic 142, .istore 2, .iconst 0, .istore 3, .goto_w 9] := rfl
theorem pg_188_9 : zpg 188 9 = [.iload 3, .aload 0, .iload 1, .iconst 5, .invokedynamic 142, .if_icmp .ge 79, .aload 0, .iload 1, .iconst 6, .iload 3, .iadd, .invokedynamic 142, .istore 4, .aload 0, .iload 1, .iconst 12, .iload 3, .iadd, .iload 2, .ifCond .ge 44, .iconst 0, .goto 54] := rfl
theorem pg_188_44 : zpg 188 44 = [.aload 0, .iload 2, .iconst 19, .iload 4, .iadd, .invokedynamic 142, .aload 0, .getstatic 453, .iload 4, .iconst 3, .iload 1, .imul, .iload 3, .iadd, .invokedynamic 173, .iaload, .iadd, .invokedynamic 143, .iinc 3 1, .goto 9] := rfl
theorem pg_188_54 : zpg 188 54 = [.aload 0, .getstatic 453, .iload 4, .iconst 3, .iload 1, .imul, .iload 3, .iadd, .invokedynamic 173, .iaload, .iadd, .invokedynamic 143, .iinc 3 1, .goto 9] := rfl
theorem pg_188_79 : zpg 188 79 = [.iconst 0, .istore 3, .goto_w 81] := rfl
theorem pg_188_81 : zpg 188 81 = [.iload 3, .iconst 2, .if_icmp .ge 176, .aload 0, .iload 1, .iconst 1, .invokedynamic 142, .iconst 1, .if_icmp .ne 176, .iload 3, .iconst 60, .iload 1, .iadd, .invokedynamic 173, .istore 4, .aload 0, .iload 1, .iconst 21, .iload 3, .iadd, .aload 0, .getstatic 454, .iload 4, .iaload, .invokedynamic 143, .aload 0, .iload 1, .iconst 19, .iload 3, .iadd, .aload 0, .getstatic 454, .iload 4, .iaload, .ifCond .ne 142, .iconst (-1), .goto 167] := rfl
theorem pg_188_142 : zpg 188 142 = [.iload 2, .ifCond .ge 150, .iconst 0, .goto 159] := rfl
theorem pg_188_150 : zpg 188 150 = [.aload 0, .iload 2, .iconst 19, .iload 3, .iadd, .invokedynamic 142, .aload 0, .getstatic 453, .iload 4, .iaload, .iadd, .invokedynamic 143, .iinc 3 1, .goto 81] := rfl
theorem pg_188_159 : zpg 188 159 = [.aload 0, .getstatic 453, .iload 4, .iaload, .iadd, .invokedynamic 143, .iinc 3 1, .goto 81] := rfl
theorem pg_188_167 : zpg 188 167 = [.invokedynamic 143, .iinc 3 1, .goto 81] := rfl
theorem pg_188_176 : zpg 188 176 = [.return_] := rfl
theorem pg_189_0 : zpg 189 0 = [.aload 0, .invokedynamic 264, .aload 0, .invokedynamic 187, .ireturn] := rfl
theorem pg_190_0 : zpg 190 0 = [.iload 1, .iconst 0, .aload 0, .getstatic 448, .iconst 462, .iaload, .iconst 1, .isub, .invokedynamic 141, .ifCond .eq 31, .aload 0, .getstatic 448, .iconst 463, .iload 1, .iadd, .iaload, .goto 32] := rfl
theorem pg_190_31 : zpg 190 31 = [.iconst (-1), .ireturn] := rfl
theorem pg_190_32 : zpg 190 32 = [.ireturn] := rfl
theorem pg_191_0 : zpg 191 0 = [.iload 1, .iconst 20, .if_icmp .ne 10, .iconst 0, .goto 19] := rfl
theorem pg_191_10 : zpg 191 10 = [.aload 0, .iload 1, .iconst 19, .iload 2, .iadd, .invokedynamic 142, .ireturn] := rfl
theorem pg_191_19 : zpg 191 19 = [.ireturn] := rfl
theorem pg_192_0 : zpg 192 0 = [.iload 1, .iconst 20, .if_icmp .ne 19, .aload 0, .getstatic 448, .iconst 460, .iload 2, .iadd, .iaload, .goto 28] := rfl
theorem pg_192_19 : zpg 192 19 = [.aload 0, .iload 1, .iconst 21, .iload 2, .iadd, .invokedynamic 142, .ireturn] := rfl
theorem pg_192_28 : zpg 192 28 = [.ireturn] := rfl
theorem pg_193_0 : zpg 193 0 = [.iload 1, .iconst 20, .if_icmp .eq 24, .aload 0, .iload 1, .invokedynamic 147, .ifCond .eq 28, .aload 0, .iload 1, .iconst 1, .invokedynamic 142, .iconst 1, .if_icmp .ne 28, .iconst 1, .goto 29] := rfl
theorem pg_193_24 : zpg 193 24 = [.iconst 1, .goto 29] := rfl
theorem pg_193_28 : zpg 193 28 = [.iconst 0, .ireturn] := rfl
theorem pg_193_29 : zpg 193 29 = [.ireturn] := rfl
theorem pg_194_0 : zpg 194 0 = [.iload 1, .istore 4, .goto_w 3] := rfl
theorem pg_194_3 : zpg 194 3 = [.iload 4, .iload 1, .iload 2, .iadd, .if_icmp .ge 28, .aload 0, .getstatic 461, .iload 4, .dup2, .iaload, .iload 3, .iadd, .iastore, .iinc 4 1, .goto 3] := rfl
theorem pg_194_28 : zpg 194 28 = [.return_] := rfl
theorem pg_195_0 : zpg 195 0 = [.iconst 0, .istore 3, .goto_w 2] := rfl
theorem pg_195_2 : zpg 195 2 = [.iload 3, .iconst 1024, .if_icmp .ge 22, .aload 0, .getstatic 461, .iload 3, .iconst 0, .iastore, .iinc 3 1, .goto 2] := rfl
theorem pg_195_22 : zpg 195 22 = [.iconst 0, .istore 3, .goto_w 24] := rfl
theorem pg_195_24 : zpg 195 24 = [.iload 3, .iconst 20, .if_icmp .ge 150, .aload 0, .iload 3, .invokedynamic 147, .ifCond .eq 144, .aload 0, .iload 3, .invokedynamic 175, .iload 1, .if_icmp .eq 50, .goto 144] := rfl
theorem pg_195_50 : zpg 195 50 = [.iconst 0, .istore 4, .goto_w 53] := rfl
theorem pg_195_53 : zpg 195 53 = [.iload 4, .aload 0, .iload 3, .iconst 5, .invokedynamic 142, .if_icmp .ge 109, .aload 0, .iload 3, .iconst 6, .iload 4, .iadd, .invokedynamic 142, .iload 2, .if_icmp .ne 103, .aload 0, .aload 0, .iload 3, .iconst 12, .iload 4, .iadd, .invokedynamic 142, .aload 0, .iload 3, .iconst 9, .iload 4, .iadd, .invokedynamic 142, .iconst 1, .invokedynamic 194, .iinc 4 1, .goto 53] := rfl
theorem pg_195_103 : zpg 195 103 = [.iinc 4 1, .goto 53] := rfl
theorem pg_195_109 : zpg 195 109 = [.aload 0, .iload 3, .iconst 21, .iload 2, .iadd, .invokedynamic 142, .ifCond .le 144, .aload 0, .aload 0, .iload 3, .iconst 19, .iload 2, .iadd, .invokedynamic 142, .aload 0, .iload 3, .iconst 21, .iload 2, .iadd, .invokedynamic 142, .iconst 1, .invokedynamic 194, .iinc 3 1, .goto 24] := rfl
theorem pg_195_144 : zpg 195 144 = [.iinc 3 1, .goto 24] := rfl
theorem pg_195_150 : zpg 195 150 = [.return_] := rfl
theorem pg_196_0 : zpg 196 0 = [.iload 1, .istore 3, .goto_w 2] := rfl
theorem pg_196_2 : zpg 196 2 = [.iload 3, .iload 1, .iload 2, .iadd, .if_icmp .ge 26, .aload 0, .getstatic 461, .iload 3, .iaload, .ifCond .le 20, .iconst 0, .ireturn] := rfl
theorem pg_196_20 : zpg 196 20 = [.iinc 3 1, .goto 2] := rfl
theorem pg_196_26 : zpg 196 26 = [.iconst 1, .ireturn] := rfl
theorem pg_197_0 : zpg 197 0 = [.aload 0, .iload 1, .iload 2, .invokedynamic 192, .ifCond .ne 11, .iconst (-1), .ireturn] := rfl
theorem pg_197_11 : zpg 197 11 = [.aload 0, .iload 1, .iload 2, .invokedynamic 191, .aload 0, .iload 1, .iload 2, .invokedynamic 192, .iadd, .istore 5, .aload 0, .iload 1, .iload 2, .invokedynamic 191, .iload 4, .invokedynamic 178, .istore 6, .goto_w 39] := rfl
theorem pg_197_39 : zpg 197 39 = [.iload 6, .iload 3, .iadd, .iload 5, .if_icmp .gt 71, .aload 0, .iload 6, .iload 3, .invokedynamic 196, .ifCond .eq 61, .iload 6, .ireturn] := rfl
theorem pg_197_61 : zpg 197 61 = [.iload 6, .iload 4, .iadd, .istore 6, .goto 39] := rfl
theorem pg_197_71 : zpg 197 71 = [.iconst (-1), .ireturn] := rfl
theorem pg_198_0 : zpg 198 0 = [.iconst (-1), .istore 3, .iconst 0, .istore 4, .goto_w 5] := rfl
theorem pg_198_5 : zpg 198 5 = [.iload 4, .aload 0, .iload 1, .iconst 5, .invokedynamic 142, .if_icmp .ge 78, .aload 0, .iload 1, .iconst 6, .iload 4, .iadd, .invokedynamic 142, .iload 2, .if_icmp .ne 72, .aload 0, .getstatic 462, .iload 4, .iaload, .ifCond .lt 43, .goto 72] := rfl
theorem pg_198_43 : zpg 198 43 = [.iload 3, .ifCond .lt 69, .aload 0, .iload 1, .iconst 9, .iload 4, .iadd, .invokedynamic 142, .aload 0, .iload 1, .iconst 9, .iload 3, .iadd, .invokedynamic 142, .if_icmp .le 72, .iload 4, .istore 3, .iinc 4 1, .goto 5] := rfl
theorem pg_198_69 : zpg 198 69 = [.iload 4, .istore 3, .iinc 4 1, .goto 5] := rfl
theorem pg_198_72 : zpg 198 72 = [.iinc 4 1, .goto 5] := rfl
theorem pg_198_78 : zpg 198 78 = [.iload 3, .ireturn] := rfl
theorem pg_199_0 : zpg 199 0 = [.iconst 0, .istore 1, .goto_w 2] := rfl
theorem pg_199_2 : zpg 199 2 = [.iload 1, .iconst 3, .if_icmp .ge 20, .aload 0, .getstatic 462, .iload 1, .iconst (-1), .iastore, .iinc 1 1, .goto 2] := rfl
theorem pg_199_20 : zpg 199 20 = [.return_] := rfl
theorem pg_200_0 : zpg 200 0 = [.aload 0, .invokedynamic 199, .iconst 0, .istore 3, .goto_w 6] := rfl
theorem pg_200_6 : zpg 200 6 = [.iload 3, .iconst 2, .if_icmp .ge 114, .aload 0, .iload 2, .iload 3, .invokedynamic 195, .aload 0, .iload 1, .iload 3, .invokedynamic 198, .istore 4, .goto_w 25] := rfl
theorem pg_200_25 : zpg 200 25 = [.iload 4, .ifCond .lt 108, .aload 0, .getstatic 462, .iload 4, .aload 0, .iload 2, .iload 3, .aload 0, .iload 1, .iconst 9, .iload 4, .iadd, .invokedynamic 142, .aload 0, .iload 1, .iconst 9, .iload 4, .iadd, .invokedynamic 142, .invokedynamic 197, .iastore, .aload 0, .getstatic 462, .iload 4, .iaload, .ifCond .ge 75, .iconst 0, .ireturn] := rfl
theorem pg_200_75 : zpg 200 75 = [.aload 0, .aload 0, .getstatic 462, .iload 4, .iaload, .aload 0, .iload 1, .iconst 9, .iload 4, .iadd, .invokedynamic 142, .iconst 1, .invokedynamic 194, .aload 0, .iload 1, .iload 3, .invokedynamic 198, .istore 4, .goto 25] := rfl
theorem pg_200_108 : zpg 200 108 = [.iinc 3 1, .goto 6] := rfl
theorem pg_200_114 : zpg 200 114 = [.iconst 1, .ireturn] := rfl
theorem pg_201_0 : zpg 201 0 = [.iload 1, .iconst 20, .if_icmp .ne 10, .iconst 0, .goto 17] := rfl
theorem pg_201_10 : zpg 201 10 = [.aload 0, .iload 1, .iconst 17, .invokedynamic 142, .ireturn] := rfl
theorem pg_201_17 : zpg 201 17 = [.ireturn] := rfl
theorem pg_202_0 : zpg 202 0 = [.iload 1, .iconst 20, .if_icmp .ne 11, .iconst 31, .goto 18] := rfl
theorem pg_202_11 : zpg 202 11 = [.aload 0, .iload 1, .iconst 18, .invokedynamic 142, .ireturn] := rfl
theorem pg_202_18 : zpg 202 18 = [.ireturn] := rfl
theorem pg_203_0 : zpg 203 0 = [.iload 2, .aload 0, .iload 1, .invokedynamic 201, .iconst 1, .iadd, .aload 0, .iload 1, .invokedynamic 202, .invokedynamic 141, .ifCond .ne 21, .iconst 0, .ireturn] := rfl
theorem pg_203_21 : zpg 203 21 = [.iconst 0, .istore 3, .goto_w 23] := rfl
theorem pg_203_23 : zpg 203 23 = [.iload 3, .iconst 20, .if_icmp .ge 88, .aload 0, .iload 3, .invokedynamic 147, .ifCond .eq 82, .aload 0, .iload 3, .iconst 1, .invokedynamic 142, .iconst 1, .if_icmp .ne 82, .aload 0, .iload 3, .invokedynamic 175, .iload 1, .if_icmp .eq 59, .goto 82] := rfl
theorem pg_203_59 : zpg 203 59 = [.iload 2, .aload 0, .iload 3, .iconst 17, .invokedynamic 142, .aload 0, .iload 3, .iconst 18, .invokedynamic 142, .invokedynamic 141, .ifCond .eq 82, .iconst 0, .ireturn] := rfl
theorem pg_203_82 : zpg 203 82 = [.iinc 3 1, .goto 23] := rfl
theorem pg_203_88 : zpg 203 88 = [.iconst 1, .ireturn] := rfl
theorem pg_204_0 : zpg 204 0 = [.iconst 0, .istore 2, .goto_w 2] := rfl
theorem pg_204_2 : zpg 204 2 = [.iload 2, .iconst 31, .if_icmp .gt 25, .aload 0, .iload 1, .iload 2, .invokedynamic 203, .ifCond .eq 19, .iload 2, .ireturn] := rfl
theorem pg_204_19 : zpg 204 19 = [.iinc 2 1, .goto 2] := rfl
theorem pg_204_25 : zpg 204 25 = [.iconst (-1), .ireturn] := rfl
theorem pg_205_0 : zpg 205 0 = [.aload 0, .iload 1, .invokedynamic 144, .ifCond .eq 16, .aload 0, .iload 1, .invokedynamic 147, .ifCond .eq 18, .iconst (-1), .ireturn] := rfl
theorem pg_205_16 : zpg 205 16 = [.iconst (-1), .ireturn] := rfl
theorem pg_205_18 : zpg 205 18 = [.aload 0, .iload 1, .invokedynamic 175, .istore 2, .aload 0, .iload 2, .invokedynamic 193, .ifCond .ne 35, .iconst (-2), .ireturn] := rfl
theorem pg_205_35 : zpg 205 35 = [.aload 0, .iload 1, .iconst 1, .invokedynamic 142, .iconst 1, .if_icmp .ne 54, .aload 0, .iload 1, .iload 2, .invokedynamic 208, .goto 60] := rfl
theorem pg_205_54 : zpg 205 54 = [.aload 0, .iload 1, .iload 2, .invokedynamic 207, .ireturn] := rfl
theorem pg_205_60 : zpg 205 60 = [.ireturn] := rfl
theorem pg_206_0 : zpg 206 0 = [.aload 0, .iload 1, .iconst 4, .iconst 1, .invokedynamic 143, .iconst 0, .istore 2, .goto_w 9] := rfl
theorem pg_206_9 : zpg 206 9 = [.iload 2, .aload 0, .iload 1, .iconst 5, .invokedynamic 142, .if_icmp .ge 40, .aload 0, .iload 1, .iconst 12, .iload 2, .iadd, .aload 0, .getstatic 462, .iload 2, .iaload, .invokedynamic 143, .iinc 2 1, .goto 9] := rfl
theorem pg_206_40 : zpg 206 40 = [.return_] := rfl
theorem pg_207_0 : zpg 207 0 = [.aload 0, .iload 1, .iload 2, .invokedynamic 200, .ifCond .ne 12, .iconst (-4), .ireturn] := rfl
theorem pg_207_12 : zpg 207 12 = [.aload 0, .invokedynamic 264, .aload 0, .iload 1, .invokedynamic 206, .aload 0, .iload 1, .iconst 5, .invokedynamic 142, .ireturn] := rfl
theorem pg_208_0 : zpg 208 0 = [.aload 0, .iload 2, .invokedynamic 204, .istore 3, .iload 3, .ifCond .ge 13, .iconst (-3), .ireturn] := rfl
theorem pg_208_13 : zpg 208 13 = [.aload 0, .iload 1, .iconst 16, .invokedynamic 142, .iconst 16, .invokedynamic 178, .istore 4, .aload 0, .invokedynamic 199, .iconst 0, .istore 5, .goto_w 34] := rfl
theorem pg_208_34 : zpg 208 34 = [.iload 5, .iconst 2, .if_icmp .ge 89, .iload 4, .ifCond .le 89, .aload 0, .iload 2, .iload 5, .invokedynamic 195, .aload 0, .getstatic 462, .iload 5, .aload 0, .iload 2, .iload 5, .iload 4, .iconst 16, .invokedynamic 197, .iastore, .aload 0, .getstatic 462, .iload 5, .iaload, .ifCond .ge 83, .iconst (-4), .ireturn] := rfl
theorem pg_208_83 : zpg 208 83 = [.iinc 5 1, .goto 34] := rfl
theorem pg_208_89 : zpg 208 89 = [.iload 3, .istore 5, .goto_w 92] := rfl
theorem pg_208_92 : zpg 208 92 = [.iload 5, .iload 3, .aload 0, .iload 1, .iconst 15, .invokedynamic 142, .iadd, .if_icmp .ge 124, .aload 0, .iload 2, .iload 5, .iconst 1, .iadd, .invokedynamic 203, .ifCond .eq 124, .iinc 5 1, .goto 92] := rfl
theorem pg_208_124 : zpg 208 124 = [.aload 0, .invokedynamic 264, .aload 0, .iload 1, .iconst 4, .iconst 1, .invokedynamic 143, .aload 0, .iload 1, .iconst 17, .iload 3, .invokedynamic 143, .aload 0, .iload 1, .iconst 18, .iload 5, .invokedynamic 143, .iconst 0, .istore 6, .goto_w 155] := rfl
theorem pg_208_155 : zpg 208 155 = [.iload 6, .iconst 2, .if_icmp .ge 196, .aload 0, .iload 1, .iconst 19, .iload 6, .iadd, .aload 0, .getstatic 462, .iload 6, .iaload, .invokedynamic 143, .aload 0, .iload 1, .iconst 21, .iload 6, .iadd, .iload 4, .invokedynamic 143, .iinc 6 1, .goto 155] := rfl
theorem pg_208_196 : zpg 208 196 = [.iload 3, .ireturn] := rfl
theorem pg_209_0 : zpg 209 0 = [.aload 0, .iload 1, .invokedynamic 147, .ifCond .ne 10, .iconst (-1), .ireturn] := rfl
theorem pg_209_10 : zpg 209 10 = [.aload 0, .invokedynamic 264, .aload 0, .iload 1, .invokedynamic 167, .istore 2, .iconst 0, .istore 3, .iconst 0, .istore 4, .goto_w 25] := rfl
theorem pg_209_25 : zpg 209 25 = [.iload 4, .iconst 20, .if_icmp .ge 68, .iload 2, .iload 4, .invokedynamic 149, .ifCond .eq 62, .aload 0, .iload 4, .invokedynamic 147, .ifCond .ne 53, .goto 62] := rfl
theorem pg_209_53 : zpg 209 53 = [.aload 0, .iload 4, .invokedynamic 163, .iinc 3 1, .iinc 4 1, .goto 25] := rfl
theorem pg_209_62 : zpg 209 62 = [.iinc 4 1, .goto 25] := rfl
theorem pg_209_68 : zpg 209 68 = [.iload 3, .ireturn] := rfl
theorem pg_210_0 : zpg 210 0 = [.aload 0, .iconst 0, .multianewarray 7 18, .iconst 0, .istore 3, .goto_w 7] := rfl
theorem pg_210_7 : zpg 210 7 = [.iload 3, .iconst 8, .if_icmp .ge 119, .aload 0, .iload 1, .iconst 20, .if_icmp .ne 24, .iconst (-1), .goto 25] := rfl
theorem pg_210_24 : zpg 210 24 = [.iload 1, .iload 3, .invokedynamic 157, .istore 4, .iload 4, .ifCond .lt 113, .aload 0, .iload 4, .invokedynamic 147, .ifCond .ne 48, .goto 113] := rfl
theorem pg_210_25 : zpg 210 25 = [.iload 3, .invokedynamic 157, .istore 4, .iload 4, .ifCond .lt 113, .aload 0, .iload 4, .invokedynamic 147, .ifCond .ne 48, .goto 113] := rfl
theorem pg_210_48 : zpg 210 48 = [.iconst 0, .istore 5, .goto_w 51] := rfl
theorem pg_210_51 : zpg 210 51 = [.iload 5, .aload 0, .iload 4, .iconst 5, .invokedynamic 142, .if_icmp .ge 113, .aload 0, .iload 4, .iconst 6, .iload 5, .iadd, .invokedynamic 142, .iload 2, .if_icmp .eq 81, .goto 107] := rfl
theorem pg_210_81 : zpg 210 81 = [.aload 0, .getstatic 463, .aload 0, .invokeinterface 7 18, .iconst 3, .iload 4, .imul, .iload 5, .iadd, .iastore, .aload 0, .dup, .invokeinterface 7 18, .iconst 1, .iadd, .multianewarray 7 18, .iinc 5 1, .goto 51] := rfl
theorem pg_210_107 : zpg 210 107 = [.iinc 5 1, .goto 51] := rfl
theorem pg_210_113 : zpg 210 113 = [.iinc 3 1, .goto 7] := rfl
theorem pg_210_119 : zpg 210 119 = [.return_] := rfl
theorem pg_211_0 : zpg 211 0 = [.aload 0, .iload 1, .iconst 3, .idiv, .iconst 9, .iload 1, .iconst 3, .irem, .iadd, .invokedynamic 142, .ireturn] := rfl
theorem pg_212_0 : zpg 212 0 = [.aload 0, .iload 1, .iconst 3, .idiv, .iconst 12, .iload 1, .iconst 3, .irem, .iadd, .invokedynamic 142, .ireturn] := rfl
theorem pg_213_0 : zpg 213 0 = [.aload 0, .iload 1, .multianewarray 7 19, .iconst 0, .istore 2, .goto_w 7] := rfl
theorem pg_213_7 : zpg 213 7 = [.iload 2, .iload 1, .if_icmp .ge 25, .aload 0, .getstatic 464, .iload 2, .iload 2, .iastore, .iinc 2 1, .goto 7] := rfl
theorem pg_213_25 : zpg 213 25 = [.iload 1, .aload 0, .invokeinterface 7 18, .if_icmp .gt 37, .iconst 1, .goto 38] := rfl
theorem pg_213_37 : zpg 213 37 = [.iconst 0, .ireturn] := rfl
theorem pg_213_38 : zpg 213 38 = [.ireturn] := rfl
theorem pg_214_0 : zpg 214 0 = [.aload 0, .invokeinterface 7 19, .iconst 1, .isub, .istore 1, .goto_w 7] := rfl
theorem pg_214_7 : zpg 214 7 = [.iload 1, .ifCond .lt 37, .aload 0, .getstatic 464, .iload 1, .iaload, .aload 0, .invokeinterface 7 18, .aload 0, .invokeinterface 7 19, .isub, .iload 1, .iadd, .if_icmp .ne 37, .iinc 1 (-1), .goto 7] := rfl
theorem pg_214_37 : zpg 214 37 = [.iload 1, .ifCond .ge 43, .iconst 0, .ireturn] := rfl
theorem pg_214_43 : zpg 214 43 = [.aload 0, .getstatic 464, .iload 1, .dup2, .iaload, .iconst 1, .iadd, .iastore, .iload 1, .iconst 1, .iadd, .istore 2, .goto_w 57] := rfl
theorem pg_214_57 : zpg 214 57 = [.iload 2, .aload 0, .invokeinterface 7 19, .if_icmp .ge 87, .aload 0, .getstatic 464, .iload 2, .aload 0, .getstatic 464, .iload 2, .iconst 1, .isub, .iaload, .iconst 1, .iadd, .iastore, .iinc 2 1, .goto 57] := rfl
theorem pg_214_87 : zpg 214 87 = [.iconst 1, .ireturn] := rfl
theorem pg_215_0 : zpg 215 0 = [.iconst (-1), .istore 1, .iconst 0, .istore 2, .goto_w 4] := rfl
theorem pg_215_4 : zpg 215 4 = [.iload 2, .aload 0, .invokeinterface 7 19, .if_icmp .ge 69, .aload 0, .getstatic 465, .iload 2, .iaload, .ifCond .lt 24, .goto 63] := rfl
theorem pg_215_24 : zpg 215 24 = [.iload 1, .ifCond .lt 61, .aload 0, .aload 0, .getstatic 463, .aload 0, .getstatic 464, .iload 2, .iaload, .iaload, .invokedynamic 211, .aload 0, .aload 0, .getstatic 463, .aload 0, .getstatic 464, .iload 1, .iaload, .iaload, .invokedynamic 211, .if_icmp .le 63, .iload 2, .istore 1, .iinc 2 1, .goto 4] := rfl
theorem pg_215_61 : zpg 215 61 = [.iload 2, .istore 1, .iinc 2 1, .goto 4] := rfl
theorem pg_215_63 : zpg 215 63 = [.iinc 2 1, .goto 4] := rfl
theorem pg_215_69 : zpg 215 69 = [.iload 1, .ireturn] := rfl
theorem pg_216_0 : zpg 216 0 = [.aload 0, .iload 2, .iload 3, .invokedynamic 195, .iconst 0, .istore 4, .goto_w 9] := rfl
theorem pg_216_9 : zpg 216 9 = [.iload 4, .aload 0, .iload 1, .iconst 5, .invokedynamic 142, .if_icmp .ge 48, .aload 0, .iload 1, .iconst 6, .iload 4, .iadd, .invokedynamic 142, .iload 3, .if_icmp .ne 42, .aload 0, .getstatic 462, .iload 4, .iconst (-1), .iastore, .iinc 4 1, .goto 9] := rfl
theorem pg_216_42 : zpg 216 42 = [.iinc 4 1, .goto 9] := rfl
theorem pg_216_48 : zpg 216 48 = [.iconst 0, .istore 4, .goto_w 51] := rfl
theorem pg_216_51 : zpg 216 51 = [.iload 4, .aload 0, .invokeinterface 7 19, .if_icmp .ge 111, .aload 0, .getstatic 465, .iload 4, .iconst (-1), .iastore, .aload 0, .aload 0, .aload 0, .getstatic 463, .aload 0, .getstatic 464, .iload 4, .iaload, .iaload, .invokedynamic 212, .aload 0, .aload 0, .getstatic 463, .aload 0, .getstatic 464, .iload 4, .iaload, .iaload, .invokedynamic 211, .iconst (-1), .invokedynamic 194, .iinc 4 1, .goto 51] := rfl
theorem pg_216_111 : zpg 216 111 = [.aload 0, .iload 1, .iload 3, .invokedynamic 198, .istore 4, .aload 0, .invokedynamic 215, .istore 5, .goto_w 125] := rfl
theorem pg_216_125 : zpg 216 125 = [.iload 4, .ifCond .ge 135, .iload 5, .ifCond .lt 288, .iload 4, .ifCond .lt 178, .iload 5, .ifCond .lt 174, .aload 0, .iload 1, .iconst 9, .iload 4, .iadd, .invokedynamic 142, .aload 0, .aload 0, .getstatic 463, .aload 0, .getstatic 464, .iload 5, .iaload, .iaload, .invokedynamic 211, .if_icmp .lt 178, .iconst 1, .goto 179] := rfl
theorem pg_216_135 : zpg 216 135 = [.iload 4, .ifCond .lt 178, .iload 5, .ifCond .lt 174, .aload 0, .iload 1, .iconst 9, .iload 4, .iadd, .invokedynamic 142, .aload 0, .aload 0, .getstatic 463, .aload 0, .getstatic 464, .iload 5, .iaload, .iaload, .invokedynamic 211, .if_icmp .lt 178, .iconst 1, .goto 179] := rfl
theorem pg_216_174 : zpg 216 174 = [.iconst 1, .goto 179] := rfl
theorem pg_216_178 : zpg 216 178 = [.iconst 0, .istore 6, .iload 6, .ifCond .eq 199, .aload 0, .iload 1, .iconst 9, .iload 4, .iadd, .invokedynamic 142, .goto 215] := rfl
theorem pg_216_179 : zpg 216 179 = [.istore 6, .iload 6, .ifCond .eq 199, .aload 0, .iload 1, .iconst 9, .iload 4, .iadd, .invokedynamic 142, .goto 215] := rfl
theorem pg_216_199 : zpg 216 199 = [.aload 0, .aload 0, .getstatic 463, .aload 0, .getstatic 464, .iload 5, .iaload, .iaload, .invokedynamic 211, .istore 7, .aload 0, .iload 2, .iload 3, .iload 7, .iload 7, .invokedynamic 197, .istore 8, .iload 8, .ifCond .ge 236, .iconst 0, .ireturn] := rfl
theorem pg_216_215 : zpg 216 215 = [.istore 7, .aload 0, .iload 2, .iload 3, .iload 7, .iload 7, .invokedynamic 197, .istore 8, .iload 8, .ifCond .ge 236, .iconst 0, .ireturn] := rfl
theorem pg_216_236 : zpg 216 236 = [.aload 0, .iload 8, .iload 7, .iconst 1, .invokedynamic 194, .iload 6, .ifCond .eq 262, .aload 0, .getstatic 462, .iload 4, .iload 8, .iastore, .goto 271] := rfl
theorem pg_216_262 : zpg 216 262 = [.aload 0, .getstatic 465, .iload 5, .iload 8, .iastore, .aload 0, .iload 1, .iload 3, .invokedynamic 198, .istore 4, .aload 0, .invokedynamic 215, .istore 5, .goto 125] := rfl
theorem pg_216_271 : zpg 216 271 = [.aload 0, .iload 1, .iload 3, .invokedynamic 198, .istore 4, .aload 0, .invokedynamic 215, .istore 5, .goto 125] := rfl
theorem pg_216_288 : zpg 216 288 = [.iconst 1, .ireturn] := rfl
theorem pg_217_0 : zpg 217 0 = [.aload 0, .iload 1, .iload 2, .invokedynamic 184, .ifCond .le 13, .iconst 1, .goto 14] := rfl
theorem pg_217_13 : zpg 217 13 = [.iconst 0, .ireturn] := rfl
theorem pg_217_14 : zpg 217 14 = [.ireturn] := rfl
theorem pg_218_0 : zpg 218 0 = [.aload 0, .iload 2, .iload 3, .invokedynamic 210, .iconst 0, .istore 4, .goto_w 9] := rfl
theorem pg_218_9 : zpg 218 9 = [.iload 4, .iconst 3, .if_icmp .gt 55, .aload 0, .iload 4, .invokedynamic 213, .istore 5, .goto_w 23] := rfl
theorem pg_218_23 : zpg 218 23 = [.iload 5, .ifCond .eq 49, .aload 0, .iload 1, .iload 2, .iload 3, .invokedynamic 216, .ifCond .eq 40, .iconst 1, .ireturn] := rfl
theorem pg_218_40 : zpg 218 40 = [.aload 0, .invokedynamic 214, .istore 5, .goto 23] := rfl
theorem pg_218_49 : zpg 218 49 = [.iinc 4 1, .goto 9] := rfl
theorem pg_218_55 : zpg 218 55 = [.iconst 0, .ireturn] := rfl
theorem pg_219_0 : zpg 219 0 = [.iconst 0, .istore 1, .iconst 0, .istore 2, .goto_w 4] := rfl
theorem pg_219_4 : zpg 219 4 = [.iload 2, .aload 0, .invokeinterface 7 19, .if_icmp .ge 50, .iload 1, .aload 0, .getstatic 465, .iload 2, .iaload, .aload 0, .aload 0, .getstatic 463, .aload 0, .getstatic 464, .iload 2, .iaload, .iaload, .invokedynamic 212, .if_icmp .eq 41, .iconst 1, .goto 42] := rfl
theorem pg_219_41 : zpg 219 41 = [.iconst 0, .iadd, .istore 1, .iinc 2 1, .goto 4] := rfl
theorem pg_219_42 : zpg 219 42 = [.iadd, .istore 1, .iinc 2 1, .goto 4] := rfl
theorem pg_219_50 : zpg 219 50 = [.iload 1, .ireturn] := rfl
theorem pg_220_0 : zpg 220 0 = [.aload 0, .iload 1, .invokedynamic 145, .ifCond .eq 16, .aload 0, .iload 1, .invokedynamic 147, .ifCond .eq 18, .iconst (-1), .ireturn] := rfl
theorem pg_220_16 : zpg 220 16 = [.iconst (-1), .ireturn] := rfl
theorem pg_220_18 : zpg 220 18 = [.aload 0, .iload 1, .invokedynamic 175, .istore 2, .aload 0, .iload 2, .invokedynamic 193, .ifCond .ne 35, .iconst (-2), .ireturn] := rfl
theorem pg_220_35 : zpg 220 35 = [.aload 0, .invokedynamic 199, .aload 0, .iconst 0, .multianewarray 7 22, .iconst 0, .istore 3, .iconst 0, .istore 4, .goto_w 49] := rfl
theorem pg_220_49 : zpg 220 49 = [.iload 4, .iconst 2, .if_icmp .ge 160, .aload 0, .iload 1, .iload 4, .invokedynamic 217, .ifCond .ne 68, .goto 154] := rfl
theorem pg_220_68 : zpg 220 68 = [.aload 0, .iload 1, .iload 2, .iload 4, .invokedynamic 218, .ifCond .ne 82, .iconst (-4), .ireturn] := rfl
theorem pg_220_82 : zpg 220 82 = [.iload 3, .aload 0, .invokedynamic 219, .iadd, .istore 3, .iconst 0, .istore 5, .goto_w 92] := rfl
theorem pg_220_92 : zpg 220 92 = [.iload 5, .aload 0, .invokeinterface 7 19, .if_icmp .ge 154, .aload 0, .getstatic 468, .aload 0, .invokeinterface 7 22, .aload 0, .getstatic 463, .aload 0, .getstatic 464, .iload 5, .iaload, .iaload, .iastore, .aload 0, .getstatic 469, .aload 0, .invokeinterface 7 22, .aload 0, .getstatic 465, .iload 5, .iaload, .iastore, .aload 0, .dup, .invokeinterface 7 22, .iconst 1, .iadd, .multianewarray 7 22, .iinc 5 1, .goto 92] := rfl
theorem pg_220_154 : zpg 220 154 = [.iinc 4 1, .goto 49] := rfl
theorem pg_220_160 : zpg 220 160 = [.iload 3, .ireturn] := rfl
theorem pg_221_0 : zpg 221 0 = [.aload 0, .iload 1, .invokedynamic 220, .ireturn] := rfl
theorem pg_222_0 : zpg 222 0 = [.aload 0, .iload 1, .invokedynamic 220, .istore 2, .iload 2, .ifCond .ge 12, .iload 2, .ireturn] := rfl
theorem pg_222_12 : zpg 222 12 = [.aload 0, .invokedynamic 264, .iconst 0, .istore 3, .goto_w 18] := rfl
theorem pg_222_18 : zpg 222 18 = [.iload 3, .aload 0, .invokeinterface 7 22, .if_icmp .ge 61, .aload 0, .aload 0, .getstatic 468, .iload 3, .iaload, .iconst 3, .idiv, .iconst 12, .aload 0, .getstatic 468, .iload 3, .iaload, .iconst 3, .irem, .iadd, .aload 0, .getstatic 469, .iload 3, .iaload, .invokedynamic 143, .iinc 3 1, .goto 18] := rfl
theorem pg_222_61 : zpg 222 61 = [.aload 0, .iload 1, .invokedynamic 206, .iload 2, .ireturn] := rfl
theorem pg_223_0 : zpg 223 0 = [.aload 0, .iload 1, .invokedynamic 144, .ifCond .ne 11, .iconst (-2), .ireturn] := rfl
theorem pg_223_11 : zpg 223 11 = [.iload 2, .tableswitch 107 0 6 #[56, 63, 70, 77, 84, 91, 99]] := rfl
theorem pg_223_56 : zpg 223 56 = [.aload 0, .iload 1, .iconst 1, .invokedynamic 142, .ireturn] := rfl
theorem pg_223_63 : zpg 223 63 = [.aload 0, .iload 1, .iconst 2, .invokedynamic 142, .ireturn] := rfl
theorem pg_223_70 : zpg 223 70 = [.aload 0, .iload 1, .iconst 3, .invokedynamic 142, .ireturn] := rfl
theorem pg_223_77 : zpg 223 77 = [.aload 0, .iload 1, .iconst 4, .invokedynamic 142, .ireturn] := rfl
theorem pg_223_84 : zpg 223 84 = [.aload 0, .iload 1, .iconst 5, .invokedynamic 142, .ireturn] := rfl
theorem pg_223_91 : zpg 223 91 = [.aload 0, .iload 1, .iconst 15, .invokedynamic 142, .ireturn] := rfl
theorem pg_223_99 : zpg 223 99 = [.aload 0, .iload 1, .iconst 16, .invokedynamic 142, .ireturn] := rfl
theorem pg_223_107 : zpg 223 107 = [.iconst (-2), .ireturn] := rfl
theorem pg_224_0 : zpg 224 0 = [.aload 0, .iload 1, .invokedynamic 144, .ifCond .eq 24, .iload 2, .iconst 0, .aload 0, .iload 1, .iconst 5, .invokedynamic 142, .iconst 1, .isub, .invokedynamic 141, .ifCond .ne 27, .iconst (-2), .ireturn] := rfl
theorem pg_224_24 : zpg 224 24 = [.iconst (-2), .ireturn] := rfl
theorem pg_224_27 : zpg 224 27 = [.iload 3, .tableswitch 86 0 2 #[56, 66, 76]] := rfl
theorem pg_224_56 : zpg 224 56 = [.aload 0, .iload 1, .iconst 6, .iload 2, .iadd, .invokedynamic 142, .ireturn] := rfl
theorem pg_224_66 : zpg 224 66 = [.aload 0, .iload 1, .iconst 9, .iload 2, .iadd, .invokedynamic 142, .ireturn] := rfl
theorem pg_224_76 : zpg 224 76 = [.aload 0, .iload 1, .iconst 12, .iload 2, .iadd, .invokedynamic 142, .ireturn] := rfl
theorem pg_224_86 : zpg 224 86 = [.iconst (-2), .ireturn] := rfl
theorem pg_225_0 : zpg 225 0 = [.aload 0, .iload 1, .invokedynamic 146, .ifCond .eq 16, .aload 0, .iload 1, .invokedynamic 147, .ifCond .ne 19, .iconst (-2), .ireturn] := rfl
theorem pg_225_16 : zpg 225 16 = [.iconst (-2), .ireturn] := rfl
theorem pg_225_19 : zpg 225 19 = [.iload 2, .tableswitch 108 0 5 #[60, 68, 76, 84, 92, 100]] := rfl
theorem pg_225_60 : zpg 225 60 = [.aload 0, .iload 1, .iconst 17, .invokedynamic 142, .ireturn] := rfl
theorem pg_225_68 : zpg 225 68 = [.aload 0, .iload 1, .iconst 18, .invokedynamic 142, .ireturn] := rfl
theorem pg_225_76 : zpg 225 76 = [.aload 0, .iload 1, .iconst 19, .invokedynamic 142, .ireturn] := rfl
theorem pg_225_84 : zpg 225 84 = [.aload 0, .iload 1, .iconst 21, .invokedynamic 142, .ireturn] := rfl
theorem pg_225_92 : zpg 225 92 = [.aload 0, .iload 1, .iconst 20, .invokedynamic 142, .ireturn] := rfl
theorem pg_225_100 : zpg 225 100 = [.aload 0, .iload 1, .iconst 22, .invokedynamic 142, .ireturn] := rfl
theorem pg_225_108 : zpg 225 108 = [.iconst (-2), .ireturn] := rfl
theorem pg_226_0 : zpg 226 0 = [.aload 0, .iload 1, .invokedynamic 144, .ifCond .eq 32, .aload 0, .aload 0, .iload 1, .invokedynamic 175, .invokedynamic 193, .ifCond .eq 32, .aload 0, .aload 0, .iload 1, .invokedynamic 175, .invokedynamic 201, .goto 33] := rfl
theorem pg_226_32 : zpg 226 32 = [.iconst (-1), .ireturn] := rfl
theorem pg_226_33 : zpg 226 33 = [.ireturn] := rfl
theorem pg_227_0 : zpg 227 0 = [.iload 2, .iconst 0, .iconst 7, .invokedynamic 141, .ifCond .ne 12, .iconst (-1), .ireturn] := rfl
theorem pg_227_12 : zpg 227 12 = [.iload 1, .ifCond .ne 23, .aload 0, .iconst (-1), .iload 2, .invokedynamic 157, .ireturn] := rfl
theorem pg_227_23 : zpg 227 23 = [.iconst 0, .istore 3, .goto_w 25] := rfl
theorem pg_227_25 : zpg 227 25 = [.iload 3, .iconst 20, .if_icmp .ge 71, .aload 0, .iload 3, .invokedynamic 146, .ifCond .eq 65, .aload 0, .iload 3, .invokedynamic 147, .ifCond .eq 65, .aload 0, .iload 3, .iconst 17, .invokedynamic 142, .iload 1, .if_icmp .ne 65, .aload 0, .iload 3, .iload 2, .invokedynamic 157, .ireturn] := rfl
theorem pg_227_65 : zpg 227 65 = [.iinc 3 1, .goto 25] := rfl
theorem pg_227_71 : zpg 227 71 = [.iconst (-1), .ireturn] := rfl
theorem pg_228_0 : zpg 228 0 = [.aload 0, .invokedynamic 156, .iload 1, .iconst 0, .aload 0, .invokeinterface 7 2, .iconst 1, .isub, .invokedynamic 141, .ifCond .eq 27, .aload 0, .getstatic 449, .iload 1, .iaload, .goto 28] := rfl
theorem pg_228_27 : zpg 228 27 = [.iconst (-1), .ireturn] := rfl
theorem pg_228_28 : zpg 228 28 = [.ireturn] := rfl
theorem pg_229_0 : zpg 229 0 = [.iload 1, .ifCond .le 20, .iload 2, .iload 0, .if_icmp .lt 20, .iload 2, .iload 0, .isub, .iload 1, .if_icmp .ge 20, .iconst 1, .goto 21] := rfl
theorem pg_229_20 : zpg 229 20 = [.iconst 0, .ireturn] := rfl
theorem pg_229_21 : zpg 229 21 = [.ireturn] := rfl
theorem pg_230_0 : zpg 230 0 = [.iconst 0, .istore 4, .goto_w 3] := rfl
theorem pg_230_3 : zpg 230 3 = [.iload 4, .iconst 20, .if_icmp .ge 106, .aload 0, .iload 4, .invokedynamic 147, .ifCond .eq 100, .aload 0, .iload 4, .invokedynamic 175, .iload 1, .if_icmp .eq 32, .goto 100] := rfl
theorem pg_230_32 : zpg 230 32 = [.iconst 0, .istore 5, .goto_w 35] := rfl
theorem pg_230_35 : zpg 230 35 = [.iload 5, .aload 0, .iload 4, .iconst 5, .invokedynamic 142, .if_icmp .ge 100, .aload 0, .iload 4, .iconst 6, .iload 5, .iadd, .invokedynamic 142, .iload 2, .if_icmp .ne 94, .aload 0, .iload 4, .iconst 12, .iload 5, .iadd, .invokedynamic 142, .aload 0, .iload 4, .iconst 9, .iload 5, .iadd, .invokedynamic 142, .iload 3, .invokedynamic 229, .ifCond .eq 94, .iload 4, .ireturn] := rfl
theorem pg_230_94 : zpg 230 94 = [.iinc 5 1, .goto 35] := rfl
theorem pg_230_100 : zpg 230 100 = [.iinc 4 1, .goto 3] := rfl
theorem pg_230_106 : zpg 230 106 = [.iconst (-1), .ireturn] := rfl
theorem pg_231_0 : zpg 231 0 = [.iconst 0, .istore 4, .goto_w 3] := rfl
theorem pg_231_3 : zpg 231 3 = [.iload 4, .iconst 20, .if_icmp .ge 65, .aload 0, .iload 4, .invokedynamic 147, .ifCond .eq 59, .aload 0, .iload 4, .invokedynamic 175, .iload 1, .if_icmp .ne 59, .aload 0, .iload 4, .iconst 19, .iload 2, .iadd, .invokedynamic 142, .aload 0, .iload 4, .iconst 21, .iload 2, .iadd, .invokedynamic 142, .iload 3, .invokedynamic 229, .ifCond .eq 59, .iload 4, .ireturn] := rfl
theorem pg_231_59 : zpg 231 59 = [.iinc 4 1, .goto 3] := rfl
theorem pg_231_65 : zpg 231 65 = [.iconst (-1), .ireturn] := rfl
theorem pg_232_0 : zpg 232 0 = [.aload 0, .iconst 0, .multianewarray 7 23, .aload 0, .aload 0, .iconst 20, .iload 1, .iload 2, .invokedynamic 230, .multianewarray 7 24, .aload 0, .iconst 20, .iload 1, .iload 2, .invokedynamic 231, .istore 3, .goto_w 26] := rfl
theorem pg_232_26 : zpg 232 26 = [.aload 0, .invokeinterface 7 24, .ifCond .ge 69, .iload 3, .ifCond .lt 69, .aload 0, .dup, .invokeinterface 7 23, .iconst 1, .iadd, .multianewarray 7 23, .aload 0, .aload 0, .iload 3, .iload 1, .iload 2, .invokedynamic 230, .multianewarray 7 24, .aload 0, .iload 3, .iload 1, .iload 2, .invokedynamic 231, .istore 3, .goto 26] := rfl
theorem pg_232_69 : zpg 232 69 = [.return_] := rfl
theorem pg_233_0 : zpg 233 0 = [.iload 1, .invokedynamic 148, .ifCond .ne 9, .iconst (-1), .ireturn] := rfl
theorem pg_233_9 : zpg 233 9 = [.aload 0, .iload 1, .iload 2, .invokedynamic 232, .aload 0, .invokeinterface 7 24, .ireturn] := rfl
theorem pg_234_0 : zpg 234 0 = [.iload 1, .invokedynamic 148, .ifCond .ne 9, .iconst (-1), .ireturn] := rfl
theorem pg_234_9 : zpg 234 9 = [.aload 0, .iload 1, .iload 2, .invokedynamic 232, .aload 0, .invokeinterface 7 23, .ifCond .ne 33, .aload 0, .invokeinterface 7 24, .ifCond .ge 33, .iconst (-1), .goto 37] := rfl
theorem pg_234_33 : zpg 234 33 = [.aload 0, .invokeinterface 7 23, .ireturn] := rfl
theorem pg_234_37 : zpg 234 37 = [.ireturn] := rfl
theorem pg_235_0 : zpg 235 0 = [.aload 0, .iload 1, .invokedynamic 144, .ifCond .eq 17, .iload 2, .iconst 0, .iconst 3, .invokedynamic 141, .ifCond .ne 19, .iconst (-1), .ireturn] := rfl
theorem pg_235_17 : zpg 235 17 = [.iconst (-1), .ireturn] := rfl
theorem pg_235_19 : zpg 235 19 = [.iload 2, .istore 3, .iload 1, .istore 4, .goto_w 24] := rfl
theorem pg_235_24 : zpg 235 24 = [.iload 4, .ifCond .lt 51, .iload 3, .aload 0, .iload 4, .iconst 3, .invokedynamic 142, .iadd, .istore 3, .aload 0, .iload 4, .iconst 2, .invokedynamic 142, .istore 4, .goto 24] := rfl
theorem pg_235_51 : zpg 235 51 = [.iload 3, .iconst 4, .irem, .ireturn] := rfl
theorem pg_236_0 : zpg 236 0 = [.aload 0, .iload 1, .invokedynamic 144, .ifCond .eq 16, .aload 0, .iload 2, .invokedynamic 144, .ifCond .ne 18, .iconst (-1), .ireturn] := rfl
theorem pg_236_16 : zpg 236 16 = [.iconst (-1), .ireturn] := rfl
theorem pg_236_18 : zpg 236 18 = [.aload 0, .iload 1, .invokedynamic 154, .aload 0, .iload 2, .invokedynamic 154, .ixor, .iconst 1, .iload 1, .ishl, .iconst (-1), .ixor, .iand, .iconst 1, .iload 2, .ishl, .iconst (-1), .ixor, .iand, .invokedynamic 150, .ireturn] := rfl
theorem pg_237_0 : zpg 237 0 = [.aload 0, .iload 1, .invokedynamic 144, .ifCond .eq 16, .aload 0, .iload 2, .invokedynamic 144, .ifCond .ne 19, .iconst (-2), .ireturn] := rfl
theorem pg_237_16 : zpg 237 16 = [.iconst (-2), .ireturn] := rfl
theorem pg_237_19 : zpg 237 19 = [.aload 0, .iload 1, .invokedynamic 154, .aload 0, .iload 2, .invokedynamic 154, .iand, .istore 3, .iconst (-1), .istore 4, .aload 0, .iload 1, .iconst 2, .invokedynamic 142, .istore 5, .goto_w 42] := rfl
theorem pg_237_42 : zpg 237 42 = [.iload 5, .ifCond .lt 77, .iload 4, .ifCond .ge 77, .iload 3, .iload 5, .invokedynamic 149, .ifCond .eq 65, .iload 5, .istore 4, .aload 0, .iload 5, .iconst 2, .invokedynamic 142, .istore 5, .goto 42] := rfl
theorem pg_237_65 : zpg 237 65 = [.aload 0, .iload 5, .iconst 2, .invokedynamic 142, .istore 5, .goto 42] := rfl
theorem pg_237_77 : zpg 237 77 = [.iload 4, .ireturn] := rfl
theorem pg_238_0 : zpg 238 0 = [.iload 1, .istore 4, .iconst 0, .istore 5, .aload 0, .iconst 0, .multianewarray 7 25, .aload 0, .iload 1, .multianewarray 7 26, .iconst 0, .istore 6, .goto_w 19] := rfl
theorem pg_238_19 : zpg 238 19 = [.iload 6, .iconst 40, .if_icmp .ge 181, .aload 0, .iload 4, .iload 2, .iload 3, .invokedynamic 230, .istore 7, .iload 7, .ifCond .lt 44, .iload 7, .ireturn] := rfl
theorem pg_238_44 : zpg 238 44 = [.aload 0, .iload 4, .iload 2, .iload 3, .invokedynamic 231, .istore 8, .iload 8, .ifCond .ge 102, .iload 5, .ifCond .ne 102, .iload 4, .iconst 20, .if_icmp .eq 102, .aload 0, .iload 4, .iconst 19, .iload 2, .iadd, .invokedynamic 142, .aload 0, .iload 4, .iconst 21, .iload 2, .iadd, .invokedynamic 142, .iload 3, .invokedynamic 229, .ifCond .ne 102, .iconst 1, .goto 103] := rfl
theorem pg_238_102 : zpg 238 102 = [.iconst 0, .istore 9, .iload 8, .ifCond .ge 117, .iload 9, .ifCond .ne 117, .iconst (-1), .ireturn] := rfl
theorem pg_238_103 : zpg 238 103 = [.istore 9, .iload 8, .ifCond .ge 117, .iload 9, .ifCond .ne 117, .iconst (-1), .ireturn] := rfl
theorem pg_238_117 : zpg 238 117 = [.iload 8, .ifCond .lt 126, .iconst 1, .goto 127] := rfl
theorem pg_238_126 : zpg 238 126 = [.iconst 0, .istore 5, .iload 5, .ifCond .eq 139, .iload 8, .goto 145] := rfl
theorem pg_238_127 : zpg 238 127 = [.istore 5, .iload 5, .ifCond .eq 139, .iload 8, .goto 145] := rfl
theorem pg_238_139 : zpg 238 139 = [.aload 0, .iload 4, .invokedynamic 175, .istore 4, .aload 0, .iload 9, .ifCond .eq 158, .iload 4, .goto 162] := rfl
theorem pg_238_145 : zpg 238 145 = [.istore 4, .aload 0, .iload 9, .ifCond .eq 158, .iload 4, .goto 162] := rfl
theorem pg_238_158 : zpg 238 158 = [.aload 0, .invokeinterface 7 26, .multianewarray 7 26, .aload 0, .dup, .invokeinterface 7 25, .iconst 1, .iadd, .multianewarray 7 25, .iinc 6 1, .goto 19] := rfl
theorem pg_238_162 : zpg 238 162 = [.multianewarray 7 26, .aload 0, .dup, .invokeinterface 7 25, .iconst 1, .iadd, .multianewarray 7 25, .iinc 6 1, .goto 19] := rfl
theorem pg_238_181 : zpg 238 181 = [.iconst (-1), .ireturn] := rfl
theorem pg_239_0 : zpg 239 0 = [.aload 0, .iload 1, .invokedynamic 144, .ifCond .eq 37, .aload 0, .aload 0, .iload 1, .invokedynamic 175, .invokedynamic 193, .ifCond .eq 37, .iload 2, .invokedynamic 148, .ifCond .eq 37, .iload 4, .iconst 0, .iconst 2, .invokedynamic 141, .ifCond .ne 40, .iconst (-2), .ireturn] := rfl
theorem pg_239_37 : zpg 239 37 = [.iconst (-2), .ireturn] := rfl
theorem pg_239_40 : zpg 239 40 = [.aload 0, .aload 0, .iload 1, .invokedynamic 175, .iload 2, .iload 3, .invokedynamic 238, .istore 5, .iload 4, .ifCond .ne 63, .iload 5, .goto 84] := rfl
theorem pg_239_63 : zpg 239 63 = [.iload 4, .iconst 1, .if_icmp .ne 76, .aload 0, .invokeinterface 7 25, .goto 84] := rfl
theorem pg_239_76 : zpg 239 76 = [.aload 0, .aload 0, .invokeinterface 7 26, .invokedynamic 201, .ireturn] := rfl
theorem pg_239_84 : zpg 239 84 = [.ireturn] := rfl
theorem pg_240_0 : zpg 240 0 = [.iload 1, .iconst (-1), .if_icmp .eq 13, .aload 0, .iload 1, .invokedynamic 146, .ifCond .eq 17, .iconst 1, .goto 18] := rfl
theorem pg_240_13 : zpg 240 13 = [.iconst 1, .goto 18] := rfl
theorem pg_240_17 : zpg 240 17 = [.iconst 0, .ireturn] := rfl
theorem pg_240_18 : zpg 240 18 = [.ireturn] := rfl
theorem pg_241_0 : zpg 241 0 = [.iload 0, .iconst (-1), .if_icmp .ne 10, .iconst 20, .goto 11] := rfl
theorem pg_241_10 : zpg 241 10 = [.iload 0, .ireturn] := rfl
theorem pg_241_11 : zpg 241 11 = [.ireturn] := rfl
theorem pg_242_0 : zpg 242 0 = [.aload 0, .iload 1, .invokedynamic 240, .ifCond .eq 15, .iload 2, .invokedynamic 148, .ifCond .ne 18, .iconst (-2), .ireturn] := rfl
theorem pg_242_15 : zpg 242 15 = [.iconst (-2), .ireturn] := rfl
theorem pg_242_18 : zpg 242 18 = [.aload 0, .aload 0, .invokedynamic 151, .invokedynamic 181, .aload 0, .getstatic 451, .iload 2, .iload 1, .invokedynamic 241, .invokedynamic 172, .iaload, .ireturn] := rfl
theorem pg_243_0 : zpg 243 0 = [.aload 0, .iload 1, .invokedynamic 240, .ifCond .eq 15, .iload 2, .invokedynamic 148, .ifCond .ne 18, .iconst (-2), .ireturn] := rfl
theorem pg_243_15 : zpg 243 15 = [.iconst (-2), .ireturn] := rfl
theorem pg_243_18 : zpg 243 18 = [.aload 0, .aload 0, .invokedynamic 151, .invokedynamic 181, .aload 0, .getstatic 452, .iload 2, .iload 1, .invokedynamic 241, .invokedynamic 172, .iaload, .ireturn] := rfl
theorem pg_244_0 : zpg 244 0 = [.aload 0, .iload 1, .invokedynamic 240, .ifCond .eq 30, .iload 2, .invokedynamic 148, .ifCond .eq 30, .aload 0, .iload 1, .invokedynamic 241, .invokedynamic 193, .ifCond .eq 30, .iconst 1, .goto 31] := rfl
theorem pg_244_30 : zpg 244 30 = [.iconst 0, .ireturn] := rfl
theorem pg_244_31 : zpg 244 31 = [.ireturn] := rfl
theorem pg_245_0 : zpg 245 0 = [.aload 0, .iload 1, .iload 2, .invokedynamic 244, .ifCond .ne 12, .iconst (-2), .ireturn] := rfl
theorem pg_245_12 : zpg 245 12 = [.iload 1, .invokedynamic 241, .istore 3, .aload 0, .iload 3, .iload 2, .invokedynamic 195, .iconst 0, .istore 4, .iconst 0, .istore 5, .goto_w 29] := rfl
theorem pg_245_29 : zpg 245 29 = [.iload 5, .aload 0, .iload 3, .iload 2, .invokedynamic 192, .if_icmp .ge 73, .iload 4, .aload 0, .getstatic 461, .aload 0, .iload 3, .iload 2, .invokedynamic 191, .iload 5, .iadd, .iaload, .ifCond .ne 63, .iconst 1, .goto 64] := rfl
theorem pg_245_63 : zpg 245 63 = [.iconst 0, .iadd, .istore 4, .iinc 5 1, .goto 29] := rfl
theorem pg_245_64 : zpg 245 64 = [.iadd, .istore 4, .iinc 5 1, .goto 29] := rfl
theorem pg_245_73 : zpg 245 73 = [.iload 4, .ireturn] := rfl
theorem pg_246_0 : zpg 246 0 = [.aload 0, .iload 1, .iload 2, .invokedynamic 244, .ifCond .ne 12, .iconst (-2), .ireturn] := rfl
theorem pg_246_12 : zpg 246 12 = [.aload 0, .iload 1, .invokedynamic 241, .iload 2, .invokedynamic 195, .iconst 8, .istore 3, .goto_w 24] := rfl
theorem pg_246_24 : zpg 246 24 = [.iload 3, .ifCond .lt 52, .aload 0, .iload 1, .invokedynamic 241, .iload 2, .iconst 1, .iload 3, .ishl, .iconst 1, .iload 3, .ishl, .invokedynamic 197, .ifCond .ge 52, .iinc 3 (-1), .goto 24] := rfl
theorem pg_246_52 : zpg 246 52 = [.iload 3, .ireturn] := rfl
theorem pg_247_0 : zpg 247 0 = [.aload 0, .iload 1, .iload 2, .invokedynamic 244, .ifCond .eq 19, .iload 3, .iconst 0, .iconst 8, .invokedynamic 141, .ifCond .ne 22, .iconst (-2), .ireturn] := rfl
theorem pg_247_19 : zpg 247 19 = [.iconst (-2), .ireturn] := rfl
theorem pg_247_22 : zpg 247 22 = [.iload 1, .invokedynamic 241, .istore 4, .iconst 1, .iload 3, .ishl, .istore 5, .aload 0, .iload 4, .iload 2, .invokedynamic 195, .iconst 0, .istore 6, .aload 0, .iload 4, .iload 2, .iload 5, .iload 5, .invokedynamic 197, .istore 7, .goto_w 56] := rfl
theorem pg_247_56 : zpg 247 56 = [.iload 7, .ifCond .lt 89, .aload 0, .iload 7, .iload 5, .iconst 1, .invokedynamic 194, .iinc 6 1, .aload 0, .iload 4, .iload 2, .iload 5, .iload 5, .invokedynamic 197, .istore 7, .goto 56] := rfl
theorem pg_247_89 : zpg 247 89 = [.iload 6, .ireturn] := rfl
theorem pg_248_0 : zpg 248 0 = [.aload 0, .iload 1, .iconst 0, .invokedynamic 244, .ifCond .ne 12, .iconst (-2), .ireturn] := rfl
theorem pg_248_12 : zpg 248 12 = [.iconst 0, .istore 2, .iconst 0, .istore 3, .goto_w 16] := rfl
theorem pg_248_16 : zpg 248 16 = [.iload 3, .iconst 31, .if_icmp .gt 48, .iload 2, .aload 0, .iload 1, .invokedynamic 241, .iload 3, .invokedynamic 203, .ifCond .eq 39, .iconst 1, .goto 40] := rfl
theorem pg_248_39 : zpg 248 39 = [.iconst 0, .iadd, .istore 2, .iinc 3 1, .goto 16] := rfl
theorem pg_248_40 : zpg 248 40 = [.iadd, .istore 2, .iinc 3 1, .goto 16] := rfl
theorem pg_248_48 : zpg 248 48 = [.iload 2, .ireturn] := rfl
theorem pg_249_0 : zpg 249 0 = [.aload 0, .iload 1, .iconst 2, .invokedynamic 142, .iload 2, .if_icmp .ne 12, .iconst 1, .ireturn] := rfl
theorem pg_249_12 : zpg 249 12 = [.aload 0, .iload 2, .invokedynamic 159, .iconst 4, .if_icmp .le 23, .iconst 0, .ireturn] := rfl
theorem pg_249_23 : zpg 249 23 = [.iconst 0, .istore 3, .goto_w 25] := rfl
theorem pg_249_25 : zpg 249 25 = [.iload 3, .iconst 8, .if_icmp .ge 48, .aload 0, .iload 2, .iload 3, .invokedynamic 157, .ifCond .ge 42, .iconst 1, .ireturn] := rfl
theorem pg_249_42 : zpg 249 42 = [.iinc 3 1, .goto 25] := rfl
theorem pg_249_48 : zpg 249 48 = [.iconst 0, .ireturn] := rfl
theorem pg_250_0 : zpg 250 0 = [.aload 0, .iload 1, .invokedynamic 145, .ifCond .eq 16, .aload 0, .iload 1, .invokedynamic 147, .ifCond .eq 19, .iconst (-2), .ireturn] := rfl
theorem pg_250_16 : zpg 250 16 = [.iconst (-2), .ireturn] := rfl
theorem pg_250_19 : zpg 250 19 = [.aload 0, .iload 1, .iconst (-1), .invokedynamic 249, .ifCond .eq 40, .aload 0, .iload 1, .iconst 20, .invokedynamic 200, .ifCond .eq 40, .iconst (-1), .ireturn] := rfl
theorem pg_250_40 : zpg 250 40 = [.aload 0, .invokedynamic 156, .iconst 0, .istore 2, .goto_w 46] := rfl
theorem pg_250_46 : zpg 250 46 = [.iload 2, .aload 0, .invokeinterface 7 2, .if_icmp .ge 105, .aload 0, .getstatic 449, .iload 2, .iaload, .istore 3, .aload 0, .iload 3, .iconst 1, .invokedynamic 142, .iconst 1, .if_icmp .ne 99, .aload 0, .iload 3, .invokedynamic 147, .ifCond .eq 99, .aload 0, .iload 1, .iload 3, .invokedynamic 249, .ifCond .eq 99, .aload 0, .iload 1, .iload 3, .invokedynamic 200, .ifCond .eq 99, .iload 3, .ireturn] := rfl
theorem pg_250_99 : zpg 250 99 = [.iinc 2 1, .goto 46] := rfl
theorem pg_250_105 : zpg 250 105 = [.iconst (-2), .ireturn] := rfl
theorem pg_251_0 : zpg 251 0 = [.iload 1, .invokedynamic 148, .ifCond .ne 9, .iconst (-1), .ireturn] := rfl
theorem pg_251_9 : zpg 251 9 = [.aload 0, .invokedynamic 156, .iconst (-1), .istore 2, .iconst 0, .istore 3, .iconst 0, .istore 4, .goto_w 20] := rfl
theorem pg_251_20 : zpg 251 20 = [.iload 4, .aload 0, .invokeinterface 7 2, .if_icmp .ge 69, .aload 0, .aload 0, .getstatic 449, .iload 4, .iaload, .iload 1, .invokedynamic 184, .iload 3, .if_icmp .gt 48, .goto 63] := rfl
theorem pg_251_48 : zpg 251 48 = [.aload 0, .getstatic 449, .iload 4, .iaload, .istore 2, .aload 0, .iload 2, .iload 1, .invokedynamic 184, .istore 3, .iinc 4 1, .goto 20] := rfl
theorem pg_251_63 : zpg 251 63 = [.iinc 4 1, .goto 20] := rfl
theorem pg_251_69 : zpg 251 69 = [.iload 2, .ireturn] := rfl
theorem pg_252_0 : zpg 252 0 = [.iconst 0, .istore 1, .goto_w 2] := rfl
theorem pg_252_2 : zpg 252 2 = [.iload 1, .iconst 483, .if_icmp .ge 27, .aload 0, .getstatic 475, .iload 1, .aload 0, .getstatic 448, .iload 1, .iaload, .iastore, .iinc 1 1, .goto 2] := rfl
theorem pg_252_27 : zpg 252 27 = [.return_] := rfl
theorem pg_253_0 : zpg 253 0 = [.iconst 0, .istore 1, .goto_w 2] := rfl
theorem pg_253_2 : zpg 253 2 = [.iload 1, .iconst 483, .if_icmp .ge 27, .aload 0, .getstatic 448, .iload 1, .aload 0, .getstatic 475, .iload 1, .iaload, .iastore, .iinc 1 1, .goto 2] := rfl
theorem pg_253_27 : zpg 253 27 = [.return_] := rfl
theorem pg_254_0 : zpg 254 0 = [.aload 0, .invokedynamic 156, .iconst 0, .istore 1, .iconst 0, .istore 2, .goto_w 8] := rfl
theorem pg_254_8 : zpg 254 8 = [.iload 2, .aload 0, .invokeinterface 7 2, .if_icmp .ge 54, .aload 0, .aload 0, .getstatic 449, .iload 2, .iaload, .iconst 1, .invokedynamic 142, .ifCond .eq 33, .goto 48] := rfl
theorem pg_254_33 : zpg 254 33 = [.aload 0, .getstatic 476, .iload 1, .aload 0, .getstatic 449, .iload 2, .iaload, .iastore, .iinc 1 1, .iinc 2 1, .goto 8] := rfl
theorem pg_254_48 : zpg 254 48 = [.iinc 2 1, .goto 8] := rfl
theorem pg_254_54 : zpg 254 54 = [.iload 1, .ireturn] := rfl
theorem pg_255_0 : zpg 255 0 = [.aload 0, .iload 1, .invokedynamic 145, .ifCond .ne 11, .iconst (-2), .ireturn] := rfl
theorem pg_255_11 : zpg 255 11 = [.aload 0, .invokedynamic 254, .istore 2, .aload 0, .invokedynamic 252, .aload 0, .invokedynamic 187, .istore 3, .iconst (-1), .istore 4, .iload 3, .ifCond .le 44, .aload 0, .iload 1, .invokedynamic 147, .ifCond .eq 44, .iconst 1, .goto 45] := rfl
theorem pg_255_44 : zpg 255 44 = [.iconst 0, .istore 5, .iconst 0, .istore 6, .goto_w 50] := rfl
theorem pg_255_45 : zpg 255 45 = [.istore 5, .iconst 0, .istore 6, .goto_w 50] := rfl
theorem pg_255_50 : zpg 255 50 = [.iload 6, .iload 2, .if_icmp .ge 140, .iload 5, .ifCond .ne 140, .aload 0, .getstatic 476, .iload 6, .iaload, .iload 1, .if_icmp .ne 75, .goto 134] := rfl
theorem pg_255_75 : zpg 255 75 = [.aload 0, .invokedynamic 253, .aload 0, .aload 0, .getstatic 476, .iload 6, .iaload, .iconst 0, .iconst 0, .invokedynamic 143, .aload 0, .invokedynamic 187, .istore 3, .iload 3, .ifCond .le 113, .aload 0, .iload 1, .invokedynamic 147, .ifCond .eq 113, .iconst 1, .goto 114] := rfl
theorem pg_255_113 : zpg 255 113 = [.iconst 0, .istore 5, .iload 5, .ifCond .eq 131, .aload 0, .getstatic 476, .iload 6, .iaload, .goto 132] := rfl
theorem pg_255_114 : zpg 255 114 = [.istore 5, .iload 5, .ifCond .eq 131, .aload 0, .getstatic 476, .iload 6, .iaload, .goto 132] := rfl
theorem pg_255_131 : zpg 255 131 = [.iconst (-1), .istore 4, .iinc 6 1, .goto 50] := rfl
theorem pg_255_132 : zpg 255 132 = [.istore 4, .iinc 6 1, .goto 50] := rfl
theorem pg_255_134 : zpg 255 134 = [.iinc 6 1, .goto 50] := rfl
theorem pg_255_140 : zpg 255 140 = [.aload 0, .invokedynamic 253, .iload 4, .ireturn] := rfl
theorem pg_256_0 : zpg 256 0 = [.iload 1, .iconst 0, .iconst 999, .invokedynamic 141, .ifCond .eq 30, .iload 2, .iconst 0, .iconst 100, .invokedynamic 141, .ifCond .eq 30, .iload 3, .iconst 0, .iconst 2, .invokedynamic 141, .ifCond .ne 32, .iconst (-1), .ireturn] := rfl
theorem pg_256_30 : zpg 256 30 = [.iconst (-1), .ireturn] := rfl
theorem pg_256_32 : zpg 256 32 = [.aload 0, .invokedynamic 254, .istore 4, .aload 0, .invokedynamic 252, .iload 1, .istore 5, .iconst 0, .istore 6, .iconst 0, .istore 7, .goto_w 51] := rfl
theorem pg_256_51 : zpg 256 51 = [.iload 7, .iload 4, .if_icmp .ge 107, .iconst 137, .iload 5, .imul, .iconst 71, .iadd, .iconst 1000, .irem, .istore 5, .iload 5, .iconst 100, .irem, .iload 2, .if_icmp .lt 85, .goto 101] := rfl
theorem pg_256_85 : zpg 256 85 = [.aload 0, .aload 0, .getstatic 476, .iload 7, .iaload, .iconst 0, .iconst 0, .invokedynamic 143, .iinc 6 1, .iinc 7 1, .goto 51] := rfl
theorem pg_256_101 : zpg 256 101 = [.iinc 7 1, .goto 51] := rfl
theorem pg_256_107 : zpg 256 107 = [.aload 0, .invokedynamic 187, .istore 7, .aload 0, .getstatic 448, .iconst 462, .iaload, .istore 8, .aload 0, .invokedynamic 253, .iload 3, .ifCond .ne 136, .iload 7, .goto 148] := rfl
theorem pg_256_136 : zpg 256 136 = [.iload 3, .iconst 1, .if_icmp .ne 146, .iload 6, .goto 148] := rfl
theorem pg_256_146 : zpg 256 146 = [.iload 8, .ireturn] := rfl
theorem pg_256_148 : zpg 256 148 = [.ireturn] := rfl
theorem pg_257_0 : zpg 257 0 = [.iload 1, .iconst 0, .iconst 3, .invokedynamic 141, .ifCond .ne 11, .iconst (-1), .ireturn] := rfl
theorem pg_257_11 : zpg 257 11 = [.aload 0, .invokedynamic 252, .aload 0, .invokedynamic 187, .istore 2, .iconst 0, .istore 3, .iconst 0, .istore 4, .aload 0, .getstatic 448, .iconst 462, .iaload, .istore 5, .iconst 0, .istore 6, .goto_w 38] := rfl
theorem pg_257_38 : zpg 257 38 = [.iload 6, .iconst 20, .if_icmp .ge 165, .aload 0, .getstatic 475, .iconst 23, .iload 6, .imul, .iconst 4, .iadd, .iaload, .ifCond .eq 159, .aload 0, .iload 6, .invokedynamic 144, .ifCond .ne 72, .goto 159] := rfl
theorem pg_257_72 : zpg 257 72 = [.iload 4, .aload 0, .iload 6, .invokedynamic 147, .ifCond .eq 87, .iconst 0, .goto 88] := rfl
theorem pg_257_87 : zpg 257 87 = [.iconst 1, .iadd, .istore 4, .iconst 0, .istore 7, .goto_w 94] := rfl
theorem pg_257_88 : zpg 257 88 = [.iadd, .istore 4, .iconst 0, .istore 7, .goto_w 94] := rfl
theorem pg_257_94 : zpg 257 94 = [.iload 7, .aload 0, .iload 6, .iconst 5, .invokedynamic 142, .if_icmp .ge 159, .aload 0, .iload 6, .invokedynamic 147, .ifCond .eq 159, .iload 3, .aload 0, .getstatic 475, .iconst 23, .iload 6, .imul, .iconst 12, .iadd, .iload 7, .iadd, .iaload, .aload 0, .iload 6, .iconst 12, .iload 7, .iadd, .invokedynamic 142, .if_icmp .eq 150, .iconst 1, .goto 151] := rfl
theorem pg_257_150 : zpg 257 150 = [.iconst 0, .iadd, .istore 3, .iinc 7 1, .goto 94] := rfl
theorem pg_257_151 : zpg 257 151 = [.iadd, .istore 3, .iinc 7 1, .goto 94] := rfl
theorem pg_257_159 : zpg 257 159 = [.iinc 6 1, .goto 38] := rfl
theorem pg_257_165 : zpg 257 165 = [.aload 0, .invokedynamic 253, .iload 1, .ifCond .ne 177, .iload 2, .goto 198] := rfl
theorem pg_257_177 : zpg 257 177 = [.iload 1, .iconst 1, .if_icmp .ne 186, .iload 3, .goto 198] := rfl
theorem pg_257_186 : zpg 257 186 = [.iload 1, .iconst 2, .if_icmp .ne 196, .iload 4, .goto 198] := rfl
theorem pg_257_196 : zpg 257 196 = [.iload 5, .ireturn] := rfl
theorem pg_257_198 : zpg 257 198 = [.ireturn] := rfl
theorem pg_258_0 : zpg 258 0 = [.iload 1, .invokedynamic 148, .ifCond .eq 16, .iload 2, .iconst 0, .iconst 3, .invokedynamic 141, .ifCond .ne 18, .iconst (-1), .ireturn] := rfl
theorem pg_258_16 : zpg 258 16 = [.iconst (-1), .ireturn] := rfl
theorem pg_258_18 : zpg 258 18 = [.iconst 0, .istore 3, .iconst 0, .istore 4, .goto_w 23] := rfl
theorem pg_258_23 : zpg 258 23 = [.iload 4, .iconst 20, .if_icmp .ge 140, .aload 0, .iload 4, .invokedynamic 144, .ifCond .eq 134, .iload 2, .iconst 3, .if_icmp .eq 56, .aload 0, .iload 4, .invokedynamic 147, .ifCond .ne 56, .goto 134] := rfl
theorem pg_258_56 : zpg 258 56 = [.iload 2, .iconst 1, .if_icmp .ne 71, .aload 0, .iload 4, .iconst 2, .invokedynamic 142, .ifCond .ge 75, .iconst 1, .goto 76] := rfl
theorem pg_258_71 : zpg 258 71 = [.iconst 1, .goto 76] := rfl
theorem pg_258_75 : zpg 258 75 = [.iconst 0, .istore 5, .iload 3, .iload 2, .iconst 2, .if_icmp .eq 99, .iload 5, .ifCond .eq 99, .aload 0, .iload 4, .iload 1, .invokedynamic 184, .goto 100] := rfl
theorem pg_258_76 : zpg 258 76 = [.istore 5, .iload 3, .iload 2, .iconst 2, .if_icmp .eq 99, .iload 5, .ifCond .eq 99, .aload 0, .iload 4, .iload 1, .invokedynamic 184, .goto 100] := rfl
theorem pg_258_99 : zpg 258 99 = [.iconst 0, .iadd, .istore 3, .iload 3, .iload 2, .iconst 1, .if_icmp .eq 113, .iload 2, .iconst 2, .if_icmp .ne 131, .iload 5, .ifCond .eq 131, .aload 0, .iload 4, .iconst 21, .iload 1, .iadd, .invokedynamic 142, .goto 132] := rfl
theorem pg_258_100 : zpg 258 100 = [.iadd, .istore 3, .iload 3, .iload 2, .iconst 1, .if_icmp .eq 113, .iload 2, .iconst 2, .if_icmp .ne 131, .iload 5, .ifCond .eq 131, .aload 0, .iload 4, .iconst 21, .iload 1, .iadd, .invokedynamic 142, .goto 132] := rfl
theorem pg_258_113 : zpg 258 113 = [.iload 5, .ifCond .eq 131, .aload 0, .iload 4, .iconst 21, .iload 1, .iadd, .invokedynamic 142, .goto 132] := rfl
theorem pg_258_131 : zpg 258 131 = [.iconst 0, .iadd, .istore 3, .iinc 4 1, .goto 23] := rfl
theorem pg_258_132 : zpg 258 132 = [.iadd, .istore 3, .iinc 4 1, .goto 23] := rfl
theorem pg_258_134 : zpg 258 134 = [.iinc 4 1, .goto 23] := rfl
theorem pg_258_140 : zpg 258 140 = [.iload 3, .ireturn] := rfl
theorem pg_259_0 : zpg 259 0 = [.iload 1, .iconst 60, .if_icmp .ge 14, .aload 0, .iload 1, .invokedynamic 212, .goto 26] := rfl
theorem pg_259_14 : zpg 259 14 = [.aload 0, .iload 1, .iconst 60, .isub, .iconst 19, .iload 2, .iadd, .invokedynamic 142, .ireturn] := rfl
theorem pg_259_26 : zpg 259 26 = [.ireturn] := rfl
theorem pg_260_0 : zpg 260 0 = [.iload 1, .iconst 60, .if_icmp .ge 14, .aload 0, .iload 1, .invokedynamic 211, .goto 26] := rfl
theorem pg_260_14 : zpg 260 14 = [.aload 0, .iload 1, .iconst 60, .isub, .iconst 21, .iload 2, .iadd, .invokedynamic 142, .ireturn] := rfl
theorem pg_260_26 : zpg 260 26 = [.ireturn] := rfl
theorem pg_261_0 : zpg 261 0 = [.iload 1, .invokedynamic 174, .istore 3, .aload 0, .iload 3, .invokedynamic 147, .ifCond .ne 15, .iconst 0, .ireturn] := rfl
theorem pg_261_15 : zpg 261 15 = [.iload 1, .iconst 60, .if_icmp .ge 56, .iload 1, .iconst 3, .irem, .aload 0, .iload 3, .iconst 5, .invokedynamic 142, .if_icmp .ge 52, .aload 0, .iload 3, .iconst 6, .iload 1, .iconst 3, .irem, .iadd, .invokedynamic 142, .iload 2, .if_icmp .ne 52, .iconst 1, .goto 73] := rfl
theorem pg_261_52 : zpg 261 52 = [.iconst 0, .goto 73] := rfl
theorem pg_261_56 : zpg 261 56 = [.aload 0, .iload 3, .iconst 21, .iload 2, .iadd, .invokedynamic 142, .ifCond .le 72, .iconst 1, .goto 73] := rfl
theorem pg_261_72 : zpg 261 72 = [.iconst 0, .ireturn] := rfl
theorem pg_261_73 : zpg 261 73 = [.ireturn] := rfl
theorem pg_262_0 : zpg 262 0 = [.aload 0, .iload 1, .invokedynamic 174, .invokedynamic 175, .istore 3, .aload 0, .iload 1, .iload 2, .invokedynamic 259, .istore 4, .iload 4, .aload 0, .iload 1, .iload 2, .invokedynamic 260, .iadd, .istore 5, .aload 0, .iload 3, .iload 2, .invokedynamic 192, .ifCond .eq 66, .iload 4, .aload 0, .iload 3, .iload 2, .invokedynamic 191, .if_icmp .lt 66, .iload 5, .aload 0, .iload 3, .iload 2, .invokedynamic 191, .aload 0, .iload 3, .iload 2, .invokedynamic 192, .iadd, .if_icmp .le 68, .iconst 1, .ireturn] := rfl
theorem pg_262_66 : zpg 262 66 = [.iconst 1, .ireturn] := rfl
theorem pg_262_68 : zpg 262 68 = [.iconst 0, .istore 6, .goto_w 71] := rfl
theorem pg_262_71 : zpg 262 71 = [.iload 6, .iconst 80, .if_icmp .ge 150, .iload 6, .iload 1, .if_icmp .eq 144, .aload 0, .iload 6, .iload 2, .invokedynamic 261, .ifCond .eq 144, .aload 0, .iload 6, .invokedynamic 174, .invokedynamic 175, .iload 3, .if_icmp .eq 110, .goto 144] := rfl
theorem pg_262_110 : zpg 262 110 = [.iload 4, .aload 0, .iload 6, .iload 2, .invokedynamic 259, .aload 0, .iload 6, .iload 2, .invokedynamic 260, .iadd, .if_icmp .ge 144, .aload 0, .iload 6, .iload 2, .invokedynamic 259, .iload 5, .if_icmp .ge 144, .iconst 1, .ireturn] := rfl
theorem pg_262_144 : zpg 262 144 = [.iinc 6 1, .goto 71] := rfl
theorem pg_262_150 : zpg 262 150 = [.iconst 0, .ireturn] := rfl
theorem pg_263_0 : zpg 263 0 = [.iload 1, .invokedynamic 148, .ifCond .ne 9, .iconst (-1), .ireturn] := rfl
theorem pg_263_9 : zpg 263 9 = [.iconst 0, .istore 2, .iconst 0, .istore 3, .goto_w 13] := rfl
theorem pg_263_13 : zpg 263 13 = [.iload 3, .iconst 80, .if_icmp .ge 51, .iload 2, .aload 0, .iload 3, .iload 1, .invokedynamic 261, .ifCond .eq 42, .aload 0, .iload 3, .iload 1, .invokedynamic 262, .ifCond .eq 42, .iconst 1, .goto 43] := rfl
theorem pg_263_42 : zpg 263 42 = [.iconst 0, .iadd, .istore 2, .iinc 3 1, .goto 13] := rfl
theorem pg_263_43 : zpg 263 43 = [.iadd, .istore 2, .iinc 3 1, .goto 13] := rfl
theorem pg_263_51 : zpg 263 51 = [.iload 2, .ireturn] := rfl
theorem pg_264_0 : zpg 264 0 = [.aload 0, .invokeinterface 7 32, .iconst 20, .if_icmp .ne 50, .iconst 0, .istore 1, .goto_w 11] := rfl
theorem pg_264_11 : zpg 264 11 = [.iload 1, .iconst 9660, .if_icmp .ge 40, .aload 0, .getstatic 477, .iload 1, .aload 0, .getstatic 477, .iload 1, .iconst 483, .iadd, .iaload, .iastore, .iinc 1 1, .goto 11] := rfl
theorem pg_264_40 : zpg 264 40 = [.aload 0, .dup, .invokeinterface 7 32, .iconst 1, .isub, .multianewarray 7 32, .iconst 0, .istore 1, .goto_w 52] := rfl
theorem pg_264_50 : zpg 264 50 = [.iconst 0, .istore 1, .goto_w 52] := rfl
theorem pg_264_52 : zpg 264 52 = [.iload 1, .iconst 483, .if_icmp .ge 86, .aload 0, .getstatic 477, .iconst 483, .aload 0, .invokeinterface 7 32, .imul, .iload 1, .iadd, .aload 0, .getstatic 448, .iload 1, .iaload, .iastore, .iinc 1 1, .goto 52] := rfl
theorem pg_264_86 : zpg 264 86 = [.aload 0, .dup, .invokeinterface 7 32, .iconst 1, .iadd, .multianewarray 7 32, .aload 0, .iconst 0, .multianewarray 7 33, .return_] := rfl
theorem pg_265_0 : zpg 265 0 = [.iconst 0, .istore 1, .goto_w 2] := rfl
theorem pg_265_2 : zpg 265 2 = [.iload 1, .iconst 483, .if_icmp .ge 59, .aload 0, .getstatic 477, .iconst 483, .aload 0, .invokeinterface 7 32, .imul, .iload 1, .iadd, .iaload, .istore 2, .aload 0, .getstatic 477, .iconst 483, .aload 0, .invokeinterface 7 32, .imul, .iload 1, .iadd, .aload 0, .getstatic 448, .iload 1, .iaload, .iastore, .aload 0, .getstatic 448, .iload 1, .iload 2, .iastore, .iinc 1 1, .goto 2] := rfl
theorem pg_265_59 : zpg 265 59 = [.return_] := rfl
theorem pg_266_0 : zpg 266 0 = [.aload 0, .invokeinterface 7 32, .ifCond .ne 9, .iconst 0, .ireturn] := rfl
theorem pg_266_9 : zpg 266 9 = [.aload 0, .dup, .invokeinterface 7 32, .iconst 1, .isub, .multianewarray 7 32, .aload 0, .dup, .invokeinterface 7 33, .iconst 1, .iadd, .multianewarray 7 33, .aload 0, .invokedynamic 265, .iconst 1, .ireturn] := rfl
theorem pg_267_0 : zpg 267 0 = [.aload 0, .invokeinterface 7 33, .ifCond .ne 9, .iconst 0, .ireturn] := rfl
theorem pg_267_9 : zpg 267 9 = [.aload 0, .invokedynamic 265, .aload 0, .dup, .invokeinterface 7 32, .iconst 1, .iadd, .multianewarray 7 32, .aload 0, .dup, .invokeinterface 7 33, .iconst 1, .isub, .multianewarray 7 33, .iconst 1, .ireturn] := rfl
theorem pg_268_0 : zpg 268 0 = [.iload 1, .iconst 0, .iconst 1, .invokedynamic 141, .ifCond .ne 11, .iconst (-1), .ireturn] := rfl
theorem pg_268_11 : zpg 268 11 = [.iconst 0, .istore 2, .goto_w 13] := rfl
theorem pg_268_13 : zpg 268 13 = [.iload 2, .iconst 483, .if_icmp .ge 44, .aload 0, .getstatic 478, .iconst 483, .iload 1, .imul, .iload 2, .iadd, .aload 0, .getstatic 448, .iload 2, .iaload, .iastore, .iinc 2 1, .goto 13] := rfl
theorem pg_268_44 : zpg 268 44 = [.aload 0, .getstatic 479, .iload 1, .iconst 1, .bastore, .aload 0, .invokedynamic 151, .invokedynamic 150, .ireturn] := rfl
theorem pg_269_0 : zpg 269 0 = [.iload 1, .iconst 0, .iconst 1, .invokedynamic 141, .ifCond .eq 18, .aload 0, .getstatic 479, .iload 1, .baload, .ifCond .ne 20, .iconst (-1), .ireturn] := rfl
theorem pg_269_18 : zpg 269 18 = [.iconst (-1), .ireturn] := rfl
theorem pg_269_20 : zpg 269 20 = [.iconst 0, .istore 2, .goto_w 22] := rfl
theorem pg_269_22 : zpg 269 22 = [.iload 2, .iconst 483, .if_icmp .ge 53, .aload 0, .getstatic 448, .iload 2, .aload 0, .getstatic 478, .iconst 483, .iload 1, .imul, .iload 2, .iadd, .iaload, .iastore, .iinc 2 1, .goto 22] := rfl
theorem pg_269_53 : zpg 269 53 = [.aload 0, .iconst 0, .multianewarray 7 32, .aload 0, .iconst 0, .multianewarray 7 33, .aload 0, .invokedynamic 151, .invokedynamic 150, .ireturn] := rfl
theorem pg_270_0 : zpg 270 0 = [.iconst 0, .istore 1, .iconst 0, .istore 2, .goto_w 4] := rfl
theorem pg_270_4 : zpg 270 4 = [.iload 2, .iconst 20, .if_icmp .ge 32, .iload 1, .aload 0, .iload 2, .invokedynamic 146, .ifCond .eq 23, .iconst 1, .goto 24] := rfl
theorem pg_270_23 : zpg 270 23 = [.iconst 0, .iadd, .istore 1, .iinc 2 1, .goto 4] := rfl
theorem pg_270_24 : zpg 270 24 = [.iadd, .istore 1, .iinc 2 1, .goto 4] := rfl
theorem pg_270_32 : zpg 270 32 = [.iload 1, .ireturn] := rfl
theorem pg_271_0 : zpg 271 0 = [.iconst 0, .istore 1, .iconst 0, .istore 2, .goto_w 4] := rfl
theorem pg_271_4 : zpg 271 4 = [.iload 2, .iconst 20, .if_icmp .ge 37, .iload 1, .aload 0, .iload 2, .invokedynamic 147, .ifCond .eq 28, .aload 0, .iload 2, .iconst 5, .invokedynamic 142, .goto 29] := rfl
theorem pg_271_28 : zpg 271 28 = [.iconst 0, .iadd, .istore 1, .iinc 2 1, .goto 4] := rfl
theorem pg_271_29 : zpg 271 29 = [.iadd, .istore 1, .iinc 2 1, .goto 4] := rfl
theorem pg_271_37 : zpg 271 37 = [.iload 1, .ireturn] := rfl
theorem pg_272_0 : zpg 272 0 = [.iconst 0, .istore 1, .iconst 0, .istore 2, .goto_w 4] := rfl
theorem pg_272_4 : zpg 272 4 = [.iload 2, .iconst 20, .if_icmp .ge 53, .aload 0, .iload 2, .invokedynamic 147, .ifCond .eq 47, .aload 0, .iload 2, .iconst 1, .invokedynamic 142, .iconst 1, .if_icmp .ne 47, .aload 0, .iload 2, .iconst 17, .invokedynamic 142, .iload 1, .if_icmp .le 47, .aload 0, .iload 2, .iconst 17, .invokedynamic 142, .istore 1, .iinc 2 1, .goto 4] := rfl
theorem pg_272_47 : zpg 272 47 = [.iinc 2 1, .goto 4] := rfl
theorem pg_272_53 : zpg 272 53 = [.iload 1, .ireturn] := rfl
theorem pg_273_0 : zpg 273 0 = [.iload 1, .tableswitch 124 0 9 #[56, 64, 69, 77, 82, 87, 96, 101, 106, 115]] := rfl
theorem pg_273_56 : zpg 273 56 = [.aload 0, .invokedynamic 151, .invokedynamic 150, .ireturn] := rfl
theorem pg_273_64 : zpg 273 64 = [.aload 0, .invokedynamic 270, .ireturn] := rfl
theorem pg_273_69 : zpg 273 69 = [.aload 0, .invokedynamic 152, .invokedynamic 150, .ireturn] := rfl
theorem pg_273_77 : zpg 273 77 = [.aload 0, .invokedynamic 271, .ireturn] := rfl
theorem pg_273_82 : zpg 273 82 = [.aload 0, .invokedynamic 272, .ireturn] := rfl
theorem pg_273_87 : zpg 273 87 = [.aload 0, .getstatic 448, .iconst 462, .iaload, .ireturn] := rfl
theorem pg_273_96 : zpg 273 96 = [.aload 0, .invokeinterface 7 32, .ireturn] := rfl
theorem pg_273_101 : zpg 273 101 = [.aload 0, .invokeinterface 7 33, .ireturn] := rfl
theorem pg_273_106 : zpg 273 106 = [.aload 0, .getstatic 448, .iconst 460, .iaload, .ireturn] := rfl
theorem pg_273_115 : zpg 273 115 = [.aload 0, .getstatic 448, .iconst 461, .iaload, .ireturn] := rfl
theorem pg_273_124 : zpg 273 124 = [.iconst (-1), .ireturn] := rfl
theorem pg_274_0 : zpg 274 0 = [.new 6, .dup, .invokedynamic 84, .astore 1, .new 7, .dup, .invokedynamic 140, .astore 2, .iconst 0, .istore 3, .goto_w 18] := rfl
theorem pg_274_18 : zpg 274 18 = [.iload 3, .aload 0, .arraylength, .iconst 5, .isub, .if_icmp .gt 1468, .aload 0, .iload 3, .iaload, .iconst 63, .iand, .tableswitch 1462 0 41 #[216, 249, 302, 345, 368, 411, 444, 457, 480, 503, 526, 549, 572, 605, 648, 681, 704, 737, 760, 793, 826, 879, 922, 945, 988, 1021, 1054, 1087, 1120, 1153, 1186, 1219, 1242, 1265, 1288, 1311, 1344, 1367, 1380, 1393, 1416, 1439]] := rfl
theorem pg_274_216 : zpg 274 216 = [.aload 1, .aload 0, .iload 3, .iconst 1, .iadd, .iaload, .aload 0, .iload 3, .iconst 2, .iadd, .iaload, .invokedynamic 85, .aload 2, .aload 0, .iload 3, .iconst 1, .iadd, .iaload, .aload 0, .iload 3, .iconst 2, .iadd, .iaload, .invokedynamic 164, .if_icmp .eq 1462, .iconst 0, .ireturn] := rfl
theorem pg_274_249 : zpg 274 249 = [.aload 1, .aload 0, .iload 3, .iconst 1, .iadd, .iaload, .aload 0, .iload 3, .iconst 2, .iadd, .iaload, .aload 0, .iload 3, .iconst 3, .iadd, .iaload, .aload 0, .iload 3, .iconst 4, .iadd, .iaload, .invokedynamic 86, .aload 2, .aload 0, .iload 3, .iconst 1, .iadd, .iaload, .aload 0, .iload 3, .iconst 2, .iadd, .iaload, .aload 0, .iload 3, .iconst 3, .iadd, .iaload, .aload 0, .iload 3, .iconst 4, .iadd, .iaload, .invokedynamic 165, .if_icmp .eq 1462, .iconst 0, .ireturn] := rfl
theorem pg_274_302 : zpg 274 302 = [.aload 1, .aload 0, .iload 3, .iconst 1, .iadd, .iaload, .aload 0, .iload 3, .iconst 2, .iadd, .iaload, .aload 0, .iload 3, .iconst 3, .iadd, .iaload, .invokedynamic 88, .aload 2, .aload 0, .iload 3, .iconst 1, .iadd, .iaload, .aload 0, .iload 3, .iconst 2, .iadd, .iaload, .aload 0, .iload 3, .iconst 3, .iadd, .iaload, .invokedynamic 166, .if_icmp .eq 1462, .iconst 0, .ireturn] := rfl
theorem pg_274_345 : zpg 274 345 = [.aload 1, .aload 0, .iload 3, .iconst 1, .iadd, .iaload, .invokedynamic 89, .aload 2, .aload 0, .iload 3, .iconst 1, .iadd, .iaload, .invokedynamic 168, .if_icmp .eq 1462, .iconst 0, .ireturn] := rfl
theorem pg_274_368 : zpg 274 368 = [.aload 1, .aload 0, .iload 3, .iconst 1, .iadd, .iaload, .aload 0, .iload 3, .iconst 2, .iadd, .iaload, .aload 0, .iload 3, .iconst 3, .iadd, .iaload, .invokedynamic 90, .aload 2, .aload 0, .iload 3, .iconst 1, .iadd, .iaload, .aload 0, .iload 3, .iconst 2, .iadd, .iaload, .aload 0, .iload 3, .iconst 3, .iadd, .iaload, .invokedynamic 170, .if_icmp .eq 1462, .iconst 0, .ireturn] := rfl
theorem pg_274_411 : zpg 274 411 = [.aload 1, .aload 0, .iload 3, .iconst 1, .iadd, .iaload, .aload 0, .iload 3, .iconst 2, .iadd, .iaload, .invokedynamic 91, .aload 2, .aload 0, .iload 3, .iconst 1, .iadd, .iaload, .aload 0, .iload 3, .iconst 2, .iadd, .iaload, .invokedynamic 171, .if_icmp .eq 1462, .iconst 0, .ireturn] := rfl
theorem pg_274_444 : zpg 274 444 = [.aload 1, .invokedynamic 92, .aload 2, .invokedynamic 189, .if_icmp .eq 1462, .iconst 0, .ireturn] := rfl
theorem pg_274_457 : zpg 274 457 = [.aload 1, .aload 0, .iload 3, .iconst 1, .iadd, .iaload, .invokedynamic 97, .aload 2, .aload 0, .iload 3, .iconst 1, .iadd, .iaload, .invokedynamic 190, .if_icmp .eq 1462, .iconst 0, .ireturn] := rfl
theorem pg_274_480 : zpg 274 480 = [.aload 1, .aload 0, .iload 3, .iconst 1, .iadd, .iaload, .invokedynamic 93, .aload 2, .aload 0, .iload 3, .iconst 1, .iadd, .iaload, .invokedynamic 205, .if_icmp .eq 1462, .iconst 0, .ireturn] := rfl
theorem pg_274_503 : zpg 274 503 = [.aload 1, .aload 0, .iload 3, .iconst 1, .iadd, .iaload, .invokedynamic 94, .aload 2, .aload 0, .iload 3, .iconst 1, .iadd, .iaload, .invokedynamic 209, .if_icmp .eq 1462, .iconst 0, .ireturn] := rfl
theorem pg_274_526 : zpg 274 526 = [.aload 1, .aload 0, .iload 3, .iconst 1, .iadd, .iaload, .invokedynamic 95, .aload 2, .aload 0, .iload 3, .iconst 1, .iadd, .iaload, .invokedynamic 222, .if_icmp .eq 1462, .iconst 0, .ireturn] := rfl
theorem pg_274_549 : zpg 274 549 = [.aload 1, .aload 0, .iload 3, .iconst 1, .iadd, .iaload, .invokedynamic 96, .aload 2, .aload 0, .iload 3, .iconst 1, .iadd, .iaload, .invokedynamic 221, .if_icmp .eq 1462, .iconst 0, .ireturn] := rfl
theorem pg_274_572 : zpg 274 572 = [.aload 1, .aload 0, .iload 3, .iconst 1, .iadd, .iaload, .aload 0, .iload 3, .iconst 2, .iadd, .iaload, .invokedynamic 98, .aload 2, .aload 0, .iload 3, .iconst 1, .iadd, .iaload, .aload 0, .iload 3, .iconst 2, .iadd, .iaload, .invokedynamic 223, .if_icmp .eq 1462, .iconst 0, .ireturn] := rfl
theorem pg_274_605 : zpg 274 605 = [.aload 1, .aload 0, .iload 3, .iconst 1, .iadd, .iaload, .aload 0, .iload 3, .iconst 2, .iadd, .iaload, .aload 0, .iload 3, .iconst 3, .iadd, .iaload, .invokedynamic 99, .aload 2, .aload 0, .iload 3, .iconst 1, .iadd, .iaload, .aload 0, .iload 3, .iconst 2, .iadd, .iaload, .aload 0, .iload 3, .iconst 3, .iadd, .iaload, .invokedynamic 224, .if_icmp .eq 1462, .iconst 0, .ireturn] := rfl
theorem pg_274_648 : zpg 274 648 = [.aload 1, .aload 0, .iload 3, .iconst 1, .iadd, .iaload, .aload 0, .iload 3, .iconst 2, .iadd, .iaload, .invokedynamic 100, .aload 2, .aload 0, .iload 3, .iconst 1, .iadd, .iaload, .aload 0, .iload 3, .iconst 2, .iadd, .iaload, .invokedynamic 225, .if_icmp .eq 1462, .iconst 0, .ireturn] := rfl
theorem pg_274_681 : zpg 274 681 = [.aload 1, .aload 0, .iload 3, .iconst 1, .iadd, .iaload, .invokedynamic 101, .aload 2, .aload 0, .iload 3, .iconst 1, .iadd, .iaload, .invokedynamic 226, .if_icmp .eq 1462, .iconst 0, .ireturn] := rfl
theorem pg_274_704 : zpg 274 704 = [.aload 1, .aload 0, .iload 3, .iconst 1, .iadd, .iaload, .aload 0, .iload 3, .iconst 2, .iadd, .iaload, .invokedynamic 102, .aload 2, .aload 0, .iload 3, .iconst 1, .iadd, .iaload, .aload 0, .iload 3, .iconst 2, .iadd, .iaload, .invokedynamic 227, .if_icmp .eq 1462, .iconst 0, .ireturn] := rfl
theorem pg_274_737 : zpg 274 737 = [.aload 1, .aload 0, .iload 3, .iconst 1, .iadd, .iaload, .invokedynamic 103, .aload 2, .aload 0, .iload 3, .iconst 1, .iadd, .iaload, .invokedynamic 228, .if_icmp .eq 1462, .iconst 0, .ireturn] := rfl
theorem pg_274_760 : zpg 274 760 = [.aload 1, .aload 0, .iload 3, .iconst 1, .iadd, .iaload, .aload 0, .iload 3, .iconst 2, .iadd, .iaload, .invokedynamic 104, .aload 2, .aload 0, .iload 3, .iconst 1, .iadd, .iaload, .aload 0, .iload 3, .iconst 2, .iadd, .iaload, .invokedynamic 233, .if_icmp .eq 1462, .iconst 0, .ireturn] := rfl
theorem pg_274_793 : zpg 274 793 = [.aload 1, .aload 0, .iload 3, .iconst 1, .iadd, .iaload, .aload 0, .iload 3, .iconst 2, .iadd, .iaload, .invokedynamic 105, .aload 2, .aload 0, .iload 3, .iconst 1, .iadd, .iaload, .aload 0, .iload 3, .iconst 2, .iadd, .iaload, .invokedynamic 234, .if_icmp .eq 1462, .iconst 0, .ireturn] := rfl
theorem pg_274_826 : zpg 274 826 = [.aload 1, .aload 0, .iload 3, .iconst 1, .iadd, .iaload, .aload 0, .iload 3, .iconst 2, .iadd, .iaload, .aload 0, .iload 3, .iconst 3, .iadd, .iaload, .aload 0, .iload 3, .iconst 4, .iadd, .iaload, .invokedynamic 106, .aload 2, .aload 0, .iload 3, .iconst 1, .iadd, .iaload, .aload 0, .iload 3, .iconst 2, .iadd, .iaload, .aload 0, .iload 3, .iconst 3, .iadd, .iaload, .aload 0, .iload 3, .iconst 4, .iadd, .iaload, .invokedynamic 239, .if_icmp .eq 1462, .iconst 0, .ireturn] := rfl
theorem pg_274_879 : zpg 274 879 = [.aload 1, .aload 0, .iload 3, .iconst 1, .iadd, .iaload, .aload 0, .iload 3, .iconst 2, .iadd, .iaload, .aload 0, .iload 3, .iconst 3, .iadd, .iaload, .invokedynamic 120, .aload 2, .aload 0, .iload 3, .iconst 1, .iadd, .iaload, .aload 0, .iload 3, .iconst 2, .iadd, .iaload, .aload 0, .iload 3, .iconst 3, .iadd, .iaload, .invokedynamic 247, .if_icmp .eq 1462, .iconst 0, .ireturn] := rfl
theorem pg_274_922 : zpg 274 922 = [.aload 1, .aload 0, .iload 3, .iconst 1, .iadd, .iaload, .invokedynamic 107, .aload 2, .aload 0, .iload 3, .iconst 1, .iadd, .iaload, .invokedynamic 255, .if_icmp .eq 1462, .iconst 0, .ireturn] := rfl
theorem pg_274_945 : zpg 274 945 = [.aload 1, .aload 0, .iload 3, .iconst 1, .iadd, .iaload, .aload 0, .iload 3, .iconst 2, .iadd, .iaload, .aload 0, .iload 3, .iconst 3, .iadd, .iaload, .invokedynamic 108, .aload 2, .aload 0, .iload 3, .iconst 1, .iadd, .iaload, .aload 0, .iload 3, .iconst 2, .iadd, .iaload, .aload 0, .iload 3, .iconst 3, .iadd, .iaload, .invokedynamic 256, .if_icmp .eq 1462, .iconst 0, .ireturn] := rfl
theorem pg_274_988 : zpg 274 988 = [.aload 1, .aload 0, .iload 3, .iconst 1, .iadd, .iaload, .aload 0, .iload 3, .iconst 2, .iadd, .iaload, .invokedynamic 115, .aload 2, .aload 0, .iload 3, .iconst 1, .iadd, .iaload, .aload 0, .iload 3, .iconst 2, .iadd, .iaload, .invokedynamic 235, .if_icmp .eq 1462, .iconst 0, .ireturn] := rfl
theorem pg_274_1021 : zpg 274 1021 = [.aload 1, .aload 0, .iload 3, .iconst 1, .iadd, .iaload, .aload 0, .iload 3, .iconst 2, .iadd, .iaload, .invokedynamic 116, .aload 2, .aload 0, .iload 3, .iconst 1, .iadd, .iaload, .aload 0, .iload 3, .iconst 2, .iadd, .iaload, .invokedynamic 236, .if_icmp .eq 1462, .iconst 0, .ireturn] := rfl
theorem pg_274_1054 : zpg 274 1054 = [.aload 1, .aload 0, .iload 3, .iconst 1, .iadd, .iaload, .aload 0, .iload 3, .iconst 2, .iadd, .iaload, .invokedynamic 117, .aload 2, .aload 0, .iload 3, .iconst 1, .iadd, .iaload, .aload 0, .iload 3, .iconst 2, .iadd, .iaload, .invokedynamic 237, .if_icmp .eq 1462, .iconst 0, .ireturn] := rfl
theorem pg_274_1087 : zpg 274 1087 = [.aload 1, .aload 0, .iload 3, .iconst 1, .iadd, .iaload, .aload 0, .iload 3, .iconst 2, .iadd, .iaload, .invokedynamic 112, .aload 2, .aload 0, .iload 3, .iconst 1, .iadd, .iaload, .aload 0, .iload 3, .iconst 2, .iadd, .iaload, .invokedynamic 242, .if_icmp .eq 1462, .iconst 0, .ireturn] := rfl
theorem pg_274_1120 : zpg 274 1120 = [.aload 1, .aload 0, .iload 3, .iconst 1, .iadd, .iaload, .aload 0, .iload 3, .iconst 2, .iadd, .iaload, .invokedynamic 113, .aload 2, .aload 0, .iload 3, .iconst 1, .iadd, .iaload, .aload 0, .iload 3, .iconst 2, .iadd, .iaload, .invokedynamic 243, .if_icmp .eq 1462, .iconst 0, .ireturn] := rfl
theorem pg_274_1153 : zpg 274 1153 = [.aload 1, .aload 0, .iload 3, .iconst 1, .iadd, .iaload, .aload 0, .iload 3, .iconst 2, .iadd, .iaload, .invokedynamic 118, .aload 2, .aload 0, .iload 3, .iconst 1, .iadd, .iaload, .aload 0, .iload 3, .iconst 2, .iadd, .iaload, .invokedynamic 245, .if_icmp .eq 1462, .iconst 0, .ireturn] := rfl
theorem pg_274_1186 : zpg 274 1186 = [.aload 1, .aload 0, .iload 3, .iconst 1, .iadd, .iaload, .aload 0, .iload 3, .iconst 2, .iadd, .iaload, .invokedynamic 119, .aload 2, .aload 0, .iload 3, .iconst 1, .iadd, .iaload, .aload 0, .iload 3, .iconst 2, .iadd, .iaload, .invokedynamic 246, .if_icmp .eq 1462, .iconst 0, .ireturn] := rfl
theorem pg_274_1219 : zpg 274 1219 = [.aload 1, .aload 0, .iload 3, .iconst 1, .iadd, .iaload, .invokedynamic 122, .aload 2, .aload 0, .iload 3, .iconst 1, .iadd, .iaload, .invokedynamic 248, .if_icmp .eq 1462, .iconst 0, .ireturn] := rfl
theorem pg_274_1242 : zpg 274 1242 = [.aload 1, .aload 0, .iload 3, .iconst 1, .iadd, .iaload, .invokedynamic 123, .aload 2, .aload 0, .iload 3, .iconst 1, .iadd, .iaload, .invokedynamic 250, .if_icmp .eq 1462, .iconst 0, .ireturn] := rfl
theorem pg_274_1265 : zpg 274 1265 = [.aload 1, .aload 0, .iload 3, .iconst 1, .iadd, .iaload, .invokedynamic 125, .aload 2, .aload 0, .iload 3, .iconst 1, .iadd, .iaload, .invokedynamic 251, .if_icmp .eq 1462, .iconst 0, .ireturn] := rfl
theorem pg_274_1288 : zpg 274 1288 = [.aload 1, .aload 0, .iload 3, .iconst 1, .iadd, .iaload, .invokedynamic 109, .aload 2, .aload 0, .iload 3, .iconst 1, .iadd, .iaload, .invokedynamic 257, .if_icmp .eq 1462, .iconst 0, .ireturn] := rfl
theorem pg_274_1311 : zpg 274 1311 = [.aload 1, .aload 0, .iload 3, .iconst 1, .iadd, .iaload, .aload 0, .iload 3, .iconst 2, .iadd, .iaload, .invokedynamic 126, .aload 2, .aload 0, .iload 3, .iconst 1, .iadd, .iaload, .aload 0, .iload 3, .iconst 2, .iadd, .iaload, .invokedynamic 258, .if_icmp .eq 1462, .iconst 0, .ireturn] := rfl
theorem pg_274_1344 : zpg 274 1344 = [.aload 1, .aload 0, .iload 3, .iconst 1, .iadd, .iaload, .invokedynamic 129, .aload 2, .aload 0, .iload 3, .iconst 1, .iadd, .iaload, .invokedynamic 263, .if_icmp .eq 1462, .iconst 0, .ireturn] := rfl
theorem pg_274_1367 : zpg 274 1367 = [.aload 1, .invokedynamic 131, .aload 2, .invokedynamic 266, .if_icmp .eq 1462, .iconst 0, .ireturn] := rfl
theorem pg_274_1380 : zpg 274 1380 = [.aload 1, .invokedynamic 132, .aload 2, .invokedynamic 267, .if_icmp .eq 1462, .iconst 0, .ireturn] := rfl
theorem pg_274_1393 : zpg 274 1393 = [.aload 1, .aload 0, .iload 3, .iconst 1, .iadd, .iaload, .invokedynamic 133, .aload 2, .aload 0, .iload 3, .iconst 1, .iadd, .iaload, .invokedynamic 268, .if_icmp .eq 1462, .iconst 0, .ireturn] := rfl
theorem pg_274_1416 : zpg 274 1416 = [.aload 1, .aload 0, .iload 3, .iconst 1, .iadd, .iaload, .invokedynamic 134, .aload 2, .aload 0, .iload 3, .iconst 1, .iadd, .iaload, .invokedynamic 269, .if_icmp .eq 1462, .iconst 0, .ireturn] := rfl
theorem pg_274_1439 : zpg 274 1439 = [.aload 1, .aload 0, .iload 3, .iconst 1, .iadd, .iaload, .invokedynamic 135, .aload 2, .aload 0, .iload 3, .iconst 1, .iadd, .iaload, .invokedynamic 273, .if_icmp .eq 1462, .iconst 0, .ireturn] := rfl
theorem pg_274_1462 : zpg 274 1462 = [.iinc 3 5, .goto 18] := rfl
theorem pg_274_1468 : zpg 274 1468 = [.iconst 1, .ireturn] := rfl
