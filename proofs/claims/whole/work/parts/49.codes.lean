/-! each instruction of the law -/
def jc251_0 : List (Option ib_A) := [some (.new 8, 10, 0, 0, 19), none, none, some (.dup, 0, 0, 0, 0), some (.invokespecial 80, 106, 0, 10, 21), none, none, some (.astore_n 1, 0, 0, 0, 0)]
def jc251_1 : List (Option ib_A) := [some (.new 81, 11, 0, 0, 1158), none, none, some (.dup, 0, 0, 0, 0), some (.invokespecial 83, 145, 0, 11, 1160), none, none, some (.astore_n 2, 0, 0, 0, 0)]
def jc251_2 : List (Option ib_A) := [some (.iconst 1, 0, 0, 0, 0), some (.newarray .long, 102, 0, 0, 1610), none, some (.astore_n 3, 0, 0, 0, 0), some (.iconst 0, 0, 0, 0, 0), some (.istore 4, 0, 0, 0, 0), none, some (.iload 4, 0, 0, 0, 0)]
def jc251_3 : List (Option ib_A) := [none, some (.aload_n 0, 0, 0, 0, 0), some (.arraylength, 0, 0, 0, 0), some (.iconst 4, 0, 0, 0, 0), some (.isub, 0, 0, 0, 0), some (.if_icmp .gt 1390, 1419, 0, 0, 0), none, none]
def jc251_4 : List (Option ib_A) := [some (.aload_n 0, 0, 0, 0, 0), some (.iload 4, 0, 0, 0, 0), none, some (.iaload, 0, 0, 0, 0), some (.bipush 31, 0, 0, 0, 0), none, some (.iand, 0, 0, 0, 0), some (.tableswitch 1374 0 26 #[121, 157, 237, 305, 373, 429, 497, 553, 609, 653, 709, 745, 756, 800, 856, 924, 992, 1060, 1073, 1141, 1154, 1167, 1180, 1236, 1292, 1348, 1361], 0, 0, 121, 0)]
def jc251_5 : List (Option ib_A) := [none, none, none, none, none, none, none, none]
def jc251_6 : List (Option ib_A) := [none, none, none, none, none, none, none, none]
def jc251_7 : List (Option ib_A) := [none, none, none, none, none, none, none, none]
def jc251_8 : List (Option ib_A) := [none, none, none, none, none, none, none, none]
def jc251_9 : List (Option ib_A) := [none, none, none, none, none, none, none, none]
def jc251_10 : List (Option ib_A) := [none, none, none, none, none, none, none, none]
def jc251_11 : List (Option ib_A) := [none, none, none, none, none, none, none, none]
def jc251_12 : List (Option ib_A) := [none, none, none, none, none, none, none, none]
def jc251_13 : List (Option ib_A) := [none, none, none, none, none, none, none, none]
def jc251_14 : List (Option ib_A) := [none, none, none, none, none, none, none, none]
def jc251_15 : List (Option ib_A) := [none, none, none, none, none, none, none, none]
def jc251_16 : List (Option ib_A) := [none, none, none, none, none, none, none, none]
def jc251_17 : List (Option ib_A) := [none, none, none, none, none, none, none, none]
def jc251_18 : List (Option ib_A) := [none, none, none, none, none, none, none, none]
def jc251_19 : List (Option ib_A) := [none, none, none, none, none, none, none, none]
def jc251_20 : List (Option ib_A) := [some (.aload_n 1, 0, 0, 0, 0), some (.aload_n 0, 0, 0, 0, 0), some (.iload 4, 0, 0, 0, 0), none, some (.iconst 1, 0, 0, 0, 0), some (.iadd, 0, 0, 0, 0), some (.iaload, 0, 0, 0, 0), some (.invokestatic 84, 231, 2, 0, 467)]
def jc251_21 : List (Option ib_A) := [none, none, some (.istore 5, 0, 0, 0, 0), none, some (.aload_n 2, 0, 0, 0, 0), some (.aload_n 0, 0, 0, 0, 0), some (.iload 4, 0, 0, 0, 0), none]
def jc251_22 : List (Option ib_A) := [some (.iconst 1, 0, 0, 0, 0), some (.iadd, 0, 0, 0, 0), some (.iaload, 0, 0, 0, 0), some (.invokevirtual 89, 191, 1, 11, 1278), none, none, some (.aload_n 2, 0, 0, 0, 0), some (.invokevirtual 90, 146, 0, 11, 1274)]
def jc251_23 : List (Option ib_A) := [none, none, some (.iload 5, 0, 0, 0, 0), none, some (.if_icmp .eq 5, 193, 0, 0, 0), none, none, some (.iconst 0, 0, 0, 0, 0)]
def jc251_24 : List (Option ib_A) := [some (.ireturn, 1, 0, 0, 0), some (.goto 1220, 1413, 0, 0, 0), none, none, some (.aload_n 1, 0, 0, 0, 0), some (.aload_n 0, 0, 0, 0, 0), some (.iload 4, 0, 0, 0, 0), none]
def jc251_25 : List (Option ib_A) := [some (.iconst 1, 0, 0, 0, 0), some (.iadd, 0, 0, 0, 0), some (.iaload, 0, 0, 0, 0), some (.aload_n 0, 0, 0, 0, 0), some (.iload 4, 0, 0, 0, 0), none, some (.iconst 2, 0, 0, 0, 0), some (.iadd, 0, 0, 0, 0)]
def jc251_26 : List (Option ib_A) := [some (.iaload, 0, 0, 0, 0), some (.aload_n 0, 0, 0, 0, 0), some (.iload 4, 0, 0, 0, 0), none, some (.iconst 3, 0, 0, 0, 0), some (.iadd, 0, 0, 0, 0), some (.iaload, 0, 0, 0, 0), some (.aload_n 3, 0, 0, 0, 0)]
def jc251_27 : List (Option ib_A) := [some (.invokestatic 93, 232, 5, 0, 572), none, none, some (.istore 5, 0, 0, 0, 0), none, some (.aload_n 2, 0, 0, 0, 0), some (.aload_n 0, 0, 0, 0, 0), some (.iload 4, 0, 0, 0, 0)]
def jc251_28 : List (Option ib_A) := [none, some (.iconst 1, 0, 0, 0, 0), some (.iadd, 0, 0, 0, 0), some (.iaload, 0, 0, 0, 0), some (.aload_n 0, 0, 0, 0, 0), some (.iload 4, 0, 0, 0, 0), none, some (.iconst 2, 0, 0, 0, 0)]
def jc251_29 : List (Option ib_A) := [some (.iadd, 0, 0, 0, 0), some (.iaload, 0, 0, 0, 0), some (.aload_n 0, 0, 0, 0, 0), some (.iload 4, 0, 0, 0, 0), none, some (.iconst 3, 0, 0, 0, 0), some (.iadd, 0, 0, 0, 0), some (.iaload, 0, 0, 0, 0)]
def jc251_30 : List (Option ib_A) := [some (.invokevirtual 96, 193, 3, 11, 1292), none, none, some (.istore 6, 0, 0, 0, 0), none, some (.aload_n 2, 0, 0, 0, 0), some (.invokevirtual 90, 146, 0, 11, 1274), none]
def jc251_31 : List (Option ib_A) := [none, some (.iload 5, 0, 0, 0, 0), none, some (.if_icmp .eq 5, 256, 0, 0, 0), none, none, some (.iconst 0, 0, 0, 0, 0), some (.ireturn, 1, 0, 0, 0)]
def jc251_32 : List (Option ib_A) := [some (.iload 5, 0, 0, 0, 0), none, some (.ifCond .ne 15, 273, 0, 0, 0), none, none, some (.aload_n 3, 0, 0, 0, 0), some (.iconst 0, 0, 0, 0, 0), some (.laload, 0, 0, 0, 0)]
def jc251_33 : List (Option ib_A) := [some (.iload 6, 0, 0, 0, 0), none, some (.i2l, 0, 0, 0, 0), some (.lcmp, 0, 0, 0, 0), some (.ifCond .eq 5, 273, 0, 0, 0), none, none, some (.iconst 0, 0, 0, 0, 0)]
def jc251_34 : List (Option ib_A) := [some (.ireturn, 1, 0, 0, 0), some (.goto 1140, 1413, 0, 0, 0), none, none, some (.aload_n 1, 0, 0, 0, 0), some (.aload_n 0, 0, 0, 0, 0), some (.iload 4, 0, 0, 0, 0), none]
def jc251_35 : List (Option ib_A) := [some (.iconst 1, 0, 0, 0, 0), some (.iadd, 0, 0, 0, 0), some (.iaload, 0, 0, 0, 0), some (.aload_n 0, 0, 0, 0, 0), some (.iload 4, 0, 0, 0, 0), none, some (.iconst 2, 0, 0, 0, 0), some (.iadd, 0, 0, 0, 0)]
def jc251_36 : List (Option ib_A) := [some (.iaload, 0, 0, 0, 0), some (.aload_n 3, 0, 0, 0, 0), some (.invokestatic 97, 233, 4, 0, 896), none, none, some (.istore 5, 0, 0, 0, 0), none, some (.aload_n 2, 0, 0, 0, 0)]
def jc251_37 : List (Option ib_A) := [some (.aload_n 0, 0, 0, 0, 0), some (.iload 4, 0, 0, 0, 0), none, some (.iconst 1, 0, 0, 0, 0), some (.iadd, 0, 0, 0, 0), some (.iaload, 0, 0, 0, 0), some (.aload_n 0, 0, 0, 0, 0), some (.iload 4, 0, 0, 0, 0)]
def jc251_38 : List (Option ib_A) := [none, some (.iconst 2, 0, 0, 0, 0), some (.iadd, 0, 0, 0, 0), some (.iaload, 0, 0, 0, 0), some (.invokevirtual 100, 194, 2, 11, 1459), none, none, some (.istore 6, 0, 0, 0, 0)]
def jc251_39 : List (Option ib_A) := [none, some (.aload_n 2, 0, 0, 0, 0), some (.invokevirtual 90, 146, 0, 11, 1274), none, none, some (.iload 5, 0, 0, 0, 0), none, some (.if_icmp .eq 5, 324, 0, 0, 0)]
def jc251_40 : List (Option ib_A) := [none, none, some (.iconst 0, 0, 0, 0, 0), some (.ireturn, 1, 0, 0, 0), some (.iload 5, 0, 0, 0, 0), none, some (.ifCond .ne 15, 341, 0, 0, 0), none]
def jc251_41 : List (Option ib_A) := [none, some (.aload_n 3, 0, 0, 0, 0), some (.iconst 0, 0, 0, 0, 0), some (.laload, 0, 0, 0, 0), some (.iload 6, 0, 0, 0, 0), none, some (.i2l, 0, 0, 0, 0), some (.lcmp, 0, 0, 0, 0)]
def jc251_42 : List (Option ib_A) := [some (.ifCond .eq 5, 341, 0, 0, 0), none, none, some (.iconst 0, 0, 0, 0, 0), some (.ireturn, 1, 0, 0, 0), some (.goto 1072, 1413, 0, 0, 0), none, none]
def jc251_43 : List (Option ib_A) := [some (.aload_n 1, 0, 0, 0, 0), some (.aload_n 0, 0, 0, 0, 0), some (.iload 4, 0, 0, 0, 0), none, some (.iconst 1, 0, 0, 0, 0), some (.iadd, 0, 0, 0, 0), some (.iaload, 0, 0, 0, 0), some (.aload_n 0, 0, 0, 0, 0)]
def jc251_44 : List (Option ib_A) := [some (.iload 4, 0, 0, 0, 0), none, some (.iconst 2, 0, 0, 0, 0), some (.iadd, 0, 0, 0, 0), some (.iaload, 0, 0, 0, 0), some (.aload_n 3, 0, 0, 0, 0), some (.invokestatic 101, 234, 4, 0, 906), none]
def jc251_45 : List (Option ib_A) := [none, some (.istore 5, 0, 0, 0, 0), none, some (.aload_n 2, 0, 0, 0, 0), some (.aload_n 0, 0, 0, 0, 0), some (.iload 4, 0, 0, 0, 0), none, some (.iconst 1, 0, 0, 0, 0)]
def jc251_46 : List (Option ib_A) := [some (.iadd, 0, 0, 0, 0), some (.iaload, 0, 0, 0, 0), some (.aload_n 0, 0, 0, 0, 0), some (.iload 4, 0, 0, 0, 0), none, some (.iconst 2, 0, 0, 0, 0), some (.iadd, 0, 0, 0, 0), some (.iaload, 0, 0, 0, 0)]
def jc251_47 : List (Option ib_A) := [some (.invokevirtual 103, 195, 2, 11, 1463), none, none, some (.istore 6, 0, 0, 0, 0), none, some (.aload_n 2, 0, 0, 0, 0), some (.invokevirtual 90, 146, 0, 11, 1274), none]
def jc251_48 : List (Option ib_A) := [none, some (.iload 5, 0, 0, 0, 0), none, some (.if_icmp .eq 5, 392, 0, 0, 0), none, none, some (.iconst 0, 0, 0, 0, 0), some (.ireturn, 1, 0, 0, 0)]
def jc251_49 : List (Option ib_A) := [some (.iload 5, 0, 0, 0, 0), none, some (.ifCond .ne 15, 409, 0, 0, 0), none, none, some (.aload_n 3, 0, 0, 0, 0), some (.iconst 0, 0, 0, 0, 0), some (.laload, 0, 0, 0, 0)]
def jc251_50 : List (Option ib_A) := [some (.iload 6, 0, 0, 0, 0), none, some (.i2l, 0, 0, 0, 0), some (.lcmp, 0, 0, 0, 0), some (.ifCond .eq 5, 409, 0, 0, 0), none, none, some (.iconst 0, 0, 0, 0, 0)]
def jc251_51 : List (Option ib_A) := [some (.ireturn, 1, 0, 0, 0), some (.goto 1004, 1413, 0, 0, 0), none, none, some (.aload_n 1, 0, 0, 0, 0), some (.aload_n 0, 0, 0, 0, 0), some (.iload 4, 0, 0, 0, 0), none]
def jc251_52 : List (Option ib_A) := [some (.iconst 1, 0, 0, 0, 0), some (.iadd, 0, 0, 0, 0), some (.iaload, 0, 0, 0, 0), some (.aload_n 3, 0, 0, 0, 0), some (.invokestatic 104, 235, 3, 0, 913), none, none, some (.istore 5, 0, 0, 0, 0)]
def jc251_53 : List (Option ib_A) := [none, some (.aload_n 2, 0, 0, 0, 0), some (.aload_n 0, 0, 0, 0, 0), some (.iload 4, 0, 0, 0, 0), none, some (.iconst 1, 0, 0, 0, 0), some (.iadd, 0, 0, 0, 0), some (.iaload, 0, 0, 0, 0)]
def jc251_54 : List (Option ib_A) := [some (.invokevirtual 107, 196, 1, 11, 1467), none, none, some (.istore 6, 0, 0, 0, 0), none, some (.aload_n 2, 0, 0, 0, 0), some (.invokevirtual 90, 146, 0, 11, 1274), none]
def jc251_55 : List (Option ib_A) := [none, some (.iload 5, 0, 0, 0, 0), none, some (.if_icmp .eq 5, 448, 0, 0, 0), none, none, some (.iconst 0, 0, 0, 0, 0), some (.ireturn, 1, 0, 0, 0)]
def jc251_56 : List (Option ib_A) := [some (.iload 5, 0, 0, 0, 0), none, some (.ifCond .ne 15, 465, 0, 0, 0), none, none, some (.aload_n 3, 0, 0, 0, 0), some (.iconst 0, 0, 0, 0, 0), some (.laload, 0, 0, 0, 0)]
def jc251_57 : List (Option ib_A) := [some (.iload 6, 0, 0, 0, 0), none, some (.i2l, 0, 0, 0, 0), some (.lcmp, 0, 0, 0, 0), some (.ifCond .eq 5, 465, 0, 0, 0), none, none, some (.iconst 0, 0, 0, 0, 0)]
def jc251_58 : List (Option ib_A) := [some (.ireturn, 1, 0, 0, 0), some (.goto 948, 1413, 0, 0, 0), none, none, some (.aload_n 1, 0, 0, 0, 0), some (.aload_n 0, 0, 0, 0, 0), some (.iload 4, 0, 0, 0, 0), none]
def jc251_59 : List (Option ib_A) := [some (.iconst 1, 0, 0, 0, 0), some (.iadd, 0, 0, 0, 0), some (.iaload, 0, 0, 0, 0), some (.aload_n 0, 0, 0, 0, 0), some (.iload 4, 0, 0, 0, 0), none, some (.iconst 2, 0, 0, 0, 0), some (.iadd, 0, 0, 0, 0)]
def jc251_60 : List (Option ib_A) := [some (.iaload, 0, 0, 0, 0), some (.aload_n 3, 0, 0, 0, 0), some (.invokestatic 108, 236, 4, 0, 920), none, none, some (.istore 5, 0, 0, 0, 0), none, some (.aload_n 2, 0, 0, 0, 0)]
def jc251_61 : List (Option ib_A) := [some (.aload_n 0, 0, 0, 0, 0), some (.iload 4, 0, 0, 0, 0), none, some (.iconst 1, 0, 0, 0, 0), some (.iadd, 0, 0, 0, 0), some (.iaload, 0, 0, 0, 0), some (.aload_n 0, 0, 0, 0, 0), some (.iload 4, 0, 0, 0, 0)]
def jc251_62 : List (Option ib_A) := [none, some (.iconst 2, 0, 0, 0, 0), some (.iadd, 0, 0, 0, 0), some (.iaload, 0, 0, 0, 0), some (.invokevirtual 110, 197, 2, 11, 1471), none, none, some (.istore 6, 0, 0, 0, 0)]
def jc251_63 : List (Option ib_A) := [none, some (.aload_n 2, 0, 0, 0, 0), some (.invokevirtual 90, 146, 0, 11, 1274), none, none, some (.iload 5, 0, 0, 0, 0), none, some (.if_icmp .eq 5, 516, 0, 0, 0)]
def jc251_64 : List (Option ib_A) := [none, none, some (.iconst 0, 0, 0, 0, 0), some (.ireturn, 1, 0, 0, 0), some (.iload 5, 0, 0, 0, 0), none, some (.ifCond .ne 15, 533, 0, 0, 0), none]
def jc251_65 : List (Option ib_A) := [none, some (.aload_n 3, 0, 0, 0, 0), some (.iconst 0, 0, 0, 0, 0), some (.laload, 0, 0, 0, 0), some (.iload 6, 0, 0, 0, 0), none, some (.i2l, 0, 0, 0, 0), some (.lcmp, 0, 0, 0, 0)]
def jc251_66 : List (Option ib_A) := [some (.ifCond .eq 5, 533, 0, 0, 0), none, none, some (.iconst 0, 0, 0, 0, 0), some (.ireturn, 1, 0, 0, 0), some (.goto 880, 1413, 0, 0, 0), none, none]
def jc251_67 : List (Option ib_A) := [some (.aload_n 1, 0, 0, 0, 0), some (.aload_n 0, 0, 0, 0, 0), some (.iload 4, 0, 0, 0, 0), none, some (.iconst 1, 0, 0, 0, 0), some (.iadd, 0, 0, 0, 0), some (.iaload, 0, 0, 0, 0), some (.aload_n 3, 0, 0, 0, 0)]
def jc251_68 : List (Option ib_A) := [some (.invokestatic 111, 237, 3, 0, 928), none, none, some (.istore 5, 0, 0, 0, 0), none, some (.aload_n 2, 0, 0, 0, 0), some (.aload_n 0, 0, 0, 0, 0), some (.iload 4, 0, 0, 0, 0)]
def jc251_69 : List (Option ib_A) := [none, some (.iconst 1, 0, 0, 0, 0), some (.iadd, 0, 0, 0, 0), some (.iaload, 0, 0, 0, 0), some (.invokevirtual 113, 198, 1, 11, 1475), none, none, some (.istore 6, 0, 0, 0, 0)]
def jc251_70 : List (Option ib_A) := [none, some (.aload_n 2, 0, 0, 0, 0), some (.invokevirtual 90, 146, 0, 11, 1274), none, none, some (.iload 5, 0, 0, 0, 0), none, some (.if_icmp .eq 5, 572, 0, 0, 0)]
def jc251_71 : List (Option ib_A) := [none, none, some (.iconst 0, 0, 0, 0, 0), some (.ireturn, 1, 0, 0, 0), some (.iload 5, 0, 0, 0, 0), none, some (.ifCond .ne 15, 589, 0, 0, 0), none]
def jc251_72 : List (Option ib_A) := [none, some (.aload_n 3, 0, 0, 0, 0), some (.iconst 0, 0, 0, 0, 0), some (.laload, 0, 0, 0, 0), some (.iload 6, 0, 0, 0, 0), none, some (.i2l, 0, 0, 0, 0), some (.lcmp, 0, 0, 0, 0)]
def jc251_73 : List (Option ib_A) := [some (.ifCond .eq 5, 589, 0, 0, 0), none, none, some (.iconst 0, 0, 0, 0, 0), some (.ireturn, 1, 0, 0, 0), some (.goto 824, 1413, 0, 0, 0), none, none]
def jc251_74 : List (Option ib_A) := [some (.aload_n 1, 0, 0, 0, 0), some (.aload_n 0, 0, 0, 0, 0), some (.iload 4, 0, 0, 0, 0), none, some (.iconst 1, 0, 0, 0, 0), some (.iadd, 0, 0, 0, 0), some (.iaload, 0, 0, 0, 0), some (.aload_n 3, 0, 0, 0, 0)]
def jc251_75 : List (Option ib_A) := [some (.invokestatic 114, 238, 3, 0, 940), none, none, some (.istore 5, 0, 0, 0, 0), none, some (.aload_n 2, 0, 0, 0, 0), some (.aload_n 0, 0, 0, 0, 0), some (.iload 4, 0, 0, 0, 0)]
def jc251_76 : List (Option ib_A) := [none, some (.iconst 1, 0, 0, 0, 0), some (.iadd, 0, 0, 0, 0), some (.iaload, 0, 0, 0, 0), some (.invokevirtual 116, 199, 1, 11, 1479), none, none, some (.istore 6, 0, 0, 0, 0)]
def jc251_77 : List (Option ib_A) := [none, some (.aload_n 2, 0, 0, 0, 0), some (.invokevirtual 90, 146, 0, 11, 1274), none, none, some (.iload 5, 0, 0, 0, 0), none, some (.if_icmp .eq 5, 628, 0, 0, 0)]
def jc251_78 : List (Option ib_A) := [none, none, some (.iconst 0, 0, 0, 0, 0), some (.ireturn, 1, 0, 0, 0), some (.iload 5, 0, 0, 0, 0), none, some (.ifCond .ne 15, 645, 0, 0, 0), none]
def jc251_79 : List (Option ib_A) := [none, some (.aload_n 3, 0, 0, 0, 0), some (.iconst 0, 0, 0, 0, 0), some (.laload, 0, 0, 0, 0), some (.iload 6, 0, 0, 0, 0), none, some (.i2l, 0, 0, 0, 0), some (.lcmp, 0, 0, 0, 0)]
def jc251_80 : List (Option ib_A) := [some (.ifCond .eq 5, 645, 0, 0, 0), none, none, some (.iconst 0, 0, 0, 0, 0), some (.ireturn, 1, 0, 0, 0), some (.goto 768, 1413, 0, 0, 0), none, none]
def jc251_81 : List (Option ib_A) := [some (.aload_n 1, 0, 0, 0, 0), some (.aload_n 3, 0, 0, 0, 0), some (.invokestatic 117, 239, 2, 0, 947), none, none, some (.istore 5, 0, 0, 0, 0), none, some (.aload_n 2, 0, 0, 0, 0)]
def jc251_82 : List (Option ib_A) := [some (.invokevirtual 120, 200, 0, 11, 1483), none, none, some (.istore 6, 0, 0, 0, 0), none, some (.aload_n 2, 0, 0, 0, 0), some (.invokevirtual 90, 146, 0, 11, 1274), none]
def jc251_83 : List (Option ib_A) := [none, some (.iload 5, 0, 0, 0, 0), none, some (.if_icmp .eq 5, 672, 0, 0, 0), none, none, some (.iconst 0, 0, 0, 0, 0), some (.ireturn, 1, 0, 0, 0)]
def jc251_84 : List (Option ib_A) := [some (.iload 5, 0, 0, 0, 0), none, some (.ifCond .ne 15, 689, 0, 0, 0), none, none, some (.aload_n 3, 0, 0, 0, 0), some (.iconst 0, 0, 0, 0, 0), some (.laload, 0, 0, 0, 0)]
def jc251_85 : List (Option ib_A) := [some (.iload 6, 0, 0, 0, 0), none, some (.i2l, 0, 0, 0, 0), some (.lcmp, 0, 0, 0, 0), some (.ifCond .eq 5, 689, 0, 0, 0), none, none, some (.iconst 0, 0, 0, 0, 0)]
def jc251_86 : List (Option ib_A) := [some (.ireturn, 1, 0, 0, 0), some (.goto 724, 1413, 0, 0, 0), none, none, some (.aload_n 1, 0, 0, 0, 0), some (.aload_n 0, 0, 0, 0, 0), some (.iload 4, 0, 0, 0, 0), none]
def jc251_87 : List (Option ib_A) := [some (.iconst 1, 0, 0, 0, 0), some (.iadd, 0, 0, 0, 0), some (.iaload, 0, 0, 0, 0), some (.aload_n 3, 0, 0, 0, 0), some (.invokestatic 121, 240, 3, 0, 962), none, none, some (.istore 5, 0, 0, 0, 0)]
def jc251_88 : List (Option ib_A) := [none, some (.aload_n 2, 0, 0, 0, 0), some (.aload_n 0, 0, 0, 0, 0), some (.iload 4, 0, 0, 0, 0), none, some (.iconst 1, 0, 0, 0, 0), some (.iadd, 0, 0, 0, 0), some (.iaload, 0, 0, 0, 0)]
def jc251_89 : List (Option ib_A) := [some (.invokevirtual 123, 201, 1, 11, 1487), none, none, some (.istore 6, 0, 0, 0, 0), none, some (.aload_n 2, 0, 0, 0, 0), some (.invokevirtual 90, 146, 0, 11, 1274), none]
def jc251_90 : List (Option ib_A) := [none, some (.iload 5, 0, 0, 0, 0), none, some (.if_icmp .eq 5, 728, 0, 0, 0), none, none, some (.iconst 0, 0, 0, 0, 0), some (.ireturn, 1, 0, 0, 0)]
def jc251_91 : List (Option ib_A) := [some (.iload 5, 0, 0, 0, 0), none, some (.ifCond .ne 15, 745, 0, 0, 0), none, none, some (.aload_n 3, 0, 0, 0, 0), some (.iconst 0, 0, 0, 0, 0), some (.laload, 0, 0, 0, 0)]
def jc251_92 : List (Option ib_A) := [some (.iload 6, 0, 0, 0, 0), none, some (.i2l, 0, 0, 0, 0), some (.lcmp, 0, 0, 0, 0), some (.ifCond .eq 5, 745, 0, 0, 0), none, none, some (.iconst 0, 0, 0, 0, 0)]
def jc251_93 : List (Option ib_A) := [some (.ireturn, 1, 0, 0, 0), some (.goto 668, 1413, 0, 0, 0), none, none, some (.aload_n 1, 0, 0, 0, 0), some (.aload_n 0, 0, 0, 0, 0), some (.iload 4, 0, 0, 0, 0), none]
def jc251_94 : List (Option ib_A) := [some (.iconst 1, 0, 0, 0, 0), some (.iadd, 0, 0, 0, 0), some (.iaload, 0, 0, 0, 0), some (.invokestatic 124, 241, 2, 0, 997), none, none, some (.istore 5, 0, 0, 0, 0), none]
def jc251_95 : List (Option ib_A) := [some (.aload_n 2, 0, 0, 0, 0), some (.aload_n 0, 0, 0, 0, 0), some (.iload 4, 0, 0, 0, 0), none, some (.iconst 1, 0, 0, 0, 0), some (.iadd, 0, 0, 0, 0), some (.iaload, 0, 0, 0, 0), some (.invokevirtual 126, 202, 1, 11, 1491)]
def jc251_96 : List (Option ib_A) := [none, none, some (.aload_n 2, 0, 0, 0, 0), some (.invokevirtual 90, 146, 0, 11, 1274), none, none, some (.iload 5, 0, 0, 0, 0), none]
def jc251_97 : List (Option ib_A) := [some (.if_icmp .eq 5, 781, 0, 0, 0), none, none, some (.iconst 0, 0, 0, 0, 0), some (.ireturn, 1, 0, 0, 0), some (.goto 632, 1413, 0, 0, 0), none, none]
def jc251_98 : List (Option ib_A) := [some (.aload_n 1, 0, 0, 0, 0), some (.invokevirtual 127, 118, 0, 10, 333), none, none, some (.aload_n 2, 0, 0, 0, 0), some (.invokevirtual 130, 203, 0, 11, 1495), none, none]
def jc251_99 : List (Option ib_A) := [some (.goto 621, 1413, 0, 0, 0), none, none, some (.aload_n 1, 0, 0, 0, 0), some (.aload_n 3, 0, 0, 0, 0), some (.invokestatic 131, 242, 2, 0, 1005), none, none]
def jc251_100 : List (Option ib_A) := [some (.istore 5, 0, 0, 0, 0), none, some (.aload_n 2, 0, 0, 0, 0), some (.invokevirtual 133, 212, 0, 11, 1499), none, none, some (.istore 6, 0, 0, 0, 0), none]
def jc251_101 : List (Option ib_A) := [some (.aload_n 2, 0, 0, 0, 0), some (.invokevirtual 90, 146, 0, 11, 1274), none, none, some (.iload 5, 0, 0, 0, 0), none, some (.if_icmp .eq 5, 819, 0, 0, 0), none]
def jc251_102 : List (Option ib_A) := [none, some (.iconst 0, 0, 0, 0, 0), some (.ireturn, 1, 0, 0, 0), some (.iload 5, 0, 0, 0, 0), none, some (.ifCond .ne 15, 836, 0, 0, 0), none, none]
def jc251_103 : List (Option ib_A) := [some (.aload_n 3, 0, 0, 0, 0), some (.iconst 0, 0, 0, 0, 0), some (.laload, 0, 0, 0, 0), some (.iload 6, 0, 0, 0, 0), none, some (.i2l, 0, 0, 0, 0), some (.lcmp, 0, 0, 0, 0), some (.ifCond .eq 5, 836, 0, 0, 0)]
def jc251_104 : List (Option ib_A) := [none, none, some (.iconst 0, 0, 0, 0, 0), some (.ireturn, 1, 0, 0, 0), some (.goto 577, 1413, 0, 0, 0), none, none, some (.aload_n 1, 0, 0, 0, 0)]
def jc251_105 : List (Option ib_A) := [some (.aload_n 0, 0, 0, 0, 0), some (.iload 4, 0, 0, 0, 0), none, some (.iconst 1, 0, 0, 0, 0), some (.iadd, 0, 0, 0, 0), some (.iaload, 0, 0, 0, 0), some (.aload_n 3, 0, 0, 0, 0), some (.invokestatic 134, 243, 3, 0, 1090)]
def jc251_106 : List (Option ib_A) := [none, none, some (.istore 5, 0, 0, 0, 0), none, some (.aload_n 2, 0, 0, 0, 0), some (.aload_n 0, 0, 0, 0, 0), some (.iload 4, 0, 0, 0, 0), none]
def jc251_107 : List (Option ib_A) := [some (.iconst 1, 0, 0, 0, 0), some (.iadd, 0, 0, 0, 0), some (.iaload, 0, 0, 0, 0), some (.invokevirtual 136, 213, 1, 11, 1535), none, none, some (.istore 6, 0, 0, 0, 0), none]
def jc251_108 : List (Option ib_A) := [some (.aload_n 2, 0, 0, 0, 0), some (.invokevirtual 90, 146, 0, 11, 1274), none, none, some (.iload 5, 0, 0, 0, 0), none, some (.if_icmp .eq 5, 875, 0, 0, 0), none]
def jc251_109 : List (Option ib_A) := [none, some (.iconst 0, 0, 0, 0, 0), some (.ireturn, 1, 0, 0, 0), some (.iload 5, 0, 0, 0, 0), none, some (.ifCond .ne 15, 892, 0, 0, 0), none, none]
def jc251_110 : List (Option ib_A) := [some (.aload_n 3, 0, 0, 0, 0), some (.iconst 0, 0, 0, 0, 0), some (.laload, 0, 0, 0, 0), some (.iload 6, 0, 0, 0, 0), none, some (.i2l, 0, 0, 0, 0), some (.lcmp, 0, 0, 0, 0), some (.ifCond .eq 5, 892, 0, 0, 0)]
def jc251_111 : List (Option ib_A) := [none, none, some (.iconst 0, 0, 0, 0, 0), some (.ireturn, 1, 0, 0, 0), some (.goto 521, 1413, 0, 0, 0), none, none, some (.aload_n 1, 0, 0, 0, 0)]
def jc251_112 : List (Option ib_A) := [some (.aload_n 0, 0, 0, 0, 0), some (.iload 4, 0, 0, 0, 0), none, some (.iconst 1, 0, 0, 0, 0), some (.iadd, 0, 0, 0, 0), some (.iaload, 0, 0, 0, 0), some (.aload_n 0, 0, 0, 0, 0), some (.iload 4, 0, 0, 0, 0)]
def jc251_113 : List (Option ib_A) := [none, some (.iconst 2, 0, 0, 0, 0), some (.iadd, 0, 0, 0, 0), some (.iaload, 0, 0, 0, 0), some (.aload_n 3, 0, 0, 0, 0), some (.invokestatic 137, 244, 4, 0, 1098), none, none]
def jc251_114 : List (Option ib_A) := [some (.istore 5, 0, 0, 0, 0), none, some (.aload_n 2, 0, 0, 0, 0), some (.aload_n 0, 0, 0, 0, 0), some (.iload 4, 0, 0, 0, 0), none, some (.iconst 1, 0, 0, 0, 0), some (.iadd, 0, 0, 0, 0)]
def jc251_115 : List (Option ib_A) := [some (.iaload, 0, 0, 0, 0), some (.aload_n 0, 0, 0, 0, 0), some (.iload 4, 0, 0, 0, 0), none, some (.iconst 2, 0, 0, 0, 0), some (.iadd, 0, 0, 0, 0), some (.iaload, 0, 0, 0, 0), some (.invokevirtual 139, 214, 2, 11, 1539)]
def jc251_116 : List (Option ib_A) := [none, none, some (.istore 6, 0, 0, 0, 0), none, some (.aload_n 2, 0, 0, 0, 0), some (.invokevirtual 90, 146, 0, 11, 1274), none, none]
def jc251_117 : List (Option ib_A) := [some (.iload 5, 0, 0, 0, 0), none, some (.if_icmp .eq 5, 943, 0, 0, 0), none, none, some (.iconst 0, 0, 0, 0, 0), some (.ireturn, 1, 0, 0, 0), some (.iload 5, 0, 0, 0, 0)]
def jc251_118 : List (Option ib_A) := [none, some (.ifCond .ne 15, 960, 0, 0, 0), none, none, some (.aload_n 3, 0, 0, 0, 0), some (.iconst 0, 0, 0, 0, 0), some (.laload, 0, 0, 0, 0), some (.iload 6, 0, 0, 0, 0)]
def jc251_119 : List (Option ib_A) := [none, some (.i2l, 0, 0, 0, 0), some (.lcmp, 0, 0, 0, 0), some (.ifCond .eq 5, 960, 0, 0, 0), none, none, some (.iconst 0, 0, 0, 0, 0), some (.ireturn, 1, 0, 0, 0)]
def jc251_120 : List (Option ib_A) := [some (.goto 453, 1413, 0, 0, 0), none, none, some (.aload_n 1, 0, 0, 0, 0), some (.aload_n 0, 0, 0, 0, 0), some (.iload 4, 0, 0, 0, 0), none, some (.iconst 1, 0, 0, 0, 0)]
def jc251_121 : List (Option ib_A) := [some (.iadd, 0, 0, 0, 0), some (.iaload, 0, 0, 0, 0), some (.aload_n 0, 0, 0, 0, 0), some (.iload 4, 0, 0, 0, 0), none, some (.iconst 2, 0, 0, 0, 0), some (.iadd, 0, 0, 0, 0), some (.iaload, 0, 0, 0, 0)]
def jc251_122 : List (Option ib_A) := [some (.aload_n 3, 0, 0, 0, 0), some (.invokestatic 140, 245, 4, 0, 1108), none, none, some (.istore 5, 0, 0, 0, 0), none, some (.aload_n 2, 0, 0, 0, 0), some (.aload_n 0, 0, 0, 0, 0)]
def jc251_123 : List (Option ib_A) := [some (.iload 4, 0, 0, 0, 0), none, some (.iconst 1, 0, 0, 0, 0), some (.iadd, 0, 0, 0, 0), some (.iaload, 0, 0, 0, 0), some (.aload_n 0, 0, 0, 0, 0), some (.iload 4, 0, 0, 0, 0), none]
def jc251_124 : List (Option ib_A) := [some (.iconst 2, 0, 0, 0, 0), some (.iadd, 0, 0, 0, 0), some (.iaload, 0, 0, 0, 0), some (.invokevirtual 142, 215, 2, 11, 1547), none, none, some (.istore 6, 0, 0, 0, 0), none]
def jc251_125 : List (Option ib_A) := [some (.aload_n 2, 0, 0, 0, 0), some (.invokevirtual 90, 146, 0, 11, 1274), none, none, some (.iload 5, 0, 0, 0, 0), none, some (.if_icmp .eq 5, 1011, 0, 0, 0), none]
def jc251_126 : List (Option ib_A) := [none, some (.iconst 0, 0, 0, 0, 0), some (.ireturn, 1, 0, 0, 0), some (.iload 5, 0, 0, 0, 0), none, some (.ifCond .ne 15, 1028, 0, 0, 0), none, none]
def jc251_127 : List (Option ib_A) := [some (.aload_n 3, 0, 0, 0, 0), some (.iconst 0, 0, 0, 0, 0), some (.laload, 0, 0, 0, 0), some (.iload 6, 0, 0, 0, 0), none, some (.i2l, 0, 0, 0, 0), some (.lcmp, 0, 0, 0, 0), some (.ifCond .eq 5, 1028, 0, 0, 0)]
def jc251_128 : List (Option ib_A) := [none, none, some (.iconst 0, 0, 0, 0, 0), some (.ireturn, 1, 0, 0, 0), some (.goto 385, 1413, 0, 0, 0), none, none, some (.aload_n 1, 0, 0, 0, 0)]
def jc251_129 : List (Option ib_A) := [some (.aload_n 0, 0, 0, 0, 0), some (.iload 4, 0, 0, 0, 0), none, some (.iconst 1, 0, 0, 0, 0), some (.iadd, 0, 0, 0, 0), some (.iaload, 0, 0, 0, 0), some (.aload_n 0, 0, 0, 0, 0), some (.iload 4, 0, 0, 0, 0)]
def jc251_130 : List (Option ib_A) := [none, some (.iconst 2, 0, 0, 0, 0), some (.iadd, 0, 0, 0, 0), some (.iaload, 0, 0, 0, 0), some (.aload_n 3, 0, 0, 0, 0), some (.invokestatic 143, 246, 4, 0, 1117), none, none]
def jc251_131 : List (Option ib_A) := [some (.istore 5, 0, 0, 0, 0), none, some (.aload_n 2, 0, 0, 0, 0), some (.aload_n 0, 0, 0, 0, 0), some (.iload 4, 0, 0, 0, 0), none, some (.iconst 1, 0, 0, 0, 0), some (.iadd, 0, 0, 0, 0)]
def jc251_132 : List (Option ib_A) := [some (.iaload, 0, 0, 0, 0), some (.aload_n 0, 0, 0, 0, 0), some (.iload 4, 0, 0, 0, 0), none, some (.iconst 2, 0, 0, 0, 0), some (.iadd, 0, 0, 0, 0), some (.iaload, 0, 0, 0, 0), some (.invokevirtual 145, 216, 2, 11, 1551)]
def jc251_133 : List (Option ib_A) := [none, none, some (.istore 6, 0, 0, 0, 0), none, some (.aload_n 2, 0, 0, 0, 0), some (.invokevirtual 90, 146, 0, 11, 1274), none, none]
def jc251_134 : List (Option ib_A) := [some (.iload 5, 0, 0, 0, 0), none, some (.if_icmp .eq 5, 1079, 0, 0, 0), none, none, some (.iconst 0, 0, 0, 0, 0), some (.ireturn, 1, 0, 0, 0), some (.iload 5, 0, 0, 0, 0)]
def jc251_135 : List (Option ib_A) := [none, some (.ifCond .ne 15, 1096, 0, 0, 0), none, none, some (.aload_n 3, 0, 0, 0, 0), some (.iconst 0, 0, 0, 0, 0), some (.laload, 0, 0, 0, 0), some (.iload 6, 0, 0, 0, 0)]
def jc251_136 : List (Option ib_A) := [none, some (.i2l, 0, 0, 0, 0), some (.lcmp, 0, 0, 0, 0), some (.ifCond .eq 5, 1096, 0, 0, 0), none, none, some (.iconst 0, 0, 0, 0, 0), some (.ireturn, 1, 0, 0, 0)]
def jc251_137 : List (Option ib_A) := [some (.goto 317, 1413, 0, 0, 0), none, none, some (.aload_n 1, 0, 0, 0, 0), some (.invokevirtual 146, 124, 0, 10, 357), none, none, some (.aload_n 2, 0, 0, 0, 0)]
def jc251_138 : List (Option ib_A) := [some (.invokevirtual 149, 217, 0, 11, 1555), none, none, some (.if_icmp .eq 306, 1413, 0, 0, 0), none, none, some (.iconst 0, 0, 0, 0, 0), some (.ireturn, 1, 0, 0, 0)]
def jc251_139 : List (Option ib_A) := [some (.aload_n 1, 0, 0, 0, 0), some (.aload_n 0, 0, 0, 0, 0), some (.iload 4, 0, 0, 0, 0), none, some (.iconst 1, 0, 0, 0, 0), some (.iadd, 0, 0, 0, 0), some (.iaload, 0, 0, 0, 0), some (.aload_n 0, 0, 0, 0, 0)]
def jc251_140 : List (Option ib_A) := [some (.iload 4, 0, 0, 0, 0), none, some (.iconst 2, 0, 0, 0, 0), some (.iadd, 0, 0, 0, 0), some (.iaload, 0, 0, 0, 0), some (.aload_n 3, 0, 0, 0, 0), some (.invokestatic 150, 247, 4, 0, 1126), none]
def jc251_141 : List (Option ib_A) := [none, some (.istore 5, 0, 0, 0, 0), none, some (.aload_n 2, 0, 0, 0, 0), some (.aload_n 0, 0, 0, 0, 0), some (.iload 4, 0, 0, 0, 0), none, some (.iconst 1, 0, 0, 0, 0)]
def jc251_142 : List (Option ib_A) := [some (.iadd, 0, 0, 0, 0), some (.iaload, 0, 0, 0, 0), some (.aload_n 0, 0, 0, 0, 0), some (.iload 4, 0, 0, 0, 0), none, some (.iconst 2, 0, 0, 0, 0), some (.iadd, 0, 0, 0, 0), some (.iaload, 0, 0, 0, 0)]
def jc251_143 : List (Option ib_A) := [some (.invokevirtual 152, 218, 2, 11, 1559), none, none, some (.istore 6, 0, 0, 0, 0), none, some (.aload_n 2, 0, 0, 0, 0), some (.invokevirtual 90, 146, 0, 11, 1274), none]
def jc251_144 : List (Option ib_A) := [none, some (.iload 5, 0, 0, 0, 0), none, some (.if_icmp .eq 5, 1160, 0, 0, 0), none, none, some (.iconst 0, 0, 0, 0, 0), some (.ireturn, 1, 0, 0, 0)]
def jc251_145 : List (Option ib_A) := [some (.iload 5, 0, 0, 0, 0), none, some (.ifCond .ne 15, 1177, 0, 0, 0), none, none, some (.aload_n 3, 0, 0, 0, 0), some (.iconst 0, 0, 0, 0, 0), some (.laload, 0, 0, 0, 0)]
def jc251_146 : List (Option ib_A) := [some (.iload 6, 0, 0, 0, 0), none, some (.i2l, 0, 0, 0, 0), some (.lcmp, 0, 0, 0, 0), some (.ifCond .eq 5, 1177, 0, 0, 0), none, none, some (.iconst 0, 0, 0, 0, 0)]
def jc251_147 : List (Option ib_A) := [some (.ireturn, 1, 0, 0, 0), some (.goto 236, 1413, 0, 0, 0), none, none, some (.aload_n 1, 0, 0, 0, 0), some (.invokevirtual 153, 126, 0, 10, 361), none, none]
def jc251_148 : List (Option ib_A) := [some (.aload_n 2, 0, 0, 0, 0), some (.invokevirtual 156, 219, 0, 11, 1563), none, none, some (.if_icmp .eq 225, 1413, 0, 0, 0), none, none, some (.iconst 0, 0, 0, 0, 0)]
def jc251_149 : List (Option ib_A) := [some (.ireturn, 1, 0, 0, 0), some (.aload_n 1, 0, 0, 0, 0), some (.invokevirtual 157, 127, 0, 10, 365), none, none, some (.aload_n 2, 0, 0, 0, 0), some (.invokevirtual 160, 220, 0, 11, 1567), none]
def jc251_150 : List (Option ib_A) := [none, some (.if_icmp .eq 212, 1413, 0, 0, 0), none, none, some (.iconst 0, 0, 0, 0, 0), some (.ireturn, 1, 0, 0, 0), some (.aload_n 1, 0, 0, 0, 0), some (.invokevirtual 161, 128, 0, 10, 369)]
def jc251_151 : List (Option ib_A) := [none, none, some (.aload_n 2, 0, 0, 0, 0), some (.invokevirtual 164, 221, 0, 11, 1571), none, none, some (.if_icmp .eq 199, 1413, 0, 0, 0), none]
def jc251_152 : List (Option ib_A) := [none, some (.iconst 0, 0, 0, 0, 0), some (.ireturn, 1, 0, 0, 0), some (.aload_n 1, 0, 0, 0, 0), some (.aload_n 0, 0, 0, 0, 0), some (.iload 4, 0, 0, 0, 0), none, some (.iconst 1, 0, 0, 0, 0)]
def jc251_153 : List (Option ib_A) := [some (.iadd, 0, 0, 0, 0), some (.iaload, 0, 0, 0, 0), some (.aload_n 3, 0, 0, 0, 0), some (.invokestatic 165, 248, 3, 0, 1136), none, none, some (.istore 5, 0, 0, 0, 0), none]
def jc251_154 : List (Option ib_A) := [some (.aload_n 2, 0, 0, 0, 0), some (.aload_n 0, 0, 0, 0, 0), some (.iload 4, 0, 0, 0, 0), none, some (.iconst 1, 0, 0, 0, 0), some (.iadd, 0, 0, 0, 0), some (.iaload, 0, 0, 0, 0), some (.invokevirtual 167, 222, 1, 11, 1575)]
def jc251_155 : List (Option ib_A) := [none, none, some (.istore 6, 0, 0, 0, 0), none, some (.aload_n 2, 0, 0, 0, 0), some (.invokevirtual 90, 146, 0, 11, 1274), none, none]
def jc251_156 : List (Option ib_A) := [some (.iload 5, 0, 0, 0, 0), none, some (.if_icmp .eq 5, 1255, 0, 0, 0), none, none, some (.iconst 0, 0, 0, 0, 0), some (.ireturn, 1, 0, 0, 0), some (.iload 5, 0, 0, 0, 0)]
def jc251_157 : List (Option ib_A) := [none, some (.ifCond .ne 15, 1272, 0, 0, 0), none, none, some (.aload_n 3, 0, 0, 0, 0), some (.iconst 0, 0, 0, 0, 0), some (.laload, 0, 0, 0, 0), some (.iload 6, 0, 0, 0, 0)]
def jc251_158 : List (Option ib_A) := [none, some (.i2l, 0, 0, 0, 0), some (.lcmp, 0, 0, 0, 0), some (.ifCond .eq 5, 1272, 0, 0, 0), none, none, some (.iconst 0, 0, 0, 0, 0), some (.ireturn, 1, 0, 0, 0)]
def jc251_159 : List (Option ib_A) := [some (.goto 141, 1413, 0, 0, 0), none, none, some (.aload_n 1, 0, 0, 0, 0), some (.aload_n 0, 0, 0, 0, 0), some (.iload 4, 0, 0, 0, 0), none, some (.iconst 1, 0, 0, 0, 0)]
def jc251_160 : List (Option ib_A) := [some (.iadd, 0, 0, 0, 0), some (.iaload, 0, 0, 0, 0), some (.aload_n 3, 0, 0, 0, 0), some (.invokestatic 168, 249, 3, 0, 1143), none, none, some (.istore 5, 0, 0, 0, 0), none]
def jc251_161 : List (Option ib_A) := [some (.aload_n 2, 0, 0, 0, 0), some (.aload_n 0, 0, 0, 0, 0), some (.iload 4, 0, 0, 0, 0), none, some (.iconst 1, 0, 0, 0, 0), some (.iadd, 0, 0, 0, 0), some (.iaload, 0, 0, 0, 0), some (.invokevirtual 170, 223, 1, 11, 1579)]
def jc251_162 : List (Option ib_A) := [none, none, some (.istore 6, 0, 0, 0, 0), none, some (.aload_n 2, 0, 0, 0, 0), some (.invokevirtual 90, 146, 0, 11, 1274), none, none]
def jc251_163 : List (Option ib_A) := [some (.iload 5, 0, 0, 0, 0), none, some (.if_icmp .eq 5, 1311, 0, 0, 0), none, none, some (.iconst 0, 0, 0, 0, 0), some (.ireturn, 1, 0, 0, 0), some (.iload 5, 0, 0, 0, 0)]
def jc251_164 : List (Option ib_A) := [none, some (.ifCond .ne 15, 1328, 0, 0, 0), none, none, some (.aload_n 3, 0, 0, 0, 0), some (.iconst 0, 0, 0, 0, 0), some (.laload, 0, 0, 0, 0), some (.iload 6, 0, 0, 0, 0)]
def jc251_165 : List (Option ib_A) := [none, some (.i2l, 0, 0, 0, 0), some (.lcmp, 0, 0, 0, 0), some (.ifCond .eq 5, 1328, 0, 0, 0), none, none, some (.iconst 0, 0, 0, 0, 0), some (.ireturn, 1, 0, 0, 0)]
def jc251_166 : List (Option ib_A) := [some (.goto 85, 1413, 0, 0, 0), none, none, some (.aload_n 1, 0, 0, 0, 0), some (.aload_n 0, 0, 0, 0, 0), some (.iload 4, 0, 0, 0, 0), none, some (.iconst 1, 0, 0, 0, 0)]
def jc251_167 : List (Option ib_A) := [some (.iadd, 0, 0, 0, 0), some (.iaload, 0, 0, 0, 0), some (.aload_n 3, 0, 0, 0, 0), some (.invokestatic 171, 250, 3, 0, 1150), none, none, some (.istore 5, 0, 0, 0, 0), none]
def jc251_168 : List (Option ib_A) := [some (.aload_n 2, 0, 0, 0, 0), some (.aload_n 0, 0, 0, 0, 0), some (.iload 4, 0, 0, 0, 0), none, some (.iconst 1, 0, 0, 0, 0), some (.iadd, 0, 0, 0, 0), some (.iaload, 0, 0, 0, 0), some (.invokevirtual 173, 225, 1, 11, 1583)]
def jc251_169 : List (Option ib_A) := [none, none, some (.istore 6, 0, 0, 0, 0), none, some (.aload_n 2, 0, 0, 0, 0), some (.invokevirtual 90, 146, 0, 11, 1274), none, none]
def jc251_170 : List (Option ib_A) := [some (.iload 5, 0, 0, 0, 0), none, some (.if_icmp .eq 5, 1367, 0, 0, 0), none, none, some (.iconst 0, 0, 0, 0, 0), some (.ireturn, 1, 0, 0, 0), some (.iload 5, 0, 0, 0, 0)]
def jc251_171 : List (Option ib_A) := [none, some (.ifCond .ne 15, 1384, 0, 0, 0), none, none, some (.aload_n 3, 0, 0, 0, 0), some (.iconst 0, 0, 0, 0, 0), some (.laload, 0, 0, 0, 0), some (.iload 6, 0, 0, 0, 0)]
def jc251_172 : List (Option ib_A) := [none, some (.i2l, 0, 0, 0, 0), some (.lcmp, 0, 0, 0, 0), some (.ifCond .eq 5, 1384, 0, 0, 0), none, none, some (.iconst 0, 0, 0, 0, 0), some (.ireturn, 1, 0, 0, 0)]
def jc251_173 : List (Option ib_A) := [some (.goto 29, 1413, 0, 0, 0), none, none, some (.aload_n 1, 0, 0, 0, 0), some (.invokevirtual 174, 132, 0, 10, 373), none, none, some (.aload_n 2, 0, 0, 0, 0)]
def jc251_174 : List (Option ib_A) := [some (.invokevirtual 178, 227, 0, 11, 1591), none, none, some (.if_icmp .eq 18, 1413, 0, 0, 0), none, none, some (.iconst 0, 0, 0, 0, 0), some (.ireturn, 1, 0, 0, 0)]
def jc251_175 : List (Option ib_A) := [some (.aload_n 1, 0, 0, 0, 0), some (.invokevirtual 179, 133, 0, 10, 429), none, none, some (.aload_n 2, 0, 0, 0, 0), some (.invokevirtual 182, 230, 0, 11, 1599), none, none]
def jc251_176 : List (Option ib_A) := [some (.if_icmp .eq 5, 1413, 0, 0, 0), none, none, some (.iconst 0, 0, 0, 0, 0), some (.ireturn, 1, 0, 0, 0), some (.iinc 4 4, 0, 0, 0, 0), none, none]
def jc251_177 : List (Option ib_A) := [some (.goto (-1393), 23, 0, 0, 0), none, none, some (.iconst 1, 0, 0, 0, 0), some (.ireturn, 1, 0, 0, 0)]
def jr251_177 : List (Option ib_A) := jc251_177
def jr251_176 : List (Option ib_A) := jc251_176 ++ jr251_177
def jr251_175 : List (Option ib_A) := jc251_175 ++ jr251_176
def jr251_174 : List (Option ib_A) := jc251_174 ++ jr251_175
def jr251_173 : List (Option ib_A) := jc251_173 ++ jr251_174
def jr251_172 : List (Option ib_A) := jc251_172 ++ jr251_173
def jr251_171 : List (Option ib_A) := jc251_171 ++ jr251_172
def jr251_170 : List (Option ib_A) := jc251_170 ++ jr251_171
def jr251_169 : List (Option ib_A) := jc251_169 ++ jr251_170
def jr251_168 : List (Option ib_A) := jc251_168 ++ jr251_169
def jr251_167 : List (Option ib_A) := jc251_167 ++ jr251_168
def jr251_166 : List (Option ib_A) := jc251_166 ++ jr251_167
def jr251_165 : List (Option ib_A) := jc251_165 ++ jr251_166
def jr251_164 : List (Option ib_A) := jc251_164 ++ jr251_165
def jr251_163 : List (Option ib_A) := jc251_163 ++ jr251_164
def jr251_162 : List (Option ib_A) := jc251_162 ++ jr251_163
def jr251_161 : List (Option ib_A) := jc251_161 ++ jr251_162
def jr251_160 : List (Option ib_A) := jc251_160 ++ jr251_161
def jr251_159 : List (Option ib_A) := jc251_159 ++ jr251_160
def jr251_158 : List (Option ib_A) := jc251_158 ++ jr251_159
def jr251_157 : List (Option ib_A) := jc251_157 ++ jr251_158
def jr251_156 : List (Option ib_A) := jc251_156 ++ jr251_157
def jr251_155 : List (Option ib_A) := jc251_155 ++ jr251_156
def jr251_154 : List (Option ib_A) := jc251_154 ++ jr251_155
def jr251_153 : List (Option ib_A) := jc251_153 ++ jr251_154
def jr251_152 : List (Option ib_A) := jc251_152 ++ jr251_153
def jr251_151 : List (Option ib_A) := jc251_151 ++ jr251_152
def jr251_150 : List (Option ib_A) := jc251_150 ++ jr251_151
def jr251_149 : List (Option ib_A) := jc251_149 ++ jr251_150
def jr251_148 : List (Option ib_A) := jc251_148 ++ jr251_149
def jr251_147 : List (Option ib_A) := jc251_147 ++ jr251_148
def jr251_146 : List (Option ib_A) := jc251_146 ++ jr251_147
def jr251_145 : List (Option ib_A) := jc251_145 ++ jr251_146
def jr251_144 : List (Option ib_A) := jc251_144 ++ jr251_145
def jr251_143 : List (Option ib_A) := jc251_143 ++ jr251_144
def jr251_142 : List (Option ib_A) := jc251_142 ++ jr251_143
def jr251_141 : List (Option ib_A) := jc251_141 ++ jr251_142
def jr251_140 : List (Option ib_A) := jc251_140 ++ jr251_141
def jr251_139 : List (Option ib_A) := jc251_139 ++ jr251_140
def jr251_138 : List (Option ib_A) := jc251_138 ++ jr251_139
def jr251_137 : List (Option ib_A) := jc251_137 ++ jr251_138
def jr251_136 : List (Option ib_A) := jc251_136 ++ jr251_137
def jr251_135 : List (Option ib_A) := jc251_135 ++ jr251_136
def jr251_134 : List (Option ib_A) := jc251_134 ++ jr251_135
def jr251_133 : List (Option ib_A) := jc251_133 ++ jr251_134
def jr251_132 : List (Option ib_A) := jc251_132 ++ jr251_133
def jr251_131 : List (Option ib_A) := jc251_131 ++ jr251_132
def jr251_130 : List (Option ib_A) := jc251_130 ++ jr251_131
def jr251_129 : List (Option ib_A) := jc251_129 ++ jr251_130
def jr251_128 : List (Option ib_A) := jc251_128 ++ jr251_129
def jr251_127 : List (Option ib_A) := jc251_127 ++ jr251_128
def jr251_126 : List (Option ib_A) := jc251_126 ++ jr251_127
def jr251_125 : List (Option ib_A) := jc251_125 ++ jr251_126
def jr251_124 : List (Option ib_A) := jc251_124 ++ jr251_125
def jr251_123 : List (Option ib_A) := jc251_123 ++ jr251_124
def jr251_122 : List (Option ib_A) := jc251_122 ++ jr251_123
def jr251_121 : List (Option ib_A) := jc251_121 ++ jr251_122
def jr251_120 : List (Option ib_A) := jc251_120 ++ jr251_121
def jr251_119 : List (Option ib_A) := jc251_119 ++ jr251_120
def jr251_118 : List (Option ib_A) := jc251_118 ++ jr251_119
def jr251_117 : List (Option ib_A) := jc251_117 ++ jr251_118
def jr251_116 : List (Option ib_A) := jc251_116 ++ jr251_117
def jr251_115 : List (Option ib_A) := jc251_115 ++ jr251_116
def jr251_114 : List (Option ib_A) := jc251_114 ++ jr251_115
def jr251_113 : List (Option ib_A) := jc251_113 ++ jr251_114
def jr251_112 : List (Option ib_A) := jc251_112 ++ jr251_113
def jr251_111 : List (Option ib_A) := jc251_111 ++ jr251_112
def jr251_110 : List (Option ib_A) := jc251_110 ++ jr251_111
def jr251_109 : List (Option ib_A) := jc251_109 ++ jr251_110
def jr251_108 : List (Option ib_A) := jc251_108 ++ jr251_109
def jr251_107 : List (Option ib_A) := jc251_107 ++ jr251_108
def jr251_106 : List (Option ib_A) := jc251_106 ++ jr251_107
def jr251_105 : List (Option ib_A) := jc251_105 ++ jr251_106
def jr251_104 : List (Option ib_A) := jc251_104 ++ jr251_105
def jr251_103 : List (Option ib_A) := jc251_103 ++ jr251_104
def jr251_102 : List (Option ib_A) := jc251_102 ++ jr251_103
def jr251_101 : List (Option ib_A) := jc251_101 ++ jr251_102
def jr251_100 : List (Option ib_A) := jc251_100 ++ jr251_101
def jr251_99 : List (Option ib_A) := jc251_99 ++ jr251_100
def jr251_98 : List (Option ib_A) := jc251_98 ++ jr251_99
def jr251_97 : List (Option ib_A) := jc251_97 ++ jr251_98
def jr251_96 : List (Option ib_A) := jc251_96 ++ jr251_97
def jr251_95 : List (Option ib_A) := jc251_95 ++ jr251_96
def jr251_94 : List (Option ib_A) := jc251_94 ++ jr251_95
def jr251_93 : List (Option ib_A) := jc251_93 ++ jr251_94
def jr251_92 : List (Option ib_A) := jc251_92 ++ jr251_93
def jr251_91 : List (Option ib_A) := jc251_91 ++ jr251_92
def jr251_90 : List (Option ib_A) := jc251_90 ++ jr251_91
def jr251_89 : List (Option ib_A) := jc251_89 ++ jr251_90
def jr251_88 : List (Option ib_A) := jc251_88 ++ jr251_89
def jr251_87 : List (Option ib_A) := jc251_87 ++ jr251_88
def jr251_86 : List (Option ib_A) := jc251_86 ++ jr251_87
def jr251_85 : List (Option ib_A) := jc251_85 ++ jr251_86
def jr251_84 : List (Option ib_A) := jc251_84 ++ jr251_85
def jr251_83 : List (Option ib_A) := jc251_83 ++ jr251_84
def jr251_82 : List (Option ib_A) := jc251_82 ++ jr251_83
def jr251_81 : List (Option ib_A) := jc251_81 ++ jr251_82
def jr251_80 : List (Option ib_A) := jc251_80 ++ jr251_81
def jr251_79 : List (Option ib_A) := jc251_79 ++ jr251_80
def jr251_78 : List (Option ib_A) := jc251_78 ++ jr251_79
def jr251_77 : List (Option ib_A) := jc251_77 ++ jr251_78
def jr251_76 : List (Option ib_A) := jc251_76 ++ jr251_77
def jr251_75 : List (Option ib_A) := jc251_75 ++ jr251_76
def jr251_74 : List (Option ib_A) := jc251_74 ++ jr251_75
def jr251_73 : List (Option ib_A) := jc251_73 ++ jr251_74
def jr251_72 : List (Option ib_A) := jc251_72 ++ jr251_73
def jr251_71 : List (Option ib_A) := jc251_71 ++ jr251_72
def jr251_70 : List (Option ib_A) := jc251_70 ++ jr251_71
def jr251_69 : List (Option ib_A) := jc251_69 ++ jr251_70
def jr251_68 : List (Option ib_A) := jc251_68 ++ jr251_69
def jr251_67 : List (Option ib_A) := jc251_67 ++ jr251_68
def jr251_66 : List (Option ib_A) := jc251_66 ++ jr251_67
def jr251_65 : List (Option ib_A) := jc251_65 ++ jr251_66
def jr251_64 : List (Option ib_A) := jc251_64 ++ jr251_65
def jr251_63 : List (Option ib_A) := jc251_63 ++ jr251_64
def jr251_62 : List (Option ib_A) := jc251_62 ++ jr251_63
def jr251_61 : List (Option ib_A) := jc251_61 ++ jr251_62
def jr251_60 : List (Option ib_A) := jc251_60 ++ jr251_61
def jr251_59 : List (Option ib_A) := jc251_59 ++ jr251_60
def jr251_58 : List (Option ib_A) := jc251_58 ++ jr251_59
def jr251_57 : List (Option ib_A) := jc251_57 ++ jr251_58
def jr251_56 : List (Option ib_A) := jc251_56 ++ jr251_57
def jr251_55 : List (Option ib_A) := jc251_55 ++ jr251_56
def jr251_54 : List (Option ib_A) := jc251_54 ++ jr251_55
def jr251_53 : List (Option ib_A) := jc251_53 ++ jr251_54
def jr251_52 : List (Option ib_A) := jc251_52 ++ jr251_53
def jr251_51 : List (Option ib_A) := jc251_51 ++ jr251_52
def jr251_50 : List (Option ib_A) := jc251_50 ++ jr251_51
def jr251_49 : List (Option ib_A) := jc251_49 ++ jr251_50
def jr251_48 : List (Option ib_A) := jc251_48 ++ jr251_49
def jr251_47 : List (Option ib_A) := jc251_47 ++ jr251_48
def jr251_46 : List (Option ib_A) := jc251_46 ++ jr251_47
def jr251_45 : List (Option ib_A) := jc251_45 ++ jr251_46
def jr251_44 : List (Option ib_A) := jc251_44 ++ jr251_45
def jr251_43 : List (Option ib_A) := jc251_43 ++ jr251_44
def jr251_42 : List (Option ib_A) := jc251_42 ++ jr251_43
def jr251_41 : List (Option ib_A) := jc251_41 ++ jr251_42
def jr251_40 : List (Option ib_A) := jc251_40 ++ jr251_41
def jr251_39 : List (Option ib_A) := jc251_39 ++ jr251_40
def jr251_38 : List (Option ib_A) := jc251_38 ++ jr251_39
def jr251_37 : List (Option ib_A) := jc251_37 ++ jr251_38
def jr251_36 : List (Option ib_A) := jc251_36 ++ jr251_37
def jr251_35 : List (Option ib_A) := jc251_35 ++ jr251_36
def jr251_34 : List (Option ib_A) := jc251_34 ++ jr251_35
def jr251_33 : List (Option ib_A) := jc251_33 ++ jr251_34
def jr251_32 : List (Option ib_A) := jc251_32 ++ jr251_33
def jr251_31 : List (Option ib_A) := jc251_31 ++ jr251_32
def jr251_30 : List (Option ib_A) := jc251_30 ++ jr251_31
def jr251_29 : List (Option ib_A) := jc251_29 ++ jr251_30
def jr251_28 : List (Option ib_A) := jc251_28 ++ jr251_29
def jr251_27 : List (Option ib_A) := jc251_27 ++ jr251_28
def jr251_26 : List (Option ib_A) := jc251_26 ++ jr251_27
def jr251_25 : List (Option ib_A) := jc251_25 ++ jr251_26
def jr251_24 : List (Option ib_A) := jc251_24 ++ jr251_25
def jr251_23 : List (Option ib_A) := jc251_23 ++ jr251_24
def jr251_22 : List (Option ib_A) := jc251_22 ++ jr251_23
def jr251_21 : List (Option ib_A) := jc251_21 ++ jr251_22
def jr251_20 : List (Option ib_A) := jc251_20 ++ jr251_21
def jr251_19 : List (Option ib_A) := jc251_19 ++ jr251_20
def jr251_18 : List (Option ib_A) := jc251_18 ++ jr251_19
def jr251_17 : List (Option ib_A) := jc251_17 ++ jr251_18
def jr251_16 : List (Option ib_A) := jc251_16 ++ jr251_17
def jr251_15 : List (Option ib_A) := jc251_15 ++ jr251_16
def jr251_14 : List (Option ib_A) := jc251_14 ++ jr251_15
def jr251_13 : List (Option ib_A) := jc251_13 ++ jr251_14
def jr251_12 : List (Option ib_A) := jc251_12 ++ jr251_13
def jr251_11 : List (Option ib_A) := jc251_11 ++ jr251_12
def jr251_10 : List (Option ib_A) := jc251_10 ++ jr251_11
def jr251_9 : List (Option ib_A) := jc251_9 ++ jr251_10
def jr251_8 : List (Option ib_A) := jc251_8 ++ jr251_9
def jr251_7 : List (Option ib_A) := jc251_7 ++ jr251_8
def jr251_6 : List (Option ib_A) := jc251_6 ++ jr251_7
def jr251_5 : List (Option ib_A) := jc251_5 ++ jr251_6
def jr251_4 : List (Option ib_A) := jc251_4 ++ jr251_5
def jr251_3 : List (Option ib_A) := jc251_3 ++ jr251_4
def jr251_2 : List (Option ib_A) := jc251_2 ++ jr251_3
def jr251_1 : List (Option ib_A) := jc251_1 ++ jr251_2
def jr251_0 : List (Option ib_A) := jc251_0 ++ jr251_1
set_option maxRecDepth 100000 in
theorem jx251 : ib_c251 = jr251_0 := rfl
theorem jg251_0 : ∀ i, ib_c251[0 + i]? = jr251_0[i]? := jb_c0 jx251
theorem jg251_1 : ∀ i, ib_c251[8 + i]? = jr251_1[i]? := jb_ck jg251_0 rfl rfl rfl
theorem jg251_2 : ∀ i, ib_c251[16 + i]? = jr251_2[i]? := jb_ck jg251_1 rfl rfl rfl
theorem jg251_3 : ∀ i, ib_c251[24 + i]? = jr251_3[i]? := jb_ck jg251_2 rfl rfl rfl
theorem jg251_4 : ∀ i, ib_c251[32 + i]? = jr251_4[i]? := jb_ck jg251_3 rfl rfl rfl
theorem jg251_5 : ∀ i, ib_c251[40 + i]? = jr251_5[i]? := jb_ck jg251_4 rfl rfl rfl
theorem jg251_6 : ∀ i, ib_c251[48 + i]? = jr251_6[i]? := jb_ck jg251_5 rfl rfl rfl
theorem jg251_7 : ∀ i, ib_c251[56 + i]? = jr251_7[i]? := jb_ck jg251_6 rfl rfl rfl
theorem jg251_8 : ∀ i, ib_c251[64 + i]? = jr251_8[i]? := jb_ck jg251_7 rfl rfl rfl
theorem jg251_9 : ∀ i, ib_c251[72 + i]? = jr251_9[i]? := jb_ck jg251_8 rfl rfl rfl
theorem jg251_10 : ∀ i, ib_c251[80 + i]? = jr251_10[i]? := jb_ck jg251_9 rfl rfl rfl
theorem jg251_11 : ∀ i, ib_c251[88 + i]? = jr251_11[i]? := jb_ck jg251_10 rfl rfl rfl
theorem jg251_12 : ∀ i, ib_c251[96 + i]? = jr251_12[i]? := jb_ck jg251_11 rfl rfl rfl
theorem jg251_13 : ∀ i, ib_c251[104 + i]? = jr251_13[i]? := jb_ck jg251_12 rfl rfl rfl
theorem jg251_14 : ∀ i, ib_c251[112 + i]? = jr251_14[i]? := jb_ck jg251_13 rfl rfl rfl
theorem jg251_15 : ∀ i, ib_c251[120 + i]? = jr251_15[i]? := jb_ck jg251_14 rfl rfl rfl
theorem jg251_16 : ∀ i, ib_c251[128 + i]? = jr251_16[i]? := jb_ck jg251_15 rfl rfl rfl
theorem jg251_17 : ∀ i, ib_c251[136 + i]? = jr251_17[i]? := jb_ck jg251_16 rfl rfl rfl
theorem jg251_18 : ∀ i, ib_c251[144 + i]? = jr251_18[i]? := jb_ck jg251_17 rfl rfl rfl
theorem jg251_19 : ∀ i, ib_c251[152 + i]? = jr251_19[i]? := jb_ck jg251_18 rfl rfl rfl
theorem jg251_20 : ∀ i, ib_c251[160 + i]? = jr251_20[i]? := jb_ck jg251_19 rfl rfl rfl
theorem jg251_21 : ∀ i, ib_c251[168 + i]? = jr251_21[i]? := jb_ck jg251_20 rfl rfl rfl
theorem jg251_22 : ∀ i, ib_c251[176 + i]? = jr251_22[i]? := jb_ck jg251_21 rfl rfl rfl
theorem jg251_23 : ∀ i, ib_c251[184 + i]? = jr251_23[i]? := jb_ck jg251_22 rfl rfl rfl
theorem jg251_24 : ∀ i, ib_c251[192 + i]? = jr251_24[i]? := jb_ck jg251_23 rfl rfl rfl
theorem jg251_25 : ∀ i, ib_c251[200 + i]? = jr251_25[i]? := jb_ck jg251_24 rfl rfl rfl
theorem jg251_26 : ∀ i, ib_c251[208 + i]? = jr251_26[i]? := jb_ck jg251_25 rfl rfl rfl
theorem jg251_27 : ∀ i, ib_c251[216 + i]? = jr251_27[i]? := jb_ck jg251_26 rfl rfl rfl
theorem jg251_28 : ∀ i, ib_c251[224 + i]? = jr251_28[i]? := jb_ck jg251_27 rfl rfl rfl
theorem jg251_29 : ∀ i, ib_c251[232 + i]? = jr251_29[i]? := jb_ck jg251_28 rfl rfl rfl
theorem jg251_30 : ∀ i, ib_c251[240 + i]? = jr251_30[i]? := jb_ck jg251_29 rfl rfl rfl
theorem jg251_31 : ∀ i, ib_c251[248 + i]? = jr251_31[i]? := jb_ck jg251_30 rfl rfl rfl
theorem jg251_32 : ∀ i, ib_c251[256 + i]? = jr251_32[i]? := jb_ck jg251_31 rfl rfl rfl
theorem jg251_33 : ∀ i, ib_c251[264 + i]? = jr251_33[i]? := jb_ck jg251_32 rfl rfl rfl
theorem jg251_34 : ∀ i, ib_c251[272 + i]? = jr251_34[i]? := jb_ck jg251_33 rfl rfl rfl
theorem jg251_35 : ∀ i, ib_c251[280 + i]? = jr251_35[i]? := jb_ck jg251_34 rfl rfl rfl
theorem jg251_36 : ∀ i, ib_c251[288 + i]? = jr251_36[i]? := jb_ck jg251_35 rfl rfl rfl
theorem jg251_37 : ∀ i, ib_c251[296 + i]? = jr251_37[i]? := jb_ck jg251_36 rfl rfl rfl
theorem jg251_38 : ∀ i, ib_c251[304 + i]? = jr251_38[i]? := jb_ck jg251_37 rfl rfl rfl
theorem jg251_39 : ∀ i, ib_c251[312 + i]? = jr251_39[i]? := jb_ck jg251_38 rfl rfl rfl
theorem jg251_40 : ∀ i, ib_c251[320 + i]? = jr251_40[i]? := jb_ck jg251_39 rfl rfl rfl
theorem jg251_41 : ∀ i, ib_c251[328 + i]? = jr251_41[i]? := jb_ck jg251_40 rfl rfl rfl
theorem jg251_42 : ∀ i, ib_c251[336 + i]? = jr251_42[i]? := jb_ck jg251_41 rfl rfl rfl
theorem jg251_43 : ∀ i, ib_c251[344 + i]? = jr251_43[i]? := jb_ck jg251_42 rfl rfl rfl
theorem jg251_44 : ∀ i, ib_c251[352 + i]? = jr251_44[i]? := jb_ck jg251_43 rfl rfl rfl
theorem jg251_45 : ∀ i, ib_c251[360 + i]? = jr251_45[i]? := jb_ck jg251_44 rfl rfl rfl
theorem jg251_46 : ∀ i, ib_c251[368 + i]? = jr251_46[i]? := jb_ck jg251_45 rfl rfl rfl
theorem jg251_47 : ∀ i, ib_c251[376 + i]? = jr251_47[i]? := jb_ck jg251_46 rfl rfl rfl
theorem jg251_48 : ∀ i, ib_c251[384 + i]? = jr251_48[i]? := jb_ck jg251_47 rfl rfl rfl
theorem jg251_49 : ∀ i, ib_c251[392 + i]? = jr251_49[i]? := jb_ck jg251_48 rfl rfl rfl
theorem jg251_50 : ∀ i, ib_c251[400 + i]? = jr251_50[i]? := jb_ck jg251_49 rfl rfl rfl
theorem jg251_51 : ∀ i, ib_c251[408 + i]? = jr251_51[i]? := jb_ck jg251_50 rfl rfl rfl
theorem jg251_52 : ∀ i, ib_c251[416 + i]? = jr251_52[i]? := jb_ck jg251_51 rfl rfl rfl
theorem jg251_53 : ∀ i, ib_c251[424 + i]? = jr251_53[i]? := jb_ck jg251_52 rfl rfl rfl
theorem jg251_54 : ∀ i, ib_c251[432 + i]? = jr251_54[i]? := jb_ck jg251_53 rfl rfl rfl
theorem jg251_55 : ∀ i, ib_c251[440 + i]? = jr251_55[i]? := jb_ck jg251_54 rfl rfl rfl
theorem jg251_56 : ∀ i, ib_c251[448 + i]? = jr251_56[i]? := jb_ck jg251_55 rfl rfl rfl
theorem jg251_57 : ∀ i, ib_c251[456 + i]? = jr251_57[i]? := jb_ck jg251_56 rfl rfl rfl
theorem jg251_58 : ∀ i, ib_c251[464 + i]? = jr251_58[i]? := jb_ck jg251_57 rfl rfl rfl
theorem jg251_59 : ∀ i, ib_c251[472 + i]? = jr251_59[i]? := jb_ck jg251_58 rfl rfl rfl
theorem jg251_60 : ∀ i, ib_c251[480 + i]? = jr251_60[i]? := jb_ck jg251_59 rfl rfl rfl
theorem jg251_61 : ∀ i, ib_c251[488 + i]? = jr251_61[i]? := jb_ck jg251_60 rfl rfl rfl
theorem jg251_62 : ∀ i, ib_c251[496 + i]? = jr251_62[i]? := jb_ck jg251_61 rfl rfl rfl
theorem jg251_63 : ∀ i, ib_c251[504 + i]? = jr251_63[i]? := jb_ck jg251_62 rfl rfl rfl
theorem jg251_64 : ∀ i, ib_c251[512 + i]? = jr251_64[i]? := jb_ck jg251_63 rfl rfl rfl
theorem jg251_65 : ∀ i, ib_c251[520 + i]? = jr251_65[i]? := jb_ck jg251_64 rfl rfl rfl
theorem jg251_66 : ∀ i, ib_c251[528 + i]? = jr251_66[i]? := jb_ck jg251_65 rfl rfl rfl
theorem jg251_67 : ∀ i, ib_c251[536 + i]? = jr251_67[i]? := jb_ck jg251_66 rfl rfl rfl
theorem jg251_68 : ∀ i, ib_c251[544 + i]? = jr251_68[i]? := jb_ck jg251_67 rfl rfl rfl
theorem jg251_69 : ∀ i, ib_c251[552 + i]? = jr251_69[i]? := jb_ck jg251_68 rfl rfl rfl
theorem jg251_70 : ∀ i, ib_c251[560 + i]? = jr251_70[i]? := jb_ck jg251_69 rfl rfl rfl
theorem jg251_71 : ∀ i, ib_c251[568 + i]? = jr251_71[i]? := jb_ck jg251_70 rfl rfl rfl
theorem jg251_72 : ∀ i, ib_c251[576 + i]? = jr251_72[i]? := jb_ck jg251_71 rfl rfl rfl
theorem jg251_73 : ∀ i, ib_c251[584 + i]? = jr251_73[i]? := jb_ck jg251_72 rfl rfl rfl
theorem jg251_74 : ∀ i, ib_c251[592 + i]? = jr251_74[i]? := jb_ck jg251_73 rfl rfl rfl
theorem jg251_75 : ∀ i, ib_c251[600 + i]? = jr251_75[i]? := jb_ck jg251_74 rfl rfl rfl
theorem jg251_76 : ∀ i, ib_c251[608 + i]? = jr251_76[i]? := jb_ck jg251_75 rfl rfl rfl
theorem jg251_77 : ∀ i, ib_c251[616 + i]? = jr251_77[i]? := jb_ck jg251_76 rfl rfl rfl
theorem jg251_78 : ∀ i, ib_c251[624 + i]? = jr251_78[i]? := jb_ck jg251_77 rfl rfl rfl
theorem jg251_79 : ∀ i, ib_c251[632 + i]? = jr251_79[i]? := jb_ck jg251_78 rfl rfl rfl
theorem jg251_80 : ∀ i, ib_c251[640 + i]? = jr251_80[i]? := jb_ck jg251_79 rfl rfl rfl
theorem jg251_81 : ∀ i, ib_c251[648 + i]? = jr251_81[i]? := jb_ck jg251_80 rfl rfl rfl
theorem jg251_82 : ∀ i, ib_c251[656 + i]? = jr251_82[i]? := jb_ck jg251_81 rfl rfl rfl
theorem jg251_83 : ∀ i, ib_c251[664 + i]? = jr251_83[i]? := jb_ck jg251_82 rfl rfl rfl
theorem jg251_84 : ∀ i, ib_c251[672 + i]? = jr251_84[i]? := jb_ck jg251_83 rfl rfl rfl
theorem jg251_85 : ∀ i, ib_c251[680 + i]? = jr251_85[i]? := jb_ck jg251_84 rfl rfl rfl
theorem jg251_86 : ∀ i, ib_c251[688 + i]? = jr251_86[i]? := jb_ck jg251_85 rfl rfl rfl
theorem jg251_87 : ∀ i, ib_c251[696 + i]? = jr251_87[i]? := jb_ck jg251_86 rfl rfl rfl
theorem jg251_88 : ∀ i, ib_c251[704 + i]? = jr251_88[i]? := jb_ck jg251_87 rfl rfl rfl
theorem jg251_89 : ∀ i, ib_c251[712 + i]? = jr251_89[i]? := jb_ck jg251_88 rfl rfl rfl
theorem jg251_90 : ∀ i, ib_c251[720 + i]? = jr251_90[i]? := jb_ck jg251_89 rfl rfl rfl
theorem jg251_91 : ∀ i, ib_c251[728 + i]? = jr251_91[i]? := jb_ck jg251_90 rfl rfl rfl
theorem jg251_92 : ∀ i, ib_c251[736 + i]? = jr251_92[i]? := jb_ck jg251_91 rfl rfl rfl
theorem jg251_93 : ∀ i, ib_c251[744 + i]? = jr251_93[i]? := jb_ck jg251_92 rfl rfl rfl
theorem jg251_94 : ∀ i, ib_c251[752 + i]? = jr251_94[i]? := jb_ck jg251_93 rfl rfl rfl
theorem jg251_95 : ∀ i, ib_c251[760 + i]? = jr251_95[i]? := jb_ck jg251_94 rfl rfl rfl
theorem jg251_96 : ∀ i, ib_c251[768 + i]? = jr251_96[i]? := jb_ck jg251_95 rfl rfl rfl
theorem jg251_97 : ∀ i, ib_c251[776 + i]? = jr251_97[i]? := jb_ck jg251_96 rfl rfl rfl
theorem jg251_98 : ∀ i, ib_c251[784 + i]? = jr251_98[i]? := jb_ck jg251_97 rfl rfl rfl
theorem jg251_99 : ∀ i, ib_c251[792 + i]? = jr251_99[i]? := jb_ck jg251_98 rfl rfl rfl
theorem jg251_100 : ∀ i, ib_c251[800 + i]? = jr251_100[i]? := jb_ck jg251_99 rfl rfl rfl
theorem jg251_101 : ∀ i, ib_c251[808 + i]? = jr251_101[i]? := jb_ck jg251_100 rfl rfl rfl
theorem jg251_102 : ∀ i, ib_c251[816 + i]? = jr251_102[i]? := jb_ck jg251_101 rfl rfl rfl
theorem jg251_103 : ∀ i, ib_c251[824 + i]? = jr251_103[i]? := jb_ck jg251_102 rfl rfl rfl
theorem jg251_104 : ∀ i, ib_c251[832 + i]? = jr251_104[i]? := jb_ck jg251_103 rfl rfl rfl
theorem jg251_105 : ∀ i, ib_c251[840 + i]? = jr251_105[i]? := jb_ck jg251_104 rfl rfl rfl
theorem jg251_106 : ∀ i, ib_c251[848 + i]? = jr251_106[i]? := jb_ck jg251_105 rfl rfl rfl
theorem jg251_107 : ∀ i, ib_c251[856 + i]? = jr251_107[i]? := jb_ck jg251_106 rfl rfl rfl
theorem jg251_108 : ∀ i, ib_c251[864 + i]? = jr251_108[i]? := jb_ck jg251_107 rfl rfl rfl
theorem jg251_109 : ∀ i, ib_c251[872 + i]? = jr251_109[i]? := jb_ck jg251_108 rfl rfl rfl
theorem jg251_110 : ∀ i, ib_c251[880 + i]? = jr251_110[i]? := jb_ck jg251_109 rfl rfl rfl
theorem jg251_111 : ∀ i, ib_c251[888 + i]? = jr251_111[i]? := jb_ck jg251_110 rfl rfl rfl
theorem jg251_112 : ∀ i, ib_c251[896 + i]? = jr251_112[i]? := jb_ck jg251_111 rfl rfl rfl
theorem jg251_113 : ∀ i, ib_c251[904 + i]? = jr251_113[i]? := jb_ck jg251_112 rfl rfl rfl
theorem jg251_114 : ∀ i, ib_c251[912 + i]? = jr251_114[i]? := jb_ck jg251_113 rfl rfl rfl
theorem jg251_115 : ∀ i, ib_c251[920 + i]? = jr251_115[i]? := jb_ck jg251_114 rfl rfl rfl
theorem jg251_116 : ∀ i, ib_c251[928 + i]? = jr251_116[i]? := jb_ck jg251_115 rfl rfl rfl
theorem jg251_117 : ∀ i, ib_c251[936 + i]? = jr251_117[i]? := jb_ck jg251_116 rfl rfl rfl
theorem jg251_118 : ∀ i, ib_c251[944 + i]? = jr251_118[i]? := jb_ck jg251_117 rfl rfl rfl
theorem jg251_119 : ∀ i, ib_c251[952 + i]? = jr251_119[i]? := jb_ck jg251_118 rfl rfl rfl
theorem jg251_120 : ∀ i, ib_c251[960 + i]? = jr251_120[i]? := jb_ck jg251_119 rfl rfl rfl
theorem jg251_121 : ∀ i, ib_c251[968 + i]? = jr251_121[i]? := jb_ck jg251_120 rfl rfl rfl
theorem jg251_122 : ∀ i, ib_c251[976 + i]? = jr251_122[i]? := jb_ck jg251_121 rfl rfl rfl
theorem jg251_123 : ∀ i, ib_c251[984 + i]? = jr251_123[i]? := jb_ck jg251_122 rfl rfl rfl
theorem jg251_124 : ∀ i, ib_c251[992 + i]? = jr251_124[i]? := jb_ck jg251_123 rfl rfl rfl
theorem jg251_125 : ∀ i, ib_c251[1000 + i]? = jr251_125[i]? := jb_ck jg251_124 rfl rfl rfl
theorem jg251_126 : ∀ i, ib_c251[1008 + i]? = jr251_126[i]? := jb_ck jg251_125 rfl rfl rfl
theorem jg251_127 : ∀ i, ib_c251[1016 + i]? = jr251_127[i]? := jb_ck jg251_126 rfl rfl rfl
theorem jg251_128 : ∀ i, ib_c251[1024 + i]? = jr251_128[i]? := jb_ck jg251_127 rfl rfl rfl
theorem jg251_129 : ∀ i, ib_c251[1032 + i]? = jr251_129[i]? := jb_ck jg251_128 rfl rfl rfl
theorem jg251_130 : ∀ i, ib_c251[1040 + i]? = jr251_130[i]? := jb_ck jg251_129 rfl rfl rfl
theorem jg251_131 : ∀ i, ib_c251[1048 + i]? = jr251_131[i]? := jb_ck jg251_130 rfl rfl rfl
theorem jg251_132 : ∀ i, ib_c251[1056 + i]? = jr251_132[i]? := jb_ck jg251_131 rfl rfl rfl
theorem jg251_133 : ∀ i, ib_c251[1064 + i]? = jr251_133[i]? := jb_ck jg251_132 rfl rfl rfl
theorem jg251_134 : ∀ i, ib_c251[1072 + i]? = jr251_134[i]? := jb_ck jg251_133 rfl rfl rfl
theorem jg251_135 : ∀ i, ib_c251[1080 + i]? = jr251_135[i]? := jb_ck jg251_134 rfl rfl rfl
theorem jg251_136 : ∀ i, ib_c251[1088 + i]? = jr251_136[i]? := jb_ck jg251_135 rfl rfl rfl
theorem jg251_137 : ∀ i, ib_c251[1096 + i]? = jr251_137[i]? := jb_ck jg251_136 rfl rfl rfl
theorem jg251_138 : ∀ i, ib_c251[1104 + i]? = jr251_138[i]? := jb_ck jg251_137 rfl rfl rfl
theorem jg251_139 : ∀ i, ib_c251[1112 + i]? = jr251_139[i]? := jb_ck jg251_138 rfl rfl rfl
theorem jg251_140 : ∀ i, ib_c251[1120 + i]? = jr251_140[i]? := jb_ck jg251_139 rfl rfl rfl
theorem jg251_141 : ∀ i, ib_c251[1128 + i]? = jr251_141[i]? := jb_ck jg251_140 rfl rfl rfl
theorem jg251_142 : ∀ i, ib_c251[1136 + i]? = jr251_142[i]? := jb_ck jg251_141 rfl rfl rfl
theorem jg251_143 : ∀ i, ib_c251[1144 + i]? = jr251_143[i]? := jb_ck jg251_142 rfl rfl rfl
theorem jg251_144 : ∀ i, ib_c251[1152 + i]? = jr251_144[i]? := jb_ck jg251_143 rfl rfl rfl
theorem jg251_145 : ∀ i, ib_c251[1160 + i]? = jr251_145[i]? := jb_ck jg251_144 rfl rfl rfl
theorem jg251_146 : ∀ i, ib_c251[1168 + i]? = jr251_146[i]? := jb_ck jg251_145 rfl rfl rfl
theorem jg251_147 : ∀ i, ib_c251[1176 + i]? = jr251_147[i]? := jb_ck jg251_146 rfl rfl rfl
theorem jg251_148 : ∀ i, ib_c251[1184 + i]? = jr251_148[i]? := jb_ck jg251_147 rfl rfl rfl
theorem jg251_149 : ∀ i, ib_c251[1192 + i]? = jr251_149[i]? := jb_ck jg251_148 rfl rfl rfl
theorem jg251_150 : ∀ i, ib_c251[1200 + i]? = jr251_150[i]? := jb_ck jg251_149 rfl rfl rfl
theorem jg251_151 : ∀ i, ib_c251[1208 + i]? = jr251_151[i]? := jb_ck jg251_150 rfl rfl rfl
theorem jg251_152 : ∀ i, ib_c251[1216 + i]? = jr251_152[i]? := jb_ck jg251_151 rfl rfl rfl
theorem jg251_153 : ∀ i, ib_c251[1224 + i]? = jr251_153[i]? := jb_ck jg251_152 rfl rfl rfl
theorem jg251_154 : ∀ i, ib_c251[1232 + i]? = jr251_154[i]? := jb_ck jg251_153 rfl rfl rfl
theorem jg251_155 : ∀ i, ib_c251[1240 + i]? = jr251_155[i]? := jb_ck jg251_154 rfl rfl rfl
theorem jg251_156 : ∀ i, ib_c251[1248 + i]? = jr251_156[i]? := jb_ck jg251_155 rfl rfl rfl
theorem jg251_157 : ∀ i, ib_c251[1256 + i]? = jr251_157[i]? := jb_ck jg251_156 rfl rfl rfl
theorem jg251_158 : ∀ i, ib_c251[1264 + i]? = jr251_158[i]? := jb_ck jg251_157 rfl rfl rfl
theorem jg251_159 : ∀ i, ib_c251[1272 + i]? = jr251_159[i]? := jb_ck jg251_158 rfl rfl rfl
theorem jg251_160 : ∀ i, ib_c251[1280 + i]? = jr251_160[i]? := jb_ck jg251_159 rfl rfl rfl
theorem jg251_161 : ∀ i, ib_c251[1288 + i]? = jr251_161[i]? := jb_ck jg251_160 rfl rfl rfl
theorem jg251_162 : ∀ i, ib_c251[1296 + i]? = jr251_162[i]? := jb_ck jg251_161 rfl rfl rfl
theorem jg251_163 : ∀ i, ib_c251[1304 + i]? = jr251_163[i]? := jb_ck jg251_162 rfl rfl rfl
theorem jg251_164 : ∀ i, ib_c251[1312 + i]? = jr251_164[i]? := jb_ck jg251_163 rfl rfl rfl
theorem jg251_165 : ∀ i, ib_c251[1320 + i]? = jr251_165[i]? := jb_ck jg251_164 rfl rfl rfl
theorem jg251_166 : ∀ i, ib_c251[1328 + i]? = jr251_166[i]? := jb_ck jg251_165 rfl rfl rfl
theorem jg251_167 : ∀ i, ib_c251[1336 + i]? = jr251_167[i]? := jb_ck jg251_166 rfl rfl rfl
theorem jg251_168 : ∀ i, ib_c251[1344 + i]? = jr251_168[i]? := jb_ck jg251_167 rfl rfl rfl
theorem jg251_169 : ∀ i, ib_c251[1352 + i]? = jr251_169[i]? := jb_ck jg251_168 rfl rfl rfl
theorem jg251_170 : ∀ i, ib_c251[1360 + i]? = jr251_170[i]? := jb_ck jg251_169 rfl rfl rfl
theorem jg251_171 : ∀ i, ib_c251[1368 + i]? = jr251_171[i]? := jb_ck jg251_170 rfl rfl rfl
theorem jg251_172 : ∀ i, ib_c251[1376 + i]? = jr251_172[i]? := jb_ck jg251_171 rfl rfl rfl
theorem jg251_173 : ∀ i, ib_c251[1384 + i]? = jr251_173[i]? := jb_ck jg251_172 rfl rfl rfl
theorem jg251_174 : ∀ i, ib_c251[1392 + i]? = jr251_174[i]? := jb_ck jg251_173 rfl rfl rfl
theorem jg251_175 : ∀ i, ib_c251[1400 + i]? = jr251_175[i]? := jb_ck jg251_174 rfl rfl rfl
theorem jg251_176 : ∀ i, ib_c251[1408 + i]? = jr251_176[i]? := jb_ck jg251_175 rfl rfl rfl
theorem jg251_177 : ∀ i, ib_c251[1416 + i]? = jr251_177[i]? := jb_ck jg251_176 rfl rfl rfl
theorem jq251_0 : ib_c251[0]? = (some (some (.new 8, 10, 0, 0, 19)) : Option (Option ib_A)) := (jg251_0 0).trans rfl
theorem jq251_3 : ib_c251[3]? = (some (some (.dup, 0, 0, 0, 0)) : Option (Option ib_A)) := (jg251_0 3).trans rfl
theorem jq251_4 : ib_c251[4]? = (some (some (.invokespecial 80, 106, 0, 10, 21)) : Option (Option ib_A)) := (jg251_0 4).trans rfl
theorem jq251_7 : ib_c251[7]? = (some (some (.astore_n 1, 0, 0, 0, 0)) : Option (Option ib_A)) := (jg251_0 7).trans rfl
theorem jq251_8 : ib_c251[8]? = (some (some (.new 81, 11, 0, 0, 1158)) : Option (Option ib_A)) := (jg251_1 0).trans rfl
theorem jq251_11 : ib_c251[11]? = (some (some (.dup, 0, 0, 0, 0)) : Option (Option ib_A)) := (jg251_1 3).trans rfl
theorem jq251_12 : ib_c251[12]? = (some (some (.invokespecial 83, 145, 0, 11, 1160)) : Option (Option ib_A)) := (jg251_1 4).trans rfl
theorem jq251_15 : ib_c251[15]? = (some (some (.astore_n 2, 0, 0, 0, 0)) : Option (Option ib_A)) := (jg251_1 7).trans rfl
theorem jq251_16 : ib_c251[16]? = (some (some (.iconst 1, 0, 0, 0, 0)) : Option (Option ib_A)) := (jg251_2 0).trans rfl
theorem jq251_17 : ib_c251[17]? = (some (some (.newarray .long, 102, 0, 0, 1610)) : Option (Option ib_A)) := (jg251_2 1).trans rfl
theorem jq251_19 : ib_c251[19]? = (some (some (.astore_n 3, 0, 0, 0, 0)) : Option (Option ib_A)) := (jg251_2 3).trans rfl
theorem jq251_20 : ib_c251[20]? = (some (some (.iconst 0, 0, 0, 0, 0)) : Option (Option ib_A)) := (jg251_2 4).trans rfl
theorem jq251_21 : ib_c251[21]? = (some (some (.istore 4, 0, 0, 0, 0)) : Option (Option ib_A)) := (jg251_2 5).trans rfl
theorem jq251_23 : ib_c251[23]? = (some (some (.iload 4, 0, 0, 0, 0)) : Option (Option ib_A)) := (jg251_2 7).trans rfl
theorem jq251_25 : ib_c251[25]? = (some (some (.aload_n 0, 0, 0, 0, 0)) : Option (Option ib_A)) := (jg251_3 1).trans rfl
theorem jq251_26 : ib_c251[26]? = (some (some (.arraylength, 0, 0, 0, 0)) : Option (Option ib_A)) := (jg251_3 2).trans rfl
theorem jq251_27 : ib_c251[27]? = (some (some (.iconst 4, 0, 0, 0, 0)) : Option (Option ib_A)) := (jg251_3 3).trans rfl
theorem jq251_28 : ib_c251[28]? = (some (some (.isub, 0, 0, 0, 0)) : Option (Option ib_A)) := (jg251_3 4).trans rfl
theorem jq251_29 : ib_c251[29]? = (some (some (.if_icmp .gt 1390, 1419, 0, 0, 0)) : Option (Option ib_A)) := (jg251_3 5).trans rfl
theorem jq251_32 : ib_c251[32]? = (some (some (.aload_n 0, 0, 0, 0, 0)) : Option (Option ib_A)) := (jg251_4 0).trans rfl
theorem jq251_33 : ib_c251[33]? = (some (some (.iload 4, 0, 0, 0, 0)) : Option (Option ib_A)) := (jg251_4 1).trans rfl
theorem jq251_35 : ib_c251[35]? = (some (some (.iaload, 0, 0, 0, 0)) : Option (Option ib_A)) := (jg251_4 3).trans rfl
theorem jq251_36 : ib_c251[36]? = (some (some (.bipush 31, 0, 0, 0, 0)) : Option (Option ib_A)) := (jg251_4 4).trans rfl
theorem jq251_38 : ib_c251[38]? = (some (some (.iand, 0, 0, 0, 0)) : Option (Option ib_A)) := (jg251_4 6).trans rfl
theorem jq251_39 : ib_c251[39]? = (some (some (.tableswitch 1374 0 26 #[121, 157, 237, 305, 373, 429, 497, 553, 609, 653, 709, 745, 756, 800, 856, 924, 992, 1060, 1073, 1141, 1154, 1167, 1180, 1236, 1292, 1348, 1361], 0, 0, 121, 0)) : Option (Option ib_A)) := (jg251_4 7).trans rfl
theorem jq251_160 : ib_c251[160]? = (some (some (.aload_n 1, 0, 0, 0, 0)) : Option (Option ib_A)) := (jg251_20 0).trans rfl
theorem jq251_161 : ib_c251[161]? = (some (some (.aload_n 0, 0, 0, 0, 0)) : Option (Option ib_A)) := (jg251_20 1).trans rfl
theorem jq251_162 : ib_c251[162]? = (some (some (.iload 4, 0, 0, 0, 0)) : Option (Option ib_A)) := (jg251_20 2).trans rfl
theorem jq251_164 : ib_c251[164]? = (some (some (.iconst 1, 0, 0, 0, 0)) : Option (Option ib_A)) := (jg251_20 4).trans rfl
theorem jq251_165 : ib_c251[165]? = (some (some (.iadd, 0, 0, 0, 0)) : Option (Option ib_A)) := (jg251_20 5).trans rfl
theorem jq251_166 : ib_c251[166]? = (some (some (.iaload, 0, 0, 0, 0)) : Option (Option ib_A)) := (jg251_20 6).trans rfl
theorem jq251_167 : ib_c251[167]? = (some (some (.invokestatic 84, 231, 2, 0, 467)) : Option (Option ib_A)) := (jg251_20 7).trans rfl
theorem jq251_170 : ib_c251[170]? = (some (some (.istore 5, 0, 0, 0, 0)) : Option (Option ib_A)) := (jg251_21 2).trans rfl
theorem jq251_172 : ib_c251[172]? = (some (some (.aload_n 2, 0, 0, 0, 0)) : Option (Option ib_A)) := (jg251_21 4).trans rfl
theorem jq251_173 : ib_c251[173]? = (some (some (.aload_n 0, 0, 0, 0, 0)) : Option (Option ib_A)) := (jg251_21 5).trans rfl
theorem jq251_174 : ib_c251[174]? = (some (some (.iload 4, 0, 0, 0, 0)) : Option (Option ib_A)) := (jg251_21 6).trans rfl
theorem jq251_176 : ib_c251[176]? = (some (some (.iconst 1, 0, 0, 0, 0)) : Option (Option ib_A)) := (jg251_22 0).trans rfl
theorem jq251_177 : ib_c251[177]? = (some (some (.iadd, 0, 0, 0, 0)) : Option (Option ib_A)) := (jg251_22 1).trans rfl
theorem jq251_178 : ib_c251[178]? = (some (some (.iaload, 0, 0, 0, 0)) : Option (Option ib_A)) := (jg251_22 2).trans rfl
theorem jq251_179 : ib_c251[179]? = (some (some (.invokevirtual 89, 191, 1, 11, 1278)) : Option (Option ib_A)) := (jg251_22 3).trans rfl
theorem jq251_182 : ib_c251[182]? = (some (some (.aload_n 2, 0, 0, 0, 0)) : Option (Option ib_A)) := (jg251_22 6).trans rfl
theorem jq251_183 : ib_c251[183]? = (some (some (.invokevirtual 90, 146, 0, 11, 1274)) : Option (Option ib_A)) := (jg251_22 7).trans rfl
theorem jq251_186 : ib_c251[186]? = (some (some (.iload 5, 0, 0, 0, 0)) : Option (Option ib_A)) := (jg251_23 2).trans rfl
theorem jq251_188 : ib_c251[188]? = (some (some (.if_icmp .eq 5, 193, 0, 0, 0)) : Option (Option ib_A)) := (jg251_23 4).trans rfl
theorem jq251_191 : ib_c251[191]? = (some (some (.iconst 0, 0, 0, 0, 0)) : Option (Option ib_A)) := (jg251_23 7).trans rfl
theorem jq251_192 : ib_c251[192]? = (some (some (.ireturn, 1, 0, 0, 0)) : Option (Option ib_A)) := (jg251_24 0).trans rfl
theorem jq251_193 : ib_c251[193]? = (some (some (.goto 1220, 1413, 0, 0, 0)) : Option (Option ib_A)) := (jg251_24 1).trans rfl
theorem jq251_196 : ib_c251[196]? = (some (some (.aload_n 1, 0, 0, 0, 0)) : Option (Option ib_A)) := (jg251_24 4).trans rfl
theorem jq251_197 : ib_c251[197]? = (some (some (.aload_n 0, 0, 0, 0, 0)) : Option (Option ib_A)) := (jg251_24 5).trans rfl
theorem jq251_198 : ib_c251[198]? = (some (some (.iload 4, 0, 0, 0, 0)) : Option (Option ib_A)) := (jg251_24 6).trans rfl
theorem jq251_200 : ib_c251[200]? = (some (some (.iconst 1, 0, 0, 0, 0)) : Option (Option ib_A)) := (jg251_25 0).trans rfl
theorem jq251_201 : ib_c251[201]? = (some (some (.iadd, 0, 0, 0, 0)) : Option (Option ib_A)) := (jg251_25 1).trans rfl
theorem jq251_202 : ib_c251[202]? = (some (some (.iaload, 0, 0, 0, 0)) : Option (Option ib_A)) := (jg251_25 2).trans rfl
theorem jq251_203 : ib_c251[203]? = (some (some (.aload_n 0, 0, 0, 0, 0)) : Option (Option ib_A)) := (jg251_25 3).trans rfl
theorem jq251_204 : ib_c251[204]? = (some (some (.iload 4, 0, 0, 0, 0)) : Option (Option ib_A)) := (jg251_25 4).trans rfl
theorem jq251_206 : ib_c251[206]? = (some (some (.iconst 2, 0, 0, 0, 0)) : Option (Option ib_A)) := (jg251_25 6).trans rfl
theorem jq251_207 : ib_c251[207]? = (some (some (.iadd, 0, 0, 0, 0)) : Option (Option ib_A)) := (jg251_25 7).trans rfl
theorem jq251_208 : ib_c251[208]? = (some (some (.iaload, 0, 0, 0, 0)) : Option (Option ib_A)) := (jg251_26 0).trans rfl
theorem jq251_209 : ib_c251[209]? = (some (some (.aload_n 0, 0, 0, 0, 0)) : Option (Option ib_A)) := (jg251_26 1).trans rfl
theorem jq251_210 : ib_c251[210]? = (some (some (.iload 4, 0, 0, 0, 0)) : Option (Option ib_A)) := (jg251_26 2).trans rfl
theorem jq251_212 : ib_c251[212]? = (some (some (.iconst 3, 0, 0, 0, 0)) : Option (Option ib_A)) := (jg251_26 4).trans rfl
theorem jq251_213 : ib_c251[213]? = (some (some (.iadd, 0, 0, 0, 0)) : Option (Option ib_A)) := (jg251_26 5).trans rfl
theorem jq251_214 : ib_c251[214]? = (some (some (.iaload, 0, 0, 0, 0)) : Option (Option ib_A)) := (jg251_26 6).trans rfl
theorem jq251_215 : ib_c251[215]? = (some (some (.aload_n 3, 0, 0, 0, 0)) : Option (Option ib_A)) := (jg251_26 7).trans rfl
theorem jq251_216 : ib_c251[216]? = (some (some (.invokestatic 93, 232, 5, 0, 572)) : Option (Option ib_A)) := (jg251_27 0).trans rfl
theorem jq251_219 : ib_c251[219]? = (some (some (.istore 5, 0, 0, 0, 0)) : Option (Option ib_A)) := (jg251_27 3).trans rfl
theorem jq251_221 : ib_c251[221]? = (some (some (.aload_n 2, 0, 0, 0, 0)) : Option (Option ib_A)) := (jg251_27 5).trans rfl
theorem jq251_222 : ib_c251[222]? = (some (some (.aload_n 0, 0, 0, 0, 0)) : Option (Option ib_A)) := (jg251_27 6).trans rfl
theorem jq251_223 : ib_c251[223]? = (some (some (.iload 4, 0, 0, 0, 0)) : Option (Option ib_A)) := (jg251_27 7).trans rfl
theorem jq251_225 : ib_c251[225]? = (some (some (.iconst 1, 0, 0, 0, 0)) : Option (Option ib_A)) := (jg251_28 1).trans rfl
theorem jq251_226 : ib_c251[226]? = (some (some (.iadd, 0, 0, 0, 0)) : Option (Option ib_A)) := (jg251_28 2).trans rfl
theorem jq251_227 : ib_c251[227]? = (some (some (.iaload, 0, 0, 0, 0)) : Option (Option ib_A)) := (jg251_28 3).trans rfl
theorem jq251_228 : ib_c251[228]? = (some (some (.aload_n 0, 0, 0, 0, 0)) : Option (Option ib_A)) := (jg251_28 4).trans rfl
theorem jq251_229 : ib_c251[229]? = (some (some (.iload 4, 0, 0, 0, 0)) : Option (Option ib_A)) := (jg251_28 5).trans rfl
theorem jq251_231 : ib_c251[231]? = (some (some (.iconst 2, 0, 0, 0, 0)) : Option (Option ib_A)) := (jg251_28 7).trans rfl
theorem jq251_232 : ib_c251[232]? = (some (some (.iadd, 0, 0, 0, 0)) : Option (Option ib_A)) := (jg251_29 0).trans rfl
theorem jq251_233 : ib_c251[233]? = (some (some (.iaload, 0, 0, 0, 0)) : Option (Option ib_A)) := (jg251_29 1).trans rfl
theorem jq251_234 : ib_c251[234]? = (some (some (.aload_n 0, 0, 0, 0, 0)) : Option (Option ib_A)) := (jg251_29 2).trans rfl
theorem jq251_235 : ib_c251[235]? = (some (some (.iload 4, 0, 0, 0, 0)) : Option (Option ib_A)) := (jg251_29 3).trans rfl
theorem jq251_237 : ib_c251[237]? = (some (some (.iconst 3, 0, 0, 0, 0)) : Option (Option ib_A)) := (jg251_29 5).trans rfl
theorem jq251_238 : ib_c251[238]? = (some (some (.iadd, 0, 0, 0, 0)) : Option (Option ib_A)) := (jg251_29 6).trans rfl
theorem jq251_239 : ib_c251[239]? = (some (some (.iaload, 0, 0, 0, 0)) : Option (Option ib_A)) := (jg251_29 7).trans rfl
theorem jq251_240 : ib_c251[240]? = (some (some (.invokevirtual 96, 193, 3, 11, 1292)) : Option (Option ib_A)) := (jg251_30 0).trans rfl
theorem jq251_243 : ib_c251[243]? = (some (some (.istore 6, 0, 0, 0, 0)) : Option (Option ib_A)) := (jg251_30 3).trans rfl
theorem jq251_245 : ib_c251[245]? = (some (some (.aload_n 2, 0, 0, 0, 0)) : Option (Option ib_A)) := (jg251_30 5).trans rfl
theorem jq251_246 : ib_c251[246]? = (some (some (.invokevirtual 90, 146, 0, 11, 1274)) : Option (Option ib_A)) := (jg251_30 6).trans rfl
theorem jq251_249 : ib_c251[249]? = (some (some (.iload 5, 0, 0, 0, 0)) : Option (Option ib_A)) := (jg251_31 1).trans rfl
theorem jq251_251 : ib_c251[251]? = (some (some (.if_icmp .eq 5, 256, 0, 0, 0)) : Option (Option ib_A)) := (jg251_31 3).trans rfl
theorem jq251_254 : ib_c251[254]? = (some (some (.iconst 0, 0, 0, 0, 0)) : Option (Option ib_A)) := (jg251_31 6).trans rfl
theorem jq251_255 : ib_c251[255]? = (some (some (.ireturn, 1, 0, 0, 0)) : Option (Option ib_A)) := (jg251_31 7).trans rfl
theorem jq251_256 : ib_c251[256]? = (some (some (.iload 5, 0, 0, 0, 0)) : Option (Option ib_A)) := (jg251_32 0).trans rfl
theorem jq251_258 : ib_c251[258]? = (some (some (.ifCond .ne 15, 273, 0, 0, 0)) : Option (Option ib_A)) := (jg251_32 2).trans rfl
theorem jq251_261 : ib_c251[261]? = (some (some (.aload_n 3, 0, 0, 0, 0)) : Option (Option ib_A)) := (jg251_32 5).trans rfl
theorem jq251_262 : ib_c251[262]? = (some (some (.iconst 0, 0, 0, 0, 0)) : Option (Option ib_A)) := (jg251_32 6).trans rfl
theorem jq251_263 : ib_c251[263]? = (some (some (.laload, 0, 0, 0, 0)) : Option (Option ib_A)) := (jg251_32 7).trans rfl
theorem jq251_264 : ib_c251[264]? = (some (some (.iload 6, 0, 0, 0, 0)) : Option (Option ib_A)) := (jg251_33 0).trans rfl
theorem jq251_266 : ib_c251[266]? = (some (some (.i2l, 0, 0, 0, 0)) : Option (Option ib_A)) := (jg251_33 2).trans rfl
theorem jq251_267 : ib_c251[267]? = (some (some (.lcmp, 0, 0, 0, 0)) : Option (Option ib_A)) := (jg251_33 3).trans rfl
theorem jq251_268 : ib_c251[268]? = (some (some (.ifCond .eq 5, 273, 0, 0, 0)) : Option (Option ib_A)) := (jg251_33 4).trans rfl
theorem jq251_271 : ib_c251[271]? = (some (some (.iconst 0, 0, 0, 0, 0)) : Option (Option ib_A)) := (jg251_33 7).trans rfl
theorem jq251_272 : ib_c251[272]? = (some (some (.ireturn, 1, 0, 0, 0)) : Option (Option ib_A)) := (jg251_34 0).trans rfl
theorem jq251_273 : ib_c251[273]? = (some (some (.goto 1140, 1413, 0, 0, 0)) : Option (Option ib_A)) := (jg251_34 1).trans rfl
theorem jq251_276 : ib_c251[276]? = (some (some (.aload_n 1, 0, 0, 0, 0)) : Option (Option ib_A)) := (jg251_34 4).trans rfl
theorem jq251_277 : ib_c251[277]? = (some (some (.aload_n 0, 0, 0, 0, 0)) : Option (Option ib_A)) := (jg251_34 5).trans rfl
theorem jq251_278 : ib_c251[278]? = (some (some (.iload 4, 0, 0, 0, 0)) : Option (Option ib_A)) := (jg251_34 6).trans rfl
theorem jq251_280 : ib_c251[280]? = (some (some (.iconst 1, 0, 0, 0, 0)) : Option (Option ib_A)) := (jg251_35 0).trans rfl
theorem jq251_281 : ib_c251[281]? = (some (some (.iadd, 0, 0, 0, 0)) : Option (Option ib_A)) := (jg251_35 1).trans rfl
theorem jq251_282 : ib_c251[282]? = (some (some (.iaload, 0, 0, 0, 0)) : Option (Option ib_A)) := (jg251_35 2).trans rfl
theorem jq251_283 : ib_c251[283]? = (some (some (.aload_n 0, 0, 0, 0, 0)) : Option (Option ib_A)) := (jg251_35 3).trans rfl
theorem jq251_284 : ib_c251[284]? = (some (some (.iload 4, 0, 0, 0, 0)) : Option (Option ib_A)) := (jg251_35 4).trans rfl
theorem jq251_286 : ib_c251[286]? = (some (some (.iconst 2, 0, 0, 0, 0)) : Option (Option ib_A)) := (jg251_35 6).trans rfl
theorem jq251_287 : ib_c251[287]? = (some (some (.iadd, 0, 0, 0, 0)) : Option (Option ib_A)) := (jg251_35 7).trans rfl
theorem jq251_288 : ib_c251[288]? = (some (some (.iaload, 0, 0, 0, 0)) : Option (Option ib_A)) := (jg251_36 0).trans rfl
theorem jq251_289 : ib_c251[289]? = (some (some (.aload_n 3, 0, 0, 0, 0)) : Option (Option ib_A)) := (jg251_36 1).trans rfl
theorem jq251_290 : ib_c251[290]? = (some (some (.invokestatic 97, 233, 4, 0, 896)) : Option (Option ib_A)) := (jg251_36 2).trans rfl
theorem jq251_293 : ib_c251[293]? = (some (some (.istore 5, 0, 0, 0, 0)) : Option (Option ib_A)) := (jg251_36 5).trans rfl
theorem jq251_295 : ib_c251[295]? = (some (some (.aload_n 2, 0, 0, 0, 0)) : Option (Option ib_A)) := (jg251_36 7).trans rfl
theorem jq251_296 : ib_c251[296]? = (some (some (.aload_n 0, 0, 0, 0, 0)) : Option (Option ib_A)) := (jg251_37 0).trans rfl
theorem jq251_297 : ib_c251[297]? = (some (some (.iload 4, 0, 0, 0, 0)) : Option (Option ib_A)) := (jg251_37 1).trans rfl
theorem jq251_299 : ib_c251[299]? = (some (some (.iconst 1, 0, 0, 0, 0)) : Option (Option ib_A)) := (jg251_37 3).trans rfl
theorem jq251_300 : ib_c251[300]? = (some (some (.iadd, 0, 0, 0, 0)) : Option (Option ib_A)) := (jg251_37 4).trans rfl
theorem jq251_301 : ib_c251[301]? = (some (some (.iaload, 0, 0, 0, 0)) : Option (Option ib_A)) := (jg251_37 5).trans rfl
theorem jq251_302 : ib_c251[302]? = (some (some (.aload_n 0, 0, 0, 0, 0)) : Option (Option ib_A)) := (jg251_37 6).trans rfl
theorem jq251_303 : ib_c251[303]? = (some (some (.iload 4, 0, 0, 0, 0)) : Option (Option ib_A)) := (jg251_37 7).trans rfl
theorem jq251_305 : ib_c251[305]? = (some (some (.iconst 2, 0, 0, 0, 0)) : Option (Option ib_A)) := (jg251_38 1).trans rfl
theorem jq251_306 : ib_c251[306]? = (some (some (.iadd, 0, 0, 0, 0)) : Option (Option ib_A)) := (jg251_38 2).trans rfl
theorem jq251_307 : ib_c251[307]? = (some (some (.iaload, 0, 0, 0, 0)) : Option (Option ib_A)) := (jg251_38 3).trans rfl
theorem jq251_308 : ib_c251[308]? = (some (some (.invokevirtual 100, 194, 2, 11, 1459)) : Option (Option ib_A)) := (jg251_38 4).trans rfl
theorem jq251_311 : ib_c251[311]? = (some (some (.istore 6, 0, 0, 0, 0)) : Option (Option ib_A)) := (jg251_38 7).trans rfl
theorem jq251_313 : ib_c251[313]? = (some (some (.aload_n 2, 0, 0, 0, 0)) : Option (Option ib_A)) := (jg251_39 1).trans rfl
theorem jq251_314 : ib_c251[314]? = (some (some (.invokevirtual 90, 146, 0, 11, 1274)) : Option (Option ib_A)) := (jg251_39 2).trans rfl
theorem jq251_317 : ib_c251[317]? = (some (some (.iload 5, 0, 0, 0, 0)) : Option (Option ib_A)) := (jg251_39 5).trans rfl
theorem jq251_319 : ib_c251[319]? = (some (some (.if_icmp .eq 5, 324, 0, 0, 0)) : Option (Option ib_A)) := (jg251_39 7).trans rfl
theorem jq251_322 : ib_c251[322]? = (some (some (.iconst 0, 0, 0, 0, 0)) : Option (Option ib_A)) := (jg251_40 2).trans rfl
theorem jq251_323 : ib_c251[323]? = (some (some (.ireturn, 1, 0, 0, 0)) : Option (Option ib_A)) := (jg251_40 3).trans rfl
theorem jq251_324 : ib_c251[324]? = (some (some (.iload 5, 0, 0, 0, 0)) : Option (Option ib_A)) := (jg251_40 4).trans rfl
theorem jq251_326 : ib_c251[326]? = (some (some (.ifCond .ne 15, 341, 0, 0, 0)) : Option (Option ib_A)) := (jg251_40 6).trans rfl
theorem jq251_329 : ib_c251[329]? = (some (some (.aload_n 3, 0, 0, 0, 0)) : Option (Option ib_A)) := (jg251_41 1).trans rfl
theorem jq251_330 : ib_c251[330]? = (some (some (.iconst 0, 0, 0, 0, 0)) : Option (Option ib_A)) := (jg251_41 2).trans rfl
theorem jq251_331 : ib_c251[331]? = (some (some (.laload, 0, 0, 0, 0)) : Option (Option ib_A)) := (jg251_41 3).trans rfl
theorem jq251_332 : ib_c251[332]? = (some (some (.iload 6, 0, 0, 0, 0)) : Option (Option ib_A)) := (jg251_41 4).trans rfl
theorem jq251_334 : ib_c251[334]? = (some (some (.i2l, 0, 0, 0, 0)) : Option (Option ib_A)) := (jg251_41 6).trans rfl
theorem jq251_335 : ib_c251[335]? = (some (some (.lcmp, 0, 0, 0, 0)) : Option (Option ib_A)) := (jg251_41 7).trans rfl
theorem jq251_336 : ib_c251[336]? = (some (some (.ifCond .eq 5, 341, 0, 0, 0)) : Option (Option ib_A)) := (jg251_42 0).trans rfl
theorem jq251_339 : ib_c251[339]? = (some (some (.iconst 0, 0, 0, 0, 0)) : Option (Option ib_A)) := (jg251_42 3).trans rfl
theorem jq251_340 : ib_c251[340]? = (some (some (.ireturn, 1, 0, 0, 0)) : Option (Option ib_A)) := (jg251_42 4).trans rfl
theorem jq251_341 : ib_c251[341]? = (some (some (.goto 1072, 1413, 0, 0, 0)) : Option (Option ib_A)) := (jg251_42 5).trans rfl
theorem jq251_344 : ib_c251[344]? = (some (some (.aload_n 1, 0, 0, 0, 0)) : Option (Option ib_A)) := (jg251_43 0).trans rfl
theorem jq251_345 : ib_c251[345]? = (some (some (.aload_n 0, 0, 0, 0, 0)) : Option (Option ib_A)) := (jg251_43 1).trans rfl
theorem jq251_346 : ib_c251[346]? = (some (some (.iload 4, 0, 0, 0, 0)) : Option (Option ib_A)) := (jg251_43 2).trans rfl
theorem jq251_348 : ib_c251[348]? = (some (some (.iconst 1, 0, 0, 0, 0)) : Option (Option ib_A)) := (jg251_43 4).trans rfl
theorem jq251_349 : ib_c251[349]? = (some (some (.iadd, 0, 0, 0, 0)) : Option (Option ib_A)) := (jg251_43 5).trans rfl
theorem jq251_350 : ib_c251[350]? = (some (some (.iaload, 0, 0, 0, 0)) : Option (Option ib_A)) := (jg251_43 6).trans rfl
theorem jq251_351 : ib_c251[351]? = (some (some (.aload_n 0, 0, 0, 0, 0)) : Option (Option ib_A)) := (jg251_43 7).trans rfl
theorem jq251_352 : ib_c251[352]? = (some (some (.iload 4, 0, 0, 0, 0)) : Option (Option ib_A)) := (jg251_44 0).trans rfl
theorem jq251_354 : ib_c251[354]? = (some (some (.iconst 2, 0, 0, 0, 0)) : Option (Option ib_A)) := (jg251_44 2).trans rfl
theorem jq251_355 : ib_c251[355]? = (some (some (.iadd, 0, 0, 0, 0)) : Option (Option ib_A)) := (jg251_44 3).trans rfl
theorem jq251_356 : ib_c251[356]? = (some (some (.iaload, 0, 0, 0, 0)) : Option (Option ib_A)) := (jg251_44 4).trans rfl
theorem jq251_357 : ib_c251[357]? = (some (some (.aload_n 3, 0, 0, 0, 0)) : Option (Option ib_A)) := (jg251_44 5).trans rfl
theorem jq251_358 : ib_c251[358]? = (some (some (.invokestatic 101, 234, 4, 0, 906)) : Option (Option ib_A)) := (jg251_44 6).trans rfl
theorem jq251_361 : ib_c251[361]? = (some (some (.istore 5, 0, 0, 0, 0)) : Option (Option ib_A)) := (jg251_45 1).trans rfl
theorem jq251_363 : ib_c251[363]? = (some (some (.aload_n 2, 0, 0, 0, 0)) : Option (Option ib_A)) := (jg251_45 3).trans rfl
theorem jq251_364 : ib_c251[364]? = (some (some (.aload_n 0, 0, 0, 0, 0)) : Option (Option ib_A)) := (jg251_45 4).trans rfl
theorem jq251_365 : ib_c251[365]? = (some (some (.iload 4, 0, 0, 0, 0)) : Option (Option ib_A)) := (jg251_45 5).trans rfl
theorem jq251_367 : ib_c251[367]? = (some (some (.iconst 1, 0, 0, 0, 0)) : Option (Option ib_A)) := (jg251_45 7).trans rfl
theorem jq251_368 : ib_c251[368]? = (some (some (.iadd, 0, 0, 0, 0)) : Option (Option ib_A)) := (jg251_46 0).trans rfl
theorem jq251_369 : ib_c251[369]? = (some (some (.iaload, 0, 0, 0, 0)) : Option (Option ib_A)) := (jg251_46 1).trans rfl
theorem jq251_370 : ib_c251[370]? = (some (some (.aload_n 0, 0, 0, 0, 0)) : Option (Option ib_A)) := (jg251_46 2).trans rfl
theorem jq251_371 : ib_c251[371]? = (some (some (.iload 4, 0, 0, 0, 0)) : Option (Option ib_A)) := (jg251_46 3).trans rfl
theorem jq251_373 : ib_c251[373]? = (some (some (.iconst 2, 0, 0, 0, 0)) : Option (Option ib_A)) := (jg251_46 5).trans rfl
theorem jq251_374 : ib_c251[374]? = (some (some (.iadd, 0, 0, 0, 0)) : Option (Option ib_A)) := (jg251_46 6).trans rfl
theorem jq251_375 : ib_c251[375]? = (some (some (.iaload, 0, 0, 0, 0)) : Option (Option ib_A)) := (jg251_46 7).trans rfl
theorem jq251_376 : ib_c251[376]? = (some (some (.invokevirtual 103, 195, 2, 11, 1463)) : Option (Option ib_A)) := (jg251_47 0).trans rfl
theorem jq251_379 : ib_c251[379]? = (some (some (.istore 6, 0, 0, 0, 0)) : Option (Option ib_A)) := (jg251_47 3).trans rfl
theorem jq251_381 : ib_c251[381]? = (some (some (.aload_n 2, 0, 0, 0, 0)) : Option (Option ib_A)) := (jg251_47 5).trans rfl
theorem jq251_382 : ib_c251[382]? = (some (some (.invokevirtual 90, 146, 0, 11, 1274)) : Option (Option ib_A)) := (jg251_47 6).trans rfl
theorem jq251_385 : ib_c251[385]? = (some (some (.iload 5, 0, 0, 0, 0)) : Option (Option ib_A)) := (jg251_48 1).trans rfl
theorem jq251_387 : ib_c251[387]? = (some (some (.if_icmp .eq 5, 392, 0, 0, 0)) : Option (Option ib_A)) := (jg251_48 3).trans rfl
theorem jq251_390 : ib_c251[390]? = (some (some (.iconst 0, 0, 0, 0, 0)) : Option (Option ib_A)) := (jg251_48 6).trans rfl
theorem jq251_391 : ib_c251[391]? = (some (some (.ireturn, 1, 0, 0, 0)) : Option (Option ib_A)) := (jg251_48 7).trans rfl
theorem jq251_392 : ib_c251[392]? = (some (some (.iload 5, 0, 0, 0, 0)) : Option (Option ib_A)) := (jg251_49 0).trans rfl
theorem jq251_394 : ib_c251[394]? = (some (some (.ifCond .ne 15, 409, 0, 0, 0)) : Option (Option ib_A)) := (jg251_49 2).trans rfl
theorem jq251_397 : ib_c251[397]? = (some (some (.aload_n 3, 0, 0, 0, 0)) : Option (Option ib_A)) := (jg251_49 5).trans rfl
theorem jq251_398 : ib_c251[398]? = (some (some (.iconst 0, 0, 0, 0, 0)) : Option (Option ib_A)) := (jg251_49 6).trans rfl
theorem jq251_399 : ib_c251[399]? = (some (some (.laload, 0, 0, 0, 0)) : Option (Option ib_A)) := (jg251_49 7).trans rfl
theorem jq251_400 : ib_c251[400]? = (some (some (.iload 6, 0, 0, 0, 0)) : Option (Option ib_A)) := (jg251_50 0).trans rfl
theorem jq251_402 : ib_c251[402]? = (some (some (.i2l, 0, 0, 0, 0)) : Option (Option ib_A)) := (jg251_50 2).trans rfl
theorem jq251_403 : ib_c251[403]? = (some (some (.lcmp, 0, 0, 0, 0)) : Option (Option ib_A)) := (jg251_50 3).trans rfl
theorem jq251_404 : ib_c251[404]? = (some (some (.ifCond .eq 5, 409, 0, 0, 0)) : Option (Option ib_A)) := (jg251_50 4).trans rfl
theorem jq251_407 : ib_c251[407]? = (some (some (.iconst 0, 0, 0, 0, 0)) : Option (Option ib_A)) := (jg251_50 7).trans rfl
theorem jq251_408 : ib_c251[408]? = (some (some (.ireturn, 1, 0, 0, 0)) : Option (Option ib_A)) := (jg251_51 0).trans rfl
theorem jq251_409 : ib_c251[409]? = (some (some (.goto 1004, 1413, 0, 0, 0)) : Option (Option ib_A)) := (jg251_51 1).trans rfl
theorem jq251_412 : ib_c251[412]? = (some (some (.aload_n 1, 0, 0, 0, 0)) : Option (Option ib_A)) := (jg251_51 4).trans rfl
theorem jq251_413 : ib_c251[413]? = (some (some (.aload_n 0, 0, 0, 0, 0)) : Option (Option ib_A)) := (jg251_51 5).trans rfl
theorem jq251_414 : ib_c251[414]? = (some (some (.iload 4, 0, 0, 0, 0)) : Option (Option ib_A)) := (jg251_51 6).trans rfl
theorem jq251_416 : ib_c251[416]? = (some (some (.iconst 1, 0, 0, 0, 0)) : Option (Option ib_A)) := (jg251_52 0).trans rfl
theorem jq251_417 : ib_c251[417]? = (some (some (.iadd, 0, 0, 0, 0)) : Option (Option ib_A)) := (jg251_52 1).trans rfl
theorem jq251_418 : ib_c251[418]? = (some (some (.iaload, 0, 0, 0, 0)) : Option (Option ib_A)) := (jg251_52 2).trans rfl
theorem jq251_419 : ib_c251[419]? = (some (some (.aload_n 3, 0, 0, 0, 0)) : Option (Option ib_A)) := (jg251_52 3).trans rfl
theorem jq251_420 : ib_c251[420]? = (some (some (.invokestatic 104, 235, 3, 0, 913)) : Option (Option ib_A)) := (jg251_52 4).trans rfl
theorem jq251_423 : ib_c251[423]? = (some (some (.istore 5, 0, 0, 0, 0)) : Option (Option ib_A)) := (jg251_52 7).trans rfl
theorem jq251_425 : ib_c251[425]? = (some (some (.aload_n 2, 0, 0, 0, 0)) : Option (Option ib_A)) := (jg251_53 1).trans rfl
theorem jq251_426 : ib_c251[426]? = (some (some (.aload_n 0, 0, 0, 0, 0)) : Option (Option ib_A)) := (jg251_53 2).trans rfl
theorem jq251_427 : ib_c251[427]? = (some (some (.iload 4, 0, 0, 0, 0)) : Option (Option ib_A)) := (jg251_53 3).trans rfl
theorem jq251_429 : ib_c251[429]? = (some (some (.iconst 1, 0, 0, 0, 0)) : Option (Option ib_A)) := (jg251_53 5).trans rfl
theorem jq251_430 : ib_c251[430]? = (some (some (.iadd, 0, 0, 0, 0)) : Option (Option ib_A)) := (jg251_53 6).trans rfl
theorem jq251_431 : ib_c251[431]? = (some (some (.iaload, 0, 0, 0, 0)) : Option (Option ib_A)) := (jg251_53 7).trans rfl
theorem jq251_432 : ib_c251[432]? = (some (some (.invokevirtual 107, 196, 1, 11, 1467)) : Option (Option ib_A)) := (jg251_54 0).trans rfl
theorem jq251_435 : ib_c251[435]? = (some (some (.istore 6, 0, 0, 0, 0)) : Option (Option ib_A)) := (jg251_54 3).trans rfl
theorem jq251_437 : ib_c251[437]? = (some (some (.aload_n 2, 0, 0, 0, 0)) : Option (Option ib_A)) := (jg251_54 5).trans rfl
theorem jq251_438 : ib_c251[438]? = (some (some (.invokevirtual 90, 146, 0, 11, 1274)) : Option (Option ib_A)) := (jg251_54 6).trans rfl
theorem jq251_441 : ib_c251[441]? = (some (some (.iload 5, 0, 0, 0, 0)) : Option (Option ib_A)) := (jg251_55 1).trans rfl
theorem jq251_443 : ib_c251[443]? = (some (some (.if_icmp .eq 5, 448, 0, 0, 0)) : Option (Option ib_A)) := (jg251_55 3).trans rfl
theorem jq251_446 : ib_c251[446]? = (some (some (.iconst 0, 0, 0, 0, 0)) : Option (Option ib_A)) := (jg251_55 6).trans rfl
theorem jq251_447 : ib_c251[447]? = (some (some (.ireturn, 1, 0, 0, 0)) : Option (Option ib_A)) := (jg251_55 7).trans rfl
theorem jq251_448 : ib_c251[448]? = (some (some (.iload 5, 0, 0, 0, 0)) : Option (Option ib_A)) := (jg251_56 0).trans rfl
theorem jq251_450 : ib_c251[450]? = (some (some (.ifCond .ne 15, 465, 0, 0, 0)) : Option (Option ib_A)) := (jg251_56 2).trans rfl
theorem jq251_453 : ib_c251[453]? = (some (some (.aload_n 3, 0, 0, 0, 0)) : Option (Option ib_A)) := (jg251_56 5).trans rfl
theorem jq251_454 : ib_c251[454]? = (some (some (.iconst 0, 0, 0, 0, 0)) : Option (Option ib_A)) := (jg251_56 6).trans rfl
theorem jq251_455 : ib_c251[455]? = (some (some (.laload, 0, 0, 0, 0)) : Option (Option ib_A)) := (jg251_56 7).trans rfl
theorem jq251_456 : ib_c251[456]? = (some (some (.iload 6, 0, 0, 0, 0)) : Option (Option ib_A)) := (jg251_57 0).trans rfl
theorem jq251_458 : ib_c251[458]? = (some (some (.i2l, 0, 0, 0, 0)) : Option (Option ib_A)) := (jg251_57 2).trans rfl
theorem jq251_459 : ib_c251[459]? = (some (some (.lcmp, 0, 0, 0, 0)) : Option (Option ib_A)) := (jg251_57 3).trans rfl
theorem jq251_460 : ib_c251[460]? = (some (some (.ifCond .eq 5, 465, 0, 0, 0)) : Option (Option ib_A)) := (jg251_57 4).trans rfl
theorem jq251_463 : ib_c251[463]? = (some (some (.iconst 0, 0, 0, 0, 0)) : Option (Option ib_A)) := (jg251_57 7).trans rfl
theorem jq251_464 : ib_c251[464]? = (some (some (.ireturn, 1, 0, 0, 0)) : Option (Option ib_A)) := (jg251_58 0).trans rfl
theorem jq251_465 : ib_c251[465]? = (some (some (.goto 948, 1413, 0, 0, 0)) : Option (Option ib_A)) := (jg251_58 1).trans rfl
theorem jq251_468 : ib_c251[468]? = (some (some (.aload_n 1, 0, 0, 0, 0)) : Option (Option ib_A)) := (jg251_58 4).trans rfl
theorem jq251_469 : ib_c251[469]? = (some (some (.aload_n 0, 0, 0, 0, 0)) : Option (Option ib_A)) := (jg251_58 5).trans rfl
theorem jq251_470 : ib_c251[470]? = (some (some (.iload 4, 0, 0, 0, 0)) : Option (Option ib_A)) := (jg251_58 6).trans rfl
theorem jq251_472 : ib_c251[472]? = (some (some (.iconst 1, 0, 0, 0, 0)) : Option (Option ib_A)) := (jg251_59 0).trans rfl
theorem jq251_473 : ib_c251[473]? = (some (some (.iadd, 0, 0, 0, 0)) : Option (Option ib_A)) := (jg251_59 1).trans rfl
theorem jq251_474 : ib_c251[474]? = (some (some (.iaload, 0, 0, 0, 0)) : Option (Option ib_A)) := (jg251_59 2).trans rfl
theorem jq251_475 : ib_c251[475]? = (some (some (.aload_n 0, 0, 0, 0, 0)) : Option (Option ib_A)) := (jg251_59 3).trans rfl
theorem jq251_476 : ib_c251[476]? = (some (some (.iload 4, 0, 0, 0, 0)) : Option (Option ib_A)) := (jg251_59 4).trans rfl
theorem jq251_478 : ib_c251[478]? = (some (some (.iconst 2, 0, 0, 0, 0)) : Option (Option ib_A)) := (jg251_59 6).trans rfl
theorem jq251_479 : ib_c251[479]? = (some (some (.iadd, 0, 0, 0, 0)) : Option (Option ib_A)) := (jg251_59 7).trans rfl
theorem jq251_480 : ib_c251[480]? = (some (some (.iaload, 0, 0, 0, 0)) : Option (Option ib_A)) := (jg251_60 0).trans rfl
theorem jq251_481 : ib_c251[481]? = (some (some (.aload_n 3, 0, 0, 0, 0)) : Option (Option ib_A)) := (jg251_60 1).trans rfl
theorem jq251_482 : ib_c251[482]? = (some (some (.invokestatic 108, 236, 4, 0, 920)) : Option (Option ib_A)) := (jg251_60 2).trans rfl
theorem jq251_485 : ib_c251[485]? = (some (some (.istore 5, 0, 0, 0, 0)) : Option (Option ib_A)) := (jg251_60 5).trans rfl
theorem jq251_487 : ib_c251[487]? = (some (some (.aload_n 2, 0, 0, 0, 0)) : Option (Option ib_A)) := (jg251_60 7).trans rfl
theorem jq251_488 : ib_c251[488]? = (some (some (.aload_n 0, 0, 0, 0, 0)) : Option (Option ib_A)) := (jg251_61 0).trans rfl
theorem jq251_489 : ib_c251[489]? = (some (some (.iload 4, 0, 0, 0, 0)) : Option (Option ib_A)) := (jg251_61 1).trans rfl
theorem jq251_491 : ib_c251[491]? = (some (some (.iconst 1, 0, 0, 0, 0)) : Option (Option ib_A)) := (jg251_61 3).trans rfl
theorem jq251_492 : ib_c251[492]? = (some (some (.iadd, 0, 0, 0, 0)) : Option (Option ib_A)) := (jg251_61 4).trans rfl
theorem jq251_493 : ib_c251[493]? = (some (some (.iaload, 0, 0, 0, 0)) : Option (Option ib_A)) := (jg251_61 5).trans rfl
theorem jq251_494 : ib_c251[494]? = (some (some (.aload_n 0, 0, 0, 0, 0)) : Option (Option ib_A)) := (jg251_61 6).trans rfl
theorem jq251_495 : ib_c251[495]? = (some (some (.iload 4, 0, 0, 0, 0)) : Option (Option ib_A)) := (jg251_61 7).trans rfl
theorem jq251_497 : ib_c251[497]? = (some (some (.iconst 2, 0, 0, 0, 0)) : Option (Option ib_A)) := (jg251_62 1).trans rfl
theorem jq251_498 : ib_c251[498]? = (some (some (.iadd, 0, 0, 0, 0)) : Option (Option ib_A)) := (jg251_62 2).trans rfl
theorem jq251_499 : ib_c251[499]? = (some (some (.iaload, 0, 0, 0, 0)) : Option (Option ib_A)) := (jg251_62 3).trans rfl
theorem jq251_500 : ib_c251[500]? = (some (some (.invokevirtual 110, 197, 2, 11, 1471)) : Option (Option ib_A)) := (jg251_62 4).trans rfl
theorem jq251_503 : ib_c251[503]? = (some (some (.istore 6, 0, 0, 0, 0)) : Option (Option ib_A)) := (jg251_62 7).trans rfl
theorem jq251_505 : ib_c251[505]? = (some (some (.aload_n 2, 0, 0, 0, 0)) : Option (Option ib_A)) := (jg251_63 1).trans rfl
theorem jq251_506 : ib_c251[506]? = (some (some (.invokevirtual 90, 146, 0, 11, 1274)) : Option (Option ib_A)) := (jg251_63 2).trans rfl
theorem jq251_509 : ib_c251[509]? = (some (some (.iload 5, 0, 0, 0, 0)) : Option (Option ib_A)) := (jg251_63 5).trans rfl
theorem jq251_511 : ib_c251[511]? = (some (some (.if_icmp .eq 5, 516, 0, 0, 0)) : Option (Option ib_A)) := (jg251_63 7).trans rfl
theorem jq251_514 : ib_c251[514]? = (some (some (.iconst 0, 0, 0, 0, 0)) : Option (Option ib_A)) := (jg251_64 2).trans rfl
theorem jq251_515 : ib_c251[515]? = (some (some (.ireturn, 1, 0, 0, 0)) : Option (Option ib_A)) := (jg251_64 3).trans rfl
theorem jq251_516 : ib_c251[516]? = (some (some (.iload 5, 0, 0, 0, 0)) : Option (Option ib_A)) := (jg251_64 4).trans rfl
theorem jq251_518 : ib_c251[518]? = (some (some (.ifCond .ne 15, 533, 0, 0, 0)) : Option (Option ib_A)) := (jg251_64 6).trans rfl
theorem jq251_521 : ib_c251[521]? = (some (some (.aload_n 3, 0, 0, 0, 0)) : Option (Option ib_A)) := (jg251_65 1).trans rfl
theorem jq251_522 : ib_c251[522]? = (some (some (.iconst 0, 0, 0, 0, 0)) : Option (Option ib_A)) := (jg251_65 2).trans rfl
theorem jq251_523 : ib_c251[523]? = (some (some (.laload, 0, 0, 0, 0)) : Option (Option ib_A)) := (jg251_65 3).trans rfl
theorem jq251_524 : ib_c251[524]? = (some (some (.iload 6, 0, 0, 0, 0)) : Option (Option ib_A)) := (jg251_65 4).trans rfl
theorem jq251_526 : ib_c251[526]? = (some (some (.i2l, 0, 0, 0, 0)) : Option (Option ib_A)) := (jg251_65 6).trans rfl
theorem jq251_527 : ib_c251[527]? = (some (some (.lcmp, 0, 0, 0, 0)) : Option (Option ib_A)) := (jg251_65 7).trans rfl
theorem jq251_528 : ib_c251[528]? = (some (some (.ifCond .eq 5, 533, 0, 0, 0)) : Option (Option ib_A)) := (jg251_66 0).trans rfl
theorem jq251_531 : ib_c251[531]? = (some (some (.iconst 0, 0, 0, 0, 0)) : Option (Option ib_A)) := (jg251_66 3).trans rfl
theorem jq251_532 : ib_c251[532]? = (some (some (.ireturn, 1, 0, 0, 0)) : Option (Option ib_A)) := (jg251_66 4).trans rfl
theorem jq251_533 : ib_c251[533]? = (some (some (.goto 880, 1413, 0, 0, 0)) : Option (Option ib_A)) := (jg251_66 5).trans rfl
theorem jq251_536 : ib_c251[536]? = (some (some (.aload_n 1, 0, 0, 0, 0)) : Option (Option ib_A)) := (jg251_67 0).trans rfl
theorem jq251_537 : ib_c251[537]? = (some (some (.aload_n 0, 0, 0, 0, 0)) : Option (Option ib_A)) := (jg251_67 1).trans rfl
theorem jq251_538 : ib_c251[538]? = (some (some (.iload 4, 0, 0, 0, 0)) : Option (Option ib_A)) := (jg251_67 2).trans rfl
theorem jq251_540 : ib_c251[540]? = (some (some (.iconst 1, 0, 0, 0, 0)) : Option (Option ib_A)) := (jg251_67 4).trans rfl
theorem jq251_541 : ib_c251[541]? = (some (some (.iadd, 0, 0, 0, 0)) : Option (Option ib_A)) := (jg251_67 5).trans rfl
theorem jq251_542 : ib_c251[542]? = (some (some (.iaload, 0, 0, 0, 0)) : Option (Option ib_A)) := (jg251_67 6).trans rfl
theorem jq251_543 : ib_c251[543]? = (some (some (.aload_n 3, 0, 0, 0, 0)) : Option (Option ib_A)) := (jg251_67 7).trans rfl
theorem jq251_544 : ib_c251[544]? = (some (some (.invokestatic 111, 237, 3, 0, 928)) : Option (Option ib_A)) := (jg251_68 0).trans rfl
theorem jq251_547 : ib_c251[547]? = (some (some (.istore 5, 0, 0, 0, 0)) : Option (Option ib_A)) := (jg251_68 3).trans rfl
theorem jq251_549 : ib_c251[549]? = (some (some (.aload_n 2, 0, 0, 0, 0)) : Option (Option ib_A)) := (jg251_68 5).trans rfl
theorem jq251_550 : ib_c251[550]? = (some (some (.aload_n 0, 0, 0, 0, 0)) : Option (Option ib_A)) := (jg251_68 6).trans rfl
theorem jq251_551 : ib_c251[551]? = (some (some (.iload 4, 0, 0, 0, 0)) : Option (Option ib_A)) := (jg251_68 7).trans rfl
theorem jq251_553 : ib_c251[553]? = (some (some (.iconst 1, 0, 0, 0, 0)) : Option (Option ib_A)) := (jg251_69 1).trans rfl
theorem jq251_554 : ib_c251[554]? = (some (some (.iadd, 0, 0, 0, 0)) : Option (Option ib_A)) := (jg251_69 2).trans rfl
theorem jq251_555 : ib_c251[555]? = (some (some (.iaload, 0, 0, 0, 0)) : Option (Option ib_A)) := (jg251_69 3).trans rfl
theorem jq251_556 : ib_c251[556]? = (some (some (.invokevirtual 113, 198, 1, 11, 1475)) : Option (Option ib_A)) := (jg251_69 4).trans rfl
theorem jq251_559 : ib_c251[559]? = (some (some (.istore 6, 0, 0, 0, 0)) : Option (Option ib_A)) := (jg251_69 7).trans rfl
theorem jq251_561 : ib_c251[561]? = (some (some (.aload_n 2, 0, 0, 0, 0)) : Option (Option ib_A)) := (jg251_70 1).trans rfl
theorem jq251_562 : ib_c251[562]? = (some (some (.invokevirtual 90, 146, 0, 11, 1274)) : Option (Option ib_A)) := (jg251_70 2).trans rfl
theorem jq251_565 : ib_c251[565]? = (some (some (.iload 5, 0, 0, 0, 0)) : Option (Option ib_A)) := (jg251_70 5).trans rfl
theorem jq251_567 : ib_c251[567]? = (some (some (.if_icmp .eq 5, 572, 0, 0, 0)) : Option (Option ib_A)) := (jg251_70 7).trans rfl
theorem jq251_570 : ib_c251[570]? = (some (some (.iconst 0, 0, 0, 0, 0)) : Option (Option ib_A)) := (jg251_71 2).trans rfl
theorem jq251_571 : ib_c251[571]? = (some (some (.ireturn, 1, 0, 0, 0)) : Option (Option ib_A)) := (jg251_71 3).trans rfl
theorem jq251_572 : ib_c251[572]? = (some (some (.iload 5, 0, 0, 0, 0)) : Option (Option ib_A)) := (jg251_71 4).trans rfl
theorem jq251_574 : ib_c251[574]? = (some (some (.ifCond .ne 15, 589, 0, 0, 0)) : Option (Option ib_A)) := (jg251_71 6).trans rfl
theorem jq251_577 : ib_c251[577]? = (some (some (.aload_n 3, 0, 0, 0, 0)) : Option (Option ib_A)) := (jg251_72 1).trans rfl
theorem jq251_578 : ib_c251[578]? = (some (some (.iconst 0, 0, 0, 0, 0)) : Option (Option ib_A)) := (jg251_72 2).trans rfl
theorem jq251_579 : ib_c251[579]? = (some (some (.laload, 0, 0, 0, 0)) : Option (Option ib_A)) := (jg251_72 3).trans rfl
theorem jq251_580 : ib_c251[580]? = (some (some (.iload 6, 0, 0, 0, 0)) : Option (Option ib_A)) := (jg251_72 4).trans rfl
theorem jq251_582 : ib_c251[582]? = (some (some (.i2l, 0, 0, 0, 0)) : Option (Option ib_A)) := (jg251_72 6).trans rfl
theorem jq251_583 : ib_c251[583]? = (some (some (.lcmp, 0, 0, 0, 0)) : Option (Option ib_A)) := (jg251_72 7).trans rfl
theorem jq251_584 : ib_c251[584]? = (some (some (.ifCond .eq 5, 589, 0, 0, 0)) : Option (Option ib_A)) := (jg251_73 0).trans rfl
theorem jq251_587 : ib_c251[587]? = (some (some (.iconst 0, 0, 0, 0, 0)) : Option (Option ib_A)) := (jg251_73 3).trans rfl
theorem jq251_588 : ib_c251[588]? = (some (some (.ireturn, 1, 0, 0, 0)) : Option (Option ib_A)) := (jg251_73 4).trans rfl
theorem jq251_589 : ib_c251[589]? = (some (some (.goto 824, 1413, 0, 0, 0)) : Option (Option ib_A)) := (jg251_73 5).trans rfl
theorem jq251_592 : ib_c251[592]? = (some (some (.aload_n 1, 0, 0, 0, 0)) : Option (Option ib_A)) := (jg251_74 0).trans rfl
theorem jq251_593 : ib_c251[593]? = (some (some (.aload_n 0, 0, 0, 0, 0)) : Option (Option ib_A)) := (jg251_74 1).trans rfl
theorem jq251_594 : ib_c251[594]? = (some (some (.iload 4, 0, 0, 0, 0)) : Option (Option ib_A)) := (jg251_74 2).trans rfl
theorem jq251_596 : ib_c251[596]? = (some (some (.iconst 1, 0, 0, 0, 0)) : Option (Option ib_A)) := (jg251_74 4).trans rfl
theorem jq251_597 : ib_c251[597]? = (some (some (.iadd, 0, 0, 0, 0)) : Option (Option ib_A)) := (jg251_74 5).trans rfl
theorem jq251_598 : ib_c251[598]? = (some (some (.iaload, 0, 0, 0, 0)) : Option (Option ib_A)) := (jg251_74 6).trans rfl
theorem jq251_599 : ib_c251[599]? = (some (some (.aload_n 3, 0, 0, 0, 0)) : Option (Option ib_A)) := (jg251_74 7).trans rfl
theorem jq251_600 : ib_c251[600]? = (some (some (.invokestatic 114, 238, 3, 0, 940)) : Option (Option ib_A)) := (jg251_75 0).trans rfl
theorem jq251_603 : ib_c251[603]? = (some (some (.istore 5, 0, 0, 0, 0)) : Option (Option ib_A)) := (jg251_75 3).trans rfl
theorem jq251_605 : ib_c251[605]? = (some (some (.aload_n 2, 0, 0, 0, 0)) : Option (Option ib_A)) := (jg251_75 5).trans rfl
theorem jq251_606 : ib_c251[606]? = (some (some (.aload_n 0, 0, 0, 0, 0)) : Option (Option ib_A)) := (jg251_75 6).trans rfl
theorem jq251_607 : ib_c251[607]? = (some (some (.iload 4, 0, 0, 0, 0)) : Option (Option ib_A)) := (jg251_75 7).trans rfl
theorem jq251_609 : ib_c251[609]? = (some (some (.iconst 1, 0, 0, 0, 0)) : Option (Option ib_A)) := (jg251_76 1).trans rfl
theorem jq251_610 : ib_c251[610]? = (some (some (.iadd, 0, 0, 0, 0)) : Option (Option ib_A)) := (jg251_76 2).trans rfl
theorem jq251_611 : ib_c251[611]? = (some (some (.iaload, 0, 0, 0, 0)) : Option (Option ib_A)) := (jg251_76 3).trans rfl
theorem jq251_612 : ib_c251[612]? = (some (some (.invokevirtual 116, 199, 1, 11, 1479)) : Option (Option ib_A)) := (jg251_76 4).trans rfl
theorem jq251_615 : ib_c251[615]? = (some (some (.istore 6, 0, 0, 0, 0)) : Option (Option ib_A)) := (jg251_76 7).trans rfl
theorem jq251_617 : ib_c251[617]? = (some (some (.aload_n 2, 0, 0, 0, 0)) : Option (Option ib_A)) := (jg251_77 1).trans rfl
theorem jq251_618 : ib_c251[618]? = (some (some (.invokevirtual 90, 146, 0, 11, 1274)) : Option (Option ib_A)) := (jg251_77 2).trans rfl
theorem jq251_621 : ib_c251[621]? = (some (some (.iload 5, 0, 0, 0, 0)) : Option (Option ib_A)) := (jg251_77 5).trans rfl
theorem jq251_623 : ib_c251[623]? = (some (some (.if_icmp .eq 5, 628, 0, 0, 0)) : Option (Option ib_A)) := (jg251_77 7).trans rfl
theorem jq251_626 : ib_c251[626]? = (some (some (.iconst 0, 0, 0, 0, 0)) : Option (Option ib_A)) := (jg251_78 2).trans rfl
theorem jq251_627 : ib_c251[627]? = (some (some (.ireturn, 1, 0, 0, 0)) : Option (Option ib_A)) := (jg251_78 3).trans rfl
theorem jq251_628 : ib_c251[628]? = (some (some (.iload 5, 0, 0, 0, 0)) : Option (Option ib_A)) := (jg251_78 4).trans rfl
theorem jq251_630 : ib_c251[630]? = (some (some (.ifCond .ne 15, 645, 0, 0, 0)) : Option (Option ib_A)) := (jg251_78 6).trans rfl
theorem jq251_633 : ib_c251[633]? = (some (some (.aload_n 3, 0, 0, 0, 0)) : Option (Option ib_A)) := (jg251_79 1).trans rfl
theorem jq251_634 : ib_c251[634]? = (some (some (.iconst 0, 0, 0, 0, 0)) : Option (Option ib_A)) := (jg251_79 2).trans rfl
theorem jq251_635 : ib_c251[635]? = (some (some (.laload, 0, 0, 0, 0)) : Option (Option ib_A)) := (jg251_79 3).trans rfl
theorem jq251_636 : ib_c251[636]? = (some (some (.iload 6, 0, 0, 0, 0)) : Option (Option ib_A)) := (jg251_79 4).trans rfl
theorem jq251_638 : ib_c251[638]? = (some (some (.i2l, 0, 0, 0, 0)) : Option (Option ib_A)) := (jg251_79 6).trans rfl
theorem jq251_639 : ib_c251[639]? = (some (some (.lcmp, 0, 0, 0, 0)) : Option (Option ib_A)) := (jg251_79 7).trans rfl
theorem jq251_640 : ib_c251[640]? = (some (some (.ifCond .eq 5, 645, 0, 0, 0)) : Option (Option ib_A)) := (jg251_80 0).trans rfl
theorem jq251_643 : ib_c251[643]? = (some (some (.iconst 0, 0, 0, 0, 0)) : Option (Option ib_A)) := (jg251_80 3).trans rfl
theorem jq251_644 : ib_c251[644]? = (some (some (.ireturn, 1, 0, 0, 0)) : Option (Option ib_A)) := (jg251_80 4).trans rfl
theorem jq251_645 : ib_c251[645]? = (some (some (.goto 768, 1413, 0, 0, 0)) : Option (Option ib_A)) := (jg251_80 5).trans rfl
theorem jq251_648 : ib_c251[648]? = (some (some (.aload_n 1, 0, 0, 0, 0)) : Option (Option ib_A)) := (jg251_81 0).trans rfl
theorem jq251_649 : ib_c251[649]? = (some (some (.aload_n 3, 0, 0, 0, 0)) : Option (Option ib_A)) := (jg251_81 1).trans rfl
theorem jq251_650 : ib_c251[650]? = (some (some (.invokestatic 117, 239, 2, 0, 947)) : Option (Option ib_A)) := (jg251_81 2).trans rfl
theorem jq251_653 : ib_c251[653]? = (some (some (.istore 5, 0, 0, 0, 0)) : Option (Option ib_A)) := (jg251_81 5).trans rfl
theorem jq251_655 : ib_c251[655]? = (some (some (.aload_n 2, 0, 0, 0, 0)) : Option (Option ib_A)) := (jg251_81 7).trans rfl
theorem jq251_656 : ib_c251[656]? = (some (some (.invokevirtual 120, 200, 0, 11, 1483)) : Option (Option ib_A)) := (jg251_82 0).trans rfl
theorem jq251_659 : ib_c251[659]? = (some (some (.istore 6, 0, 0, 0, 0)) : Option (Option ib_A)) := (jg251_82 3).trans rfl
theorem jq251_661 : ib_c251[661]? = (some (some (.aload_n 2, 0, 0, 0, 0)) : Option (Option ib_A)) := (jg251_82 5).trans rfl
theorem jq251_662 : ib_c251[662]? = (some (some (.invokevirtual 90, 146, 0, 11, 1274)) : Option (Option ib_A)) := (jg251_82 6).trans rfl
theorem jq251_665 : ib_c251[665]? = (some (some (.iload 5, 0, 0, 0, 0)) : Option (Option ib_A)) := (jg251_83 1).trans rfl
theorem jq251_667 : ib_c251[667]? = (some (some (.if_icmp .eq 5, 672, 0, 0, 0)) : Option (Option ib_A)) := (jg251_83 3).trans rfl
theorem jq251_670 : ib_c251[670]? = (some (some (.iconst 0, 0, 0, 0, 0)) : Option (Option ib_A)) := (jg251_83 6).trans rfl
theorem jq251_671 : ib_c251[671]? = (some (some (.ireturn, 1, 0, 0, 0)) : Option (Option ib_A)) := (jg251_83 7).trans rfl
theorem jq251_672 : ib_c251[672]? = (some (some (.iload 5, 0, 0, 0, 0)) : Option (Option ib_A)) := (jg251_84 0).trans rfl
theorem jq251_674 : ib_c251[674]? = (some (some (.ifCond .ne 15, 689, 0, 0, 0)) : Option (Option ib_A)) := (jg251_84 2).trans rfl
theorem jq251_677 : ib_c251[677]? = (some (some (.aload_n 3, 0, 0, 0, 0)) : Option (Option ib_A)) := (jg251_84 5).trans rfl
theorem jq251_678 : ib_c251[678]? = (some (some (.iconst 0, 0, 0, 0, 0)) : Option (Option ib_A)) := (jg251_84 6).trans rfl
theorem jq251_679 : ib_c251[679]? = (some (some (.laload, 0, 0, 0, 0)) : Option (Option ib_A)) := (jg251_84 7).trans rfl
theorem jq251_680 : ib_c251[680]? = (some (some (.iload 6, 0, 0, 0, 0)) : Option (Option ib_A)) := (jg251_85 0).trans rfl
theorem jq251_682 : ib_c251[682]? = (some (some (.i2l, 0, 0, 0, 0)) : Option (Option ib_A)) := (jg251_85 2).trans rfl
theorem jq251_683 : ib_c251[683]? = (some (some (.lcmp, 0, 0, 0, 0)) : Option (Option ib_A)) := (jg251_85 3).trans rfl
theorem jq251_684 : ib_c251[684]? = (some (some (.ifCond .eq 5, 689, 0, 0, 0)) : Option (Option ib_A)) := (jg251_85 4).trans rfl
theorem jq251_687 : ib_c251[687]? = (some (some (.iconst 0, 0, 0, 0, 0)) : Option (Option ib_A)) := (jg251_85 7).trans rfl
theorem jq251_688 : ib_c251[688]? = (some (some (.ireturn, 1, 0, 0, 0)) : Option (Option ib_A)) := (jg251_86 0).trans rfl
theorem jq251_689 : ib_c251[689]? = (some (some (.goto 724, 1413, 0, 0, 0)) : Option (Option ib_A)) := (jg251_86 1).trans rfl
theorem jq251_692 : ib_c251[692]? = (some (some (.aload_n 1, 0, 0, 0, 0)) : Option (Option ib_A)) := (jg251_86 4).trans rfl
theorem jq251_693 : ib_c251[693]? = (some (some (.aload_n 0, 0, 0, 0, 0)) : Option (Option ib_A)) := (jg251_86 5).trans rfl
theorem jq251_694 : ib_c251[694]? = (some (some (.iload 4, 0, 0, 0, 0)) : Option (Option ib_A)) := (jg251_86 6).trans rfl
theorem jq251_696 : ib_c251[696]? = (some (some (.iconst 1, 0, 0, 0, 0)) : Option (Option ib_A)) := (jg251_87 0).trans rfl
theorem jq251_697 : ib_c251[697]? = (some (some (.iadd, 0, 0, 0, 0)) : Option (Option ib_A)) := (jg251_87 1).trans rfl
theorem jq251_698 : ib_c251[698]? = (some (some (.iaload, 0, 0, 0, 0)) : Option (Option ib_A)) := (jg251_87 2).trans rfl
theorem jq251_699 : ib_c251[699]? = (some (some (.aload_n 3, 0, 0, 0, 0)) : Option (Option ib_A)) := (jg251_87 3).trans rfl
theorem jq251_700 : ib_c251[700]? = (some (some (.invokestatic 121, 240, 3, 0, 962)) : Option (Option ib_A)) := (jg251_87 4).trans rfl
theorem jq251_703 : ib_c251[703]? = (some (some (.istore 5, 0, 0, 0, 0)) : Option (Option ib_A)) := (jg251_87 7).trans rfl
theorem jq251_705 : ib_c251[705]? = (some (some (.aload_n 2, 0, 0, 0, 0)) : Option (Option ib_A)) := (jg251_88 1).trans rfl
theorem jq251_706 : ib_c251[706]? = (some (some (.aload_n 0, 0, 0, 0, 0)) : Option (Option ib_A)) := (jg251_88 2).trans rfl
theorem jq251_707 : ib_c251[707]? = (some (some (.iload 4, 0, 0, 0, 0)) : Option (Option ib_A)) := (jg251_88 3).trans rfl
theorem jq251_709 : ib_c251[709]? = (some (some (.iconst 1, 0, 0, 0, 0)) : Option (Option ib_A)) := (jg251_88 5).trans rfl
theorem jq251_710 : ib_c251[710]? = (some (some (.iadd, 0, 0, 0, 0)) : Option (Option ib_A)) := (jg251_88 6).trans rfl
theorem jq251_711 : ib_c251[711]? = (some (some (.iaload, 0, 0, 0, 0)) : Option (Option ib_A)) := (jg251_88 7).trans rfl
theorem jq251_712 : ib_c251[712]? = (some (some (.invokevirtual 123, 201, 1, 11, 1487)) : Option (Option ib_A)) := (jg251_89 0).trans rfl
theorem jq251_715 : ib_c251[715]? = (some (some (.istore 6, 0, 0, 0, 0)) : Option (Option ib_A)) := (jg251_89 3).trans rfl
theorem jq251_717 : ib_c251[717]? = (some (some (.aload_n 2, 0, 0, 0, 0)) : Option (Option ib_A)) := (jg251_89 5).trans rfl
theorem jq251_718 : ib_c251[718]? = (some (some (.invokevirtual 90, 146, 0, 11, 1274)) : Option (Option ib_A)) := (jg251_89 6).trans rfl
theorem jq251_721 : ib_c251[721]? = (some (some (.iload 5, 0, 0, 0, 0)) : Option (Option ib_A)) := (jg251_90 1).trans rfl
theorem jq251_723 : ib_c251[723]? = (some (some (.if_icmp .eq 5, 728, 0, 0, 0)) : Option (Option ib_A)) := (jg251_90 3).trans rfl
theorem jq251_726 : ib_c251[726]? = (some (some (.iconst 0, 0, 0, 0, 0)) : Option (Option ib_A)) := (jg251_90 6).trans rfl
theorem jq251_727 : ib_c251[727]? = (some (some (.ireturn, 1, 0, 0, 0)) : Option (Option ib_A)) := (jg251_90 7).trans rfl
theorem jq251_728 : ib_c251[728]? = (some (some (.iload 5, 0, 0, 0, 0)) : Option (Option ib_A)) := (jg251_91 0).trans rfl
theorem jq251_730 : ib_c251[730]? = (some (some (.ifCond .ne 15, 745, 0, 0, 0)) : Option (Option ib_A)) := (jg251_91 2).trans rfl
theorem jq251_733 : ib_c251[733]? = (some (some (.aload_n 3, 0, 0, 0, 0)) : Option (Option ib_A)) := (jg251_91 5).trans rfl
theorem jq251_734 : ib_c251[734]? = (some (some (.iconst 0, 0, 0, 0, 0)) : Option (Option ib_A)) := (jg251_91 6).trans rfl
theorem jq251_735 : ib_c251[735]? = (some (some (.laload, 0, 0, 0, 0)) : Option (Option ib_A)) := (jg251_91 7).trans rfl
theorem jq251_736 : ib_c251[736]? = (some (some (.iload 6, 0, 0, 0, 0)) : Option (Option ib_A)) := (jg251_92 0).trans rfl
theorem jq251_738 : ib_c251[738]? = (some (some (.i2l, 0, 0, 0, 0)) : Option (Option ib_A)) := (jg251_92 2).trans rfl
theorem jq251_739 : ib_c251[739]? = (some (some (.lcmp, 0, 0, 0, 0)) : Option (Option ib_A)) := (jg251_92 3).trans rfl
theorem jq251_740 : ib_c251[740]? = (some (some (.ifCond .eq 5, 745, 0, 0, 0)) : Option (Option ib_A)) := (jg251_92 4).trans rfl
theorem jq251_743 : ib_c251[743]? = (some (some (.iconst 0, 0, 0, 0, 0)) : Option (Option ib_A)) := (jg251_92 7).trans rfl
theorem jq251_744 : ib_c251[744]? = (some (some (.ireturn, 1, 0, 0, 0)) : Option (Option ib_A)) := (jg251_93 0).trans rfl
theorem jq251_745 : ib_c251[745]? = (some (some (.goto 668, 1413, 0, 0, 0)) : Option (Option ib_A)) := (jg251_93 1).trans rfl
theorem jq251_748 : ib_c251[748]? = (some (some (.aload_n 1, 0, 0, 0, 0)) : Option (Option ib_A)) := (jg251_93 4).trans rfl
theorem jq251_749 : ib_c251[749]? = (some (some (.aload_n 0, 0, 0, 0, 0)) : Option (Option ib_A)) := (jg251_93 5).trans rfl
theorem jq251_750 : ib_c251[750]? = (some (some (.iload 4, 0, 0, 0, 0)) : Option (Option ib_A)) := (jg251_93 6).trans rfl
theorem jq251_752 : ib_c251[752]? = (some (some (.iconst 1, 0, 0, 0, 0)) : Option (Option ib_A)) := (jg251_94 0).trans rfl
theorem jq251_753 : ib_c251[753]? = (some (some (.iadd, 0, 0, 0, 0)) : Option (Option ib_A)) := (jg251_94 1).trans rfl
theorem jq251_754 : ib_c251[754]? = (some (some (.iaload, 0, 0, 0, 0)) : Option (Option ib_A)) := (jg251_94 2).trans rfl
theorem jq251_755 : ib_c251[755]? = (some (some (.invokestatic 124, 241, 2, 0, 997)) : Option (Option ib_A)) := (jg251_94 3).trans rfl
theorem jq251_758 : ib_c251[758]? = (some (some (.istore 5, 0, 0, 0, 0)) : Option (Option ib_A)) := (jg251_94 6).trans rfl
theorem jq251_760 : ib_c251[760]? = (some (some (.aload_n 2, 0, 0, 0, 0)) : Option (Option ib_A)) := (jg251_95 0).trans rfl
theorem jq251_761 : ib_c251[761]? = (some (some (.aload_n 0, 0, 0, 0, 0)) : Option (Option ib_A)) := (jg251_95 1).trans rfl
theorem jq251_762 : ib_c251[762]? = (some (some (.iload 4, 0, 0, 0, 0)) : Option (Option ib_A)) := (jg251_95 2).trans rfl
theorem jq251_764 : ib_c251[764]? = (some (some (.iconst 1, 0, 0, 0, 0)) : Option (Option ib_A)) := (jg251_95 4).trans rfl
theorem jq251_765 : ib_c251[765]? = (some (some (.iadd, 0, 0, 0, 0)) : Option (Option ib_A)) := (jg251_95 5).trans rfl
theorem jq251_766 : ib_c251[766]? = (some (some (.iaload, 0, 0, 0, 0)) : Option (Option ib_A)) := (jg251_95 6).trans rfl
theorem jq251_767 : ib_c251[767]? = (some (some (.invokevirtual 126, 202, 1, 11, 1491)) : Option (Option ib_A)) := (jg251_95 7).trans rfl
theorem jq251_770 : ib_c251[770]? = (some (some (.aload_n 2, 0, 0, 0, 0)) : Option (Option ib_A)) := (jg251_96 2).trans rfl
theorem jq251_771 : ib_c251[771]? = (some (some (.invokevirtual 90, 146, 0, 11, 1274)) : Option (Option ib_A)) := (jg251_96 3).trans rfl
theorem jq251_774 : ib_c251[774]? = (some (some (.iload 5, 0, 0, 0, 0)) : Option (Option ib_A)) := (jg251_96 6).trans rfl
theorem jq251_776 : ib_c251[776]? = (some (some (.if_icmp .eq 5, 781, 0, 0, 0)) : Option (Option ib_A)) := (jg251_97 0).trans rfl
theorem jq251_779 : ib_c251[779]? = (some (some (.iconst 0, 0, 0, 0, 0)) : Option (Option ib_A)) := (jg251_97 3).trans rfl
theorem jq251_780 : ib_c251[780]? = (some (some (.ireturn, 1, 0, 0, 0)) : Option (Option ib_A)) := (jg251_97 4).trans rfl
theorem jq251_781 : ib_c251[781]? = (some (some (.goto 632, 1413, 0, 0, 0)) : Option (Option ib_A)) := (jg251_97 5).trans rfl
theorem jq251_784 : ib_c251[784]? = (some (some (.aload_n 1, 0, 0, 0, 0)) : Option (Option ib_A)) := (jg251_98 0).trans rfl
theorem jq251_785 : ib_c251[785]? = (some (some (.invokevirtual 127, 118, 0, 10, 333)) : Option (Option ib_A)) := (jg251_98 1).trans rfl
theorem jq251_788 : ib_c251[788]? = (some (some (.aload_n 2, 0, 0, 0, 0)) : Option (Option ib_A)) := (jg251_98 4).trans rfl
theorem jq251_789 : ib_c251[789]? = (some (some (.invokevirtual 130, 203, 0, 11, 1495)) : Option (Option ib_A)) := (jg251_98 5).trans rfl
theorem jq251_792 : ib_c251[792]? = (some (some (.goto 621, 1413, 0, 0, 0)) : Option (Option ib_A)) := (jg251_99 0).trans rfl
theorem jq251_795 : ib_c251[795]? = (some (some (.aload_n 1, 0, 0, 0, 0)) : Option (Option ib_A)) := (jg251_99 3).trans rfl
theorem jq251_796 : ib_c251[796]? = (some (some (.aload_n 3, 0, 0, 0, 0)) : Option (Option ib_A)) := (jg251_99 4).trans rfl
theorem jq251_797 : ib_c251[797]? = (some (some (.invokestatic 131, 242, 2, 0, 1005)) : Option (Option ib_A)) := (jg251_99 5).trans rfl
theorem jq251_800 : ib_c251[800]? = (some (some (.istore 5, 0, 0, 0, 0)) : Option (Option ib_A)) := (jg251_100 0).trans rfl
theorem jq251_802 : ib_c251[802]? = (some (some (.aload_n 2, 0, 0, 0, 0)) : Option (Option ib_A)) := (jg251_100 2).trans rfl
theorem jq251_803 : ib_c251[803]? = (some (some (.invokevirtual 133, 212, 0, 11, 1499)) : Option (Option ib_A)) := (jg251_100 3).trans rfl
theorem jq251_806 : ib_c251[806]? = (some (some (.istore 6, 0, 0, 0, 0)) : Option (Option ib_A)) := (jg251_100 6).trans rfl
theorem jq251_808 : ib_c251[808]? = (some (some (.aload_n 2, 0, 0, 0, 0)) : Option (Option ib_A)) := (jg251_101 0).trans rfl
theorem jq251_809 : ib_c251[809]? = (some (some (.invokevirtual 90, 146, 0, 11, 1274)) : Option (Option ib_A)) := (jg251_101 1).trans rfl
theorem jq251_812 : ib_c251[812]? = (some (some (.iload 5, 0, 0, 0, 0)) : Option (Option ib_A)) := (jg251_101 4).trans rfl
theorem jq251_814 : ib_c251[814]? = (some (some (.if_icmp .eq 5, 819, 0, 0, 0)) : Option (Option ib_A)) := (jg251_101 6).trans rfl
theorem jq251_817 : ib_c251[817]? = (some (some (.iconst 0, 0, 0, 0, 0)) : Option (Option ib_A)) := (jg251_102 1).trans rfl
theorem jq251_818 : ib_c251[818]? = (some (some (.ireturn, 1, 0, 0, 0)) : Option (Option ib_A)) := (jg251_102 2).trans rfl
theorem jq251_819 : ib_c251[819]? = (some (some (.iload 5, 0, 0, 0, 0)) : Option (Option ib_A)) := (jg251_102 3).trans rfl
theorem jq251_821 : ib_c251[821]? = (some (some (.ifCond .ne 15, 836, 0, 0, 0)) : Option (Option ib_A)) := (jg251_102 5).trans rfl
theorem jq251_824 : ib_c251[824]? = (some (some (.aload_n 3, 0, 0, 0, 0)) : Option (Option ib_A)) := (jg251_103 0).trans rfl
theorem jq251_825 : ib_c251[825]? = (some (some (.iconst 0, 0, 0, 0, 0)) : Option (Option ib_A)) := (jg251_103 1).trans rfl
theorem jq251_826 : ib_c251[826]? = (some (some (.laload, 0, 0, 0, 0)) : Option (Option ib_A)) := (jg251_103 2).trans rfl
theorem jq251_827 : ib_c251[827]? = (some (some (.iload 6, 0, 0, 0, 0)) : Option (Option ib_A)) := (jg251_103 3).trans rfl
theorem jq251_829 : ib_c251[829]? = (some (some (.i2l, 0, 0, 0, 0)) : Option (Option ib_A)) := (jg251_103 5).trans rfl
theorem jq251_830 : ib_c251[830]? = (some (some (.lcmp, 0, 0, 0, 0)) : Option (Option ib_A)) := (jg251_103 6).trans rfl
theorem jq251_831 : ib_c251[831]? = (some (some (.ifCond .eq 5, 836, 0, 0, 0)) : Option (Option ib_A)) := (jg251_103 7).trans rfl
theorem jq251_834 : ib_c251[834]? = (some (some (.iconst 0, 0, 0, 0, 0)) : Option (Option ib_A)) := (jg251_104 2).trans rfl
theorem jq251_835 : ib_c251[835]? = (some (some (.ireturn, 1, 0, 0, 0)) : Option (Option ib_A)) := (jg251_104 3).trans rfl
theorem jq251_836 : ib_c251[836]? = (some (some (.goto 577, 1413, 0, 0, 0)) : Option (Option ib_A)) := (jg251_104 4).trans rfl
theorem jq251_839 : ib_c251[839]? = (some (some (.aload_n 1, 0, 0, 0, 0)) : Option (Option ib_A)) := (jg251_104 7).trans rfl
theorem jq251_840 : ib_c251[840]? = (some (some (.aload_n 0, 0, 0, 0, 0)) : Option (Option ib_A)) := (jg251_105 0).trans rfl
theorem jq251_841 : ib_c251[841]? = (some (some (.iload 4, 0, 0, 0, 0)) : Option (Option ib_A)) := (jg251_105 1).trans rfl
theorem jq251_843 : ib_c251[843]? = (some (some (.iconst 1, 0, 0, 0, 0)) : Option (Option ib_A)) := (jg251_105 3).trans rfl
theorem jq251_844 : ib_c251[844]? = (some (some (.iadd, 0, 0, 0, 0)) : Option (Option ib_A)) := (jg251_105 4).trans rfl
theorem jq251_845 : ib_c251[845]? = (some (some (.iaload, 0, 0, 0, 0)) : Option (Option ib_A)) := (jg251_105 5).trans rfl
theorem jq251_846 : ib_c251[846]? = (some (some (.aload_n 3, 0, 0, 0, 0)) : Option (Option ib_A)) := (jg251_105 6).trans rfl
theorem jq251_847 : ib_c251[847]? = (some (some (.invokestatic 134, 243, 3, 0, 1090)) : Option (Option ib_A)) := (jg251_105 7).trans rfl
theorem jq251_850 : ib_c251[850]? = (some (some (.istore 5, 0, 0, 0, 0)) : Option (Option ib_A)) := (jg251_106 2).trans rfl
theorem jq251_852 : ib_c251[852]? = (some (some (.aload_n 2, 0, 0, 0, 0)) : Option (Option ib_A)) := (jg251_106 4).trans rfl
theorem jq251_853 : ib_c251[853]? = (some (some (.aload_n 0, 0, 0, 0, 0)) : Option (Option ib_A)) := (jg251_106 5).trans rfl
theorem jq251_854 : ib_c251[854]? = (some (some (.iload 4, 0, 0, 0, 0)) : Option (Option ib_A)) := (jg251_106 6).trans rfl
theorem jq251_856 : ib_c251[856]? = (some (some (.iconst 1, 0, 0, 0, 0)) : Option (Option ib_A)) := (jg251_107 0).trans rfl
theorem jq251_857 : ib_c251[857]? = (some (some (.iadd, 0, 0, 0, 0)) : Option (Option ib_A)) := (jg251_107 1).trans rfl
theorem jq251_858 : ib_c251[858]? = (some (some (.iaload, 0, 0, 0, 0)) : Option (Option ib_A)) := (jg251_107 2).trans rfl
theorem jq251_859 : ib_c251[859]? = (some (some (.invokevirtual 136, 213, 1, 11, 1535)) : Option (Option ib_A)) := (jg251_107 3).trans rfl
theorem jq251_862 : ib_c251[862]? = (some (some (.istore 6, 0, 0, 0, 0)) : Option (Option ib_A)) := (jg251_107 6).trans rfl
theorem jq251_864 : ib_c251[864]? = (some (some (.aload_n 2, 0, 0, 0, 0)) : Option (Option ib_A)) := (jg251_108 0).trans rfl
theorem jq251_865 : ib_c251[865]? = (some (some (.invokevirtual 90, 146, 0, 11, 1274)) : Option (Option ib_A)) := (jg251_108 1).trans rfl
theorem jq251_868 : ib_c251[868]? = (some (some (.iload 5, 0, 0, 0, 0)) : Option (Option ib_A)) := (jg251_108 4).trans rfl
theorem jq251_870 : ib_c251[870]? = (some (some (.if_icmp .eq 5, 875, 0, 0, 0)) : Option (Option ib_A)) := (jg251_108 6).trans rfl
theorem jq251_873 : ib_c251[873]? = (some (some (.iconst 0, 0, 0, 0, 0)) : Option (Option ib_A)) := (jg251_109 1).trans rfl
theorem jq251_874 : ib_c251[874]? = (some (some (.ireturn, 1, 0, 0, 0)) : Option (Option ib_A)) := (jg251_109 2).trans rfl
theorem jq251_875 : ib_c251[875]? = (some (some (.iload 5, 0, 0, 0, 0)) : Option (Option ib_A)) := (jg251_109 3).trans rfl
theorem jq251_877 : ib_c251[877]? = (some (some (.ifCond .ne 15, 892, 0, 0, 0)) : Option (Option ib_A)) := (jg251_109 5).trans rfl
theorem jq251_880 : ib_c251[880]? = (some (some (.aload_n 3, 0, 0, 0, 0)) : Option (Option ib_A)) := (jg251_110 0).trans rfl
theorem jq251_881 : ib_c251[881]? = (some (some (.iconst 0, 0, 0, 0, 0)) : Option (Option ib_A)) := (jg251_110 1).trans rfl
theorem jq251_882 : ib_c251[882]? = (some (some (.laload, 0, 0, 0, 0)) : Option (Option ib_A)) := (jg251_110 2).trans rfl
theorem jq251_883 : ib_c251[883]? = (some (some (.iload 6, 0, 0, 0, 0)) : Option (Option ib_A)) := (jg251_110 3).trans rfl
theorem jq251_885 : ib_c251[885]? = (some (some (.i2l, 0, 0, 0, 0)) : Option (Option ib_A)) := (jg251_110 5).trans rfl
theorem jq251_886 : ib_c251[886]? = (some (some (.lcmp, 0, 0, 0, 0)) : Option (Option ib_A)) := (jg251_110 6).trans rfl
theorem jq251_887 : ib_c251[887]? = (some (some (.ifCond .eq 5, 892, 0, 0, 0)) : Option (Option ib_A)) := (jg251_110 7).trans rfl
theorem jq251_890 : ib_c251[890]? = (some (some (.iconst 0, 0, 0, 0, 0)) : Option (Option ib_A)) := (jg251_111 2).trans rfl
theorem jq251_891 : ib_c251[891]? = (some (some (.ireturn, 1, 0, 0, 0)) : Option (Option ib_A)) := (jg251_111 3).trans rfl
theorem jq251_892 : ib_c251[892]? = (some (some (.goto 521, 1413, 0, 0, 0)) : Option (Option ib_A)) := (jg251_111 4).trans rfl
theorem jq251_895 : ib_c251[895]? = (some (some (.aload_n 1, 0, 0, 0, 0)) : Option (Option ib_A)) := (jg251_111 7).trans rfl
theorem jq251_896 : ib_c251[896]? = (some (some (.aload_n 0, 0, 0, 0, 0)) : Option (Option ib_A)) := (jg251_112 0).trans rfl
theorem jq251_897 : ib_c251[897]? = (some (some (.iload 4, 0, 0, 0, 0)) : Option (Option ib_A)) := (jg251_112 1).trans rfl
theorem jq251_899 : ib_c251[899]? = (some (some (.iconst 1, 0, 0, 0, 0)) : Option (Option ib_A)) := (jg251_112 3).trans rfl
theorem jq251_900 : ib_c251[900]? = (some (some (.iadd, 0, 0, 0, 0)) : Option (Option ib_A)) := (jg251_112 4).trans rfl
theorem jq251_901 : ib_c251[901]? = (some (some (.iaload, 0, 0, 0, 0)) : Option (Option ib_A)) := (jg251_112 5).trans rfl
theorem jq251_902 : ib_c251[902]? = (some (some (.aload_n 0, 0, 0, 0, 0)) : Option (Option ib_A)) := (jg251_112 6).trans rfl
theorem jq251_903 : ib_c251[903]? = (some (some (.iload 4, 0, 0, 0, 0)) : Option (Option ib_A)) := (jg251_112 7).trans rfl
theorem jq251_905 : ib_c251[905]? = (some (some (.iconst 2, 0, 0, 0, 0)) : Option (Option ib_A)) := (jg251_113 1).trans rfl
theorem jq251_906 : ib_c251[906]? = (some (some (.iadd, 0, 0, 0, 0)) : Option (Option ib_A)) := (jg251_113 2).trans rfl
theorem jq251_907 : ib_c251[907]? = (some (some (.iaload, 0, 0, 0, 0)) : Option (Option ib_A)) := (jg251_113 3).trans rfl
theorem jq251_908 : ib_c251[908]? = (some (some (.aload_n 3, 0, 0, 0, 0)) : Option (Option ib_A)) := (jg251_113 4).trans rfl
theorem jq251_909 : ib_c251[909]? = (some (some (.invokestatic 137, 244, 4, 0, 1098)) : Option (Option ib_A)) := (jg251_113 5).trans rfl
theorem jq251_912 : ib_c251[912]? = (some (some (.istore 5, 0, 0, 0, 0)) : Option (Option ib_A)) := (jg251_114 0).trans rfl
theorem jq251_914 : ib_c251[914]? = (some (some (.aload_n 2, 0, 0, 0, 0)) : Option (Option ib_A)) := (jg251_114 2).trans rfl
theorem jq251_915 : ib_c251[915]? = (some (some (.aload_n 0, 0, 0, 0, 0)) : Option (Option ib_A)) := (jg251_114 3).trans rfl
theorem jq251_916 : ib_c251[916]? = (some (some (.iload 4, 0, 0, 0, 0)) : Option (Option ib_A)) := (jg251_114 4).trans rfl
theorem jq251_918 : ib_c251[918]? = (some (some (.iconst 1, 0, 0, 0, 0)) : Option (Option ib_A)) := (jg251_114 6).trans rfl
theorem jq251_919 : ib_c251[919]? = (some (some (.iadd, 0, 0, 0, 0)) : Option (Option ib_A)) := (jg251_114 7).trans rfl
theorem jq251_920 : ib_c251[920]? = (some (some (.iaload, 0, 0, 0, 0)) : Option (Option ib_A)) := (jg251_115 0).trans rfl
theorem jq251_921 : ib_c251[921]? = (some (some (.aload_n 0, 0, 0, 0, 0)) : Option (Option ib_A)) := (jg251_115 1).trans rfl
theorem jq251_922 : ib_c251[922]? = (some (some (.iload 4, 0, 0, 0, 0)) : Option (Option ib_A)) := (jg251_115 2).trans rfl
theorem jq251_924 : ib_c251[924]? = (some (some (.iconst 2, 0, 0, 0, 0)) : Option (Option ib_A)) := (jg251_115 4).trans rfl
theorem jq251_925 : ib_c251[925]? = (some (some (.iadd, 0, 0, 0, 0)) : Option (Option ib_A)) := (jg251_115 5).trans rfl
theorem jq251_926 : ib_c251[926]? = (some (some (.iaload, 0, 0, 0, 0)) : Option (Option ib_A)) := (jg251_115 6).trans rfl
theorem jq251_927 : ib_c251[927]? = (some (some (.invokevirtual 139, 214, 2, 11, 1539)) : Option (Option ib_A)) := (jg251_115 7).trans rfl
theorem jq251_930 : ib_c251[930]? = (some (some (.istore 6, 0, 0, 0, 0)) : Option (Option ib_A)) := (jg251_116 2).trans rfl
theorem jq251_932 : ib_c251[932]? = (some (some (.aload_n 2, 0, 0, 0, 0)) : Option (Option ib_A)) := (jg251_116 4).trans rfl
theorem jq251_933 : ib_c251[933]? = (some (some (.invokevirtual 90, 146, 0, 11, 1274)) : Option (Option ib_A)) := (jg251_116 5).trans rfl
theorem jq251_936 : ib_c251[936]? = (some (some (.iload 5, 0, 0, 0, 0)) : Option (Option ib_A)) := (jg251_117 0).trans rfl
theorem jq251_938 : ib_c251[938]? = (some (some (.if_icmp .eq 5, 943, 0, 0, 0)) : Option (Option ib_A)) := (jg251_117 2).trans rfl
theorem jq251_941 : ib_c251[941]? = (some (some (.iconst 0, 0, 0, 0, 0)) : Option (Option ib_A)) := (jg251_117 5).trans rfl
theorem jq251_942 : ib_c251[942]? = (some (some (.ireturn, 1, 0, 0, 0)) : Option (Option ib_A)) := (jg251_117 6).trans rfl
theorem jq251_943 : ib_c251[943]? = (some (some (.iload 5, 0, 0, 0, 0)) : Option (Option ib_A)) := (jg251_117 7).trans rfl
theorem jq251_945 : ib_c251[945]? = (some (some (.ifCond .ne 15, 960, 0, 0, 0)) : Option (Option ib_A)) := (jg251_118 1).trans rfl
theorem jq251_948 : ib_c251[948]? = (some (some (.aload_n 3, 0, 0, 0, 0)) : Option (Option ib_A)) := (jg251_118 4).trans rfl
theorem jq251_949 : ib_c251[949]? = (some (some (.iconst 0, 0, 0, 0, 0)) : Option (Option ib_A)) := (jg251_118 5).trans rfl
theorem jq251_950 : ib_c251[950]? = (some (some (.laload, 0, 0, 0, 0)) : Option (Option ib_A)) := (jg251_118 6).trans rfl
theorem jq251_951 : ib_c251[951]? = (some (some (.iload 6, 0, 0, 0, 0)) : Option (Option ib_A)) := (jg251_118 7).trans rfl
theorem jq251_953 : ib_c251[953]? = (some (some (.i2l, 0, 0, 0, 0)) : Option (Option ib_A)) := (jg251_119 1).trans rfl
theorem jq251_954 : ib_c251[954]? = (some (some (.lcmp, 0, 0, 0, 0)) : Option (Option ib_A)) := (jg251_119 2).trans rfl
theorem jq251_955 : ib_c251[955]? = (some (some (.ifCond .eq 5, 960, 0, 0, 0)) : Option (Option ib_A)) := (jg251_119 3).trans rfl
theorem jq251_958 : ib_c251[958]? = (some (some (.iconst 0, 0, 0, 0, 0)) : Option (Option ib_A)) := (jg251_119 6).trans rfl
theorem jq251_959 : ib_c251[959]? = (some (some (.ireturn, 1, 0, 0, 0)) : Option (Option ib_A)) := (jg251_119 7).trans rfl
theorem jq251_960 : ib_c251[960]? = (some (some (.goto 453, 1413, 0, 0, 0)) : Option (Option ib_A)) := (jg251_120 0).trans rfl
theorem jq251_963 : ib_c251[963]? = (some (some (.aload_n 1, 0, 0, 0, 0)) : Option (Option ib_A)) := (jg251_120 3).trans rfl
theorem jq251_964 : ib_c251[964]? = (some (some (.aload_n 0, 0, 0, 0, 0)) : Option (Option ib_A)) := (jg251_120 4).trans rfl
theorem jq251_965 : ib_c251[965]? = (some (some (.iload 4, 0, 0, 0, 0)) : Option (Option ib_A)) := (jg251_120 5).trans rfl
theorem jq251_967 : ib_c251[967]? = (some (some (.iconst 1, 0, 0, 0, 0)) : Option (Option ib_A)) := (jg251_120 7).trans rfl
theorem jq251_968 : ib_c251[968]? = (some (some (.iadd, 0, 0, 0, 0)) : Option (Option ib_A)) := (jg251_121 0).trans rfl
theorem jq251_969 : ib_c251[969]? = (some (some (.iaload, 0, 0, 0, 0)) : Option (Option ib_A)) := (jg251_121 1).trans rfl
theorem jq251_970 : ib_c251[970]? = (some (some (.aload_n 0, 0, 0, 0, 0)) : Option (Option ib_A)) := (jg251_121 2).trans rfl
theorem jq251_971 : ib_c251[971]? = (some (some (.iload 4, 0, 0, 0, 0)) : Option (Option ib_A)) := (jg251_121 3).trans rfl
theorem jq251_973 : ib_c251[973]? = (some (some (.iconst 2, 0, 0, 0, 0)) : Option (Option ib_A)) := (jg251_121 5).trans rfl
theorem jq251_974 : ib_c251[974]? = (some (some (.iadd, 0, 0, 0, 0)) : Option (Option ib_A)) := (jg251_121 6).trans rfl
theorem jq251_975 : ib_c251[975]? = (some (some (.iaload, 0, 0, 0, 0)) : Option (Option ib_A)) := (jg251_121 7).trans rfl
theorem jq251_976 : ib_c251[976]? = (some (some (.aload_n 3, 0, 0, 0, 0)) : Option (Option ib_A)) := (jg251_122 0).trans rfl
theorem jq251_977 : ib_c251[977]? = (some (some (.invokestatic 140, 245, 4, 0, 1108)) : Option (Option ib_A)) := (jg251_122 1).trans rfl
theorem jq251_980 : ib_c251[980]? = (some (some (.istore 5, 0, 0, 0, 0)) : Option (Option ib_A)) := (jg251_122 4).trans rfl
theorem jq251_982 : ib_c251[982]? = (some (some (.aload_n 2, 0, 0, 0, 0)) : Option (Option ib_A)) := (jg251_122 6).trans rfl
theorem jq251_983 : ib_c251[983]? = (some (some (.aload_n 0, 0, 0, 0, 0)) : Option (Option ib_A)) := (jg251_122 7).trans rfl
theorem jq251_984 : ib_c251[984]? = (some (some (.iload 4, 0, 0, 0, 0)) : Option (Option ib_A)) := (jg251_123 0).trans rfl
theorem jq251_986 : ib_c251[986]? = (some (some (.iconst 1, 0, 0, 0, 0)) : Option (Option ib_A)) := (jg251_123 2).trans rfl
theorem jq251_987 : ib_c251[987]? = (some (some (.iadd, 0, 0, 0, 0)) : Option (Option ib_A)) := (jg251_123 3).trans rfl
theorem jq251_988 : ib_c251[988]? = (some (some (.iaload, 0, 0, 0, 0)) : Option (Option ib_A)) := (jg251_123 4).trans rfl
theorem jq251_989 : ib_c251[989]? = (some (some (.aload_n 0, 0, 0, 0, 0)) : Option (Option ib_A)) := (jg251_123 5).trans rfl
theorem jq251_990 : ib_c251[990]? = (some (some (.iload 4, 0, 0, 0, 0)) : Option (Option ib_A)) := (jg251_123 6).trans rfl
theorem jq251_992 : ib_c251[992]? = (some (some (.iconst 2, 0, 0, 0, 0)) : Option (Option ib_A)) := (jg251_124 0).trans rfl
theorem jq251_993 : ib_c251[993]? = (some (some (.iadd, 0, 0, 0, 0)) : Option (Option ib_A)) := (jg251_124 1).trans rfl
theorem jq251_994 : ib_c251[994]? = (some (some (.iaload, 0, 0, 0, 0)) : Option (Option ib_A)) := (jg251_124 2).trans rfl
theorem jq251_995 : ib_c251[995]? = (some (some (.invokevirtual 142, 215, 2, 11, 1547)) : Option (Option ib_A)) := (jg251_124 3).trans rfl
theorem jq251_998 : ib_c251[998]? = (some (some (.istore 6, 0, 0, 0, 0)) : Option (Option ib_A)) := (jg251_124 6).trans rfl
theorem jq251_1000 : ib_c251[1000]? = (some (some (.aload_n 2, 0, 0, 0, 0)) : Option (Option ib_A)) := (jg251_125 0).trans rfl
theorem jq251_1001 : ib_c251[1001]? = (some (some (.invokevirtual 90, 146, 0, 11, 1274)) : Option (Option ib_A)) := (jg251_125 1).trans rfl
theorem jq251_1004 : ib_c251[1004]? = (some (some (.iload 5, 0, 0, 0, 0)) : Option (Option ib_A)) := (jg251_125 4).trans rfl
theorem jq251_1006 : ib_c251[1006]? = (some (some (.if_icmp .eq 5, 1011, 0, 0, 0)) : Option (Option ib_A)) := (jg251_125 6).trans rfl
theorem jq251_1009 : ib_c251[1009]? = (some (some (.iconst 0, 0, 0, 0, 0)) : Option (Option ib_A)) := (jg251_126 1).trans rfl
theorem jq251_1010 : ib_c251[1010]? = (some (some (.ireturn, 1, 0, 0, 0)) : Option (Option ib_A)) := (jg251_126 2).trans rfl
theorem jq251_1011 : ib_c251[1011]? = (some (some (.iload 5, 0, 0, 0, 0)) : Option (Option ib_A)) := (jg251_126 3).trans rfl
theorem jq251_1013 : ib_c251[1013]? = (some (some (.ifCond .ne 15, 1028, 0, 0, 0)) : Option (Option ib_A)) := (jg251_126 5).trans rfl
theorem jq251_1016 : ib_c251[1016]? = (some (some (.aload_n 3, 0, 0, 0, 0)) : Option (Option ib_A)) := (jg251_127 0).trans rfl
theorem jq251_1017 : ib_c251[1017]? = (some (some (.iconst 0, 0, 0, 0, 0)) : Option (Option ib_A)) := (jg251_127 1).trans rfl
theorem jq251_1018 : ib_c251[1018]? = (some (some (.laload, 0, 0, 0, 0)) : Option (Option ib_A)) := (jg251_127 2).trans rfl
theorem jq251_1019 : ib_c251[1019]? = (some (some (.iload 6, 0, 0, 0, 0)) : Option (Option ib_A)) := (jg251_127 3).trans rfl
theorem jq251_1021 : ib_c251[1021]? = (some (some (.i2l, 0, 0, 0, 0)) : Option (Option ib_A)) := (jg251_127 5).trans rfl
theorem jq251_1022 : ib_c251[1022]? = (some (some (.lcmp, 0, 0, 0, 0)) : Option (Option ib_A)) := (jg251_127 6).trans rfl
theorem jq251_1023 : ib_c251[1023]? = (some (some (.ifCond .eq 5, 1028, 0, 0, 0)) : Option (Option ib_A)) := (jg251_127 7).trans rfl
theorem jq251_1026 : ib_c251[1026]? = (some (some (.iconst 0, 0, 0, 0, 0)) : Option (Option ib_A)) := (jg251_128 2).trans rfl
theorem jq251_1027 : ib_c251[1027]? = (some (some (.ireturn, 1, 0, 0, 0)) : Option (Option ib_A)) := (jg251_128 3).trans rfl
theorem jq251_1028 : ib_c251[1028]? = (some (some (.goto 385, 1413, 0, 0, 0)) : Option (Option ib_A)) := (jg251_128 4).trans rfl
theorem jq251_1031 : ib_c251[1031]? = (some (some (.aload_n 1, 0, 0, 0, 0)) : Option (Option ib_A)) := (jg251_128 7).trans rfl
theorem jq251_1032 : ib_c251[1032]? = (some (some (.aload_n 0, 0, 0, 0, 0)) : Option (Option ib_A)) := (jg251_129 0).trans rfl
theorem jq251_1033 : ib_c251[1033]? = (some (some (.iload 4, 0, 0, 0, 0)) : Option (Option ib_A)) := (jg251_129 1).trans rfl
theorem jq251_1035 : ib_c251[1035]? = (some (some (.iconst 1, 0, 0, 0, 0)) : Option (Option ib_A)) := (jg251_129 3).trans rfl
theorem jq251_1036 : ib_c251[1036]? = (some (some (.iadd, 0, 0, 0, 0)) : Option (Option ib_A)) := (jg251_129 4).trans rfl
theorem jq251_1037 : ib_c251[1037]? = (some (some (.iaload, 0, 0, 0, 0)) : Option (Option ib_A)) := (jg251_129 5).trans rfl
theorem jq251_1038 : ib_c251[1038]? = (some (some (.aload_n 0, 0, 0, 0, 0)) : Option (Option ib_A)) := (jg251_129 6).trans rfl
theorem jq251_1039 : ib_c251[1039]? = (some (some (.iload 4, 0, 0, 0, 0)) : Option (Option ib_A)) := (jg251_129 7).trans rfl
theorem jq251_1041 : ib_c251[1041]? = (some (some (.iconst 2, 0, 0, 0, 0)) : Option (Option ib_A)) := (jg251_130 1).trans rfl
theorem jq251_1042 : ib_c251[1042]? = (some (some (.iadd, 0, 0, 0, 0)) : Option (Option ib_A)) := (jg251_130 2).trans rfl
theorem jq251_1043 : ib_c251[1043]? = (some (some (.iaload, 0, 0, 0, 0)) : Option (Option ib_A)) := (jg251_130 3).trans rfl
theorem jq251_1044 : ib_c251[1044]? = (some (some (.aload_n 3, 0, 0, 0, 0)) : Option (Option ib_A)) := (jg251_130 4).trans rfl
theorem jq251_1045 : ib_c251[1045]? = (some (some (.invokestatic 143, 246, 4, 0, 1117)) : Option (Option ib_A)) := (jg251_130 5).trans rfl
theorem jq251_1048 : ib_c251[1048]? = (some (some (.istore 5, 0, 0, 0, 0)) : Option (Option ib_A)) := (jg251_131 0).trans rfl
theorem jq251_1050 : ib_c251[1050]? = (some (some (.aload_n 2, 0, 0, 0, 0)) : Option (Option ib_A)) := (jg251_131 2).trans rfl
theorem jq251_1051 : ib_c251[1051]? = (some (some (.aload_n 0, 0, 0, 0, 0)) : Option (Option ib_A)) := (jg251_131 3).trans rfl
theorem jq251_1052 : ib_c251[1052]? = (some (some (.iload 4, 0, 0, 0, 0)) : Option (Option ib_A)) := (jg251_131 4).trans rfl
theorem jq251_1054 : ib_c251[1054]? = (some (some (.iconst 1, 0, 0, 0, 0)) : Option (Option ib_A)) := (jg251_131 6).trans rfl
theorem jq251_1055 : ib_c251[1055]? = (some (some (.iadd, 0, 0, 0, 0)) : Option (Option ib_A)) := (jg251_131 7).trans rfl
theorem jq251_1056 : ib_c251[1056]? = (some (some (.iaload, 0, 0, 0, 0)) : Option (Option ib_A)) := (jg251_132 0).trans rfl
theorem jq251_1057 : ib_c251[1057]? = (some (some (.aload_n 0, 0, 0, 0, 0)) : Option (Option ib_A)) := (jg251_132 1).trans rfl
theorem jq251_1058 : ib_c251[1058]? = (some (some (.iload 4, 0, 0, 0, 0)) : Option (Option ib_A)) := (jg251_132 2).trans rfl
theorem jq251_1060 : ib_c251[1060]? = (some (some (.iconst 2, 0, 0, 0, 0)) : Option (Option ib_A)) := (jg251_132 4).trans rfl
theorem jq251_1061 : ib_c251[1061]? = (some (some (.iadd, 0, 0, 0, 0)) : Option (Option ib_A)) := (jg251_132 5).trans rfl
theorem jq251_1062 : ib_c251[1062]? = (some (some (.iaload, 0, 0, 0, 0)) : Option (Option ib_A)) := (jg251_132 6).trans rfl
theorem jq251_1063 : ib_c251[1063]? = (some (some (.invokevirtual 145, 216, 2, 11, 1551)) : Option (Option ib_A)) := (jg251_132 7).trans rfl
theorem jq251_1066 : ib_c251[1066]? = (some (some (.istore 6, 0, 0, 0, 0)) : Option (Option ib_A)) := (jg251_133 2).trans rfl
theorem jq251_1068 : ib_c251[1068]? = (some (some (.aload_n 2, 0, 0, 0, 0)) : Option (Option ib_A)) := (jg251_133 4).trans rfl
theorem jq251_1069 : ib_c251[1069]? = (some (some (.invokevirtual 90, 146, 0, 11, 1274)) : Option (Option ib_A)) := (jg251_133 5).trans rfl
theorem jq251_1072 : ib_c251[1072]? = (some (some (.iload 5, 0, 0, 0, 0)) : Option (Option ib_A)) := (jg251_134 0).trans rfl
theorem jq251_1074 : ib_c251[1074]? = (some (some (.if_icmp .eq 5, 1079, 0, 0, 0)) : Option (Option ib_A)) := (jg251_134 2).trans rfl
theorem jq251_1077 : ib_c251[1077]? = (some (some (.iconst 0, 0, 0, 0, 0)) : Option (Option ib_A)) := (jg251_134 5).trans rfl
theorem jq251_1078 : ib_c251[1078]? = (some (some (.ireturn, 1, 0, 0, 0)) : Option (Option ib_A)) := (jg251_134 6).trans rfl
theorem jq251_1079 : ib_c251[1079]? = (some (some (.iload 5, 0, 0, 0, 0)) : Option (Option ib_A)) := (jg251_134 7).trans rfl
theorem jq251_1081 : ib_c251[1081]? = (some (some (.ifCond .ne 15, 1096, 0, 0, 0)) : Option (Option ib_A)) := (jg251_135 1).trans rfl
theorem jq251_1084 : ib_c251[1084]? = (some (some (.aload_n 3, 0, 0, 0, 0)) : Option (Option ib_A)) := (jg251_135 4).trans rfl
theorem jq251_1085 : ib_c251[1085]? = (some (some (.iconst 0, 0, 0, 0, 0)) : Option (Option ib_A)) := (jg251_135 5).trans rfl
theorem jq251_1086 : ib_c251[1086]? = (some (some (.laload, 0, 0, 0, 0)) : Option (Option ib_A)) := (jg251_135 6).trans rfl
theorem jq251_1087 : ib_c251[1087]? = (some (some (.iload 6, 0, 0, 0, 0)) : Option (Option ib_A)) := (jg251_135 7).trans rfl
theorem jq251_1089 : ib_c251[1089]? = (some (some (.i2l, 0, 0, 0, 0)) : Option (Option ib_A)) := (jg251_136 1).trans rfl
theorem jq251_1090 : ib_c251[1090]? = (some (some (.lcmp, 0, 0, 0, 0)) : Option (Option ib_A)) := (jg251_136 2).trans rfl
theorem jq251_1091 : ib_c251[1091]? = (some (some (.ifCond .eq 5, 1096, 0, 0, 0)) : Option (Option ib_A)) := (jg251_136 3).trans rfl
theorem jq251_1094 : ib_c251[1094]? = (some (some (.iconst 0, 0, 0, 0, 0)) : Option (Option ib_A)) := (jg251_136 6).trans rfl
theorem jq251_1095 : ib_c251[1095]? = (some (some (.ireturn, 1, 0, 0, 0)) : Option (Option ib_A)) := (jg251_136 7).trans rfl
theorem jq251_1096 : ib_c251[1096]? = (some (some (.goto 317, 1413, 0, 0, 0)) : Option (Option ib_A)) := (jg251_137 0).trans rfl
theorem jq251_1099 : ib_c251[1099]? = (some (some (.aload_n 1, 0, 0, 0, 0)) : Option (Option ib_A)) := (jg251_137 3).trans rfl
theorem jq251_1100 : ib_c251[1100]? = (some (some (.invokevirtual 146, 124, 0, 10, 357)) : Option (Option ib_A)) := (jg251_137 4).trans rfl
theorem jq251_1103 : ib_c251[1103]? = (some (some (.aload_n 2, 0, 0, 0, 0)) : Option (Option ib_A)) := (jg251_137 7).trans rfl
theorem jq251_1104 : ib_c251[1104]? = (some (some (.invokevirtual 149, 217, 0, 11, 1555)) : Option (Option ib_A)) := (jg251_138 0).trans rfl
theorem jq251_1107 : ib_c251[1107]? = (some (some (.if_icmp .eq 306, 1413, 0, 0, 0)) : Option (Option ib_A)) := (jg251_138 3).trans rfl
theorem jq251_1110 : ib_c251[1110]? = (some (some (.iconst 0, 0, 0, 0, 0)) : Option (Option ib_A)) := (jg251_138 6).trans rfl
theorem jq251_1111 : ib_c251[1111]? = (some (some (.ireturn, 1, 0, 0, 0)) : Option (Option ib_A)) := (jg251_138 7).trans rfl
theorem jq251_1112 : ib_c251[1112]? = (some (some (.aload_n 1, 0, 0, 0, 0)) : Option (Option ib_A)) := (jg251_139 0).trans rfl
theorem jq251_1113 : ib_c251[1113]? = (some (some (.aload_n 0, 0, 0, 0, 0)) : Option (Option ib_A)) := (jg251_139 1).trans rfl
theorem jq251_1114 : ib_c251[1114]? = (some (some (.iload 4, 0, 0, 0, 0)) : Option (Option ib_A)) := (jg251_139 2).trans rfl
theorem jq251_1116 : ib_c251[1116]? = (some (some (.iconst 1, 0, 0, 0, 0)) : Option (Option ib_A)) := (jg251_139 4).trans rfl
theorem jq251_1117 : ib_c251[1117]? = (some (some (.iadd, 0, 0, 0, 0)) : Option (Option ib_A)) := (jg251_139 5).trans rfl
theorem jq251_1118 : ib_c251[1118]? = (some (some (.iaload, 0, 0, 0, 0)) : Option (Option ib_A)) := (jg251_139 6).trans rfl
theorem jq251_1119 : ib_c251[1119]? = (some (some (.aload_n 0, 0, 0, 0, 0)) : Option (Option ib_A)) := (jg251_139 7).trans rfl
theorem jq251_1120 : ib_c251[1120]? = (some (some (.iload 4, 0, 0, 0, 0)) : Option (Option ib_A)) := (jg251_140 0).trans rfl
theorem jq251_1122 : ib_c251[1122]? = (some (some (.iconst 2, 0, 0, 0, 0)) : Option (Option ib_A)) := (jg251_140 2).trans rfl
theorem jq251_1123 : ib_c251[1123]? = (some (some (.iadd, 0, 0, 0, 0)) : Option (Option ib_A)) := (jg251_140 3).trans rfl
theorem jq251_1124 : ib_c251[1124]? = (some (some (.iaload, 0, 0, 0, 0)) : Option (Option ib_A)) := (jg251_140 4).trans rfl
theorem jq251_1125 : ib_c251[1125]? = (some (some (.aload_n 3, 0, 0, 0, 0)) : Option (Option ib_A)) := (jg251_140 5).trans rfl
theorem jq251_1126 : ib_c251[1126]? = (some (some (.invokestatic 150, 247, 4, 0, 1126)) : Option (Option ib_A)) := (jg251_140 6).trans rfl
theorem jq251_1129 : ib_c251[1129]? = (some (some (.istore 5, 0, 0, 0, 0)) : Option (Option ib_A)) := (jg251_141 1).trans rfl
theorem jq251_1131 : ib_c251[1131]? = (some (some (.aload_n 2, 0, 0, 0, 0)) : Option (Option ib_A)) := (jg251_141 3).trans rfl
theorem jq251_1132 : ib_c251[1132]? = (some (some (.aload_n 0, 0, 0, 0, 0)) : Option (Option ib_A)) := (jg251_141 4).trans rfl
theorem jq251_1133 : ib_c251[1133]? = (some (some (.iload 4, 0, 0, 0, 0)) : Option (Option ib_A)) := (jg251_141 5).trans rfl
theorem jq251_1135 : ib_c251[1135]? = (some (some (.iconst 1, 0, 0, 0, 0)) : Option (Option ib_A)) := (jg251_141 7).trans rfl
theorem jq251_1136 : ib_c251[1136]? = (some (some (.iadd, 0, 0, 0, 0)) : Option (Option ib_A)) := (jg251_142 0).trans rfl
theorem jq251_1137 : ib_c251[1137]? = (some (some (.iaload, 0, 0, 0, 0)) : Option (Option ib_A)) := (jg251_142 1).trans rfl
theorem jq251_1138 : ib_c251[1138]? = (some (some (.aload_n 0, 0, 0, 0, 0)) : Option (Option ib_A)) := (jg251_142 2).trans rfl
theorem jq251_1139 : ib_c251[1139]? = (some (some (.iload 4, 0, 0, 0, 0)) : Option (Option ib_A)) := (jg251_142 3).trans rfl
theorem jq251_1141 : ib_c251[1141]? = (some (some (.iconst 2, 0, 0, 0, 0)) : Option (Option ib_A)) := (jg251_142 5).trans rfl
theorem jq251_1142 : ib_c251[1142]? = (some (some (.iadd, 0, 0, 0, 0)) : Option (Option ib_A)) := (jg251_142 6).trans rfl
theorem jq251_1143 : ib_c251[1143]? = (some (some (.iaload, 0, 0, 0, 0)) : Option (Option ib_A)) := (jg251_142 7).trans rfl
theorem jq251_1144 : ib_c251[1144]? = (some (some (.invokevirtual 152, 218, 2, 11, 1559)) : Option (Option ib_A)) := (jg251_143 0).trans rfl
theorem jq251_1147 : ib_c251[1147]? = (some (some (.istore 6, 0, 0, 0, 0)) : Option (Option ib_A)) := (jg251_143 3).trans rfl
theorem jq251_1149 : ib_c251[1149]? = (some (some (.aload_n 2, 0, 0, 0, 0)) : Option (Option ib_A)) := (jg251_143 5).trans rfl
theorem jq251_1150 : ib_c251[1150]? = (some (some (.invokevirtual 90, 146, 0, 11, 1274)) : Option (Option ib_A)) := (jg251_143 6).trans rfl
theorem jq251_1153 : ib_c251[1153]? = (some (some (.iload 5, 0, 0, 0, 0)) : Option (Option ib_A)) := (jg251_144 1).trans rfl
theorem jq251_1155 : ib_c251[1155]? = (some (some (.if_icmp .eq 5, 1160, 0, 0, 0)) : Option (Option ib_A)) := (jg251_144 3).trans rfl
theorem jq251_1158 : ib_c251[1158]? = (some (some (.iconst 0, 0, 0, 0, 0)) : Option (Option ib_A)) := (jg251_144 6).trans rfl
theorem jq251_1159 : ib_c251[1159]? = (some (some (.ireturn, 1, 0, 0, 0)) : Option (Option ib_A)) := (jg251_144 7).trans rfl
theorem jq251_1160 : ib_c251[1160]? = (some (some (.iload 5, 0, 0, 0, 0)) : Option (Option ib_A)) := (jg251_145 0).trans rfl
theorem jq251_1162 : ib_c251[1162]? = (some (some (.ifCond .ne 15, 1177, 0, 0, 0)) : Option (Option ib_A)) := (jg251_145 2).trans rfl
theorem jq251_1165 : ib_c251[1165]? = (some (some (.aload_n 3, 0, 0, 0, 0)) : Option (Option ib_A)) := (jg251_145 5).trans rfl
theorem jq251_1166 : ib_c251[1166]? = (some (some (.iconst 0, 0, 0, 0, 0)) : Option (Option ib_A)) := (jg251_145 6).trans rfl
theorem jq251_1167 : ib_c251[1167]? = (some (some (.laload, 0, 0, 0, 0)) : Option (Option ib_A)) := (jg251_145 7).trans rfl
theorem jq251_1168 : ib_c251[1168]? = (some (some (.iload 6, 0, 0, 0, 0)) : Option (Option ib_A)) := (jg251_146 0).trans rfl
theorem jq251_1170 : ib_c251[1170]? = (some (some (.i2l, 0, 0, 0, 0)) : Option (Option ib_A)) := (jg251_146 2).trans rfl
theorem jq251_1171 : ib_c251[1171]? = (some (some (.lcmp, 0, 0, 0, 0)) : Option (Option ib_A)) := (jg251_146 3).trans rfl
theorem jq251_1172 : ib_c251[1172]? = (some (some (.ifCond .eq 5, 1177, 0, 0, 0)) : Option (Option ib_A)) := (jg251_146 4).trans rfl
theorem jq251_1175 : ib_c251[1175]? = (some (some (.iconst 0, 0, 0, 0, 0)) : Option (Option ib_A)) := (jg251_146 7).trans rfl
theorem jq251_1176 : ib_c251[1176]? = (some (some (.ireturn, 1, 0, 0, 0)) : Option (Option ib_A)) := (jg251_147 0).trans rfl
theorem jq251_1177 : ib_c251[1177]? = (some (some (.goto 236, 1413, 0, 0, 0)) : Option (Option ib_A)) := (jg251_147 1).trans rfl
theorem jq251_1180 : ib_c251[1180]? = (some (some (.aload_n 1, 0, 0, 0, 0)) : Option (Option ib_A)) := (jg251_147 4).trans rfl
theorem jq251_1181 : ib_c251[1181]? = (some (some (.invokevirtual 153, 126, 0, 10, 361)) : Option (Option ib_A)) := (jg251_147 5).trans rfl
theorem jq251_1184 : ib_c251[1184]? = (some (some (.aload_n 2, 0, 0, 0, 0)) : Option (Option ib_A)) := (jg251_148 0).trans rfl
theorem jq251_1185 : ib_c251[1185]? = (some (some (.invokevirtual 156, 219, 0, 11, 1563)) : Option (Option ib_A)) := (jg251_148 1).trans rfl
theorem jq251_1188 : ib_c251[1188]? = (some (some (.if_icmp .eq 225, 1413, 0, 0, 0)) : Option (Option ib_A)) := (jg251_148 4).trans rfl
theorem jq251_1191 : ib_c251[1191]? = (some (some (.iconst 0, 0, 0, 0, 0)) : Option (Option ib_A)) := (jg251_148 7).trans rfl
theorem jq251_1192 : ib_c251[1192]? = (some (some (.ireturn, 1, 0, 0, 0)) : Option (Option ib_A)) := (jg251_149 0).trans rfl
theorem jq251_1193 : ib_c251[1193]? = (some (some (.aload_n 1, 0, 0, 0, 0)) : Option (Option ib_A)) := (jg251_149 1).trans rfl
theorem jq251_1194 : ib_c251[1194]? = (some (some (.invokevirtual 157, 127, 0, 10, 365)) : Option (Option ib_A)) := (jg251_149 2).trans rfl
theorem jq251_1197 : ib_c251[1197]? = (some (some (.aload_n 2, 0, 0, 0, 0)) : Option (Option ib_A)) := (jg251_149 5).trans rfl
theorem jq251_1198 : ib_c251[1198]? = (some (some (.invokevirtual 160, 220, 0, 11, 1567)) : Option (Option ib_A)) := (jg251_149 6).trans rfl
theorem jq251_1201 : ib_c251[1201]? = (some (some (.if_icmp .eq 212, 1413, 0, 0, 0)) : Option (Option ib_A)) := (jg251_150 1).trans rfl
theorem jq251_1204 : ib_c251[1204]? = (some (some (.iconst 0, 0, 0, 0, 0)) : Option (Option ib_A)) := (jg251_150 4).trans rfl
theorem jq251_1205 : ib_c251[1205]? = (some (some (.ireturn, 1, 0, 0, 0)) : Option (Option ib_A)) := (jg251_150 5).trans rfl
theorem jq251_1206 : ib_c251[1206]? = (some (some (.aload_n 1, 0, 0, 0, 0)) : Option (Option ib_A)) := (jg251_150 6).trans rfl
theorem jq251_1207 : ib_c251[1207]? = (some (some (.invokevirtual 161, 128, 0, 10, 369)) : Option (Option ib_A)) := (jg251_150 7).trans rfl
theorem jq251_1210 : ib_c251[1210]? = (some (some (.aload_n 2, 0, 0, 0, 0)) : Option (Option ib_A)) := (jg251_151 2).trans rfl
theorem jq251_1211 : ib_c251[1211]? = (some (some (.invokevirtual 164, 221, 0, 11, 1571)) : Option (Option ib_A)) := (jg251_151 3).trans rfl
theorem jq251_1214 : ib_c251[1214]? = (some (some (.if_icmp .eq 199, 1413, 0, 0, 0)) : Option (Option ib_A)) := (jg251_151 6).trans rfl
theorem jq251_1217 : ib_c251[1217]? = (some (some (.iconst 0, 0, 0, 0, 0)) : Option (Option ib_A)) := (jg251_152 1).trans rfl
theorem jq251_1218 : ib_c251[1218]? = (some (some (.ireturn, 1, 0, 0, 0)) : Option (Option ib_A)) := (jg251_152 2).trans rfl
theorem jq251_1219 : ib_c251[1219]? = (some (some (.aload_n 1, 0, 0, 0, 0)) : Option (Option ib_A)) := (jg251_152 3).trans rfl
theorem jq251_1220 : ib_c251[1220]? = (some (some (.aload_n 0, 0, 0, 0, 0)) : Option (Option ib_A)) := (jg251_152 4).trans rfl
theorem jq251_1221 : ib_c251[1221]? = (some (some (.iload 4, 0, 0, 0, 0)) : Option (Option ib_A)) := (jg251_152 5).trans rfl
theorem jq251_1223 : ib_c251[1223]? = (some (some (.iconst 1, 0, 0, 0, 0)) : Option (Option ib_A)) := (jg251_152 7).trans rfl
theorem jq251_1224 : ib_c251[1224]? = (some (some (.iadd, 0, 0, 0, 0)) : Option (Option ib_A)) := (jg251_153 0).trans rfl
theorem jq251_1225 : ib_c251[1225]? = (some (some (.iaload, 0, 0, 0, 0)) : Option (Option ib_A)) := (jg251_153 1).trans rfl
theorem jq251_1226 : ib_c251[1226]? = (some (some (.aload_n 3, 0, 0, 0, 0)) : Option (Option ib_A)) := (jg251_153 2).trans rfl
theorem jq251_1227 : ib_c251[1227]? = (some (some (.invokestatic 165, 248, 3, 0, 1136)) : Option (Option ib_A)) := (jg251_153 3).trans rfl
theorem jq251_1230 : ib_c251[1230]? = (some (some (.istore 5, 0, 0, 0, 0)) : Option (Option ib_A)) := (jg251_153 6).trans rfl
theorem jq251_1232 : ib_c251[1232]? = (some (some (.aload_n 2, 0, 0, 0, 0)) : Option (Option ib_A)) := (jg251_154 0).trans rfl
theorem jq251_1233 : ib_c251[1233]? = (some (some (.aload_n 0, 0, 0, 0, 0)) : Option (Option ib_A)) := (jg251_154 1).trans rfl
theorem jq251_1234 : ib_c251[1234]? = (some (some (.iload 4, 0, 0, 0, 0)) : Option (Option ib_A)) := (jg251_154 2).trans rfl
theorem jq251_1236 : ib_c251[1236]? = (some (some (.iconst 1, 0, 0, 0, 0)) : Option (Option ib_A)) := (jg251_154 4).trans rfl
theorem jq251_1237 : ib_c251[1237]? = (some (some (.iadd, 0, 0, 0, 0)) : Option (Option ib_A)) := (jg251_154 5).trans rfl
theorem jq251_1238 : ib_c251[1238]? = (some (some (.iaload, 0, 0, 0, 0)) : Option (Option ib_A)) := (jg251_154 6).trans rfl
theorem jq251_1239 : ib_c251[1239]? = (some (some (.invokevirtual 167, 222, 1, 11, 1575)) : Option (Option ib_A)) := (jg251_154 7).trans rfl
theorem jq251_1242 : ib_c251[1242]? = (some (some (.istore 6, 0, 0, 0, 0)) : Option (Option ib_A)) := (jg251_155 2).trans rfl
theorem jq251_1244 : ib_c251[1244]? = (some (some (.aload_n 2, 0, 0, 0, 0)) : Option (Option ib_A)) := (jg251_155 4).trans rfl
theorem jq251_1245 : ib_c251[1245]? = (some (some (.invokevirtual 90, 146, 0, 11, 1274)) : Option (Option ib_A)) := (jg251_155 5).trans rfl
theorem jq251_1248 : ib_c251[1248]? = (some (some (.iload 5, 0, 0, 0, 0)) : Option (Option ib_A)) := (jg251_156 0).trans rfl
theorem jq251_1250 : ib_c251[1250]? = (some (some (.if_icmp .eq 5, 1255, 0, 0, 0)) : Option (Option ib_A)) := (jg251_156 2).trans rfl
theorem jq251_1253 : ib_c251[1253]? = (some (some (.iconst 0, 0, 0, 0, 0)) : Option (Option ib_A)) := (jg251_156 5).trans rfl
theorem jq251_1254 : ib_c251[1254]? = (some (some (.ireturn, 1, 0, 0, 0)) : Option (Option ib_A)) := (jg251_156 6).trans rfl
theorem jq251_1255 : ib_c251[1255]? = (some (some (.iload 5, 0, 0, 0, 0)) : Option (Option ib_A)) := (jg251_156 7).trans rfl
theorem jq251_1257 : ib_c251[1257]? = (some (some (.ifCond .ne 15, 1272, 0, 0, 0)) : Option (Option ib_A)) := (jg251_157 1).trans rfl
theorem jq251_1260 : ib_c251[1260]? = (some (some (.aload_n 3, 0, 0, 0, 0)) : Option (Option ib_A)) := (jg251_157 4).trans rfl
theorem jq251_1261 : ib_c251[1261]? = (some (some (.iconst 0, 0, 0, 0, 0)) : Option (Option ib_A)) := (jg251_157 5).trans rfl
theorem jq251_1262 : ib_c251[1262]? = (some (some (.laload, 0, 0, 0, 0)) : Option (Option ib_A)) := (jg251_157 6).trans rfl
theorem jq251_1263 : ib_c251[1263]? = (some (some (.iload 6, 0, 0, 0, 0)) : Option (Option ib_A)) := (jg251_157 7).trans rfl
theorem jq251_1265 : ib_c251[1265]? = (some (some (.i2l, 0, 0, 0, 0)) : Option (Option ib_A)) := (jg251_158 1).trans rfl
theorem jq251_1266 : ib_c251[1266]? = (some (some (.lcmp, 0, 0, 0, 0)) : Option (Option ib_A)) := (jg251_158 2).trans rfl
theorem jq251_1267 : ib_c251[1267]? = (some (some (.ifCond .eq 5, 1272, 0, 0, 0)) : Option (Option ib_A)) := (jg251_158 3).trans rfl
theorem jq251_1270 : ib_c251[1270]? = (some (some (.iconst 0, 0, 0, 0, 0)) : Option (Option ib_A)) := (jg251_158 6).trans rfl
theorem jq251_1271 : ib_c251[1271]? = (some (some (.ireturn, 1, 0, 0, 0)) : Option (Option ib_A)) := (jg251_158 7).trans rfl
theorem jq251_1272 : ib_c251[1272]? = (some (some (.goto 141, 1413, 0, 0, 0)) : Option (Option ib_A)) := (jg251_159 0).trans rfl
theorem jq251_1275 : ib_c251[1275]? = (some (some (.aload_n 1, 0, 0, 0, 0)) : Option (Option ib_A)) := (jg251_159 3).trans rfl
theorem jq251_1276 : ib_c251[1276]? = (some (some (.aload_n 0, 0, 0, 0, 0)) : Option (Option ib_A)) := (jg251_159 4).trans rfl
theorem jq251_1277 : ib_c251[1277]? = (some (some (.iload 4, 0, 0, 0, 0)) : Option (Option ib_A)) := (jg251_159 5).trans rfl
theorem jq251_1279 : ib_c251[1279]? = (some (some (.iconst 1, 0, 0, 0, 0)) : Option (Option ib_A)) := (jg251_159 7).trans rfl
theorem jq251_1280 : ib_c251[1280]? = (some (some (.iadd, 0, 0, 0, 0)) : Option (Option ib_A)) := (jg251_160 0).trans rfl
theorem jq251_1281 : ib_c251[1281]? = (some (some (.iaload, 0, 0, 0, 0)) : Option (Option ib_A)) := (jg251_160 1).trans rfl
theorem jq251_1282 : ib_c251[1282]? = (some (some (.aload_n 3, 0, 0, 0, 0)) : Option (Option ib_A)) := (jg251_160 2).trans rfl
theorem jq251_1283 : ib_c251[1283]? = (some (some (.invokestatic 168, 249, 3, 0, 1143)) : Option (Option ib_A)) := (jg251_160 3).trans rfl
theorem jq251_1286 : ib_c251[1286]? = (some (some (.istore 5, 0, 0, 0, 0)) : Option (Option ib_A)) := (jg251_160 6).trans rfl
theorem jq251_1288 : ib_c251[1288]? = (some (some (.aload_n 2, 0, 0, 0, 0)) : Option (Option ib_A)) := (jg251_161 0).trans rfl
theorem jq251_1289 : ib_c251[1289]? = (some (some (.aload_n 0, 0, 0, 0, 0)) : Option (Option ib_A)) := (jg251_161 1).trans rfl
theorem jq251_1290 : ib_c251[1290]? = (some (some (.iload 4, 0, 0, 0, 0)) : Option (Option ib_A)) := (jg251_161 2).trans rfl
theorem jq251_1292 : ib_c251[1292]? = (some (some (.iconst 1, 0, 0, 0, 0)) : Option (Option ib_A)) := (jg251_161 4).trans rfl
theorem jq251_1293 : ib_c251[1293]? = (some (some (.iadd, 0, 0, 0, 0)) : Option (Option ib_A)) := (jg251_161 5).trans rfl
theorem jq251_1294 : ib_c251[1294]? = (some (some (.iaload, 0, 0, 0, 0)) : Option (Option ib_A)) := (jg251_161 6).trans rfl
theorem jq251_1295 : ib_c251[1295]? = (some (some (.invokevirtual 170, 223, 1, 11, 1579)) : Option (Option ib_A)) := (jg251_161 7).trans rfl
theorem jq251_1298 : ib_c251[1298]? = (some (some (.istore 6, 0, 0, 0, 0)) : Option (Option ib_A)) := (jg251_162 2).trans rfl
theorem jq251_1300 : ib_c251[1300]? = (some (some (.aload_n 2, 0, 0, 0, 0)) : Option (Option ib_A)) := (jg251_162 4).trans rfl
theorem jq251_1301 : ib_c251[1301]? = (some (some (.invokevirtual 90, 146, 0, 11, 1274)) : Option (Option ib_A)) := (jg251_162 5).trans rfl
theorem jq251_1304 : ib_c251[1304]? = (some (some (.iload 5, 0, 0, 0, 0)) : Option (Option ib_A)) := (jg251_163 0).trans rfl
theorem jq251_1306 : ib_c251[1306]? = (some (some (.if_icmp .eq 5, 1311, 0, 0, 0)) : Option (Option ib_A)) := (jg251_163 2).trans rfl
theorem jq251_1309 : ib_c251[1309]? = (some (some (.iconst 0, 0, 0, 0, 0)) : Option (Option ib_A)) := (jg251_163 5).trans rfl
theorem jq251_1310 : ib_c251[1310]? = (some (some (.ireturn, 1, 0, 0, 0)) : Option (Option ib_A)) := (jg251_163 6).trans rfl
theorem jq251_1311 : ib_c251[1311]? = (some (some (.iload 5, 0, 0, 0, 0)) : Option (Option ib_A)) := (jg251_163 7).trans rfl
theorem jq251_1313 : ib_c251[1313]? = (some (some (.ifCond .ne 15, 1328, 0, 0, 0)) : Option (Option ib_A)) := (jg251_164 1).trans rfl
theorem jq251_1316 : ib_c251[1316]? = (some (some (.aload_n 3, 0, 0, 0, 0)) : Option (Option ib_A)) := (jg251_164 4).trans rfl
theorem jq251_1317 : ib_c251[1317]? = (some (some (.iconst 0, 0, 0, 0, 0)) : Option (Option ib_A)) := (jg251_164 5).trans rfl
theorem jq251_1318 : ib_c251[1318]? = (some (some (.laload, 0, 0, 0, 0)) : Option (Option ib_A)) := (jg251_164 6).trans rfl
theorem jq251_1319 : ib_c251[1319]? = (some (some (.iload 6, 0, 0, 0, 0)) : Option (Option ib_A)) := (jg251_164 7).trans rfl
theorem jq251_1321 : ib_c251[1321]? = (some (some (.i2l, 0, 0, 0, 0)) : Option (Option ib_A)) := (jg251_165 1).trans rfl
theorem jq251_1322 : ib_c251[1322]? = (some (some (.lcmp, 0, 0, 0, 0)) : Option (Option ib_A)) := (jg251_165 2).trans rfl
theorem jq251_1323 : ib_c251[1323]? = (some (some (.ifCond .eq 5, 1328, 0, 0, 0)) : Option (Option ib_A)) := (jg251_165 3).trans rfl
theorem jq251_1326 : ib_c251[1326]? = (some (some (.iconst 0, 0, 0, 0, 0)) : Option (Option ib_A)) := (jg251_165 6).trans rfl
theorem jq251_1327 : ib_c251[1327]? = (some (some (.ireturn, 1, 0, 0, 0)) : Option (Option ib_A)) := (jg251_165 7).trans rfl
theorem jq251_1328 : ib_c251[1328]? = (some (some (.goto 85, 1413, 0, 0, 0)) : Option (Option ib_A)) := (jg251_166 0).trans rfl
theorem jq251_1331 : ib_c251[1331]? = (some (some (.aload_n 1, 0, 0, 0, 0)) : Option (Option ib_A)) := (jg251_166 3).trans rfl
theorem jq251_1332 : ib_c251[1332]? = (some (some (.aload_n 0, 0, 0, 0, 0)) : Option (Option ib_A)) := (jg251_166 4).trans rfl
theorem jq251_1333 : ib_c251[1333]? = (some (some (.iload 4, 0, 0, 0, 0)) : Option (Option ib_A)) := (jg251_166 5).trans rfl
theorem jq251_1335 : ib_c251[1335]? = (some (some (.iconst 1, 0, 0, 0, 0)) : Option (Option ib_A)) := (jg251_166 7).trans rfl
theorem jq251_1336 : ib_c251[1336]? = (some (some (.iadd, 0, 0, 0, 0)) : Option (Option ib_A)) := (jg251_167 0).trans rfl
theorem jq251_1337 : ib_c251[1337]? = (some (some (.iaload, 0, 0, 0, 0)) : Option (Option ib_A)) := (jg251_167 1).trans rfl
theorem jq251_1338 : ib_c251[1338]? = (some (some (.aload_n 3, 0, 0, 0, 0)) : Option (Option ib_A)) := (jg251_167 2).trans rfl
theorem jq251_1339 : ib_c251[1339]? = (some (some (.invokestatic 171, 250, 3, 0, 1150)) : Option (Option ib_A)) := (jg251_167 3).trans rfl
theorem jq251_1342 : ib_c251[1342]? = (some (some (.istore 5, 0, 0, 0, 0)) : Option (Option ib_A)) := (jg251_167 6).trans rfl
theorem jq251_1344 : ib_c251[1344]? = (some (some (.aload_n 2, 0, 0, 0, 0)) : Option (Option ib_A)) := (jg251_168 0).trans rfl
theorem jq251_1345 : ib_c251[1345]? = (some (some (.aload_n 0, 0, 0, 0, 0)) : Option (Option ib_A)) := (jg251_168 1).trans rfl
theorem jq251_1346 : ib_c251[1346]? = (some (some (.iload 4, 0, 0, 0, 0)) : Option (Option ib_A)) := (jg251_168 2).trans rfl
theorem jq251_1348 : ib_c251[1348]? = (some (some (.iconst 1, 0, 0, 0, 0)) : Option (Option ib_A)) := (jg251_168 4).trans rfl
theorem jq251_1349 : ib_c251[1349]? = (some (some (.iadd, 0, 0, 0, 0)) : Option (Option ib_A)) := (jg251_168 5).trans rfl
theorem jq251_1350 : ib_c251[1350]? = (some (some (.iaload, 0, 0, 0, 0)) : Option (Option ib_A)) := (jg251_168 6).trans rfl
theorem jq251_1351 : ib_c251[1351]? = (some (some (.invokevirtual 173, 225, 1, 11, 1583)) : Option (Option ib_A)) := (jg251_168 7).trans rfl
theorem jq251_1354 : ib_c251[1354]? = (some (some (.istore 6, 0, 0, 0, 0)) : Option (Option ib_A)) := (jg251_169 2).trans rfl
theorem jq251_1356 : ib_c251[1356]? = (some (some (.aload_n 2, 0, 0, 0, 0)) : Option (Option ib_A)) := (jg251_169 4).trans rfl
theorem jq251_1357 : ib_c251[1357]? = (some (some (.invokevirtual 90, 146, 0, 11, 1274)) : Option (Option ib_A)) := (jg251_169 5).trans rfl
theorem jq251_1360 : ib_c251[1360]? = (some (some (.iload 5, 0, 0, 0, 0)) : Option (Option ib_A)) := (jg251_170 0).trans rfl
theorem jq251_1362 : ib_c251[1362]? = (some (some (.if_icmp .eq 5, 1367, 0, 0, 0)) : Option (Option ib_A)) := (jg251_170 2).trans rfl
theorem jq251_1365 : ib_c251[1365]? = (some (some (.iconst 0, 0, 0, 0, 0)) : Option (Option ib_A)) := (jg251_170 5).trans rfl
theorem jq251_1366 : ib_c251[1366]? = (some (some (.ireturn, 1, 0, 0, 0)) : Option (Option ib_A)) := (jg251_170 6).trans rfl
theorem jq251_1367 : ib_c251[1367]? = (some (some (.iload 5, 0, 0, 0, 0)) : Option (Option ib_A)) := (jg251_170 7).trans rfl
theorem jq251_1369 : ib_c251[1369]? = (some (some (.ifCond .ne 15, 1384, 0, 0, 0)) : Option (Option ib_A)) := (jg251_171 1).trans rfl
theorem jq251_1372 : ib_c251[1372]? = (some (some (.aload_n 3, 0, 0, 0, 0)) : Option (Option ib_A)) := (jg251_171 4).trans rfl
theorem jq251_1373 : ib_c251[1373]? = (some (some (.iconst 0, 0, 0, 0, 0)) : Option (Option ib_A)) := (jg251_171 5).trans rfl
theorem jq251_1374 : ib_c251[1374]? = (some (some (.laload, 0, 0, 0, 0)) : Option (Option ib_A)) := (jg251_171 6).trans rfl
theorem jq251_1375 : ib_c251[1375]? = (some (some (.iload 6, 0, 0, 0, 0)) : Option (Option ib_A)) := (jg251_171 7).trans rfl
theorem jq251_1377 : ib_c251[1377]? = (some (some (.i2l, 0, 0, 0, 0)) : Option (Option ib_A)) := (jg251_172 1).trans rfl
theorem jq251_1378 : ib_c251[1378]? = (some (some (.lcmp, 0, 0, 0, 0)) : Option (Option ib_A)) := (jg251_172 2).trans rfl
theorem jq251_1379 : ib_c251[1379]? = (some (some (.ifCond .eq 5, 1384, 0, 0, 0)) : Option (Option ib_A)) := (jg251_172 3).trans rfl
theorem jq251_1382 : ib_c251[1382]? = (some (some (.iconst 0, 0, 0, 0, 0)) : Option (Option ib_A)) := (jg251_172 6).trans rfl
theorem jq251_1383 : ib_c251[1383]? = (some (some (.ireturn, 1, 0, 0, 0)) : Option (Option ib_A)) := (jg251_172 7).trans rfl
theorem jq251_1384 : ib_c251[1384]? = (some (some (.goto 29, 1413, 0, 0, 0)) : Option (Option ib_A)) := (jg251_173 0).trans rfl
theorem jq251_1387 : ib_c251[1387]? = (some (some (.aload_n 1, 0, 0, 0, 0)) : Option (Option ib_A)) := (jg251_173 3).trans rfl
theorem jq251_1388 : ib_c251[1388]? = (some (some (.invokevirtual 174, 132, 0, 10, 373)) : Option (Option ib_A)) := (jg251_173 4).trans rfl
theorem jq251_1391 : ib_c251[1391]? = (some (some (.aload_n 2, 0, 0, 0, 0)) : Option (Option ib_A)) := (jg251_173 7).trans rfl
theorem jq251_1392 : ib_c251[1392]? = (some (some (.invokevirtual 178, 227, 0, 11, 1591)) : Option (Option ib_A)) := (jg251_174 0).trans rfl
theorem jq251_1395 : ib_c251[1395]? = (some (some (.if_icmp .eq 18, 1413, 0, 0, 0)) : Option (Option ib_A)) := (jg251_174 3).trans rfl
theorem jq251_1398 : ib_c251[1398]? = (some (some (.iconst 0, 0, 0, 0, 0)) : Option (Option ib_A)) := (jg251_174 6).trans rfl
theorem jq251_1399 : ib_c251[1399]? = (some (some (.ireturn, 1, 0, 0, 0)) : Option (Option ib_A)) := (jg251_174 7).trans rfl
theorem jq251_1400 : ib_c251[1400]? = (some (some (.aload_n 1, 0, 0, 0, 0)) : Option (Option ib_A)) := (jg251_175 0).trans rfl
theorem jq251_1401 : ib_c251[1401]? = (some (some (.invokevirtual 179, 133, 0, 10, 429)) : Option (Option ib_A)) := (jg251_175 1).trans rfl
theorem jq251_1404 : ib_c251[1404]? = (some (some (.aload_n 2, 0, 0, 0, 0)) : Option (Option ib_A)) := (jg251_175 4).trans rfl
theorem jq251_1405 : ib_c251[1405]? = (some (some (.invokevirtual 182, 230, 0, 11, 1599)) : Option (Option ib_A)) := (jg251_175 5).trans rfl
theorem jq251_1408 : ib_c251[1408]? = (some (some (.if_icmp .eq 5, 1413, 0, 0, 0)) : Option (Option ib_A)) := (jg251_176 0).trans rfl
theorem jq251_1411 : ib_c251[1411]? = (some (some (.iconst 0, 0, 0, 0, 0)) : Option (Option ib_A)) := (jg251_176 3).trans rfl
theorem jq251_1412 : ib_c251[1412]? = (some (some (.ireturn, 1, 0, 0, 0)) : Option (Option ib_A)) := (jg251_176 4).trans rfl
theorem jq251_1413 : ib_c251[1413]? = (some (some (.iinc 4 4, 0, 0, 0, 0)) : Option (Option ib_A)) := (jg251_176 5).trans rfl
theorem jq251_1416 : ib_c251[1416]? = (some (some (.goto (-1393), 23, 0, 0, 0)) : Option (Option ib_A)) := (jg251_177 0).trans rfl
theorem jq251_1419 : ib_c251[1419]? = (some (some (.iconst 1, 0, 0, 0, 0)) : Option (Option ib_A)) := (jg251_177 3).trans rfl
theorem jq251_1420 : ib_c251[1420]? = (some (some (.ireturn, 1, 0, 0, 0)) : Option (Option ib_A)) := (jg251_177 4).trans rfl
