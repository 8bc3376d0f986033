theorem dX0_init_0 : decode cX0_init 0 = .ok (.aload_n 0, 1) := by decide +kernel
theorem dX0_init_1 : decode cX0_init 1 = .ok (.invokespecial 3, 3) := by decide +kernel
theorem dX0_init_4 : decode cX0_init 4 = .ok (.aload_n 0, 1) := by decide +kernel
theorem dX0_init_5 : decode cX0_init 5 = .ok (.iconst 0, 1) := by decide +kernel
theorem dX0_init_6 : decode cX0_init 6 = .ok (.putfield 9, 3) := by decide +kernel
theorem dX0_init_9 : decode cX0_init 9 = .ok (.aload_n 0, 1) := by decide +kernel
theorem dX0_init_10 : decode cX0_init 10 = .ok (.bipush 71, 2) := by decide +kernel
theorem dX0_init_12 : decode cX0_init 12 = .ok (.newarray .int, 2) := by decide +kernel
theorem dX0_init_14 : decode cX0_init 14 = .ok (.putfield 15, 3) := by decide +kernel
theorem dX0_init_17 : decode cX0_init 17 = .ok (.return_, 1) := by decide +kernel
theorem dX0_isFull_0 : decode cX0_isFull 0 = .ok (.aload_n 0, 1) := by decide +kernel
theorem dX0_isFull_1 : decode cX0_isFull 1 = .ok (.getfield 9, 3) := by decide +kernel
theorem dX0_isFull_4 : decode cX0_isFull 4 = .ok (.aload_n 0, 1) := by decide +kernel
theorem dX0_isFull_5 : decode cX0_isFull 5 = .ok (.getfield 15, 3) := by decide +kernel
theorem dX0_isFull_8 : decode cX0_isFull 8 = .ok (.arraylength, 1) := by decide +kernel
theorem dX0_isFull_9 : decode cX0_isFull 9 = .ok (.if_icmp .lt 7, 3) := by decide +kernel
theorem dX0_isFull_12 : decode cX0_isFull 12 = .ok (.iconst 1, 1) := by decide +kernel
theorem dX0_isFull_13 : decode cX0_isFull 13 = .ok (.goto 4, 3) := by decide +kernel
theorem dX0_isFull_16 : decode cX0_isFull 16 = .ok (.iconst 0, 1) := by decide +kernel
theorem dX0_isFull_17 : decode cX0_isFull 17 = .ok (.ireturn, 1) := by decide +kernel
theorem dX0_add_0 : decode cX0_add 0 = .ok (.aload_n 0, 1) := by decide +kernel
theorem dX0_add_1 : decode cX0_add 1 = .ok (.getfield 9, 3) := by decide +kernel
theorem dX0_add_4 : decode cX0_add 4 = .ok (.aload_n 0, 1) := by decide +kernel
theorem dX0_add_5 : decode cX0_add 5 = .ok (.getfield 15, 3) := by decide +kernel
theorem dX0_add_8 : decode cX0_add 8 = .ok (.arraylength, 1) := by decide +kernel
theorem dX0_add_9 : decode cX0_add 9 = .ok (.if_icmp .ge 23, 3) := by decide +kernel
theorem dX0_add_12 : decode cX0_add 12 = .ok (.aload_n 0, 1) := by decide +kernel
theorem dX0_add_13 : decode cX0_add 13 = .ok (.getfield 15, 3) := by decide +kernel
theorem dX0_add_16 : decode cX0_add 16 = .ok (.aload_n 0, 1) := by decide +kernel
theorem dX0_add_17 : decode cX0_add 17 = .ok (.getfield 9, 3) := by decide +kernel
theorem dX0_add_20 : decode cX0_add 20 = .ok (.iload_n 1, 1) := by decide +kernel
theorem dX0_add_21 : decode cX0_add 21 = .ok (.iastore, 1) := by decide +kernel
theorem dX0_add_22 : decode cX0_add 22 = .ok (.aload_n 0, 1) := by decide +kernel
theorem dX0_add_23 : decode cX0_add 23 = .ok (.dup, 1) := by decide +kernel
theorem dX0_add_24 : decode cX0_add 24 = .ok (.getfield 9, 3) := by decide +kernel
theorem dX0_add_27 : decode cX0_add 27 = .ok (.iconst 1, 1) := by decide +kernel
theorem dX0_add_28 : decode cX0_add 28 = .ok (.iadd, 1) := by decide +kernel
theorem dX0_add_29 : decode cX0_add 29 = .ok (.putfield 9, 3) := by decide +kernel
theorem dX0_add_32 : decode cX0_add 32 = .ok (.return_, 1) := by decide +kernel
theorem dX0_codeAt_0 : decode cX0_codeAt 0 = .ok (.iload_n 1, 1) := by decide +kernel
theorem dX0_codeAt_1 : decode cX0_codeAt 1 = .ok (.ifCond .lt 29, 3) := by decide +kernel
theorem dX0_codeAt_4 : decode cX0_codeAt 4 = .ok (.iload_n 1, 1) := by decide +kernel
theorem dX0_codeAt_5 : decode cX0_codeAt 5 = .ok (.aload_n 0, 1) := by decide +kernel
theorem dX0_codeAt_6 : decode cX0_codeAt 6 = .ok (.getfield 9, 3) := by decide +kernel
theorem dX0_codeAt_9 : decode cX0_codeAt 9 = .ok (.if_icmp .ge 21, 3) := by decide +kernel
theorem dX0_codeAt_12 : decode cX0_codeAt 12 = .ok (.iload_n 1, 1) := by decide +kernel
theorem dX0_codeAt_13 : decode cX0_codeAt 13 = .ok (.aload_n 0, 1) := by decide +kernel
theorem dX0_codeAt_14 : decode cX0_codeAt 14 = .ok (.getfield 15, 3) := by decide +kernel
theorem dX0_codeAt_17 : decode cX0_codeAt 17 = .ok (.arraylength, 1) := by decide +kernel
theorem dX0_codeAt_18 : decode cX0_codeAt 18 = .ok (.if_icmp .ge 12, 3) := by decide +kernel
theorem dX0_codeAt_21 : decode cX0_codeAt 21 = .ok (.aload_n 0, 1) := by decide +kernel
theorem dX0_codeAt_22 : decode cX0_codeAt 22 = .ok (.getfield 15, 3) := by decide +kernel
theorem dX0_codeAt_25 : decode cX0_codeAt 25 = .ok (.iload_n 1, 1) := by decide +kernel
theorem dX0_codeAt_26 : decode cX0_codeAt 26 = .ok (.iaload, 1) := by decide +kernel
theorem dX0_codeAt_27 : decode cX0_codeAt 27 = .ok (.goto 4, 3) := by decide +kernel
theorem dX0_codeAt_30 : decode cX0_codeAt 30 = .ok (.iconst 0, 1) := by decide +kernel
theorem dX0_codeAt_31 : decode cX0_codeAt 31 = .ok (.ireturn, 1) := by decide +kernel
theorem dX0_readInto_0 : decode cX0_readInto 0 = .ok (.iconst 0, 1) := by decide +kernel
theorem dX0_readInto_1 : decode cX0_readInto 1 = .ok (.istore_n 2, 1) := by decide +kernel
theorem dX0_readInto_2 : decode cX0_readInto 2 = .ok (.iload_n 2, 1) := by decide +kernel
theorem dX0_readInto_3 : decode cX0_readInto 3 = .ok (.aload_n 0, 1) := by decide +kernel
theorem dX0_readInto_4 : decode cX0_readInto 4 = .ok (.getfield 9, 3) := by decide +kernel
theorem dX0_readInto_7 : decode cX0_readInto 7 = .ok (.if_icmp .ge 32, 3) := by decide +kernel
theorem dX0_readInto_10 : decode cX0_readInto 10 = .ok (.aload_n 1, 1) := by decide +kernel
theorem dX0_readInto_11 : decode cX0_readInto 11 = .ok (.aload_n 0, 1) := by decide +kernel
theorem dX0_readInto_12 : decode cX0_readInto 12 = .ok (.iload_n 2, 1) := by decide +kernel
theorem dX0_readInto_13 : decode cX0_readInto 13 = .ok (.invokevirtual 19, 3) := by decide +kernel
theorem dX0_readInto_16 : decode cX0_readInto 16 = .ok (.invokevirtual 23, 3) := by decide +kernel
theorem dX0_readInto_19 : decode cX0_readInto 19 = .ok (.ifCond .ne 5, 3) := by decide +kernel
theorem dX0_readInto_22 : decode cX0_readInto 22 = .ok (.iload_n 2, 1) := by decide +kernel
theorem dX0_readInto_23 : decode cX0_readInto 23 = .ok (.ireturn, 1) := by decide +kernel
theorem dX0_readInto_24 : decode cX0_readInto 24 = .ok (.aload_n 1, 1) := by decide +kernel
theorem dX0_readInto_25 : decode cX0_readInto 25 = .ok (.aload_n 0, 1) := by decide +kernel
theorem dX0_readInto_26 : decode cX0_readInto 26 = .ok (.iload_n 2, 1) := by decide +kernel
theorem dX0_readInto_27 : decode cX0_readInto 27 = .ok (.invokevirtual 19, 3) := by decide +kernel
theorem dX0_readInto_30 : decode cX0_readInto 30 = .ok (.invokevirtual 29, 3) := by decide +kernel
theorem dX0_readInto_33 : decode cX0_readInto 33 = .ok (.iinc 2 1, 3) := by decide +kernel
theorem dX0_readInto_36 : decode cX0_readInto 36 = .ok (.goto (-34), 3) := by decide +kernel
theorem dX0_readInto_39 : decode cX0_readInto 39 = .ok (.aload_n 0, 1) := by decide +kernel
theorem dX0_readInto_40 : decode cX0_readInto 40 = .ok (.getfield 9, 3) := by decide +kernel
theorem dX0_readInto_43 : decode cX0_readInto 43 = .ok (.ireturn, 1) := by decide +kernel
theorem dX1_init_0 : decode cX1_init 0 = .ok (.aload_n 0, 1) := by decide +kernel
theorem dX1_init_1 : decode cX1_init 1 = .ok (.invokespecial 3, 3) := by decide +kernel
theorem dX1_init_4 : decode cX1_init 4 = .ok (.aload_n 0, 1) := by decide +kernel
theorem dX1_init_5 : decode cX1_init 5 = .ok (.iconst 4, 1) := by decide +kernel
theorem dX1_init_6 : decode cX1_init 6 = .ok (.putfield 9, 3) := by decide +kernel
theorem dX1_init_9 : decode cX1_init 9 = .ok (.aload_n 0, 1) := by decide +kernel
theorem dX1_init_10 : decode cX1_init 10 = .ok (.iconst 4, 1) := by decide +kernel
theorem dX1_init_11 : decode cX1_init 11 = .ok (.putfield 15, 3) := by decide +kernel
theorem dX1_init_14 : decode cX1_init 14 = .ok (.aload_n 0, 1) := by decide +kernel
theorem dX1_init_15 : decode cX1_init 15 = .ok (.iconst 0, 1) := by decide +kernel
theorem dX1_init_16 : decode cX1_init 16 = .ok (.putfield 18, 3) := by decide +kernel
theorem dX1_init_19 : decode cX1_init 19 = .ok (.aload_n 0, 1) := by decide +kernel
theorem dX1_init_20 : decode cX1_init 20 = .ok (.lconst 0, 1) := by decide +kernel
theorem dX1_init_21 : decode cX1_init 21 = .ok (.putfield 21, 3) := by decide +kernel
theorem dX1_init_24 : decode cX1_init 24 = .ok (.aload_n 0, 1) := by decide +kernel
theorem dX1_init_25 : decode cX1_init 25 = .ok (.lconst 0, 1) := by decide +kernel
theorem dX1_init_26 : decode cX1_init 26 = .ok (.putfield 25, 3) := by decide +kernel
theorem dX1_init_29 : decode cX1_init 29 = .ok (.aload_n 0, 1) := by decide +kernel
theorem dX1_init_30 : decode cX1_init 30 = .ok (.iconst 0, 1) := by decide +kernel
theorem dX1_init_31 : decode cX1_init 31 = .ok (.putfield 28, 3) := by decide +kernel
theorem dX1_init_34 : decode cX1_init 34 = .ok (.aload_n 0, 1) := by decide +kernel
theorem dX1_init_35 : decode cX1_init 35 = .ok (.iconst 0, 1) := by decide +kernel
theorem dX1_init_36 : decode cX1_init 36 = .ok (.putfield 31, 3) := by decide +kernel
theorem dX1_init_39 : decode cX1_init 39 = .ok (.aload_n 0, 1) := by decide +kernel
theorem dX1_init_40 : decode cX1_init 40 = .ok (.iconst 0, 1) := by decide +kernel
theorem dX1_init_41 : decode cX1_init 41 = .ok (.putfield 34, 3) := by decide +kernel
theorem dX1_init_44 : decode cX1_init 44 = .ok (.aload_n 0, 1) := by decide +kernel
theorem dX1_init_45 : decode cX1_init 45 = .ok (.bipush 21, 2) := by decide +kernel
theorem dX1_init_47 : decode cX1_init 47 = .ok (.newarray .int, 2) := by decide +kernel
theorem dX1_init_49 : decode cX1_init 49 = .ok (.putfield 37, 3) := by decide +kernel
theorem dX1_init_52 : decode cX1_init 52 = .ok (.return_, 1) := by decide +kernel
theorem dX1_copied_0 : decode cX1_copied 0 = .ok (.new 10, 3) := by decide +kernel
theorem dX1_copied_3 : decode cX1_copied 3 = .ok (.dup, 1) := by decide +kernel
theorem dX1_copied_4 : decode cX1_copied 4 = .ok (.invokespecial 41, 3) := by decide +kernel
theorem dX1_copied_7 : decode cX1_copied 7 = .ok (.astore_n 1, 1) := by decide +kernel
theorem dX1_copied_8 : decode cX1_copied 8 = .ok (.aload_n 1, 1) := by decide +kernel
theorem dX1_copied_9 : decode cX1_copied 9 = .ok (.aload_n 0, 1) := by decide +kernel
theorem dX1_copied_10 : decode cX1_copied 10 = .ok (.getfield 9, 3) := by decide +kernel
theorem dX1_copied_13 : decode cX1_copied 13 = .ok (.putfield 9, 3) := by decide +kernel
theorem dX1_copied_16 : decode cX1_copied 16 = .ok (.aload_n 1, 1) := by decide +kernel
theorem dX1_copied_17 : decode cX1_copied 17 = .ok (.aload_n 0, 1) := by decide +kernel
theorem dX1_copied_18 : decode cX1_copied 18 = .ok (.getfield 15, 3) := by decide +kernel
theorem dX1_copied_21 : decode cX1_copied 21 = .ok (.putfield 15, 3) := by decide +kernel
theorem dX1_copied_24 : decode cX1_copied 24 = .ok (.aload_n 1, 1) := by decide +kernel
theorem dX1_copied_25 : decode cX1_copied 25 = .ok (.aload_n 0, 1) := by decide +kernel
theorem dX1_copied_26 : decode cX1_copied 26 = .ok (.getfield 18, 3) := by decide +kernel
theorem dX1_copied_29 : decode cX1_copied 29 = .ok (.putfield 18, 3) := by decide +kernel
theorem dX1_copied_32 : decode cX1_copied 32 = .ok (.aload_n 1, 1) := by decide +kernel
theorem dX1_copied_33 : decode cX1_copied 33 = .ok (.aload_n 0, 1) := by decide +kernel
theorem dX1_copied_34 : decode cX1_copied 34 = .ok (.getfield 21, 3) := by decide +kernel
theorem dX1_copied_37 : decode cX1_copied 37 = .ok (.putfield 21, 3) := by decide +kernel
theorem dX1_copied_40 : decode cX1_copied 40 = .ok (.aload_n 1, 1) := by decide +kernel
theorem dX1_copied_41 : decode cX1_copied 41 = .ok (.aload_n 0, 1) := by decide +kernel
theorem dX1_copied_42 : decode cX1_copied 42 = .ok (.getfield 25, 3) := by decide +kernel
theorem dX1_copied_45 : decode cX1_copied 45 = .ok (.putfield 25, 3) := by decide +kernel
theorem dX1_copied_48 : decode cX1_copied 48 = .ok (.aload_n 1, 1) := by decide +kernel
theorem dX1_copied_49 : decode cX1_copied 49 = .ok (.aload_n 0, 1) := by decide +kernel
theorem dX1_copied_50 : decode cX1_copied 50 = .ok (.getfield 28, 3) := by decide +kernel
theorem dX1_copied_53 : decode cX1_copied 53 = .ok (.putfield 28, 3) := by decide +kernel
theorem dX1_copied_56 : decode cX1_copied 56 = .ok (.aload_n 1, 1) := by decide +kernel
theorem dX1_copied_57 : decode cX1_copied 57 = .ok (.aload_n 0, 1) := by decide +kernel
theorem dX1_copied_58 : decode cX1_copied 58 = .ok (.getfield 31, 3) := by decide +kernel
theorem dX1_copied_61 : decode cX1_copied 61 = .ok (.putfield 31, 3) := by decide +kernel
theorem dX1_copied_64 : decode cX1_copied 64 = .ok (.aload_n 1, 1) := by decide +kernel
theorem dX1_copied_65 : decode cX1_copied 65 = .ok (.aload_n 0, 1) := by decide +kernel
theorem dX1_copied_66 : decode cX1_copied 66 = .ok (.getfield 34, 3) := by decide +kernel
theorem dX1_copied_69 : decode cX1_copied 69 = .ok (.putfield 34, 3) := by decide +kernel
theorem dX1_copied_72 : decode cX1_copied 72 = .ok (.aload_n 0, 1) := by decide +kernel
theorem dX1_copied_73 : decode cX1_copied 73 = .ok (.getfield 37, 3) := by decide +kernel
theorem dX1_copied_76 : decode cX1_copied 76 = .ok (.iconst 0, 1) := by decide +kernel
theorem dX1_copied_77 : decode cX1_copied 77 = .ok (.aload_n 1, 1) := by decide +kernel
theorem dX1_copied_78 : decode cX1_copied 78 = .ok (.getfield 37, 3) := by decide +kernel
theorem dX1_copied_81 : decode cX1_copied 81 = .ok (.iconst 0, 1) := by decide +kernel
theorem dX1_copied_82 : decode cX1_copied 82 = .ok (.bipush 21, 2) := by decide +kernel
theorem dX1_copied_84 : decode cX1_copied 84 = .ok (.invokestatic 42, 3) := by decide +kernel
theorem dX1_copied_87 : decode cX1_copied 87 = .ok (.aload_n 1, 1) := by decide +kernel
theorem dX1_copied_88 : decode cX1_copied 88 = .ok (.areturn, 1) := by decide +kernel
theorem dX1_layOut_0 : decode cX1_layOut 0 = .ok (.aload_n 0, 1) := by decide +kernel
theorem dX1_layOut_1 : decode cX1_layOut 1 = .ok (.iload_n 1, 1) := by decide +kernel
theorem dX1_layOut_2 : decode cX1_layOut 2 = .ok (.putfield 9, 3) := by decide +kernel
theorem dX1_layOut_5 : decode cX1_layOut 5 = .ok (.aload_n 0, 1) := by decide +kernel
theorem dX1_layOut_6 : decode cX1_layOut 6 = .ok (.iload_n 2, 1) := by decide +kernel
theorem dX1_layOut_7 : decode cX1_layOut 7 = .ok (.putfield 15, 3) := by decide +kernel
theorem dX1_layOut_10 : decode cX1_layOut 10 = .ok (.aload_n 0, 1) := by decide +kernel
theorem dX1_layOut_11 : decode cX1_layOut 11 = .ok (.iload_n 3, 1) := by decide +kernel
theorem dX1_layOut_12 : decode cX1_layOut 12 = .ok (.putfield 18, 3) := by decide +kernel
theorem dX1_layOut_15 : decode cX1_layOut 15 = .ok (.aload_n 0, 1) := by decide +kernel
theorem dX1_layOut_16 : decode cX1_layOut 16 = .ok (.lload 4, 2) := by decide +kernel
theorem dX1_layOut_18 : decode cX1_layOut 18 = .ok (.putfield 21, 3) := by decide +kernel
theorem dX1_layOut_21 : decode cX1_layOut 21 = .ok (.aload_n 0, 1) := by decide +kernel
theorem dX1_layOut_22 : decode cX1_layOut 22 = .ok (.lconst 0, 1) := by decide +kernel
theorem dX1_layOut_23 : decode cX1_layOut 23 = .ok (.putfield 25, 3) := by decide +kernel
theorem dX1_layOut_26 : decode cX1_layOut 26 = .ok (.aload_n 0, 1) := by decide +kernel
theorem dX1_layOut_27 : decode cX1_layOut 27 = .ok (.iconst 0, 1) := by decide +kernel
theorem dX1_layOut_28 : decode cX1_layOut 28 = .ok (.putfield 28, 3) := by decide +kernel
theorem dX1_layOut_31 : decode cX1_layOut 31 = .ok (.return_, 1) := by decide +kernel
theorem dX1_hasBlock_0 : decode cX1_hasBlock 0 = .ok (.iload_n 1, 1) := by decide +kernel
theorem dX1_hasBlock_1 : decode cX1_hasBlock 1 = .ok (.ifCond .lt 32, 3) := by decide +kernel
theorem dX1_hasBlock_4 : decode cX1_hasBlock 4 = .ok (.iload_n 2, 1) := by decide +kernel
theorem dX1_hasBlock_5 : decode cX1_hasBlock 5 = .ok (.ifCond .lt 28, 3) := by decide +kernel
theorem dX1_hasBlock_8 : decode cX1_hasBlock 8 = .ok (.iload_n 1, 1) := by decide +kernel
theorem dX1_hasBlock_9 : decode cX1_hasBlock 9 = .ok (.aload_n 0, 1) := by decide +kernel
theorem dX1_hasBlock_10 : decode cX1_hasBlock 10 = .ok (.getfield 9, 3) := by decide +kernel
theorem dX1_hasBlock_13 : decode cX1_hasBlock 13 = .ok (.iload_n 3, 1) := by decide +kernel
theorem dX1_hasBlock_14 : decode cX1_hasBlock 14 = .ok (.isub, 1) := by decide +kernel
theorem dX1_hasBlock_15 : decode cX1_hasBlock 15 = .ok (.if_icmp .gt 18, 3) := by decide +kernel
theorem dX1_hasBlock_18 : decode cX1_hasBlock 18 = .ok (.iload_n 2, 1) := by decide +kernel
theorem dX1_hasBlock_19 : decode cX1_hasBlock 19 = .ok (.aload_n 0, 1) := by decide +kernel
theorem dX1_hasBlock_20 : decode cX1_hasBlock 20 = .ok (.getfield 15, 3) := by decide +kernel
theorem dX1_hasBlock_23 : decode cX1_hasBlock 23 = .ok (.iload 4, 2) := by decide +kernel
theorem dX1_hasBlock_25 : decode cX1_hasBlock 25 = .ok (.isub, 1) := by decide +kernel
theorem dX1_hasBlock_26 : decode cX1_hasBlock 26 = .ok (.if_icmp .gt 7, 3) := by decide +kernel
theorem dX1_hasBlock_29 : decode cX1_hasBlock 29 = .ok (.iconst 1, 1) := by decide +kernel
theorem dX1_hasBlock_30 : decode cX1_hasBlock 30 = .ok (.goto 4, 3) := by decide +kernel
theorem dX1_hasBlock_33 : decode cX1_hasBlock 33 = .ok (.iconst 0, 1) := by decide +kernel
theorem dX1_hasBlock_34 : decode cX1_hasBlock 34 = .ok (.ireturn, 1) := by decide +kernel
theorem dX1_pondCell_0 : decode cX1_pondCell 0 = .ok (.lconst 1, 1) := by decide +kernel
theorem dX1_pondCell_1 : decode cX1_pondCell 1 = .ok (.aload_n 0, 1) := by decide +kernel
theorem dX1_pondCell_2 : decode cX1_pondCell 2 = .ok (.getfield 18, 3) := by decide +kernel
theorem dX1_pondCell_5 : decode cX1_pondCell 5 = .ok (.lshl, 1) := by decide +kernel
theorem dX1_pondCell_6 : decode cX1_pondCell 6 = .ok (.lreturn, 1) := by decide +kernel
theorem dX1_freeCells_0 : decode cX1_freeCells 0 = .ok (.iconst 0, 1) := by decide +kernel
theorem dX1_freeCells_1 : decode cX1_freeCells 1 = .ok (.iconst 0, 1) := by decide +kernel
theorem dX1_freeCells_2 : decode cX1_freeCells 2 = .ok (.aload_n 0, 1) := by decide +kernel
theorem dX1_freeCells_3 : decode cX1_freeCells 3 = .ok (.getfield 9, 3) := by decide +kernel
theorem dX1_freeCells_6 : decode cX1_freeCells 6 = .ok (.aload_n 0, 1) := by decide +kernel
theorem dX1_freeCells_7 : decode cX1_freeCells 7 = .ok (.getfield 15, 3) := by decide +kernel
theorem dX1_freeCells_10 : decode cX1_freeCells 10 = .ok (.invokestatic 48, 3) := by decide +kernel
theorem dX1_freeCells_13 : decode cX1_freeCells 13 = .ok (.aload_n 0, 1) := by decide +kernel
theorem dX1_freeCells_14 : decode cX1_freeCells 14 = .ok (.getfield 21, 3) := by decide +kernel
theorem dX1_freeCells_17 : decode cX1_freeCells 17 = .ok (.aload_n 0, 1) := by decide +kernel
theorem dX1_freeCells_18 : decode cX1_freeCells 18 = .ok (.getfield 25, 3) := by decide +kernel
theorem dX1_freeCells_21 : decode cX1_freeCells 21 = .ok (.lor, 1) := by decide +kernel
theorem dX1_freeCells_22 : decode cX1_freeCells 22 = .ok (.aload_n 0, 1) := by decide +kernel
theorem dX1_freeCells_23 : decode cX1_freeCells 23 = .ok (.invokevirtual 52, 3) := by decide +kernel
theorem dX1_freeCells_26 : decode cX1_freeCells 26 = .ok (.lor, 1) := by decide +kernel
theorem dX1_freeCells_27 : decode cX1_freeCells 27 = .ok (.ldc2_w 56, 3) := by decide +kernel
theorem dX1_freeCells_30 : decode cX1_freeCells 30 = .ok (.lxor, 1) := by decide +kernel
theorem dX1_freeCells_31 : decode cX1_freeCells 31 = .ok (.land, 1) := by decide +kernel
theorem dX1_freeCells_32 : decode cX1_freeCells 32 = .ok (.lreturn, 1) := by decide +kernel
theorem dX1_blockCells_0 : decode cX1_blockCells 0 = .ok (.lconst 0, 1) := by decide +kernel
theorem dX1_blockCells_1 : decode cX1_blockCells 1 = .ok (.lstore 4, 2) := by decide +kernel
theorem dX1_blockCells_3 : decode cX1_blockCells 3 = .ok (.iconst 0, 1) := by decide +kernel
theorem dX1_blockCells_4 : decode cX1_blockCells 4 = .ok (.istore 6, 2) := by decide +kernel
theorem dX1_blockCells_6 : decode cX1_blockCells 6 = .ok (.iload 6, 2) := by decide +kernel
theorem dX1_blockCells_8 : decode cX1_blockCells 8 = .ok (.iload_n 3, 1) := by decide +kernel
theorem dX1_blockCells_9 : decode cX1_blockCells 9 = .ok (.if_icmp .ge 28, 3) := by decide +kernel
theorem dX1_blockCells_12 : decode cX1_blockCells 12 = .ok (.lload 4, 2) := by decide +kernel
theorem dX1_blockCells_14 : decode cX1_blockCells 14 = .ok (.lconst 1, 1) := by decide +kernel
theorem dX1_blockCells_15 : decode cX1_blockCells 15 = .ok (.iload_n 2, 1) := by decide +kernel
theorem dX1_blockCells_16 : decode cX1_blockCells 16 = .ok (.lshl, 1) := by decide +kernel
theorem dX1_blockCells_17 : decode cX1_blockCells 17 = .ok (.lconst 1, 1) := by decide +kernel
theorem dX1_blockCells_18 : decode cX1_blockCells 18 = .ok (.lsub, 1) := by decide +kernel
theorem dX1_blockCells_19 : decode cX1_blockCells 19 = .ok (.iload_n 0, 1) := by decide +kernel
theorem dX1_blockCells_20 : decode cX1_blockCells 20 = .ok (.iload_n 1, 1) := by decide +kernel
theorem dX1_blockCells_21 : decode cX1_blockCells 21 = .ok (.iload 6, 2) := by decide +kernel
theorem dX1_blockCells_23 : decode cX1_blockCells 23 = .ok (.iadd, 1) := by decide +kernel
theorem dX1_blockCells_24 : decode cX1_blockCells 24 = .ok (.invokestatic 58, 3) := by decide +kernel
theorem dX1_blockCells_27 : decode cX1_blockCells 27 = .ok (.lshl, 1) := by decide +kernel
theorem dX1_blockCells_28 : decode cX1_blockCells 28 = .ok (.lor, 1) := by decide +kernel
theorem dX1_blockCells_29 : decode cX1_blockCells 29 = .ok (.lstore 4, 2) := by decide +kernel
theorem dX1_blockCells_31 : decode cX1_blockCells 31 = .ok (.iinc 6 1, 3) := by decide +kernel
theorem dX1_blockCells_34 : decode cX1_blockCells 34 = .ok (.goto (-28), 3) := by decide +kernel
theorem dX1_blockCells_37 : decode cX1_blockCells 37 = .ok (.lload 4, 2) := by decide +kernel
theorem dX1_blockCells_39 : decode cX1_blockCells 39 = .ok (.lreturn, 1) := by decide +kernel
theorem dX1_kindOf_0 : decode cX1_kindOf 0 = .ok (.lload_n 1, 1) := by decide +kernel
theorem dX1_kindOf_1 : decode cX1_kindOf 1 = .ok (.aload_n 0, 1) := by decide +kernel
theorem dX1_kindOf_2 : decode cX1_kindOf 2 = .ok (.invokevirtual 52, 3) := by decide +kernel
theorem dX1_kindOf_5 : decode cX1_kindOf 5 = .ok (.land, 1) := by decide +kernel
theorem dX1_kindOf_6 : decode cX1_kindOf 6 = .ok (.lconst 0, 1) := by decide +kernel
theorem dX1_kindOf_7 : decode cX1_kindOf 7 = .ok (.lcmp, 1) := by decide +kernel
theorem dX1_kindOf_8 : decode cX1_kindOf 8 = .ok (.ifCond .eq 5, 3) := by decide +kernel
theorem dX1_kindOf_11 : decode cX1_kindOf 11 = .ok (.iconst 1, 1) := by decide +kernel
theorem dX1_kindOf_12 : decode cX1_kindOf 12 = .ok (.ireturn, 1) := by decide +kernel
theorem dX1_kindOf_13 : decode cX1_kindOf 13 = .ok (.lload_n 1, 1) := by decide +kernel
theorem dX1_kindOf_14 : decode cX1_kindOf 14 = .ok (.aload_n 0, 1) := by decide +kernel
theorem dX1_kindOf_15 : decode cX1_kindOf 15 = .ok (.getfield 21, 3) := by decide +kernel
theorem dX1_kindOf_18 : decode cX1_kindOf 18 = .ok (.land, 1) := by decide +kernel
theorem dX1_kindOf_19 : decode cX1_kindOf 19 = .ok (.lconst 0, 1) := by decide +kernel
theorem dX1_kindOf_20 : decode cX1_kindOf 20 = .ok (.lcmp, 1) := by decide +kernel
theorem dX1_kindOf_21 : decode cX1_kindOf 21 = .ok (.ifCond .eq 5, 3) := by decide +kernel
theorem dX1_kindOf_24 : decode cX1_kindOf 24 = .ok (.iconst 2, 1) := by decide +kernel
theorem dX1_kindOf_25 : decode cX1_kindOf 25 = .ok (.ireturn, 1) := by decide +kernel
theorem dX1_kindOf_26 : decode cX1_kindOf 26 = .ok (.lload_n 1, 1) := by decide +kernel
theorem dX1_kindOf_27 : decode cX1_kindOf 27 = .ok (.aload_n 0, 1) := by decide +kernel
theorem dX1_kindOf_28 : decode cX1_kindOf 28 = .ok (.getfield 25, 3) := by decide +kernel
theorem dX1_kindOf_31 : decode cX1_kindOf 31 = .ok (.land, 1) := by decide +kernel
theorem dX1_kindOf_32 : decode cX1_kindOf 32 = .ok (.lconst 0, 1) := by decide +kernel
theorem dX1_kindOf_33 : decode cX1_kindOf 33 = .ok (.lcmp, 1) := by decide +kernel
theorem dX1_kindOf_34 : decode cX1_kindOf 34 = .ok (.ifCond .eq 7, 3) := by decide +kernel
theorem dX1_kindOf_37 : decode cX1_kindOf 37 = .ok (.iconst 3, 1) := by decide +kernel
theorem dX1_kindOf_38 : decode cX1_kindOf 38 = .ok (.goto 4, 3) := by decide +kernel
theorem dX1_kindOf_41 : decode cX1_kindOf 41 = .ok (.iconst 0, 1) := by decide +kernel
theorem dX1_kindOf_42 : decode cX1_kindOf 42 = .ok (.ireturn, 1) := by decide +kernel
theorem dX1_whyRefused_0 : decode cX1_whyRefused 0 = .ok (.aload_n 0, 1) := by decide +kernel
theorem dX1_whyRefused_1 : decode cX1_whyRefused 1 = .ok (.iload_n 1, 1) := by decide +kernel
theorem dX1_whyRefused_2 : decode cX1_whyRefused 2 = .ok (.iload_n 2, 1) := by decide +kernel
theorem dX1_whyRefused_3 : decode cX1_whyRefused 3 = .ok (.iconst 2, 1) := by decide +kernel
theorem dX1_whyRefused_4 : decode cX1_whyRefused 4 = .ok (.iconst 2, 1) := by decide +kernel
theorem dX1_whyRefused_5 : decode cX1_whyRefused 5 = .ok (.invokevirtual 62, 3) := by decide +kernel
theorem dX1_whyRefused_8 : decode cX1_whyRefused 8 = .ok (.ifCond .ne 5, 3) := by decide +kernel
theorem dX1_whyRefused_11 : decode cX1_whyRefused 11 = .ok (.iconst 1, 1) := by decide +kernel
theorem dX1_whyRefused_12 : decode cX1_whyRefused 12 = .ok (.ireturn, 1) := by decide +kernel
theorem dX1_whyRefused_13 : decode cX1_whyRefused 13 = .ok (.iload_n 1, 1) := by decide +kernel
theorem dX1_whyRefused_14 : decode cX1_whyRefused 14 = .ok (.iload_n 2, 1) := by decide +kernel
theorem dX1_whyRefused_15 : decode cX1_whyRefused 15 = .ok (.iload_n 3, 1) := by decide +kernel
theorem dX1_whyRefused_16 : decode cX1_whyRefused 16 = .ok (.invokestatic 66, 3) := by decide +kernel
theorem dX1_whyRefused_19 : decode cX1_whyRefused 19 = .ok (.lstore 4, 2) := by decide +kernel
theorem dX1_whyRefused_21 : decode cX1_whyRefused 21 = .ok (.lload 4, 2) := by decide +kernel
theorem dX1_whyRefused_23 : decode cX1_whyRefused 23 = .ok (.aload_n 0, 1) := by decide +kernel
theorem dX1_whyRefused_24 : decode cX1_whyRefused 24 = .ok (.invokevirtual 52, 3) := by decide +kernel
theorem dX1_whyRefused_27 : decode cX1_whyRefused 27 = .ok (.land, 1) := by decide +kernel
theorem dX1_whyRefused_28 : decode cX1_whyRefused 28 = .ok (.lconst 0, 1) := by decide +kernel
theorem dX1_whyRefused_29 : decode cX1_whyRefused 29 = .ok (.lcmp, 1) := by decide +kernel
theorem dX1_whyRefused_30 : decode cX1_whyRefused 30 = .ok (.ifCond .eq 5, 3) := by decide +kernel
theorem dX1_whyRefused_33 : decode cX1_whyRefused 33 = .ok (.iconst 2, 1) := by decide +kernel
theorem dX1_whyRefused_34 : decode cX1_whyRefused 34 = .ok (.ireturn, 1) := by decide +kernel
theorem dX1_whyRefused_35 : decode cX1_whyRefused 35 = .ok (.lload 4, 2) := by decide +kernel
theorem dX1_whyRefused_37 : decode cX1_whyRefused 37 = .ok (.aload_n 0, 1) := by decide +kernel
theorem dX1_whyRefused_38 : decode cX1_whyRefused 38 = .ok (.getfield 21, 3) := by decide +kernel
theorem dX1_whyRefused_41 : decode cX1_whyRefused 41 = .ok (.land, 1) := by decide +kernel
theorem dX1_whyRefused_42 : decode cX1_whyRefused 42 = .ok (.lconst 0, 1) := by decide +kernel
theorem dX1_whyRefused_43 : decode cX1_whyRefused 43 = .ok (.lcmp, 1) := by decide +kernel
theorem dX1_whyRefused_44 : decode cX1_whyRefused 44 = .ok (.ifCond .eq 5, 3) := by decide +kernel
theorem dX1_whyRefused_47 : decode cX1_whyRefused 47 = .ok (.iconst 3, 1) := by decide +kernel
theorem dX1_whyRefused_48 : decode cX1_whyRefused 48 = .ok (.ireturn, 1) := by decide +kernel
theorem dX1_whyRefused_49 : decode cX1_whyRefused 49 = .ok (.lload 4, 2) := by decide +kernel
theorem dX1_whyRefused_51 : decode cX1_whyRefused 51 = .ok (.aload_n 0, 1) := by decide +kernel
theorem dX1_whyRefused_52 : decode cX1_whyRefused 52 = .ok (.getfield 25, 3) := by decide +kernel
theorem dX1_whyRefused_55 : decode cX1_whyRefused 55 = .ok (.land, 1) := by decide +kernel
theorem dX1_whyRefused_56 : decode cX1_whyRefused 56 = .ok (.lconst 0, 1) := by decide +kernel
theorem dX1_whyRefused_57 : decode cX1_whyRefused 57 = .ok (.lcmp, 1) := by decide +kernel
theorem dX1_whyRefused_58 : decode cX1_whyRefused 58 = .ok (.ifCond .eq 7, 3) := by decide +kernel
theorem dX1_whyRefused_61 : decode cX1_whyRefused 61 = .ok (.iconst 4, 1) := by decide +kernel
theorem dX1_whyRefused_62 : decode cX1_whyRefused 62 = .ok (.goto 4, 3) := by decide +kernel
theorem dX1_whyRefused_65 : decode cX1_whyRefused 65 = .ok (.iconst 0, 1) := by decide +kernel
theorem dX1_whyRefused_66 : decode cX1_whyRefused 66 = .ok (.ireturn, 1) := by decide +kernel
theorem dX1_putTriple_0 : decode cX1_putTriple 0 = .ok (.aload_n 0, 1) := by decide +kernel
theorem dX1_putTriple_1 : decode cX1_putTriple 1 = .ok (.getfield 28, 3) := by decide +kernel
theorem dX1_putTriple_4 : decode cX1_putTriple 4 = .ok (.aload_n 0, 1) := by decide +kernel
theorem dX1_putTriple_5 : decode cX1_putTriple 5 = .ok (.getfield 37, 3) := by decide +kernel
theorem dX1_putTriple_8 : decode cX1_putTriple 8 = .ok (.arraylength, 1) := by decide +kernel
theorem dX1_putTriple_9 : decode cX1_putTriple 9 = .ok (.if_icmp .ge 43, 3) := by decide +kernel
theorem dX1_putTriple_12 : decode cX1_putTriple 12 = .ok (.aload_n 0, 1) := by decide +kernel
theorem dX1_putTriple_13 : decode cX1_putTriple 13 = .ok (.getfield 37, 3) := by decide +kernel
theorem dX1_putTriple_16 : decode cX1_putTriple 16 = .ok (.aload_n 0, 1) := by decide +kernel
theorem dX1_putTriple_17 : decode cX1_putTriple 17 = .ok (.getfield 28, 3) := by decide +kernel
theorem dX1_putTriple_20 : decode cX1_putTriple 20 = .ok (.iload_n 1, 1) := by decide +kernel
theorem dX1_putTriple_21 : decode cX1_putTriple 21 = .ok (.iload_n 2, 1) := by decide +kernel
theorem dX1_putTriple_22 : decode cX1_putTriple 22 = .ok (.iload_n 3, 1) := by decide +kernel
theorem dX1_putTriple_23 : decode cX1_putTriple 23 = .ok (.invokestatic 70, 3) := by decide +kernel
theorem dX1_putTriple_26 : decode cX1_putTriple 26 = .ok (.iastore, 1) := by decide +kernel
theorem dX1_putTriple_27 : decode cX1_putTriple 27 = .ok (.aload_n 0, 1) := by decide +kernel
theorem dX1_putTriple_28 : decode cX1_putTriple 28 = .ok (.dup, 1) := by decide +kernel
theorem dX1_putTriple_29 : decode cX1_putTriple 29 = .ok (.getfield 28, 3) := by decide +kernel
theorem dX1_putTriple_32 : decode cX1_putTriple 32 = .ok (.iconst 1, 1) := by decide +kernel
theorem dX1_putTriple_33 : decode cX1_putTriple 33 = .ok (.iadd, 1) := by decide +kernel
theorem dX1_putTriple_34 : decode cX1_putTriple 34 = .ok (.putfield 28, 3) := by decide +kernel
theorem dX1_putTriple_37 : decode cX1_putTriple 37 = .ok (.aload_n 0, 1) := by decide +kernel
theorem dX1_putTriple_38 : decode cX1_putTriple 38 = .ok (.dup, 1) := by decide +kernel
theorem dX1_putTriple_39 : decode cX1_putTriple 39 = .ok (.getfield 25, 3) := by decide +kernel
theorem dX1_putTriple_42 : decode cX1_putTriple 42 = .ok (.iload_n 1, 1) := by decide +kernel
theorem dX1_putTriple_43 : decode cX1_putTriple 43 = .ok (.iload_n 2, 1) := by decide +kernel
theorem dX1_putTriple_44 : decode cX1_putTriple 44 = .ok (.iload_n 3, 1) := by decide +kernel
theorem dX1_putTriple_45 : decode cX1_putTriple 45 = .ok (.invokestatic 66, 3) := by decide +kernel
theorem dX1_putTriple_48 : decode cX1_putTriple 48 = .ok (.lor, 1) := by decide +kernel
theorem dX1_putTriple_49 : decode cX1_putTriple 49 = .ok (.putfield 25, 3) := by decide +kernel
theorem dX1_putTriple_52 : decode cX1_putTriple 52 = .ok (.return_, 1) := by decide +kernel
theorem dX1_takeTriple_0 : decode cX1_takeTriple 0 = .ok (.iload_n 1, 1) := by decide +kernel
theorem dX1_takeTriple_1 : decode cX1_takeTriple 1 = .ok (.ifCond .lt 11, 3) := by decide +kernel
theorem dX1_takeTriple_4 : decode cX1_takeTriple 4 = .ok (.iload_n 1, 1) := by decide +kernel
theorem dX1_takeTriple_5 : decode cX1_takeTriple 5 = .ok (.aload_n 0, 1) := by decide +kernel
theorem dX1_takeTriple_6 : decode cX1_takeTriple 6 = .ok (.getfield 28, 3) := by decide +kernel
theorem dX1_takeTriple_9 : decode cX1_takeTriple 9 = .ok (.if_icmp .lt 4, 3) := by decide +kernel
theorem dX1_takeTriple_12 : decode cX1_takeTriple 12 = .ok (.return_, 1) := by decide +kernel
theorem dX1_takeTriple_13 : decode cX1_takeTriple 13 = .ok (.aload_n 0, 1) := by decide +kernel
theorem dX1_takeTriple_14 : decode cX1_takeTriple 14 = .ok (.dup, 1) := by decide +kernel
theorem dX1_takeTriple_15 : decode cX1_takeTriple 15 = .ok (.getfield 25, 3) := by decide +kernel
theorem dX1_takeTriple_18 : decode cX1_takeTriple 18 = .ok (.aload_n 0, 1) := by decide +kernel
theorem dX1_takeTriple_19 : decode cX1_takeTriple 19 = .ok (.iload_n 1, 1) := by decide +kernel
theorem dX1_takeTriple_20 : decode cX1_takeTriple 20 = .ok (.invokevirtual 74, 3) := by decide +kernel
theorem dX1_takeTriple_23 : decode cX1_takeTriple 23 = .ok (.ldc2_w 56, 3) := by decide +kernel
theorem dX1_takeTriple_26 : decode cX1_takeTriple 26 = .ok (.lxor, 1) := by decide +kernel
theorem dX1_takeTriple_27 : decode cX1_takeTriple 27 = .ok (.land, 1) := by decide +kernel
theorem dX1_takeTriple_28 : decode cX1_takeTriple 28 = .ok (.putfield 25, 3) := by decide +kernel
theorem dX1_takeTriple_31 : decode cX1_takeTriple 31 = .ok (.aload_n 0, 1) := by decide +kernel
theorem dX1_takeTriple_32 : decode cX1_takeTriple 32 = .ok (.dup, 1) := by decide +kernel
theorem dX1_takeTriple_33 : decode cX1_takeTriple 33 = .ok (.getfield 28, 3) := by decide +kernel
theorem dX1_takeTriple_36 : decode cX1_takeTriple 36 = .ok (.iconst 1, 1) := by decide +kernel
theorem dX1_takeTriple_37 : decode cX1_takeTriple 37 = .ok (.isub, 1) := by decide +kernel
theorem dX1_takeTriple_38 : decode cX1_takeTriple 38 = .ok (.putfield 28, 3) := by decide +kernel
theorem dX1_takeTriple_41 : decode cX1_takeTriple 41 = .ok (.iload_n 1, 1) := by decide +kernel
theorem dX1_takeTriple_42 : decode cX1_takeTriple 42 = .ok (.istore_n 2, 1) := by decide +kernel
theorem dX1_takeTriple_43 : decode cX1_takeTriple 43 = .ok (.iload_n 2, 1) := by decide +kernel
theorem dX1_takeTriple_44 : decode cX1_takeTriple 44 = .ok (.aload_n 0, 1) := by decide +kernel
theorem dX1_takeTriple_45 : decode cX1_takeTriple 45 = .ok (.getfield 28, 3) := by decide +kernel
theorem dX1_takeTriple_48 : decode cX1_takeTriple 48 = .ok (.if_icmp .ge 34, 3) := by decide +kernel
theorem dX1_takeTriple_51 : decode cX1_takeTriple 51 = .ok (.iload_n 2, 1) := by decide +kernel
theorem dX1_takeTriple_52 : decode cX1_takeTriple 52 = .ok (.iconst 1, 1) := by decide +kernel
theorem dX1_takeTriple_53 : decode cX1_takeTriple 53 = .ok (.iadd, 1) := by decide +kernel
theorem dX1_takeTriple_54 : decode cX1_takeTriple 54 = .ok (.aload_n 0, 1) := by decide +kernel
theorem dX1_takeTriple_55 : decode cX1_takeTriple 55 = .ok (.getfield 37, 3) := by decide +kernel
theorem dX1_takeTriple_58 : decode cX1_takeTriple 58 = .ok (.arraylength, 1) := by decide +kernel
theorem dX1_takeTriple_59 : decode cX1_takeTriple 59 = .ok (.if_icmp .ge 23, 3) := by decide +kernel
theorem dX1_takeTriple_62 : decode cX1_takeTriple 62 = .ok (.aload_n 0, 1) := by decide +kernel
theorem dX1_takeTriple_63 : decode cX1_takeTriple 63 = .ok (.getfield 37, 3) := by decide +kernel
theorem dX1_takeTriple_66 : decode cX1_takeTriple 66 = .ok (.iload_n 2, 1) := by decide +kernel
theorem dX1_takeTriple_67 : decode cX1_takeTriple 67 = .ok (.aload_n 0, 1) := by decide +kernel
theorem dX1_takeTriple_68 : decode cX1_takeTriple 68 = .ok (.getfield 37, 3) := by decide +kernel
theorem dX1_takeTriple_71 : decode cX1_takeTriple 71 = .ok (.iload_n 2, 1) := by decide +kernel
theorem dX1_takeTriple_72 : decode cX1_takeTriple 72 = .ok (.iconst 1, 1) := by decide +kernel
theorem dX1_takeTriple_73 : decode cX1_takeTriple 73 = .ok (.iadd, 1) := by decide +kernel
theorem dX1_takeTriple_74 : decode cX1_takeTriple 74 = .ok (.iaload, 1) := by decide +kernel
theorem dX1_takeTriple_75 : decode cX1_takeTriple 75 = .ok (.iastore, 1) := by decide +kernel
theorem dX1_takeTriple_76 : decode cX1_takeTriple 76 = .ok (.iinc 2 1, 3) := by decide +kernel
theorem dX1_takeTriple_79 : decode cX1_takeTriple 79 = .ok (.goto (-36), 3) := by decide +kernel
theorem dX1_takeTriple_82 : decode cX1_takeTriple 82 = .ok (.return_, 1) := by decide +kernel
theorem dX1_tripleName_0 : decode cX1_tripleName 0 = .ok (.iload_n 1, 1) := by decide +kernel
theorem dX1_tripleName_1 : decode cX1_tripleName 1 = .ok (.ifCond .lt 29, 3) := by decide +kernel
theorem dX1_tripleName_4 : decode cX1_tripleName 4 = .ok (.iload_n 1, 1) := by decide +kernel
theorem dX1_tripleName_5 : decode cX1_tripleName 5 = .ok (.aload_n 0, 1) := by decide +kernel
theorem dX1_tripleName_6 : decode cX1_tripleName 6 = .ok (.getfield 28, 3) := by decide +kernel
theorem dX1_tripleName_9 : decode cX1_tripleName 9 = .ok (.if_icmp .ge 21, 3) := by decide +kernel
theorem dX1_tripleName_12 : decode cX1_tripleName 12 = .ok (.iload_n 1, 1) := by decide +kernel
theorem dX1_tripleName_13 : decode cX1_tripleName 13 = .ok (.aload_n 0, 1) := by decide +kernel
theorem dX1_tripleName_14 : decode cX1_tripleName 14 = .ok (.getfield 37, 3) := by decide +kernel
theorem dX1_tripleName_17 : decode cX1_tripleName 17 = .ok (.arraylength, 1) := by decide +kernel
theorem dX1_tripleName_18 : decode cX1_tripleName 18 = .ok (.if_icmp .ge 12, 3) := by decide +kernel
theorem dX1_tripleName_21 : decode cX1_tripleName 21 = .ok (.aload_n 0, 1) := by decide +kernel
theorem dX1_tripleName_22 : decode cX1_tripleName 22 = .ok (.getfield 37, 3) := by decide +kernel
theorem dX1_tripleName_25 : decode cX1_tripleName 25 = .ok (.iload_n 1, 1) := by decide +kernel
theorem dX1_tripleName_26 : decode cX1_tripleName 26 = .ok (.iaload, 1) := by decide +kernel
theorem dX1_tripleName_27 : decode cX1_tripleName 27 = .ok (.goto 4, 3) := by decide +kernel
theorem dX1_tripleName_30 : decode cX1_tripleName 30 = .ok (.iconst 0, 1) := by decide +kernel
theorem dX1_tripleName_31 : decode cX1_tripleName 31 = .ok (.ireturn, 1) := by decide +kernel
theorem dX1_tripleCells_0 : decode cX1_tripleCells 0 = .ok (.aload_n 0, 1) := by decide +kernel
theorem dX1_tripleCells_1 : decode cX1_tripleCells 1 = .ok (.iload_n 1, 1) := by decide +kernel
theorem dX1_tripleCells_2 : decode cX1_tripleCells 2 = .ok (.invokevirtual 78, 3) := by decide +kernel
theorem dX1_tripleCells_5 : decode cX1_tripleCells 5 = .ok (.istore_n 2, 1) := by decide +kernel
theorem dX1_tripleCells_6 : decode cX1_tripleCells 6 = .ok (.iload_n 2, 1) := by decide +kernel
theorem dX1_tripleCells_7 : decode cX1_tripleCells 7 = .ok (.invokestatic 82, 3) := by decide +kernel
theorem dX1_tripleCells_10 : decode cX1_tripleCells 10 = .ok (.iload_n 2, 1) := by decide +kernel
theorem dX1_tripleCells_11 : decode cX1_tripleCells 11 = .ok (.invokestatic 85, 3) := by decide +kernel
theorem dX1_tripleCells_14 : decode cX1_tripleCells 14 = .ok (.iload_n 2, 1) := by decide +kernel
theorem dX1_tripleCells_15 : decode cX1_tripleCells 15 = .ok (.invokestatic 88, 3) := by decide +kernel
theorem dX1_tripleCells_18 : decode cX1_tripleCells 18 = .ok (.invokestatic 66, 3) := by decide +kernel
theorem dX1_tripleCells_21 : decode cX1_tripleCells 21 = .ok (.lreturn, 1) := by decide +kernel
theorem dX1_tripleOver_0 : decode cX1_tripleOver 0 = .ok (.iconst 0, 1) := by decide +kernel
theorem dX1_tripleOver_1 : decode cX1_tripleOver 1 = .ok (.istore_n 3, 1) := by decide +kernel
theorem dX1_tripleOver_2 : decode cX1_tripleOver 2 = .ok (.iload_n 3, 1) := by decide +kernel
theorem dX1_tripleOver_3 : decode cX1_tripleOver 3 = .ok (.aload_n 0, 1) := by decide +kernel
theorem dX1_tripleOver_4 : decode cX1_tripleOver 4 = .ok (.getfield 28, 3) := by decide +kernel
theorem dX1_tripleOver_7 : decode cX1_tripleOver 7 = .ok (.if_icmp .ge 23, 3) := by decide +kernel
theorem dX1_tripleOver_10 : decode cX1_tripleOver 10 = .ok (.aload_n 0, 1) := by decide +kernel
theorem dX1_tripleOver_11 : decode cX1_tripleOver 11 = .ok (.iload_n 3, 1) := by decide +kernel
theorem dX1_tripleOver_12 : decode cX1_tripleOver 12 = .ok (.invokevirtual 74, 3) := by decide +kernel
theorem dX1_tripleOver_15 : decode cX1_tripleOver 15 = .ok (.lload_n 1, 1) := by decide +kernel
theorem dX1_tripleOver_16 : decode cX1_tripleOver 16 = .ok (.land, 1) := by decide +kernel
theorem dX1_tripleOver_17 : decode cX1_tripleOver 17 = .ok (.lconst 0, 1) := by decide +kernel
theorem dX1_tripleOver_18 : decode cX1_tripleOver 18 = .ok (.lcmp, 1) := by decide +kernel
theorem dX1_tripleOver_19 : decode cX1_tripleOver 19 = .ok (.ifCond .eq 5, 3) := by decide +kernel
theorem dX1_tripleOver_22 : decode cX1_tripleOver 22 = .ok (.iload_n 3, 1) := by decide +kernel
theorem dX1_tripleOver_23 : decode cX1_tripleOver 23 = .ok (.ireturn, 1) := by decide +kernel
theorem dX1_tripleOver_24 : decode cX1_tripleOver 24 = .ok (.iinc 3 1, 3) := by decide +kernel
theorem dX1_tripleOver_27 : decode cX1_tripleOver 27 = .ok (.goto (-25), 3) := by decide +kernel
theorem dX1_tripleOver_30 : decode cX1_tripleOver 30 = .ok (.iconst (-1), 1) := by decide +kernel
theorem dX1_tripleOver_31 : decode cX1_tripleOver 31 = .ok (.ireturn, 1) := by decide +kernel
theorem dX1_layableTriples_0 : decode cX1_layableTriples 0 = .ok (.iconst 0, 1) := by decide +kernel
theorem dX1_layableTriples_1 : decode cX1_layableTriples 1 = .ok (.istore_n 1, 1) := by decide +kernel
theorem dX1_layableTriples_2 : decode cX1_layableTriples 2 = .ok (.iconst 0, 1) := by decide +kernel
theorem dX1_layableTriples_3 : decode cX1_layableTriples 3 = .ok (.istore_n 2, 1) := by decide +kernel
theorem dX1_layableTriples_4 : decode cX1_layableTriples 4 = .ok (.iload_n 2, 1) := by decide +kernel
theorem dX1_layableTriples_5 : decode cX1_layableTriples 5 = .ok (.aload_n 0, 1) := by decide +kernel
theorem dX1_layableTriples_6 : decode cX1_layableTriples 6 = .ok (.getfield 15, 3) := by decide +kernel
theorem dX1_layableTriples_9 : decode cX1_layableTriples 9 = .ok (.if_icmp .ge 59, 3) := by decide +kernel
theorem dX1_layableTriples_12 : decode cX1_layableTriples 12 = .ok (.iconst 0, 1) := by decide +kernel
theorem dX1_layableTriples_13 : decode cX1_layableTriples 13 = .ok (.istore_n 3, 1) := by decide +kernel
theorem dX1_layableTriples_14 : decode cX1_layableTriples 14 = .ok (.iload_n 3, 1) := by decide +kernel
theorem dX1_layableTriples_15 : decode cX1_layableTriples 15 = .ok (.aload_n 0, 1) := by decide +kernel
theorem dX1_layableTriples_16 : decode cX1_layableTriples 16 = .ok (.getfield 9, 3) := by decide +kernel
theorem dX1_layableTriples_19 : decode cX1_layableTriples 19 = .ok (.if_icmp .ge 43, 3) := by decide +kernel
theorem dX1_layableTriples_22 : decode cX1_layableTriples 22 = .ok (.iconst 0, 1) := by decide +kernel
theorem dX1_layableTriples_23 : decode cX1_layableTriples 23 = .ok (.istore 4, 2) := by decide +kernel
theorem dX1_layableTriples_25 : decode cX1_layableTriples 25 = .ok (.iload 4, 2) := by decide +kernel
theorem dX1_layableTriples_27 : decode cX1_layableTriples 27 = .ok (.iconst 4, 1) := by decide +kernel
theorem dX1_layableTriples_28 : decode cX1_layableTriples 28 = .ok (.if_icmp .ge 28, 3) := by decide +kernel
theorem dX1_layableTriples_31 : decode cX1_layableTriples 31 = .ok (.iload_n 1, 1) := by decide +kernel
theorem dX1_layableTriples_32 : decode cX1_layableTriples 32 = .ok (.aload_n 0, 1) := by decide +kernel
theorem dX1_layableTriples_33 : decode cX1_layableTriples 33 = .ok (.iload_n 3, 1) := by decide +kernel
theorem dX1_layableTriples_34 : decode cX1_layableTriples 34 = .ok (.iload_n 2, 1) := by decide +kernel
theorem dX1_layableTriples_35 : decode cX1_layableTriples 35 = .ok (.iload 4, 2) := by decide +kernel
theorem dX1_layableTriples_37 : decode cX1_layableTriples 37 = .ok (.invokevirtual 91, 3) := by decide +kernel
theorem dX1_layableTriples_40 : decode cX1_layableTriples 40 = .ok (.ifCond .ne 7, 3) := by decide +kernel
theorem dX1_layableTriples_43 : decode cX1_layableTriples 43 = .ok (.iconst 1, 1) := by decide +kernel
theorem dX1_layableTriples_44 : decode cX1_layableTriples 44 = .ok (.goto 4, 3) := by decide +kernel
theorem dX1_layableTriples_47 : decode cX1_layableTriples 47 = .ok (.iconst 0, 1) := by decide +kernel
theorem dX1_layableTriples_48 : decode cX1_layableTriples 48 = .ok (.iadd, 1) := by decide +kernel
theorem dX1_layableTriples_49 : decode cX1_layableTriples 49 = .ok (.istore_n 1, 1) := by decide +kernel
theorem dX1_layableTriples_50 : decode cX1_layableTriples 50 = .ok (.iinc 4 1, 3) := by decide +kernel
theorem dX1_layableTriples_53 : decode cX1_layableTriples 53 = .ok (.goto (-28), 3) := by decide +kernel
theorem dX1_layableTriples_56 : decode cX1_layableTriples 56 = .ok (.iinc 3 1, 3) := by decide +kernel
theorem dX1_layableTriples_59 : decode cX1_layableTriples 59 = .ok (.goto (-45), 3) := by decide +kernel
theorem dX1_layableTriples_62 : decode cX1_layableTriples 62 = .ok (.iinc 2 1, 3) := by decide +kernel
theorem dX1_layableTriples_65 : decode cX1_layableTriples 65 = .ok (.goto (-61), 3) := by decide +kernel
theorem dX1_layableTriples_68 : decode cX1_layableTriples 68 = .ok (.iload_n 1, 1) := by decide +kernel
theorem dX1_layableTriples_69 : decode cX1_layableTriples 69 = .ok (.ireturn, 1) := by decide +kernel
theorem dX1_coverX_0 : decode cX1_coverX 0 = .ok (.iload_n 0, 1) := by decide +kernel
theorem dX1_coverX_1 : decode cX1_coverX 1 = .ok (.bipush 8, 2) := by decide +kernel
theorem dX1_coverX_3 : decode cX1_coverX 3 = .ok (.irem, 1) := by decide +kernel
theorem dX1_coverX_4 : decode cX1_coverX 4 = .ok (.iload_n 1, 1) := by decide +kernel
theorem dX1_coverX_5 : decode cX1_coverX 5 = .ok (.iconst 2, 1) := by decide +kernel
theorem dX1_coverX_6 : decode cX1_coverX 6 = .ok (.irem, 1) := by decide +kernel
theorem dX1_coverX_7 : decode cX1_coverX 7 = .ok (.isub, 1) := by decide +kernel
theorem dX1_coverX_8 : decode cX1_coverX 8 = .ok (.ireturn, 1) := by decide +kernel
theorem dX1_coverY_0 : decode cX1_coverY 0 = .ok (.iload_n 0, 1) := by decide +kernel
theorem dX1_coverY_1 : decode cX1_coverY 1 = .ok (.bipush 8, 2) := by decide +kernel
theorem dX1_coverY_3 : decode cX1_coverY 3 = .ok (.idiv, 1) := by decide +kernel
theorem dX1_coverY_4 : decode cX1_coverY 4 = .ok (.iload_n 1, 1) := by decide +kernel
theorem dX1_coverY_5 : decode cX1_coverY 5 = .ok (.iconst 2, 1) := by decide +kernel
theorem dX1_coverY_6 : decode cX1_coverY 6 = .ok (.idiv, 1) := by decide +kernel
theorem dX1_coverY_7 : decode cX1_coverY 7 = .ok (.iconst 2, 1) := by decide +kernel
theorem dX1_coverY_8 : decode cX1_coverY 8 = .ok (.irem, 1) := by decide +kernel
theorem dX1_coverY_9 : decode cX1_coverY 9 = .ok (.isub, 1) := by decide +kernel
theorem dX1_coverY_10 : decode cX1_coverY 10 = .ok (.ireturn, 1) := by decide +kernel
theorem dX1_couldCover_0 : decode cX1_couldCover 0 = .ok (.iload_n 1, 1) := by decide +kernel
theorem dX1_couldCover_1 : decode cX1_couldCover 1 = .ok (.iload_n 2, 1) := by decide +kernel
theorem dX1_couldCover_2 : decode cX1_couldCover 2 = .ok (.invokestatic 94, 3) := by decide +kernel
theorem dX1_couldCover_5 : decode cX1_couldCover 5 = .ok (.istore_n 3, 1) := by decide +kernel
theorem dX1_couldCover_6 : decode cX1_couldCover 6 = .ok (.iload_n 1, 1) := by decide +kernel
theorem dX1_couldCover_7 : decode cX1_couldCover 7 = .ok (.iload_n 2, 1) := by decide +kernel
theorem dX1_couldCover_8 : decode cX1_couldCover 8 = .ok (.invokestatic 97, 3) := by decide +kernel
theorem dX1_couldCover_11 : decode cX1_couldCover 11 = .ok (.istore 4, 2) := by decide +kernel
theorem dX1_couldCover_13 : decode cX1_couldCover 13 = .ok (.iload_n 2, 1) := by decide +kernel
theorem dX1_couldCover_14 : decode cX1_couldCover 14 = .ok (.iconst 4, 1) := by decide +kernel
theorem dX1_couldCover_15 : decode cX1_couldCover 15 = .ok (.idiv, 1) := by decide +kernel
theorem dX1_couldCover_16 : decode cX1_couldCover 16 = .ok (.istore 5, 2) := by decide +kernel
theorem dX1_couldCover_18 : decode cX1_couldCover 18 = .ok (.aload_n 0, 1) := by decide +kernel
theorem dX1_couldCover_19 : decode cX1_couldCover 19 = .ok (.iload_n 3, 1) := by decide +kernel
theorem dX1_couldCover_20 : decode cX1_couldCover 20 = .ok (.iload 4, 2) := by decide +kernel
theorem dX1_couldCover_22 : decode cX1_couldCover 22 = .ok (.iload 5, 2) := by decide +kernel
theorem dX1_couldCover_24 : decode cX1_couldCover 24 = .ok (.invokevirtual 91, 3) := by decide +kernel
theorem dX1_couldCover_27 : decode cX1_couldCover 27 = .ok (.ifCond .ne 22, 3) := by decide +kernel
theorem dX1_couldCover_30 : decode cX1_couldCover 30 = .ok (.iload_n 3, 1) := by decide +kernel
theorem dX1_couldCover_31 : decode cX1_couldCover 31 = .ok (.iload 4, 2) := by decide +kernel
theorem dX1_couldCover_33 : decode cX1_couldCover 33 = .ok (.iload 5, 2) := by decide +kernel
theorem dX1_couldCover_35 : decode cX1_couldCover 35 = .ok (.invokestatic 66, 3) := by decide +kernel
theorem dX1_couldCover_38 : decode cX1_couldCover 38 = .ok (.iload_n 1, 1) := by decide +kernel
theorem dX1_couldCover_39 : decode cX1_couldCover 39 = .ok (.invokestatic 100, 3) := by decide +kernel
theorem dX1_couldCover_42 : decode cX1_couldCover 42 = .ok (.ifCond .eq 7, 3) := by decide +kernel
theorem dX1_couldCover_45 : decode cX1_couldCover 45 = .ok (.iconst 1, 1) := by decide +kernel
theorem dX1_couldCover_46 : decode cX1_couldCover 46 = .ok (.goto 4, 3) := by decide +kernel
theorem dX1_couldCover_49 : decode cX1_couldCover 49 = .ok (.iconst 0, 1) := by decide +kernel
theorem dX1_couldCover_50 : decode cX1_couldCover 50 = .ok (.ireturn, 1) := by decide +kernel
theorem dX1_coverCount_0 : decode cX1_coverCount 0 = .ok (.iconst 0, 1) := by decide +kernel
theorem dX1_coverCount_1 : decode cX1_coverCount 1 = .ok (.istore_n 2, 1) := by decide +kernel
theorem dX1_coverCount_2 : decode cX1_coverCount 2 = .ok (.iconst 0, 1) := by decide +kernel
theorem dX1_coverCount_3 : decode cX1_coverCount 3 = .ok (.istore_n 3, 1) := by decide +kernel
theorem dX1_coverCount_4 : decode cX1_coverCount 4 = .ok (.iload_n 3, 1) := by decide +kernel
theorem dX1_coverCount_5 : decode cX1_coverCount 5 = .ok (.bipush 16, 2) := by decide +kernel
theorem dX1_coverCount_7 : decode cX1_coverCount 7 = .ok (.if_icmp .ge 26, 3) := by decide +kernel
theorem dX1_coverCount_10 : decode cX1_coverCount 10 = .ok (.iload_n 2, 1) := by decide +kernel
theorem dX1_coverCount_11 : decode cX1_coverCount 11 = .ok (.aload_n 0, 1) := by decide +kernel
theorem dX1_coverCount_12 : decode cX1_coverCount 12 = .ok (.iload_n 1, 1) := by decide +kernel
theorem dX1_coverCount_13 : decode cX1_coverCount 13 = .ok (.iload_n 3, 1) := by decide +kernel
theorem dX1_coverCount_14 : decode cX1_coverCount 14 = .ok (.invokevirtual 104, 3) := by decide +kernel
theorem dX1_coverCount_17 : decode cX1_coverCount 17 = .ok (.ifCond .eq 7, 3) := by decide +kernel
theorem dX1_coverCount_20 : decode cX1_coverCount 20 = .ok (.iconst 1, 1) := by decide +kernel
theorem dX1_coverCount_21 : decode cX1_coverCount 21 = .ok (.goto 4, 3) := by decide +kernel
theorem dX1_coverCount_24 : decode cX1_coverCount 24 = .ok (.iconst 0, 1) := by decide +kernel
theorem dX1_coverCount_25 : decode cX1_coverCount 25 = .ok (.iadd, 1) := by decide +kernel
theorem dX1_coverCount_26 : decode cX1_coverCount 26 = .ok (.istore_n 2, 1) := by decide +kernel
theorem dX1_coverCount_27 : decode cX1_coverCount 27 = .ok (.iinc 3 1, 3) := by decide +kernel
theorem dX1_coverCount_30 : decode cX1_coverCount 30 = .ok (.goto (-26), 3) := by decide +kernel
theorem dX1_coverCount_33 : decode cX1_coverCount 33 = .ok (.iload_n 2, 1) := by decide +kernel
theorem dX1_coverCount_34 : decode cX1_coverCount 34 = .ok (.ireturn, 1) := by decide +kernel
theorem dX1_firstCover_0 : decode cX1_firstCover 0 = .ok (.iconst 0, 1) := by decide +kernel
theorem dX1_firstCover_1 : decode cX1_firstCover 1 = .ok (.istore_n 2, 1) := by decide +kernel
theorem dX1_firstCover_2 : decode cX1_firstCover 2 = .ok (.iload_n 2, 1) := by decide +kernel
theorem dX1_firstCover_3 : decode cX1_firstCover 3 = .ok (.bipush 16, 2) := by decide +kernel
theorem dX1_firstCover_5 : decode cX1_firstCover 5 = .ok (.if_icmp .ge 35, 3) := by decide +kernel
theorem dX1_firstCover_8 : decode cX1_firstCover 8 = .ok (.aload_n 0, 1) := by decide +kernel
theorem dX1_firstCover_9 : decode cX1_firstCover 9 = .ok (.iload_n 1, 1) := by decide +kernel
theorem dX1_firstCover_10 : decode cX1_firstCover 10 = .ok (.iload_n 2, 1) := by decide +kernel
theorem dX1_firstCover_11 : decode cX1_firstCover 11 = .ok (.invokevirtual 104, 3) := by decide +kernel
theorem dX1_firstCover_14 : decode cX1_firstCover 14 = .ok (.ifCond .eq 20, 3) := by decide +kernel
theorem dX1_firstCover_17 : decode cX1_firstCover 17 = .ok (.iload_n 1, 1) := by decide +kernel
theorem dX1_firstCover_18 : decode cX1_firstCover 18 = .ok (.iload_n 2, 1) := by decide +kernel
theorem dX1_firstCover_19 : decode cX1_firstCover 19 = .ok (.invokestatic 94, 3) := by decide +kernel
theorem dX1_firstCover_22 : decode cX1_firstCover 22 = .ok (.iload_n 1, 1) := by decide +kernel
theorem dX1_firstCover_23 : decode cX1_firstCover 23 = .ok (.iload_n 2, 1) := by decide +kernel
theorem dX1_firstCover_24 : decode cX1_firstCover 24 = .ok (.invokestatic 97, 3) := by decide +kernel
theorem dX1_firstCover_27 : decode cX1_firstCover 27 = .ok (.iload_n 2, 1) := by decide +kernel
theorem dX1_firstCover_28 : decode cX1_firstCover 28 = .ok (.iconst 4, 1) := by decide +kernel
theorem dX1_firstCover_29 : decode cX1_firstCover 29 = .ok (.idiv, 1) := by decide +kernel
theorem dX1_firstCover_30 : decode cX1_firstCover 30 = .ok (.invokestatic 70, 3) := by decide +kernel
theorem dX1_firstCover_33 : decode cX1_firstCover 33 = .ok (.ireturn, 1) := by decide +kernel
theorem dX1_firstCover_34 : decode cX1_firstCover 34 = .ok (.iinc 2 1, 3) := by decide +kernel
theorem dX1_firstCover_37 : decode cX1_firstCover 37 = .ok (.goto (-35), 3) := by decide +kernel
theorem dX1_firstCover_40 : decode cX1_firstCover 40 = .ok (.iconst (-1), 1) := by decide +kernel
theorem dX1_firstCover_41 : decode cX1_firstCover 41 = .ok (.ireturn, 1) := by decide +kernel
theorem dX1_firstFreeWith_0 : decode cX1_firstFreeWith 0 = .ok (.aload_n 0, 1) := by decide +kernel
theorem dX1_firstFreeWith_1 : decode cX1_firstFreeWith 1 = .ok (.invokevirtual 108, 3) := by decide +kernel
theorem dX1_firstFreeWith_4 : decode cX1_firstFreeWith 4 = .ok (.lstore_n 2, 1) := by decide +kernel
theorem dX1_firstFreeWith_5 : decode cX1_firstFreeWith 5 = .ok (.iconst 0, 1) := by decide +kernel
theorem dX1_firstFreeWith_6 : decode cX1_firstFreeWith 6 = .ok (.istore 4, 2) := by decide +kernel
theorem dX1_firstFreeWith_8 : decode cX1_firstFreeWith 8 = .ok (.iload 4, 2) := by decide +kernel
theorem dX1_firstFreeWith_10 : decode cX1_firstFreeWith 10 = .ok (.bipush 64, 2) := by decide +kernel
theorem dX1_firstFreeWith_12 : decode cX1_firstFreeWith 12 = .ok (.if_icmp .ge 31, 3) := by decide +kernel
theorem dX1_firstFreeWith_15 : decode cX1_firstFreeWith 15 = .ok (.lload_n 2, 1) := by decide +kernel
theorem dX1_firstFreeWith_16 : decode cX1_firstFreeWith 16 = .ok (.iload 4, 2) := by decide +kernel
theorem dX1_firstFreeWith_18 : decode cX1_firstFreeWith 18 = .ok (.invokestatic 100, 3) := by decide +kernel
theorem dX1_firstFreeWith_21 : decode cX1_firstFreeWith 21 = .ok (.ifCond .eq 16, 3) := by decide +kernel
theorem dX1_firstFreeWith_24 : decode cX1_firstFreeWith 24 = .ok (.aload_n 0, 1) := by decide +kernel
theorem dX1_firstFreeWith_25 : decode cX1_firstFreeWith 25 = .ok (.iload 4, 2) := by decide +kernel
theorem dX1_firstFreeWith_27 : decode cX1_firstFreeWith 27 = .ok (.invokevirtual 111, 3) := by decide +kernel
theorem dX1_firstFreeWith_30 : decode cX1_firstFreeWith 30 = .ok (.iload_n 1, 1) := by decide +kernel
theorem dX1_firstFreeWith_31 : decode cX1_firstFreeWith 31 = .ok (.if_icmp .ne 6, 3) := by decide +kernel
theorem dX1_firstFreeWith_34 : decode cX1_firstFreeWith 34 = .ok (.iload 4, 2) := by decide +kernel
theorem dX1_firstFreeWith_36 : decode cX1_firstFreeWith 36 = .ok (.ireturn, 1) := by decide +kernel
theorem dX1_firstFreeWith_37 : decode cX1_firstFreeWith 37 = .ok (.iinc 4 1, 3) := by decide +kernel
theorem dX1_firstFreeWith_40 : decode cX1_firstFreeWith 40 = .ok (.goto (-32), 3) := by decide +kernel
theorem dX1_firstFreeWith_43 : decode cX1_firstFreeWith 43 = .ok (.iconst (-1), 1) := by decide +kernel
theorem dX1_firstFreeWith_44 : decode cX1_firstFreeWith 44 = .ok (.ireturn, 1) := by decide +kernel
theorem dX1_hasFlipBlock_0 : decode cX1_hasFlipBlock 0 = .ok (.aload_n 0, 1) := by decide +kernel
theorem dX1_hasFlipBlock_1 : decode cX1_hasFlipBlock 1 = .ok (.iload_n 1, 1) := by decide +kernel
theorem dX1_hasFlipBlock_2 : decode cX1_hasFlipBlock 2 = .ok (.iload_n 2, 1) := by decide +kernel
theorem dX1_hasFlipBlock_3 : decode cX1_hasFlipBlock 3 = .ok (.iload_n 3, 1) := by decide +kernel
theorem dX1_hasFlipBlock_4 : decode cX1_hasFlipBlock 4 = .ok (.ifCond .eq 7, 3) := by decide +kernel
theorem dX1_hasFlipBlock_7 : decode cX1_hasFlipBlock 7 = .ok (.iconst 2, 1) := by decide +kernel
theorem dX1_hasFlipBlock_8 : decode cX1_hasFlipBlock 8 = .ok (.goto 4, 3) := by decide +kernel
theorem dX1_hasFlipBlock_11 : decode cX1_hasFlipBlock 11 = .ok (.iconst 3, 1) := by decide +kernel
theorem dX1_hasFlipBlock_12 : decode cX1_hasFlipBlock 12 = .ok (.iload_n 3, 1) := by decide +kernel
theorem dX1_hasFlipBlock_13 : decode cX1_hasFlipBlock 13 = .ok (.ifCond .eq 7, 3) := by decide +kernel
theorem dX1_hasFlipBlock_16 : decode cX1_hasFlipBlock 16 = .ok (.iconst 3, 1) := by decide +kernel
theorem dX1_hasFlipBlock_17 : decode cX1_hasFlipBlock 17 = .ok (.goto 4, 3) := by decide +kernel
theorem dX1_hasFlipBlock_20 : decode cX1_hasFlipBlock 20 = .ok (.iconst 2, 1) := by decide +kernel
theorem dX1_hasFlipBlock_21 : decode cX1_hasFlipBlock 21 = .ok (.invokevirtual 62, 3) := by decide +kernel
theorem dX1_hasFlipBlock_24 : decode cX1_hasFlipBlock 24 = .ok (.ireturn, 1) := by decide +kernel
theorem dX1_isFlippable_0 : decode cX1_isFlippable 0 = .ok (.aload_n 0, 1) := by decide +kernel
theorem dX1_isFlippable_1 : decode cX1_isFlippable 1 = .ok (.iload_n 1, 1) := by decide +kernel
theorem dX1_isFlippable_2 : decode cX1_isFlippable 2 = .ok (.iload_n 2, 1) := by decide +kernel
theorem dX1_isFlippable_3 : decode cX1_isFlippable 3 = .ok (.invokestatic 114, 3) := by decide +kernel
theorem dX1_isFlippable_6 : decode cX1_isFlippable 6 = .ok (.invokevirtual 118, 3) := by decide +kernel
theorem dX1_isFlippable_9 : decode cX1_isFlippable 9 = .ok (.istore 4, 2) := by decide +kernel
theorem dX1_isFlippable_11 : decode cX1_isFlippable 11 = .ok (.aload_n 0, 1) := by decide +kernel
theorem dX1_isFlippable_12 : decode cX1_isFlippable 12 = .ok (.iload_n 1, 1) := by decide +kernel
theorem dX1_isFlippable_13 : decode cX1_isFlippable 13 = .ok (.iload_n 2, 1) := by decide +kernel
theorem dX1_isFlippable_14 : decode cX1_isFlippable 14 = .ok (.iload_n 3, 1) := by decide +kernel
theorem dX1_isFlippable_15 : decode cX1_isFlippable 15 = .ok (.invokestatic 122, 3) := by decide +kernel
theorem dX1_isFlippable_18 : decode cX1_isFlippable 18 = .ok (.invokevirtual 118, 3) := by decide +kernel
theorem dX1_isFlippable_21 : decode cX1_isFlippable 21 = .ok (.istore 5, 2) := by decide +kernel
theorem dX1_isFlippable_23 : decode cX1_isFlippable 23 = .ok (.iload 4, 2) := by decide +kernel
theorem dX1_isFlippable_25 : decode cX1_isFlippable 25 = .ok (.iconst (-1), 1) := by decide +kernel
theorem dX1_isFlippable_26 : decode cX1_isFlippable 26 = .ok (.if_icmp .eq 9, 3) := by decide +kernel
theorem dX1_isFlippable_29 : decode cX1_isFlippable 29 = .ok (.iload 5, 2) := by decide +kernel
theorem dX1_isFlippable_31 : decode cX1_isFlippable 31 = .ok (.iconst (-1), 1) := by decide +kernel
theorem dX1_isFlippable_32 : decode cX1_isFlippable 32 = .ok (.if_icmp .ne 5, 3) := by decide +kernel
theorem dX1_isFlippable_35 : decode cX1_isFlippable 35 = .ok (.iconst 0, 1) := by decide +kernel
theorem dX1_isFlippable_36 : decode cX1_isFlippable 36 = .ok (.ireturn, 1) := by decide +kernel
theorem dX1_isFlippable_37 : decode cX1_isFlippable 37 = .ok (.iload_n 1, 1) := by decide +kernel
theorem dX1_isFlippable_38 : decode cX1_isFlippable 38 = .ok (.iload_n 2, 1) := by decide +kernel
theorem dX1_isFlippable_39 : decode cX1_isFlippable 39 = .ok (.iload_n 3, 1) := by decide +kernel
theorem dX1_isFlippable_40 : decode cX1_isFlippable 40 = .ok (.ifCond .eq 7, 3) := by decide +kernel
theorem dX1_isFlippable_43 : decode cX1_isFlippable 43 = .ok (.iconst 2, 1) := by decide +kernel
theorem dX1_isFlippable_44 : decode cX1_isFlippable 44 = .ok (.goto 4, 3) := by decide +kernel
theorem dX1_isFlippable_47 : decode cX1_isFlippable 47 = .ok (.iconst 3, 1) := by decide +kernel
theorem dX1_isFlippable_48 : decode cX1_isFlippable 48 = .ok (.iload_n 3, 1) := by decide +kernel
theorem dX1_isFlippable_49 : decode cX1_isFlippable 49 = .ok (.ifCond .eq 7, 3) := by decide +kernel
theorem dX1_isFlippable_52 : decode cX1_isFlippable 52 = .ok (.iconst 3, 1) := by decide +kernel
theorem dX1_isFlippable_53 : decode cX1_isFlippable 53 = .ok (.goto 4, 3) := by decide +kernel
theorem dX1_isFlippable_56 : decode cX1_isFlippable 56 = .ok (.iconst 2, 1) := by decide +kernel
theorem dX1_isFlippable_57 : decode cX1_isFlippable 57 = .ok (.invokestatic 48, 3) := by decide +kernel
theorem dX1_isFlippable_60 : decode cX1_isFlippable 60 = .ok (.lstore 6, 2) := by decide +kernel
theorem dX1_isFlippable_62 : decode cX1_isFlippable 62 = .ok (.aload_n 0, 1) := by decide +kernel
theorem dX1_isFlippable_63 : decode cX1_isFlippable 63 = .ok (.iload 4, 2) := by decide +kernel
theorem dX1_isFlippable_65 : decode cX1_isFlippable 65 = .ok (.invokevirtual 74, 3) := by decide +kernel
theorem dX1_isFlippable_68 : decode cX1_isFlippable 68 = .ok (.aload_n 0, 1) := by decide +kernel
theorem dX1_isFlippable_69 : decode cX1_isFlippable 69 = .ok (.iload 5, 2) := by decide +kernel
theorem dX1_isFlippable_71 : decode cX1_isFlippable 71 = .ok (.invokevirtual 74, 3) := by decide +kernel
theorem dX1_isFlippable_74 : decode cX1_isFlippable 74 = .ok (.lor, 1) := by decide +kernel
theorem dX1_isFlippable_75 : decode cX1_isFlippable 75 = .ok (.lload 6, 2) := by decide +kernel
theorem dX1_isFlippable_77 : decode cX1_isFlippable 77 = .ok (.lcmp, 1) := by decide +kernel
theorem dX1_isFlippable_78 : decode cX1_isFlippable 78 = .ok (.ifCond .ne 7, 3) := by decide +kernel
theorem dX1_isFlippable_81 : decode cX1_isFlippable 81 = .ok (.iconst 1, 1) := by decide +kernel
theorem dX1_isFlippable_82 : decode cX1_isFlippable 82 = .ok (.goto 4, 3) := by decide +kernel
theorem dX1_isFlippable_85 : decode cX1_isFlippable 85 = .ok (.iconst 0, 1) := by decide +kernel
theorem dX1_isFlippable_86 : decode cX1_isFlippable 86 = .ok (.ireturn, 1) := by decide +kernel
theorem dX1_lastFlipCell_0 : decode cX1_lastFlipCell 0 = .ok (.iload_n 2, 1) := by decide +kernel
theorem dX1_lastFlipCell_1 : decode cX1_lastFlipCell 1 = .ok (.ifCond .eq 15, 3) := by decide +kernel
theorem dX1_lastFlipCell_4 : decode cX1_lastFlipCell 4 = .ok (.iload_n 0, 1) := by decide +kernel
theorem dX1_lastFlipCell_5 : decode cX1_lastFlipCell 5 = .ok (.iconst 1, 1) := by decide +kernel
theorem dX1_lastFlipCell_6 : decode cX1_lastFlipCell 6 = .ok (.iadd, 1) := by decide +kernel
theorem dX1_lastFlipCell_7 : decode cX1_lastFlipCell 7 = .ok (.iload_n 1, 1) := by decide +kernel
theorem dX1_lastFlipCell_8 : decode cX1_lastFlipCell 8 = .ok (.iconst 2, 1) := by decide +kernel
theorem dX1_lastFlipCell_9 : decode cX1_lastFlipCell 9 = .ok (.iadd, 1) := by decide +kernel
theorem dX1_lastFlipCell_10 : decode cX1_lastFlipCell 10 = .ok (.invokestatic 114, 3) := by decide +kernel
theorem dX1_lastFlipCell_13 : decode cX1_lastFlipCell 13 = .ok (.goto 12, 3) := by decide +kernel
theorem dX1_lastFlipCell_16 : decode cX1_lastFlipCell 16 = .ok (.iload_n 0, 1) := by decide +kernel
theorem dX1_lastFlipCell_17 : decode cX1_lastFlipCell 17 = .ok (.iconst 2, 1) := by decide +kernel
theorem dX1_lastFlipCell_18 : decode cX1_lastFlipCell 18 = .ok (.iadd, 1) := by decide +kernel
theorem dX1_lastFlipCell_19 : decode cX1_lastFlipCell 19 = .ok (.iload_n 1, 1) := by decide +kernel
theorem dX1_lastFlipCell_20 : decode cX1_lastFlipCell 20 = .ok (.iconst 1, 1) := by decide +kernel
theorem dX1_lastFlipCell_21 : decode cX1_lastFlipCell 21 = .ok (.iadd, 1) := by decide +kernel
theorem dX1_lastFlipCell_22 : decode cX1_lastFlipCell 22 = .ok (.invokestatic 114, 3) := by decide +kernel
theorem dX1_lastFlipCell_25 : decode cX1_lastFlipCell 25 = .ok (.lreturn, 1) := by decide +kernel
theorem dX1_flipBlock_0 : decode cX1_flipBlock 0 = .ok (.aload_n 0, 1) := by decide +kernel
theorem dX1_flipBlock_1 : decode cX1_flipBlock 1 = .ok (.iload_n 1, 1) := by decide +kernel
theorem dX1_flipBlock_2 : decode cX1_flipBlock 2 = .ok (.iload_n 2, 1) := by decide +kernel
theorem dX1_flipBlock_3 : decode cX1_flipBlock 3 = .ok (.invokestatic 114, 3) := by decide +kernel
theorem dX1_flipBlock_6 : decode cX1_flipBlock 6 = .ok (.invokevirtual 118, 3) := by decide +kernel
theorem dX1_flipBlock_9 : decode cX1_flipBlock 9 = .ok (.istore 4, 2) := by decide +kernel
theorem dX1_flipBlock_11 : decode cX1_flipBlock 11 = .ok (.aload_n 0, 1) := by decide +kernel
theorem dX1_flipBlock_12 : decode cX1_flipBlock 12 = .ok (.iload_n 1, 1) := by decide +kernel
theorem dX1_flipBlock_13 : decode cX1_flipBlock 13 = .ok (.iload_n 2, 1) := by decide +kernel
theorem dX1_flipBlock_14 : decode cX1_flipBlock 14 = .ok (.iload_n 3, 1) := by decide +kernel
theorem dX1_flipBlock_15 : decode cX1_flipBlock 15 = .ok (.invokestatic 122, 3) := by decide +kernel
theorem dX1_flipBlock_18 : decode cX1_flipBlock 18 = .ok (.invokevirtual 118, 3) := by decide +kernel
theorem dX1_flipBlock_21 : decode cX1_flipBlock 21 = .ok (.istore 5, 2) := by decide +kernel
theorem dX1_flipBlock_23 : decode cX1_flipBlock 23 = .ok (.iload_n 3, 1) := by decide +kernel
theorem dX1_flipBlock_24 : decode cX1_flipBlock 24 = .ok (.ifCond .eq 7, 3) := by decide +kernel
theorem dX1_flipBlock_27 : decode cX1_flipBlock 27 = .ok (.iconst 5, 1) := by decide +kernel
theorem dX1_flipBlock_28 : decode cX1_flipBlock 28 = .ok (.goto 4, 3) := by decide +kernel
theorem dX1_flipBlock_31 : decode cX1_flipBlock 31 = .ok (.iconst 3, 1) := by decide +kernel
theorem dX1_flipBlock_32 : decode cX1_flipBlock 32 = .ok (.aload_n 0, 1) := by decide +kernel
theorem dX1_flipBlock_33 : decode cX1_flipBlock 33 = .ok (.iload 4, 2) := by decide +kernel
theorem dX1_flipBlock_35 : decode cX1_flipBlock 35 = .ok (.invokevirtual 78, 3) := by decide +kernel
theorem dX1_flipBlock_38 : decode cX1_flipBlock 38 = .ok (.invokestatic 88, 3) := by decide +kernel
theorem dX1_flipBlock_41 : decode cX1_flipBlock 41 = .ok (.isub, 1) := by decide +kernel
theorem dX1_flipBlock_42 : decode cX1_flipBlock 42 = .ok (.istore 6, 2) := by decide +kernel
theorem dX1_flipBlock_44 : decode cX1_flipBlock 44 = .ok (.aload_n 0, 1) := by decide +kernel
theorem dX1_flipBlock_45 : decode cX1_flipBlock 45 = .ok (.iload 4, 2) := by decide +kernel
theorem dX1_flipBlock_47 : decode cX1_flipBlock 47 = .ok (.iload 5, 2) := by decide +kernel
theorem dX1_flipBlock_49 : decode cX1_flipBlock 49 = .ok (.invokestatic 126, 3) := by decide +kernel
theorem dX1_flipBlock_52 : decode cX1_flipBlock 52 = .ok (.invokevirtual 131, 3) := by decide +kernel
theorem dX1_flipBlock_55 : decode cX1_flipBlock 55 = .ok (.aload_n 0, 1) := by decide +kernel
theorem dX1_flipBlock_56 : decode cX1_flipBlock 56 = .ok (.iload 4, 2) := by decide +kernel
theorem dX1_flipBlock_58 : decode cX1_flipBlock 58 = .ok (.iload 5, 2) := by decide +kernel
theorem dX1_flipBlock_60 : decode cX1_flipBlock 60 = .ok (.invokestatic 135, 3) := by decide +kernel
theorem dX1_flipBlock_63 : decode cX1_flipBlock 63 = .ok (.invokevirtual 131, 3) := by decide +kernel
theorem dX1_flipBlock_66 : decode cX1_flipBlock 66 = .ok (.aload_n 0, 1) := by decide +kernel
theorem dX1_flipBlock_67 : decode cX1_flipBlock 67 = .ok (.iload_n 1, 1) := by decide +kernel
theorem dX1_flipBlock_68 : decode cX1_flipBlock 68 = .ok (.iload_n 2, 1) := by decide +kernel
theorem dX1_flipBlock_69 : decode cX1_flipBlock 69 = .ok (.iload 6, 2) := by decide +kernel
theorem dX1_flipBlock_71 : decode cX1_flipBlock 71 = .ok (.invokevirtual 138, 3) := by decide +kernel
theorem dX1_flipBlock_74 : decode cX1_flipBlock 74 = .ok (.aload_n 0, 1) := by decide +kernel
theorem dX1_flipBlock_75 : decode cX1_flipBlock 75 = .ok (.iload_n 3, 1) := by decide +kernel
theorem dX1_flipBlock_76 : decode cX1_flipBlock 76 = .ok (.ifCond .eq 7, 3) := by decide +kernel
theorem dX1_flipBlock_79 : decode cX1_flipBlock 79 = .ok (.iload_n 1, 1) := by decide +kernel
theorem dX1_flipBlock_80 : decode cX1_flipBlock 80 = .ok (.goto 6, 3) := by decide +kernel
theorem dX1_flipBlock_83 : decode cX1_flipBlock 83 = .ok (.iload_n 1, 1) := by decide +kernel
theorem dX1_flipBlock_84 : decode cX1_flipBlock 84 = .ok (.iconst 1, 1) := by decide +kernel
theorem dX1_flipBlock_85 : decode cX1_flipBlock 85 = .ok (.iadd, 1) := by decide +kernel
theorem dX1_flipBlock_86 : decode cX1_flipBlock 86 = .ok (.iload_n 3, 1) := by decide +kernel
theorem dX1_flipBlock_87 : decode cX1_flipBlock 87 = .ok (.ifCond .eq 9, 3) := by decide +kernel
theorem dX1_flipBlock_90 : decode cX1_flipBlock 90 = .ok (.iload_n 2, 1) := by decide +kernel
theorem dX1_flipBlock_91 : decode cX1_flipBlock 91 = .ok (.iconst 1, 1) := by decide +kernel
theorem dX1_flipBlock_92 : decode cX1_flipBlock 92 = .ok (.iadd, 1) := by decide +kernel
theorem dX1_flipBlock_93 : decode cX1_flipBlock 93 = .ok (.goto 4, 3) := by decide +kernel
theorem dX1_flipBlock_96 : decode cX1_flipBlock 96 = .ok (.iload_n 2, 1) := by decide +kernel
theorem dX1_flipBlock_97 : decode cX1_flipBlock 97 = .ok (.iload 6, 2) := by decide +kernel
theorem dX1_flipBlock_99 : decode cX1_flipBlock 99 = .ok (.iconst 2, 1) := by decide +kernel
theorem dX1_flipBlock_100 : decode cX1_flipBlock 100 = .ok (.iadd, 1) := by decide +kernel
theorem dX1_flipBlock_101 : decode cX1_flipBlock 101 = .ok (.iconst 4, 1) := by decide +kernel
theorem dX1_flipBlock_102 : decode cX1_flipBlock 102 = .ok (.irem, 1) := by decide +kernel
theorem dX1_flipBlock_103 : decode cX1_flipBlock 103 = .ok (.invokevirtual 138, 3) := by decide +kernel
theorem dX1_flipBlock_106 : decode cX1_flipBlock 106 = .ok (.aload_n 0, 1) := by decide +kernel
theorem dX1_flipBlock_107 : decode cX1_flipBlock 107 = .ok (.dup, 1) := by decide +kernel
theorem dX1_flipBlock_108 : decode cX1_flipBlock 108 = .ok (.getfield 31, 3) := by decide +kernel
theorem dX1_flipBlock_111 : decode cX1_flipBlock 111 = .ok (.iconst 1, 1) := by decide +kernel
theorem dX1_flipBlock_112 : decode cX1_flipBlock 112 = .ok (.iadd, 1) := by decide +kernel
theorem dX1_flipBlock_113 : decode cX1_flipBlock 113 = .ok (.putfield 31, 3) := by decide +kernel
theorem dX1_flipBlock_116 : decode cX1_flipBlock 116 = .ok (.return_, 1) := by decide +kernel
theorem dX1_flippableBlocks_0 : decode cX1_flippableBlocks 0 = .ok (.iconst 0, 1) := by decide +kernel
theorem dX1_flippableBlocks_1 : decode cX1_flippableBlocks 1 = .ok (.istore_n 1, 1) := by decide +kernel
theorem dX1_flippableBlocks_2 : decode cX1_flippableBlocks 2 = .ok (.iconst 0, 1) := by decide +kernel
theorem dX1_flippableBlocks_3 : decode cX1_flippableBlocks 3 = .ok (.istore_n 2, 1) := by decide +kernel
theorem dX1_flippableBlocks_4 : decode cX1_flippableBlocks 4 = .ok (.iload_n 2, 1) := by decide +kernel
theorem dX1_flippableBlocks_5 : decode cX1_flippableBlocks 5 = .ok (.aload_n 0, 1) := by decide +kernel
theorem dX1_flippableBlocks_6 : decode cX1_flippableBlocks 6 = .ok (.getfield 15, 3) := by decide +kernel
theorem dX1_flippableBlocks_9 : decode cX1_flippableBlocks 9 = .ok (.if_icmp .ge 81, 3) := by decide +kernel
theorem dX1_flippableBlocks_12 : decode cX1_flippableBlocks 12 = .ok (.iconst 0, 1) := by decide +kernel
theorem dX1_flippableBlocks_13 : decode cX1_flippableBlocks 13 = .ok (.istore_n 3, 1) := by decide +kernel
theorem dX1_flippableBlocks_14 : decode cX1_flippableBlocks 14 = .ok (.iload_n 3, 1) := by decide +kernel
theorem dX1_flippableBlocks_15 : decode cX1_flippableBlocks 15 = .ok (.aload_n 0, 1) := by decide +kernel
theorem dX1_flippableBlocks_16 : decode cX1_flippableBlocks 16 = .ok (.getfield 9, 3) := by decide +kernel
theorem dX1_flippableBlocks_19 : decode cX1_flippableBlocks 19 = .ok (.if_icmp .ge 65, 3) := by decide +kernel
theorem dX1_flippableBlocks_22 : decode cX1_flippableBlocks 22 = .ok (.iload_n 1, 1) := by decide +kernel
theorem dX1_flippableBlocks_23 : decode cX1_flippableBlocks 23 = .ok (.aload_n 0, 1) := by decide +kernel
theorem dX1_flippableBlocks_24 : decode cX1_flippableBlocks 24 = .ok (.iload_n 3, 1) := by decide +kernel
theorem dX1_flippableBlocks_25 : decode cX1_flippableBlocks 25 = .ok (.iload_n 2, 1) := by decide +kernel
theorem dX1_flippableBlocks_26 : decode cX1_flippableBlocks 26 = .ok (.iconst 1, 1) := by decide +kernel
theorem dX1_flippableBlocks_27 : decode cX1_flippableBlocks 27 = .ok (.invokevirtual 142, 3) := by decide +kernel
theorem dX1_flippableBlocks_30 : decode cX1_flippableBlocks 30 = .ok (.ifCond .eq 17, 3) := by decide +kernel
theorem dX1_flippableBlocks_33 : decode cX1_flippableBlocks 33 = .ok (.aload_n 0, 1) := by decide +kernel
theorem dX1_flippableBlocks_34 : decode cX1_flippableBlocks 34 = .ok (.iload_n 3, 1) := by decide +kernel
theorem dX1_flippableBlocks_35 : decode cX1_flippableBlocks 35 = .ok (.iload_n 2, 1) := by decide +kernel
theorem dX1_flippableBlocks_36 : decode cX1_flippableBlocks 36 = .ok (.iconst 1, 1) := by decide +kernel
theorem dX1_flippableBlocks_37 : decode cX1_flippableBlocks 37 = .ok (.invokevirtual 146, 3) := by decide +kernel
theorem dX1_flippableBlocks_40 : decode cX1_flippableBlocks 40 = .ok (.ifCond .eq 7, 3) := by decide +kernel
theorem dX1_flippableBlocks_43 : decode cX1_flippableBlocks 43 = .ok (.iconst 1, 1) := by decide +kernel
theorem dX1_flippableBlocks_44 : decode cX1_flippableBlocks 44 = .ok (.goto 4, 3) := by decide +kernel
theorem dX1_flippableBlocks_47 : decode cX1_flippableBlocks 47 = .ok (.iconst 0, 1) := by decide +kernel
theorem dX1_flippableBlocks_48 : decode cX1_flippableBlocks 48 = .ok (.iadd, 1) := by decide +kernel
theorem dX1_flippableBlocks_49 : decode cX1_flippableBlocks 49 = .ok (.istore_n 1, 1) := by decide +kernel
theorem dX1_flippableBlocks_50 : decode cX1_flippableBlocks 50 = .ok (.iload_n 1, 1) := by decide +kernel
theorem dX1_flippableBlocks_51 : decode cX1_flippableBlocks 51 = .ok (.aload_n 0, 1) := by decide +kernel
theorem dX1_flippableBlocks_52 : decode cX1_flippableBlocks 52 = .ok (.iload_n 3, 1) := by decide +kernel
theorem dX1_flippableBlocks_53 : decode cX1_flippableBlocks 53 = .ok (.iload_n 2, 1) := by decide +kernel
theorem dX1_flippableBlocks_54 : decode cX1_flippableBlocks 54 = .ok (.iconst 0, 1) := by decide +kernel
theorem dX1_flippableBlocks_55 : decode cX1_flippableBlocks 55 = .ok (.invokevirtual 142, 3) := by decide +kernel
theorem dX1_flippableBlocks_58 : decode cX1_flippableBlocks 58 = .ok (.ifCond .eq 17, 3) := by decide +kernel
theorem dX1_flippableBlocks_61 : decode cX1_flippableBlocks 61 = .ok (.aload_n 0, 1) := by decide +kernel
theorem dX1_flippableBlocks_62 : decode cX1_flippableBlocks 62 = .ok (.iload_n 3, 1) := by decide +kernel
theorem dX1_flippableBlocks_63 : decode cX1_flippableBlocks 63 = .ok (.iload_n 2, 1) := by decide +kernel
theorem dX1_flippableBlocks_64 : decode cX1_flippableBlocks 64 = .ok (.iconst 0, 1) := by decide +kernel
theorem dX1_flippableBlocks_65 : decode cX1_flippableBlocks 65 = .ok (.invokevirtual 146, 3) := by decide +kernel
theorem dX1_flippableBlocks_68 : decode cX1_flippableBlocks 68 = .ok (.ifCond .eq 7, 3) := by decide +kernel
theorem dX1_flippableBlocks_71 : decode cX1_flippableBlocks 71 = .ok (.iconst 1, 1) := by decide +kernel
theorem dX1_flippableBlocks_72 : decode cX1_flippableBlocks 72 = .ok (.goto 4, 3) := by decide +kernel
theorem dX1_flippableBlocks_75 : decode cX1_flippableBlocks 75 = .ok (.iconst 0, 1) := by decide +kernel
theorem dX1_flippableBlocks_76 : decode cX1_flippableBlocks 76 = .ok (.iadd, 1) := by decide +kernel
theorem dX1_flippableBlocks_77 : decode cX1_flippableBlocks 77 = .ok (.istore_n 1, 1) := by decide +kernel
theorem dX1_flippableBlocks_78 : decode cX1_flippableBlocks 78 = .ok (.iinc 3 1, 3) := by decide +kernel
theorem dX1_flippableBlocks_81 : decode cX1_flippableBlocks 81 = .ok (.goto (-67), 3) := by decide +kernel
theorem dX1_flippableBlocks_84 : decode cX1_flippableBlocks 84 = .ok (.iinc 2 1, 3) := by decide +kernel
theorem dX1_flippableBlocks_87 : decode cX1_flippableBlocks 87 = .ok (.goto (-83), 3) := by decide +kernel
theorem dX1_flippableBlocks_90 : decode cX1_flippableBlocks 90 = .ok (.iload_n 1, 1) := by decide +kernel
theorem dX1_flippableBlocks_91 : decode cX1_flippableBlocks 91 = .ok (.ireturn, 1) := by decide +kernel
theorem dX1_isHalvable_0 : decode cX1_isHalvable 0 = .ok (.aload_n 0, 1) := by decide +kernel
theorem dX1_isHalvable_1 : decode cX1_isHalvable 1 = .ok (.getfield 9, 3) := by decide +kernel
theorem dX1_isHalvable_4 : decode cX1_isHalvable 4 = .ok (.iconst 2, 1) := by decide +kernel
theorem dX1_isHalvable_5 : decode cX1_isHalvable 5 = .ok (.if_icmp .eq 20, 3) := by decide +kernel
theorem dX1_isHalvable_8 : decode cX1_isHalvable 8 = .ok (.aload_n 0, 1) := by decide +kernel
theorem dX1_isHalvable_9 : decode cX1_isHalvable 9 = .ok (.getfield 9, 3) := by decide +kernel
theorem dX1_isHalvable_12 : decode cX1_isHalvable 12 = .ok (.iconst 4, 1) := by decide +kernel
theorem dX1_isHalvable_13 : decode cX1_isHalvable 13 = .ok (.if_icmp .eq 12, 3) := by decide +kernel
theorem dX1_isHalvable_16 : decode cX1_isHalvable 16 = .ok (.aload_n 0, 1) := by decide +kernel
theorem dX1_isHalvable_17 : decode cX1_isHalvable 17 = .ok (.getfield 9, 3) := by decide +kernel
theorem dX1_isHalvable_20 : decode cX1_isHalvable 20 = .ok (.bipush 8, 2) := by decide +kernel
theorem dX1_isHalvable_22 : decode cX1_isHalvable 22 = .ok (.if_icmp .ne 7, 3) := by decide +kernel
theorem dX1_isHalvable_25 : decode cX1_isHalvable 25 = .ok (.iconst 1, 1) := by decide +kernel
theorem dX1_isHalvable_26 : decode cX1_isHalvable 26 = .ok (.goto 4, 3) := by decide +kernel
theorem dX1_isHalvable_29 : decode cX1_isHalvable 29 = .ok (.iconst 0, 1) := by decide +kernel
theorem dX1_isHalvable_30 : decode cX1_isHalvable 30 = .ok (.istore_n 1, 1) := by decide +kernel
theorem dX1_isHalvable_31 : decode cX1_isHalvable 31 = .ok (.iload_n 1, 1) := by decide +kernel
theorem dX1_isHalvable_32 : decode cX1_isHalvable 32 = .ok (.ifCond .eq 34, 3) := by decide +kernel
theorem dX1_isHalvable_35 : decode cX1_isHalvable 35 = .ok (.aload_n 0, 1) := by decide +kernel
theorem dX1_isHalvable_36 : decode cX1_isHalvable 36 = .ok (.getfield 9, 3) := by decide +kernel
theorem dX1_isHalvable_39 : decode cX1_isHalvable 39 = .ok (.aload_n 0, 1) := by decide +kernel
theorem dX1_isHalvable_40 : decode cX1_isHalvable 40 = .ok (.getfield 15, 3) := by decide +kernel
theorem dX1_isHalvable_43 : decode cX1_isHalvable 43 = .ok (.if_icmp .ne 23, 3) := by decide +kernel
theorem dX1_isHalvable_46 : decode cX1_isHalvable 46 = .ok (.aload_n 0, 1) := by decide +kernel
theorem dX1_isHalvable_47 : decode cX1_isHalvable 47 = .ok (.getfield 21, 3) := by decide +kernel
theorem dX1_isHalvable_50 : decode cX1_isHalvable 50 = .ok (.lconst 0, 1) := by decide +kernel
theorem dX1_isHalvable_51 : decode cX1_isHalvable 51 = .ok (.lcmp, 1) := by decide +kernel
theorem dX1_isHalvable_52 : decode cX1_isHalvable 52 = .ok (.ifCond .ne 14, 3) := by decide +kernel
theorem dX1_isHalvable_55 : decode cX1_isHalvable 55 = .ok (.aload_n 0, 1) := by decide +kernel
theorem dX1_isHalvable_56 : decode cX1_isHalvable 56 = .ok (.getfield 28, 3) := by decide +kernel
theorem dX1_isHalvable_59 : decode cX1_isHalvable 59 = .ok (.ifCond .ne 7, 3) := by decide +kernel
theorem dX1_isHalvable_62 : decode cX1_isHalvable 62 = .ok (.iconst 1, 1) := by decide +kernel
theorem dX1_isHalvable_63 : decode cX1_isHalvable 63 = .ok (.goto 4, 3) := by decide +kernel
theorem dX1_isHalvable_66 : decode cX1_isHalvable 66 = .ok (.iconst 0, 1) := by decide +kernel
theorem dX1_isHalvable_67 : decode cX1_isHalvable 67 = .ok (.ireturn, 1) := by decide +kernel
theorem dX1_paveSquares_0 : decode cX1_paveSquares 0 = .ok (.aload_n 0, 1) := by decide +kernel
theorem dX1_paveSquares_1 : decode cX1_paveSquares 1 = .ok (.iconst 0, 1) := by decide +kernel
theorem dX1_paveSquares_2 : decode cX1_paveSquares 2 = .ok (.iconst 0, 1) := by decide +kernel
theorem dX1_paveSquares_3 : decode cX1_paveSquares 3 = .ok (.aload_n 0, 1) := by decide +kernel
theorem dX1_paveSquares_4 : decode cX1_paveSquares 4 = .ok (.getfield 9, 3) := by decide +kernel
theorem dX1_paveSquares_7 : decode cX1_paveSquares 7 = .ok (.aload_n 0, 1) := by decide +kernel
theorem dX1_paveSquares_8 : decode cX1_paveSquares 8 = .ok (.getfield 18, 3) := by decide +kernel
theorem dX1_paveSquares_11 : decode cX1_paveSquares 11 = .ok (.invokestatic 149, 3) := by decide +kernel
theorem dX1_paveSquares_14 : decode cX1_paveSquares 14 = .ok (.return_, 1) := by decide +kernel
theorem dX1_paveSquare_0 : decode cX1_paveSquare 0 = .ok (.iload_n 3, 1) := by decide +kernel
theorem dX1_paveSquare_1 : decode cX1_paveSquare 1 = .ok (.iconst 2, 1) := by decide +kernel
theorem dX1_paveSquare_2 : decode cX1_paveSquare 2 = .ok (.if_icmp .lt 9, 3) := by decide +kernel
theorem dX1_paveSquare_5 : decode cX1_paveSquare 5 = .ok (.iload_n 3, 1) := by decide +kernel
theorem dX1_paveSquare_6 : decode cX1_paveSquare 6 = .ok (.bipush 8, 2) := by decide +kernel
theorem dX1_paveSquare_8 : decode cX1_paveSquare 8 = .ok (.if_icmp .le 4, 3) := by decide +kernel
theorem dX1_paveSquare_11 : decode cX1_paveSquare 11 = .ok (.return_, 1) := by decide +kernel
theorem dX1_paveSquare_12 : decode cX1_paveSquare 12 = .ok (.iload_n 3, 1) := by decide +kernel
theorem dX1_paveSquare_13 : decode cX1_paveSquare 13 = .ok (.iconst 2, 1) := by decide +kernel
theorem dX1_paveSquare_14 : decode cX1_paveSquare 14 = .ok (.idiv, 1) := by decide +kernel
theorem dX1_paveSquare_15 : decode cX1_paveSquare 15 = .ok (.istore 5, 2) := by decide +kernel
theorem dX1_paveSquare_17 : decode cX1_paveSquare 17 = .ok (.iload 4, 2) := by decide +kernel
theorem dX1_paveSquare_19 : decode cX1_paveSquare 19 = .ok (.bipush 8, 2) := by decide +kernel
theorem dX1_paveSquare_21 : decode cX1_paveSquare 21 = .ok (.irem, 1) := by decide +kernel
theorem dX1_paveSquare_22 : decode cX1_paveSquare 22 = .ok (.iload_n 1, 1) := by decide +kernel
theorem dX1_paveSquare_23 : decode cX1_paveSquare 23 = .ok (.iload 5, 2) := by decide +kernel
theorem dX1_paveSquare_25 : decode cX1_paveSquare 25 = .ok (.iadd, 1) := by decide +kernel
theorem dX1_paveSquare_26 : decode cX1_paveSquare 26 = .ok (.if_icmp .lt 7, 3) := by decide +kernel
theorem dX1_paveSquare_29 : decode cX1_paveSquare 29 = .ok (.iconst 1, 1) := by decide +kernel
theorem dX1_paveSquare_30 : decode cX1_paveSquare 30 = .ok (.goto 4, 3) := by decide +kernel
theorem dX1_paveSquare_33 : decode cX1_paveSquare 33 = .ok (.iconst 0, 1) := by decide +kernel
theorem dX1_paveSquare_34 : decode cX1_paveSquare 34 = .ok (.istore 6, 2) := by decide +kernel
theorem dX1_paveSquare_36 : decode cX1_paveSquare 36 = .ok (.iload 4, 2) := by decide +kernel
theorem dX1_paveSquare_38 : decode cX1_paveSquare 38 = .ok (.bipush 8, 2) := by decide +kernel
theorem dX1_paveSquare_40 : decode cX1_paveSquare 40 = .ok (.idiv, 1) := by decide +kernel
theorem dX1_paveSquare_41 : decode cX1_paveSquare 41 = .ok (.iload_n 2, 1) := by decide +kernel
theorem dX1_paveSquare_42 : decode cX1_paveSquare 42 = .ok (.iload 5, 2) := by decide +kernel
theorem dX1_paveSquare_44 : decode cX1_paveSquare 44 = .ok (.iadd, 1) := by decide +kernel
theorem dX1_paveSquare_45 : decode cX1_paveSquare 45 = .ok (.if_icmp .lt 7, 3) := by decide +kernel
theorem dX1_paveSquare_48 : decode cX1_paveSquare 48 = .ok (.iconst 1, 1) := by decide +kernel
theorem dX1_paveSquare_49 : decode cX1_paveSquare 49 = .ok (.goto 4, 3) := by decide +kernel
theorem dX1_paveSquare_52 : decode cX1_paveSquare 52 = .ok (.iconst 0, 1) := by decide +kernel
theorem dX1_paveSquare_53 : decode cX1_paveSquare 53 = .ok (.istore 7, 2) := by decide +kernel
theorem dX1_paveSquare_55 : decode cX1_paveSquare 55 = .ok (.iload_n 1, 1) := by decide +kernel
theorem dX1_paveSquare_56 : decode cX1_paveSquare 56 = .ok (.iload 5, 2) := by decide +kernel
theorem dX1_paveSquare_58 : decode cX1_paveSquare 58 = .ok (.iadd, 1) := by decide +kernel
theorem dX1_paveSquare_59 : decode cX1_paveSquare 59 = .ok (.iconst 1, 1) := by decide +kernel
theorem dX1_paveSquare_60 : decode cX1_paveSquare 60 = .ok (.isub, 1) := by decide +kernel
theorem dX1_paveSquare_61 : decode cX1_paveSquare 61 = .ok (.istore 8, 2) := by decide +kernel
theorem dX1_paveSquare_63 : decode cX1_paveSquare 63 = .ok (.iload_n 2, 1) := by decide +kernel
theorem dX1_paveSquare_64 : decode cX1_paveSquare 64 = .ok (.iload 5, 2) := by decide +kernel
theorem dX1_paveSquare_66 : decode cX1_paveSquare 66 = .ok (.iadd, 1) := by decide +kernel
theorem dX1_paveSquare_67 : decode cX1_paveSquare 67 = .ok (.iconst 1, 1) := by decide +kernel
theorem dX1_paveSquare_68 : decode cX1_paveSquare 68 = .ok (.isub, 1) := by decide +kernel
theorem dX1_paveSquare_69 : decode cX1_paveSquare 69 = .ok (.istore 9, 2) := by decide +kernel
theorem dX1_paveSquare_71 : decode cX1_paveSquare 71 = .ok (.aload_n 0, 1) := by decide +kernel
theorem dX1_paveSquare_72 : decode cX1_paveSquare 72 = .ok (.iload 8, 2) := by decide +kernel
theorem dX1_paveSquare_74 : decode cX1_paveSquare 74 = .ok (.iload 9, 2) := by decide +kernel
theorem dX1_paveSquare_76 : decode cX1_paveSquare 76 = .ok (.iload 6, 2) := by decide +kernel
theorem dX1_paveSquare_78 : decode cX1_paveSquare 78 = .ok (.iload 7, 2) := by decide +kernel
theorem dX1_paveSquare_80 : decode cX1_paveSquare 80 = .ok (.invokestatic 153, 3) := by decide +kernel
theorem dX1_paveSquare_83 : decode cX1_paveSquare 83 = .ok (.invokevirtual 138, 3) := by decide +kernel
theorem dX1_paveSquare_86 : decode cX1_paveSquare 86 = .ok (.iconst 0, 1) := by decide +kernel
theorem dX1_paveSquare_87 : decode cX1_paveSquare 87 = .ok (.istore 10, 2) := by decide +kernel
theorem dX1_paveSquare_89 : decode cX1_paveSquare 89 = .ok (.iload 10, 2) := by decide +kernel
theorem dX1_paveSquare_91 : decode cX1_paveSquare 91 = .ok (.iconst 4, 1) := by decide +kernel
theorem dX1_paveSquare_92 : decode cX1_paveSquare 92 = .ok (.if_icmp .ge 107, 3) := by decide +kernel
theorem dX1_paveSquare_95 : decode cX1_paveSquare 95 = .ok (.iload 10, 2) := by decide +kernel
theorem dX1_paveSquare_97 : decode cX1_paveSquare 97 = .ok (.iconst 2, 1) := by decide +kernel
theorem dX1_paveSquare_98 : decode cX1_paveSquare 98 = .ok (.irem, 1) := by decide +kernel
theorem dX1_paveSquare_99 : decode cX1_paveSquare 99 = .ok (.istore 11, 2) := by decide +kernel
theorem dX1_paveSquare_101 : decode cX1_paveSquare 101 = .ok (.iload 10, 2) := by decide +kernel
theorem dX1_paveSquare_103 : decode cX1_paveSquare 103 = .ok (.iconst 2, 1) := by decide +kernel
theorem dX1_paveSquare_104 : decode cX1_paveSquare 104 = .ok (.idiv, 1) := by decide +kernel
theorem dX1_paveSquare_105 : decode cX1_paveSquare 105 = .ok (.istore 12, 2) := by decide +kernel
theorem dX1_paveSquare_107 : decode cX1_paveSquare 107 = .ok (.iload 6, 2) := by decide +kernel
theorem dX1_paveSquare_109 : decode cX1_paveSquare 109 = .ok (.iload 11, 2) := by decide +kernel
theorem dX1_paveSquare_111 : decode cX1_paveSquare 111 = .ok (.iconst 1, 1) := by decide +kernel
theorem dX1_paveSquare_112 : decode cX1_paveSquare 112 = .ok (.if_icmp .ne 7, 3) := by decide +kernel
theorem dX1_paveSquare_115 : decode cX1_paveSquare 115 = .ok (.iconst 1, 1) := by decide +kernel
theorem dX1_paveSquare_116 : decode cX1_paveSquare 116 = .ok (.goto 4, 3) := by decide +kernel
theorem dX1_paveSquare_119 : decode cX1_paveSquare 119 = .ok (.iconst 0, 1) := by decide +kernel
theorem dX1_paveSquare_120 : decode cX1_paveSquare 120 = .ok (.if_icmp .ne 23, 3) := by decide +kernel
theorem dX1_paveSquare_123 : decode cX1_paveSquare 123 = .ok (.iload 7, 2) := by decide +kernel
theorem dX1_paveSquare_125 : decode cX1_paveSquare 125 = .ok (.iload 12, 2) := by decide +kernel
theorem dX1_paveSquare_127 : decode cX1_paveSquare 127 = .ok (.iconst 1, 1) := by decide +kernel
theorem dX1_paveSquare_128 : decode cX1_paveSquare 128 = .ok (.if_icmp .ne 7, 3) := by decide +kernel
theorem dX1_paveSquare_131 : decode cX1_paveSquare 131 = .ok (.iconst 1, 1) := by decide +kernel
theorem dX1_paveSquare_132 : decode cX1_paveSquare 132 = .ok (.goto 4, 3) := by decide +kernel
theorem dX1_paveSquare_135 : decode cX1_paveSquare 135 = .ok (.iconst 0, 1) := by decide +kernel
theorem dX1_paveSquare_136 : decode cX1_paveSquare 136 = .ok (.if_icmp .ne 7, 3) := by decide +kernel
theorem dX1_paveSquare_139 : decode cX1_paveSquare 139 = .ok (.iconst 1, 1) := by decide +kernel
theorem dX1_paveSquare_140 : decode cX1_paveSquare 140 = .ok (.goto 4, 3) := by decide +kernel
theorem dX1_paveSquare_143 : decode cX1_paveSquare 143 = .ok (.iconst 0, 1) := by decide +kernel
theorem dX1_paveSquare_144 : decode cX1_paveSquare 144 = .ok (.istore 13, 2) := by decide +kernel
theorem dX1_paveSquare_146 : decode cX1_paveSquare 146 = .ok (.iload 13, 2) := by decide +kernel
theorem dX1_paveSquare_148 : decode cX1_paveSquare 148 = .ok (.ifCond .eq 8, 3) := by decide +kernel
theorem dX1_paveSquare_151 : decode cX1_paveSquare 151 = .ok (.iload 4, 2) := by decide +kernel
theorem dX1_paveSquare_153 : decode cX1_paveSquare 153 = .ok (.goto 16, 3) := by decide +kernel
theorem dX1_paveSquare_156 : decode cX1_paveSquare 156 = .ok (.iload 8, 2) := by decide +kernel
theorem dX1_paveSquare_158 : decode cX1_paveSquare 158 = .ok (.iload 11, 2) := by decide +kernel
theorem dX1_paveSquare_160 : decode cX1_paveSquare 160 = .ok (.iadd, 1) := by decide +kernel
theorem dX1_paveSquare_161 : decode cX1_paveSquare 161 = .ok (.iload 9, 2) := by decide +kernel
theorem dX1_paveSquare_163 : decode cX1_paveSquare 163 = .ok (.iload 12, 2) := by decide +kernel
theorem dX1_paveSquare_165 : decode cX1_paveSquare 165 = .ok (.iadd, 1) := by decide +kernel
theorem dX1_paveSquare_166 : decode cX1_paveSquare 166 = .ok (.invokestatic 58, 3) := by decide +kernel
theorem dX1_paveSquare_169 : decode cX1_paveSquare 169 = .ok (.istore 14, 2) := by decide +kernel
theorem dX1_paveSquare_171 : decode cX1_paveSquare 171 = .ok (.aload_n 0, 1) := by decide +kernel
theorem dX1_paveSquare_172 : decode cX1_paveSquare 172 = .ok (.iload_n 1, 1) := by decide +kernel
theorem dX1_paveSquare_173 : decode cX1_paveSquare 173 = .ok (.iload 5, 2) := by decide +kernel
theorem dX1_paveSquare_175 : decode cX1_paveSquare 175 = .ok (.iload 11, 2) := by decide +kernel
theorem dX1_paveSquare_177 : decode cX1_paveSquare 177 = .ok (.imul, 1) := by decide +kernel
theorem dX1_paveSquare_178 : decode cX1_paveSquare 178 = .ok (.iadd, 1) := by decide +kernel
theorem dX1_paveSquare_179 : decode cX1_paveSquare 179 = .ok (.iload_n 2, 1) := by decide +kernel
theorem dX1_paveSquare_180 : decode cX1_paveSquare 180 = .ok (.iload 5, 2) := by decide +kernel
theorem dX1_paveSquare_182 : decode cX1_paveSquare 182 = .ok (.iload 12, 2) := by decide +kernel
theorem dX1_paveSquare_184 : decode cX1_paveSquare 184 = .ok (.imul, 1) := by decide +kernel
theorem dX1_paveSquare_185 : decode cX1_paveSquare 185 = .ok (.iadd, 1) := by decide +kernel
theorem dX1_paveSquare_186 : decode cX1_paveSquare 186 = .ok (.iload 5, 2) := by decide +kernel
theorem dX1_paveSquare_188 : decode cX1_paveSquare 188 = .ok (.iload 14, 2) := by decide +kernel
theorem dX1_paveSquare_190 : decode cX1_paveSquare 190 = .ok (.invokestatic 149, 3) := by decide +kernel
theorem dX1_paveSquare_193 : decode cX1_paveSquare 193 = .ok (.iinc 10 1, 3) := by decide +kernel
theorem dX1_paveSquare_196 : decode cX1_paveSquare 196 = .ok (.goto (-107), 3) := by decide +kernel
theorem dX1_paveSquare_199 : decode cX1_paveSquare 199 = .ok (.return_, 1) := by decide +kernel
theorem dX1_quarterTurn_0 : decode cX1_quarterTurn 0 = .ok (.iload_n 1, 1) := by decide +kernel
theorem dX1_quarterTurn_1 : decode cX1_quarterTurn 1 = .ok (.ifCond .eq 13, 3) := by decide +kernel
theorem dX1_quarterTurn_4 : decode cX1_quarterTurn 4 = .ok (.iload_n 0, 1) := by decide +kernel
theorem dX1_quarterTurn_5 : decode cX1_quarterTurn 5 = .ok (.ifCond .eq 7, 3) := by decide +kernel
theorem dX1_quarterTurn_8 : decode cX1_quarterTurn 8 = .ok (.iconst 2, 1) := by decide +kernel
theorem dX1_quarterTurn_9 : decode cX1_quarterTurn 9 = .ok (.goto 4, 3) := by decide +kernel
theorem dX1_quarterTurn_12 : decode cX1_quarterTurn 12 = .ok (.iconst 3, 1) := by decide +kernel
theorem dX1_quarterTurn_13 : decode cX1_quarterTurn 13 = .ok (.ireturn, 1) := by decide +kernel
theorem dX1_quarterTurn_14 : decode cX1_quarterTurn 14 = .ok (.iload_n 0, 1) := by decide +kernel
theorem dX1_quarterTurn_15 : decode cX1_quarterTurn 15 = .ok (.ifCond .eq 7, 3) := by decide +kernel
theorem dX1_quarterTurn_18 : decode cX1_quarterTurn 18 = .ok (.iconst 1, 1) := by decide +kernel
theorem dX1_quarterTurn_19 : decode cX1_quarterTurn 19 = .ok (.goto 4, 3) := by decide +kernel
theorem dX1_quarterTurn_22 : decode cX1_quarterTurn 22 = .ok (.iconst 0, 1) := by decide +kernel
theorem dX1_quarterTurn_23 : decode cX1_quarterTurn 23 = .ok (.ireturn, 1) := by decide +kernel
theorem dX2_init_0 : decode cX2_init 0 = .ok (.aload_n 0, 1) := by decide +kernel
theorem dX2_init_1 : decode cX2_init 1 = .ok (.invokespecial 5, 3) := by decide +kernel
theorem dX2_init_4 : decode cX2_init 4 = .ok (.aload_n 0, 1) := by decide +kernel
theorem dX2_init_5 : decode cX2_init 5 = .ok (.bipush 65, 2) := by decide +kernel
theorem dX2_init_7 : decode cX2_init 7 = .ok (.sipush 512, 3) := by decide +kernel
theorem dX2_init_10 : decode cX2_init 10 = .ok (.multianewarray 11 2, 4) := by decide +kernel
theorem dX2_init_14 : decode cX2_init 14 = .ok (.putfield 13, 3) := by decide +kernel
theorem dX2_init_17 : decode cX2_init 17 = .ok (.aload_n 0, 1) := by decide +kernel
theorem dX2_init_18 : decode cX2_init 18 = .ok (.iconst 4, 1) := by decide +kernel
theorem dX2_init_19 : decode cX2_init 19 = .ok (.newarray .int, 2) := by decide +kernel
theorem dX2_init_21 : decode cX2_init 21 = .ok (.putfield 16, 3) := by decide +kernel
theorem dX2_init_24 : decode cX2_init 24 = .ok (.aload_n 0, 1) := by decide +kernel
theorem dX2_init_25 : decode cX2_init 25 = .ok (.new 20, 3) := by decide +kernel
theorem dX2_init_28 : decode cX2_init 28 = .ok (.dup, 1) := by decide +kernel
theorem dX2_init_29 : decode cX2_init 29 = .ok (.invokespecial 22, 3) := by decide +kernel
theorem dX2_init_32 : decode cX2_init 32 = .ok (.putfield 23, 3) := by decide +kernel
theorem dX2_init_35 : decode cX2_init 35 = .ok (.aload_n 0, 1) := by decide +kernel
theorem dX2_init_36 : decode cX2_init 36 = .ok (.new 20, 3) := by decide +kernel
theorem dX2_init_39 : decode cX2_init 39 = .ok (.dup, 1) := by decide +kernel
theorem dX2_init_40 : decode cX2_init 40 = .ok (.invokespecial 22, 3) := by decide +kernel
theorem dX2_init_43 : decode cX2_init 43 = .ok (.putfield 27, 3) := by decide +kernel
theorem dX2_init_46 : decode cX2_init 46 = .ok (.return_, 1) := by decide +kernel
theorem dX2_waysToPave_0 : decode cX2_waysToPave 0 = .ok (.lload_n 1, 1) := by decide +kernel
theorem dX2_waysToPave_1 : decode cX2_waysToPave 1 = .ok (.invokestatic 30, 3) := by decide +kernel
theorem dX2_waysToPave_4 : decode cX2_waysToPave 4 = .ok (.iconst 3, 1) := by decide +kernel
theorem dX2_waysToPave_5 : decode cX2_waysToPave 5 = .ok (.irem, 1) := by decide +kernel
theorem dX2_waysToPave_6 : decode cX2_waysToPave 6 = .ok (.ifCond .eq 5, 3) := by decide +kernel
theorem dX2_waysToPave_9 : decode cX2_waysToPave 9 = .ok (.iconst 0, 1) := by decide +kernel
theorem dX2_waysToPave_10 : decode cX2_waysToPave 10 = .ok (.ireturn, 1) := by decide +kernel
theorem dX2_waysToPave_11 : decode cX2_waysToPave 11 = .ok (.aload_n 0, 1) := by decide +kernel
theorem dX2_waysToPave_12 : decode cX2_waysToPave 12 = .ok (.invokevirtual 36, 3) := by decide +kernel
theorem dX2_waysToPave_15 : decode cX2_waysToPave 15 = .ok (.lload_n 1, 1) := by decide +kernel
theorem dX2_waysToPave_16 : decode cX2_waysToPave 16 = .ok (.invokestatic 39, 3) := by decide +kernel
theorem dX2_waysToPave_19 : decode cX2_waysToPave 19 = .ok (.istore_n 3, 1) := by decide +kernel
theorem dX2_waysToPave_20 : decode cX2_waysToPave 20 = .ok (.lload_n 1, 1) := by decide +kernel
theorem dX2_waysToPave_21 : decode cX2_waysToPave 21 = .ok (.invokestatic 42, 3) := by decide +kernel
theorem dX2_waysToPave_24 : decode cX2_waysToPave 24 = .ok (.istore 4, 2) := by decide +kernel
theorem dX2_waysToPave_26 : decode cX2_waysToPave 26 = .ok (.iload 4, 2) := by decide +kernel
theorem dX2_waysToPave_28 : decode cX2_waysToPave 28 = .ok (.iload_n 3, 1) := by decide +kernel
theorem dX2_waysToPave_29 : decode cX2_waysToPave 29 = .ok (.if_icmp .ge 16, 3) := by decide +kernel
theorem dX2_waysToPave_32 : decode cX2_waysToPave 32 = .ok (.aload_n 0, 1) := by decide +kernel
theorem dX2_waysToPave_33 : decode cX2_waysToPave 33 = .ok (.lload_n 1, 1) := by decide +kernel
theorem dX2_waysToPave_34 : decode cX2_waysToPave 34 = .ok (.iload 4, 2) := by decide +kernel
theorem dX2_waysToPave_36 : decode cX2_waysToPave 36 = .ok (.invokevirtual 45, 3) := by decide +kernel
theorem dX2_waysToPave_39 : decode cX2_waysToPave 39 = .ok (.iinc 4 1, 3) := by decide +kernel
theorem dX2_waysToPave_42 : decode cX2_waysToPave 42 = .ok (.goto (-16), 3) := by decide +kernel
theorem dX2_waysToPave_45 : decode cX2_waysToPave 45 = .ok (.aload_n 0, 1) := by decide +kernel
theorem dX2_waysToPave_46 : decode cX2_waysToPave 46 = .ok (.getfield 23, 3) := by decide +kernel
theorem dX2_waysToPave_49 : decode cX2_waysToPave 49 = .ok (.iconst 0, 1) := by decide +kernel
theorem dX2_waysToPave_50 : decode cX2_waysToPave 50 = .ok (.invokevirtual 49, 3) := by decide +kernel
theorem dX2_waysToPave_53 : decode cX2_waysToPave 53 = .ok (.ireturn, 1) := by decide +kernel
theorem dX2_endOf_0 : decode cX2_endOf 0 = .ok (.bipush 64, 2) := by decide +kernel
theorem dX2_endOf_2 : decode cX2_endOf 2 = .ok (.lload_n 0, 1) := by decide +kernel
theorem dX2_endOf_3 : decode cX2_endOf 3 = .ok (.invokestatic 53, 3) := by decide +kernel
theorem dX2_endOf_6 : decode cX2_endOf 6 = .ok (.isub, 1) := by decide +kernel
theorem dX2_endOf_7 : decode cX2_endOf 7 = .ok (.ireturn, 1) := by decide +kernel
theorem dX2_begin_0 : decode cX2_begin 0 = .ok (.aload_n 0, 1) := by decide +kernel
theorem dX2_begin_1 : decode cX2_begin 1 = .ok (.getfield 23, 3) := by decide +kernel
theorem dX2_begin_4 : decode cX2_begin 4 = .ok (.invokevirtual 56, 3) := by decide +kernel
theorem dX2_begin_7 : decode cX2_begin 7 = .ok (.aload_n 0, 1) := by decide +kernel
theorem dX2_begin_8 : decode cX2_begin 8 = .ok (.getfield 23, 3) := by decide +kernel
theorem dX2_begin_11 : decode cX2_begin 11 = .ok (.iconst 0, 1) := by decide +kernel
theorem dX2_begin_12 : decode cX2_begin 12 = .ok (.iconst 1, 1) := by decide +kernel
theorem dX2_begin_13 : decode cX2_begin 13 = .ok (.invokevirtual 59, 3) := by decide +kernel
theorem dX2_begin_16 : decode cX2_begin 16 = .ok (.return_, 1) := by decide +kernel
theorem dX2_goOn_0 : decode cX2_goOn 0 = .ok (.lload_n 1, 1) := by decide +kernel
theorem dX2_goOn_1 : decode cX2_goOn 1 = .ok (.iload_n 3, 1) := by decide +kernel
theorem dX2_goOn_2 : decode cX2_goOn 2 = .ok (.invokestatic 63, 3) := by decide +kernel
theorem dX2_goOn_5 : decode cX2_goOn 5 = .ok (.istore 4, 2) := by decide +kernel
theorem dX2_goOn_7 : decode cX2_goOn 7 = .ok (.iload 4, 2) := by decide +kernel
theorem dX2_goOn_9 : decode cX2_goOn 9 = .ok (.ifCond .eq 9, 3) := by decide +kernel
theorem dX2_goOn_12 : decode cX2_goOn 12 = .ok (.aload_n 0, 1) := by decide +kernel
theorem dX2_goOn_13 : decode cX2_goOn 13 = .ok (.lload_n 1, 1) := by decide +kernel
theorem dX2_goOn_14 : decode cX2_goOn 14 = .ok (.iload_n 3, 1) := by decide +kernel
theorem dX2_goOn_15 : decode cX2_goOn 15 = .ok (.invokevirtual 67, 3) := by decide +kernel
theorem dX2_goOn_18 : decode cX2_goOn 18 = .ok (.aload_n 0, 1) := by decide +kernel
theorem dX2_goOn_19 : decode cX2_goOn 19 = .ok (.getfield 27, 3) := by decide +kernel
theorem dX2_goOn_22 : decode cX2_goOn 22 = .ok (.invokevirtual 56, 3) := by decide +kernel
theorem dX2_goOn_25 : decode cX2_goOn 25 = .ok (.iconst 0, 1) := by decide +kernel
theorem dX2_goOn_26 : decode cX2_goOn 26 = .ok (.istore 5, 2) := by decide +kernel
theorem dX2_goOn_28 : decode cX2_goOn 28 = .ok (.iload 5, 2) := by decide +kernel
theorem dX2_goOn_30 : decode cX2_goOn 30 = .ok (.aload_n 0, 1) := by decide +kernel
theorem dX2_goOn_31 : decode cX2_goOn 31 = .ok (.getfield 23, 3) := by decide +kernel
theorem dX2_goOn_34 : decode cX2_goOn 34 = .ok (.getfield 70, 3) := by decide +kernel
theorem dX2_goOn_37 : decode cX2_goOn 37 = .ok (.if_icmp .ge 61, 3) := by decide +kernel
theorem dX2_goOn_40 : decode cX2_goOn 40 = .ok (.aload_n 0, 1) := by decide +kernel
theorem dX2_goOn_41 : decode cX2_goOn 41 = .ok (.getfield 23, 3) := by decide +kernel
theorem dX2_goOn_44 : decode cX2_goOn 44 = .ok (.iload 5, 2) := by decide +kernel
theorem dX2_goOn_46 : decode cX2_goOn 46 = .ok (.invokevirtual 74, 3) := by decide +kernel
theorem dX2_goOn_49 : decode cX2_goOn 49 = .ok (.istore 6, 2) := by decide +kernel
theorem dX2_goOn_51 : decode cX2_goOn 51 = .ok (.iload 4, 2) := by decide +kernel
theorem dX2_goOn_53 : decode cX2_goOn 53 = .ok (.ifCond .eq 19, 3) := by decide +kernel
theorem dX2_goOn_56 : decode cX2_goOn 56 = .ok (.iload 6, 2) := by decide +kernel
theorem dX2_goOn_58 : decode cX2_goOn 58 = .ok (.iconst 1, 1) := by decide +kernel
theorem dX2_goOn_59 : decode cX2_goOn 59 = .ok (.iand, 1) := by decide +kernel
theorem dX2_goOn_60 : decode cX2_goOn 60 = .ok (.ifCond .ne 12, 3) := by decide +kernel
theorem dX2_goOn_63 : decode cX2_goOn 63 = .ok (.aload_n 0, 1) := by decide +kernel
theorem dX2_goOn_64 : decode cX2_goOn 64 = .ok (.iload 6, 2) := by decide +kernel
theorem dX2_goOn_66 : decode cX2_goOn 66 = .ok (.invokevirtual 77, 3) := by decide +kernel
theorem dX2_goOn_69 : decode cX2_goOn 69 = .ok (.goto 23, 3) := by decide +kernel
theorem dX2_goOn_72 : decode cX2_goOn 72 = .ok (.aload_n 0, 1) := by decide +kernel
theorem dX2_goOn_73 : decode cX2_goOn 73 = .ok (.getfield 27, 3) := by decide +kernel
theorem dX2_goOn_76 : decode cX2_goOn 76 = .ok (.iload 6, 2) := by decide +kernel
theorem dX2_goOn_78 : decode cX2_goOn 78 = .ok (.iconst 1, 1) := by decide +kernel
theorem dX2_goOn_79 : decode cX2_goOn 79 = .ok (.ishr, 1) := by decide +kernel
theorem dX2_goOn_80 : decode cX2_goOn 80 = .ok (.aload_n 0, 1) := by decide +kernel
theorem dX2_goOn_81 : decode cX2_goOn 81 = .ok (.getfield 23, 3) := by decide +kernel
theorem dX2_goOn_84 : decode cX2_goOn 84 = .ok (.iload 6, 2) := by decide +kernel
theorem dX2_goOn_86 : decode cX2_goOn 86 = .ok (.invokevirtual 49, 3) := by decide +kernel
theorem dX2_goOn_89 : decode cX2_goOn 89 = .ok (.invokevirtual 59, 3) := by decide +kernel
theorem dX2_goOn_92 : decode cX2_goOn 92 = .ok (.iinc 5 1, 3) := by decide +kernel
theorem dX2_goOn_95 : decode cX2_goOn 95 = .ok (.goto (-67), 3) := by decide +kernel
theorem dX2_goOn_98 : decode cX2_goOn 98 = .ok (.aload_n 0, 1) := by decide +kernel
theorem dX2_goOn_99 : decode cX2_goOn 99 = .ok (.getfield 23, 3) := by decide +kernel
theorem dX2_goOn_102 : decode cX2_goOn 102 = .ok (.astore 5, 2) := by decide +kernel
theorem dX2_goOn_104 : decode cX2_goOn 104 = .ok (.aload_n 0, 1) := by decide +kernel
theorem dX2_goOn_105 : decode cX2_goOn 105 = .ok (.aload_n 0, 1) := by decide +kernel
theorem dX2_goOn_106 : decode cX2_goOn 106 = .ok (.getfield 27, 3) := by decide +kernel
theorem dX2_goOn_109 : decode cX2_goOn 109 = .ok (.putfield 23, 3) := by decide +kernel
theorem dX2_goOn_112 : decode cX2_goOn 112 = .ok (.aload_n 0, 1) := by decide +kernel
theorem dX2_goOn_113 : decode cX2_goOn 113 = .ok (.aload 5, 2) := by decide +kernel
theorem dX2_goOn_115 : decode cX2_goOn 115 = .ok (.putfield 27, 3) := by decide +kernel
theorem dX2_goOn_118 : decode cX2_goOn 118 = .ok (.return_, 1) := by decide +kernel
theorem dX2_goOnByTurns_0 : decode cX2_goOnByTurns 0 = .ok (.iconst 0, 1) := by decide +kernel
theorem dX2_goOnByTurns_1 : decode cX2_goOnByTurns 1 = .ok (.istore_n 2, 1) := by decide +kernel
theorem dX2_goOnByTurns_2 : decode cX2_goOnByTurns 2 = .ok (.iload_n 2, 1) := by decide +kernel
theorem dX2_goOnByTurns_3 : decode cX2_goOnByTurns 3 = .ok (.iconst 4, 1) := by decide +kernel
theorem dX2_goOnByTurns_4 : decode cX2_goOnByTurns 4 = .ok (.if_icmp .ge 39, 3) := by decide +kernel
theorem dX2_goOnByTurns_7 : decode cX2_goOnByTurns 7 = .ok (.aload_n 0, 1) := by decide +kernel
theorem dX2_goOnByTurns_8 : decode cX2_goOnByTurns 8 = .ok (.iload_n 2, 1) := by decide +kernel
theorem dX2_goOnByTurns_9 : decode cX2_goOnByTurns 9 = .ok (.iload_n 1, 1) := by decide +kernel
theorem dX2_goOnByTurns_10 : decode cX2_goOnByTurns 10 = .ok (.invokevirtual 81, 3) := by decide +kernel
theorem dX2_goOnByTurns_13 : decode cX2_goOnByTurns 13 = .ok (.ifCond .eq 24, 3) := by decide +kernel
theorem dX2_goOnByTurns_16 : decode cX2_goOnByTurns 16 = .ok (.aload_n 0, 1) := by decide +kernel
theorem dX2_goOnByTurns_17 : decode cX2_goOnByTurns 17 = .ok (.getfield 27, 3) := by decide +kernel
theorem dX2_goOnByTurns_20 : decode cX2_goOnByTurns 20 = .ok (.aload_n 0, 1) := by decide +kernel
theorem dX2_goOnByTurns_21 : decode cX2_goOnByTurns 21 = .ok (.iload_n 2, 1) := by decide +kernel
theorem dX2_goOnByTurns_22 : decode cX2_goOnByTurns 22 = .ok (.iload_n 1, 1) := by decide +kernel
theorem dX2_goOnByTurns_23 : decode cX2_goOnByTurns 23 = .ok (.invokevirtual 85, 3) := by decide +kernel
theorem dX2_goOnByTurns_26 : decode cX2_goOnByTurns 26 = .ok (.aload_n 0, 1) := by decide +kernel
theorem dX2_goOnByTurns_27 : decode cX2_goOnByTurns 27 = .ok (.getfield 23, 3) := by decide +kernel
theorem dX2_goOnByTurns_30 : decode cX2_goOnByTurns 30 = .ok (.iload_n 1, 1) := by decide +kernel
theorem dX2_goOnByTurns_31 : decode cX2_goOnByTurns 31 = .ok (.invokevirtual 49, 3) := by decide +kernel
theorem dX2_goOnByTurns_34 : decode cX2_goOnByTurns 34 = .ok (.invokevirtual 59, 3) := by decide +kernel
theorem dX2_goOnByTurns_37 : decode cX2_goOnByTurns 37 = .ok (.iinc 2 1, 3) := by decide +kernel
theorem dX2_goOnByTurns_40 : decode cX2_goOnByTurns 40 = .ok (.goto (-38), 3) := by decide +kernel
theorem dX2_goOnByTurns_43 : decode cX2_goOnByTurns 43 = .ok (.return_, 1) := by decide +kernel
theorem dX2_findTakes_0 : decode cX2_findTakes 0 = .ok (.iconst 0, 1) := by decide +kernel
theorem dX2_findTakes_1 : decode cX2_findTakes 1 = .ok (.istore 4, 2) := by decide +kernel
theorem dX2_findTakes_3 : decode cX2_findTakes 3 = .ok (.iload 4, 2) := by decide +kernel
theorem dX2_findTakes_5 : decode cX2_findTakes 5 = .ok (.iconst 4, 1) := by decide +kernel
theorem dX2_findTakes_6 : decode cX2_findTakes 6 = .ok (.if_icmp .ge 67, 3) := by decide +kernel
theorem dX2_findTakes_9 : decode cX2_findTakes 9 = .ok (.iload_n 3, 1) := by decide +kernel
theorem dX2_findTakes_10 : decode cX2_findTakes 10 = .ok (.iload 4, 2) := by decide +kernel
theorem dX2_findTakes_12 : decode cX2_findTakes 12 = .ok (.invokestatic 89, 3) := by decide +kernel
theorem dX2_findTakes_15 : decode cX2_findTakes 15 = .ok (.iload_n 3, 1) := by decide +kernel
theorem dX2_findTakes_16 : decode cX2_findTakes 16 = .ok (.bipush 8, 2) := by decide +kernel
theorem dX2_findTakes_18 : decode cX2_findTakes 18 = .ok (.idiv, 1) := by decide +kernel
theorem dX2_findTakes_19 : decode cX2_findTakes 19 = .ok (.iload 4, 2) := by decide +kernel
theorem dX2_findTakes_21 : decode cX2_findTakes 21 = .ok (.invokestatic 92, 3) := by decide +kernel
theorem dX2_findTakes_24 : decode cX2_findTakes 24 = .ok (.lstore 5, 2) := by decide +kernel
theorem dX2_findTakes_26 : decode cX2_findTakes 26 = .ok (.lload 5, 2) := by decide +kernel
theorem dX2_findTakes_28 : decode cX2_findTakes 28 = .ok (.lload_n 1, 1) := by decide +kernel
theorem dX2_findTakes_29 : decode cX2_findTakes 29 = .ok (.ldc2_w 96, 3) := by decide +kernel
theorem dX2_findTakes_32 : decode cX2_findTakes 32 = .ok (.lxor, 1) := by decide +kernel
theorem dX2_findTakes_33 : decode cX2_findTakes 33 = .ok (.land, 1) := by decide +kernel
theorem dX2_findTakes_34 : decode cX2_findTakes 34 = .ok (.lconst 0, 1) := by decide +kernel
theorem dX2_findTakes_35 : decode cX2_findTakes 35 = .ok (.lcmp, 1) := by decide +kernel
theorem dX2_findTakes_36 : decode cX2_findTakes 36 = .ok (.ifCond .ne 7, 3) := by decide +kernel
theorem dX2_findTakes_39 : decode cX2_findTakes 39 = .ok (.iconst 1, 1) := by decide +kernel
theorem dX2_findTakes_40 : decode cX2_findTakes 40 = .ok (.goto 4, 3) := by decide +kernel
theorem dX2_findTakes_43 : decode cX2_findTakes 43 = .ok (.iconst 0, 1) := by decide +kernel
theorem dX2_findTakes_44 : decode cX2_findTakes 44 = .ok (.istore 7, 2) := by decide +kernel
theorem dX2_findTakes_46 : decode cX2_findTakes 46 = .ok (.aload_n 0, 1) := by decide +kernel
theorem dX2_findTakes_47 : decode cX2_findTakes 47 = .ok (.getfield 16, 3) := by decide +kernel
theorem dX2_findTakes_50 : decode cX2_findTakes 50 = .ok (.iload 4, 2) := by decide +kernel
theorem dX2_findTakes_52 : decode cX2_findTakes 52 = .ok (.iload 7, 2) := by decide +kernel
theorem dX2_findTakes_54 : decode cX2_findTakes 54 = .ok (.ifCond .eq 11, 3) := by decide +kernel
theorem dX2_findTakes_57 : decode cX2_findTakes 57 = .ok (.lload 5, 2) := by decide +kernel
theorem dX2_findTakes_59 : decode cX2_findTakes 59 = .ok (.iload_n 3, 1) := by decide +kernel
theorem dX2_findTakes_60 : decode cX2_findTakes 60 = .ok (.lushr, 1) := by decide +kernel
theorem dX2_findTakes_61 : decode cX2_findTakes 61 = .ok (.l2i, 1) := by decide +kernel
theorem dX2_findTakes_62 : decode cX2_findTakes 62 = .ok (.goto 4, 3) := by decide +kernel
theorem dX2_findTakes_65 : decode cX2_findTakes 65 = .ok (.iconst 0, 1) := by decide +kernel
theorem dX2_findTakes_66 : decode cX2_findTakes 66 = .ok (.iastore, 1) := by decide +kernel
theorem dX2_findTakes_67 : decode cX2_findTakes 67 = .ok (.iinc 4 1, 3) := by decide +kernel
theorem dX2_findTakes_70 : decode cX2_findTakes 70 = .ok (.goto (-67), 3) := by decide +kernel
theorem dX2_findTakes_73 : decode cX2_findTakes 73 = .ok (.return_, 1) := by decide +kernel
theorem dX2_blockColumn_0 : decode cX2_blockColumn 0 = .ok (.iload_n 1, 1) := by decide +kernel
theorem dX2_blockColumn_1 : decode cX2_blockColumn 1 = .ok (.ifCond .ne 12, 3) := by decide +kernel
theorem dX2_blockColumn_4 : decode cX2_blockColumn 4 = .ok (.iload_n 0, 1) := by decide +kernel
theorem dX2_blockColumn_5 : decode cX2_blockColumn 5 = .ok (.bipush 8, 2) := by decide +kernel
theorem dX2_blockColumn_7 : decode cX2_blockColumn 7 = .ok (.irem, 1) := by decide +kernel
theorem dX2_blockColumn_8 : decode cX2_blockColumn 8 = .ok (.iconst 1, 1) := by decide +kernel
theorem dX2_blockColumn_9 : decode cX2_blockColumn 9 = .ok (.isub, 1) := by decide +kernel
theorem dX2_blockColumn_10 : decode cX2_blockColumn 10 = .ok (.goto 7, 3) := by decide +kernel
theorem dX2_blockColumn_13 : decode cX2_blockColumn 13 = .ok (.iload_n 0, 1) := by decide +kernel
theorem dX2_blockColumn_14 : decode cX2_blockColumn 14 = .ok (.bipush 8, 2) := by decide +kernel
theorem dX2_blockColumn_16 : decode cX2_blockColumn 16 = .ok (.irem, 1) := by decide +kernel
theorem dX2_blockColumn_17 : decode cX2_blockColumn 17 = .ok (.ireturn, 1) := by decide +kernel
theorem dX2_isOpen_0 : decode cX2_isOpen 0 = .ok (.aload_n 0, 1) := by decide +kernel
theorem dX2_isOpen_1 : decode cX2_isOpen 1 = .ok (.getfield 16, 3) := by decide +kernel
theorem dX2_isOpen_4 : decode cX2_isOpen 4 = .ok (.iload_n 1, 1) := by decide +kernel
theorem dX2_isOpen_5 : decode cX2_isOpen 5 = .ok (.iaload, 1) := by decide +kernel
theorem dX2_isOpen_6 : decode cX2_isOpen 6 = .ok (.ifCond .eq 18, 3) := by decide +kernel
theorem dX2_isOpen_9 : decode cX2_isOpen 9 = .ok (.aload_n 0, 1) := by decide +kernel
theorem dX2_isOpen_10 : decode cX2_isOpen 10 = .ok (.getfield 16, 3) := by decide +kernel
theorem dX2_isOpen_13 : decode cX2_isOpen 13 = .ok (.iload_n 1, 1) := by decide +kernel
theorem dX2_isOpen_14 : decode cX2_isOpen 14 = .ok (.iaload, 1) := by decide +kernel
theorem dX2_isOpen_15 : decode cX2_isOpen 15 = .ok (.iload_n 2, 1) := by decide +kernel
theorem dX2_isOpen_16 : decode cX2_isOpen 16 = .ok (.iand, 1) := by decide +kernel
theorem dX2_isOpen_17 : decode cX2_isOpen 17 = .ok (.ifCond .ne 7, 3) := by decide +kernel
theorem dX2_isOpen_20 : decode cX2_isOpen 20 = .ok (.iconst 1, 1) := by decide +kernel
theorem dX2_isOpen_21 : decode cX2_isOpen 21 = .ok (.goto 4, 3) := by decide +kernel
theorem dX2_isOpen_24 : decode cX2_isOpen 24 = .ok (.iconst 0, 1) := by decide +kernel
theorem dX2_isOpen_25 : decode cX2_isOpen 25 = .ok (.ireturn, 1) := by decide +kernel
theorem dX2_windowAfter_0 : decode cX2_windowAfter 0 = .ok (.aload_n 0, 1) := by decide +kernel
theorem dX2_windowAfter_1 : decode cX2_windowAfter 1 = .ok (.getfield 16, 3) := by decide +kernel
theorem dX2_windowAfter_4 : decode cX2_windowAfter 4 = .ok (.iload_n 1, 1) := by decide +kernel
theorem dX2_windowAfter_5 : decode cX2_windowAfter 5 = .ok (.iaload, 1) := by decide +kernel
theorem dX2_windowAfter_6 : decode cX2_windowAfter 6 = .ok (.iload_n 2, 1) := by decide +kernel
theorem dX2_windowAfter_7 : decode cX2_windowAfter 7 = .ok (.ior, 1) := by decide +kernel
theorem dX2_windowAfter_8 : decode cX2_windowAfter 8 = .ok (.iconst 1, 1) := by decide +kernel
theorem dX2_windowAfter_9 : decode cX2_windowAfter 9 = .ok (.ishr, 1) := by decide +kernel
theorem dX2_windowAfter_10 : decode cX2_windowAfter 10 = .ok (.sipush 511, 3) := by decide +kernel
theorem dX2_windowAfter_13 : decode cX2_windowAfter 13 = .ok (.iand, 1) := by decide +kernel
theorem dX2_windowAfter_14 : decode cX2_windowAfter 14 = .ok (.ireturn, 1) := by decide +kernel
theorem dX2_countRest_0 : decode cX2_countRest 0 = .ok (.lload_n 1, 1) := by decide +kernel
theorem dX2_countRest_1 : decode cX2_countRest 1 = .ok (.invokestatic 39, 3) := by decide +kernel
theorem dX2_countRest_4 : decode cX2_countRest 4 = .ok (.istore_n 3, 1) := by decide +kernel
theorem dX2_countRest_5 : decode cX2_countRest 5 = .ok (.aload_n 0, 1) := by decide +kernel
theorem dX2_countRest_6 : decode cX2_countRest 6 = .ok (.iload_n 3, 1) := by decide +kernel
theorem dX2_countRest_7 : decode cX2_countRest 7 = .ok (.invokevirtual 98, 3) := by decide +kernel
theorem dX2_countRest_10 : decode cX2_countRest 10 = .ok (.astore 4, 2) := by decide +kernel
theorem dX2_countRest_12 : decode cX2_countRest 12 = .ok (.aload 4, 2) := by decide +kernel
theorem dX2_countRest_14 : decode cX2_countRest 14 = .ok (.iconst 0, 1) := by decide +kernel
theorem dX2_countRest_15 : decode cX2_countRest 15 = .ok (.invokestatic 102, 3) := by decide +kernel
theorem dX2_countRest_18 : decode cX2_countRest 18 = .ok (.aload 4, 2) := by decide +kernel
theorem dX2_countRest_20 : decode cX2_countRest 20 = .ok (.iconst 0, 1) := by decide +kernel
theorem dX2_countRest_21 : decode cX2_countRest 21 = .ok (.iconst 1, 1) := by decide +kernel
theorem dX2_countRest_22 : decode cX2_countRest 22 = .ok (.iastore, 1) := by decide +kernel
theorem dX2_countRest_23 : decode cX2_countRest 23 = .ok (.iload_n 3, 1) := by decide +kernel
theorem dX2_countRest_24 : decode cX2_countRest 24 = .ok (.iconst 1, 1) := by decide +kernel
theorem dX2_countRest_25 : decode cX2_countRest 25 = .ok (.isub, 1) := by decide +kernel
theorem dX2_countRest_26 : decode cX2_countRest 26 = .ok (.istore 5, 2) := by decide +kernel
theorem dX2_countRest_28 : decode cX2_countRest 28 = .ok (.iload 5, 2) := by decide +kernel
theorem dX2_countRest_30 : decode cX2_countRest 30 = .ok (.ifCond .lt 40, 3) := by decide +kernel
theorem dX2_countRest_33 : decode cX2_countRest 33 = .ok (.aload_n 0, 1) := by decide +kernel
theorem dX2_countRest_34 : decode cX2_countRest 34 = .ok (.lload_n 1, 1) := by decide +kernel
theorem dX2_countRest_35 : decode cX2_countRest 35 = .ok (.iload 5, 2) := by decide +kernel
theorem dX2_countRest_37 : decode cX2_countRest 37 = .ok (.invokevirtual 67, 3) := by decide +kernel
theorem dX2_countRest_40 : decode cX2_countRest 40 = .ok (.aload_n 0, 1) := by decide +kernel
theorem dX2_countRest_41 : decode cX2_countRest 41 = .ok (.lload_n 1, 1) := by decide +kernel
theorem dX2_countRest_42 : decode cX2_countRest 42 = .ok (.iload 5, 2) := by decide +kernel
theorem dX2_countRest_44 : decode cX2_countRest 44 = .ok (.invokestatic 63, 3) := by decide +kernel
theorem dX2_countRest_47 : decode cX2_countRest 47 = .ok (.aload_n 0, 1) := by decide +kernel
theorem dX2_countRest_48 : decode cX2_countRest 48 = .ok (.iload 5, 2) := by decide +kernel
theorem dX2_countRest_50 : decode cX2_countRest 50 = .ok (.invokevirtual 98, 3) := by decide +kernel
theorem dX2_countRest_53 : decode cX2_countRest 53 = .ok (.aload_n 0, 1) := by decide +kernel
theorem dX2_countRest_54 : decode cX2_countRest 54 = .ok (.iload 5, 2) := by decide +kernel
theorem dX2_countRest_56 : decode cX2_countRest 56 = .ok (.iconst 1, 1) := by decide +kernel
theorem dX2_countRest_57 : decode cX2_countRest 57 = .ok (.iadd, 1) := by decide +kernel
theorem dX2_countRest_58 : decode cX2_countRest 58 = .ok (.invokevirtual 98, 3) := by decide +kernel
theorem dX2_countRest_61 : decode cX2_countRest 61 = .ok (.invokevirtual 108, 3) := by decide +kernel
theorem dX2_countRest_64 : decode cX2_countRest 64 = .ok (.iinc 5 (-1), 3) := by decide +kernel
theorem dX2_countRest_67 : decode cX2_countRest 67 = .ok (.goto (-39), 3) := by decide +kernel
theorem dX2_countRest_70 : decode cX2_countRest 70 = .ok (.return_, 1) := by decide +kernel
theorem dX2_restOf_0 : decode cX2_restOf 0 = .ok (.aload_n 0, 1) := by decide +kernel
theorem dX2_restOf_1 : decode cX2_restOf 1 = .ok (.getfield 13, 3) := by decide +kernel
theorem dX2_restOf_4 : decode cX2_restOf 4 = .ok (.iconst 0, 1) := by decide +kernel
theorem dX2_restOf_5 : decode cX2_restOf 5 = .ok (.iload_n 1, 1) := by decide +kernel
theorem dX2_restOf_6 : decode cX2_restOf 6 = .ok (.bipush 64, 2) := by decide +kernel
theorem dX2_restOf_8 : decode cX2_restOf 8 = .ok (.invokestatic 112, 3) := by decide +kernel
theorem dX2_restOf_11 : decode cX2_restOf 11 = .ok (.invokestatic 117, 3) := by decide +kernel
theorem dX2_restOf_14 : decode cX2_restOf 14 = .ok (.aaload, 1) := by decide +kernel
theorem dX2_restOf_15 : decode cX2_restOf 15 = .ok (.areturn, 1) := by decide +kernel
theorem dX2_countPlace_0 : decode cX2_countPlace 0 = .ok (.iconst 0, 1) := by decide +kernel
theorem dX2_countPlace_1 : decode cX2_countPlace 1 = .ok (.istore 4, 2) := by decide +kernel
theorem dX2_countPlace_3 : decode cX2_countPlace 3 = .ok (.iload 4, 2) := by decide +kernel
theorem dX2_countPlace_5 : decode cX2_countPlace 5 = .ok (.sipush 512, 3) := by decide +kernel
theorem dX2_countPlace_8 : decode cX2_countPlace 8 = .ok (.if_icmp .ge 44, 3) := by decide +kernel
theorem dX2_countPlace_11 : decode cX2_countPlace 11 = .ok (.iload_n 1, 1) := by decide +kernel
theorem dX2_countPlace_12 : decode cX2_countPlace 12 = .ok (.ifCond .eq 24, 3) := by decide +kernel
theorem dX2_countPlace_15 : decode cX2_countPlace 15 = .ok (.iload 4, 2) := by decide +kernel
theorem dX2_countPlace_17 : decode cX2_countPlace 17 = .ok (.iconst 1, 1) := by decide +kernel
theorem dX2_countPlace_18 : decode cX2_countPlace 18 = .ok (.iand, 1) := by decide +kernel
theorem dX2_countPlace_19 : decode cX2_countPlace 19 = .ok (.ifCond .ne 17, 3) := by decide +kernel
theorem dX2_countPlace_22 : decode cX2_countPlace 22 = .ok (.aload_n 2, 1) := by decide +kernel
theorem dX2_countPlace_23 : decode cX2_countPlace 23 = .ok (.iload 4, 2) := by decide +kernel
theorem dX2_countPlace_25 : decode cX2_countPlace 25 = .ok (.aload_n 0, 1) := by decide +kernel
theorem dX2_countPlace_26 : decode cX2_countPlace 26 = .ok (.iload 4, 2) := by decide +kernel
theorem dX2_countPlace_28 : decode cX2_countPlace 28 = .ok (.aload_n 3, 1) := by decide +kernel
theorem dX2_countPlace_29 : decode cX2_countPlace 29 = .ok (.invokevirtual 120, 3) := by decide +kernel
theorem dX2_countPlace_32 : decode cX2_countPlace 32 = .ok (.iastore, 1) := by decide +kernel
theorem dX2_countPlace_33 : decode cX2_countPlace 33 = .ok (.goto 13, 3) := by decide +kernel
theorem dX2_countPlace_36 : decode cX2_countPlace 36 = .ok (.aload_n 2, 1) := by decide +kernel
theorem dX2_countPlace_37 : decode cX2_countPlace 37 = .ok (.iload 4, 2) := by decide +kernel
theorem dX2_countPlace_39 : decode cX2_countPlace 39 = .ok (.aload_n 3, 1) := by decide +kernel
theorem dX2_countPlace_40 : decode cX2_countPlace 40 = .ok (.iload 4, 2) := by decide +kernel
theorem dX2_countPlace_42 : decode cX2_countPlace 42 = .ok (.iconst 1, 1) := by decide +kernel
theorem dX2_countPlace_43 : decode cX2_countPlace 43 = .ok (.ishr, 1) := by decide +kernel
theorem dX2_countPlace_44 : decode cX2_countPlace 44 = .ok (.iaload, 1) := by decide +kernel
theorem dX2_countPlace_45 : decode cX2_countPlace 45 = .ok (.iastore, 1) := by decide +kernel
theorem dX2_countPlace_46 : decode cX2_countPlace 46 = .ok (.iinc 4 1, 3) := by decide +kernel
theorem dX2_countPlace_49 : decode cX2_countPlace 49 = .ok (.goto (-46), 3) := by decide +kernel
theorem dX2_countPlace_52 : decode cX2_countPlace 52 = .ok (.return_, 1) := by decide +kernel
theorem dX2_countTurns_0 : decode cX2_countTurns 0 = .ok (.iconst 0, 1) := by decide +kernel
theorem dX2_countTurns_1 : decode cX2_countTurns 1 = .ok (.istore_n 3, 1) := by decide +kernel
theorem dX2_countTurns_2 : decode cX2_countTurns 2 = .ok (.iconst 0, 1) := by decide +kernel
theorem dX2_countTurns_3 : decode cX2_countTurns 3 = .ok (.istore 4, 2) := by decide +kernel
theorem dX2_countTurns_5 : decode cX2_countTurns 5 = .ok (.iload 4, 2) := by decide +kernel
theorem dX2_countTurns_7 : decode cX2_countTurns 7 = .ok (.iconst 4, 1) := by decide +kernel
theorem dX2_countTurns_8 : decode cX2_countTurns 8 = .ok (.if_icmp .ge 31, 3) := by decide +kernel
theorem dX2_countTurns_11 : decode cX2_countTurns 11 = .ok (.aload_n 0, 1) := by decide +kernel
theorem dX2_countTurns_12 : decode cX2_countTurns 12 = .ok (.iload 4, 2) := by decide +kernel
theorem dX2_countTurns_14 : decode cX2_countTurns 14 = .ok (.iload_n 1, 1) := by decide +kernel
theorem dX2_countTurns_15 : decode cX2_countTurns 15 = .ok (.invokevirtual 81, 3) := by decide +kernel
theorem dX2_countTurns_18 : decode cX2_countTurns 18 = .ok (.ifCond .eq 15, 3) := by decide +kernel
theorem dX2_countTurns_21 : decode cX2_countTurns 21 = .ok (.iload_n 3, 1) := by decide +kernel
theorem dX2_countTurns_22 : decode cX2_countTurns 22 = .ok (.aload_n 2, 1) := by decide +kernel
theorem dX2_countTurns_23 : decode cX2_countTurns 23 = .ok (.aload_n 0, 1) := by decide +kernel
theorem dX2_countTurns_24 : decode cX2_countTurns 24 = .ok (.iload 4, 2) := by decide +kernel
theorem dX2_countTurns_26 : decode cX2_countTurns 26 = .ok (.iload_n 1, 1) := by decide +kernel
theorem dX2_countTurns_27 : decode cX2_countTurns 27 = .ok (.invokevirtual 85, 3) := by decide +kernel
theorem dX2_countTurns_30 : decode cX2_countTurns 30 = .ok (.iaload, 1) := by decide +kernel
theorem dX2_countTurns_31 : decode cX2_countTurns 31 = .ok (.iadd, 1) := by decide +kernel
theorem dX2_countTurns_32 : decode cX2_countTurns 32 = .ok (.istore_n 3, 1) := by decide +kernel
theorem dX2_countTurns_33 : decode cX2_countTurns 33 = .ok (.iinc 4 1, 3) := by decide +kernel
theorem dX2_countTurns_36 : decode cX2_countTurns 36 = .ok (.goto (-31), 3) := by decide +kernel
theorem dX2_countTurns_39 : decode cX2_countTurns 39 = .ok (.iload_n 3, 1) := by decide +kernel
theorem dX2_countTurns_40 : decode cX2_countTurns 40 = .ok (.ireturn, 1) := by decide +kernel
theorem dX2_restFrom_0 : decode cX2_restFrom 0 = .ok (.iload_n 2, 1) := by decide +kernel
theorem dX2_restFrom_1 : decode cX2_restFrom 1 = .ok (.ifCond .lt 20, 3) := by decide +kernel
theorem dX2_restFrom_4 : decode cX2_restFrom 4 = .ok (.iload_n 2, 1) := by decide +kernel
theorem dX2_restFrom_5 : decode cX2_restFrom 5 = .ok (.sipush 512, 3) := by decide +kernel
theorem dX2_restFrom_8 : decode cX2_restFrom 8 = .ok (.if_icmp .ge 13, 3) := by decide +kernel
theorem dX2_restFrom_11 : decode cX2_restFrom 11 = .ok (.aload_n 0, 1) := by decide +kernel
theorem dX2_restFrom_12 : decode cX2_restFrom 12 = .ok (.iload_n 1, 1) := by decide +kernel
theorem dX2_restFrom_13 : decode cX2_restFrom 13 = .ok (.invokevirtual 98, 3) := by decide +kernel
theorem dX2_restFrom_16 : decode cX2_restFrom 16 = .ok (.iload_n 2, 1) := by decide +kernel
theorem dX2_restFrom_17 : decode cX2_restFrom 17 = .ok (.iaload, 1) := by decide +kernel
theorem dX2_restFrom_18 : decode cX2_restFrom 18 = .ok (.goto 4, 3) := by decide +kernel
theorem dX2_restFrom_21 : decode cX2_restFrom 21 = .ok (.iconst 0, 1) := by decide +kernel
theorem dX2_restFrom_22 : decode cX2_restFrom 22 = .ok (.ireturn, 1) := by decide +kernel
theorem dX2_paveFirstWay_0 : decode cX2_paveFirstWay 0 = .ok (.aload_n 1, 1) := by decide +kernel
theorem dX2_paveFirstWay_1 : decode cX2_paveFirstWay 1 = .ok (.invokevirtual 124, 3) := by decide +kernel
theorem dX2_paveFirstWay_4 : decode cX2_paveFirstWay 4 = .ok (.lstore_n 2, 1) := by decide +kernel
theorem dX2_paveFirstWay_5 : decode cX2_paveFirstWay 5 = .ok (.aload_n 0, 1) := by decide +kernel
theorem dX2_paveFirstWay_6 : decode cX2_paveFirstWay 6 = .ok (.lload_n 2, 1) := by decide +kernel
theorem dX2_paveFirstWay_7 : decode cX2_paveFirstWay 7 = .ok (.invokevirtual 130, 3) := by decide +kernel
theorem dX2_paveFirstWay_10 : decode cX2_paveFirstWay 10 = .ok (.lload_n 2, 1) := by decide +kernel
theorem dX2_paveFirstWay_11 : decode cX2_paveFirstWay 11 = .ok (.invokestatic 39, 3) := by decide +kernel
theorem dX2_paveFirstWay_14 : decode cX2_paveFirstWay 14 = .ok (.istore 4, 2) := by decide +kernel
theorem dX2_paveFirstWay_16 : decode cX2_paveFirstWay 16 = .ok (.iconst 0, 1) := by decide +kernel
theorem dX2_paveFirstWay_17 : decode cX2_paveFirstWay 17 = .ok (.istore 5, 2) := by decide +kernel
theorem dX2_paveFirstWay_19 : decode cX2_paveFirstWay 19 = .ok (.iconst 0, 1) := by decide +kernel
theorem dX2_paveFirstWay_20 : decode cX2_paveFirstWay 20 = .ok (.istore 6, 2) := by decide +kernel
theorem dX2_paveFirstWay_22 : decode cX2_paveFirstWay 22 = .ok (.iload 6, 2) := by decide +kernel
theorem dX2_paveFirstWay_24 : decode cX2_paveFirstWay 24 = .ok (.iload 4, 2) := by decide +kernel
theorem dX2_paveFirstWay_26 : decode cX2_paveFirstWay 26 = .ok (.if_icmp .ge 69, 3) := by decide +kernel
theorem dX2_paveFirstWay_29 : decode cX2_paveFirstWay 29 = .ok (.aload_n 0, 1) := by decide +kernel
theorem dX2_paveFirstWay_30 : decode cX2_paveFirstWay 30 = .ok (.lload_n 2, 1) := by decide +kernel
theorem dX2_paveFirstWay_31 : decode cX2_paveFirstWay 31 = .ok (.iload 6, 2) := by decide +kernel
theorem dX2_paveFirstWay_33 : decode cX2_paveFirstWay 33 = .ok (.invokevirtual 67, 3) := by decide +kernel
theorem dX2_paveFirstWay_36 : decode cX2_paveFirstWay 36 = .ok (.aload_n 0, 1) := by decide +kernel
theorem dX2_paveFirstWay_37 : decode cX2_paveFirstWay 37 = .ok (.iload 6, 2) := by decide +kernel
theorem dX2_paveFirstWay_39 : decode cX2_paveFirstWay 39 = .ok (.iload 5, 2) := by decide +kernel
theorem dX2_paveFirstWay_41 : decode cX2_paveFirstWay 41 = .ok (.invokevirtual 134, 3) := by decide +kernel
theorem dX2_paveFirstWay_44 : decode cX2_paveFirstWay 44 = .ok (.istore 7, 2) := by decide +kernel
theorem dX2_paveFirstWay_46 : decode cX2_paveFirstWay 46 = .ok (.iload 7, 2) := by decide +kernel
theorem dX2_paveFirstWay_48 : decode cX2_paveFirstWay 48 = .ok (.iconst (-1), 1) := by decide +kernel
theorem dX2_paveFirstWay_49 : decode cX2_paveFirstWay 49 = .ok (.if_icmp .ne 12, 3) := by decide +kernel
theorem dX2_paveFirstWay_52 : decode cX2_paveFirstWay 52 = .ok (.iload 5, 2) := by decide +kernel
theorem dX2_paveFirstWay_54 : decode cX2_paveFirstWay 54 = .ok (.iconst 1, 1) := by decide +kernel
theorem dX2_paveFirstWay_55 : decode cX2_paveFirstWay 55 = .ok (.ishr, 1) := by decide +kernel
theorem dX2_paveFirstWay_56 : decode cX2_paveFirstWay 56 = .ok (.istore 5, 2) := by decide +kernel
theorem dX2_paveFirstWay_58 : decode cX2_paveFirstWay 58 = .ok (.goto 31, 3) := by decide +kernel
theorem dX2_paveFirstWay_61 : decode cX2_paveFirstWay 61 = .ok (.aload_n 1, 1) := by decide +kernel
theorem dX2_paveFirstWay_62 : decode cX2_paveFirstWay 62 = .ok (.iload 6, 2) := by decide +kernel
theorem dX2_paveFirstWay_64 : decode cX2_paveFirstWay 64 = .ok (.iload 7, 2) := by decide +kernel
theorem dX2_paveFirstWay_66 : decode cX2_paveFirstWay 66 = .ok (.invokestatic 89, 3) := by decide +kernel
theorem dX2_paveFirstWay_69 : decode cX2_paveFirstWay 69 = .ok (.iload 6, 2) := by decide +kernel
theorem dX2_paveFirstWay_71 : decode cX2_paveFirstWay 71 = .ok (.bipush 8, 2) := by decide +kernel
theorem dX2_paveFirstWay_73 : decode cX2_paveFirstWay 73 = .ok (.idiv, 1) := by decide +kernel
theorem dX2_paveFirstWay_74 : decode cX2_paveFirstWay 74 = .ok (.iload 7, 2) := by decide +kernel
theorem dX2_paveFirstWay_76 : decode cX2_paveFirstWay 76 = .ok (.invokevirtual 137, 3) := by decide +kernel
theorem dX2_paveFirstWay_79 : decode cX2_paveFirstWay 79 = .ok (.aload_n 0, 1) := by decide +kernel
theorem dX2_paveFirstWay_80 : decode cX2_paveFirstWay 80 = .ok (.iload 7, 2) := by decide +kernel
theorem dX2_paveFirstWay_82 : decode cX2_paveFirstWay 82 = .ok (.iload 5, 2) := by decide +kernel
theorem dX2_paveFirstWay_84 : decode cX2_paveFirstWay 84 = .ok (.invokevirtual 85, 3) := by decide +kernel
theorem dX2_paveFirstWay_87 : decode cX2_paveFirstWay 87 = .ok (.istore 5, 2) := by decide +kernel
theorem dX2_paveFirstWay_89 : decode cX2_paveFirstWay 89 = .ok (.iinc 6 1, 3) := by decide +kernel
theorem dX2_paveFirstWay_92 : decode cX2_paveFirstWay 92 = .ok (.goto (-70), 3) := by decide +kernel
theorem dX2_paveFirstWay_95 : decode cX2_paveFirstWay 95 = .ok (.return_, 1) := by decide +kernel
theorem dX2_leastTurn_0 : decode cX2_leastTurn 0 = .ok (.iconst 0, 1) := by decide +kernel
theorem dX2_leastTurn_1 : decode cX2_leastTurn 1 = .ok (.istore_n 3, 1) := by decide +kernel
theorem dX2_leastTurn_2 : decode cX2_leastTurn 2 = .ok (.iload_n 3, 1) := by decide +kernel
theorem dX2_leastTurn_3 : decode cX2_leastTurn 3 = .ok (.iconst 4, 1) := by decide +kernel
theorem dX2_leastTurn_4 : decode cX2_leastTurn 4 = .ok (.if_icmp .ge 36, 3) := by decide +kernel
theorem dX2_leastTurn_7 : decode cX2_leastTurn 7 = .ok (.aload_n 0, 1) := by decide +kernel
theorem dX2_leastTurn_8 : decode cX2_leastTurn 8 = .ok (.iload_n 3, 1) := by decide +kernel
theorem dX2_leastTurn_9 : decode cX2_leastTurn 9 = .ok (.iload_n 2, 1) := by decide +kernel
theorem dX2_leastTurn_10 : decode cX2_leastTurn 10 = .ok (.invokevirtual 81, 3) := by decide +kernel
theorem dX2_leastTurn_13 : decode cX2_leastTurn 13 = .ok (.ifCond .eq 21, 3) := by decide +kernel
theorem dX2_leastTurn_16 : decode cX2_leastTurn 16 = .ok (.aload_n 0, 1) := by decide +kernel
theorem dX2_leastTurn_17 : decode cX2_leastTurn 17 = .ok (.iload_n 1, 1) := by decide +kernel
theorem dX2_leastTurn_18 : decode cX2_leastTurn 18 = .ok (.iconst 1, 1) := by decide +kernel
theorem dX2_leastTurn_19 : decode cX2_leastTurn 19 = .ok (.iadd, 1) := by decide +kernel
theorem dX2_leastTurn_20 : decode cX2_leastTurn 20 = .ok (.aload_n 0, 1) := by decide +kernel
theorem dX2_leastTurn_21 : decode cX2_leastTurn 21 = .ok (.iload_n 3, 1) := by decide +kernel
theorem dX2_leastTurn_22 : decode cX2_leastTurn 22 = .ok (.iload_n 2, 1) := by decide +kernel
theorem dX2_leastTurn_23 : decode cX2_leastTurn 23 = .ok (.invokevirtual 85, 3) := by decide +kernel
theorem dX2_leastTurn_26 : decode cX2_leastTurn 26 = .ok (.invokevirtual 141, 3) := by decide +kernel
theorem dX2_leastTurn_29 : decode cX2_leastTurn 29 = .ok (.ifCond .eq 5, 3) := by decide +kernel
theorem dX2_leastTurn_32 : decode cX2_leastTurn 32 = .ok (.iload_n 3, 1) := by decide +kernel
theorem dX2_leastTurn_33 : decode cX2_leastTurn 33 = .ok (.ireturn, 1) := by decide +kernel
theorem dX2_leastTurn_34 : decode cX2_leastTurn 34 = .ok (.iinc 3 1, 3) := by decide +kernel
theorem dX2_leastTurn_37 : decode cX2_leastTurn 37 = .ok (.goto (-35), 3) := by decide +kernel
theorem dX2_leastTurn_40 : decode cX2_leastTurn 40 = .ok (.iconst (-1), 1) := by decide +kernel
theorem dX2_leastTurn_41 : decode cX2_leastTurn 41 = .ok (.ireturn, 1) := by decide +kernel
theorem dX2_bestGap_0 : decode cX2_bestGap 0 = .ok (.aload_n 0, 1) := by decide +kernel
theorem dX2_bestGap_1 : decode cX2_bestGap 1 = .ok (.lload_n 1, 1) := by decide +kernel
theorem dX2_bestGap_2 : decode cX2_bestGap 2 = .ok (.invokevirtual 130, 3) := by decide +kernel
theorem dX2_bestGap_5 : decode cX2_bestGap 5 = .ok (.aload_n 0, 1) := by decide +kernel
theorem dX2_bestGap_6 : decode cX2_bestGap 6 = .ok (.invokevirtual 36, 3) := by decide +kernel
theorem dX2_bestGap_9 : decode cX2_bestGap 9 = .ok (.iconst (-1), 1) := by decide +kernel
theorem dX2_bestGap_10 : decode cX2_bestGap 10 = .ok (.istore_n 3, 1) := by decide +kernel
theorem dX2_bestGap_11 : decode cX2_bestGap 11 = .ok (.iconst 0, 1) := by decide +kernel
theorem dX2_bestGap_12 : decode cX2_bestGap 12 = .ok (.istore 4, 2) := by decide +kernel
theorem dX2_bestGap_14 : decode cX2_bestGap 14 = .ok (.lload_n 1, 1) := by decide +kernel
theorem dX2_bestGap_15 : decode cX2_bestGap 15 = .ok (.invokestatic 39, 3) := by decide +kernel
theorem dX2_bestGap_18 : decode cX2_bestGap 18 = .ok (.istore 5, 2) := by decide +kernel
theorem dX2_bestGap_20 : decode cX2_bestGap 20 = .ok (.iconst 0, 1) := by decide +kernel
theorem dX2_bestGap_21 : decode cX2_bestGap 21 = .ok (.istore 6, 2) := by decide +kernel
theorem dX2_bestGap_23 : decode cX2_bestGap 23 = .ok (.iload 6, 2) := by decide +kernel
theorem dX2_bestGap_25 : decode cX2_bestGap 25 = .ok (.iload 5, 2) := by decide +kernel
theorem dX2_bestGap_27 : decode cX2_bestGap 27 = .ok (.if_icmp .ge 51, 3) := by decide +kernel
theorem dX2_bestGap_30 : decode cX2_bestGap 30 = .ok (.lload_n 1, 1) := by decide +kernel
theorem dX2_bestGap_31 : decode cX2_bestGap 31 = .ok (.iload 6, 2) := by decide +kernel
theorem dX2_bestGap_33 : decode cX2_bestGap 33 = .ok (.invokestatic 63, 3) := by decide +kernel
theorem dX2_bestGap_36 : decode cX2_bestGap 36 = .ok (.ifCond .eq 12, 3) := by decide +kernel
theorem dX2_bestGap_39 : decode cX2_bestGap 39 = .ok (.aload_n 0, 1) := by decide +kernel
theorem dX2_bestGap_40 : decode cX2_bestGap 40 = .ok (.iload 6, 2) := by decide +kernel
theorem dX2_bestGap_42 : decode cX2_bestGap 42 = .ok (.invokevirtual 144, 3) := by decide +kernel
theorem dX2_bestGap_45 : decode cX2_bestGap 45 = .ok (.goto 4, 3) := by decide +kernel
theorem dX2_bestGap_48 : decode cX2_bestGap 48 = .ok (.iconst 0, 1) := by decide +kernel
theorem dX2_bestGap_49 : decode cX2_bestGap 49 = .ok (.istore 7, 2) := by decide +kernel
theorem dX2_bestGap_51 : decode cX2_bestGap 51 = .ok (.iload 7, 2) := by decide +kernel
theorem dX2_bestGap_53 : decode cX2_bestGap 53 = .ok (.iload 4, 2) := by decide +kernel
theorem dX2_bestGap_55 : decode cX2_bestGap 55 = .ok (.if_icmp .le 10, 3) := by decide +kernel
theorem dX2_bestGap_58 : decode cX2_bestGap 58 = .ok (.iload 7, 2) := by decide +kernel
theorem dX2_bestGap_60 : decode cX2_bestGap 60 = .ok (.istore 4, 2) := by decide +kernel
theorem dX2_bestGap_62 : decode cX2_bestGap 62 = .ok (.iload 6, 2) := by decide +kernel
theorem dX2_bestGap_64 : decode cX2_bestGap 64 = .ok (.istore_n 3, 1) := by decide +kernel
theorem dX2_bestGap_65 : decode cX2_bestGap 65 = .ok (.aload_n 0, 1) := by decide +kernel
theorem dX2_bestGap_66 : decode cX2_bestGap 66 = .ok (.lload_n 1, 1) := by decide +kernel
theorem dX2_bestGap_67 : decode cX2_bestGap 67 = .ok (.iload 6, 2) := by decide +kernel
theorem dX2_bestGap_69 : decode cX2_bestGap 69 = .ok (.invokevirtual 45, 3) := by decide +kernel
theorem dX2_bestGap_72 : decode cX2_bestGap 72 = .ok (.iinc 6 1, 3) := by decide +kernel
theorem dX2_bestGap_75 : decode cX2_bestGap 75 = .ok (.goto (-52), 3) := by decide +kernel
theorem dX2_bestGap_78 : decode cX2_bestGap 78 = .ok (.iload_n 3, 1) := by decide +kernel
theorem dX2_bestGap_79 : decode cX2_bestGap 79 = .ok (.ireturn, 1) := by decide +kernel
theorem dX2_waysAround_0 : decode cX2_waysAround 0 = .ok (.iconst 0, 1) := by decide +kernel
theorem dX2_waysAround_1 : decode cX2_waysAround 1 = .ok (.istore_n 2, 1) := by decide +kernel
theorem dX2_waysAround_2 : decode cX2_waysAround 2 = .ok (.iconst 0, 1) := by decide +kernel
theorem dX2_waysAround_3 : decode cX2_waysAround 3 = .ok (.istore_n 3, 1) := by decide +kernel
theorem dX2_waysAround_4 : decode cX2_waysAround 4 = .ok (.iload_n 3, 1) := by decide +kernel
theorem dX2_waysAround_5 : decode cX2_waysAround 5 = .ok (.aload_n 0, 1) := by decide +kernel
theorem dX2_waysAround_6 : decode cX2_waysAround 6 = .ok (.getfield 23, 3) := by decide +kernel
theorem dX2_waysAround_9 : decode cX2_waysAround 9 = .ok (.getfield 70, 3) := by decide +kernel
theorem dX2_waysAround_12 : decode cX2_waysAround 12 = .ok (.if_icmp .ge 50, 3) := by decide +kernel
theorem dX2_waysAround_15 : decode cX2_waysAround 15 = .ok (.aload_n 0, 1) := by decide +kernel
theorem dX2_waysAround_16 : decode cX2_waysAround 16 = .ok (.getfield 23, 3) := by decide +kernel
theorem dX2_waysAround_19 : decode cX2_waysAround 19 = .ok (.iload_n 3, 1) := by decide +kernel
theorem dX2_waysAround_20 : decode cX2_waysAround 20 = .ok (.invokevirtual 74, 3) := by decide +kernel
theorem dX2_waysAround_23 : decode cX2_waysAround 23 = .ok (.istore 4, 2) := by decide +kernel
theorem dX2_waysAround_25 : decode cX2_waysAround 25 = .ok (.iload 4, 2) := by decide +kernel
theorem dX2_waysAround_27 : decode cX2_waysAround 27 = .ok (.iconst 1, 1) := by decide +kernel
theorem dX2_waysAround_28 : decode cX2_waysAround 28 = .ok (.iand, 1) := by decide +kernel
theorem dX2_waysAround_29 : decode cX2_waysAround 29 = .ok (.ifCond .ne 27, 3) := by decide +kernel
theorem dX2_waysAround_32 : decode cX2_waysAround 32 = .ok (.iload_n 2, 1) := by decide +kernel
theorem dX2_waysAround_33 : decode cX2_waysAround 33 = .ok (.aload_n 0, 1) := by decide +kernel
theorem dX2_waysAround_34 : decode cX2_waysAround 34 = .ok (.getfield 23, 3) := by decide +kernel
theorem dX2_waysAround_37 : decode cX2_waysAround 37 = .ok (.iload 4, 2) := by decide +kernel
theorem dX2_waysAround_39 : decode cX2_waysAround 39 = .ok (.invokevirtual 49, 3) := by decide +kernel
theorem dX2_waysAround_42 : decode cX2_waysAround 42 = .ok (.aload_n 0, 1) := by decide +kernel
theorem dX2_waysAround_43 : decode cX2_waysAround 43 = .ok (.iload_n 1, 1) := by decide +kernel
theorem dX2_waysAround_44 : decode cX2_waysAround 44 = .ok (.iconst 1, 1) := by decide +kernel
theorem dX2_waysAround_45 : decode cX2_waysAround 45 = .ok (.iadd, 1) := by decide +kernel
theorem dX2_waysAround_46 : decode cX2_waysAround 46 = .ok (.iload 4, 2) := by decide +kernel
theorem dX2_waysAround_48 : decode cX2_waysAround 48 = .ok (.iconst 1, 1) := by decide +kernel
theorem dX2_waysAround_49 : decode cX2_waysAround 49 = .ok (.ishr, 1) := by decide +kernel
theorem dX2_waysAround_50 : decode cX2_waysAround 50 = .ok (.invokevirtual 141, 3) := by decide +kernel
theorem dX2_waysAround_53 : decode cX2_waysAround 53 = .ok (.imul, 1) := by decide +kernel
theorem dX2_waysAround_54 : decode cX2_waysAround 54 = .ok (.iadd, 1) := by decide +kernel
theorem dX2_waysAround_55 : decode cX2_waysAround 55 = .ok (.istore_n 2, 1) := by decide +kernel
theorem dX2_waysAround_56 : decode cX2_waysAround 56 = .ok (.iinc 3 1, 3) := by decide +kernel
theorem dX2_waysAround_59 : decode cX2_waysAround 59 = .ok (.goto (-55), 3) := by decide +kernel
theorem dX2_waysAround_62 : decode cX2_waysAround 62 = .ok (.iload_n 2, 1) := by decide +kernel
theorem dX2_waysAround_63 : decode cX2_waysAround 63 = .ok (.ireturn, 1) := by decide +kernel
theorem dX6_init_0 : decode cX6_init 0 = .ok (.aload_n 0, 1) := by decide +kernel
theorem dX6_init_1 : decode cX6_init 1 = .ok (.invokespecial 1, 3) := by decide +kernel
theorem dX6_init_4 : decode cX6_init 4 = .ok (.aload_n 0, 1) := by decide +kernel
theorem dX6_init_5 : decode cX6_init 5 = .ok (.iconst 0, 1) := by decide +kernel
theorem dX6_init_6 : decode cX6_init 6 = .ok (.putfield 7, 3) := by decide +kernel
theorem dX6_init_9 : decode cX6_init 9 = .ok (.aload_n 0, 1) := by decide +kernel
theorem dX6_init_10 : decode cX6_init 10 = .ok (.sipush 512, 3) := by decide +kernel
theorem dX6_init_13 : decode cX6_init 13 = .ok (.newarray .int, 2) := by decide +kernel
theorem dX6_init_15 : decode cX6_init 15 = .ok (.putfield 15, 3) := by decide +kernel
theorem dX6_init_18 : decode cX6_init 18 = .ok (.aload_n 0, 1) := by decide +kernel
theorem dX6_init_19 : decode cX6_init 19 = .ok (.sipush 512, 3) := by decide +kernel
theorem dX6_init_22 : decode cX6_init 22 = .ok (.newarray .int, 2) := by decide +kernel
theorem dX6_init_24 : decode cX6_init 24 = .ok (.putfield 19, 3) := by decide +kernel
theorem dX6_init_27 : decode cX6_init 27 = .ok (.return_, 1) := by decide +kernel
theorem dX6_clear_0 : decode cX6_clear 0 = .ok (.iconst 0, 1) := by decide +kernel
theorem dX6_clear_1 : decode cX6_clear 1 = .ok (.istore_n 1, 1) := by decide +kernel
theorem dX6_clear_2 : decode cX6_clear 2 = .ok (.iload_n 1, 1) := by decide +kernel
theorem dX6_clear_3 : decode cX6_clear 3 = .ok (.aload_n 0, 1) := by decide +kernel
theorem dX6_clear_4 : decode cX6_clear 4 = .ok (.getfield 7, 3) := by decide +kernel
theorem dX6_clear_7 : decode cX6_clear 7 = .ok (.if_icmp .ge 20, 3) := by decide +kernel
theorem dX6_clear_10 : decode cX6_clear 10 = .ok (.aload_n 0, 1) := by decide +kernel
theorem dX6_clear_11 : decode cX6_clear 11 = .ok (.getfield 19, 3) := by decide +kernel
theorem dX6_clear_14 : decode cX6_clear 14 = .ok (.aload_n 0, 1) := by decide +kernel
theorem dX6_clear_15 : decode cX6_clear 15 = .ok (.iload_n 1, 1) := by decide +kernel
theorem dX6_clear_16 : decode cX6_clear 16 = .ok (.invokevirtual 22, 3) := by decide +kernel
theorem dX6_clear_19 : decode cX6_clear 19 = .ok (.iconst 0, 1) := by decide +kernel
theorem dX6_clear_20 : decode cX6_clear 20 = .ok (.iastore, 1) := by decide +kernel
theorem dX6_clear_21 : decode cX6_clear 21 = .ok (.iinc 1 1, 3) := by decide +kernel
theorem dX6_clear_24 : decode cX6_clear 24 = .ok (.goto (-22), 3) := by decide +kernel
theorem dX6_clear_27 : decode cX6_clear 27 = .ok (.aload_n 0, 1) := by decide +kernel
theorem dX6_clear_28 : decode cX6_clear 28 = .ok (.iconst 0, 1) := by decide +kernel
theorem dX6_clear_29 : decode cX6_clear 29 = .ok (.putfield 7, 3) := by decide +kernel
theorem dX6_clear_32 : decode cX6_clear 32 = .ok (.return_, 1) := by decide +kernel
theorem dX6_add_0 : decode cX6_add 0 = .ok (.iload_n 1, 1) := by decide +kernel
theorem dX6_add_1 : decode cX6_add 1 = .ok (.ifCond .lt 12, 3) := by decide +kernel
theorem dX6_add_4 : decode cX6_add 4 = .ok (.iload_n 1, 1) := by decide +kernel
theorem dX6_add_5 : decode cX6_add 5 = .ok (.aload_n 0, 1) := by decide +kernel
theorem dX6_add_6 : decode cX6_add 6 = .ok (.getfield 19, 3) := by decide +kernel
theorem dX6_add_9 : decode cX6_add 9 = .ok (.arraylength, 1) := by decide +kernel
theorem dX6_add_10 : decode cX6_add 10 = .ok (.if_icmp .lt 4, 3) := by decide +kernel
theorem dX6_add_13 : decode cX6_add 13 = .ok (.return_, 1) := by decide +kernel
theorem dX6_add_14 : decode cX6_add 14 = .ok (.aload_n 0, 1) := by decide +kernel
theorem dX6_add_15 : decode cX6_add 15 = .ok (.getfield 19, 3) := by decide +kernel
theorem dX6_add_18 : decode cX6_add 18 = .ok (.iload_n 1, 1) := by decide +kernel
theorem dX6_add_19 : decode cX6_add 19 = .ok (.iaload, 1) := by decide +kernel
theorem dX6_add_20 : decode cX6_add 20 = .ok (.ifCond .ne 35, 3) := by decide +kernel
theorem dX6_add_23 : decode cX6_add 23 = .ok (.aload_n 0, 1) := by decide +kernel
theorem dX6_add_24 : decode cX6_add 24 = .ok (.getfield 7, 3) := by decide +kernel
theorem dX6_add_27 : decode cX6_add 27 = .ok (.aload_n 0, 1) := by decide +kernel
theorem dX6_add_28 : decode cX6_add 28 = .ok (.getfield 15, 3) := by decide +kernel
theorem dX6_add_31 : decode cX6_add 31 = .ok (.arraylength, 1) := by decide +kernel
theorem dX6_add_32 : decode cX6_add 32 = .ok (.if_icmp .ge 23, 3) := by decide +kernel
theorem dX6_add_35 : decode cX6_add 35 = .ok (.aload_n 0, 1) := by decide +kernel
theorem dX6_add_36 : decode cX6_add 36 = .ok (.getfield 15, 3) := by decide +kernel
theorem dX6_add_39 : decode cX6_add 39 = .ok (.aload_n 0, 1) := by decide +kernel
theorem dX6_add_40 : decode cX6_add 40 = .ok (.getfield 7, 3) := by decide +kernel
theorem dX6_add_43 : decode cX6_add 43 = .ok (.iload_n 1, 1) := by decide +kernel
theorem dX6_add_44 : decode cX6_add 44 = .ok (.iastore, 1) := by decide +kernel
theorem dX6_add_45 : decode cX6_add 45 = .ok (.aload_n 0, 1) := by decide +kernel
theorem dX6_add_46 : decode cX6_add 46 = .ok (.dup, 1) := by decide +kernel
theorem dX6_add_47 : decode cX6_add 47 = .ok (.getfield 7, 3) := by decide +kernel
theorem dX6_add_50 : decode cX6_add 50 = .ok (.iconst 1, 1) := by decide +kernel
theorem dX6_add_51 : decode cX6_add 51 = .ok (.iadd, 1) := by decide +kernel
theorem dX6_add_52 : decode cX6_add 52 = .ok (.putfield 7, 3) := by decide +kernel
theorem dX6_add_55 : decode cX6_add 55 = .ok (.aload_n 0, 1) := by decide +kernel
theorem dX6_add_56 : decode cX6_add 56 = .ok (.getfield 19, 3) := by decide +kernel
theorem dX6_add_59 : decode cX6_add 59 = .ok (.iload_n 1, 1) := by decide +kernel
theorem dX6_add_60 : decode cX6_add 60 = .ok (.dup2, 1) := by decide +kernel
theorem dX6_add_61 : decode cX6_add 61 = .ok (.iaload, 1) := by decide +kernel
theorem dX6_add_62 : decode cX6_add 62 = .ok (.iload_n 2, 1) := by decide +kernel
theorem dX6_add_63 : decode cX6_add 63 = .ok (.iadd, 1) := by decide +kernel
theorem dX6_add_64 : decode cX6_add 64 = .ok (.iastore, 1) := by decide +kernel
theorem dX6_add_65 : decode cX6_add 65 = .ok (.return_, 1) := by decide +kernel
theorem dX6_windowAt_0 : decode cX6_windowAt 0 = .ok (.iload_n 1, 1) := by decide +kernel
theorem dX6_windowAt_1 : decode cX6_windowAt 1 = .ok (.ifCond .lt 21, 3) := by decide +kernel
theorem dX6_windowAt_4 : decode cX6_windowAt 4 = .ok (.iload_n 1, 1) := by decide +kernel
theorem dX6_windowAt_5 : decode cX6_windowAt 5 = .ok (.aload_n 0, 1) := by decide +kernel
theorem dX6_windowAt_6 : decode cX6_windowAt 6 = .ok (.getfield 15, 3) := by decide +kernel
theorem dX6_windowAt_9 : decode cX6_windowAt 9 = .ok (.arraylength, 1) := by decide +kernel
theorem dX6_windowAt_10 : decode cX6_windowAt 10 = .ok (.if_icmp .ge 12, 3) := by decide +kernel
theorem dX6_windowAt_13 : decode cX6_windowAt 13 = .ok (.aload_n 0, 1) := by decide +kernel
theorem dX6_windowAt_14 : decode cX6_windowAt 14 = .ok (.getfield 15, 3) := by decide +kernel
theorem dX6_windowAt_17 : decode cX6_windowAt 17 = .ok (.iload_n 1, 1) := by decide +kernel
theorem dX6_windowAt_18 : decode cX6_windowAt 18 = .ok (.iaload, 1) := by decide +kernel
theorem dX6_windowAt_19 : decode cX6_windowAt 19 = .ok (.goto 4, 3) := by decide +kernel
theorem dX6_windowAt_22 : decode cX6_windowAt 22 = .ok (.iconst 0, 1) := by decide +kernel
theorem dX6_windowAt_23 : decode cX6_windowAt 23 = .ok (.ireturn, 1) := by decide +kernel
theorem dX6_waysTo_0 : decode cX6_waysTo 0 = .ok (.iload_n 1, 1) := by decide +kernel
theorem dX6_waysTo_1 : decode cX6_waysTo 1 = .ok (.ifCond .lt 21, 3) := by decide +kernel
theorem dX6_waysTo_4 : decode cX6_waysTo 4 = .ok (.iload_n 1, 1) := by decide +kernel
theorem dX6_waysTo_5 : decode cX6_waysTo 5 = .ok (.aload_n 0, 1) := by decide +kernel
theorem dX6_waysTo_6 : decode cX6_waysTo 6 = .ok (.getfield 19, 3) := by decide +kernel
theorem dX6_waysTo_9 : decode cX6_waysTo 9 = .ok (.arraylength, 1) := by decide +kernel
theorem dX6_waysTo_10 : decode cX6_waysTo 10 = .ok (.if_icmp .ge 12, 3) := by decide +kernel
theorem dX6_waysTo_13 : decode cX6_waysTo 13 = .ok (.aload_n 0, 1) := by decide +kernel
theorem dX6_waysTo_14 : decode cX6_waysTo 14 = .ok (.getfield 19, 3) := by decide +kernel
theorem dX6_waysTo_17 : decode cX6_waysTo 17 = .ok (.iload_n 1, 1) := by decide +kernel
theorem dX6_waysTo_18 : decode cX6_waysTo 18 = .ok (.iaload, 1) := by decide +kernel
theorem dX6_waysTo_19 : decode cX6_waysTo 19 = .ok (.goto 4, 3) := by decide +kernel
theorem dX6_waysTo_22 : decode cX6_waysTo 22 = .ok (.iconst 0, 1) := by decide +kernel
theorem dX6_waysTo_23 : decode cX6_waysTo 23 = .ok (.ireturn, 1) := by decide +kernel
theorem dX3_init_0 : decode cX3_init 0 = .ok (.aload_n 0, 1) := by decide +kernel
theorem dX3_init_1 : decode cX3_init 1 = .ok (.invokespecial 3, 3) := by decide +kernel
theorem dX3_init_4 : decode cX3_init 4 = .ok (.aload_n 0, 1) := by decide +kernel
theorem dX3_init_5 : decode cX3_init 5 = .ok (.bipush 8, 2) := by decide +kernel
theorem dX3_init_7 : decode cX3_init 7 = .ok (.putfield 9, 3) := by decide +kernel
theorem dX3_init_10 : decode cX3_init 10 = .ok (.aload_n 0, 1) := by decide +kernel
theorem dX3_init_11 : decode cX3_init 11 = .ok (.iconst 0, 1) := by decide +kernel
theorem dX3_init_12 : decode cX3_init 12 = .ok (.putfield 15, 3) := by decide +kernel
theorem dX3_init_15 : decode cX3_init 15 = .ok (.aload_n 0, 1) := by decide +kernel
theorem dX3_init_16 : decode cX3_init 16 = .ok (.iconst (-1), 1) := by decide +kernel
theorem dX3_init_17 : decode cX3_init 17 = .ok (.putfield 18, 3) := by decide +kernel
theorem dX3_init_20 : decode cX3_init 20 = .ok (.aload_n 0, 1) := by decide +kernel
theorem dX3_init_21 : decode cX3_init 21 = .ok (.lconst 0, 1) := by decide +kernel
theorem dX3_init_22 : decode cX3_init 22 = .ok (.putfield 21, 3) := by decide +kernel
theorem dX3_init_25 : decode cX3_init 25 = .ok (.aload_n 0, 1) := by decide +kernel
theorem dX3_init_26 : decode cX3_init 26 = .ok (.iconst 0, 1) := by decide +kernel
theorem dX3_init_27 : decode cX3_init 27 = .ok (.putfield 25, 3) := by decide +kernel
theorem dX3_init_30 : decode cX3_init 30 = .ok (.return_, 1) := by decide +kernel
theorem dX3_isNext_0 : decode cX3_isNext 0 = .ok (.iload_n 1, 1) := by decide +kernel
theorem dX3_isNext_1 : decode cX3_isNext 1 = .ok (.bipush 47, 2) := by decide +kernel
theorem dX3_isNext_3 : decode cX3_isNext 3 = .ok (.if_icmp .ne 27, 3) := by decide +kernel
theorem dX3_isNext_6 : decode cX3_isNext 6 = .ok (.aload_n 0, 1) := by decide +kernel
theorem dX3_isNext_7 : decode cX3_isNext 7 = .ok (.invokevirtual 28, 3) := by decide +kernel
theorem dX3_isNext_10 : decode cX3_isNext 10 = .ok (.ifCond .eq 18, 3) := by decide +kernel
theorem dX3_isNext_13 : decode cX3_isNext 13 = .ok (.aload_n 0, 1) := by decide +kernel
theorem dX3_isNext_14 : decode cX3_isNext 14 = .ok (.getfield 15, 3) := by decide +kernel
theorem dX3_isNext_17 : decode cX3_isNext 17 = .ok (.iconst 1, 1) := by decide +kernel
theorem dX3_isNext_18 : decode cX3_isNext 18 = .ok (.iadd, 1) := by decide +kernel
theorem dX3_isNext_19 : decode cX3_isNext 19 = .ok (.bipush 8, 2) := by decide +kernel
theorem dX3_isNext_21 : decode cX3_isNext 21 = .ok (.if_icmp .ge 7, 3) := by decide +kernel
theorem dX3_isNext_24 : decode cX3_isNext 24 = .ok (.iconst 1, 1) := by decide +kernel
theorem dX3_isNext_25 : decode cX3_isNext 25 = .ok (.goto 4, 3) := by decide +kernel
theorem dX3_isNext_28 : decode cX3_isNext 28 = .ok (.iconst 0, 1) := by decide +kernel
theorem dX3_isNext_29 : decode cX3_isNext 29 = .ok (.ireturn, 1) := by decide +kernel
theorem dX3_isNext_30 : decode cX3_isNext 30 = .ok (.aload_n 0, 1) := by decide +kernel
theorem dX3_isNext_31 : decode cX3_isNext 31 = .ok (.getfield 25, 3) := by decide +kernel
theorem dX3_isNext_34 : decode cX3_isNext 34 = .ok (.aload_n 0, 1) := by decide +kernel
theorem dX3_isNext_35 : decode cX3_isNext 35 = .ok (.getfield 9, 3) := by decide +kernel
theorem dX3_isNext_38 : decode cX3_isNext 38 = .ok (.if_icmp .lt 5, 3) := by decide +kernel
theorem dX3_isNext_41 : decode cX3_isNext 41 = .ok (.iconst 0, 1) := by decide +kernel
theorem dX3_isNext_42 : decode cX3_isNext 42 = .ok (.ireturn, 1) := by decide +kernel
theorem dX3_isNext_43 : decode cX3_isNext 43 = .ok (.iload_n 1, 1) := by decide +kernel
theorem dX3_isNext_44 : decode cX3_isNext 44 = .ok (.bipush 111, 2) := by decide +kernel
theorem dX3_isNext_46 : decode cX3_isNext 46 = .ok (.if_icmp .ne 17, 3) := by decide +kernel
theorem dX3_isNext_49 : decode cX3_isNext 49 = .ok (.aload_n 0, 1) := by decide +kernel
theorem dX3_isNext_50 : decode cX3_isNext 50 = .ok (.getfield 18, 3) := by decide +kernel
theorem dX3_isNext_53 : decode cX3_isNext 53 = .ok (.iconst (-1), 1) := by decide +kernel
theorem dX3_isNext_54 : decode cX3_isNext 54 = .ok (.if_icmp .ne 7, 3) := by decide +kernel
theorem dX3_isNext_57 : decode cX3_isNext 57 = .ok (.iconst 1, 1) := by decide +kernel
theorem dX3_isNext_58 : decode cX3_isNext 58 = .ok (.goto 4, 3) := by decide +kernel
theorem dX3_isNext_61 : decode cX3_isNext 61 = .ok (.iconst 0, 1) := by decide +kernel
theorem dX3_isNext_62 : decode cX3_isNext 62 = .ok (.ireturn, 1) := by decide +kernel
theorem dX3_isNext_63 : decode cX3_isNext 63 = .ok (.iload_n 1, 1) := by decide +kernel
theorem dX3_isNext_64 : decode cX3_isNext 64 = .ok (.bipush 46, 2) := by decide +kernel
theorem dX3_isNext_66 : decode cX3_isNext 66 = .ok (.if_icmp .eq 9, 3) := by decide +kernel
theorem dX3_isNext_69 : decode cX3_isNext 69 = .ok (.iload_n 1, 1) := by decide +kernel
theorem dX3_isNext_70 : decode cX3_isNext 70 = .ok (.bipush 35, 2) := by decide +kernel
theorem dX3_isNext_72 : decode cX3_isNext 72 = .ok (.if_icmp .ne 14, 3) := by decide +kernel
theorem dX3_isNext_75 : decode cX3_isNext 75 = .ok (.aload_n 0, 1) := by decide +kernel
theorem dX3_isNext_76 : decode cX3_isNext 76 = .ok (.invokevirtual 32, 3) := by decide +kernel
theorem dX3_isNext_79 : decode cX3_isNext 79 = .ok (.ifCond .ne 7, 3) := by decide +kernel
theorem dX3_isNext_82 : decode cX3_isNext 82 = .ok (.iconst 1, 1) := by decide +kernel
theorem dX3_isNext_83 : decode cX3_isNext 83 = .ok (.goto 4, 3) := by decide +kernel
theorem dX3_isNext_86 : decode cX3_isNext 86 = .ok (.iconst 0, 1) := by decide +kernel
theorem dX3_isNext_87 : decode cX3_isNext 87 = .ok (.ireturn, 1) := by decide +kernel
theorem dX3_isRowWhole_0 : decode cX3_isRowWhole 0 = .ok (.aload_n 0, 1) := by decide +kernel
theorem dX3_isRowWhole_1 : decode cX3_isRowWhole 1 = .ok (.getfield 15, 3) := by decide +kernel
theorem dX3_isRowWhole_4 : decode cX3_isRowWhole 4 = .ok (.ifCond .ne 19, 3) := by decide +kernel
theorem dX3_isRowWhole_7 : decode cX3_isRowWhole 7 = .ok (.aload_n 0, 1) := by decide +kernel
theorem dX3_isRowWhole_8 : decode cX3_isRowWhole 8 = .ok (.getfield 25, 3) := by decide +kernel
theorem dX3_isRowWhole_11 : decode cX3_isRowWhole 11 = .ok (.iconst 2, 1) := by decide +kernel
theorem dX3_isRowWhole_12 : decode cX3_isRowWhole 12 = .ok (.if_icmp .lt 7, 3) := by decide +kernel
theorem dX3_isRowWhole_15 : decode cX3_isRowWhole 15 = .ok (.iconst 1, 1) := by decide +kernel
theorem dX3_isRowWhole_16 : decode cX3_isRowWhole 16 = .ok (.goto 23, 3) := by decide +kernel
theorem dX3_isRowWhole_19 : decode cX3_isRowWhole 19 = .ok (.iconst 0, 1) := by decide +kernel
theorem dX3_isRowWhole_20 : decode cX3_isRowWhole 20 = .ok (.goto 19, 3) := by decide +kernel
theorem dX3_isRowWhole_23 : decode cX3_isRowWhole 23 = .ok (.aload_n 0, 1) := by decide +kernel
theorem dX3_isRowWhole_24 : decode cX3_isRowWhole 24 = .ok (.getfield 25, 3) := by decide +kernel
theorem dX3_isRowWhole_27 : decode cX3_isRowWhole 27 = .ok (.aload_n 0, 1) := by decide +kernel
theorem dX3_isRowWhole_28 : decode cX3_isRowWhole 28 = .ok (.getfield 9, 3) := by decide +kernel
theorem dX3_isRowWhole_31 : decode cX3_isRowWhole 31 = .ok (.if_icmp .ne 7, 3) := by decide +kernel
theorem dX3_isRowWhole_34 : decode cX3_isRowWhole 34 = .ok (.iconst 1, 1) := by decide +kernel
theorem dX3_isRowWhole_35 : decode cX3_isRowWhole 35 = .ok (.goto 4, 3) := by decide +kernel
theorem dX3_isRowWhole_38 : decode cX3_isRowWhole 38 = .ok (.iconst 0, 1) := by decide +kernel
theorem dX3_isRowWhole_39 : decode cX3_isRowWhole 39 = .ok (.ireturn, 1) := by decide +kernel
theorem dX3_isLastForPond_0 : decode cX3_isLastForPond 0 = .ok (.aload_n 0, 1) := by decide +kernel
theorem dX3_isLastForPond_1 : decode cX3_isLastForPond 1 = .ok (.getfield 18, 3) := by decide +kernel
theorem dX3_isLastForPond_4 : decode cX3_isLastForPond 4 = .ok (.iconst (-1), 1) := by decide +kernel
theorem dX3_isLastForPond_5 : decode cX3_isLastForPond 5 = .ok (.if_icmp .ne 31, 3) := by decide +kernel
theorem dX3_isLastForPond_8 : decode cX3_isLastForPond 8 = .ok (.aload_n 0, 1) := by decide +kernel
theorem dX3_isLastForPond_9 : decode cX3_isLastForPond 9 = .ok (.getfield 15, 3) := by decide +kernel
theorem dX3_isLastForPond_12 : decode cX3_isLastForPond 12 = .ok (.iconst 1, 1) := by decide +kernel
theorem dX3_isLastForPond_13 : decode cX3_isLastForPond 13 = .ok (.iadd, 1) := by decide +kernel
theorem dX3_isLastForPond_14 : decode cX3_isLastForPond 14 = .ok (.bipush 8, 2) := by decide +kernel
theorem dX3_isLastForPond_16 : decode cX3_isLastForPond 16 = .ok (.if_icmp .ne 20, 3) := by decide +kernel
theorem dX3_isLastForPond_19 : decode cX3_isLastForPond 19 = .ok (.aload_n 0, 1) := by decide +kernel
theorem dX3_isLastForPond_20 : decode cX3_isLastForPond 20 = .ok (.getfield 25, 3) := by decide +kernel
theorem dX3_isLastForPond_23 : decode cX3_isLastForPond 23 = .ok (.iconst 1, 1) := by decide +kernel
theorem dX3_isLastForPond_24 : decode cX3_isLastForPond 24 = .ok (.iadd, 1) := by decide +kernel
theorem dX3_isLastForPond_25 : decode cX3_isLastForPond 25 = .ok (.aload_n 0, 1) := by decide +kernel
theorem dX3_isLastForPond_26 : decode cX3_isLastForPond 26 = .ok (.getfield 9, 3) := by decide +kernel
theorem dX3_isLastForPond_29 : decode cX3_isLastForPond 29 = .ok (.if_icmp .ne 7, 3) := by decide +kernel
theorem dX3_isLastForPond_32 : decode cX3_isLastForPond 32 = .ok (.iconst 1, 1) := by decide +kernel
theorem dX3_isLastForPond_33 : decode cX3_isLastForPond 33 = .ok (.goto 4, 3) := by decide +kernel
theorem dX3_isLastForPond_36 : decode cX3_isLastForPond 36 = .ok (.iconst 0, 1) := by decide +kernel
theorem dX3_isLastForPond_37 : decode cX3_isLastForPond 37 = .ok (.ireturn, 1) := by decide +kernel
theorem dX3_take_0 : decode cX3_take 0 = .ok (.iload_n 1, 1) := by decide +kernel
theorem dX3_take_1 : decode cX3_take 1 = .ok (.bipush 47, 2) := by decide +kernel
theorem dX3_take_3 : decode cX3_take 3 = .ok (.if_icmp .ne 41, 3) := by decide +kernel
theorem dX3_take_6 : decode cX3_take 6 = .ok (.aload_n 0, 1) := by decide +kernel
theorem dX3_take_7 : decode cX3_take 7 = .ok (.aload_n 0, 1) := by decide +kernel
theorem dX3_take_8 : decode cX3_take 8 = .ok (.getfield 15, 3) := by decide +kernel
theorem dX3_take_11 : decode cX3_take 11 = .ok (.ifCond .ne 10, 3) := by decide +kernel
theorem dX3_take_14 : decode cX3_take 14 = .ok (.aload_n 0, 1) := by decide +kernel
theorem dX3_take_15 : decode cX3_take 15 = .ok (.getfield 25, 3) := by decide +kernel
theorem dX3_take_18 : decode cX3_take 18 = .ok (.goto 7, 3) := by decide +kernel
theorem dX3_take_21 : decode cX3_take 21 = .ok (.aload_n 0, 1) := by decide +kernel
theorem dX3_take_22 : decode cX3_take 22 = .ok (.getfield 9, 3) := by decide +kernel
theorem dX3_take_25 : decode cX3_take 25 = .ok (.putfield 9, 3) := by decide +kernel
theorem dX3_take_28 : decode cX3_take 28 = .ok (.aload_n 0, 1) := by decide +kernel
theorem dX3_take_29 : decode cX3_take 29 = .ok (.dup, 1) := by decide +kernel
theorem dX3_take_30 : decode cX3_take 30 = .ok (.getfield 15, 3) := by decide +kernel
theorem dX3_take_33 : decode cX3_take 33 = .ok (.iconst 1, 1) := by decide +kernel
theorem dX3_take_34 : decode cX3_take 34 = .ok (.iadd, 1) := by decide +kernel
theorem dX3_take_35 : decode cX3_take 35 = .ok (.putfield 15, 3) := by decide +kernel
theorem dX3_take_38 : decode cX3_take 38 = .ok (.aload_n 0, 1) := by decide +kernel
theorem dX3_take_39 : decode cX3_take 39 = .ok (.iconst 0, 1) := by decide +kernel
theorem dX3_take_40 : decode cX3_take 40 = .ok (.putfield 25, 3) := by decide +kernel
theorem dX3_take_43 : decode cX3_take 43 = .ok (.return_, 1) := by decide +kernel
theorem dX3_take_44 : decode cX3_take 44 = .ok (.iload_n 1, 1) := by decide +kernel
theorem dX3_take_45 : decode cX3_take 45 = .ok (.bipush 111, 2) := by decide +kernel
theorem dX3_take_47 : decode cX3_take 47 = .ok (.if_icmp .ne 18, 3) := by decide +kernel
theorem dX3_take_50 : decode cX3_take 50 = .ok (.aload_n 0, 1) := by decide +kernel
theorem dX3_take_51 : decode cX3_take 51 = .ok (.aload_n 0, 1) := by decide +kernel
theorem dX3_take_52 : decode cX3_take 52 = .ok (.getfield 25, 3) := by decide +kernel
theorem dX3_take_55 : decode cX3_take 55 = .ok (.aload_n 0, 1) := by decide +kernel
theorem dX3_take_56 : decode cX3_take 56 = .ok (.getfield 15, 3) := by decide +kernel
theorem dX3_take_59 : decode cX3_take 59 = .ok (.invokestatic 35, 3) := by decide +kernel
theorem dX3_take_62 : decode cX3_take 62 = .ok (.putfield 18, 3) := by decide +kernel
theorem dX3_take_65 : decode cX3_take 65 = .ok (.iload_n 1, 1) := by decide +kernel
theorem dX3_take_66 : decode cX3_take 66 = .ok (.bipush 35, 2) := by decide +kernel
theorem dX3_take_68 : decode cX3_take 68 = .ok (.if_icmp .ne 23, 3) := by decide +kernel
theorem dX3_take_71 : decode cX3_take 71 = .ok (.aload_n 0, 1) := by decide +kernel
theorem dX3_take_72 : decode cX3_take 72 = .ok (.dup, 1) := by decide +kernel
theorem dX3_take_73 : decode cX3_take 73 = .ok (.getfield 21, 3) := by decide +kernel
theorem dX3_take_76 : decode cX3_take 76 = .ok (.aload_n 0, 1) := by decide +kernel
theorem dX3_take_77 : decode cX3_take 77 = .ok (.getfield 25, 3) := by decide +kernel
theorem dX3_take_80 : decode cX3_take 80 = .ok (.aload_n 0, 1) := by decide +kernel
theorem dX3_take_81 : decode cX3_take 81 = .ok (.getfield 15, 3) := by decide +kernel
theorem dX3_take_84 : decode cX3_take 84 = .ok (.invokestatic 39, 3) := by decide +kernel
theorem dX3_take_87 : decode cX3_take 87 = .ok (.lor, 1) := by decide +kernel
theorem dX3_take_88 : decode cX3_take 88 = .ok (.putfield 21, 3) := by decide +kernel
theorem dX3_take_91 : decode cX3_take 91 = .ok (.aload_n 0, 1) := by decide +kernel
theorem dX3_take_92 : decode cX3_take 92 = .ok (.dup, 1) := by decide +kernel
theorem dX3_take_93 : decode cX3_take 93 = .ok (.getfield 25, 3) := by decide +kernel
theorem dX3_take_96 : decode cX3_take 96 = .ok (.iconst 1, 1) := by decide +kernel
theorem dX3_take_97 : decode cX3_take 97 = .ok (.iadd, 1) := by decide +kernel
theorem dX3_take_98 : decode cX3_take 98 = .ok (.putfield 25, 3) := by decide +kernel
theorem dX3_take_101 : decode cX3_take 101 = .ok (.return_, 1) := by decide +kernel
theorem dX3_isWhole_0 : decode cX3_isWhole 0 = .ok (.aload_n 0, 1) := by decide +kernel
theorem dX3_isWhole_1 : decode cX3_isWhole 1 = .ok (.getfield 15, 3) := by decide +kernel
theorem dX3_isWhole_4 : decode cX3_isWhole 4 = .ok (.iconst 1, 1) := by decide +kernel
theorem dX3_isWhole_5 : decode cX3_isWhole 5 = .ok (.iadd, 1) := by decide +kernel
theorem dX3_isWhole_6 : decode cX3_isWhole 6 = .ok (.iconst 2, 1) := by decide +kernel
theorem dX3_isWhole_7 : decode cX3_isWhole 7 = .ok (.if_icmp .lt 22, 3) := by decide +kernel
theorem dX3_isWhole_10 : decode cX3_isWhole 10 = .ok (.aload_n 0, 1) := by decide +kernel
theorem dX3_isWhole_11 : decode cX3_isWhole 11 = .ok (.invokevirtual 28, 3) := by decide +kernel
theorem dX3_isWhole_14 : decode cX3_isWhole 14 = .ok (.ifCond .eq 15, 3) := by decide +kernel
theorem dX3_isWhole_17 : decode cX3_isWhole 17 = .ok (.aload_n 0, 1) := by decide +kernel
theorem dX3_isWhole_18 : decode cX3_isWhole 18 = .ok (.getfield 18, 3) := by decide +kernel
theorem dX3_isWhole_21 : decode cX3_isWhole 21 = .ok (.iconst (-1), 1) := by decide +kernel
theorem dX3_isWhole_22 : decode cX3_isWhole 22 = .ok (.if_icmp .eq 7, 3) := by decide +kernel
theorem dX3_isWhole_25 : decode cX3_isWhole 25 = .ok (.iconst 1, 1) := by decide +kernel
theorem dX3_isWhole_26 : decode cX3_isWhole 26 = .ok (.goto 4, 3) := by decide +kernel
theorem dX3_isWhole_29 : decode cX3_isWhole 29 = .ok (.iconst 0, 1) := by decide +kernel
theorem dX3_isWhole_30 : decode cX3_isWhole 30 = .ok (.ireturn, 1) := by decide +kernel
theorem dX4_init_0 : decode cX4_init 0 = .ok (.aload_n 0, 1) := by decide +kernel
theorem dX4_init_1 : decode cX4_init 1 = .ok (.invokespecial 3, 3) := by decide +kernel
theorem dX4_init_4 : decode cX4_init 4 = .ok (.aload_n 0, 1) := by decide +kernel
theorem dX4_init_5 : decode cX4_init 5 = .ok (.new 9, 3) := by decide +kernel
theorem dX4_init_8 : decode cX4_init 8 = .ok (.dup, 1) := by decide +kernel
theorem dX4_init_9 : decode cX4_init 9 = .ok (.invokespecial 11, 3) := by decide +kernel
theorem dX4_init_12 : decode cX4_init 12 = .ok (.putfield 12, 3) := by decide +kernel
theorem dX4_init_15 : decode cX4_init 15 = .ok (.aload_n 0, 1) := by decide +kernel
theorem dX4_init_16 : decode cX4_init 16 = .ok (.iconst 2, 1) := by decide +kernel
theorem dX4_init_17 : decode cX4_init 17 = .ok (.anewarray 16, 3) := by decide +kernel
theorem dX4_init_20 : decode cX4_init 20 = .ok (.putfield 18, 3) := by decide +kernel
theorem dX4_init_23 : decode cX4_init 23 = .ok (.aload_n 0, 1) := by decide +kernel
theorem dX4_init_24 : decode cX4_init 24 = .ok (.new 22, 3) := by decide +kernel
theorem dX4_init_27 : decode cX4_init 27 = .ok (.dup, 1) := by decide +kernel
theorem dX4_init_28 : decode cX4_init 28 = .ok (.invokespecial 24, 3) := by decide +kernel
theorem dX4_init_31 : decode cX4_init 31 = .ok (.putfield 25, 3) := by decide +kernel
theorem dX4_init_34 : decode cX4_init 34 = .ok (.aload_n 0, 1) := by decide +kernel
theorem dX4_init_35 : decode cX4_init 35 = .ok (.new 29, 3) := by decide +kernel
theorem dX4_init_38 : decode cX4_init 38 = .ok (.dup, 1) := by decide +kernel
theorem dX4_init_39 : decode cX4_init 39 = .ok (.invokespecial 31, 3) := by decide +kernel
theorem dX4_init_42 : decode cX4_init 42 = .ok (.putfield 32, 3) := by decide +kernel
theorem dX4_init_45 : decode cX4_init 45 = .ok (.aload_n 0, 1) := by decide +kernel
theorem dX4_init_46 : decode cX4_init 46 = .ok (.new 16, 3) := by decide +kernel
theorem dX4_init_49 : decode cX4_init 49 = .ok (.dup, 1) := by decide +kernel
theorem dX4_init_50 : decode cX4_init 50 = .ok (.invokespecial 36, 3) := by decide +kernel
theorem dX4_init_53 : decode cX4_init 53 = .ok (.putfield 37, 3) := by decide +kernel
theorem dX4_init_56 : decode cX4_init 56 = .ok (.return_, 1) := by decide +kernel
theorem dX4_garden_0 : decode cX4_garden 0 = .ok (.iload_n 1, 1) := by decide +kernel
theorem dX4_garden_1 : decode cX4_garden 1 = .ok (.invokestatic 41, 3) := by decide +kernel
theorem dX4_garden_4 : decode cX4_garden 4 = .ok (.ifCond .eq 10, 3) := by decide +kernel
theorem dX4_garden_7 : decode cX4_garden 7 = .ok (.iload_n 2, 1) := by decide +kernel
theorem dX4_garden_8 : decode cX4_garden 8 = .ok (.invokestatic 41, 3) := by decide +kernel
theorem dX4_garden_11 : decode cX4_garden 11 = .ok (.ifCond .ne 13, 3) := by decide +kernel
theorem dX4_garden_14 : decode cX4_garden 14 = .ok (.new 45, 3) := by decide +kernel
theorem dX4_garden_17 : decode cX4_garden 17 = .ok (.dup, 1) := by decide +kernel
theorem dX4_garden_18 : decode cX4_garden 18 = .ok (.ldc 47, 2) := by decide +kernel
theorem dX4_garden_20 : decode cX4_garden 20 = .ok (.invokespecial 49, 3) := by decide +kernel
theorem dX4_garden_23 : decode cX4_garden 23 = .ok (.athrow, 1) := by decide +kernel
theorem dX4_garden_24 : decode cX4_garden 24 = .ok (.aload_n 0, 1) := by decide +kernel
theorem dX4_garden_25 : decode cX4_garden 25 = .ok (.invokevirtual 52, 3) := by decide +kernel
theorem dX4_garden_28 : decode cX4_garden 28 = .ok (.aload_n 0, 1) := by decide +kernel
theorem dX4_garden_29 : decode cX4_garden 29 = .ok (.getfield 37, 3) := by decide +kernel
theorem dX4_garden_32 : decode cX4_garden 32 = .ok (.iload_n 1, 1) := by decide +kernel
theorem dX4_garden_33 : decode cX4_garden 33 = .ok (.iload_n 2, 1) := by decide +kernel
theorem dX4_garden_34 : decode cX4_garden 34 = .ok (.iconst 0, 1) := by decide +kernel
theorem dX4_garden_35 : decode cX4_garden 35 = .ok (.lconst 0, 1) := by decide +kernel
theorem dX4_garden_36 : decode cX4_garden 36 = .ok (.invokevirtual 55, 3) := by decide +kernel
theorem dX4_garden_39 : decode cX4_garden 39 = .ok (.iload_n 1, 1) := by decide +kernel
theorem dX4_garden_40 : decode cX4_garden 40 = .ok (.iload_n 2, 1) := by decide +kernel
theorem dX4_garden_41 : decode cX4_garden 41 = .ok (.imul, 1) := by decide +kernel
theorem dX4_garden_42 : decode cX4_garden 42 = .ok (.ireturn, 1) := by decide +kernel
theorem dX4_pond_0 : decode cX4_pond 0 = .ok (.aload_n 0, 1) := by decide +kernel
theorem dX4_pond_1 : decode cX4_pond 1 = .ok (.iload_n 1, 1) := by decide +kernel
theorem dX4_pond_2 : decode cX4_pond 2 = .ok (.iload_n 2, 1) := by decide +kernel
theorem dX4_pond_3 : decode cX4_pond 3 = .ok (.invokevirtual 59, 3) := by decide +kernel
theorem dX4_pond_6 : decode cX4_pond 6 = .ok (.iload_n 1, 1) := by decide +kernel
theorem dX4_pond_7 : decode cX4_pond 7 = .ok (.iload_n 2, 1) := by decide +kernel
theorem dX4_pond_8 : decode cX4_pond 8 = .ok (.invokestatic 63, 3) := by decide +kernel
theorem dX4_pond_11 : decode cX4_pond 11 = .ok (.lstore_n 3, 1) := by decide +kernel
theorem dX4_pond_12 : decode cX4_pond 12 = .ok (.lload_n 3, 1) := by decide +kernel
theorem dX4_pond_13 : decode cX4_pond 13 = .ok (.aload_n 0, 1) := by decide +kernel
theorem dX4_pond_14 : decode cX4_pond 14 = .ok (.getfield 37, 3) := by decide +kernel
theorem dX4_pond_17 : decode cX4_pond 17 = .ok (.getfield 67, 3) := by decide +kernel
theorem dX4_pond_20 : decode cX4_pond 20 = .ok (.aload_n 0, 1) := by decide +kernel
theorem dX4_pond_21 : decode cX4_pond 21 = .ok (.getfield 37, 3) := by decide +kernel
theorem dX4_pond_24 : decode cX4_pond 24 = .ok (.getfield 71, 3) := by decide +kernel
theorem dX4_pond_27 : decode cX4_pond 27 = .ok (.lor, 1) := by decide +kernel
theorem dX4_pond_28 : decode cX4_pond 28 = .ok (.land, 1) := by decide +kernel
theorem dX4_pond_29 : decode cX4_pond 29 = .ok (.lconst 0, 1) := by decide +kernel
theorem dX4_pond_30 : decode cX4_pond 30 = .ok (.lcmp, 1) := by decide +kernel
theorem dX4_pond_31 : decode cX4_pond 31 = .ok (.ifCond .eq 13, 3) := by decide +kernel
theorem dX4_pond_34 : decode cX4_pond 34 = .ok (.new 74, 3) := by decide +kernel
theorem dX4_pond_37 : decode cX4_pond 37 = .ok (.dup, 1) := by decide +kernel
theorem dX4_pond_38 : decode cX4_pond 38 = .ok (.ldc 76, 2) := by decide +kernel
theorem dX4_pond_40 : decode cX4_pond 40 = .ok (.invokespecial 78, 3) := by decide +kernel
theorem dX4_pond_43 : decode cX4_pond 43 = .ok (.athrow, 1) := by decide +kernel
theorem dX4_pond_44 : decode cX4_pond 44 = .ok (.aload_n 0, 1) := by decide +kernel
theorem dX4_pond_45 : decode cX4_pond 45 = .ok (.invokevirtual 52, 3) := by decide +kernel
theorem dX4_pond_48 : decode cX4_pond 48 = .ok (.aload_n 0, 1) := by decide +kernel
theorem dX4_pond_49 : decode cX4_pond 49 = .ok (.getfield 37, 3) := by decide +kernel
theorem dX4_pond_52 : decode cX4_pond 52 = .ok (.getfield 79, 3) := by decide +kernel
theorem dX4_pond_55 : decode cX4_pond 55 = .ok (.istore 5, 2) := by decide +kernel
theorem dX4_pond_57 : decode cX4_pond 57 = .ok (.aload_n 0, 1) := by decide +kernel
theorem dX4_pond_58 : decode cX4_pond 58 = .ok (.getfield 37, 3) := by decide +kernel
theorem dX4_pond_61 : decode cX4_pond 61 = .ok (.iload_n 1, 1) := by decide +kernel
theorem dX4_pond_62 : decode cX4_pond 62 = .ok (.iload_n 2, 1) := by decide +kernel
theorem dX4_pond_63 : decode cX4_pond 63 = .ok (.invokestatic 83, 3) := by decide +kernel
theorem dX4_pond_66 : decode cX4_pond 66 = .ok (.putfield 79, 3) := by decide +kernel
theorem dX4_pond_69 : decode cX4_pond 69 = .ok (.iload 5, 2) := by decide +kernel
theorem dX4_pond_71 : decode cX4_pond 71 = .ok (.invokestatic 87, 3) := by decide +kernel
theorem dX4_pond_74 : decode cX4_pond 74 = .ok (.ireturn, 1) := by decide +kernel
theorem dX4_wall_0 : decode cX4_wall 0 = .ok (.aload_n 0, 1) := by decide +kernel
theorem dX4_wall_1 : decode cX4_wall 1 = .ok (.iload_n 1, 1) := by decide +kernel
theorem dX4_wall_2 : decode cX4_wall 2 = .ok (.iload_n 2, 1) := by decide +kernel
theorem dX4_wall_3 : decode cX4_wall 3 = .ok (.invokevirtual 59, 3) := by decide +kernel
theorem dX4_wall_6 : decode cX4_wall 6 = .ok (.iload_n 1, 1) := by decide +kernel
theorem dX4_wall_7 : decode cX4_wall 7 = .ok (.iload_n 2, 1) := by decide +kernel
theorem dX4_wall_8 : decode cX4_wall 8 = .ok (.invokestatic 63, 3) := by decide +kernel
theorem dX4_wall_11 : decode cX4_wall 11 = .ok (.lstore_n 3, 1) := by decide +kernel
theorem dX4_wall_12 : decode cX4_wall 12 = .ok (.lload_n 3, 1) := by decide +kernel
theorem dX4_wall_13 : decode cX4_wall 13 = .ok (.aload_n 0, 1) := by decide +kernel
theorem dX4_wall_14 : decode cX4_wall 14 = .ok (.getfield 37, 3) := by decide +kernel
theorem dX4_wall_17 : decode cX4_wall 17 = .ok (.invokevirtual 91, 3) := by decide +kernel
theorem dX4_wall_20 : decode cX4_wall 20 = .ok (.aload_n 0, 1) := by decide +kernel
theorem dX4_wall_21 : decode cX4_wall 21 = .ok (.getfield 37, 3) := by decide +kernel
theorem dX4_wall_24 : decode cX4_wall 24 = .ok (.getfield 71, 3) := by decide +kernel
theorem dX4_wall_27 : decode cX4_wall 27 = .ok (.lor, 1) := by decide +kernel
theorem dX4_wall_28 : decode cX4_wall 28 = .ok (.land, 1) := by decide +kernel
theorem dX4_wall_29 : decode cX4_wall 29 = .ok (.lconst 0, 1) := by decide +kernel
theorem dX4_wall_30 : decode cX4_wall 30 = .ok (.lcmp, 1) := by decide +kernel
theorem dX4_wall_31 : decode cX4_wall 31 = .ok (.ifCond .eq 13, 3) := by decide +kernel
theorem dX4_wall_34 : decode cX4_wall 34 = .ok (.new 74, 3) := by decide +kernel
theorem dX4_wall_37 : decode cX4_wall 37 = .ok (.dup, 1) := by decide +kernel
theorem dX4_wall_38 : decode cX4_wall 38 = .ok (.ldc 95, 2) := by decide +kernel
theorem dX4_wall_40 : decode cX4_wall 40 = .ok (.invokespecial 78, 3) := by decide +kernel
theorem dX4_wall_43 : decode cX4_wall 43 = .ok (.athrow, 1) := by decide +kernel
theorem dX4_wall_44 : decode cX4_wall 44 = .ok (.aload_n 0, 1) := by decide +kernel
theorem dX4_wall_45 : decode cX4_wall 45 = .ok (.invokevirtual 52, 3) := by decide +kernel
theorem dX4_wall_48 : decode cX4_wall 48 = .ok (.aload_n 0, 1) := by decide +kernel
theorem dX4_wall_49 : decode cX4_wall 49 = .ok (.getfield 37, 3) := by decide +kernel
theorem dX4_wall_52 : decode cX4_wall 52 = .ok (.dup, 1) := by decide +kernel
theorem dX4_wall_53 : decode cX4_wall 53 = .ok (.getfield 67, 3) := by decide +kernel
theorem dX4_wall_56 : decode cX4_wall 56 = .ok (.lload_n 3, 1) := by decide +kernel
theorem dX4_wall_57 : decode cX4_wall 57 = .ok (.lxor, 1) := by decide +kernel
theorem dX4_wall_58 : decode cX4_wall 58 = .ok (.putfield 67, 3) := by decide +kernel
theorem dX4_wall_61 : decode cX4_wall 61 = .ok (.aload_n 0, 1) := by decide +kernel
theorem dX4_wall_62 : decode cX4_wall 62 = .ok (.getfield 37, 3) := by decide +kernel
theorem dX4_wall_65 : decode cX4_wall 65 = .ok (.getfield 67, 3) := by decide +kernel
theorem dX4_wall_68 : decode cX4_wall 68 = .ok (.invokestatic 97, 3) := by decide +kernel
theorem dX4_wall_71 : decode cX4_wall 71 = .ok (.ireturn, 1) := by decide +kernel
theorem dX4_lay_0 : decode cX4_lay 0 = .ok (.iload_n 3, 1) := by decide +kernel
theorem dX4_lay_1 : decode cX4_lay 1 = .ok (.invokestatic 103, 3) := by decide +kernel
theorem dX4_lay_4 : decode cX4_lay 4 = .ok (.aload_n 0, 1) := by decide +kernel
theorem dX4_lay_5 : decode cX4_lay 5 = .ok (.invokevirtual 52, 3) := by decide +kernel
theorem dX4_lay_8 : decode cX4_lay 8 = .ok (.aload_n 0, 1) := by decide +kernel
theorem dX4_lay_9 : decode cX4_lay 9 = .ok (.getfield 37, 3) := by decide +kernel
theorem dX4_lay_12 : decode cX4_lay 12 = .ok (.iload_n 1, 1) := by decide +kernel
theorem dX4_lay_13 : decode cX4_lay 13 = .ok (.iload_n 2, 1) := by decide +kernel
theorem dX4_lay_14 : decode cX4_lay 14 = .ok (.iload_n 3, 1) := by decide +kernel
theorem dX4_lay_15 : decode cX4_lay 15 = .ok (.invokevirtual 107, 3) := by decide +kernel
theorem dX4_lay_18 : decode cX4_lay 18 = .ok (.istore 4, 2) := by decide +kernel
theorem dX4_lay_20 : decode cX4_lay 20 = .ok (.iload 4, 2) := by decide +kernel
theorem dX4_lay_22 : decode cX4_lay 22 = .ok (.ifCond .ne 16, 3) := by decide +kernel
theorem dX4_lay_25 : decode cX4_lay 25 = .ok (.aload_n 0, 1) := by decide +kernel
theorem dX4_lay_26 : decode cX4_lay 26 = .ok (.getfield 37, 3) := by decide +kernel
theorem dX4_lay_29 : decode cX4_lay 29 = .ok (.iload_n 1, 1) := by decide +kernel
theorem dX4_lay_30 : decode cX4_lay 30 = .ok (.iload_n 2, 1) := by decide +kernel
theorem dX4_lay_31 : decode cX4_lay 31 = .ok (.iload_n 3, 1) := by decide +kernel
theorem dX4_lay_32 : decode cX4_lay 32 = .ok (.invokevirtual 111, 3) := by decide +kernel
theorem dX4_lay_35 : decode cX4_lay 35 = .ok (.goto 16, 3) := by decide +kernel
theorem dX4_lay_38 : decode cX4_lay 38 = .ok (.aload_n 0, 1) := by decide +kernel
theorem dX4_lay_39 : decode cX4_lay 39 = .ok (.getfield 37, 3) := by decide +kernel
theorem dX4_lay_42 : decode cX4_lay 42 = .ok (.dup, 1) := by decide +kernel
theorem dX4_lay_43 : decode cX4_lay 43 = .ok (.getfield 115, 3) := by decide +kernel
theorem dX4_lay_46 : decode cX4_lay 46 = .ok (.iconst 1, 1) := by decide +kernel
theorem dX4_lay_47 : decode cX4_lay 47 = .ok (.iadd, 1) := by decide +kernel
theorem dX4_lay_48 : decode cX4_lay 48 = .ok (.putfield 115, 3) := by decide +kernel
theorem dX4_lay_51 : decode cX4_lay 51 = .ok (.iload 4, 2) := by decide +kernel
theorem dX4_lay_53 : decode cX4_lay 53 = .ok (.ireturn, 1) := by decide +kernel
theorem dX4_lift_0 : decode cX4_lift 0 = .ok (.aload_n 0, 1) := by decide +kernel
theorem dX4_lift_1 : decode cX4_lift 1 = .ok (.iload_n 1, 1) := by decide +kernel
theorem dX4_lift_2 : decode cX4_lift 2 = .ok (.iload_n 2, 1) := by decide +kernel
theorem dX4_lift_3 : decode cX4_lift 3 = .ok (.invokevirtual 59, 3) := by decide +kernel
theorem dX4_lift_6 : decode cX4_lift 6 = .ok (.aload_n 0, 1) := by decide +kernel
theorem dX4_lift_7 : decode cX4_lift 7 = .ok (.getfield 37, 3) := by decide +kernel
theorem dX4_lift_10 : decode cX4_lift 10 = .ok (.iload_n 1, 1) := by decide +kernel
theorem dX4_lift_11 : decode cX4_lift 11 = .ok (.iload_n 2, 1) := by decide +kernel
theorem dX4_lift_12 : decode cX4_lift 12 = .ok (.invokestatic 63, 3) := by decide +kernel
theorem dX4_lift_15 : decode cX4_lift 15 = .ok (.invokevirtual 118, 3) := by decide +kernel
theorem dX4_lift_18 : decode cX4_lift 18 = .ok (.istore_n 3, 1) := by decide +kernel
theorem dX4_lift_19 : decode cX4_lift 19 = .ok (.iload_n 3, 1) := by decide +kernel
theorem dX4_lift_20 : decode cX4_lift 20 = .ok (.iconst (-1), 1) := by decide +kernel
theorem dX4_lift_21 : decode cX4_lift 21 = .ok (.if_icmp .ne 13, 3) := by decide +kernel
theorem dX4_lift_24 : decode cX4_lift 24 = .ok (.new 74, 3) := by decide +kernel
theorem dX4_lift_27 : decode cX4_lift 27 = .ok (.dup, 1) := by decide +kernel
theorem dX4_lift_28 : decode cX4_lift 28 = .ok (.ldc 121, 2) := by decide +kernel
theorem dX4_lift_30 : decode cX4_lift 30 = .ok (.invokespecial 78, 3) := by decide +kernel
theorem dX4_lift_33 : decode cX4_lift 33 = .ok (.athrow, 1) := by decide +kernel
theorem dX4_lift_34 : decode cX4_lift 34 = .ok (.aload_n 0, 1) := by decide +kernel
theorem dX4_lift_35 : decode cX4_lift 35 = .ok (.invokevirtual 52, 3) := by decide +kernel
theorem dX4_lift_38 : decode cX4_lift 38 = .ok (.aload_n 0, 1) := by decide +kernel
theorem dX4_lift_39 : decode cX4_lift 39 = .ok (.getfield 37, 3) := by decide +kernel
theorem dX4_lift_42 : decode cX4_lift 42 = .ok (.iload_n 3, 1) := by decide +kernel
theorem dX4_lift_43 : decode cX4_lift 43 = .ok (.invokevirtual 123, 3) := by decide +kernel
theorem dX4_lift_46 : decode cX4_lift 46 = .ok (.iload_n 3, 1) := by decide +kernel
theorem dX4_lift_47 : decode cX4_lift 47 = .ok (.ireturn, 1) := by decide +kernel
theorem dX4_flip_0 : decode cX4_flip 0 = .ok (.aload_n 0, 1) := by decide +kernel
theorem dX4_flip_1 : decode cX4_flip 1 = .ok (.getfield 37, 3) := by decide +kernel
theorem dX4_flip_4 : decode cX4_flip 4 = .ok (.iload_n 1, 1) := by decide +kernel
theorem dX4_flip_5 : decode cX4_flip 5 = .ok (.iload_n 2, 1) := by decide +kernel
theorem dX4_flip_6 : decode cX4_flip 6 = .ok (.iload_n 3, 1) := by decide +kernel
theorem dX4_flip_7 : decode cX4_flip 7 = .ok (.invokevirtual 126, 3) := by decide +kernel
theorem dX4_flip_10 : decode cX4_flip 10 = .ok (.ifCond .ne 13, 3) := by decide +kernel
theorem dX4_flip_13 : decode cX4_flip 13 = .ok (.new 130, 3) := by decide +kernel
theorem dX4_flip_16 : decode cX4_flip 16 = .ok (.dup, 1) := by decide +kernel
theorem dX4_flip_17 : decode cX4_flip 17 = .ok (.ldc 132, 2) := by decide +kernel
theorem dX4_flip_19 : decode cX4_flip 19 = .ok (.invokespecial 134, 3) := by decide +kernel
theorem dX4_flip_22 : decode cX4_flip 22 = .ok (.athrow, 1) := by decide +kernel
theorem dX4_flip_23 : decode cX4_flip 23 = .ok (.aload_n 0, 1) := by decide +kernel
theorem dX4_flip_24 : decode cX4_flip 24 = .ok (.getfield 37, 3) := by decide +kernel
theorem dX4_flip_27 : decode cX4_flip 27 = .ok (.iload_n 1, 1) := by decide +kernel
theorem dX4_flip_28 : decode cX4_flip 28 = .ok (.iload_n 2, 1) := by decide +kernel
theorem dX4_flip_29 : decode cX4_flip 29 = .ok (.iload_n 3, 1) := by decide +kernel
theorem dX4_flip_30 : decode cX4_flip 30 = .ok (.invokevirtual 135, 3) := by decide +kernel
theorem dX4_flip_33 : decode cX4_flip 33 = .ok (.ifCond .ne 13, 3) := by decide +kernel
theorem dX4_flip_36 : decode cX4_flip 36 = .ok (.new 74, 3) := by decide +kernel
theorem dX4_flip_39 : decode cX4_flip 39 = .ok (.dup, 1) := by decide +kernel
theorem dX4_flip_40 : decode cX4_flip 40 = .ok (.ldc 138, 2) := by decide +kernel
theorem dX4_flip_42 : decode cX4_flip 42 = .ok (.invokespecial 78, 3) := by decide +kernel
theorem dX4_flip_45 : decode cX4_flip 45 = .ok (.athrow, 1) := by decide +kernel
theorem dX4_flip_46 : decode cX4_flip 46 = .ok (.aload_n 0, 1) := by decide +kernel
theorem dX4_flip_47 : decode cX4_flip 47 = .ok (.invokevirtual 52, 3) := by decide +kernel
theorem dX4_flip_50 : decode cX4_flip 50 = .ok (.aload_n 0, 1) := by decide +kernel
theorem dX4_flip_51 : decode cX4_flip 51 = .ok (.getfield 37, 3) := by decide +kernel
theorem dX4_flip_54 : decode cX4_flip 54 = .ok (.iload_n 1, 1) := by decide +kernel
theorem dX4_flip_55 : decode cX4_flip 55 = .ok (.iload_n 2, 1) := by decide +kernel
theorem dX4_flip_56 : decode cX4_flip 56 = .ok (.iload_n 3, 1) := by decide +kernel
theorem dX4_flip_57 : decode cX4_flip 57 = .ok (.invokevirtual 140, 3) := by decide +kernel
theorem dX4_flip_60 : decode cX4_flip 60 = .ok (.aload_n 0, 1) := by decide +kernel
theorem dX4_flip_61 : decode cX4_flip 61 = .ok (.getfield 37, 3) := by decide +kernel
theorem dX4_flip_64 : decode cX4_flip 64 = .ok (.getfield 144, 3) := by decide +kernel
theorem dX4_flip_67 : decode cX4_flip 67 = .ok (.ireturn, 1) := by decide +kernel
theorem dX4_fill_0 : decode cX4_fill 0 = .ok (.aload_n 0, 1) := by decide +kernel
theorem dX4_fill_1 : decode cX4_fill 1 = .ok (.getfield 32, 3) := by decide +kernel
theorem dX4_fill_4 : decode cX4_fill 4 = .ok (.aload_n 0, 1) := by decide +kernel
theorem dX4_fill_5 : decode cX4_fill 5 = .ok (.getfield 37, 3) := by decide +kernel
theorem dX4_fill_8 : decode cX4_fill 8 = .ok (.invokevirtual 147, 3) := by decide +kernel
theorem dX4_fill_11 : decode cX4_fill 11 = .ok (.invokevirtual 150, 3) := by decide +kernel
theorem dX4_fill_14 : decode cX4_fill 14 = .ok (.ifCond .ne 13, 3) := by decide +kernel
theorem dX4_fill_17 : decode cX4_fill 17 = .ok (.new 74, 3) := by decide +kernel
theorem dX4_fill_20 : decode cX4_fill 20 = .ok (.dup, 1) := by decide +kernel
theorem dX4_fill_21 : decode cX4_fill 21 = .ok (.ldc 153, 2) := by decide +kernel
theorem dX4_fill_23 : decode cX4_fill 23 = .ok (.invokespecial 78, 3) := by decide +kernel
theorem dX4_fill_26 : decode cX4_fill 26 = .ok (.athrow, 1) := by decide +kernel
theorem dX4_fill_27 : decode cX4_fill 27 = .ok (.aload_n 0, 1) := by decide +kernel
theorem dX4_fill_28 : decode cX4_fill 28 = .ok (.invokevirtual 52, 3) := by decide +kernel
theorem dX4_fill_31 : decode cX4_fill 31 = .ok (.aload_n 0, 1) := by decide +kernel
theorem dX4_fill_32 : decode cX4_fill 32 = .ok (.getfield 37, 3) := by decide +kernel
theorem dX4_fill_35 : decode cX4_fill 35 = .ok (.getfield 155, 3) := by decide +kernel
theorem dX4_fill_38 : decode cX4_fill 38 = .ok (.istore_n 1, 1) := by decide +kernel
theorem dX4_fill_39 : decode cX4_fill 39 = .ok (.aload_n 0, 1) := by decide +kernel
theorem dX4_fill_40 : decode cX4_fill 40 = .ok (.getfield 32, 3) := by decide +kernel
theorem dX4_fill_43 : decode cX4_fill 43 = .ok (.aload_n 0, 1) := by decide +kernel
theorem dX4_fill_44 : decode cX4_fill 44 = .ok (.getfield 37, 3) := by decide +kernel
theorem dX4_fill_47 : decode cX4_fill 47 = .ok (.invokevirtual 158, 3) := by decide +kernel
theorem dX4_fill_50 : decode cX4_fill 50 = .ok (.aload_n 0, 1) := by decide +kernel
theorem dX4_fill_51 : decode cX4_fill 51 = .ok (.getfield 37, 3) := by decide +kernel
theorem dX4_fill_54 : decode cX4_fill 54 = .ok (.getfield 155, 3) := by decide +kernel
theorem dX4_fill_57 : decode cX4_fill 57 = .ok (.iload_n 1, 1) := by decide +kernel
theorem dX4_fill_58 : decode cX4_fill 58 = .ok (.isub, 1) := by decide +kernel
theorem dX4_fill_59 : decode cX4_fill 59 = .ok (.ireturn, 1) := by decide +kernel
theorem dX4_halve_0 : decode cX4_halve 0 = .ok (.aload_n 0, 1) := by decide +kernel
theorem dX4_halve_1 : decode cX4_halve 1 = .ok (.getfield 37, 3) := by decide +kernel
theorem dX4_halve_4 : decode cX4_halve 4 = .ok (.invokevirtual 162, 3) := by decide +kernel
theorem dX4_halve_7 : decode cX4_halve 7 = .ok (.ifCond .ne 13, 3) := by decide +kernel
theorem dX4_halve_10 : decode cX4_halve 10 = .ok (.new 74, 3) := by decide +kernel
theorem dX4_halve_13 : decode cX4_halve 13 = .ok (.dup, 1) := by decide +kernel
theorem dX4_halve_14 : decode cX4_halve 14 = .ok (.ldc 166, 2) := by decide +kernel
theorem dX4_halve_16 : decode cX4_halve 16 = .ok (.invokespecial 78, 3) := by decide +kernel
theorem dX4_halve_19 : decode cX4_halve 19 = .ok (.athrow, 1) := by decide +kernel
theorem dX4_halve_20 : decode cX4_halve 20 = .ok (.aload_n 0, 1) := by decide +kernel
theorem dX4_halve_21 : decode cX4_halve 21 = .ok (.invokevirtual 52, 3) := by decide +kernel
theorem dX4_halve_24 : decode cX4_halve 24 = .ok (.aload_n 0, 1) := by decide +kernel
theorem dX4_halve_25 : decode cX4_halve 25 = .ok (.getfield 37, 3) := by decide +kernel
theorem dX4_halve_28 : decode cX4_halve 28 = .ok (.invokevirtual 168, 3) := by decide +kernel
theorem dX4_halve_31 : decode cX4_halve 31 = .ok (.aload_n 0, 1) := by decide +kernel
theorem dX4_halve_32 : decode cX4_halve 32 = .ok (.getfield 37, 3) := by decide +kernel
theorem dX4_halve_35 : decode cX4_halve 35 = .ok (.getfield 155, 3) := by decide +kernel
theorem dX4_halve_38 : decode cX4_halve 38 = .ok (.ireturn, 1) := by decide +kernel
theorem dX4_append_0 : decode cX4_append 0 = .ok (.iload_n 1, 1) := by decide +kernel
theorem dX4_append_1 : decode cX4_append 1 = .ok (.bipush 33, 2) := by decide +kernel
theorem dX4_append_3 : decode cX4_append 3 = .ok (.if_icmp .lt 9, 3) := by decide +kernel
theorem dX4_append_6 : decode cX4_append 6 = .ok (.iload_n 1, 1) := by decide +kernel
theorem dX4_append_7 : decode cX4_append 7 = .ok (.bipush 126, 2) := by decide +kernel
theorem dX4_append_9 : decode cX4_append 9 = .ok (.if_icmp .le 13, 3) := by decide +kernel
theorem dX4_append_12 : decode cX4_append 12 = .ok (.new 45, 3) := by decide +kernel
theorem dX4_append_15 : decode cX4_append 15 = .ok (.dup, 1) := by decide +kernel
theorem dX4_append_16 : decode cX4_append 16 = .ok (.ldc 171, 2) := by decide +kernel
theorem dX4_append_18 : decode cX4_append 18 = .ok (.invokespecial 49, 3) := by decide +kernel
theorem dX4_append_21 : decode cX4_append 21 = .ok (.athrow, 1) := by decide +kernel
theorem dX4_append_22 : decode cX4_append 22 = .ok (.aload_n 0, 1) := by decide +kernel
theorem dX4_append_23 : decode cX4_append 23 = .ok (.getfield 25, 3) := by decide +kernel
theorem dX4_append_26 : decode cX4_append 26 = .ok (.invokevirtual 173, 3) := by decide +kernel
theorem dX4_append_29 : decode cX4_append 29 = .ok (.ifCond .eq 13, 3) := by decide +kernel
theorem dX4_append_32 : decode cX4_append 32 = .ok (.new 74, 3) := by decide +kernel
theorem dX4_append_35 : decode cX4_append 35 = .ok (.dup, 1) := by decide +kernel
theorem dX4_append_36 : decode cX4_append 36 = .ok (.ldc 176, 2) := by decide +kernel
theorem dX4_append_38 : decode cX4_append 38 = .ok (.invokespecial 78, 3) := by decide +kernel
theorem dX4_append_41 : decode cX4_append 41 = .ok (.athrow, 1) := by decide +kernel
theorem dX4_append_42 : decode cX4_append 42 = .ok (.aload_n 0, 1) := by decide +kernel
theorem dX4_append_43 : decode cX4_append 43 = .ok (.getfield 25, 3) := by decide +kernel
theorem dX4_append_46 : decode cX4_append 46 = .ok (.iload_n 1, 1) := by decide +kernel
theorem dX4_append_47 : decode cX4_append 47 = .ok (.invokevirtual 178, 3) := by decide +kernel
theorem dX4_append_50 : decode cX4_append 50 = .ok (.aload_n 0, 1) := by decide +kernel
theorem dX4_append_51 : decode cX4_append 51 = .ok (.getfield 25, 3) := by decide +kernel
theorem dX4_append_54 : decode cX4_append 54 = .ok (.getfield 181, 3) := by decide +kernel
theorem dX4_append_57 : decode cX4_append 57 = .ok (.ireturn, 1) := by decide +kernel
theorem dX4_firstError_0 : decode cX4_firstError 0 = .ok (.aload_n 0, 1) := by decide +kernel
theorem dX4_firstError_1 : decode cX4_firstError 1 = .ok (.getfield 25, 3) := by decide +kernel
theorem dX4_firstError_4 : decode cX4_firstError 4 = .ok (.new 184, 3) := by decide +kernel
theorem dX4_firstError_7 : decode cX4_firstError 7 = .ok (.dup, 1) := by decide +kernel
theorem dX4_firstError_8 : decode cX4_firstError 8 = .ok (.invokespecial 186, 3) := by decide +kernel
theorem dX4_firstError_11 : decode cX4_firstError 11 = .ok (.invokevirtual 187, 3) := by decide +kernel
theorem dX4_firstError_14 : decode cX4_firstError 14 = .ok (.ireturn, 1) := by decide +kernel
theorem dX4_load_0 : decode cX4_load 0 = .ok (.new 184, 3) := by decide +kernel
theorem dX4_load_3 : decode cX4_load 3 = .ok (.dup, 1) := by decide +kernel
theorem dX4_load_4 : decode cX4_load 4 = .ok (.invokespecial 186, 3) := by decide +kernel
theorem dX4_load_7 : decode cX4_load 7 = .ok (.astore_n 1, 1) := by decide +kernel
theorem dX4_load_8 : decode cX4_load 8 = .ok (.aload_n 0, 1) := by decide +kernel
theorem dX4_load_9 : decode cX4_load 9 = .ok (.getfield 25, 3) := by decide +kernel
theorem dX4_load_12 : decode cX4_load 12 = .ok (.aload_n 1, 1) := by decide +kernel
theorem dX4_load_13 : decode cX4_load 13 = .ok (.invokevirtual 187, 3) := by decide +kernel
theorem dX4_load_16 : decode cX4_load 16 = .ok (.aload_n 0, 1) := by decide +kernel
theorem dX4_load_17 : decode cX4_load 17 = .ok (.getfield 25, 3) := by decide +kernel
theorem dX4_load_20 : decode cX4_load 20 = .ok (.getfield 181, 3) := by decide +kernel
theorem dX4_load_23 : decode cX4_load 23 = .ok (.if_icmp .lt 10, 3) := by decide +kernel
theorem dX4_load_26 : decode cX4_load 26 = .ok (.aload_n 1, 1) := by decide +kernel
theorem dX4_load_27 : decode cX4_load 27 = .ok (.invokevirtual 191, 3) := by decide +kernel
theorem dX4_load_30 : decode cX4_load 30 = .ok (.ifCond .ne 13, 3) := by decide +kernel
theorem dX4_load_33 : decode cX4_load 33 = .ok (.new 45, 3) := by decide +kernel
theorem dX4_load_36 : decode cX4_load 36 = .ok (.dup, 1) := by decide +kernel
theorem dX4_load_37 : decode cX4_load 37 = .ok (.ldc 194, 2) := by decide +kernel
theorem dX4_load_39 : decode cX4_load 39 = .ok (.invokespecial 49, 3) := by decide +kernel
theorem dX4_load_42 : decode cX4_load 42 = .ok (.athrow, 1) := by decide +kernel
theorem dX4_load_43 : decode cX4_load 43 = .ok (.aload_n 0, 1) := by decide +kernel
theorem dX4_load_44 : decode cX4_load 44 = .ok (.invokevirtual 52, 3) := by decide +kernel
theorem dX4_load_47 : decode cX4_load 47 = .ok (.aload_n 0, 1) := by decide +kernel
theorem dX4_load_48 : decode cX4_load 48 = .ok (.getfield 37, 3) := by decide +kernel
theorem dX4_load_51 : decode cX4_load 51 = .ok (.aload_n 1, 1) := by decide +kernel
theorem dX4_load_52 : decode cX4_load 52 = .ok (.getfield 196, 3) := by decide +kernel
theorem dX4_load_55 : decode cX4_load 55 = .ok (.aload_n 1, 1) := by decide +kernel
theorem dX4_load_56 : decode cX4_load 56 = .ok (.getfield 199, 3) := by decide +kernel
theorem dX4_load_59 : decode cX4_load 59 = .ok (.iconst 1, 1) := by decide +kernel
theorem dX4_load_60 : decode cX4_load 60 = .ok (.iadd, 1) := by decide +kernel
theorem dX4_load_61 : decode cX4_load 61 = .ok (.aload_n 1, 1) := by decide +kernel
theorem dX4_load_62 : decode cX4_load 62 = .ok (.getfield 202, 3) := by decide +kernel
theorem dX4_load_65 : decode cX4_load 65 = .ok (.aload_n 1, 1) := by decide +kernel
theorem dX4_load_66 : decode cX4_load 66 = .ok (.getfield 203, 3) := by decide +kernel
theorem dX4_load_69 : decode cX4_load 69 = .ok (.invokevirtual 55, 3) := by decide +kernel
theorem dX4_load_72 : decode cX4_load 72 = .ok (.aload_n 0, 1) := by decide +kernel
theorem dX4_load_73 : decode cX4_load 73 = .ok (.getfield 25, 3) := by decide +kernel
theorem dX4_load_76 : decode cX4_load 76 = .ok (.iconst 0, 1) := by decide +kernel
theorem dX4_load_77 : decode cX4_load 77 = .ok (.putfield 181, 3) := by decide +kernel
theorem dX4_load_80 : decode cX4_load 80 = .ok (.aload_n 0, 1) := by decide +kernel
theorem dX4_load_81 : decode cX4_load 81 = .ok (.getfield 37, 3) := by decide +kernel
theorem dX4_load_84 : decode cX4_load 84 = .ok (.invokevirtual 147, 3) := by decide +kernel
theorem dX4_load_87 : decode cX4_load 87 = .ok (.invokestatic 97, 3) := by decide +kernel
theorem dX4_load_90 : decode cX4_load 90 = .ok (.ireturn, 1) := by decide +kernel
theorem dX4_keep_0 : decode cX4_keep 0 = .ok (.aload_n 0, 1) := by decide +kernel
theorem dX4_keep_1 : decode cX4_keep 1 = .ok (.iload_n 1, 1) := by decide +kernel
theorem dX4_keep_2 : decode cX4_keep 2 = .ok (.invokevirtual 204, 3) := by decide +kernel
theorem dX4_keep_5 : decode cX4_keep 5 = .ok (.aload_n 0, 1) := by decide +kernel
theorem dX4_keep_6 : decode cX4_keep 6 = .ok (.getfield 18, 3) := by decide +kernel
theorem dX4_keep_9 : decode cX4_keep 9 = .ok (.iload_n 1, 1) := by decide +kernel
theorem dX4_keep_10 : decode cX4_keep 10 = .ok (.aload_n 0, 1) := by decide +kernel
theorem dX4_keep_11 : decode cX4_keep 11 = .ok (.getfield 37, 3) := by decide +kernel
theorem dX4_keep_14 : decode cX4_keep 14 = .ok (.invokevirtual 207, 3) := by decide +kernel
theorem dX4_keep_17 : decode cX4_keep 17 = .ok (.aastore, 1) := by decide +kernel
theorem dX4_keep_18 : decode cX4_keep 18 = .ok (.aload_n 0, 1) := by decide +kernel
theorem dX4_keep_19 : decode cX4_keep 19 = .ok (.getfield 37, 3) := by decide +kernel
theorem dX4_keep_22 : decode cX4_keep 22 = .ok (.getfield 155, 3) := by decide +kernel
theorem dX4_keep_25 : decode cX4_keep 25 = .ok (.ireturn, 1) := by decide +kernel
theorem dX4_goBack_0 : decode cX4_goBack 0 = .ok (.aload_n 0, 1) := by decide +kernel
theorem dX4_goBack_1 : decode cX4_goBack 1 = .ok (.iload_n 1, 1) := by decide +kernel
theorem dX4_goBack_2 : decode cX4_goBack 2 = .ok (.invokevirtual 204, 3) := by decide +kernel
theorem dX4_goBack_5 : decode cX4_goBack 5 = .ok (.aload_n 0, 1) := by decide +kernel
theorem dX4_goBack_6 : decode cX4_goBack 6 = .ok (.getfield 18, 3) := by decide +kernel
theorem dX4_goBack_9 : decode cX4_goBack 9 = .ok (.iload_n 1, 1) := by decide +kernel
theorem dX4_goBack_10 : decode cX4_goBack 10 = .ok (.aaload, 1) := by decide +kernel
theorem dX4_goBack_11 : decode cX4_goBack 11 = .ok (.astore_n 2, 1) := by decide +kernel
theorem dX4_goBack_12 : decode cX4_goBack 12 = .ok (.aload_n 2, 1) := by decide +kernel
theorem dX4_goBack_13 : decode cX4_goBack 13 = .ok (.ifnonnull 13, 3) := by decide +kernel
theorem dX4_goBack_16 : decode cX4_goBack 16 = .ok (.new 74, 3) := by decide +kernel
theorem dX4_goBack_19 : decode cX4_goBack 19 = .ok (.dup, 1) := by decide +kernel
theorem dX4_goBack_20 : decode cX4_goBack 20 = .ok (.ldc 211, 2) := by decide +kernel
theorem dX4_goBack_22 : decode cX4_goBack 22 = .ok (.invokespecial 78, 3) := by decide +kernel
theorem dX4_goBack_25 : decode cX4_goBack 25 = .ok (.athrow, 1) := by decide +kernel
theorem dX4_goBack_26 : decode cX4_goBack 26 = .ok (.aload_n 0, 1) := by decide +kernel
theorem dX4_goBack_27 : decode cX4_goBack 27 = .ok (.invokevirtual 52, 3) := by decide +kernel
theorem dX4_goBack_30 : decode cX4_goBack 30 = .ok (.aload_n 0, 1) := by decide +kernel
theorem dX4_goBack_31 : decode cX4_goBack 31 = .ok (.aload_n 2, 1) := by decide +kernel
theorem dX4_goBack_32 : decode cX4_goBack 32 = .ok (.invokevirtual 207, 3) := by decide +kernel
theorem dX4_goBack_35 : decode cX4_goBack 35 = .ok (.putfield 37, 3) := by decide +kernel
theorem dX4_goBack_38 : decode cX4_goBack 38 = .ok (.aload_n 0, 1) := by decide +kernel
theorem dX4_goBack_39 : decode cX4_goBack 39 = .ok (.getfield 37, 3) := by decide +kernel
theorem dX4_goBack_42 : decode cX4_goBack 42 = .ok (.getfield 155, 3) := by decide +kernel
theorem dX4_goBack_45 : decode cX4_goBack 45 = .ok (.ireturn, 1) := by decide +kernel
theorem dX4_undo_0 : decode cX4_undo 0 = .ok (.aload_n 0, 1) := by decide +kernel
theorem dX4_undo_1 : decode cX4_undo 1 = .ok (.getfield 12, 3) := by decide +kernel
theorem dX4_undo_4 : decode cX4_undo 4 = .ok (.invokevirtual 213, 3) := by decide +kernel
theorem dX4_undo_7 : decode cX4_undo 7 = .ok (.iconst 1, 1) := by decide +kernel
theorem dX4_undo_8 : decode cX4_undo 8 = .ok (.isub, 1) := by decide +kernel
theorem dX4_undo_9 : decode cX4_undo 9 = .ok (.istore_n 1, 1) := by decide +kernel
theorem dX4_undo_10 : decode cX4_undo 10 = .ok (.iload_n 1, 1) := by decide +kernel
theorem dX4_undo_11 : decode cX4_undo 11 = .ok (.ifCond .ge 13, 3) := by decide +kernel
theorem dX4_undo_14 : decode cX4_undo 14 = .ok (.new 74, 3) := by decide +kernel
theorem dX4_undo_17 : decode cX4_undo 17 = .ok (.dup, 1) := by decide +kernel
theorem dX4_undo_18 : decode cX4_undo 18 = .ok (.ldc 217, 2) := by decide +kernel
theorem dX4_undo_20 : decode cX4_undo 20 = .ok (.invokespecial 78, 3) := by decide +kernel
theorem dX4_undo_23 : decode cX4_undo 23 = .ok (.athrow, 1) := by decide +kernel
theorem dX4_undo_24 : decode cX4_undo 24 = .ok (.aload_n 0, 1) := by decide +kernel
theorem dX4_undo_25 : decode cX4_undo 25 = .ok (.aload_n 0, 1) := by decide +kernel
theorem dX4_undo_26 : decode cX4_undo 26 = .ok (.getfield 12, 3) := by decide +kernel
theorem dX4_undo_29 : decode cX4_undo 29 = .ok (.iload_n 1, 1) := by decide +kernel
theorem dX4_undo_30 : decode cX4_undo 30 = .ok (.invokevirtual 219, 3) := by decide +kernel
theorem dX4_undo_33 : decode cX4_undo 33 = .ok (.checkcast 16, 3) := by decide +kernel
theorem dX4_undo_36 : decode cX4_undo 36 = .ok (.putfield 37, 3) := by decide +kernel
theorem dX4_undo_39 : decode cX4_undo 39 = .ok (.aload_n 0, 1) := by decide +kernel
theorem dX4_undo_40 : decode cX4_undo 40 = .ok (.getfield 12, 3) := by decide +kernel
theorem dX4_undo_43 : decode cX4_undo 43 = .ok (.iload_n 1, 1) := by decide +kernel
theorem dX4_undo_44 : decode cX4_undo 44 = .ok (.invokevirtual 223, 3) := by decide +kernel
theorem dX4_undo_47 : decode cX4_undo 47 = .ok (.pop, 1) := by decide +kernel
theorem dX4_undo_48 : decode cX4_undo 48 = .ok (.iload_n 1, 1) := by decide +kernel
theorem dX4_undo_49 : decode cX4_undo 49 = .ok (.ireturn, 1) := by decide +kernel
theorem dX4_cell_0 : decode cX4_cell 0 = .ok (.aload_n 0, 1) := by decide +kernel
theorem dX4_cell_1 : decode cX4_cell 1 = .ok (.iload_n 1, 1) := by decide +kernel
theorem dX4_cell_2 : decode cX4_cell 2 = .ok (.iload_n 2, 1) := by decide +kernel
theorem dX4_cell_3 : decode cX4_cell 3 = .ok (.invokevirtual 59, 3) := by decide +kernel
theorem dX4_cell_6 : decode cX4_cell 6 = .ok (.iload_n 3, 1) := by decide +kernel
theorem dX4_cell_7 : decode cX4_cell 7 = .ok (.invokestatic 226, 3) := by decide +kernel
theorem dX4_cell_10 : decode cX4_cell 10 = .ok (.iload_n 3, 1) := by decide +kernel
theorem dX4_cell_11 : decode cX4_cell 11 = .ok (.ifCond .ne 16, 3) := by decide +kernel
theorem dX4_cell_14 : decode cX4_cell 14 = .ok (.aload_n 0, 1) := by decide +kernel
theorem dX4_cell_15 : decode cX4_cell 15 = .ok (.getfield 37, 3) := by decide +kernel
theorem dX4_cell_18 : decode cX4_cell 18 = .ok (.iload_n 1, 1) := by decide +kernel
theorem dX4_cell_19 : decode cX4_cell 19 = .ok (.iload_n 2, 1) := by decide +kernel
theorem dX4_cell_20 : decode cX4_cell 20 = .ok (.invokestatic 63, 3) := by decide +kernel
theorem dX4_cell_23 : decode cX4_cell 23 = .ok (.invokevirtual 229, 3) := by decide +kernel
theorem dX4_cell_26 : decode cX4_cell 26 = .ok (.ireturn, 1) := by decide +kernel
theorem dX4_cell_27 : decode cX4_cell 27 = .ok (.iload_n 3, 1) := by decide +kernel
theorem dX4_cell_28 : decode cX4_cell 28 = .ok (.iconst 1, 1) := by decide +kernel
theorem dX4_cell_29 : decode cX4_cell 29 = .ok (.if_icmp .ne 18, 3) := by decide +kernel
theorem dX4_cell_32 : decode cX4_cell 32 = .ok (.aload_n 0, 1) := by decide +kernel
theorem dX4_cell_33 : decode cX4_cell 33 = .ok (.getfield 37, 3) := by decide +kernel
theorem dX4_cell_36 : decode cX4_cell 36 = .ok (.iload_n 1, 1) := by decide +kernel
theorem dX4_cell_37 : decode cX4_cell 37 = .ok (.iload_n 2, 1) := by decide +kernel
theorem dX4_cell_38 : decode cX4_cell 38 = .ok (.invokestatic 63, 3) := by decide +kernel
theorem dX4_cell_41 : decode cX4_cell 41 = .ok (.invokevirtual 118, 3) := by decide +kernel
theorem dX4_cell_44 : decode cX4_cell 44 = .ok (.goto 15, 3) := by decide +kernel
theorem dX4_cell_47 : decode cX4_cell 47 = .ok (.aload_n 0, 1) := by decide +kernel
theorem dX4_cell_48 : decode cX4_cell 48 = .ok (.getfield 37, 3) := by decide +kernel
theorem dX4_cell_51 : decode cX4_cell 51 = .ok (.iload_n 1, 1) := by decide +kernel
theorem dX4_cell_52 : decode cX4_cell 52 = .ok (.iload_n 2, 1) := by decide +kernel
theorem dX4_cell_53 : decode cX4_cell 53 = .ok (.invokestatic 83, 3) := by decide +kernel
theorem dX4_cell_56 : decode cX4_cell 56 = .ok (.invokevirtual 232, 3) := by decide +kernel
theorem dX4_cell_59 : decode cX4_cell 59 = .ok (.ireturn, 1) := by decide +kernel
theorem dX4_triple_0 : decode cX4_triple 0 = .ok (.iload_n 1, 1) := by decide +kernel
theorem dX4_triple_1 : decode cX4_triple 1 = .ok (.ifCond .lt 14, 3) := by decide +kernel
theorem dX4_triple_4 : decode cX4_triple 4 = .ok (.iload_n 1, 1) := by decide +kernel
theorem dX4_triple_5 : decode cX4_triple 5 = .ok (.aload_n 0, 1) := by decide +kernel
theorem dX4_triple_6 : decode cX4_triple 6 = .ok (.getfield 37, 3) := by decide +kernel
theorem dX4_triple_9 : decode cX4_triple 9 = .ok (.getfield 155, 3) := by decide +kernel
theorem dX4_triple_12 : decode cX4_triple 12 = .ok (.if_icmp .lt 13, 3) := by decide +kernel
theorem dX4_triple_15 : decode cX4_triple 15 = .ok (.new 130, 3) := by decide +kernel
theorem dX4_triple_18 : decode cX4_triple 18 = .ok (.dup, 1) := by decide +kernel
theorem dX4_triple_19 : decode cX4_triple 19 = .ok (.ldc 235, 2) := by decide +kernel
theorem dX4_triple_21 : decode cX4_triple 21 = .ok (.invokespecial 134, 3) := by decide +kernel
theorem dX4_triple_24 : decode cX4_triple 24 = .ok (.athrow, 1) := by decide +kernel
theorem dX4_triple_25 : decode cX4_triple 25 = .ok (.iload_n 2, 1) := by decide +kernel
theorem dX4_triple_26 : decode cX4_triple 26 = .ok (.invokestatic 226, 3) := by decide +kernel
theorem dX4_triple_29 : decode cX4_triple 29 = .ok (.aload_n 0, 1) := by decide +kernel
theorem dX4_triple_30 : decode cX4_triple 30 = .ok (.getfield 37, 3) := by decide +kernel
theorem dX4_triple_33 : decode cX4_triple 33 = .ok (.iload_n 1, 1) := by decide +kernel
theorem dX4_triple_34 : decode cX4_triple 34 = .ok (.invokevirtual 237, 3) := by decide +kernel
theorem dX4_triple_37 : decode cX4_triple 37 = .ok (.istore_n 3, 1) := by decide +kernel
theorem dX4_triple_38 : decode cX4_triple 38 = .ok (.iload_n 2, 1) := by decide +kernel
theorem dX4_triple_39 : decode cX4_triple 39 = .ok (.ifCond .ne 8, 3) := by decide +kernel
theorem dX4_triple_42 : decode cX4_triple 42 = .ok (.iload_n 3, 1) := by decide +kernel
theorem dX4_triple_43 : decode cX4_triple 43 = .ok (.invokestatic 240, 3) := by decide +kernel
theorem dX4_triple_46 : decode cX4_triple 46 = .ok (.ireturn, 1) := by decide +kernel
theorem dX4_triple_47 : decode cX4_triple 47 = .ok (.iload_n 2, 1) := by decide +kernel
theorem dX4_triple_48 : decode cX4_triple 48 = .ok (.iconst 1, 1) := by decide +kernel
theorem dX4_triple_49 : decode cX4_triple 49 = .ok (.if_icmp .ne 10, 3) := by decide +kernel
theorem dX4_triple_52 : decode cX4_triple 52 = .ok (.iload_n 3, 1) := by decide +kernel
theorem dX4_triple_53 : decode cX4_triple 53 = .ok (.invokestatic 243, 3) := by decide +kernel
theorem dX4_triple_56 : decode cX4_triple 56 = .ok (.goto 7, 3) := by decide +kernel
theorem dX4_triple_59 : decode cX4_triple 59 = .ok (.iload_n 3, 1) := by decide +kernel
theorem dX4_triple_60 : decode cX4_triple 60 = .ok (.invokestatic 246, 3) := by decide +kernel
theorem dX4_triple_63 : decode cX4_triple 63 = .ok (.ireturn, 1) := by decide +kernel
theorem dX4_row_0 : decode cX4_row 0 = .ok (.iload_n 1, 1) := by decide +kernel
theorem dX4_row_1 : decode cX4_row 1 = .ok (.ifCond .lt 14, 3) := by decide +kernel
theorem dX4_row_4 : decode cX4_row 4 = .ok (.iload_n 1, 1) := by decide +kernel
theorem dX4_row_5 : decode cX4_row 5 = .ok (.aload_n 0, 1) := by decide +kernel
theorem dX4_row_6 : decode cX4_row 6 = .ok (.getfield 37, 3) := by decide +kernel
theorem dX4_row_9 : decode cX4_row 9 = .ok (.getfield 249, 3) := by decide +kernel
theorem dX4_row_12 : decode cX4_row 12 = .ok (.if_icmp .lt 13, 3) := by decide +kernel
theorem dX4_row_15 : decode cX4_row 15 = .ok (.new 130, 3) := by decide +kernel
theorem dX4_row_18 : decode cX4_row 18 = .ok (.dup, 1) := by decide +kernel
theorem dX4_row_19 : decode cX4_row 19 = .ok (.ldc 252, 2) := by decide +kernel
theorem dX4_row_21 : decode cX4_row 21 = .ok (.invokespecial 134, 3) := by decide +kernel
theorem dX4_row_24 : decode cX4_row 24 = .ok (.athrow, 1) := by decide +kernel
theorem dX4_row_25 : decode cX4_row 25 = .ok (.iload_n 2, 1) := by decide +kernel
theorem dX4_row_26 : decode cX4_row 26 = .ok (.invokestatic 226, 3) := by decide +kernel
theorem dX4_row_29 : decode cX4_row 29 = .ok (.iload_n 2, 1) := by decide +kernel
theorem dX4_row_30 : decode cX4_row 30 = .ok (.ifCond .ne 15, 3) := by decide +kernel
theorem dX4_row_33 : decode cX4_row 33 = .ok (.aload_n 0, 1) := by decide +kernel
theorem dX4_row_34 : decode cX4_row 34 = .ok (.getfield 37, 3) := by decide +kernel
theorem dX4_row_37 : decode cX4_row 37 = .ok (.invokevirtual 147, 3) := by decide +kernel
theorem dX4_row_40 : decode cX4_row 40 = .ok (.iload_n 1, 1) := by decide +kernel
theorem dX4_row_41 : decode cX4_row 41 = .ok (.invokestatic 254, 3) := by decide +kernel
theorem dX4_row_44 : decode cX4_row 44 = .ok (.ireturn, 1) := by decide +kernel
theorem dX4_row_45 : decode cX4_row 45 = .ok (.iload_n 2, 1) := by decide +kernel
theorem dX4_row_46 : decode cX4_row 46 = .ok (.iconst 1, 1) := by decide +kernel
theorem dX4_row_47 : decode cX4_row 47 = .ok (.if_icmp .ne 13, 3) := by decide +kernel
theorem dX4_row_50 : decode cX4_row 50 = .ok (.aload_n 0, 1) := by decide +kernel
theorem dX4_row_51 : decode cX4_row 51 = .ok (.getfield 37, 3) := by decide +kernel
theorem dX4_row_54 : decode cX4_row 54 = .ok (.getfield 67, 3) := by decide +kernel
theorem dX4_row_57 : decode cX4_row 57 = .ok (.goto 10, 3) := by decide +kernel
theorem dX4_row_60 : decode cX4_row 60 = .ok (.aload_n 0, 1) := by decide +kernel
theorem dX4_row_61 : decode cX4_row 61 = .ok (.getfield 37, 3) := by decide +kernel
theorem dX4_row_64 : decode cX4_row 64 = .ok (.getfield 71, 3) := by decide +kernel
theorem dX4_row_67 : decode cX4_row 67 = .ok (.iload_n 1, 1) := by decide +kernel
theorem dX4_row_68 : decode cX4_row 68 = .ok (.invokestatic 254, 3) := by decide +kernel
theorem dX4_row_71 : decode cX4_row 71 = .ok (.ireturn, 1) := by decide +kernel
theorem dX4_count_0 : decode cX4_count 0 = .ok (.iload_n 1, 1) := by decide +kernel
theorem dX4_count_1 : decode cX4_count 1 = .ok (.tableswitch 171 0 11 #[63, 71, 79, 90, 101, 112, 120, 131, 139, 147, 155, 163], 63) := by decide +kernel
theorem dX4_count_64 : decode cX4_count 64 = .ok (.aload_n 0, 1) := by decide +kernel
theorem dX4_count_65 : decode cX4_count 65 = .ok (.getfield 37, 3) := by decide +kernel
theorem dX4_count_68 : decode cX4_count 68 = .ok (.getfield 258, 3) := by decide +kernel
theorem dX4_count_71 : decode cX4_count 71 = .ok (.ireturn, 1) := by decide +kernel
theorem dX4_count_72 : decode cX4_count 72 = .ok (.aload_n 0, 1) := by decide +kernel
theorem dX4_count_73 : decode cX4_count 73 = .ok (.getfield 37, 3) := by decide +kernel
theorem dX4_count_76 : decode cX4_count 76 = .ok (.getfield 249, 3) := by decide +kernel
theorem dX4_count_79 : decode cX4_count 79 = .ok (.ireturn, 1) := by decide +kernel
theorem dX4_count_80 : decode cX4_count 80 = .ok (.aload_n 0, 1) := by decide +kernel
theorem dX4_count_81 : decode cX4_count 81 = .ok (.getfield 37, 3) := by decide +kernel
theorem dX4_count_84 : decode cX4_count 84 = .ok (.getfield 79, 3) := by decide +kernel
theorem dX4_count_87 : decode cX4_count 87 = .ok (.bipush 8, 2) := by decide +kernel
theorem dX4_count_89 : decode cX4_count 89 = .ok (.irem, 1) := by decide +kernel
theorem dX4_count_90 : decode cX4_count 90 = .ok (.ireturn, 1) := by decide +kernel
theorem dX4_count_91 : decode cX4_count 91 = .ok (.aload_n 0, 1) := by decide +kernel
theorem dX4_count_92 : decode cX4_count 92 = .ok (.getfield 37, 3) := by decide +kernel
theorem dX4_count_95 : decode cX4_count 95 = .ok (.getfield 79, 3) := by decide +kernel
theorem dX4_count_98 : decode cX4_count 98 = .ok (.bipush 8, 2) := by decide +kernel
theorem dX4_count_100 : decode cX4_count 100 = .ok (.idiv, 1) := by decide +kernel
theorem dX4_count_101 : decode cX4_count 101 = .ok (.ireturn, 1) := by decide +kernel
theorem dX4_count_102 : decode cX4_count 102 = .ok (.aload_n 0, 1) := by decide +kernel
theorem dX4_count_103 : decode cX4_count 103 = .ok (.getfield 37, 3) := by decide +kernel
theorem dX4_count_106 : decode cX4_count 106 = .ok (.getfield 67, 3) := by decide +kernel
theorem dX4_count_109 : decode cX4_count 109 = .ok (.invokestatic 97, 3) := by decide +kernel
theorem dX4_count_112 : decode cX4_count 112 = .ok (.ireturn, 1) := by decide +kernel
theorem dX4_count_113 : decode cX4_count 113 = .ok (.aload_n 0, 1) := by decide +kernel
theorem dX4_count_114 : decode cX4_count 114 = .ok (.getfield 37, 3) := by decide +kernel
theorem dX4_count_117 : decode cX4_count 117 = .ok (.getfield 155, 3) := by decide +kernel
theorem dX4_count_120 : decode cX4_count 120 = .ok (.ireturn, 1) := by decide +kernel
theorem dX4_count_121 : decode cX4_count 121 = .ok (.aload_n 0, 1) := by decide +kernel
theorem dX4_count_122 : decode cX4_count 122 = .ok (.getfield 37, 3) := by decide +kernel
theorem dX4_count_125 : decode cX4_count 125 = .ok (.invokevirtual 147, 3) := by decide +kernel
theorem dX4_count_128 : decode cX4_count 128 = .ok (.invokestatic 97, 3) := by decide +kernel
theorem dX4_count_131 : decode cX4_count 131 = .ok (.ireturn, 1) := by decide +kernel
theorem dX4_count_132 : decode cX4_count 132 = .ok (.aload_n 0, 1) := by decide +kernel
theorem dX4_count_133 : decode cX4_count 133 = .ok (.getfield 37, 3) := by decide +kernel
theorem dX4_count_136 : decode cX4_count 136 = .ok (.invokevirtual 259, 3) := by decide +kernel
theorem dX4_count_139 : decode cX4_count 139 = .ok (.ireturn, 1) := by decide +kernel
theorem dX4_count_140 : decode cX4_count 140 = .ok (.aload_n 0, 1) := by decide +kernel
theorem dX4_count_141 : decode cX4_count 141 = .ok (.getfield 37, 3) := by decide +kernel
theorem dX4_count_144 : decode cX4_count 144 = .ok (.invokevirtual 262, 3) := by decide +kernel
theorem dX4_count_147 : decode cX4_count 147 = .ok (.ireturn, 1) := by decide +kernel
theorem dX4_count_148 : decode cX4_count 148 = .ok (.aload_n 0, 1) := by decide +kernel
theorem dX4_count_149 : decode cX4_count 149 = .ok (.getfield 37, 3) := by decide +kernel
theorem dX4_count_152 : decode cX4_count 152 = .ok (.getfield 144, 3) := by decide +kernel
theorem dX4_count_155 : decode cX4_count 155 = .ok (.ireturn, 1) := by decide +kernel
theorem dX4_count_156 : decode cX4_count 156 = .ok (.aload_n 0, 1) := by decide +kernel
theorem dX4_count_157 : decode cX4_count 157 = .ok (.getfield 37, 3) := by decide +kernel
theorem dX4_count_160 : decode cX4_count 160 = .ok (.getfield 115, 3) := by decide +kernel
theorem dX4_count_163 : decode cX4_count 163 = .ok (.ireturn, 1) := by decide +kernel
theorem dX4_count_164 : decode cX4_count 164 = .ok (.aload_n 0, 1) := by decide +kernel
theorem dX4_count_165 : decode cX4_count 165 = .ok (.getfield 12, 3) := by decide +kernel
theorem dX4_count_168 : decode cX4_count 168 = .ok (.invokevirtual 213, 3) := by decide +kernel
theorem dX4_count_171 : decode cX4_count 171 = .ok (.ireturn, 1) := by decide +kernel
theorem dX4_count_172 : decode cX4_count 172 = .ok (.new 45, 3) := by decide +kernel
theorem dX4_count_175 : decode cX4_count 175 = .ok (.dup, 1) := by decide +kernel
theorem dX4_count_176 : decode cX4_count 176 = .ok (.ldc_w 265, 3) := by decide +kernel
theorem dX4_count_179 : decode cX4_count 179 = .ok (.invokespecial 49, 3) := by decide +kernel
theorem dX4_count_182 : decode cX4_count 182 = .ok (.athrow, 1) := by decide +kernel
theorem dX4_whyNot_0 : decode cX4_whyNot 0 = .ok (.iload_n 3, 1) := by decide +kernel
theorem dX4_whyNot_1 : decode cX4_whyNot 1 = .ok (.invokestatic 103, 3) := by decide +kernel
theorem dX4_whyNot_4 : decode cX4_whyNot 4 = .ok (.aload_n 0, 1) := by decide +kernel
theorem dX4_whyNot_5 : decode cX4_whyNot 5 = .ok (.getfield 37, 3) := by decide +kernel
theorem dX4_whyNot_8 : decode cX4_whyNot 8 = .ok (.iload_n 1, 1) := by decide +kernel
theorem dX4_whyNot_9 : decode cX4_whyNot 9 = .ok (.iload_n 2, 1) := by decide +kernel
theorem dX4_whyNot_10 : decode cX4_whyNot 10 = .ok (.iload_n 3, 1) := by decide +kernel
theorem dX4_whyNot_11 : decode cX4_whyNot 11 = .ok (.invokevirtual 107, 3) := by decide +kernel
theorem dX4_whyNot_14 : decode cX4_whyNot 14 = .ok (.ireturn, 1) := by decide +kernel
theorem dX4_ways_0 : decode cX4_ways 0 = .ok (.aload_n 0, 1) := by decide +kernel
theorem dX4_ways_1 : decode cX4_ways 1 = .ok (.getfield 32, 3) := by decide +kernel
theorem dX4_ways_4 : decode cX4_ways 4 = .ok (.aload_n 0, 1) := by decide +kernel
theorem dX4_ways_5 : decode cX4_ways 5 = .ok (.getfield 37, 3) := by decide +kernel
theorem dX4_ways_8 : decode cX4_ways 8 = .ok (.invokevirtual 147, 3) := by decide +kernel
theorem dX4_ways_11 : decode cX4_ways 11 = .ok (.invokevirtual 150, 3) := by decide +kernel
theorem dX4_ways_14 : decode cX4_ways 14 = .ok (.ireturn, 1) := by decide +kernel
theorem dX4_waysWith_0 : decode cX4_waysWith 0 = .ok (.iload_n 3, 1) := by decide +kernel
theorem dX4_waysWith_1 : decode cX4_waysWith 1 = .ok (.invokestatic 103, 3) := by decide +kernel
theorem dX4_waysWith_4 : decode cX4_waysWith 4 = .ok (.aload_n 0, 1) := by decide +kernel
theorem dX4_waysWith_5 : decode cX4_waysWith 5 = .ok (.getfield 37, 3) := by decide +kernel
theorem dX4_waysWith_8 : decode cX4_waysWith 8 = .ok (.iload_n 1, 1) := by decide +kernel
theorem dX4_waysWith_9 : decode cX4_waysWith 9 = .ok (.iload_n 2, 1) := by decide +kernel
theorem dX4_waysWith_10 : decode cX4_waysWith 10 = .ok (.iload_n 3, 1) := by decide +kernel
theorem dX4_waysWith_11 : decode cX4_waysWith 11 = .ok (.invokevirtual 107, 3) := by decide +kernel
theorem dX4_waysWith_14 : decode cX4_waysWith 14 = .ok (.ifCond .eq 5, 3) := by decide +kernel
theorem dX4_waysWith_17 : decode cX4_waysWith 17 = .ok (.iconst (-1), 1) := by decide +kernel
theorem dX4_waysWith_18 : decode cX4_waysWith 18 = .ok (.ireturn, 1) := by decide +kernel
theorem dX4_waysWith_19 : decode cX4_waysWith 19 = .ok (.aload_n 0, 1) := by decide +kernel
theorem dX4_waysWith_20 : decode cX4_waysWith 20 = .ok (.getfield 32, 3) := by decide +kernel
theorem dX4_waysWith_23 : decode cX4_waysWith 23 = .ok (.aload_n 0, 1) := by decide +kernel
theorem dX4_waysWith_24 : decode cX4_waysWith 24 = .ok (.getfield 37, 3) := by decide +kernel
theorem dX4_waysWith_27 : decode cX4_waysWith 27 = .ok (.invokevirtual 147, 3) := by decide +kernel
theorem dX4_waysWith_30 : decode cX4_waysWith 30 = .ok (.iload_n 1, 1) := by decide +kernel
theorem dX4_waysWith_31 : decode cX4_waysWith 31 = .ok (.iload_n 2, 1) := by decide +kernel
theorem dX4_waysWith_32 : decode cX4_waysWith 32 = .ok (.iload_n 3, 1) := by decide +kernel
theorem dX4_waysWith_33 : decode cX4_waysWith 33 = .ok (.invokestatic 267, 3) := by decide +kernel
theorem dX4_waysWith_36 : decode cX4_waysWith 36 = .ok (.ldc2_w 271, 3) := by decide +kernel
theorem dX4_waysWith_39 : decode cX4_waysWith 39 = .ok (.lxor, 1) := by decide +kernel
theorem dX4_waysWith_40 : decode cX4_waysWith 40 = .ok (.land, 1) := by decide +kernel
theorem dX4_waysWith_41 : decode cX4_waysWith 41 = .ok (.invokevirtual 150, 3) := by decide +kernel
theorem dX4_waysWith_44 : decode cX4_waysWith 44 = .ok (.ireturn, 1) := by decide +kernel
theorem dX4_forced_0 : decode cX4_forced 0 = .ok (.iload_n 1, 1) := by decide +kernel
theorem dX4_forced_1 : decode cX4_forced 1 = .ok (.ifCond .eq 19, 3) := by decide +kernel
theorem dX4_forced_4 : decode cX4_forced 4 = .ok (.iload_n 1, 1) := by decide +kernel
theorem dX4_forced_5 : decode cX4_forced 5 = .ok (.iconst 1, 1) := by decide +kernel
theorem dX4_forced_6 : decode cX4_forced 6 = .ok (.if_icmp .eq 14, 3) := by decide +kernel
theorem dX4_forced_9 : decode cX4_forced 9 = .ok (.new 45, 3) := by decide +kernel
theorem dX4_forced_12 : decode cX4_forced 12 = .ok (.dup, 1) := by decide +kernel
theorem dX4_forced_13 : decode cX4_forced 13 = .ok (.ldc_w 273, 3) := by decide +kernel
theorem dX4_forced_16 : decode cX4_forced 16 = .ok (.invokespecial 49, 3) := by decide +kernel
theorem dX4_forced_19 : decode cX4_forced 19 = .ok (.athrow, 1) := by decide +kernel
theorem dX4_forced_20 : decode cX4_forced 20 = .ok (.aload_n 0, 1) := by decide +kernel
theorem dX4_forced_21 : decode cX4_forced 21 = .ok (.getfield 37, 3) := by decide +kernel
theorem dX4_forced_24 : decode cX4_forced 24 = .ok (.iconst 1, 1) := by decide +kernel
theorem dX4_forced_25 : decode cX4_forced 25 = .ok (.invokevirtual 275, 3) := by decide +kernel
theorem dX4_forced_28 : decode cX4_forced 28 = .ok (.istore_n 2, 1) := by decide +kernel
theorem dX4_forced_29 : decode cX4_forced 29 = .ok (.iload_n 2, 1) := by decide +kernel
theorem dX4_forced_30 : decode cX4_forced 30 = .ok (.iconst (-1), 1) := by decide +kernel
theorem dX4_forced_31 : decode cX4_forced 31 = .ok (.if_icmp .ne 5, 3) := by decide +kernel
theorem dX4_forced_34 : decode cX4_forced 34 = .ok (.iconst (-1), 1) := by decide +kernel
theorem dX4_forced_35 : decode cX4_forced 35 = .ok (.ireturn, 1) := by decide +kernel
theorem dX4_forced_36 : decode cX4_forced 36 = .ok (.iload_n 1, 1) := by decide +kernel
theorem dX4_forced_37 : decode cX4_forced 37 = .ok (.ifCond .ne 10, 3) := by decide +kernel
theorem dX4_forced_40 : decode cX4_forced 40 = .ok (.iload_n 2, 1) := by decide +kernel
theorem dX4_forced_41 : decode cX4_forced 41 = .ok (.invokestatic 87, 3) := by decide +kernel
theorem dX4_forced_44 : decode cX4_forced 44 = .ok (.goto 11, 3) := by decide +kernel
theorem dX4_forced_47 : decode cX4_forced 47 = .ok (.aload_n 0, 1) := by decide +kernel
theorem dX4_forced_48 : decode cX4_forced 48 = .ok (.getfield 37, 3) := by decide +kernel
theorem dX4_forced_51 : decode cX4_forced 51 = .ok (.iload_n 2, 1) := by decide +kernel
theorem dX4_forced_52 : decode cX4_forced 52 = .ok (.invokevirtual 278, 3) := by decide +kernel
theorem dX4_forced_55 : decode cX4_forced 55 = .ok (.ireturn, 1) := by decide +kernel
theorem dX4_lonely_0 : decode cX4_lonely 0 = .ok (.aload_n 0, 1) := by decide +kernel
theorem dX4_lonely_1 : decode cX4_lonely 1 = .ok (.getfield 37, 3) := by decide +kernel
theorem dX4_lonely_4 : decode cX4_lonely 4 = .ok (.iconst 0, 1) := by decide +kernel
theorem dX4_lonely_5 : decode cX4_lonely 5 = .ok (.invokevirtual 275, 3) := by decide +kernel
theorem dX4_lonely_8 : decode cX4_lonely 8 = .ok (.istore_n 1, 1) := by decide +kernel
theorem dX4_lonely_9 : decode cX4_lonely 9 = .ok (.iload_n 1, 1) := by decide +kernel
theorem dX4_lonely_10 : decode cX4_lonely 10 = .ok (.iconst (-1), 1) := by decide +kernel
theorem dX4_lonely_11 : decode cX4_lonely 11 = .ok (.if_icmp .ne 7, 3) := by decide +kernel
theorem dX4_lonely_14 : decode cX4_lonely 14 = .ok (.iconst (-1), 1) := by decide +kernel
theorem dX4_lonely_15 : decode cX4_lonely 15 = .ok (.goto 7, 3) := by decide +kernel
theorem dX4_lonely_18 : decode cX4_lonely 18 = .ok (.iload_n 1, 1) := by decide +kernel
theorem dX4_lonely_19 : decode cX4_lonely 19 = .ok (.invokestatic 87, 3) := by decide +kernel
theorem dX4_lonely_22 : decode cX4_lonely 22 = .ok (.ireturn, 1) := by decide +kernel
theorem dX4_bestPond_0 : decode cX4_bestPond 0 = .ok (.aload_n 0, 1) := by decide +kernel
theorem dX4_bestPond_1 : decode cX4_bestPond 1 = .ok (.getfield 32, 3) := by decide +kernel
theorem dX4_bestPond_4 : decode cX4_bestPond 4 = .ok (.aload_n 0, 1) := by decide +kernel
theorem dX4_bestPond_5 : decode cX4_bestPond 5 = .ok (.getfield 37, 3) := by decide +kernel
theorem dX4_bestPond_8 : decode cX4_bestPond 8 = .ok (.invokevirtual 147, 3) := by decide +kernel
theorem dX4_bestPond_11 : decode cX4_bestPond 11 = .ok (.aload_n 0, 1) := by decide +kernel
theorem dX4_bestPond_12 : decode cX4_bestPond 12 = .ok (.getfield 37, 3) := by decide +kernel
theorem dX4_bestPond_15 : decode cX4_bestPond 15 = .ok (.invokevirtual 91, 3) := by decide +kernel
theorem dX4_bestPond_18 : decode cX4_bestPond 18 = .ok (.lor, 1) := by decide +kernel
theorem dX4_bestPond_19 : decode cX4_bestPond 19 = .ok (.invokevirtual 281, 3) := by decide +kernel
theorem dX4_bestPond_22 : decode cX4_bestPond 22 = .ok (.istore_n 1, 1) := by decide +kernel
theorem dX4_bestPond_23 : decode cX4_bestPond 23 = .ok (.iload_n 1, 1) := by decide +kernel
theorem dX4_bestPond_24 : decode cX4_bestPond 24 = .ok (.iconst (-1), 1) := by decide +kernel
theorem dX4_bestPond_25 : decode cX4_bestPond 25 = .ok (.if_icmp .ne 7, 3) := by decide +kernel
theorem dX4_bestPond_28 : decode cX4_bestPond 28 = .ok (.iconst (-1), 1) := by decide +kernel
theorem dX4_bestPond_29 : decode cX4_bestPond 29 = .ok (.goto 7, 3) := by decide +kernel
theorem dX4_bestPond_32 : decode cX4_bestPond 32 = .ok (.iload_n 1, 1) := by decide +kernel
theorem dX4_bestPond_33 : decode cX4_bestPond 33 = .ok (.invokestatic 87, 3) := by decide +kernel
theorem dX4_bestPond_36 : decode cX4_bestPond 36 = .ok (.ireturn, 1) := by decide +kernel
theorem dX4_isSide_0 : decode cX4_isSide 0 = .ok (.iload_n 0, 1) := by decide +kernel
theorem dX4_isSide_1 : decode cX4_isSide 1 = .ok (.iconst 2, 1) := by decide +kernel
theorem dX4_isSide_2 : decode cX4_isSide 2 = .ok (.if_icmp .lt 13, 3) := by decide +kernel
theorem dX4_isSide_5 : decode cX4_isSide 5 = .ok (.iload_n 0, 1) := by decide +kernel
theorem dX4_isSide_6 : decode cX4_isSide 6 = .ok (.bipush 8, 2) := by decide +kernel
theorem dX4_isSide_8 : decode cX4_isSide 8 = .ok (.if_icmp .gt 7, 3) := by decide +kernel
theorem dX4_isSide_11 : decode cX4_isSide 11 = .ok (.iconst 1, 1) := by decide +kernel
theorem dX4_isSide_12 : decode cX4_isSide 12 = .ok (.goto 4, 3) := by decide +kernel
theorem dX4_isSide_15 : decode cX4_isSide 15 = .ok (.iconst 0, 1) := by decide +kernel
theorem dX4_isSide_16 : decode cX4_isSide 16 = .ok (.ireturn, 1) := by decide +kernel
theorem dX4_requireCell_0 : decode cX4_requireCell 0 = .ok (.aload_n 0, 1) := by decide +kernel
theorem dX4_requireCell_1 : decode cX4_requireCell 1 = .ok (.getfield 37, 3) := by decide +kernel
theorem dX4_requireCell_4 : decode cX4_requireCell 4 = .ok (.iload_n 1, 1) := by decide +kernel
theorem dX4_requireCell_5 : decode cX4_requireCell 5 = .ok (.iload_n 2, 1) := by decide +kernel
theorem dX4_requireCell_6 : decode cX4_requireCell 6 = .ok (.iconst 1, 1) := by decide +kernel
theorem dX4_requireCell_7 : decode cX4_requireCell 7 = .ok (.iconst 1, 1) := by decide +kernel
theorem dX4_requireCell_8 : decode cX4_requireCell 8 = .ok (.invokevirtual 348, 3) := by decide +kernel
theorem dX4_requireCell_11 : decode cX4_requireCell 11 = .ok (.ifCond .ne 14, 3) := by decide +kernel
theorem dX4_requireCell_14 : decode cX4_requireCell 14 = .ok (.new 130, 3) := by decide +kernel
theorem dX4_requireCell_17 : decode cX4_requireCell 17 = .ok (.dup, 1) := by decide +kernel
theorem dX4_requireCell_18 : decode cX4_requireCell 18 = .ok (.ldc_w 352, 3) := by decide +kernel
theorem dX4_requireCell_21 : decode cX4_requireCell 21 = .ok (.invokespecial 134, 3) := by decide +kernel
theorem dX4_requireCell_24 : decode cX4_requireCell 24 = .ok (.athrow, 1) := by decide +kernel
theorem dX4_requireCell_25 : decode cX4_requireCell 25 = .ok (.return_, 1) := by decide +kernel
theorem dX4_requireTurn_0 : decode cX4_requireTurn 0 = .ok (.iload_n 0, 1) := by decide +kernel
theorem dX4_requireTurn_1 : decode cX4_requireTurn 1 = .ok (.ifCond .lt 8, 3) := by decide +kernel
theorem dX4_requireTurn_4 : decode cX4_requireTurn 4 = .ok (.iload_n 0, 1) := by decide +kernel
theorem dX4_requireTurn_5 : decode cX4_requireTurn 5 = .ok (.iconst 4, 1) := by decide +kernel
theorem dX4_requireTurn_6 : decode cX4_requireTurn 6 = .ok (.if_icmp .lt 14, 3) := by decide +kernel
theorem dX4_requireTurn_9 : decode cX4_requireTurn 9 = .ok (.new 45, 3) := by decide +kernel
theorem dX4_requireTurn_12 : decode cX4_requireTurn 12 = .ok (.dup, 1) := by decide +kernel
theorem dX4_requireTurn_13 : decode cX4_requireTurn 13 = .ok (.ldc_w 354, 3) := by decide +kernel
theorem dX4_requireTurn_16 : decode cX4_requireTurn 16 = .ok (.invokespecial 49, 3) := by decide +kernel
theorem dX4_requireTurn_19 : decode cX4_requireTurn 19 = .ok (.athrow, 1) := by decide +kernel
theorem dX4_requireTurn_20 : decode cX4_requireTurn 20 = .ok (.return_, 1) := by decide +kernel
theorem dX4_requireProperty_0 : decode cX4_requireProperty 0 = .ok (.iload_n 0, 1) := by decide +kernel
theorem dX4_requireProperty_1 : decode cX4_requireProperty 1 = .ok (.ifCond .lt 8, 3) := by decide +kernel
theorem dX4_requireProperty_4 : decode cX4_requireProperty 4 = .ok (.iload_n 0, 1) := by decide +kernel
theorem dX4_requireProperty_5 : decode cX4_requireProperty 5 = .ok (.iconst 3, 1) := by decide +kernel
theorem dX4_requireProperty_6 : decode cX4_requireProperty 6 = .ok (.if_icmp .lt 14, 3) := by decide +kernel
theorem dX4_requireProperty_9 : decode cX4_requireProperty 9 = .ok (.new 45, 3) := by decide +kernel
theorem dX4_requireProperty_12 : decode cX4_requireProperty 12 = .ok (.dup, 1) := by decide +kernel
theorem dX4_requireProperty_13 : decode cX4_requireProperty 13 = .ok (.ldc_w 356, 3) := by decide +kernel
theorem dX4_requireProperty_16 : decode cX4_requireProperty 16 = .ok (.invokespecial 49, 3) := by decide +kernel
theorem dX4_requireProperty_19 : decode cX4_requireProperty 19 = .ok (.athrow, 1) := by decide +kernel
theorem dX4_requireProperty_20 : decode cX4_requireProperty 20 = .ok (.return_, 1) := by decide +kernel
theorem dX4_requireSlot_0 : decode cX4_requireSlot 0 = .ok (.iload_n 1, 1) := by decide +kernel
theorem dX4_requireSlot_1 : decode cX4_requireSlot 1 = .ok (.ifCond .lt 12, 3) := by decide +kernel
theorem dX4_requireSlot_4 : decode cX4_requireSlot 4 = .ok (.iload_n 1, 1) := by decide +kernel
theorem dX4_requireSlot_5 : decode cX4_requireSlot 5 = .ok (.aload_n 0, 1) := by decide +kernel
theorem dX4_requireSlot_6 : decode cX4_requireSlot 6 = .ok (.getfield 18, 3) := by decide +kernel
theorem dX4_requireSlot_9 : decode cX4_requireSlot 9 = .ok (.arraylength, 1) := by decide +kernel
theorem dX4_requireSlot_10 : decode cX4_requireSlot 10 = .ok (.if_icmp .lt 14, 3) := by decide +kernel
theorem dX4_requireSlot_13 : decode cX4_requireSlot 13 = .ok (.new 45, 3) := by decide +kernel
theorem dX4_requireSlot_16 : decode cX4_requireSlot 16 = .ok (.dup, 1) := by decide +kernel
theorem dX4_requireSlot_17 : decode cX4_requireSlot 17 = .ok (.ldc_w 358, 3) := by decide +kernel
theorem dX4_requireSlot_20 : decode cX4_requireSlot 20 = .ok (.invokespecial 49, 3) := by decide +kernel
theorem dX4_requireSlot_23 : decode cX4_requireSlot 23 = .ok (.athrow, 1) := by decide +kernel
theorem dX4_requireSlot_24 : decode cX4_requireSlot 24 = .ok (.return_, 1) := by decide +kernel
theorem dX4_saveState_0 : decode cX4_saveState 0 = .ok (.aload_n 0, 1) := by decide +kernel
theorem dX4_saveState_1 : decode cX4_saveState 1 = .ok (.getfield 12, 3) := by decide +kernel
theorem dX4_saveState_4 : decode cX4_saveState 4 = .ok (.invokevirtual 213, 3) := by decide +kernel
theorem dX4_saveState_7 : decode cX4_saveState 7 = .ok (.bipush 6, 2) := by decide +kernel
theorem dX4_saveState_9 : decode cX4_saveState 9 = .ok (.if_icmp .lt 12, 3) := by decide +kernel
theorem dX4_saveState_12 : decode cX4_saveState 12 = .ok (.aload_n 0, 1) := by decide +kernel
theorem dX4_saveState_13 : decode cX4_saveState 13 = .ok (.getfield 12, 3) := by decide +kernel
theorem dX4_saveState_16 : decode cX4_saveState 16 = .ok (.iconst 0, 1) := by decide +kernel
theorem dX4_saveState_17 : decode cX4_saveState 17 = .ok (.invokevirtual 223, 3) := by decide +kernel
theorem dX4_saveState_20 : decode cX4_saveState 20 = .ok (.pop, 1) := by decide +kernel
theorem dX4_saveState_21 : decode cX4_saveState 21 = .ok (.aload_n 0, 1) := by decide +kernel
theorem dX4_saveState_22 : decode cX4_saveState 22 = .ok (.getfield 12, 3) := by decide +kernel
theorem dX4_saveState_25 : decode cX4_saveState 25 = .ok (.aload_n 0, 1) := by decide +kernel
theorem dX4_saveState_26 : decode cX4_saveState 26 = .ok (.getfield 37, 3) := by decide +kernel
theorem dX4_saveState_29 : decode cX4_saveState 29 = .ok (.invokevirtual 207, 3) := by decide +kernel
theorem dX4_saveState_32 : decode cX4_saveState 32 = .ok (.invokevirtual 360, 3) := by decide +kernel
theorem dX4_saveState_35 : decode cX4_saveState 35 = .ok (.pop, 1) := by decide +kernel
theorem dX4_saveState_36 : decode cX4_saveState 36 = .ok (.return_, 1) := by decide +kernel
theorem dX4_placeOf_0 : decode cX4_placeOf 0 = .ok (.bipush 8, 2) := by decide +kernel
theorem dX4_placeOf_2 : decode cX4_placeOf 2 = .ok (.iload_n 1, 1) := by decide +kernel
theorem dX4_placeOf_3 : decode cX4_placeOf 3 = .ok (.imul, 1) := by decide +kernel
theorem dX4_placeOf_4 : decode cX4_placeOf 4 = .ok (.iload_n 0, 1) := by decide +kernel
theorem dX4_placeOf_5 : decode cX4_placeOf 5 = .ok (.iadd, 1) := by decide +kernel
theorem dX4_placeOf_6 : decode cX4_placeOf 6 = .ok (.ireturn, 1) := by decide +kernel
theorem dX4_cellAt_0 : decode cX4_cellAt 0 = .ok (.lconst 1, 1) := by decide +kernel
theorem dX4_cellAt_1 : decode cX4_cellAt 1 = .ok (.iload_n 0, 1) := by decide +kernel
theorem dX4_cellAt_2 : decode cX4_cellAt 2 = .ok (.iload_n 1, 1) := by decide +kernel
theorem dX4_cellAt_3 : decode cX4_cellAt 3 = .ok (.invokestatic 83, 3) := by decide +kernel
theorem dX4_cellAt_6 : decode cX4_cellAt 6 = .ok (.lshl, 1) := by decide +kernel
theorem dX4_cellAt_7 : decode cX4_cellAt 7 = .ok (.lreturn, 1) := by decide +kernel
theorem dX4_holds_0 : decode cX4_holds 0 = .ok (.lload_n 0, 1) := by decide +kernel
theorem dX4_holds_1 : decode cX4_holds 1 = .ok (.iload_n 2, 1) := by decide +kernel
theorem dX4_holds_2 : decode cX4_holds 2 = .ok (.lushr, 1) := by decide +kernel
theorem dX4_holds_3 : decode cX4_holds 3 = .ok (.lconst 1, 1) := by decide +kernel
theorem dX4_holds_4 : decode cX4_holds 4 = .ok (.land, 1) := by decide +kernel
theorem dX4_holds_5 : decode cX4_holds 5 = .ok (.lconst 0, 1) := by decide +kernel
theorem dX4_holds_6 : decode cX4_holds 6 = .ok (.lcmp, 1) := by decide +kernel
theorem dX4_holds_7 : decode cX4_holds 7 = .ok (.ifCond .eq 7, 3) := by decide +kernel
theorem dX4_holds_10 : decode cX4_holds 10 = .ok (.iconst 1, 1) := by decide +kernel
theorem dX4_holds_11 : decode cX4_holds 11 = .ok (.goto 4, 3) := by decide +kernel
theorem dX4_holds_14 : decode cX4_holds 14 = .ok (.iconst 0, 1) := by decide +kernel
theorem dX4_holds_15 : decode cX4_holds 15 = .ok (.ireturn, 1) := by decide +kernel
theorem dX4_rowMask_0 : decode cX4_rowMask 0 = .ok (.lload_n 0, 1) := by decide +kernel
theorem dX4_rowMask_1 : decode cX4_rowMask 1 = .ok (.bipush 8, 2) := by decide +kernel
theorem dX4_rowMask_3 : decode cX4_rowMask 3 = .ok (.iload_n 2, 1) := by decide +kernel
theorem dX4_rowMask_4 : decode cX4_rowMask 4 = .ok (.imul, 1) := by decide +kernel
theorem dX4_rowMask_5 : decode cX4_rowMask 5 = .ok (.lushr, 1) := by decide +kernel
theorem dX4_rowMask_6 : decode cX4_rowMask 6 = .ok (.ldc2_w 363, 3) := by decide +kernel
theorem dX4_rowMask_9 : decode cX4_rowMask 9 = .ok (.land, 1) := by decide +kernel
theorem dX4_rowMask_10 : decode cX4_rowMask 10 = .ok (.l2i, 1) := by decide +kernel
theorem dX4_rowMask_11 : decode cX4_rowMask 11 = .ok (.ireturn, 1) := by decide +kernel
theorem dX4_cellsOf_0 : decode cX4_cellsOf 0 = .ok (.bipush 6, 2) := by decide +kernel
theorem dX4_cellsOf_2 : decode cX4_cellsOf 2 = .ok (.istore_n 3, 1) := by decide +kernel
theorem dX4_cellsOf_3 : decode cX4_cellsOf 3 = .ok (.iload_n 0, 1) := by decide +kernel
theorem dX4_cellsOf_4 : decode cX4_cellsOf 4 = .ok (.ifCond .lt 29, 3) := by decide +kernel
theorem dX4_cellsOf_7 : decode cX4_cellsOf 7 = .ok (.iload_n 0, 1) := by decide +kernel
theorem dX4_cellsOf_8 : decode cX4_cellsOf 8 = .ok (.iload_n 3, 1) := by decide +kernel
theorem dX4_cellsOf_9 : decode cX4_cellsOf 9 = .ok (.if_icmp .gt 24, 3) := by decide +kernel
theorem dX4_cellsOf_12 : decode cX4_cellsOf 12 = .ok (.iload_n 1, 1) := by decide +kernel
theorem dX4_cellsOf_13 : decode cX4_cellsOf 13 = .ok (.ifCond .lt 20, 3) := by decide +kernel
theorem dX4_cellsOf_16 : decode cX4_cellsOf 16 = .ok (.iload_n 1, 1) := by decide +kernel
theorem dX4_cellsOf_17 : decode cX4_cellsOf 17 = .ok (.iload_n 3, 1) := by decide +kernel
theorem dX4_cellsOf_18 : decode cX4_cellsOf 18 = .ok (.if_icmp .gt 15, 3) := by decide +kernel
theorem dX4_cellsOf_21 : decode cX4_cellsOf 21 = .ok (.iload_n 2, 1) := by decide +kernel
theorem dX4_cellsOf_22 : decode cX4_cellsOf 22 = .ok (.ifCond .lt 11, 3) := by decide +kernel
theorem dX4_cellsOf_25 : decode cX4_cellsOf 25 = .ok (.iload_n 2, 1) := by decide +kernel
theorem dX4_cellsOf_26 : decode cX4_cellsOf 26 = .ok (.getstatic 365, 3) := by decide +kernel
theorem dX4_cellsOf_29 : decode cX4_cellsOf 29 = .ok (.arraylength, 1) := by decide +kernel
theorem dX4_cellsOf_30 : decode cX4_cellsOf 30 = .ok (.if_icmp .lt 5, 3) := by decide +kernel
theorem dX4_cellsOf_33 : decode cX4_cellsOf 33 = .ok (.lconst 0, 1) := by decide +kernel
theorem dX4_cellsOf_34 : decode cX4_cellsOf 34 = .ok (.lreturn, 1) := by decide +kernel
theorem dX4_cellsOf_35 : decode cX4_cellsOf 35 = .ok (.getstatic 365, 3) := by decide +kernel
theorem dX4_cellsOf_38 : decode cX4_cellsOf 38 = .ok (.iload_n 2, 1) := by decide +kernel
theorem dX4_cellsOf_39 : decode cX4_cellsOf 39 = .ok (.laload, 1) := by decide +kernel
theorem dX4_cellsOf_40 : decode cX4_cellsOf 40 = .ok (.bipush 8, 2) := by decide +kernel
theorem dX4_cellsOf_42 : decode cX4_cellsOf 42 = .ok (.iload_n 1, 1) := by decide +kernel
theorem dX4_cellsOf_43 : decode cX4_cellsOf 43 = .ok (.imul, 1) := by decide +kernel
theorem dX4_cellsOf_44 : decode cX4_cellsOf 44 = .ok (.iload_n 0, 1) := by decide +kernel
theorem dX4_cellsOf_45 : decode cX4_cellsOf 45 = .ok (.iadd, 1) := by decide +kernel
theorem dX4_cellsOf_46 : decode cX4_cellsOf 46 = .ok (.lshl, 1) := by decide +kernel
theorem dX4_cellsOf_47 : decode cX4_cellsOf 47 = .ok (.lreturn, 1) := by decide +kernel
theorem dX4_cellName_0 : decode cX4_cellName 0 = .ok (.iload_n 0, 1) := by decide +kernel
theorem dX4_cellName_1 : decode cX4_cellName 1 = .ok (.bipush 8, 2) := by decide +kernel
theorem dX4_cellName_3 : decode cX4_cellName 3 = .ok (.irem, 1) := by decide +kernel
theorem dX4_cellName_4 : decode cX4_cellName 4 = .ok (.bipush 10, 2) := by decide +kernel
theorem dX4_cellName_6 : decode cX4_cellName 6 = .ok (.iload_n 0, 1) := by decide +kernel
theorem dX4_cellName_7 : decode cX4_cellName 7 = .ok (.bipush 8, 2) := by decide +kernel
theorem dX4_cellName_9 : decode cX4_cellName 9 = .ok (.idiv, 1) := by decide +kernel
theorem dX4_cellName_10 : decode cX4_cellName 10 = .ok (.imul, 1) := by decide +kernel
theorem dX4_cellName_11 : decode cX4_cellName 11 = .ok (.iadd, 1) := by decide +kernel
theorem dX4_cellName_12 : decode cX4_cellName 12 = .ok (.ireturn, 1) := by decide +kernel
theorem dX4_nameOf_0 : decode cX4_nameOf 0 = .ok (.iload_n 0, 1) := by decide +kernel
theorem dX4_nameOf_1 : decode cX4_nameOf 1 = .ok (.bipush 10, 2) := by decide +kernel
theorem dX4_nameOf_3 : decode cX4_nameOf 3 = .ok (.iload_n 1, 1) := by decide +kernel
theorem dX4_nameOf_4 : decode cX4_nameOf 4 = .ok (.imul, 1) := by decide +kernel
theorem dX4_nameOf_5 : decode cX4_nameOf 5 = .ok (.iadd, 1) := by decide +kernel
theorem dX4_nameOf_6 : decode cX4_nameOf 6 = .ok (.bipush 100, 2) := by decide +kernel
theorem dX4_nameOf_8 : decode cX4_nameOf 8 = .ok (.iload_n 2, 1) := by decide +kernel
theorem dX4_nameOf_9 : decode cX4_nameOf 9 = .ok (.imul, 1) := by decide +kernel
theorem dX4_nameOf_10 : decode cX4_nameOf 10 = .ok (.iadd, 1) := by decide +kernel
theorem dX4_nameOf_11 : decode cX4_nameOf 11 = .ok (.ireturn, 1) := by decide +kernel
theorem dX4_columnOf_0 : decode cX4_columnOf 0 = .ok (.iload_n 0, 1) := by decide +kernel
theorem dX4_columnOf_1 : decode cX4_columnOf 1 = .ok (.bipush 10, 2) := by decide +kernel
theorem dX4_columnOf_3 : decode cX4_columnOf 3 = .ok (.irem, 1) := by decide +kernel
theorem dX4_columnOf_4 : decode cX4_columnOf 4 = .ok (.ireturn, 1) := by decide +kernel
theorem dX4_rowOf_0 : decode cX4_rowOf 0 = .ok (.iload_n 0, 1) := by decide +kernel
theorem dX4_rowOf_1 : decode cX4_rowOf 1 = .ok (.bipush 10, 2) := by decide +kernel
theorem dX4_rowOf_3 : decode cX4_rowOf 3 = .ok (.idiv, 1) := by decide +kernel
theorem dX4_rowOf_4 : decode cX4_rowOf 4 = .ok (.bipush 10, 2) := by decide +kernel
theorem dX4_rowOf_6 : decode cX4_rowOf 6 = .ok (.irem, 1) := by decide +kernel
theorem dX4_rowOf_7 : decode cX4_rowOf 7 = .ok (.ireturn, 1) := by decide +kernel
theorem dX4_turnOf_0 : decode cX4_turnOf 0 = .ok (.iload_n 0, 1) := by decide +kernel
theorem dX4_turnOf_1 : decode cX4_turnOf 1 = .ok (.bipush 100, 2) := by decide +kernel
theorem dX4_turnOf_3 : decode cX4_turnOf 3 = .ok (.idiv, 1) := by decide +kernel
theorem dX4_turnOf_4 : decode cX4_turnOf 4 = .ok (.ireturn, 1) := by decide +kernel
theorem dJ6_numberOfLeadingZeros_0f7a4_0 : decode cJ6_numberOfLeadingZeros_0f7a4 0 = .ok (.iload_n 0, 1) := by decide +kernel
theorem dJ6_numberOfLeadingZeros_0f7a4_1 : decode cJ6_numberOfLeadingZeros_0f7a4 1 = .ok (.ifCond .gt 14, 3) := by decide +kernel
theorem dJ6_numberOfLeadingZeros_0f7a4_4 : decode cJ6_numberOfLeadingZeros_0f7a4 4 = .ok (.iload_n 0, 1) := by decide +kernel
theorem dJ6_numberOfLeadingZeros_0f7a4_5 : decode cJ6_numberOfLeadingZeros_0f7a4 5 = .ok (.ifCond .ne 8, 3) := by decide +kernel
theorem dJ6_numberOfLeadingZeros_0f7a4_8 : decode cJ6_numberOfLeadingZeros_0f7a4 8 = .ok (.bipush 32, 2) := by decide +kernel
theorem dJ6_numberOfLeadingZeros_0f7a4_10 : decode cJ6_numberOfLeadingZeros_0f7a4 10 = .ok (.goto 4, 3) := by decide +kernel
theorem dJ6_numberOfLeadingZeros_0f7a4_13 : decode cJ6_numberOfLeadingZeros_0f7a4 13 = .ok (.iconst 0, 1) := by decide +kernel
theorem dJ6_numberOfLeadingZeros_0f7a4_14 : decode cJ6_numberOfLeadingZeros_0f7a4 14 = .ok (.ireturn, 1) := by decide +kernel
theorem dJ6_numberOfLeadingZeros_0f7a4_15 : decode cJ6_numberOfLeadingZeros_0f7a4 15 = .ok (.bipush 31, 2) := by decide +kernel
theorem dJ6_numberOfLeadingZeros_0f7a4_17 : decode cJ6_numberOfLeadingZeros_0f7a4 17 = .ok (.istore_n 1, 1) := by decide +kernel
theorem dJ6_numberOfLeadingZeros_0f7a4_18 : decode cJ6_numberOfLeadingZeros_0f7a4 18 = .ok (.iload_n 0, 1) := by decide +kernel
theorem dJ6_numberOfLeadingZeros_0f7a4_19 : decode cJ6_numberOfLeadingZeros_0f7a4 19 = .ok (.ldc_w 264, 3) := by decide +kernel
theorem dJ6_numberOfLeadingZeros_0f7a4_22 : decode cJ6_numberOfLeadingZeros_0f7a4 22 = .ok (.if_icmp .lt 11, 3) := by decide +kernel
theorem dJ6_numberOfLeadingZeros_0f7a4_25 : decode cJ6_numberOfLeadingZeros_0f7a4 25 = .ok (.iinc 1 (-16), 3) := by decide +kernel
theorem dJ6_numberOfLeadingZeros_0f7a4_28 : decode cJ6_numberOfLeadingZeros_0f7a4 28 = .ok (.iload_n 0, 1) := by decide +kernel
theorem dJ6_numberOfLeadingZeros_0f7a4_29 : decode cJ6_numberOfLeadingZeros_0f7a4 29 = .ok (.bipush 16, 2) := by decide +kernel
theorem dJ6_numberOfLeadingZeros_0f7a4_31 : decode cJ6_numberOfLeadingZeros_0f7a4 31 = .ok (.iushr, 1) := by decide +kernel
theorem dJ6_numberOfLeadingZeros_0f7a4_32 : decode cJ6_numberOfLeadingZeros_0f7a4 32 = .ok (.istore_n 0, 1) := by decide +kernel
theorem dJ6_numberOfLeadingZeros_0f7a4_33 : decode cJ6_numberOfLeadingZeros_0f7a4 33 = .ok (.iload_n 0, 1) := by decide +kernel
theorem dJ6_numberOfLeadingZeros_0f7a4_34 : decode cJ6_numberOfLeadingZeros_0f7a4 34 = .ok (.sipush 256, 3) := by decide +kernel
theorem dJ6_numberOfLeadingZeros_0f7a4_37 : decode cJ6_numberOfLeadingZeros_0f7a4 37 = .ok (.if_icmp .lt 11, 3) := by decide +kernel
theorem dJ6_numberOfLeadingZeros_0f7a4_40 : decode cJ6_numberOfLeadingZeros_0f7a4 40 = .ok (.iinc 1 (-8), 3) := by decide +kernel
theorem dJ6_numberOfLeadingZeros_0f7a4_43 : decode cJ6_numberOfLeadingZeros_0f7a4 43 = .ok (.iload_n 0, 1) := by decide +kernel
theorem dJ6_numberOfLeadingZeros_0f7a4_44 : decode cJ6_numberOfLeadingZeros_0f7a4 44 = .ok (.bipush 8, 2) := by decide +kernel
theorem dJ6_numberOfLeadingZeros_0f7a4_46 : decode cJ6_numberOfLeadingZeros_0f7a4 46 = .ok (.iushr, 1) := by decide +kernel
theorem dJ6_numberOfLeadingZeros_0f7a4_47 : decode cJ6_numberOfLeadingZeros_0f7a4 47 = .ok (.istore_n 0, 1) := by decide +kernel
theorem dJ6_numberOfLeadingZeros_0f7a4_48 : decode cJ6_numberOfLeadingZeros_0f7a4 48 = .ok (.iload_n 0, 1) := by decide +kernel
theorem dJ6_numberOfLeadingZeros_0f7a4_49 : decode cJ6_numberOfLeadingZeros_0f7a4 49 = .ok (.bipush 16, 2) := by decide +kernel
theorem dJ6_numberOfLeadingZeros_0f7a4_51 : decode cJ6_numberOfLeadingZeros_0f7a4 51 = .ok (.if_icmp .lt 10, 3) := by decide +kernel
theorem dJ6_numberOfLeadingZeros_0f7a4_54 : decode cJ6_numberOfLeadingZeros_0f7a4 54 = .ok (.iinc 1 (-4), 3) := by decide +kernel
theorem dJ6_numberOfLeadingZeros_0f7a4_57 : decode cJ6_numberOfLeadingZeros_0f7a4 57 = .ok (.iload_n 0, 1) := by decide +kernel
theorem dJ6_numberOfLeadingZeros_0f7a4_58 : decode cJ6_numberOfLeadingZeros_0f7a4 58 = .ok (.iconst 4, 1) := by decide +kernel
theorem dJ6_numberOfLeadingZeros_0f7a4_59 : decode cJ6_numberOfLeadingZeros_0f7a4 59 = .ok (.iushr, 1) := by decide +kernel
theorem dJ6_numberOfLeadingZeros_0f7a4_60 : decode cJ6_numberOfLeadingZeros_0f7a4 60 = .ok (.istore_n 0, 1) := by decide +kernel
theorem dJ6_numberOfLeadingZeros_0f7a4_61 : decode cJ6_numberOfLeadingZeros_0f7a4 61 = .ok (.iload_n 0, 1) := by decide +kernel
theorem dJ6_numberOfLeadingZeros_0f7a4_62 : decode cJ6_numberOfLeadingZeros_0f7a4 62 = .ok (.iconst 4, 1) := by decide +kernel
theorem dJ6_numberOfLeadingZeros_0f7a4_63 : decode cJ6_numberOfLeadingZeros_0f7a4 63 = .ok (.if_icmp .lt 10, 3) := by decide +kernel
theorem dJ6_numberOfLeadingZeros_0f7a4_66 : decode cJ6_numberOfLeadingZeros_0f7a4 66 = .ok (.iinc 1 (-2), 3) := by decide +kernel
theorem dJ6_numberOfLeadingZeros_0f7a4_69 : decode cJ6_numberOfLeadingZeros_0f7a4 69 = .ok (.iload_n 0, 1) := by decide +kernel
theorem dJ6_numberOfLeadingZeros_0f7a4_70 : decode cJ6_numberOfLeadingZeros_0f7a4 70 = .ok (.iconst 2, 1) := by decide +kernel
theorem dJ6_numberOfLeadingZeros_0f7a4_71 : decode cJ6_numberOfLeadingZeros_0f7a4 71 = .ok (.iushr, 1) := by decide +kernel
theorem dJ6_numberOfLeadingZeros_0f7a4_72 : decode cJ6_numberOfLeadingZeros_0f7a4 72 = .ok (.istore_n 0, 1) := by decide +kernel
theorem dJ6_numberOfLeadingZeros_0f7a4_73 : decode cJ6_numberOfLeadingZeros_0f7a4 73 = .ok (.iload_n 1, 1) := by decide +kernel
theorem dJ6_numberOfLeadingZeros_0f7a4_74 : decode cJ6_numberOfLeadingZeros_0f7a4 74 = .ok (.iload_n 0, 1) := by decide +kernel
theorem dJ6_numberOfLeadingZeros_0f7a4_75 : decode cJ6_numberOfLeadingZeros_0f7a4 75 = .ok (.iconst 1, 1) := by decide +kernel
theorem dJ6_numberOfLeadingZeros_0f7a4_76 : decode cJ6_numberOfLeadingZeros_0f7a4 76 = .ok (.iushr, 1) := by decide +kernel
theorem dJ6_numberOfLeadingZeros_0f7a4_77 : decode cJ6_numberOfLeadingZeros_0f7a4 77 = .ok (.isub, 1) := by decide +kernel
theorem dJ6_numberOfLeadingZeros_0f7a4_78 : decode cJ6_numberOfLeadingZeros_0f7a4 78 = .ok (.ireturn, 1) := by decide +kernel
theorem dJ6_numberOfTrailingZeros_0f7a4_0 : decode cJ6_numberOfTrailingZeros_0f7a4 0 = .ok (.iload_n 0, 1) := by decide +kernel
theorem dJ6_numberOfTrailingZeros_0f7a4_1 : decode cJ6_numberOfTrailingZeros_0f7a4 1 = .ok (.iconst (-1), 1) := by decide +kernel
theorem dJ6_numberOfTrailingZeros_0f7a4_2 : decode cJ6_numberOfTrailingZeros_0f7a4 2 = .ok (.ixor, 1) := by decide +kernel
theorem dJ6_numberOfTrailingZeros_0f7a4_3 : decode cJ6_numberOfTrailingZeros_0f7a4 3 = .ok (.iload_n 0, 1) := by decide +kernel
theorem dJ6_numberOfTrailingZeros_0f7a4_4 : decode cJ6_numberOfTrailingZeros_0f7a4 4 = .ok (.iconst 1, 1) := by decide +kernel
theorem dJ6_numberOfTrailingZeros_0f7a4_5 : decode cJ6_numberOfTrailingZeros_0f7a4 5 = .ok (.isub, 1) := by decide +kernel
theorem dJ6_numberOfTrailingZeros_0f7a4_6 : decode cJ6_numberOfTrailingZeros_0f7a4 6 = .ok (.iand, 1) := by decide +kernel
theorem dJ6_numberOfTrailingZeros_0f7a4_7 : decode cJ6_numberOfTrailingZeros_0f7a4 7 = .ok (.istore_n 0, 1) := by decide +kernel
theorem dJ6_numberOfTrailingZeros_0f7a4_8 : decode cJ6_numberOfTrailingZeros_0f7a4 8 = .ok (.iload_n 0, 1) := by decide +kernel
theorem dJ6_numberOfTrailingZeros_0f7a4_9 : decode cJ6_numberOfTrailingZeros_0f7a4 9 = .ok (.ifCond .gt 8, 3) := by decide +kernel
theorem dJ6_numberOfTrailingZeros_0f7a4_12 : decode cJ6_numberOfTrailingZeros_0f7a4 12 = .ok (.iload_n 0, 1) := by decide +kernel
theorem dJ6_numberOfTrailingZeros_0f7a4_13 : decode cJ6_numberOfTrailingZeros_0f7a4 13 = .ok (.bipush 32, 2) := by decide +kernel
theorem dJ6_numberOfTrailingZeros_0f7a4_15 : decode cJ6_numberOfTrailingZeros_0f7a4 15 = .ok (.iand, 1) := by decide +kernel
theorem dJ6_numberOfTrailingZeros_0f7a4_16 : decode cJ6_numberOfTrailingZeros_0f7a4 16 = .ok (.ireturn, 1) := by decide +kernel
theorem dJ6_numberOfTrailingZeros_0f7a4_17 : decode cJ6_numberOfTrailingZeros_0f7a4 17 = .ok (.iconst 1, 1) := by decide +kernel
theorem dJ6_numberOfTrailingZeros_0f7a4_18 : decode cJ6_numberOfTrailingZeros_0f7a4 18 = .ok (.istore_n 1, 1) := by decide +kernel
theorem dJ6_numberOfTrailingZeros_0f7a4_19 : decode cJ6_numberOfTrailingZeros_0f7a4 19 = .ok (.iload_n 0, 1) := by decide +kernel
theorem dJ6_numberOfTrailingZeros_0f7a4_20 : decode cJ6_numberOfTrailingZeros_0f7a4 20 = .ok (.ldc_w 264, 3) := by decide +kernel
theorem dJ6_numberOfTrailingZeros_0f7a4_23 : decode cJ6_numberOfTrailingZeros_0f7a4 23 = .ok (.if_icmp .le 11, 3) := by decide +kernel
theorem dJ6_numberOfTrailingZeros_0f7a4_26 : decode cJ6_numberOfTrailingZeros_0f7a4 26 = .ok (.iinc 1 16, 3) := by decide +kernel
theorem dJ6_numberOfTrailingZeros_0f7a4_29 : decode cJ6_numberOfTrailingZeros_0f7a4 29 = .ok (.iload_n 0, 1) := by decide +kernel
theorem dJ6_numberOfTrailingZeros_0f7a4_30 : decode cJ6_numberOfTrailingZeros_0f7a4 30 = .ok (.bipush 16, 2) := by decide +kernel
theorem dJ6_numberOfTrailingZeros_0f7a4_32 : decode cJ6_numberOfTrailingZeros_0f7a4 32 = .ok (.iushr, 1) := by decide +kernel
theorem dJ6_numberOfTrailingZeros_0f7a4_33 : decode cJ6_numberOfTrailingZeros_0f7a4 33 = .ok (.istore_n 0, 1) := by decide +kernel
theorem dJ6_numberOfTrailingZeros_0f7a4_34 : decode cJ6_numberOfTrailingZeros_0f7a4 34 = .ok (.iload_n 0, 1) := by decide +kernel
theorem dJ6_numberOfTrailingZeros_0f7a4_35 : decode cJ6_numberOfTrailingZeros_0f7a4 35 = .ok (.sipush 256, 3) := by decide +kernel
theorem dJ6_numberOfTrailingZeros_0f7a4_38 : decode cJ6_numberOfTrailingZeros_0f7a4 38 = .ok (.if_icmp .le 11, 3) := by decide +kernel
theorem dJ6_numberOfTrailingZeros_0f7a4_41 : decode cJ6_numberOfTrailingZeros_0f7a4 41 = .ok (.iinc 1 8, 3) := by decide +kernel
theorem dJ6_numberOfTrailingZeros_0f7a4_44 : decode cJ6_numberOfTrailingZeros_0f7a4 44 = .ok (.iload_n 0, 1) := by decide +kernel
theorem dJ6_numberOfTrailingZeros_0f7a4_45 : decode cJ6_numberOfTrailingZeros_0f7a4 45 = .ok (.bipush 8, 2) := by decide +kernel
theorem dJ6_numberOfTrailingZeros_0f7a4_47 : decode cJ6_numberOfTrailingZeros_0f7a4 47 = .ok (.iushr, 1) := by decide +kernel
theorem dJ6_numberOfTrailingZeros_0f7a4_48 : decode cJ6_numberOfTrailingZeros_0f7a4 48 = .ok (.istore_n 0, 1) := by decide +kernel
theorem dJ6_numberOfTrailingZeros_0f7a4_49 : decode cJ6_numberOfTrailingZeros_0f7a4 49 = .ok (.iload_n 0, 1) := by decide +kernel
theorem dJ6_numberOfTrailingZeros_0f7a4_50 : decode cJ6_numberOfTrailingZeros_0f7a4 50 = .ok (.bipush 16, 2) := by decide +kernel
theorem dJ6_numberOfTrailingZeros_0f7a4_52 : decode cJ6_numberOfTrailingZeros_0f7a4 52 = .ok (.if_icmp .le 10, 3) := by decide +kernel
theorem dJ6_numberOfTrailingZeros_0f7a4_55 : decode cJ6_numberOfTrailingZeros_0f7a4 55 = .ok (.iinc 1 4, 3) := by decide +kernel
theorem dJ6_numberOfTrailingZeros_0f7a4_58 : decode cJ6_numberOfTrailingZeros_0f7a4 58 = .ok (.iload_n 0, 1) := by decide +kernel
theorem dJ6_numberOfTrailingZeros_0f7a4_59 : decode cJ6_numberOfTrailingZeros_0f7a4 59 = .ok (.iconst 4, 1) := by decide +kernel
theorem dJ6_numberOfTrailingZeros_0f7a4_60 : decode cJ6_numberOfTrailingZeros_0f7a4 60 = .ok (.iushr, 1) := by decide +kernel
theorem dJ6_numberOfTrailingZeros_0f7a4_61 : decode cJ6_numberOfTrailingZeros_0f7a4 61 = .ok (.istore_n 0, 1) := by decide +kernel
theorem dJ6_numberOfTrailingZeros_0f7a4_62 : decode cJ6_numberOfTrailingZeros_0f7a4 62 = .ok (.iload_n 0, 1) := by decide +kernel
theorem dJ6_numberOfTrailingZeros_0f7a4_63 : decode cJ6_numberOfTrailingZeros_0f7a4 63 = .ok (.iconst 4, 1) := by decide +kernel
theorem dJ6_numberOfTrailingZeros_0f7a4_64 : decode cJ6_numberOfTrailingZeros_0f7a4 64 = .ok (.if_icmp .le 10, 3) := by decide +kernel
theorem dJ6_numberOfTrailingZeros_0f7a4_67 : decode cJ6_numberOfTrailingZeros_0f7a4 67 = .ok (.iinc 1 2, 3) := by decide +kernel
theorem dJ6_numberOfTrailingZeros_0f7a4_70 : decode cJ6_numberOfTrailingZeros_0f7a4 70 = .ok (.iload_n 0, 1) := by decide +kernel
theorem dJ6_numberOfTrailingZeros_0f7a4_71 : decode cJ6_numberOfTrailingZeros_0f7a4 71 = .ok (.iconst 2, 1) := by decide +kernel
theorem dJ6_numberOfTrailingZeros_0f7a4_72 : decode cJ6_numberOfTrailingZeros_0f7a4 72 = .ok (.iushr, 1) := by decide +kernel
theorem dJ6_numberOfTrailingZeros_0f7a4_73 : decode cJ6_numberOfTrailingZeros_0f7a4 73 = .ok (.istore_n 0, 1) := by decide +kernel
theorem dJ6_numberOfTrailingZeros_0f7a4_74 : decode cJ6_numberOfTrailingZeros_0f7a4 74 = .ok (.iload_n 1, 1) := by decide +kernel
theorem dJ6_numberOfTrailingZeros_0f7a4_75 : decode cJ6_numberOfTrailingZeros_0f7a4 75 = .ok (.iload_n 0, 1) := by decide +kernel
theorem dJ6_numberOfTrailingZeros_0f7a4_76 : decode cJ6_numberOfTrailingZeros_0f7a4 76 = .ok (.iconst 1, 1) := by decide +kernel
theorem dJ6_numberOfTrailingZeros_0f7a4_77 : decode cJ6_numberOfTrailingZeros_0f7a4 77 = .ok (.iushr, 1) := by decide +kernel
theorem dJ6_numberOfTrailingZeros_0f7a4_78 : decode cJ6_numberOfTrailingZeros_0f7a4 78 = .ok (.iadd, 1) := by decide +kernel
theorem dJ6_numberOfTrailingZeros_0f7a4_79 : decode cJ6_numberOfTrailingZeros_0f7a4 79 = .ok (.ireturn, 1) := by decide +kernel
theorem dJ13_numberOfLeadingZeros_95d88_0 : decode cJ13_numberOfLeadingZeros_95d88 0 = .ok (.lload_n 0, 1) := by decide +kernel
theorem dJ13_numberOfLeadingZeros_95d88_1 : decode cJ13_numberOfLeadingZeros_95d88 1 = .ok (.bipush 32, 2) := by decide +kernel
theorem dJ13_numberOfLeadingZeros_95d88_3 : decode cJ13_numberOfLeadingZeros_95d88 3 = .ok (.lushr, 1) := by decide +kernel
theorem dJ13_numberOfLeadingZeros_95d88_4 : decode cJ13_numberOfLeadingZeros_95d88 4 = .ok (.l2i, 1) := by decide +kernel
theorem dJ13_numberOfLeadingZeros_95d88_5 : decode cJ13_numberOfLeadingZeros_95d88 5 = .ok (.istore_n 2, 1) := by decide +kernel
theorem dJ13_numberOfLeadingZeros_95d88_6 : decode cJ13_numberOfLeadingZeros_95d88 6 = .ok (.iload_n 2, 1) := by decide +kernel
theorem dJ13_numberOfLeadingZeros_95d88_7 : decode cJ13_numberOfLeadingZeros_95d88 7 = .ok (.ifCond .ne 14, 3) := by decide +kernel
theorem dJ13_numberOfLeadingZeros_95d88_10 : decode cJ13_numberOfLeadingZeros_95d88 10 = .ok (.bipush 32, 2) := by decide +kernel
theorem dJ13_numberOfLeadingZeros_95d88_12 : decode cJ13_numberOfLeadingZeros_95d88 12 = .ok (.lload_n 0, 1) := by decide +kernel
theorem dJ13_numberOfLeadingZeros_95d88_13 : decode cJ13_numberOfLeadingZeros_95d88 13 = .ok (.l2i, 1) := by decide +kernel
theorem dJ13_numberOfLeadingZeros_95d88_14 : decode cJ13_numberOfLeadingZeros_95d88 14 = .ok (.invokestatic 308, 3) := by decide +kernel
theorem dJ13_numberOfLeadingZeros_95d88_17 : decode cJ13_numberOfLeadingZeros_95d88 17 = .ok (.iadd, 1) := by decide +kernel
theorem dJ13_numberOfLeadingZeros_95d88_18 : decode cJ13_numberOfLeadingZeros_95d88 18 = .ok (.goto 7, 3) := by decide +kernel
theorem dJ13_numberOfLeadingZeros_95d88_21 : decode cJ13_numberOfLeadingZeros_95d88 21 = .ok (.iload_n 2, 1) := by decide +kernel
theorem dJ13_numberOfLeadingZeros_95d88_22 : decode cJ13_numberOfLeadingZeros_95d88 22 = .ok (.invokestatic 308, 3) := by decide +kernel
theorem dJ13_numberOfLeadingZeros_95d88_25 : decode cJ13_numberOfLeadingZeros_95d88 25 = .ok (.ireturn, 1) := by decide +kernel
theorem dJ13_numberOfTrailingZeros_95d88_0 : decode cJ13_numberOfTrailingZeros_95d88 0 = .ok (.lload_n 0, 1) := by decide +kernel
theorem dJ13_numberOfTrailingZeros_95d88_1 : decode cJ13_numberOfTrailingZeros_95d88 1 = .ok (.l2i, 1) := by decide +kernel
theorem dJ13_numberOfTrailingZeros_95d88_2 : decode cJ13_numberOfTrailingZeros_95d88 2 = .ok (.istore_n 2, 1) := by decide +kernel
theorem dJ13_numberOfTrailingZeros_95d88_3 : decode cJ13_numberOfTrailingZeros_95d88 3 = .ok (.iload_n 2, 1) := by decide +kernel
theorem dJ13_numberOfTrailingZeros_95d88_4 : decode cJ13_numberOfTrailingZeros_95d88 4 = .ok (.ifCond .ne 17, 3) := by decide +kernel
theorem dJ13_numberOfTrailingZeros_95d88_7 : decode cJ13_numberOfTrailingZeros_95d88 7 = .ok (.bipush 32, 2) := by decide +kernel
theorem dJ13_numberOfTrailingZeros_95d88_9 : decode cJ13_numberOfTrailingZeros_95d88 9 = .ok (.lload_n 0, 1) := by decide +kernel
theorem dJ13_numberOfTrailingZeros_95d88_10 : decode cJ13_numberOfTrailingZeros_95d88 10 = .ok (.bipush 32, 2) := by decide +kernel
theorem dJ13_numberOfTrailingZeros_95d88_12 : decode cJ13_numberOfTrailingZeros_95d88 12 = .ok (.lushr, 1) := by decide +kernel
theorem dJ13_numberOfTrailingZeros_95d88_13 : decode cJ13_numberOfTrailingZeros_95d88 13 = .ok (.l2i, 1) := by decide +kernel
theorem dJ13_numberOfTrailingZeros_95d88_14 : decode cJ13_numberOfTrailingZeros_95d88 14 = .ok (.invokestatic 311, 3) := by decide +kernel
theorem dJ13_numberOfTrailingZeros_95d88_17 : decode cJ13_numberOfTrailingZeros_95d88 17 = .ok (.iadd, 1) := by decide +kernel
theorem dJ13_numberOfTrailingZeros_95d88_18 : decode cJ13_numberOfTrailingZeros_95d88 18 = .ok (.goto 7, 3) := by decide +kernel
theorem dJ13_numberOfTrailingZeros_95d88_21 : decode cJ13_numberOfTrailingZeros_95d88 21 = .ok (.iload_n 2, 1) := by decide +kernel
theorem dJ13_numberOfTrailingZeros_95d88_22 : decode cJ13_numberOfTrailingZeros_95d88 22 = .ok (.invokestatic 311, 3) := by decide +kernel
theorem dJ13_numberOfTrailingZeros_95d88_25 : decode cJ13_numberOfTrailingZeros_95d88 25 = .ok (.ireturn, 1) := by decide +kernel
theorem dJ13_bitCount_95d88_0 : decode cJ13_bitCount_95d88 0 = .ok (.lload_n 0, 1) := by decide +kernel
theorem dJ13_bitCount_95d88_1 : decode cJ13_bitCount_95d88 1 = .ok (.lload_n 0, 1) := by decide +kernel
theorem dJ13_bitCount_95d88_2 : decode cJ13_bitCount_95d88 2 = .ok (.iconst 1, 1) := by decide +kernel
theorem dJ13_bitCount_95d88_3 : decode cJ13_bitCount_95d88 3 = .ok (.lushr, 1) := by decide +kernel
theorem dJ13_bitCount_95d88_4 : decode cJ13_bitCount_95d88 4 = .ok (.ldc2_w 314, 3) := by decide +kernel
theorem dJ13_bitCount_95d88_7 : decode cJ13_bitCount_95d88 7 = .ok (.land, 1) := by decide +kernel
theorem dJ13_bitCount_95d88_8 : decode cJ13_bitCount_95d88 8 = .ok (.lsub, 1) := by decide +kernel
theorem dJ13_bitCount_95d88_9 : decode cJ13_bitCount_95d88 9 = .ok (.lstore_n 0, 1) := by decide +kernel
theorem dJ13_bitCount_95d88_10 : decode cJ13_bitCount_95d88 10 = .ok (.lload_n 0, 1) := by decide +kernel
theorem dJ13_bitCount_95d88_11 : decode cJ13_bitCount_95d88 11 = .ok (.ldc2_w 316, 3) := by decide +kernel
theorem dJ13_bitCount_95d88_14 : decode cJ13_bitCount_95d88 14 = .ok (.land, 1) := by decide +kernel
theorem dJ13_bitCount_95d88_15 : decode cJ13_bitCount_95d88 15 = .ok (.lload_n 0, 1) := by decide +kernel
theorem dJ13_bitCount_95d88_16 : decode cJ13_bitCount_95d88 16 = .ok (.iconst 2, 1) := by decide +kernel
theorem dJ13_bitCount_95d88_17 : decode cJ13_bitCount_95d88 17 = .ok (.lushr, 1) := by decide +kernel
theorem dJ13_bitCount_95d88_18 : decode cJ13_bitCount_95d88 18 = .ok (.ldc2_w 316, 3) := by decide +kernel
theorem dJ13_bitCount_95d88_21 : decode cJ13_bitCount_95d88 21 = .ok (.land, 1) := by decide +kernel
theorem dJ13_bitCount_95d88_22 : decode cJ13_bitCount_95d88 22 = .ok (.ladd, 1) := by decide +kernel
theorem dJ13_bitCount_95d88_23 : decode cJ13_bitCount_95d88 23 = .ok (.lstore_n 0, 1) := by decide +kernel
theorem dJ13_bitCount_95d88_24 : decode cJ13_bitCount_95d88 24 = .ok (.lload_n 0, 1) := by decide +kernel
theorem dJ13_bitCount_95d88_25 : decode cJ13_bitCount_95d88 25 = .ok (.lload_n 0, 1) := by decide +kernel
theorem dJ13_bitCount_95d88_26 : decode cJ13_bitCount_95d88 26 = .ok (.iconst 4, 1) := by decide +kernel
theorem dJ13_bitCount_95d88_27 : decode cJ13_bitCount_95d88 27 = .ok (.lushr, 1) := by decide +kernel
theorem dJ13_bitCount_95d88_28 : decode cJ13_bitCount_95d88 28 = .ok (.ladd, 1) := by decide +kernel
theorem dJ13_bitCount_95d88_29 : decode cJ13_bitCount_95d88 29 = .ok (.ldc2_w 318, 3) := by decide +kernel
theorem dJ13_bitCount_95d88_32 : decode cJ13_bitCount_95d88 32 = .ok (.land, 1) := by decide +kernel
theorem dJ13_bitCount_95d88_33 : decode cJ13_bitCount_95d88 33 = .ok (.lstore_n 0, 1) := by decide +kernel
theorem dJ13_bitCount_95d88_34 : decode cJ13_bitCount_95d88 34 = .ok (.lload_n 0, 1) := by decide +kernel
theorem dJ13_bitCount_95d88_35 : decode cJ13_bitCount_95d88 35 = .ok (.lload_n 0, 1) := by decide +kernel
theorem dJ13_bitCount_95d88_36 : decode cJ13_bitCount_95d88 36 = .ok (.bipush 8, 2) := by decide +kernel
theorem dJ13_bitCount_95d88_38 : decode cJ13_bitCount_95d88 38 = .ok (.lushr, 1) := by decide +kernel
theorem dJ13_bitCount_95d88_39 : decode cJ13_bitCount_95d88 39 = .ok (.ladd, 1) := by decide +kernel
theorem dJ13_bitCount_95d88_40 : decode cJ13_bitCount_95d88 40 = .ok (.lstore_n 0, 1) := by decide +kernel
theorem dJ13_bitCount_95d88_41 : decode cJ13_bitCount_95d88 41 = .ok (.lload_n 0, 1) := by decide +kernel
theorem dJ13_bitCount_95d88_42 : decode cJ13_bitCount_95d88 42 = .ok (.lload_n 0, 1) := by decide +kernel
theorem dJ13_bitCount_95d88_43 : decode cJ13_bitCount_95d88 43 = .ok (.bipush 16, 2) := by decide +kernel
theorem dJ13_bitCount_95d88_45 : decode cJ13_bitCount_95d88 45 = .ok (.lushr, 1) := by decide +kernel
theorem dJ13_bitCount_95d88_46 : decode cJ13_bitCount_95d88 46 = .ok (.ladd, 1) := by decide +kernel
theorem dJ13_bitCount_95d88_47 : decode cJ13_bitCount_95d88 47 = .ok (.lstore_n 0, 1) := by decide +kernel
theorem dJ13_bitCount_95d88_48 : decode cJ13_bitCount_95d88 48 = .ok (.lload_n 0, 1) := by decide +kernel
theorem dJ13_bitCount_95d88_49 : decode cJ13_bitCount_95d88 49 = .ok (.lload_n 0, 1) := by decide +kernel
theorem dJ13_bitCount_95d88_50 : decode cJ13_bitCount_95d88 50 = .ok (.bipush 32, 2) := by decide +kernel
theorem dJ13_bitCount_95d88_52 : decode cJ13_bitCount_95d88 52 = .ok (.lushr, 1) := by decide +kernel
theorem dJ13_bitCount_95d88_53 : decode cJ13_bitCount_95d88 53 = .ok (.ladd, 1) := by decide +kernel
theorem dJ13_bitCount_95d88_54 : decode cJ13_bitCount_95d88 54 = .ok (.lstore_n 0, 1) := by decide +kernel
theorem dJ13_bitCount_95d88_55 : decode cJ13_bitCount_95d88 55 = .ok (.lload_n 0, 1) := by decide +kernel
theorem dJ13_bitCount_95d88_56 : decode cJ13_bitCount_95d88 56 = .ok (.l2i, 1) := by decide +kernel
theorem dJ13_bitCount_95d88_57 : decode cJ13_bitCount_95d88 57 = .ok (.bipush 127, 2) := by decide +kernel
theorem dJ13_bitCount_95d88_59 : decode cJ13_bitCount_95d88 59 = .ok (.iand, 1) := by decide +kernel
theorem dJ13_bitCount_95d88_60 : decode cJ13_bitCount_95d88 60 = .ok (.ireturn, 1) := by decide +kernel
theorem dJ9_max_7cf53_0 : decode cJ9_max_7cf53 0 = .ok (.iload_n 0, 1) := by decide +kernel
theorem dJ9_max_7cf53_1 : decode cJ9_max_7cf53 1 = .ok (.iload_n 1, 1) := by decide +kernel
theorem dJ9_max_7cf53_2 : decode cJ9_max_7cf53 2 = .ok (.if_icmp .lt 7, 3) := by decide +kernel
theorem dJ9_max_7cf53_5 : decode cJ9_max_7cf53 5 = .ok (.iload_n 0, 1) := by decide +kernel
theorem dJ9_max_7cf53_6 : decode cJ9_max_7cf53 6 = .ok (.goto 4, 3) := by decide +kernel
theorem dJ9_max_7cf53_9 : decode cJ9_max_7cf53 9 = .ok (.iload_n 1, 1) := by decide +kernel
theorem dJ9_max_7cf53_10 : decode cJ9_max_7cf53 10 = .ok (.ireturn, 1) := by decide +kernel
theorem dJ9_min_7cf53_0 : decode cJ9_min_7cf53 0 = .ok (.iload_n 0, 1) := by decide +kernel
theorem dJ9_min_7cf53_1 : decode cJ9_min_7cf53 1 = .ok (.iload_n 1, 1) := by decide +kernel
theorem dJ9_min_7cf53_2 : decode cJ9_min_7cf53 2 = .ok (.if_icmp .gt 7, 3) := by decide +kernel
theorem dJ9_min_7cf53_5 : decode cJ9_min_7cf53 5 = .ok (.iload_n 0, 1) := by decide +kernel
theorem dJ9_min_7cf53_6 : decode cJ9_min_7cf53 6 = .ok (.goto 4, 3) := by decide +kernel
theorem dJ9_min_7cf53_9 : decode cJ9_min_7cf53 9 = .ok (.iload_n 1, 1) := by decide +kernel
theorem dJ9_min_7cf53_10 : decode cJ9_min_7cf53 10 = .ok (.ireturn, 1) := by decide +kernel
theorem dJxa1e45_init_da8c8_0 : decode cJxa1e45_init_da8c8 0 = .ok (.aload_n 0, 1) := by decide +kernel
theorem dJxa1e45_init_da8c8_1 : decode cJxa1e45_init_da8c8 1 = .ok (.invokespecial 1, 3) := by decide +kernel
theorem dJxa1e45_init_da8c8_4 : decode cJxa1e45_init_da8c8 4 = .ok (.return_, 1) := by decide +kernel
theorem dJxc12de_init_da8c8_0 : decode cJxc12de_init_da8c8 0 = .ok (.aload_n 0, 1) := by decide +kernel
theorem dJxc12de_init_da8c8_1 : decode cJxc12de_init_da8c8 1 = .ok (.invokespecial 1, 3) := by decide +kernel
theorem dJxc12de_init_da8c8_4 : decode cJxc12de_init_da8c8 4 = .ok (.aload_n 0, 1) := by decide +kernel
theorem dJxc12de_init_da8c8_5 : decode cJxc12de_init_da8c8 5 = .ok (.iconst 0, 1) := by decide +kernel
theorem dJxc12de_init_da8c8_6 : decode cJxc12de_init_da8c8 6 = .ok (.putfield 7, 3) := by decide +kernel
theorem dJxc12de_init_da8c8_9 : decode cJxc12de_init_da8c8 9 = .ok (.return_, 1) := by decide +kernel
theorem dJx4a65c_init_da8c8_0 : decode cJx4a65c_init_da8c8 0 = .ok (.aload_n 0, 1) := by decide +kernel
theorem dJx4a65c_init_da8c8_1 : decode cJx4a65c_init_da8c8 1 = .ok (.invokespecial 1, 3) := by decide +kernel
theorem dJx4a65c_init_da8c8_4 : decode cJx4a65c_init_da8c8 4 = .ok (.aload_n 0, 1) := by decide +kernel
theorem dJx4a65c_init_da8c8_5 : decode cJx4a65c_init_da8c8 5 = .ok (.getstatic 39, 3) := by decide +kernel
theorem dJx4a65c_init_da8c8_8 : decode cJx4a65c_init_da8c8 8 = .ok (.putfield 9, 3) := by decide +kernel
theorem dJx4a65c_init_da8c8_11 : decode cJx4a65c_init_da8c8 11 = .ok (.return_, 1) := by decide +kernel
theorem dJx4a65c_grow_92f84_0 : decode cJx4a65c_grow_92f84 0 = .ok (.aload_n 0, 1) := by decide +kernel
theorem dJx4a65c_grow_92f84_1 : decode cJx4a65c_grow_92f84 1 = .ok (.getfield 9, 3) := by decide +kernel
theorem dJx4a65c_grow_92f84_4 : decode cJx4a65c_grow_92f84 4 = .ok (.arraylength, 1) := by decide +kernel
theorem dJx4a65c_grow_92f84_5 : decode cJx4a65c_grow_92f84 5 = .ok (.istore_n 2, 1) := by decide +kernel
theorem dJx4a65c_grow_92f84_6 : decode cJx4a65c_grow_92f84 6 = .ok (.iload_n 2, 1) := by decide +kernel
theorem dJx4a65c_grow_92f84_7 : decode cJx4a65c_grow_92f84 7 = .ok (.ifCond .gt 13, 3) := by decide +kernel
theorem dJx4a65c_grow_92f84_10 : decode cJx4a65c_grow_92f84 10 = .ok (.aload_n 0, 1) := by decide +kernel
theorem dJx4a65c_grow_92f84_11 : decode cJx4a65c_grow_92f84 11 = .ok (.getfield 9, 3) := by decide +kernel
theorem dJx4a65c_grow_92f84_14 : decode cJx4a65c_grow_92f84 14 = .ok (.getstatic 39, 3) := by decide +kernel
theorem dJx4a65c_grow_92f84_17 : decode cJx4a65c_grow_92f84 17 = .ok (.if_acmp .eq 28, 3) := by decide +kernel
theorem dJx4a65c_grow_92f84_20 : decode cJx4a65c_grow_92f84 20 = .ok (.iload_n 2, 1) := by decide +kernel
theorem dJx4a65c_grow_92f84_21 : decode cJx4a65c_grow_92f84 21 = .ok (.iload_n 1, 1) := by decide +kernel
theorem dJx4a65c_grow_92f84_22 : decode cJx4a65c_grow_92f84 22 = .ok (.iload_n 2, 1) := by decide +kernel
theorem dJx4a65c_grow_92f84_23 : decode cJx4a65c_grow_92f84 23 = .ok (.isub, 1) := by decide +kernel
theorem dJx4a65c_grow_92f84_24 : decode cJx4a65c_grow_92f84 24 = .ok (.iload_n 2, 1) := by decide +kernel
theorem dJx4a65c_grow_92f84_25 : decode cJx4a65c_grow_92f84 25 = .ok (.iconst 1, 1) := by decide +kernel
theorem dJx4a65c_grow_92f84_26 : decode cJx4a65c_grow_92f84 26 = .ok (.ishr, 1) := by decide +kernel
theorem dJx4a65c_grow_92f84_27 : decode cJx4a65c_grow_92f84 27 = .ok (.invokestatic 73, 3) := by decide +kernel
theorem dJx4a65c_grow_92f84_30 : decode cJx4a65c_grow_92f84 30 = .ok (.istore_n 3, 1) := by decide +kernel
theorem dJx4a65c_grow_92f84_31 : decode cJx4a65c_grow_92f84 31 = .ok (.aload_n 0, 1) := by decide +kernel
theorem dJx4a65c_grow_92f84_32 : decode cJx4a65c_grow_92f84 32 = .ok (.aload_n 0, 1) := by decide +kernel
theorem dJx4a65c_grow_92f84_33 : decode cJx4a65c_grow_92f84 33 = .ok (.getfield 9, 3) := by decide +kernel
theorem dJx4a65c_grow_92f84_36 : decode cJx4a65c_grow_92f84 36 = .ok (.iload_n 3, 1) := by decide +kernel
theorem dJx4a65c_grow_92f84_37 : decode cJx4a65c_grow_92f84 37 = .ok (.invokestatic 66, 3) := by decide +kernel
theorem dJx4a65c_grow_92f84_40 : decode cJx4a65c_grow_92f84 40 = .ok (.dup_x1, 1) := by decide +kernel
theorem dJx4a65c_grow_92f84_41 : decode cJx4a65c_grow_92f84 41 = .ok (.putfield 9, 3) := by decide +kernel
theorem dJx4a65c_grow_92f84_44 : decode cJx4a65c_grow_92f84 44 = .ok (.areturn, 1) := by decide +kernel
theorem dJx4a65c_grow_92f84_45 : decode cJx4a65c_grow_92f84 45 = .ok (.aload_n 0, 1) := by decide +kernel
theorem dJx4a65c_grow_92f84_46 : decode cJx4a65c_grow_92f84 46 = .ok (.bipush 10, 2) := by decide +kernel
theorem dJx4a65c_grow_92f84_48 : decode cJx4a65c_grow_92f84 48 = .ok (.iload_n 1, 1) := by decide +kernel
theorem dJx4a65c_grow_92f84_49 : decode cJx4a65c_grow_92f84 49 = .ok (.invokestatic 79, 3) := by decide +kernel
theorem dJx4a65c_grow_92f84_52 : decode cJx4a65c_grow_92f84 52 = .ok (.anewarray 7, 3) := by decide +kernel
theorem dJx4a65c_grow_92f84_55 : decode cJx4a65c_grow_92f84 55 = .ok (.dup_x1, 1) := by decide +kernel
theorem dJx4a65c_grow_92f84_56 : decode cJx4a65c_grow_92f84 56 = .ok (.putfield 9, 3) := by decide +kernel
theorem dJx4a65c_grow_92f84_59 : decode cJx4a65c_grow_92f84 59 = .ok (.areturn, 1) := by decide +kernel
theorem dJx4a65c_grow_d5877_0 : decode cJx4a65c_grow_d5877 0 = .ok (.aload_n 0, 1) := by decide +kernel
theorem dJx4a65c_grow_d5877_1 : decode cJx4a65c_grow_d5877 1 = .ok (.aload_n 0, 1) := by decide +kernel
theorem dJx4a65c_grow_d5877_2 : decode cJx4a65c_grow_d5877 2 = .ok (.getfield 48, 3) := by decide +kernel
theorem dJx4a65c_grow_d5877_5 : decode cJx4a65c_grow_d5877 5 = .ok (.iconst 1, 1) := by decide +kernel
theorem dJx4a65c_grow_d5877_6 : decode cJx4a65c_grow_d5877 6 = .ok (.iadd, 1) := by decide +kernel
theorem dJx4a65c_grow_d5877_7 : decode cJx4a65c_grow_d5877 7 = .ok (.invokevirtual 69, 3) := by decide +kernel
theorem dJx4a65c_grow_d5877_10 : decode cJx4a65c_grow_d5877 10 = .ok (.areturn, 1) := by decide +kernel
theorem dJx4a65c_size_8abf5_0 : decode cJx4a65c_size_8abf5 0 = .ok (.aload_n 0, 1) := by decide +kernel
theorem dJx4a65c_size_8abf5_1 : decode cJx4a65c_size_8abf5 1 = .ok (.getfield 48, 3) := by decide +kernel
theorem dJx4a65c_size_8abf5_4 : decode cJx4a65c_size_8abf5 4 = .ok (.ireturn, 1) := by decide +kernel
theorem dJx4a65c_elementData_915e3_0 : decode cJx4a65c_elementData_915e3 0 = .ok (.aload_n 0, 1) := by decide +kernel
theorem dJx4a65c_elementData_915e3_1 : decode cJx4a65c_elementData_915e3 1 = .ok (.getfield 9, 3) := by decide +kernel
theorem dJx4a65c_elementData_915e3_4 : decode cJx4a65c_elementData_915e3 4 = .ok (.iload_n 1, 1) := by decide +kernel
theorem dJx4a65c_elementData_915e3_5 : decode cJx4a65c_elementData_915e3 5 = .ok (.aaload, 1) := by decide +kernel
theorem dJx4a65c_elementData_915e3_6 : decode cJx4a65c_elementData_915e3 6 = .ok (.areturn, 1) := by decide +kernel
theorem dJx4a65c_get_915e3_0 : decode cJx4a65c_get_915e3 0 = .ok (.iload_n 1, 1) := by decide +kernel
theorem dJx4a65c_get_915e3_1 : decode cJx4a65c_get_915e3 1 = .ok (.aload_n 0, 1) := by decide +kernel
theorem dJx4a65c_get_915e3_2 : decode cJx4a65c_get_915e3 2 = .ok (.getfield 48, 3) := by decide +kernel
theorem dJx4a65c_get_915e3_5 : decode cJx4a65c_get_915e3 5 = .ok (.invokestatic 118, 3) := by decide +kernel
theorem dJx4a65c_get_915e3_8 : decode cJx4a65c_get_915e3 8 = .ok (.pop, 1) := by decide +kernel
theorem dJx4a65c_get_915e3_9 : decode cJx4a65c_get_915e3 9 = .ok (.aload_n 0, 1) := by decide +kernel
theorem dJx4a65c_get_915e3_10 : decode cJx4a65c_get_915e3 10 = .ok (.iload_n 1, 1) := by decide +kernel
theorem dJx4a65c_get_915e3_11 : decode cJx4a65c_get_915e3 11 = .ok (.invokevirtual 123, 3) := by decide +kernel
theorem dJx4a65c_get_915e3_14 : decode cJx4a65c_get_915e3 14 = .ok (.areturn, 1) := by decide +kernel
theorem dJx4a65c_add_72be8_0 : decode cJx4a65c_add_72be8 0 = .ok (.iload_n 3, 1) := by decide +kernel
theorem dJx4a65c_add_72be8_1 : decode cJx4a65c_add_72be8 1 = .ok (.aload_n 2, 1) := by decide +kernel
theorem dJx4a65c_add_72be8_2 : decode cJx4a65c_add_72be8 2 = .ok (.arraylength, 1) := by decide +kernel
theorem dJx4a65c_add_72be8_3 : decode cJx4a65c_add_72be8 3 = .ok (.if_icmp .ne 8, 3) := by decide +kernel
theorem dJx4a65c_add_72be8_6 : decode cJx4a65c_add_72be8 6 = .ok (.aload_n 0, 1) := by decide +kernel
theorem dJx4a65c_add_72be8_7 : decode cJx4a65c_add_72be8 7 = .ok (.invokevirtual 129, 3) := by decide +kernel
theorem dJx4a65c_add_72be8_10 : decode cJx4a65c_add_72be8 10 = .ok (.astore_n 2, 1) := by decide +kernel
theorem dJx4a65c_add_72be8_11 : decode cJx4a65c_add_72be8 11 = .ok (.aload_n 2, 1) := by decide +kernel
theorem dJx4a65c_add_72be8_12 : decode cJx4a65c_add_72be8 12 = .ok (.iload_n 3, 1) := by decide +kernel
theorem dJx4a65c_add_72be8_13 : decode cJx4a65c_add_72be8 13 = .ok (.aload_n 1, 1) := by decide +kernel
theorem dJx4a65c_add_72be8_14 : decode cJx4a65c_add_72be8 14 = .ok (.aastore, 1) := by decide +kernel
theorem dJx4a65c_add_72be8_15 : decode cJx4a65c_add_72be8 15 = .ok (.aload_n 0, 1) := by decide +kernel
theorem dJx4a65c_add_72be8_16 : decode cJx4a65c_add_72be8 16 = .ok (.iload_n 3, 1) := by decide +kernel
theorem dJx4a65c_add_72be8_17 : decode cJx4a65c_add_72be8 17 = .ok (.iconst 1, 1) := by decide +kernel
theorem dJx4a65c_add_72be8_18 : decode cJx4a65c_add_72be8 18 = .ok (.iadd, 1) := by decide +kernel
theorem dJx4a65c_add_72be8_19 : decode cJx4a65c_add_72be8 19 = .ok (.putfield 48, 3) := by decide +kernel
theorem dJx4a65c_add_72be8_22 : decode cJx4a65c_add_72be8 22 = .ok (.return_, 1) := by decide +kernel
theorem dJx4a65c_add_9ea2d_0 : decode cJx4a65c_add_9ea2d 0 = .ok (.aload_n 0, 1) := by decide +kernel
theorem dJx4a65c_add_9ea2d_1 : decode cJx4a65c_add_9ea2d 1 = .ok (.dup, 1) := by decide +kernel
theorem dJx4a65c_add_9ea2d_2 : decode cJx4a65c_add_9ea2d 2 = .ok (.getfield 63, 3) := by decide +kernel
theorem dJx4a65c_add_9ea2d_5 : decode cJx4a65c_add_9ea2d 5 = .ok (.iconst 1, 1) := by decide +kernel
theorem dJx4a65c_add_9ea2d_6 : decode cJx4a65c_add_9ea2d 6 = .ok (.iadd, 1) := by decide +kernel
theorem dJx4a65c_add_9ea2d_7 : decode cJx4a65c_add_9ea2d 7 = .ok (.putfield 63, 3) := by decide +kernel
theorem dJx4a65c_add_9ea2d_10 : decode cJx4a65c_add_9ea2d 10 = .ok (.aload_n 0, 1) := by decide +kernel
theorem dJx4a65c_add_9ea2d_11 : decode cJx4a65c_add_9ea2d 11 = .ok (.aload_n 1, 1) := by decide +kernel
theorem dJx4a65c_add_9ea2d_12 : decode cJx4a65c_add_9ea2d 12 = .ok (.aload_n 0, 1) := by decide +kernel
theorem dJx4a65c_add_9ea2d_13 : decode cJx4a65c_add_9ea2d 13 = .ok (.getfield 9, 3) := by decide +kernel
theorem dJx4a65c_add_9ea2d_16 : decode cJx4a65c_add_9ea2d 16 = .ok (.aload_n 0, 1) := by decide +kernel
theorem dJx4a65c_add_9ea2d_17 : decode cJx4a65c_add_9ea2d 17 = .ok (.getfield 48, 3) := by decide +kernel
theorem dJx4a65c_add_9ea2d_20 : decode cJx4a65c_add_9ea2d 20 = .ok (.invokevirtual 131, 3) := by decide +kernel
theorem dJx4a65c_add_9ea2d_23 : decode cJx4a65c_add_9ea2d 23 = .ok (.iconst 1, 1) := by decide +kernel
theorem dJx4a65c_add_9ea2d_24 : decode cJx4a65c_add_9ea2d 24 = .ok (.ireturn, 1) := by decide +kernel
theorem dJx4a65c_remove_915e3_0 : decode cJx4a65c_remove_915e3 0 = .ok (.iload_n 1, 1) := by decide +kernel
theorem dJx4a65c_remove_915e3_1 : decode cJx4a65c_remove_915e3 1 = .ok (.aload_n 0, 1) := by decide +kernel
theorem dJx4a65c_remove_915e3_2 : decode cJx4a65c_remove_915e3 2 = .ok (.getfield 48, 3) := by decide +kernel
theorem dJx4a65c_remove_915e3_5 : decode cJx4a65c_remove_915e3 5 = .ok (.invokestatic 118, 3) := by decide +kernel
theorem dJx4a65c_remove_915e3_8 : decode cJx4a65c_remove_915e3 8 = .ok (.pop, 1) := by decide +kernel
theorem dJx4a65c_remove_915e3_9 : decode cJx4a65c_remove_915e3 9 = .ok (.aload_n 0, 1) := by decide +kernel
theorem dJx4a65c_remove_915e3_10 : decode cJx4a65c_remove_915e3 10 = .ok (.getfield 9, 3) := by decide +kernel
theorem dJx4a65c_remove_915e3_13 : decode cJx4a65c_remove_915e3 13 = .ok (.astore_n 2, 1) := by decide +kernel
theorem dJx4a65c_remove_915e3_14 : decode cJx4a65c_remove_915e3 14 = .ok (.aload_n 2, 1) := by decide +kernel
theorem dJx4a65c_remove_915e3_15 : decode cJx4a65c_remove_915e3 15 = .ok (.iload_n 1, 1) := by decide +kernel
theorem dJx4a65c_remove_915e3_16 : decode cJx4a65c_remove_915e3 16 = .ok (.aaload, 1) := by decide +kernel
theorem dJx4a65c_remove_915e3_17 : decode cJx4a65c_remove_915e3 17 = .ok (.astore_n 3, 1) := by decide +kernel
theorem dJx4a65c_remove_915e3_18 : decode cJx4a65c_remove_915e3 18 = .ok (.aload_n 0, 1) := by decide +kernel
theorem dJx4a65c_remove_915e3_19 : decode cJx4a65c_remove_915e3 19 = .ok (.aload_n 2, 1) := by decide +kernel
theorem dJx4a65c_remove_915e3_20 : decode cJx4a65c_remove_915e3 20 = .ok (.iload_n 1, 1) := by decide +kernel
theorem dJx4a65c_remove_915e3_21 : decode cJx4a65c_remove_915e3 21 = .ok (.invokevirtual 144, 3) := by decide +kernel
theorem dJx4a65c_remove_915e3_24 : decode cJx4a65c_remove_915e3 24 = .ok (.aload_n 3, 1) := by decide +kernel
theorem dJx4a65c_remove_915e3_25 : decode cJx4a65c_remove_915e3 25 = .ok (.areturn, 1) := by decide +kernel
theorem dJx4a65c_fastRemove_b59b0_0 : decode cJx4a65c_fastRemove_b59b0 0 = .ok (.aload_n 0, 1) := by decide +kernel
theorem dJx4a65c_fastRemove_b59b0_1 : decode cJx4a65c_fastRemove_b59b0 1 = .ok (.dup, 1) := by decide +kernel
theorem dJx4a65c_fastRemove_b59b0_2 : decode cJx4a65c_fastRemove_b59b0 2 = .ok (.getfield 63, 3) := by decide +kernel
theorem dJx4a65c_fastRemove_b59b0_5 : decode cJx4a65c_fastRemove_b59b0 5 = .ok (.iconst 1, 1) := by decide +kernel
theorem dJx4a65c_fastRemove_b59b0_6 : decode cJx4a65c_fastRemove_b59b0 6 = .ok (.iadd, 1) := by decide +kernel
theorem dJx4a65c_fastRemove_b59b0_7 : decode cJx4a65c_fastRemove_b59b0 7 = .ok (.putfield 63, 3) := by decide +kernel
theorem dJx4a65c_fastRemove_b59b0_10 : decode cJx4a65c_fastRemove_b59b0 10 = .ok (.aload_n 0, 1) := by decide +kernel
theorem dJx4a65c_fastRemove_b59b0_11 : decode cJx4a65c_fastRemove_b59b0 11 = .ok (.getfield 48, 3) := by decide +kernel
theorem dJx4a65c_fastRemove_b59b0_14 : decode cJx4a65c_fastRemove_b59b0 14 = .ok (.iconst 1, 1) := by decide +kernel
theorem dJx4a65c_fastRemove_b59b0_15 : decode cJx4a65c_fastRemove_b59b0 15 = .ok (.isub, 1) := by decide +kernel
theorem dJx4a65c_fastRemove_b59b0_16 : decode cJx4a65c_fastRemove_b59b0 16 = .ok (.dup, 1) := by decide +kernel
theorem dJx4a65c_fastRemove_b59b0_17 : decode cJx4a65c_fastRemove_b59b0 17 = .ok (.istore_n 3, 1) := by decide +kernel
theorem dJx4a65c_fastRemove_b59b0_18 : decode cJx4a65c_fastRemove_b59b0 18 = .ok (.iload_n 2, 1) := by decide +kernel
theorem dJx4a65c_fastRemove_b59b0_19 : decode cJx4a65c_fastRemove_b59b0 19 = .ok (.if_icmp .le 15, 3) := by decide +kernel
theorem dJx4a65c_fastRemove_b59b0_22 : decode cJx4a65c_fastRemove_b59b0 22 = .ok (.aload_n 1, 1) := by decide +kernel
theorem dJx4a65c_fastRemove_b59b0_23 : decode cJx4a65c_fastRemove_b59b0 23 = .ok (.iload_n 2, 1) := by decide +kernel
theorem dJx4a65c_fastRemove_b59b0_24 : decode cJx4a65c_fastRemove_b59b0 24 = .ok (.iconst 1, 1) := by decide +kernel
theorem dJx4a65c_fastRemove_b59b0_25 : decode cJx4a65c_fastRemove_b59b0 25 = .ok (.iadd, 1) := by decide +kernel
theorem dJx4a65c_fastRemove_b59b0_26 : decode cJx4a65c_fastRemove_b59b0 26 = .ok (.aload_n 1, 1) := by decide +kernel
theorem dJx4a65c_fastRemove_b59b0_27 : decode cJx4a65c_fastRemove_b59b0 27 = .ok (.iload_n 2, 1) := by decide +kernel
theorem dJx4a65c_fastRemove_b59b0_28 : decode cJx4a65c_fastRemove_b59b0 28 = .ok (.iload_n 3, 1) := by decide +kernel
theorem dJx4a65c_fastRemove_b59b0_29 : decode cJx4a65c_fastRemove_b59b0 29 = .ok (.iload_n 2, 1) := by decide +kernel
theorem dJx4a65c_fastRemove_b59b0_30 : decode cJx4a65c_fastRemove_b59b0 30 = .ok (.isub, 1) := by decide +kernel
theorem dJx4a65c_fastRemove_b59b0_31 : decode cJx4a65c_fastRemove_b59b0 31 = .ok (.invokestatic 112, 3) := by decide +kernel
theorem dJx4a65c_fastRemove_b59b0_34 : decode cJx4a65c_fastRemove_b59b0 34 = .ok (.aload_n 1, 1) := by decide +kernel
theorem dJx4a65c_fastRemove_b59b0_35 : decode cJx4a65c_fastRemove_b59b0 35 = .ok (.aload_n 0, 1) := by decide +kernel
theorem dJx4a65c_fastRemove_b59b0_36 : decode cJx4a65c_fastRemove_b59b0 36 = .ok (.iload_n 3, 1) := by decide +kernel
theorem dJx4a65c_fastRemove_b59b0_37 : decode cJx4a65c_fastRemove_b59b0 37 = .ok (.dup_x1, 1) := by decide +kernel
theorem dJx4a65c_fastRemove_b59b0_38 : decode cJx4a65c_fastRemove_b59b0 38 = .ok (.putfield 48, 3) := by decide +kernel
theorem dJx4a65c_fastRemove_b59b0_41 : decode cJx4a65c_fastRemove_b59b0 41 = .ok (.aconst_null, 1) := by decide +kernel
theorem dJx4a65c_fastRemove_b59b0_42 : decode cJx4a65c_fastRemove_b59b0 42 = .ok (.aastore, 1) := by decide +kernel
theorem dJx4a65c_fastRemove_b59b0_43 : decode cJx4a65c_fastRemove_b59b0 43 = .ok (.return_, 1) := by decide +kernel
theorem dJ7_fill_53178_0 : decode cJ7_fill_53178 0 = .ok (.iconst 0, 1) := by decide +kernel
theorem dJ7_fill_53178_1 : decode cJ7_fill_53178 1 = .ok (.istore_n 2, 1) := by decide +kernel
theorem dJ7_fill_53178_2 : decode cJ7_fill_53178 2 = .ok (.aload_n 0, 1) := by decide +kernel
theorem dJ7_fill_53178_3 : decode cJ7_fill_53178 3 = .ok (.arraylength, 1) := by decide +kernel
theorem dJ7_fill_53178_4 : decode cJ7_fill_53178 4 = .ok (.istore_n 3, 1) := by decide +kernel
theorem dJ7_fill_53178_5 : decode cJ7_fill_53178 5 = .ok (.iload_n 2, 1) := by decide +kernel
theorem dJ7_fill_53178_6 : decode cJ7_fill_53178 6 = .ok (.iload_n 3, 1) := by decide +kernel
theorem dJ7_fill_53178_7 : decode cJ7_fill_53178 7 = .ok (.if_icmp .ge 13, 3) := by decide +kernel
theorem dJ7_fill_53178_10 : decode cJ7_fill_53178 10 = .ok (.aload_n 0, 1) := by decide +kernel
theorem dJ7_fill_53178_11 : decode cJ7_fill_53178 11 = .ok (.iload_n 2, 1) := by decide +kernel
theorem dJ7_fill_53178_12 : decode cJ7_fill_53178 12 = .ok (.iload_n 1, 1) := by decide +kernel
theorem dJ7_fill_53178_13 : decode cJ7_fill_53178 13 = .ok (.iastore, 1) := by decide +kernel
theorem dJ7_fill_53178_14 : decode cJ7_fill_53178 14 = .ok (.iinc 2 1, 3) := by decide +kernel
theorem dJ7_fill_53178_17 : decode cJ7_fill_53178 17 = .ok (.goto (-12), 3) := by decide +kernel
theorem dJ7_fill_53178_20 : decode cJ7_fill_53178 20 = .ok (.return_, 1) := by decide +kernel
theorem dJ7_copyOf_1904c_0 : decode cJ7_copyOf_1904c 0 = .ok (.aload_n 0, 1) := by decide +kernel
theorem dJ7_copyOf_1904c_1 : decode cJ7_copyOf_1904c 1 = .ok (.iload_n 1, 1) := by decide +kernel
theorem dJ7_copyOf_1904c_2 : decode cJ7_copyOf_1904c 2 = .ok (.aload_n 0, 1) := by decide +kernel
theorem dJ7_copyOf_1904c_3 : decode cJ7_copyOf_1904c 3 = .ok (.invokevirtual 86, 3) := by decide +kernel
theorem dJ7_copyOf_1904c_6 : decode cJ7_copyOf_1904c 6 = .ok (.invokestatic 300, 3) := by decide +kernel
theorem dJ7_copyOf_1904c_9 : decode cJ7_copyOf_1904c 9 = .ok (.areturn, 1) := by decide +kernel
theorem dJ7_copyOf_6403c_0 : decode cJ7_copyOf_6403c 0 = .ok (.aload_n 2, 1) := by decide +kernel
theorem dJ7_copyOf_6403c_1 : decode cJ7_copyOf_6403c 1 = .ok (.ldc 110, 2) := by decide +kernel
theorem dJ7_copyOf_6403c_3 : decode cJ7_copyOf_6403c 3 = .ok (.if_acmp .ne 10, 3) := by decide +kernel
theorem dJ7_copyOf_6403c_6 : decode cJ7_copyOf_6403c 6 = .ok (.iload_n 1, 1) := by decide +kernel
theorem dJ7_copyOf_6403c_7 : decode cJ7_copyOf_6403c 7 = .ok (.anewarray 2, 3) := by decide +kernel
theorem dJ7_copyOf_6403c_10 : decode cJ7_copyOf_6403c 10 = .ok (.goto 14, 3) := by decide +kernel
theorem dJ7_copyOf_6403c_13 : decode cJ7_copyOf_6403c 13 = .ok (.aload_n 2, 1) := by decide +kernel
theorem dJ7_copyOf_6403c_14 : decode cJ7_copyOf_6403c 14 = .ok (.invokevirtual 90, 3) := by decide +kernel
theorem dJ7_copyOf_6403c_17 : decode cJ7_copyOf_6403c 17 = .ok (.iload_n 1, 1) := by decide +kernel
theorem dJ7_copyOf_6403c_18 : decode cJ7_copyOf_6403c 18 = .ok (.invokestatic 95, 3) := by decide +kernel
theorem dJ7_copyOf_6403c_21 : decode cJ7_copyOf_6403c 21 = .ok (.checkcast 110, 3) := by decide +kernel
theorem dJ7_copyOf_6403c_24 : decode cJ7_copyOf_6403c 24 = .ok (.astore_n 3, 1) := by decide +kernel
theorem dJ7_copyOf_6403c_25 : decode cJ7_copyOf_6403c 25 = .ok (.aload_n 0, 1) := by decide +kernel
theorem dJ7_copyOf_6403c_26 : decode cJ7_copyOf_6403c 26 = .ok (.iconst 0, 1) := by decide +kernel
theorem dJ7_copyOf_6403c_27 : decode cJ7_copyOf_6403c 27 = .ok (.aload_n 3, 1) := by decide +kernel
theorem dJ7_copyOf_6403c_28 : decode cJ7_copyOf_6403c 28 = .ok (.iconst 0, 1) := by decide +kernel
theorem dJ7_copyOf_6403c_29 : decode cJ7_copyOf_6403c 29 = .ok (.aload_n 0, 1) := by decide +kernel
theorem dJ7_copyOf_6403c_30 : decode cJ7_copyOf_6403c 30 = .ok (.arraylength, 1) := by decide +kernel
theorem dJ7_copyOf_6403c_31 : decode cJ7_copyOf_6403c 31 = .ok (.iload_n 1, 1) := by decide +kernel
theorem dJ7_copyOf_6403c_32 : decode cJ7_copyOf_6403c 32 = .ok (.invokestatic 304, 3) := by decide +kernel
theorem dJ7_copyOf_6403c_35 : decode cJ7_copyOf_6403c 35 = .ok (.invokestatic 150, 3) := by decide +kernel
theorem dJ7_copyOf_6403c_38 : decode cJ7_copyOf_6403c 38 = .ok (.aload_n 3, 1) := by decide +kernel
theorem dJ7_copyOf_6403c_39 : decode cJ7_copyOf_6403c 39 = .ok (.areturn, 1) := by decide +kernel
theorem dJ15_checkIndex_7cf53_0 : decode cJ15_checkIndex_7cf53 0 = .ok (.iload_n 0, 1) := by decide +kernel
theorem dJ15_checkIndex_7cf53_1 : decode cJ15_checkIndex_7cf53 1 = .ok (.iload_n 1, 1) := by decide +kernel
theorem dJ15_checkIndex_7cf53_2 : decode cJ15_checkIndex_7cf53 2 = .ok (.aconst_null, 1) := by decide +kernel
theorem dJ15_checkIndex_7cf53_3 : decode cJ15_checkIndex_7cf53 3 = .ok (.invokestatic 105, 3) := by decide +kernel
theorem dJ15_checkIndex_7cf53_6 : decode cJ15_checkIndex_7cf53 6 = .ok (.ireturn, 1) := by decide +kernel
theorem dJ8_newLength_cabcc_0 : decode cJ8_newLength_cabcc 0 = .ok (.iload_n 0, 1) := by decide +kernel
theorem dJ8_newLength_cabcc_1 : decode cJ8_newLength_cabcc 1 = .ok (.iload_n 1, 1) := by decide +kernel
theorem dJ8_newLength_cabcc_2 : decode cJ8_newLength_cabcc 2 = .ok (.iload_n 2, 1) := by decide +kernel
theorem dJ8_newLength_cabcc_3 : decode cJ8_newLength_cabcc 3 = .ok (.invokestatic 194, 3) := by decide +kernel
theorem dJ8_newLength_cabcc_6 : decode cJ8_newLength_cabcc 6 = .ok (.iadd, 1) := by decide +kernel
theorem dJ8_newLength_cabcc_7 : decode cJ8_newLength_cabcc 7 = .ok (.istore_n 3, 1) := by decide +kernel
theorem dJ8_newLength_cabcc_8 : decode cJ8_newLength_cabcc 8 = .ok (.iconst 0, 1) := by decide +kernel
theorem dJ8_newLength_cabcc_9 : decode cJ8_newLength_cabcc 9 = .ok (.iload_n 3, 1) := by decide +kernel
theorem dJ8_newLength_cabcc_10 : decode cJ8_newLength_cabcc 10 = .ok (.if_icmp .ge 11, 3) := by decide +kernel
theorem dJ8_newLength_cabcc_13 : decode cJ8_newLength_cabcc 13 = .ok (.iload_n 3, 1) := by decide +kernel
theorem dJ8_newLength_cabcc_14 : decode cJ8_newLength_cabcc 14 = .ok (.ldc 200, 2) := by decide +kernel
theorem dJ8_newLength_cabcc_16 : decode cJ8_newLength_cabcc 16 = .ok (.if_icmp .gt 5, 3) := by decide +kernel
theorem dJ8_newLength_cabcc_19 : decode cJ8_newLength_cabcc 19 = .ok (.iload_n 3, 1) := by decide +kernel
theorem dJ8_newLength_cabcc_20 : decode cJ8_newLength_cabcc 20 = .ok (.ireturn, 1) := by decide +kernel
theorem dJ8_newLength_cabcc_21 : decode cJ8_newLength_cabcc 21 = .ok (.iload_n 0, 1) := by decide +kernel
theorem dJ8_newLength_cabcc_22 : decode cJ8_newLength_cabcc 22 = .ok (.iload_n 1, 1) := by decide +kernel
theorem dJ8_newLength_cabcc_23 : decode cJ8_newLength_cabcc 23 = .ok (.invokestatic 201, 3) := by decide +kernel
theorem dJ8_newLength_cabcc_26 : decode cJ8_newLength_cabcc 26 = .ok (.ireturn, 1) := by decide +kernel
theorem dJ8_hugeLength_7cf53_0 : decode cJ8_hugeLength_7cf53 0 = .ok (.iload_n 0, 1) := by decide +kernel
theorem dJ8_hugeLength_7cf53_1 : decode cJ8_hugeLength_7cf53 1 = .ok (.iload_n 1, 1) := by decide +kernel
theorem dJ8_hugeLength_7cf53_2 : decode cJ8_hugeLength_7cf53 2 = .ok (.iadd, 1) := by decide +kernel
theorem dJ8_hugeLength_7cf53_3 : decode cJ8_hugeLength_7cf53 3 = .ok (.istore_n 2, 1) := by decide +kernel
theorem dJ8_hugeLength_7cf53_4 : decode cJ8_hugeLength_7cf53 4 = .ok (.iload_n 2, 1) := by decide +kernel
theorem dJ8_hugeLength_7cf53_5 : decode cJ8_hugeLength_7cf53 5 = .ok (.ifCond .ge 44, 3) := by decide +kernel
theorem dJ8_hugeLength_7cf53_8 : decode cJ8_hugeLength_7cf53 8 = .ok (.new 204, 3) := by decide +kernel
theorem dJ8_hugeLength_7cf53_11 : decode cJ8_hugeLength_7cf53 11 = .ok (.dup, 1) := by decide +kernel
theorem dJ8_hugeLength_7cf53_12 : decode cJ8_hugeLength_7cf53 12 = .ok (.new 89, 3) := by decide +kernel
theorem dJ8_hugeLength_7cf53_15 : decode cJ8_hugeLength_7cf53 15 = .ok (.dup, 1) := by decide +kernel
theorem dJ8_hugeLength_7cf53_16 : decode cJ8_hugeLength_7cf53 16 = .ok (.invokespecial 91, 3) := by decide +kernel
theorem dJ8_hugeLength_7cf53_19 : decode cJ8_hugeLength_7cf53 19 = .ok (.ldc 206, 2) := by decide +kernel
theorem dJ8_hugeLength_7cf53_21 : decode cJ8_hugeLength_7cf53 21 = .ok (.invokevirtual 94, 3) := by decide +kernel
theorem dJ8_hugeLength_7cf53_24 : decode cJ8_hugeLength_7cf53 24 = .ok (.iload_n 0, 1) := by decide +kernel
theorem dJ8_hugeLength_7cf53_25 : decode cJ8_hugeLength_7cf53 25 = .ok (.invokevirtual 98, 3) := by decide +kernel
theorem dJ8_hugeLength_7cf53_28 : decode cJ8_hugeLength_7cf53 28 = .ok (.ldc 208, 2) := by decide +kernel
theorem dJ8_hugeLength_7cf53_30 : decode cJ8_hugeLength_7cf53 30 = .ok (.invokevirtual 94, 3) := by decide +kernel
theorem dJ8_hugeLength_7cf53_33 : decode cJ8_hugeLength_7cf53 33 = .ok (.iload_n 1, 1) := by decide +kernel
theorem dJ8_hugeLength_7cf53_34 : decode cJ8_hugeLength_7cf53 34 = .ok (.invokevirtual 98, 3) := by decide +kernel
theorem dJ8_hugeLength_7cf53_37 : decode cJ8_hugeLength_7cf53 37 = .ok (.ldc 210, 2) := by decide +kernel
theorem dJ8_hugeLength_7cf53_39 : decode cJ8_hugeLength_7cf53 39 = .ok (.invokevirtual 94, 3) := by decide +kernel
theorem dJ8_hugeLength_7cf53_42 : decode cJ8_hugeLength_7cf53 42 = .ok (.invokevirtual 101, 3) := by decide +kernel
theorem dJ8_hugeLength_7cf53_45 : decode cJ8_hugeLength_7cf53 45 = .ok (.invokespecial 212, 3) := by decide +kernel
theorem dJ8_hugeLength_7cf53_48 : decode cJ8_hugeLength_7cf53 48 = .ok (.athrow, 1) := by decide +kernel
theorem dJ8_hugeLength_7cf53_49 : decode cJ8_hugeLength_7cf53 49 = .ok (.iload_n 2, 1) := by decide +kernel
theorem dJ8_hugeLength_7cf53_50 : decode cJ8_hugeLength_7cf53 50 = .ok (.ldc 200, 2) := by decide +kernel
theorem dJ8_hugeLength_7cf53_52 : decode cJ8_hugeLength_7cf53 52 = .ok (.if_icmp .gt 6, 3) := by decide +kernel
theorem dJ8_hugeLength_7cf53_55 : decode cJ8_hugeLength_7cf53 55 = .ok (.ldc 200, 2) := by decide +kernel
theorem dJ8_hugeLength_7cf53_57 : decode cJ8_hugeLength_7cf53 57 = .ok (.ireturn, 1) := by decide +kernel
theorem dJ8_hugeLength_7cf53_58 : decode cJ8_hugeLength_7cf53 58 = .ok (.iload_n 2, 1) := by decide +kernel
theorem dJ8_hugeLength_7cf53_59 : decode cJ8_hugeLength_7cf53 59 = .ok (.ireturn, 1) := by decide +kernel
theorem dJ3_checkIndex_8e157_0 : decode cJ3_checkIndex_8e157 0 = .ok (.iload_n 0, 1) := by decide +kernel
theorem dJ3_checkIndex_8e157_1 : decode cJ3_checkIndex_8e157 1 = .ok (.ifCond .lt 8, 3) := by decide +kernel
theorem dJ3_checkIndex_8e157_4 : decode cJ3_checkIndex_8e157 4 = .ok (.iload_n 0, 1) := by decide +kernel
theorem dJ3_checkIndex_8e157_5 : decode cJ3_checkIndex_8e157 5 = .ok (.iload_n 1, 1) := by decide +kernel
theorem dJ3_checkIndex_8e157_6 : decode cJ3_checkIndex_8e157 6 = .ok (.if_icmp .lt 10, 3) := by decide +kernel
theorem dJ3_checkIndex_8e157_9 : decode cJ3_checkIndex_8e157 9 = .ok (.aload_n 2, 1) := by decide +kernel
theorem dJ3_checkIndex_8e157_10 : decode cJ3_checkIndex_8e157 10 = .ok (.iload_n 0, 1) := by decide +kernel
theorem dJ3_checkIndex_8e157_11 : decode cJ3_checkIndex_8e157 11 = .ok (.iload_n 1, 1) := by decide +kernel
theorem dJ3_checkIndex_8e157_12 : decode cJ3_checkIndex_8e157 12 = .ok (.invokestatic 95, 3) := by decide +kernel
theorem dJ3_checkIndex_8e157_15 : decode cJ3_checkIndex_8e157 15 = .ok (.athrow, 1) := by decide +kernel
theorem dJ3_checkIndex_8e157_16 : decode cJ3_checkIndex_8e157 16 = .ok (.iload_n 0, 1) := by decide +kernel
theorem dJ3_checkIndex_8e157_17 : decode cJ3_checkIndex_8e157 17 = .ok (.ireturn, 1) := by decide +kernel
theorem dL_cell_0 : decode cL_cell 0 = .ok (.iload_n 1, 1) := by decide +kernel
theorem dL_cell_1 : decode cL_cell 1 = .ok (.aload_n 0, 1) := by decide +kernel
theorem dL_cell_2 : decode cL_cell 2 = .ok (.arraylength, 1) := by decide +kernel
theorem dL_cell_3 : decode cL_cell 3 = .ok (.if_icmp .ge 9, 3) := by decide +kernel
theorem dL_cell_6 : decode cL_cell 6 = .ok (.aload_n 0, 1) := by decide +kernel
theorem dL_cell_7 : decode cL_cell 7 = .ok (.iload_n 1, 1) := by decide +kernel
theorem dL_cell_8 : decode cL_cell 8 = .ok (.iaload, 1) := by decide +kernel
theorem dL_cell_9 : decode cL_cell 9 = .ok (.goto 15, 3) := by decide +kernel
theorem dL_cell_12 : decode cL_cell 12 = .ok (.ldc 7, 2) := by decide +kernel
theorem dL_cell_14 : decode cL_cell 14 = .ok (.iload_n 1, 1) := by decide +kernel
theorem dL_cell_15 : decode cL_cell 15 = .ok (.sipush 4096, 3) := by decide +kernel
theorem dL_cell_18 : decode cL_cell 18 = .ok (.irem, 1) := by decide +kernel
theorem dL_cell_19 : decode cL_cell 19 = .ok (.imul, 1) := by decide +kernel
theorem dL_cell_20 : decode cL_cell 20 = .ok (.sipush 241, 3) := by decide +kernel
theorem dL_cell_23 : decode cL_cell 23 = .ok (.iadd, 1) := by decide +kernel
theorem dL_cell_24 : decode cL_cell 24 = .ok (.ldc 8, 2) := by decide +kernel
theorem dL_cell_26 : decode cL_cell 26 = .ok (.iand, 1) := by decide +kernel
theorem dL_cell_27 : decode cL_cell 27 = .ok (.ireturn, 1) := by decide +kernel
theorem dL_garden_0 : decode cL_garden 0 = .ok (.aload_n 0, 1) := by decide +kernel
theorem dL_garden_1 : decode cL_garden 1 = .ok (.iload_n 1, 1) := by decide +kernel
theorem dL_garden_2 : decode cL_garden 2 = .ok (.iload_n 2, 1) := by decide +kernel
theorem dL_garden_3 : decode cL_garden 3 = .ok (.invokevirtual 9, 3) := by decide +kernel
theorem dL_garden_6 : decode cL_garden 6 = .ok (.ireturn, 1) := by decide +kernel
theorem dL_garden_7 : decode cL_garden 7 = .ok (.astore_n 3, 1) := by decide +kernel
theorem dL_garden_8 : decode cL_garden 8 = .ok (.ldc 17, 2) := by decide +kernel
theorem dL_garden_10 : decode cL_garden 10 = .ok (.ireturn, 1) := by decide +kernel
theorem dL_pond_0 : decode cL_pond 0 = .ok (.aload_n 0, 1) := by decide +kernel
theorem dL_pond_1 : decode cL_pond 1 = .ok (.iload_n 1, 1) := by decide +kernel
theorem dL_pond_2 : decode cL_pond 2 = .ok (.iload_n 2, 1) := by decide +kernel
theorem dL_pond_3 : decode cL_pond 3 = .ok (.invokevirtual 18, 3) := by decide +kernel
theorem dL_pond_6 : decode cL_pond 6 = .ok (.ireturn, 1) := by decide +kernel
theorem dL_pond_7 : decode cL_pond 7 = .ok (.astore_n 3, 1) := by decide +kernel
theorem dL_pond_8 : decode cL_pond 8 = .ok (.ldc 17, 2) := by decide +kernel
theorem dL_pond_10 : decode cL_pond 10 = .ok (.ireturn, 1) := by decide +kernel
theorem dL_pond_11 : decode cL_pond 11 = .ok (.astore_n 3, 1) := by decide +kernel
theorem dL_pond_12 : decode cL_pond 12 = .ok (.ldc 25, 2) := by decide +kernel
theorem dL_pond_14 : decode cL_pond 14 = .ok (.ireturn, 1) := by decide +kernel
theorem dL_wall_0 : decode cL_wall 0 = .ok (.aload_n 0, 1) := by decide +kernel
theorem dL_wall_1 : decode cL_wall 1 = .ok (.iload_n 1, 1) := by decide +kernel
theorem dL_wall_2 : decode cL_wall 2 = .ok (.iload_n 2, 1) := by decide +kernel
theorem dL_wall_3 : decode cL_wall 3 = .ok (.invokevirtual 26, 3) := by decide +kernel
theorem dL_wall_6 : decode cL_wall 6 = .ok (.ireturn, 1) := by decide +kernel
theorem dL_wall_7 : decode cL_wall 7 = .ok (.astore_n 3, 1) := by decide +kernel
theorem dL_wall_8 : decode cL_wall 8 = .ok (.ldc 17, 2) := by decide +kernel
theorem dL_wall_10 : decode cL_wall 10 = .ok (.ireturn, 1) := by decide +kernel
theorem dL_wall_11 : decode cL_wall 11 = .ok (.astore_n 3, 1) := by decide +kernel
theorem dL_wall_12 : decode cL_wall 12 = .ok (.ldc 25, 2) := by decide +kernel
theorem dL_wall_14 : decode cL_wall 14 = .ok (.ireturn, 1) := by decide +kernel
theorem dL_lay_0 : decode cL_lay 0 = .ok (.aload_n 0, 1) := by decide +kernel
theorem dL_lay_1 : decode cL_lay 1 = .ok (.iload_n 1, 1) := by decide +kernel
theorem dL_lay_2 : decode cL_lay 2 = .ok (.iload_n 2, 1) := by decide +kernel
theorem dL_lay_3 : decode cL_lay 3 = .ok (.iload_n 3, 1) := by decide +kernel
theorem dL_lay_4 : decode cL_lay 4 = .ok (.invokevirtual 29, 3) := by decide +kernel
theorem dL_lay_7 : decode cL_lay 7 = .ok (.ireturn, 1) := by decide +kernel
theorem dL_lay_8 : decode cL_lay 8 = .ok (.astore 4, 2) := by decide +kernel
theorem dL_lay_10 : decode cL_lay 10 = .ok (.ldc 17, 2) := by decide +kernel
theorem dL_lay_12 : decode cL_lay 12 = .ok (.ireturn, 1) := by decide +kernel
theorem dL_lift_0 : decode cL_lift 0 = .ok (.aload_n 0, 1) := by decide +kernel
theorem dL_lift_1 : decode cL_lift 1 = .ok (.iload_n 1, 1) := by decide +kernel
theorem dL_lift_2 : decode cL_lift 2 = .ok (.iload_n 2, 1) := by decide +kernel
theorem dL_lift_3 : decode cL_lift 3 = .ok (.invokevirtual 33, 3) := by decide +kernel
theorem dL_lift_6 : decode cL_lift 6 = .ok (.ireturn, 1) := by decide +kernel
theorem dL_lift_7 : decode cL_lift 7 = .ok (.astore_n 3, 1) := by decide +kernel
theorem dL_lift_8 : decode cL_lift 8 = .ok (.ldc 17, 2) := by decide +kernel
theorem dL_lift_10 : decode cL_lift 10 = .ok (.ireturn, 1) := by decide +kernel
theorem dL_lift_11 : decode cL_lift 11 = .ok (.astore_n 3, 1) := by decide +kernel
theorem dL_lift_12 : decode cL_lift 12 = .ok (.ldc 25, 2) := by decide +kernel
theorem dL_lift_14 : decode cL_lift 14 = .ok (.ireturn, 1) := by decide +kernel
theorem dL_flip_0 : decode cL_flip 0 = .ok (.aload_n 0, 1) := by decide +kernel
theorem dL_flip_1 : decode cL_flip 1 = .ok (.iload_n 1, 1) := by decide +kernel
theorem dL_flip_2 : decode cL_flip 2 = .ok (.iload_n 2, 1) := by decide +kernel
theorem dL_flip_3 : decode cL_flip 3 = .ok (.iload_n 3, 1) := by decide +kernel
theorem dL_flip_4 : decode cL_flip 4 = .ok (.invokevirtual 36, 3) := by decide +kernel
theorem dL_flip_7 : decode cL_flip 7 = .ok (.ireturn, 1) := by decide +kernel
theorem dL_flip_8 : decode cL_flip 8 = .ok (.astore 4, 2) := by decide +kernel
theorem dL_flip_10 : decode cL_flip 10 = .ok (.ldc 17, 2) := by decide +kernel
theorem dL_flip_12 : decode cL_flip 12 = .ok (.ireturn, 1) := by decide +kernel
theorem dL_flip_13 : decode cL_flip 13 = .ok (.astore 4, 2) := by decide +kernel
theorem dL_flip_15 : decode cL_flip 15 = .ok (.ldc 25, 2) := by decide +kernel
theorem dL_flip_17 : decode cL_flip 17 = .ok (.ireturn, 1) := by decide +kernel
theorem dL_fill_0 : decode cL_fill 0 = .ok (.aload_n 0, 1) := by decide +kernel
theorem dL_fill_1 : decode cL_fill 1 = .ok (.invokevirtual 40, 3) := by decide +kernel
theorem dL_fill_4 : decode cL_fill 4 = .ok (.ireturn, 1) := by decide +kernel
theorem dL_fill_5 : decode cL_fill 5 = .ok (.astore_n 1, 1) := by decide +kernel
theorem dL_fill_6 : decode cL_fill 6 = .ok (.ldc 17, 2) := by decide +kernel
theorem dL_fill_8 : decode cL_fill 8 = .ok (.ireturn, 1) := by decide +kernel
theorem dL_halve_0 : decode cL_halve 0 = .ok (.aload_n 0, 1) := by decide +kernel
theorem dL_halve_1 : decode cL_halve 1 = .ok (.invokevirtual 44, 3) := by decide +kernel
theorem dL_halve_4 : decode cL_halve 4 = .ok (.ireturn, 1) := by decide +kernel
theorem dL_halve_5 : decode cL_halve 5 = .ok (.astore_n 1, 1) := by decide +kernel
theorem dL_halve_6 : decode cL_halve 6 = .ok (.ldc 17, 2) := by decide +kernel
theorem dL_halve_8 : decode cL_halve 8 = .ok (.ireturn, 1) := by decide +kernel
theorem dL_append_0 : decode cL_append 0 = .ok (.aload_n 0, 1) := by decide +kernel
theorem dL_append_1 : decode cL_append 1 = .ok (.iload_n 1, 1) := by decide +kernel
theorem dL_append_2 : decode cL_append 2 = .ok (.invokevirtual 47, 3) := by decide +kernel
theorem dL_append_5 : decode cL_append 5 = .ok (.ireturn, 1) := by decide +kernel
theorem dL_append_6 : decode cL_append 6 = .ok (.astore_n 2, 1) := by decide +kernel
theorem dL_append_7 : decode cL_append 7 = .ok (.ldc 17, 2) := by decide +kernel
theorem dL_append_9 : decode cL_append 9 = .ok (.ireturn, 1) := by decide +kernel
theorem dL_append_10 : decode cL_append 10 = .ok (.astore_n 2, 1) := by decide +kernel
theorem dL_append_11 : decode cL_append 11 = .ok (.ldc 25, 2) := by decide +kernel
theorem dL_append_13 : decode cL_append 13 = .ok (.ireturn, 1) := by decide +kernel
theorem dL_load_0 : decode cL_load 0 = .ok (.aload_n 0, 1) := by decide +kernel
theorem dL_load_1 : decode cL_load 1 = .ok (.invokevirtual 51, 3) := by decide +kernel
theorem dL_load_4 : decode cL_load 4 = .ok (.ireturn, 1) := by decide +kernel
theorem dL_load_5 : decode cL_load 5 = .ok (.astore_n 1, 1) := by decide +kernel
theorem dL_load_6 : decode cL_load 6 = .ok (.ldc 17, 2) := by decide +kernel
theorem dL_load_8 : decode cL_load 8 = .ok (.ireturn, 1) := by decide +kernel
theorem dL_keep_0 : decode cL_keep 0 = .ok (.aload_n 0, 1) := by decide +kernel
theorem dL_keep_1 : decode cL_keep 1 = .ok (.iload_n 1, 1) := by decide +kernel
theorem dL_keep_2 : decode cL_keep 2 = .ok (.invokevirtual 54, 3) := by decide +kernel
theorem dL_keep_5 : decode cL_keep 5 = .ok (.ireturn, 1) := by decide +kernel
theorem dL_keep_6 : decode cL_keep 6 = .ok (.astore_n 2, 1) := by decide +kernel
theorem dL_keep_7 : decode cL_keep 7 = .ok (.ldc 17, 2) := by decide +kernel
theorem dL_keep_9 : decode cL_keep 9 = .ok (.ireturn, 1) := by decide +kernel
theorem dL_goBack_0 : decode cL_goBack 0 = .ok (.aload_n 0, 1) := by decide +kernel
theorem dL_goBack_1 : decode cL_goBack 1 = .ok (.iload_n 1, 1) := by decide +kernel
theorem dL_goBack_2 : decode cL_goBack 2 = .ok (.invokevirtual 57, 3) := by decide +kernel
theorem dL_goBack_5 : decode cL_goBack 5 = .ok (.ireturn, 1) := by decide +kernel
theorem dL_goBack_6 : decode cL_goBack 6 = .ok (.astore_n 2, 1) := by decide +kernel
theorem dL_goBack_7 : decode cL_goBack 7 = .ok (.ldc 17, 2) := by decide +kernel
theorem dL_goBack_9 : decode cL_goBack 9 = .ok (.ireturn, 1) := by decide +kernel
theorem dL_goBack_10 : decode cL_goBack 10 = .ok (.astore_n 2, 1) := by decide +kernel
theorem dL_goBack_11 : decode cL_goBack 11 = .ok (.ldc 25, 2) := by decide +kernel
theorem dL_goBack_13 : decode cL_goBack 13 = .ok (.ireturn, 1) := by decide +kernel
theorem dL_undo_0 : decode cL_undo 0 = .ok (.aload_n 0, 1) := by decide +kernel
theorem dL_undo_1 : decode cL_undo 1 = .ok (.invokevirtual 60, 3) := by decide +kernel
theorem dL_undo_4 : decode cL_undo 4 = .ok (.ireturn, 1) := by decide +kernel
theorem dL_undo_5 : decode cL_undo 5 = .ok (.astore_n 1, 1) := by decide +kernel
theorem dL_undo_6 : decode cL_undo 6 = .ok (.ldc 17, 2) := by decide +kernel
theorem dL_undo_8 : decode cL_undo 8 = .ok (.ireturn, 1) := by decide +kernel
theorem dL_cellOf_0 : decode cL_cellOf 0 = .ok (.aload_n 0, 1) := by decide +kernel
theorem dL_cellOf_1 : decode cL_cellOf 1 = .ok (.iload_n 1, 1) := by decide +kernel
theorem dL_cellOf_2 : decode cL_cellOf 2 = .ok (.iload_n 2, 1) := by decide +kernel
theorem dL_cellOf_3 : decode cL_cellOf 3 = .ok (.iload_n 3, 1) := by decide +kernel
theorem dL_cellOf_4 : decode cL_cellOf 4 = .ok (.invokevirtual 63, 3) := by decide +kernel
theorem dL_cellOf_7 : decode cL_cellOf 7 = .ok (.ireturn, 1) := by decide +kernel
theorem dL_cellOf_8 : decode cL_cellOf 8 = .ok (.astore 4, 2) := by decide +kernel
theorem dL_cellOf_10 : decode cL_cellOf 10 = .ok (.ldc 17, 2) := by decide +kernel
theorem dL_cellOf_12 : decode cL_cellOf 12 = .ok (.ireturn, 1) := by decide +kernel
theorem dL_cellOf_13 : decode cL_cellOf 13 = .ok (.astore 4, 2) := by decide +kernel
theorem dL_cellOf_15 : decode cL_cellOf 15 = .ok (.ldc 25, 2) := by decide +kernel
theorem dL_cellOf_17 : decode cL_cellOf 17 = .ok (.ireturn, 1) := by decide +kernel
theorem dL_triple_0 : decode cL_triple 0 = .ok (.aload_n 0, 1) := by decide +kernel
theorem dL_triple_1 : decode cL_triple 1 = .ok (.iload_n 1, 1) := by decide +kernel
theorem dL_triple_2 : decode cL_triple 2 = .ok (.iload_n 2, 1) := by decide +kernel
theorem dL_triple_3 : decode cL_triple 3 = .ok (.invokevirtual 66, 3) := by decide +kernel
theorem dL_triple_6 : decode cL_triple 6 = .ok (.ireturn, 1) := by decide +kernel
theorem dL_triple_7 : decode cL_triple 7 = .ok (.astore_n 3, 1) := by decide +kernel
theorem dL_triple_8 : decode cL_triple 8 = .ok (.ldc 17, 2) := by decide +kernel
theorem dL_triple_10 : decode cL_triple 10 = .ok (.ireturn, 1) := by decide +kernel
theorem dL_triple_11 : decode cL_triple 11 = .ok (.astore_n 3, 1) := by decide +kernel
theorem dL_triple_12 : decode cL_triple 12 = .ok (.ldc 25, 2) := by decide +kernel
theorem dL_triple_14 : decode cL_triple 14 = .ok (.ireturn, 1) := by decide +kernel
theorem dL_row_0 : decode cL_row 0 = .ok (.aload_n 0, 1) := by decide +kernel
theorem dL_row_1 : decode cL_row 1 = .ok (.iload_n 1, 1) := by decide +kernel
theorem dL_row_2 : decode cL_row 2 = .ok (.iload_n 2, 1) := by decide +kernel
theorem dL_row_3 : decode cL_row 3 = .ok (.invokevirtual 69, 3) := by decide +kernel
theorem dL_row_6 : decode cL_row 6 = .ok (.ireturn, 1) := by decide +kernel
theorem dL_row_7 : decode cL_row 7 = .ok (.astore_n 3, 1) := by decide +kernel
theorem dL_row_8 : decode cL_row 8 = .ok (.ldc 17, 2) := by decide +kernel
theorem dL_row_10 : decode cL_row 10 = .ok (.ireturn, 1) := by decide +kernel
theorem dL_row_11 : decode cL_row 11 = .ok (.astore_n 3, 1) := by decide +kernel
theorem dL_row_12 : decode cL_row 12 = .ok (.ldc 25, 2) := by decide +kernel
theorem dL_row_14 : decode cL_row 14 = .ok (.ireturn, 1) := by decide +kernel
theorem dL_count_0 : decode cL_count 0 = .ok (.aload_n 0, 1) := by decide +kernel
theorem dL_count_1 : decode cL_count 1 = .ok (.iload_n 1, 1) := by decide +kernel
theorem dL_count_2 : decode cL_count 2 = .ok (.invokevirtual 72, 3) := by decide +kernel
theorem dL_count_5 : decode cL_count 5 = .ok (.ireturn, 1) := by decide +kernel
theorem dL_count_6 : decode cL_count 6 = .ok (.astore_n 2, 1) := by decide +kernel
theorem dL_count_7 : decode cL_count 7 = .ok (.ldc 17, 2) := by decide +kernel
theorem dL_count_9 : decode cL_count 9 = .ok (.ireturn, 1) := by decide +kernel
theorem dL_whyNot_0 : decode cL_whyNot 0 = .ok (.aload_n 0, 1) := by decide +kernel
theorem dL_whyNot_1 : decode cL_whyNot 1 = .ok (.iload_n 1, 1) := by decide +kernel
theorem dL_whyNot_2 : decode cL_whyNot 2 = .ok (.iload_n 2, 1) := by decide +kernel
theorem dL_whyNot_3 : decode cL_whyNot 3 = .ok (.iload_n 3, 1) := by decide +kernel
theorem dL_whyNot_4 : decode cL_whyNot 4 = .ok (.invokevirtual 75, 3) := by decide +kernel
theorem dL_whyNot_7 : decode cL_whyNot 7 = .ok (.ireturn, 1) := by decide +kernel
theorem dL_whyNot_8 : decode cL_whyNot 8 = .ok (.astore 4, 2) := by decide +kernel
theorem dL_whyNot_10 : decode cL_whyNot 10 = .ok (.ldc 17, 2) := by decide +kernel
theorem dL_whyNot_12 : decode cL_whyNot 12 = .ok (.ireturn, 1) := by decide +kernel
theorem dL_waysWith_0 : decode cL_waysWith 0 = .ok (.aload_n 0, 1) := by decide +kernel
theorem dL_waysWith_1 : decode cL_waysWith 1 = .ok (.iload_n 1, 1) := by decide +kernel
theorem dL_waysWith_2 : decode cL_waysWith 2 = .ok (.iload_n 2, 1) := by decide +kernel
theorem dL_waysWith_3 : decode cL_waysWith 3 = .ok (.iload_n 3, 1) := by decide +kernel
theorem dL_waysWith_4 : decode cL_waysWith 4 = .ok (.invokevirtual 78, 3) := by decide +kernel
theorem dL_waysWith_7 : decode cL_waysWith 7 = .ok (.ireturn, 1) := by decide +kernel
theorem dL_waysWith_8 : decode cL_waysWith 8 = .ok (.astore 4, 2) := by decide +kernel
theorem dL_waysWith_10 : decode cL_waysWith 10 = .ok (.ldc 17, 2) := by decide +kernel
theorem dL_waysWith_12 : decode cL_waysWith 12 = .ok (.ireturn, 1) := by decide +kernel
theorem dL_forced_0 : decode cL_forced 0 = .ok (.aload_n 0, 1) := by decide +kernel
theorem dL_forced_1 : decode cL_forced 1 = .ok (.iload_n 1, 1) := by decide +kernel
theorem dL_forced_2 : decode cL_forced 2 = .ok (.invokevirtual 81, 3) := by decide +kernel
theorem dL_forced_5 : decode cL_forced 5 = .ok (.ireturn, 1) := by decide +kernel
theorem dL_forced_6 : decode cL_forced 6 = .ok (.astore_n 2, 1) := by decide +kernel
theorem dL_forced_7 : decode cL_forced 7 = .ok (.ldc 17, 2) := by decide +kernel
theorem dL_forced_9 : decode cL_forced 9 = .ok (.ireturn, 1) := by decide +kernel
theorem dL_acts_0 : decode cL_acts 0 = .ok (.iload_n 1, 1) := by decide +kernel
theorem dL_acts_1 : decode cL_acts 1 = .ok (.bipush 16, 2) := by decide +kernel
theorem dL_acts_3 : decode cL_acts 3 = .ok (.idiv, 1) := by decide +kernel
theorem dL_acts_4 : decode cL_acts 4 = .ok (.istore_n 2, 1) := by decide +kernel
theorem dL_acts_5 : decode cL_acts 5 = .ok (.iload_n 2, 1) := by decide +kernel
theorem dL_acts_6 : decode cL_acts 6 = .ok (.aload_n 0, 1) := by decide +kernel
theorem dL_acts_7 : decode cL_acts 7 = .ok (.iconst 0, 1) := by decide +kernel
theorem dL_acts_8 : decode cL_acts 8 = .ok (.invokestatic 84, 3) := by decide +kernel
theorem dL_acts_11 : decode cL_acts 11 = .ok (.irem, 1) := by decide +kernel
theorem dL_acts_12 : decode cL_acts 12 = .ok (.istore_n 3, 1) := by decide +kernel
theorem dL_acts_13 : decode cL_acts 13 = .ok (.iload_n 2, 1) := by decide +kernel
theorem dL_acts_14 : decode cL_acts 14 = .ok (.bipush 8, 2) := by decide +kernel
theorem dL_acts_16 : decode cL_acts 16 = .ok (.idiv, 1) := by decide +kernel
theorem dL_acts_17 : decode cL_acts 17 = .ok (.aload_n 0, 1) := by decide +kernel
theorem dL_acts_18 : decode cL_acts 18 = .ok (.iconst 1, 1) := by decide +kernel
theorem dL_acts_19 : decode cL_acts 19 = .ok (.invokestatic 84, 3) := by decide +kernel
theorem dL_acts_22 : decode cL_acts 22 = .ok (.irem, 1) := by decide +kernel
theorem dL_acts_23 : decode cL_acts 23 = .ok (.istore 4, 2) := by decide +kernel
theorem dL_acts_25 : decode cL_acts 25 = .ok (.iload_n 1, 1) := by decide +kernel
theorem dL_acts_26 : decode cL_acts 26 = .ok (.bipush 16, 2) := by decide +kernel
theorem dL_acts_28 : decode cL_acts 28 = .ok (.irem, 1) := by decide +kernel
theorem dL_acts_29 : decode cL_acts 29 = .ok (.tableswitch 163 0 14 #[75, 93, 93, 101, 109, 109, 109, 109, 109, 123, 131, 131, 153, 153, 158], 75) := by decide +kernel
theorem dL_acts_104 : decode cL_acts 104 = .ok (.aload_n 0, 1) := by decide +kernel
theorem dL_acts_105 : decode cL_acts 105 = .ok (.iconst 2, 1) := by decide +kernel
theorem dL_acts_106 : decode cL_acts 106 = .ok (.iload_n 2, 1) := by decide +kernel
theorem dL_acts_107 : decode cL_acts 107 = .ok (.iconst 4, 1) := by decide +kernel
theorem dL_acts_108 : decode cL_acts 108 = .ok (.irem, 1) := by decide +kernel
theorem dL_acts_109 : decode cL_acts 109 = .ok (.iadd, 1) := by decide +kernel
theorem dL_acts_110 : decode cL_acts 110 = .ok (.iconst 2, 1) := by decide +kernel
theorem dL_acts_111 : decode cL_acts 111 = .ok (.iload_n 2, 1) := by decide +kernel
theorem dL_acts_112 : decode cL_acts 112 = .ok (.bipush 8, 2) := by decide +kernel
theorem dL_acts_114 : decode cL_acts 114 = .ok (.idiv, 1) := by decide +kernel
theorem dL_acts_115 : decode cL_acts 115 = .ok (.iconst 4, 1) := by decide +kernel
theorem dL_acts_116 : decode cL_acts 116 = .ok (.irem, 1) := by decide +kernel
theorem dL_acts_117 : decode cL_acts 117 = .ok (.iadd, 1) := by decide +kernel
theorem dL_acts_118 : decode cL_acts 118 = .ok (.invokestatic 89, 3) := by decide +kernel
theorem dL_acts_121 : decode cL_acts 121 = .ok (.ireturn, 1) := by decide +kernel
theorem dL_acts_122 : decode cL_acts 122 = .ok (.aload_n 0, 1) := by decide +kernel
theorem dL_acts_123 : decode cL_acts 123 = .ok (.iload_n 3, 1) := by decide +kernel
theorem dL_acts_124 : decode cL_acts 124 = .ok (.iload 4, 2) := by decide +kernel
theorem dL_acts_126 : decode cL_acts 126 = .ok (.invokestatic 92, 3) := by decide +kernel
theorem dL_acts_129 : decode cL_acts 129 = .ok (.ireturn, 1) := by decide +kernel
theorem dL_acts_130 : decode cL_acts 130 = .ok (.aload_n 0, 1) := by decide +kernel
theorem dL_acts_131 : decode cL_acts 131 = .ok (.iload_n 3, 1) := by decide +kernel
theorem dL_acts_132 : decode cL_acts 132 = .ok (.iload 4, 2) := by decide +kernel
theorem dL_acts_134 : decode cL_acts 134 = .ok (.invokestatic 94, 3) := by decide +kernel
theorem dL_acts_137 : decode cL_acts 137 = .ok (.ireturn, 1) := by decide +kernel
theorem dL_acts_138 : decode cL_acts 138 = .ok (.aload_n 0, 1) := by decide +kernel
theorem dL_acts_139 : decode cL_acts 139 = .ok (.iload_n 3, 1) := by decide +kernel
theorem dL_acts_140 : decode cL_acts 140 = .ok (.iload 4, 2) := by decide +kernel
theorem dL_acts_142 : decode cL_acts 142 = .ok (.iload_n 2, 1) := by decide +kernel
theorem dL_acts_143 : decode cL_acts 143 = .ok (.bipush 64, 2) := by decide +kernel
theorem dL_acts_145 : decode cL_acts 145 = .ok (.idiv, 1) := by decide +kernel
theorem dL_acts_146 : decode cL_acts 146 = .ok (.iconst 4, 1) := by decide +kernel
theorem dL_acts_147 : decode cL_acts 147 = .ok (.irem, 1) := by decide +kernel
theorem dL_acts_148 : decode cL_acts 148 = .ok (.invokestatic 96, 3) := by decide +kernel
theorem dL_acts_151 : decode cL_acts 151 = .ok (.ireturn, 1) := by decide +kernel
theorem dL_acts_152 : decode cL_acts 152 = .ok (.aload_n 0, 1) := by decide +kernel
theorem dL_acts_153 : decode cL_acts 153 = .ok (.iload_n 3, 1) := by decide +kernel
theorem dL_acts_154 : decode cL_acts 154 = .ok (.iload 4, 2) := by decide +kernel
theorem dL_acts_156 : decode cL_acts 156 = .ok (.invokestatic 99, 3) := by decide +kernel
theorem dL_acts_159 : decode cL_acts 159 = .ok (.ireturn, 1) := by decide +kernel
theorem dL_acts_160 : decode cL_acts 160 = .ok (.aload_n 0, 1) := by decide +kernel
theorem dL_acts_161 : decode cL_acts 161 = .ok (.iload_n 3, 1) := by decide +kernel
theorem dL_acts_162 : decode cL_acts 162 = .ok (.iload 4, 2) := by decide +kernel
theorem dL_acts_164 : decode cL_acts 164 = .ok (.iload_n 2, 1) := by decide +kernel
theorem dL_acts_165 : decode cL_acts 165 = .ok (.bipush 64, 2) := by decide +kernel
theorem dL_acts_167 : decode cL_acts 167 = .ok (.idiv, 1) := by decide +kernel
theorem dL_acts_168 : decode cL_acts 168 = .ok (.iconst 2, 1) := by decide +kernel
theorem dL_acts_169 : decode cL_acts 169 = .ok (.irem, 1) := by decide +kernel
theorem dL_acts_170 : decode cL_acts 170 = .ok (.ifCond .ne 7, 3) := by decide +kernel
theorem dL_acts_173 : decode cL_acts 173 = .ok (.iconst 1, 1) := by decide +kernel
theorem dL_acts_174 : decode cL_acts 174 = .ok (.goto 4, 3) := by decide +kernel
theorem dL_acts_177 : decode cL_acts 177 = .ok (.iconst 0, 1) := by decide +kernel
theorem dL_acts_178 : decode cL_acts 178 = .ok (.invokestatic 101, 3) := by decide +kernel
theorem dL_acts_181 : decode cL_acts 181 = .ok (.ireturn, 1) := by decide +kernel
theorem dL_acts_182 : decode cL_acts 182 = .ok (.aload_n 0, 1) := by decide +kernel
theorem dL_acts_183 : decode cL_acts 183 = .ok (.invokestatic 104, 3) := by decide +kernel
theorem dL_acts_186 : decode cL_acts 186 = .ok (.ireturn, 1) := by decide +kernel
theorem dL_acts_187 : decode cL_acts 187 = .ok (.aload_n 0, 1) := by decide +kernel
theorem dL_acts_188 : decode cL_acts 188 = .ok (.invokestatic 107, 3) := by decide +kernel
theorem dL_acts_191 : decode cL_acts 191 = .ok (.ireturn, 1) := by decide +kernel
theorem dL_acts_192 : decode cL_acts 192 = .ok (.iload_n 2, 1) := by decide +kernel
theorem dL_acts_193 : decode cL_acts 193 = .ok (.iconst 2, 1) := by decide +kernel
theorem dL_acts_194 : decode cL_acts 194 = .ok (.irem, 1) := by decide +kernel
theorem dL_acts_195 : decode cL_acts 195 = .ok (.ifCond .ne 15, 3) := by decide +kernel
theorem dL_acts_198 : decode cL_acts 198 = .ok (.aload_n 0, 1) := by decide +kernel
theorem dL_acts_199 : decode cL_acts 199 = .ok (.iload_n 2, 1) := by decide +kernel
theorem dL_acts_200 : decode cL_acts 200 = .ok (.iconst 2, 1) := by decide +kernel
theorem dL_acts_201 : decode cL_acts 201 = .ok (.idiv, 1) := by decide +kernel
theorem dL_acts_202 : decode cL_acts 202 = .ok (.iconst 2, 1) := by decide +kernel
theorem dL_acts_203 : decode cL_acts 203 = .ok (.irem, 1) := by decide +kernel
theorem dL_acts_204 : decode cL_acts 204 = .ok (.invokestatic 109, 3) := by decide +kernel
theorem dL_acts_207 : decode cL_acts 207 = .ok (.goto 12, 3) := by decide +kernel
theorem dL_acts_210 : decode cL_acts 210 = .ok (.aload_n 0, 1) := by decide +kernel
theorem dL_acts_211 : decode cL_acts 211 = .ok (.iload_n 2, 1) := by decide +kernel
theorem dL_acts_212 : decode cL_acts 212 = .ok (.iconst 2, 1) := by decide +kernel
theorem dL_acts_213 : decode cL_acts 213 = .ok (.idiv, 1) := by decide +kernel
theorem dL_acts_214 : decode cL_acts 214 = .ok (.iconst 2, 1) := by decide +kernel
theorem dL_acts_215 : decode cL_acts 215 = .ok (.irem, 1) := by decide +kernel
theorem dL_acts_216 : decode cL_acts 216 = .ok (.invokestatic 111, 3) := by decide +kernel
theorem dL_acts_219 : decode cL_acts 219 = .ok (.ireturn, 1) := by decide +kernel
theorem dL_bits_0 : decode cL_bits 0 = .ok (.iconst 0, 1) := by decide +kernel
theorem dL_bits_1 : decode cL_bits 1 = .ok (.istore_n 1, 1) := by decide +kernel
theorem dL_bits_2 : decode cL_bits 2 = .ok (.iconst 0, 1) := by decide +kernel
theorem dL_bits_3 : decode cL_bits 3 = .ok (.istore_n 2, 1) := by decide +kernel
theorem dL_bits_4 : decode cL_bits 4 = .ok (.iload_n 2, 1) := by decide +kernel
theorem dL_bits_5 : decode cL_bits 5 = .ok (.bipush 8, 2) := by decide +kernel
theorem dL_bits_7 : decode cL_bits 7 = .ok (.if_icmp .ge 17, 3) := by decide +kernel
theorem dL_bits_10 : decode cL_bits 10 = .ok (.iload_n 1, 1) := by decide +kernel
theorem dL_bits_11 : decode cL_bits 11 = .ok (.iload_n 0, 1) := by decide +kernel
theorem dL_bits_12 : decode cL_bits 12 = .ok (.iload_n 2, 1) := by decide +kernel
theorem dL_bits_13 : decode cL_bits 13 = .ok (.ishr, 1) := by decide +kernel
theorem dL_bits_14 : decode cL_bits 14 = .ok (.iconst 1, 1) := by decide +kernel
theorem dL_bits_15 : decode cL_bits 15 = .ok (.iand, 1) := by decide +kernel
theorem dL_bits_16 : decode cL_bits 16 = .ok (.iadd, 1) := by decide +kernel
theorem dL_bits_17 : decode cL_bits 17 = .ok (.istore_n 1, 1) := by decide +kernel
theorem dL_bits_18 : decode cL_bits 18 = .ok (.iinc 2 1, 3) := by decide +kernel
theorem dL_bits_21 : decode cL_bits 21 = .ok (.goto (-17), 3) := by decide +kernel
theorem dL_bits_24 : decode cL_bits 24 = .ok (.iload_n 1, 1) := by decide +kernel
theorem dL_bits_25 : decode cL_bits 25 = .ok (.ireturn, 1) := by decide +kernel
theorem dL_hangs_0 : decode cL_hangs 0 = .ok (.aload_n 0, 1) := by decide +kernel
theorem dL_hangs_1 : decode cL_hangs 1 = .ok (.iconst 0, 1) := by decide +kernel
theorem dL_hangs_2 : decode cL_hangs 2 = .ok (.invokestatic 84, 3) := by decide +kernel
theorem dL_hangs_5 : decode cL_hangs 5 = .ok (.istore_n 1, 1) := by decide +kernel
theorem dL_hangs_6 : decode cL_hangs 6 = .ok (.aload_n 0, 1) := by decide +kernel
theorem dL_hangs_7 : decode cL_hangs 7 = .ok (.iconst 1, 1) := by decide +kernel
theorem dL_hangs_8 : decode cL_hangs 8 = .ok (.invokestatic 84, 3) := by decide +kernel
theorem dL_hangs_11 : decode cL_hangs 11 = .ok (.istore_n 2, 1) := by decide +kernel
theorem dL_hangs_12 : decode cL_hangs 12 = .ok (.aload_n 0, 1) := by decide +kernel
theorem dL_hangs_13 : decode cL_hangs 13 = .ok (.iconst 5, 1) := by decide +kernel
theorem dL_hangs_14 : decode cL_hangs 14 = .ok (.invokestatic 84, 3) := by decide +kernel
theorem dL_hangs_17 : decode cL_hangs 17 = .ok (.istore_n 3, 1) := by decide +kernel
theorem dL_hangs_18 : decode cL_hangs 18 = .ok (.iconst 0, 1) := by decide +kernel
theorem dL_hangs_19 : decode cL_hangs 19 = .ok (.istore 4, 2) := by decide +kernel
theorem dL_hangs_21 : decode cL_hangs 21 = .ok (.iconst 0, 1) := by decide +kernel
theorem dL_hangs_22 : decode cL_hangs 22 = .ok (.istore 5, 2) := by decide +kernel
theorem dL_hangs_24 : decode cL_hangs 24 = .ok (.iconst 0, 1) := by decide +kernel
theorem dL_hangs_25 : decode cL_hangs 25 = .ok (.istore 6, 2) := by decide +kernel
theorem dL_hangs_27 : decode cL_hangs 27 = .ok (.iconst 0, 1) := by decide +kernel
theorem dL_hangs_28 : decode cL_hangs 28 = .ok (.istore 7, 2) := by decide +kernel
theorem dL_hangs_30 : decode cL_hangs 30 = .ok (.iconst (-1), 1) := by decide +kernel
theorem dL_hangs_31 : decode cL_hangs 31 = .ok (.istore 8, 2) := by decide +kernel
theorem dL_hangs_33 : decode cL_hangs 33 = .ok (.iconst (-1), 1) := by decide +kernel
theorem dL_hangs_34 : decode cL_hangs 34 = .ok (.istore 9, 2) := by decide +kernel
theorem dL_hangs_36 : decode cL_hangs 36 = .ok (.aload_n 0, 1) := by decide +kernel
theorem dL_hangs_37 : decode cL_hangs 37 = .ok (.iload_n 1, 1) := by decide +kernel
theorem dL_hangs_38 : decode cL_hangs 38 = .ok (.iconst 0, 1) := by decide +kernel
theorem dL_hangs_39 : decode cL_hangs 39 = .ok (.iconst 0, 1) := by decide +kernel
theorem dL_hangs_40 : decode cL_hangs 40 = .ok (.invokestatic 113, 3) := by decide +kernel
theorem dL_hangs_43 : decode cL_hangs 43 = .ok (.ldc 17, 2) := by decide +kernel
theorem dL_hangs_45 : decode cL_hangs 45 = .ok (.if_icmp .ne 48, 3) := by decide +kernel
theorem dL_hangs_48 : decode cL_hangs 48 = .ok (.aload_n 0, 1) := by decide +kernel
theorem dL_hangs_49 : decode cL_hangs 49 = .ok (.iload_n 2, 1) := by decide +kernel
theorem dL_hangs_50 : decode cL_hangs 50 = .ok (.iconst 0, 1) := by decide +kernel
theorem dL_hangs_51 : decode cL_hangs 51 = .ok (.invokestatic 116, 3) := by decide +kernel
theorem dL_hangs_54 : decode cL_hangs 54 = .ok (.ldc 17, 2) := by decide +kernel
theorem dL_hangs_56 : decode cL_hangs 56 = .ok (.if_icmp .ne 37, 3) := by decide +kernel
theorem dL_hangs_59 : decode cL_hangs 59 = .ok (.aload_n 0, 1) := by decide +kernel
theorem dL_hangs_60 : decode cL_hangs 60 = .ok (.iload_n 3, 1) := by decide +kernel
theorem dL_hangs_61 : decode cL_hangs 61 = .ok (.iconst 0, 1) := by decide +kernel
theorem dL_hangs_62 : decode cL_hangs 62 = .ok (.invokestatic 118, 3) := by decide +kernel
theorem dL_hangs_65 : decode cL_hangs 65 = .ok (.ldc 17, 2) := by decide +kernel
theorem dL_hangs_67 : decode cL_hangs 67 = .ok (.if_icmp .ne 26, 3) := by decide +kernel
theorem dL_hangs_70 : decode cL_hangs 70 = .ok (.aload_n 0, 1) := by decide +kernel
theorem dL_hangs_71 : decode cL_hangs 71 = .ok (.aload_n 0, 1) := by decide +kernel
theorem dL_hangs_72 : decode cL_hangs 72 = .ok (.iconst 2, 1) := by decide +kernel
theorem dL_hangs_73 : decode cL_hangs 73 = .ok (.invokestatic 84, 3) := by decide +kernel
theorem dL_hangs_76 : decode cL_hangs 76 = .ok (.aload_n 0, 1) := by decide +kernel
theorem dL_hangs_77 : decode cL_hangs 77 = .ok (.iconst 3, 1) := by decide +kernel
theorem dL_hangs_78 : decode cL_hangs 78 = .ok (.invokestatic 84, 3) := by decide +kernel
theorem dL_hangs_81 : decode cL_hangs 81 = .ok (.iconst 0, 1) := by decide +kernel
theorem dL_hangs_82 : decode cL_hangs 82 = .ok (.invokestatic 113, 3) := by decide +kernel
theorem dL_hangs_85 : decode cL_hangs 85 = .ok (.iconst 1, 1) := by decide +kernel
theorem dL_hangs_86 : decode cL_hangs 86 = .ok (.if_icmp .ne 7, 3) := by decide +kernel
theorem dL_hangs_89 : decode cL_hangs 89 = .ok (.iconst 1, 1) := by decide +kernel
theorem dL_hangs_90 : decode cL_hangs 90 = .ok (.goto 4, 3) := by decide +kernel
theorem dL_hangs_93 : decode cL_hangs 93 = .ok (.iconst 0, 1) := by decide +kernel
theorem dL_hangs_94 : decode cL_hangs 94 = .ok (.istore 10, 2) := by decide +kernel
theorem dL_hangs_96 : decode cL_hangs 96 = .ok (.iconst 0, 1) := by decide +kernel
theorem dL_hangs_97 : decode cL_hangs 97 = .ok (.istore 11, 2) := by decide +kernel
theorem dL_hangs_99 : decode cL_hangs 99 = .ok (.iload 11, 2) := by decide +kernel
theorem dL_hangs_101 : decode cL_hangs 101 = .ok (.iload_n 2, 1) := by decide +kernel
theorem dL_hangs_102 : decode cL_hangs 102 = .ok (.if_icmp .ge 360, 3) := by decide +kernel
theorem dL_hangs_105 : decode cL_hangs 105 = .ok (.iload 10, 2) := by decide +kernel
theorem dL_hangs_107 : decode cL_hangs 107 = .ok (.ifCond .eq 355, 3) := by decide +kernel
theorem dL_hangs_110 : decode cL_hangs 110 = .ok (.aload_n 0, 1) := by decide +kernel
theorem dL_hangs_111 : decode cL_hangs 111 = .ok (.iload 11, 2) := by decide +kernel
theorem dL_hangs_113 : decode cL_hangs 113 = .ok (.iconst 0, 1) := by decide +kernel
theorem dL_hangs_114 : decode cL_hangs 114 = .ok (.invokestatic 116, 3) := by decide +kernel
theorem dL_hangs_117 : decode cL_hangs 117 = .ok (.istore 12, 2) := by decide +kernel
theorem dL_hangs_119 : decode cL_hangs 119 = .ok (.aload_n 0, 1) := by decide +kernel
theorem dL_hangs_120 : decode cL_hangs 120 = .ok (.iload 11, 2) := by decide +kernel
theorem dL_hangs_122 : decode cL_hangs 122 = .ok (.iconst 1, 1) := by decide +kernel
theorem dL_hangs_123 : decode cL_hangs 123 = .ok (.invokestatic 116, 3) := by decide +kernel
theorem dL_hangs_126 : decode cL_hangs 126 = .ok (.istore 13, 2) := by decide +kernel
theorem dL_hangs_128 : decode cL_hangs 128 = .ok (.aload_n 0, 1) := by decide +kernel
theorem dL_hangs_129 : decode cL_hangs 129 = .ok (.iload 11, 2) := by decide +kernel
theorem dL_hangs_131 : decode cL_hangs 131 = .ok (.iconst 2, 1) := by decide +kernel
theorem dL_hangs_132 : decode cL_hangs 132 = .ok (.invokestatic 116, 3) := by decide +kernel
theorem dL_hangs_135 : decode cL_hangs 135 = .ok (.istore 14, 2) := by decide +kernel
theorem dL_hangs_137 : decode cL_hangs 137 = .ok (.iload 4, 2) := by decide +kernel
theorem dL_hangs_139 : decode cL_hangs 139 = .ok (.iload 12, 2) := by decide +kernel
theorem dL_hangs_141 : decode cL_hangs 141 = .ok (.invokestatic 120, 3) := by decide +kernel
theorem dL_hangs_144 : decode cL_hangs 144 = .ok (.iadd, 1) := by decide +kernel
theorem dL_hangs_145 : decode cL_hangs 145 = .ok (.istore 4, 2) := by decide +kernel
theorem dL_hangs_147 : decode cL_hangs 147 = .ok (.iload 5, 2) := by decide +kernel
theorem dL_hangs_149 : decode cL_hangs 149 = .ok (.iload 13, 2) := by decide +kernel
theorem dL_hangs_151 : decode cL_hangs 151 = .ok (.invokestatic 120, 3) := by decide +kernel
theorem dL_hangs_154 : decode cL_hangs 154 = .ok (.iadd, 1) := by decide +kernel
theorem dL_hangs_155 : decode cL_hangs 155 = .ok (.istore 5, 2) := by decide +kernel
theorem dL_hangs_157 : decode cL_hangs 157 = .ok (.iload 6, 2) := by decide +kernel
theorem dL_hangs_159 : decode cL_hangs 159 = .ok (.iload 14, 2) := by decide +kernel
theorem dL_hangs_161 : decode cL_hangs 161 = .ok (.invokestatic 120, 3) := by decide +kernel
theorem dL_hangs_164 : decode cL_hangs 164 = .ok (.iadd, 1) := by decide +kernel
theorem dL_hangs_165 : decode cL_hangs 165 = .ok (.istore 6, 2) := by decide +kernel
theorem dL_hangs_167 : decode cL_hangs 167 = .ok (.iload 12, 2) := by decide +kernel
theorem dL_hangs_169 : decode cL_hangs 169 = .ok (.iload 13, 2) := by decide +kernel
theorem dL_hangs_171 : decode cL_hangs 171 = .ok (.iand, 1) := by decide +kernel
theorem dL_hangs_172 : decode cL_hangs 172 = .ok (.ifCond .ne 23, 3) := by decide +kernel
theorem dL_hangs_175 : decode cL_hangs 175 = .ok (.iload 12, 2) := by decide +kernel
theorem dL_hangs_177 : decode cL_hangs 177 = .ok (.iload 14, 2) := by decide +kernel
theorem dL_hangs_179 : decode cL_hangs 179 = .ok (.iand, 1) := by decide +kernel
theorem dL_hangs_180 : decode cL_hangs 180 = .ok (.ifCond .ne 15, 3) := by decide +kernel
theorem dL_hangs_183 : decode cL_hangs 183 = .ok (.iload 13, 2) := by decide +kernel
theorem dL_hangs_185 : decode cL_hangs 185 = .ok (.iload 14, 2) := by decide +kernel
theorem dL_hangs_187 : decode cL_hangs 187 = .ok (.iand, 1) := by decide +kernel
theorem dL_hangs_188 : decode cL_hangs 188 = .ok (.ifCond .ne 7, 3) := by decide +kernel
theorem dL_hangs_191 : decode cL_hangs 191 = .ok (.iconst 1, 1) := by decide +kernel
theorem dL_hangs_192 : decode cL_hangs 192 = .ok (.goto 4, 3) := by decide +kernel
theorem dL_hangs_195 : decode cL_hangs 195 = .ok (.iconst 0, 1) := by decide +kernel
theorem dL_hangs_196 : decode cL_hangs 196 = .ok (.istore 10, 2) := by decide +kernel
theorem dL_hangs_198 : decode cL_hangs 198 = .ok (.iconst 0, 1) := by decide +kernel
theorem dL_hangs_199 : decode cL_hangs 199 = .ok (.istore 15, 2) := by decide +kernel
theorem dL_hangs_201 : decode cL_hangs 201 = .ok (.iload 15, 2) := by decide +kernel
theorem dL_hangs_203 : decode cL_hangs 203 = .ok (.iload_n 1, 1) := by decide +kernel
theorem dL_hangs_204 : decode cL_hangs 204 = .ok (.if_icmp .ge 252, 3) := by decide +kernel
theorem dL_hangs_207 : decode cL_hangs 207 = .ok (.iload 10, 2) := by decide +kernel
theorem dL_hangs_209 : decode cL_hangs 209 = .ok (.ifCond .eq 247, 3) := by decide +kernel
theorem dL_hangs_212 : decode cL_hangs 212 = .ok (.aload_n 0, 1) := by decide +kernel
theorem dL_hangs_213 : decode cL_hangs 213 = .ok (.iload 15, 2) := by decide +kernel
theorem dL_hangs_215 : decode cL_hangs 215 = .ok (.iload 11, 2) := by decide +kernel
theorem dL_hangs_217 : decode cL_hangs 217 = .ok (.iconst 0, 1) := by decide +kernel
theorem dL_hangs_218 : decode cL_hangs 218 = .ok (.invokestatic 113, 3) := by decide +kernel
theorem dL_hangs_221 : decode cL_hangs 221 = .ok (.istore 16, 2) := by decide +kernel
theorem dL_hangs_223 : decode cL_hangs 223 = .ok (.aload_n 0, 1) := by decide +kernel
theorem dL_hangs_224 : decode cL_hangs 224 = .ok (.iload 15, 2) := by decide +kernel
theorem dL_hangs_226 : decode cL_hangs 226 = .ok (.iload 11, 2) := by decide +kernel
theorem dL_hangs_228 : decode cL_hangs 228 = .ok (.iconst 1, 1) := by decide +kernel
theorem dL_hangs_229 : decode cL_hangs 229 = .ok (.invokestatic 113, 3) := by decide +kernel
theorem dL_hangs_232 : decode cL_hangs 232 = .ok (.istore 17, 2) := by decide +kernel
theorem dL_hangs_234 : decode cL_hangs 234 = .ok (.aload_n 0, 1) := by decide +kernel
theorem dL_hangs_235 : decode cL_hangs 235 = .ok (.iload 15, 2) := by decide +kernel
theorem dL_hangs_237 : decode cL_hangs 237 = .ok (.iload 11, 2) := by decide +kernel
theorem dL_hangs_239 : decode cL_hangs 239 = .ok (.iconst 2, 1) := by decide +kernel
theorem dL_hangs_240 : decode cL_hangs 240 = .ok (.invokestatic 113, 3) := by decide +kernel
theorem dL_hangs_243 : decode cL_hangs 243 = .ok (.istore 18, 2) := by decide +kernel
theorem dL_hangs_245 : decode cL_hangs 245 = .ok (.iload 16, 2) := by decide +kernel
theorem dL_hangs_247 : decode cL_hangs 247 = .ok (.ifCond .ne 7, 3) := by decide +kernel
theorem dL_hangs_250 : decode cL_hangs 250 = .ok (.iconst 1, 1) := by decide +kernel
theorem dL_hangs_251 : decode cL_hangs 251 = .ok (.goto 4, 3) := by decide +kernel
theorem dL_hangs_254 : decode cL_hangs 254 = .ok (.iconst 0, 1) := by decide +kernel
theorem dL_hangs_255 : decode cL_hangs 255 = .ok (.iload 12, 2) := by decide +kernel
theorem dL_hangs_257 : decode cL_hangs 257 = .ok (.iload 15, 2) := by decide +kernel
theorem dL_hangs_259 : decode cL_hangs 259 = .ok (.ishr, 1) := by decide +kernel
theorem dL_hangs_260 : decode cL_hangs 260 = .ok (.iconst 1, 1) := by decide +kernel
theorem dL_hangs_261 : decode cL_hangs 261 = .ok (.iand, 1) := by decide +kernel
theorem dL_hangs_262 : decode cL_hangs 262 = .ok (.iconst 1, 1) := by decide +kernel
theorem dL_hangs_263 : decode cL_hangs 263 = .ok (.if_icmp .ne 7, 3) := by decide +kernel
theorem dL_hangs_266 : decode cL_hangs 266 = .ok (.iconst 1, 1) := by decide +kernel
theorem dL_hangs_267 : decode cL_hangs 267 = .ok (.goto 4, 3) := by decide +kernel
theorem dL_hangs_270 : decode cL_hangs 270 = .ok (.iconst 0, 1) := by decide +kernel
theorem dL_hangs_271 : decode cL_hangs 271 = .ok (.if_icmp .ne 108, 3) := by decide +kernel
theorem dL_hangs_274 : decode cL_hangs 274 = .ok (.iload 16, 2) := by decide +kernel
theorem dL_hangs_276 : decode cL_hangs 276 = .ok (.iconst 2, 1) := by decide +kernel
theorem dL_hangs_277 : decode cL_hangs 277 = .ok (.if_icmp .ne 7, 3) := by decide +kernel
theorem dL_hangs_280 : decode cL_hangs 280 = .ok (.iconst 1, 1) := by decide +kernel
theorem dL_hangs_281 : decode cL_hangs 281 = .ok (.goto 4, 3) := by decide +kernel
theorem dL_hangs_284 : decode cL_hangs 284 = .ok (.iconst 0, 1) := by decide +kernel
theorem dL_hangs_285 : decode cL_hangs 285 = .ok (.iload 13, 2) := by decide +kernel
theorem dL_hangs_287 : decode cL_hangs 287 = .ok (.iload 15, 2) := by decide +kernel
theorem dL_hangs_289 : decode cL_hangs 289 = .ok (.ishr, 1) := by decide +kernel
theorem dL_hangs_290 : decode cL_hangs 290 = .ok (.iconst 1, 1) := by decide +kernel
theorem dL_hangs_291 : decode cL_hangs 291 = .ok (.iand, 1) := by decide +kernel
theorem dL_hangs_292 : decode cL_hangs 292 = .ok (.iconst 1, 1) := by decide +kernel
theorem dL_hangs_293 : decode cL_hangs 293 = .ok (.if_icmp .ne 7, 3) := by decide +kernel
theorem dL_hangs_296 : decode cL_hangs 296 = .ok (.iconst 1, 1) := by decide +kernel
theorem dL_hangs_297 : decode cL_hangs 297 = .ok (.goto 4, 3) := by decide +kernel
theorem dL_hangs_300 : decode cL_hangs 300 = .ok (.iconst 0, 1) := by decide +kernel
theorem dL_hangs_301 : decode cL_hangs 301 = .ok (.if_icmp .ne 78, 3) := by decide +kernel
theorem dL_hangs_304 : decode cL_hangs 304 = .ok (.iload 16, 2) := by decide +kernel
theorem dL_hangs_306 : decode cL_hangs 306 = .ok (.iconst 3, 1) := by decide +kernel
theorem dL_hangs_307 : decode cL_hangs 307 = .ok (.if_icmp .ne 7, 3) := by decide +kernel
theorem dL_hangs_310 : decode cL_hangs 310 = .ok (.iconst 1, 1) := by decide +kernel
theorem dL_hangs_311 : decode cL_hangs 311 = .ok (.goto 4, 3) := by decide +kernel
theorem dL_hangs_314 : decode cL_hangs 314 = .ok (.iconst 0, 1) := by decide +kernel
theorem dL_hangs_315 : decode cL_hangs 315 = .ok (.iload 14, 2) := by decide +kernel
theorem dL_hangs_317 : decode cL_hangs 317 = .ok (.iload 15, 2) := by decide +kernel
theorem dL_hangs_319 : decode cL_hangs 319 = .ok (.ishr, 1) := by decide +kernel
theorem dL_hangs_320 : decode cL_hangs 320 = .ok (.iconst 1, 1) := by decide +kernel
theorem dL_hangs_321 : decode cL_hangs 321 = .ok (.iand, 1) := by decide +kernel
theorem dL_hangs_322 : decode cL_hangs 322 = .ok (.iconst 1, 1) := by decide +kernel
theorem dL_hangs_323 : decode cL_hangs 323 = .ok (.if_icmp .ne 7, 3) := by decide +kernel
theorem dL_hangs_326 : decode cL_hangs 326 = .ok (.iconst 1, 1) := by decide +kernel
theorem dL_hangs_327 : decode cL_hangs 327 = .ok (.goto 4, 3) := by decide +kernel
theorem dL_hangs_330 : decode cL_hangs 330 = .ok (.iconst 0, 1) := by decide +kernel
theorem dL_hangs_331 : decode cL_hangs 331 = .ok (.if_icmp .ne 48, 3) := by decide +kernel
theorem dL_hangs_334 : decode cL_hangs 334 = .ok (.iload 17, 2) := by decide +kernel
theorem dL_hangs_336 : decode cL_hangs 336 = .ok (.iconst (-1), 1) := by decide +kernel
theorem dL_hangs_337 : decode cL_hangs 337 = .ok (.if_icmp .ne 7, 3) := by decide +kernel
theorem dL_hangs_340 : decode cL_hangs 340 = .ok (.iconst 1, 1) := by decide +kernel
theorem dL_hangs_341 : decode cL_hangs 341 = .ok (.goto 4, 3) := by decide +kernel
theorem dL_hangs_344 : decode cL_hangs 344 = .ok (.iconst 0, 1) := by decide +kernel
theorem dL_hangs_345 : decode cL_hangs 345 = .ok (.iload 16, 2) := by decide +kernel
theorem dL_hangs_347 : decode cL_hangs 347 = .ok (.iconst 3, 1) := by decide +kernel
theorem dL_hangs_348 : decode cL_hangs 348 = .ok (.if_icmp .eq 7, 3) := by decide +kernel
theorem dL_hangs_351 : decode cL_hangs 351 = .ok (.iconst 1, 1) := by decide +kernel
theorem dL_hangs_352 : decode cL_hangs 352 = .ok (.goto 4, 3) := by decide +kernel
theorem dL_hangs_355 : decode cL_hangs 355 = .ok (.iconst 0, 1) := by decide +kernel
theorem dL_hangs_356 : decode cL_hangs 356 = .ok (.if_icmp .ne 23, 3) := by decide +kernel
theorem dL_hangs_359 : decode cL_hangs 359 = .ok (.iload 17, 2) := by decide +kernel
theorem dL_hangs_361 : decode cL_hangs 361 = .ok (.iload_n 3, 1) := by decide +kernel
theorem dL_hangs_362 : decode cL_hangs 362 = .ok (.if_icmp .ge 17, 3) := by decide +kernel
theorem dL_hangs_365 : decode cL_hangs 365 = .ok (.iload 16, 2) := by decide +kernel
theorem dL_hangs_367 : decode cL_hangs 367 = .ok (.ifCond .eq 8, 3) := by decide +kernel
theorem dL_hangs_370 : decode cL_hangs 370 = .ok (.iload 18, 2) := by decide +kernel
theorem dL_hangs_372 : decode cL_hangs 372 = .ok (.ifCond .ne 7, 3) := by decide +kernel
theorem dL_hangs_375 : decode cL_hangs 375 = .ok (.iconst 1, 1) := by decide +kernel
theorem dL_hangs_376 : decode cL_hangs 376 = .ok (.goto 4, 3) := by decide +kernel
theorem dL_hangs_379 : decode cL_hangs 379 = .ok (.iconst 0, 1) := by decide +kernel
theorem dL_hangs_380 : decode cL_hangs 380 = .ok (.istore 10, 2) := by decide +kernel
theorem dL_hangs_382 : decode cL_hangs 382 = .ok (.iload 7, 2) := by decide +kernel
theorem dL_hangs_384 : decode cL_hangs 384 = .ok (.iload 18, 2) := by decide +kernel
theorem dL_hangs_386 : decode cL_hangs 386 = .ok (.iadd, 1) := by decide +kernel
theorem dL_hangs_387 : decode cL_hangs 387 = .ok (.istore 7, 2) := by decide +kernel
theorem dL_hangs_389 : decode cL_hangs 389 = .ok (.iload 8, 2) := by decide +kernel
theorem dL_hangs_391 : decode cL_hangs 391 = .ok (.ifCond .ge 24, 3) := by decide +kernel
theorem dL_hangs_394 : decode cL_hangs 394 = .ok (.iload 16, 2) := by decide +kernel
theorem dL_hangs_396 : decode cL_hangs 396 = .ok (.ifCond .ne 19, 3) := by decide +kernel
theorem dL_hangs_399 : decode cL_hangs 399 = .ok (.iload 18, 2) := by decide +kernel
theorem dL_hangs_401 : decode cL_hangs 401 = .ok (.ifCond .ne 14, 3) := by decide +kernel
theorem dL_hangs_404 : decode cL_hangs 404 = .ok (.iload 15, 2) := by decide +kernel
theorem dL_hangs_406 : decode cL_hangs 406 = .ok (.bipush 10, 2) := by decide +kernel
theorem dL_hangs_408 : decode cL_hangs 408 = .ok (.iload 11, 2) := by decide +kernel
theorem dL_hangs_410 : decode cL_hangs 410 = .ok (.imul, 1) := by decide +kernel
theorem dL_hangs_411 : decode cL_hangs 411 = .ok (.iadd, 1) := by decide +kernel
theorem dL_hangs_412 : decode cL_hangs 412 = .ok (.goto 5, 3) := by decide +kernel
theorem dL_hangs_415 : decode cL_hangs 415 = .ok (.iload 8, 2) := by decide +kernel
theorem dL_hangs_417 : decode cL_hangs 417 = .ok (.istore 8, 2) := by decide +kernel
theorem dL_hangs_419 : decode cL_hangs 419 = .ok (.iload 9, 2) := by decide +kernel
theorem dL_hangs_421 : decode cL_hangs 421 = .ok (.ifCond .ge 25, 3) := by decide +kernel
theorem dL_hangs_424 : decode cL_hangs 424 = .ok (.iload 16, 2) := by decide +kernel
theorem dL_hangs_426 : decode cL_hangs 426 = .ok (.ifCond .ne 20, 3) := by decide +kernel
theorem dL_hangs_429 : decode cL_hangs 429 = .ok (.iload 18, 2) := by decide +kernel
theorem dL_hangs_431 : decode cL_hangs 431 = .ok (.iconst 1, 1) := by decide +kernel
theorem dL_hangs_432 : decode cL_hangs 432 = .ok (.if_icmp .ne 14, 3) := by decide +kernel
theorem dL_hangs_435 : decode cL_hangs 435 = .ok (.iload 15, 2) := by decide +kernel
theorem dL_hangs_437 : decode cL_hangs 437 = .ok (.bipush 10, 2) := by decide +kernel
theorem dL_hangs_439 : decode cL_hangs 439 = .ok (.iload 11, 2) := by decide +kernel
theorem dL_hangs_441 : decode cL_hangs 441 = .ok (.imul, 1) := by decide +kernel
theorem dL_hangs_442 : decode cL_hangs 442 = .ok (.iadd, 1) := by decide +kernel
theorem dL_hangs_443 : decode cL_hangs 443 = .ok (.goto 5, 3) := by decide +kernel
theorem dL_hangs_446 : decode cL_hangs 446 = .ok (.iload 9, 2) := by decide +kernel
theorem dL_hangs_448 : decode cL_hangs 448 = .ok (.istore 9, 2) := by decide +kernel
theorem dL_hangs_450 : decode cL_hangs 450 = .ok (.iinc 15 1, 3) := by decide +kernel
theorem dL_hangs_453 : decode cL_hangs 453 = .ok (.goto (-252), 3) := by decide +kernel
theorem dL_hangs_456 : decode cL_hangs 456 = .ok (.iinc 11 1, 3) := by decide +kernel
theorem dL_hangs_459 : decode cL_hangs 459 = .ok (.goto (-360), 3) := by decide +kernel
theorem dL_hangs_462 : decode cL_hangs 462 = .ok (.iload 10, 2) := by decide +kernel
theorem dL_hangs_464 : decode cL_hangs 464 = .ok (.ifCond .eq 95, 3) := by decide +kernel
theorem dL_hangs_467 : decode cL_hangs 467 = .ok (.iload 4, 2) := by decide +kernel
theorem dL_hangs_469 : decode cL_hangs 469 = .ok (.aload_n 0, 1) := by decide +kernel
theorem dL_hangs_470 : decode cL_hangs 470 = .ok (.bipush 6, 2) := by decide +kernel
theorem dL_hangs_472 : decode cL_hangs 472 = .ok (.invokestatic 84, 3) := by decide +kernel
theorem dL_hangs_475 : decode cL_hangs 475 = .ok (.if_icmp .ne 84, 3) := by decide +kernel
theorem dL_hangs_478 : decode cL_hangs 478 = .ok (.iload 5, 2) := by decide +kernel
theorem dL_hangs_480 : decode cL_hangs 480 = .ok (.aload_n 0, 1) := by decide +kernel
theorem dL_hangs_481 : decode cL_hangs 481 = .ok (.iconst 4, 1) := by decide +kernel
theorem dL_hangs_482 : decode cL_hangs 482 = .ok (.invokestatic 84, 3) := by decide +kernel
theorem dL_hangs_485 : decode cL_hangs 485 = .ok (.if_icmp .ne 74, 3) := by decide +kernel
theorem dL_hangs_488 : decode cL_hangs 488 = .ok (.iload 6, 2) := by decide +kernel
theorem dL_hangs_490 : decode cL_hangs 490 = .ok (.iconst 3, 1) := by decide +kernel
theorem dL_hangs_491 : decode cL_hangs 491 = .ok (.iload_n 3, 1) := by decide +kernel
theorem dL_hangs_492 : decode cL_hangs 492 = .ok (.imul, 1) := by decide +kernel
theorem dL_hangs_493 : decode cL_hangs 493 = .ok (.if_icmp .ne 66, 3) := by decide +kernel
theorem dL_hangs_496 : decode cL_hangs 496 = .ok (.iload 7, 2) := by decide +kernel
theorem dL_hangs_498 : decode cL_hangs 498 = .ok (.iconst 3, 1) := by decide +kernel
theorem dL_hangs_499 : decode cL_hangs 499 = .ok (.aload_n 0, 1) := by decide +kernel
theorem dL_hangs_500 : decode cL_hangs 500 = .ok (.bipush 7, 2) := by decide +kernel
theorem dL_hangs_502 : decode cL_hangs 502 = .ok (.invokestatic 84, 3) := by decide +kernel
theorem dL_hangs_505 : decode cL_hangs 505 = .ok (.imul, 1) := by decide +kernel
theorem dL_hangs_506 : decode cL_hangs 506 = .ok (.if_icmp .ne 53, 3) := by decide +kernel
theorem dL_hangs_509 : decode cL_hangs 509 = .ok (.aload_n 0, 1) := by decide +kernel
theorem dL_hangs_510 : decode cL_hangs 510 = .ok (.invokevirtual 123, 3) := by decide +kernel
theorem dL_hangs_513 : decode cL_hangs 513 = .ok (.iload 8, 2) := by decide +kernel
theorem dL_hangs_515 : decode cL_hangs 515 = .ok (.if_icmp .ne 44, 3) := by decide +kernel
theorem dL_hangs_518 : decode cL_hangs 518 = .ok (.aload_n 0, 1) := by decide +kernel
theorem dL_hangs_519 : decode cL_hangs 519 = .ok (.iconst 0, 1) := by decide +kernel
theorem dL_hangs_520 : decode cL_hangs 520 = .ok (.invokestatic 126, 3) := by decide +kernel
theorem dL_hangs_523 : decode cL_hangs 523 = .ok (.iload 9, 2) := by decide +kernel
theorem dL_hangs_525 : decode cL_hangs 525 = .ok (.if_icmp .ne 34, 3) := by decide +kernel
theorem dL_hangs_528 : decode cL_hangs 528 = .ok (.iload 9, 2) := by decide +kernel
theorem dL_hangs_530 : decode cL_hangs 530 = .ok (.ifCond .ge 7, 3) := by decide +kernel
theorem dL_hangs_533 : decode cL_hangs 533 = .ok (.iconst 1, 1) := by decide +kernel
theorem dL_hangs_534 : decode cL_hangs 534 = .ok (.goto 4, 3) := by decide +kernel
theorem dL_hangs_537 : decode cL_hangs 537 = .ok (.iconst 0, 1) := by decide +kernel
theorem dL_hangs_538 : decode cL_hangs 538 = .ok (.aload_n 0, 1) := by decide +kernel
theorem dL_hangs_539 : decode cL_hangs 539 = .ok (.iconst 1, 1) := by decide +kernel
theorem dL_hangs_540 : decode cL_hangs 540 = .ok (.invokestatic 126, 3) := by decide +kernel
theorem dL_hangs_543 : decode cL_hangs 543 = .ok (.iconst (-1), 1) := by decide +kernel
theorem dL_hangs_544 : decode cL_hangs 544 = .ok (.if_icmp .ne 7, 3) := by decide +kernel
theorem dL_hangs_547 : decode cL_hangs 547 = .ok (.iconst 1, 1) := by decide +kernel
theorem dL_hangs_548 : decode cL_hangs 548 = .ok (.goto 4, 3) := by decide +kernel
theorem dL_hangs_551 : decode cL_hangs 551 = .ok (.iconst 0, 1) := by decide +kernel
theorem dL_hangs_552 : decode cL_hangs 552 = .ok (.if_icmp .ne 7, 3) := by decide +kernel
theorem dL_hangs_555 : decode cL_hangs 555 = .ok (.iconst 1, 1) := by decide +kernel
theorem dL_hangs_556 : decode cL_hangs 556 = .ok (.goto 4, 3) := by decide +kernel
theorem dL_hangs_559 : decode cL_hangs 559 = .ok (.iconst 0, 1) := by decide +kernel
theorem dL_hangs_560 : decode cL_hangs 560 = .ok (.istore 10, 2) := by decide +kernel
theorem dL_hangs_562 : decode cL_hangs 562 = .ok (.iconst 0, 1) := by decide +kernel
theorem dL_hangs_563 : decode cL_hangs 563 = .ok (.istore 11, 2) := by decide +kernel
theorem dL_hangs_565 : decode cL_hangs 565 = .ok (.iload 11, 2) := by decide +kernel
theorem dL_hangs_567 : decode cL_hangs 567 = .ok (.iload_n 3, 1) := by decide +kernel
theorem dL_hangs_568 : decode cL_hangs 568 = .ok (.if_icmp .ge 153, 3) := by decide +kernel
theorem dL_hangs_571 : decode cL_hangs 571 = .ok (.iload 10, 2) := by decide +kernel
theorem dL_hangs_573 : decode cL_hangs 573 = .ok (.ifCond .eq 148, 3) := by decide +kernel
theorem dL_hangs_576 : decode cL_hangs 576 = .ok (.aload_n 0, 1) := by decide +kernel
theorem dL_hangs_577 : decode cL_hangs 577 = .ok (.iload 11, 2) := by decide +kernel
theorem dL_hangs_579 : decode cL_hangs 579 = .ok (.iconst 0, 1) := by decide +kernel
theorem dL_hangs_580 : decode cL_hangs 580 = .ok (.invokestatic 118, 3) := by decide +kernel
theorem dL_hangs_583 : decode cL_hangs 583 = .ok (.istore 12, 2) := by decide +kernel
theorem dL_hangs_585 : decode cL_hangs 585 = .ok (.aload_n 0, 1) := by decide +kernel
theorem dL_hangs_586 : decode cL_hangs 586 = .ok (.iload 11, 2) := by decide +kernel
theorem dL_hangs_588 : decode cL_hangs 588 = .ok (.iconst 1, 1) := by decide +kernel
theorem dL_hangs_589 : decode cL_hangs 589 = .ok (.invokestatic 118, 3) := by decide +kernel
theorem dL_hangs_592 : decode cL_hangs 592 = .ok (.istore 13, 2) := by decide +kernel
theorem dL_hangs_594 : decode cL_hangs 594 = .ok (.aload_n 0, 1) := by decide +kernel
theorem dL_hangs_595 : decode cL_hangs 595 = .ok (.iload 11, 2) := by decide +kernel
theorem dL_hangs_597 : decode cL_hangs 597 = .ok (.iconst 2, 1) := by decide +kernel
theorem dL_hangs_598 : decode cL_hangs 598 = .ok (.invokestatic 118, 3) := by decide +kernel
theorem dL_hangs_601 : decode cL_hangs 601 = .ok (.istore 14, 2) := by decide +kernel
theorem dL_hangs_603 : decode cL_hangs 603 = .ok (.aload_n 0, 1) := by decide +kernel
theorem dL_hangs_604 : decode cL_hangs 604 = .ok (.iload 12, 2) := by decide +kernel
theorem dL_hangs_606 : decode cL_hangs 606 = .ok (.iload 13, 2) := by decide +kernel
theorem dL_hangs_608 : decode cL_hangs 608 = .ok (.iconst 1, 1) := by decide +kernel
theorem dL_hangs_609 : decode cL_hangs 609 = .ok (.invokestatic 113, 3) := by decide +kernel
theorem dL_hangs_612 : decode cL_hangs 612 = .ok (.iload 11, 2) := by decide +kernel
theorem dL_hangs_614 : decode cL_hangs 614 = .ok (.if_icmp .eq 8, 3) := by decide +kernel
theorem dL_hangs_617 : decode cL_hangs 617 = .ok (.iload 14, 2) := by decide +kernel
theorem dL_hangs_619 : decode cL_hangs 619 = .ok (.ifCond .ne 93, 3) := by decide +kernel
theorem dL_hangs_622 : decode cL_hangs 622 = .ok (.aload_n 0, 1) := by decide +kernel
theorem dL_hangs_623 : decode cL_hangs 623 = .ok (.iload 12, 2) := by decide +kernel
theorem dL_hangs_625 : decode cL_hangs 625 = .ok (.iconst 1, 1) := by decide +kernel
theorem dL_hangs_626 : decode cL_hangs 626 = .ok (.iadd, 1) := by decide +kernel
theorem dL_hangs_627 : decode cL_hangs 627 = .ok (.iload 13, 2) := by decide +kernel
theorem dL_hangs_629 : decode cL_hangs 629 = .ok (.iconst 1, 1) := by decide +kernel
theorem dL_hangs_630 : decode cL_hangs 630 = .ok (.invokestatic 113, 3) := by decide +kernel
theorem dL_hangs_633 : decode cL_hangs 633 = .ok (.iload 11, 2) := by decide +kernel
theorem dL_hangs_635 : decode cL_hangs 635 = .ok (.if_icmp .eq 9, 3) := by decide +kernel
theorem dL_hangs_638 : decode cL_hangs 638 = .ok (.iload 14, 2) := by decide +kernel
theorem dL_hangs_640 : decode cL_hangs 640 = .ok (.iconst 1, 1) := by decide +kernel
theorem dL_hangs_641 : decode cL_hangs 641 = .ok (.if_icmp .ne 71, 3) := by decide +kernel
theorem dL_hangs_644 : decode cL_hangs 644 = .ok (.aload_n 0, 1) := by decide +kernel
theorem dL_hangs_645 : decode cL_hangs 645 = .ok (.iload 12, 2) := by decide +kernel
theorem dL_hangs_647 : decode cL_hangs 647 = .ok (.iconst 1, 1) := by decide +kernel
theorem dL_hangs_648 : decode cL_hangs 648 = .ok (.iadd, 1) := by decide +kernel
theorem dL_hangs_649 : decode cL_hangs 649 = .ok (.iload 13, 2) := by decide +kernel
theorem dL_hangs_651 : decode cL_hangs 651 = .ok (.iconst 1, 1) := by decide +kernel
theorem dL_hangs_652 : decode cL_hangs 652 = .ok (.iadd, 1) := by decide +kernel
theorem dL_hangs_653 : decode cL_hangs 653 = .ok (.iconst 1, 1) := by decide +kernel
theorem dL_hangs_654 : decode cL_hangs 654 = .ok (.invokestatic 113, 3) := by decide +kernel
theorem dL_hangs_657 : decode cL_hangs 657 = .ok (.iload 11, 2) := by decide +kernel
theorem dL_hangs_659 : decode cL_hangs 659 = .ok (.if_icmp .eq 9, 3) := by decide +kernel
theorem dL_hangs_662 : decode cL_hangs 662 = .ok (.iload 14, 2) := by decide +kernel
theorem dL_hangs_664 : decode cL_hangs 664 = .ok (.iconst 2, 1) := by decide +kernel
theorem dL_hangs_665 : decode cL_hangs 665 = .ok (.if_icmp .ne 47, 3) := by decide +kernel
theorem dL_hangs_668 : decode cL_hangs 668 = .ok (.aload_n 0, 1) := by decide +kernel
theorem dL_hangs_669 : decode cL_hangs 669 = .ok (.iload 12, 2) := by decide +kernel
theorem dL_hangs_671 : decode cL_hangs 671 = .ok (.iload 13, 2) := by decide +kernel
theorem dL_hangs_673 : decode cL_hangs 673 = .ok (.iconst 1, 1) := by decide +kernel
theorem dL_hangs_674 : decode cL_hangs 674 = .ok (.iadd, 1) := by decide +kernel
theorem dL_hangs_675 : decode cL_hangs 675 = .ok (.iconst 1, 1) := by decide +kernel
theorem dL_hangs_676 : decode cL_hangs 676 = .ok (.invokestatic 113, 3) := by decide +kernel
theorem dL_hangs_679 : decode cL_hangs 679 = .ok (.iload 11, 2) := by decide +kernel
theorem dL_hangs_681 : decode cL_hangs 681 = .ok (.if_icmp .eq 9, 3) := by decide +kernel
theorem dL_hangs_684 : decode cL_hangs 684 = .ok (.iload 14, 2) := by decide +kernel
theorem dL_hangs_686 : decode cL_hangs 686 = .ok (.iconst 3, 1) := by decide +kernel
theorem dL_hangs_687 : decode cL_hangs 687 = .ok (.if_icmp .ne 25, 3) := by decide +kernel
theorem dL_hangs_690 : decode cL_hangs 690 = .ok (.aload_n 0, 1) := by decide +kernel
theorem dL_hangs_691 : decode cL_hangs 691 = .ok (.iload 12, 2) := by decide +kernel
theorem dL_hangs_693 : decode cL_hangs 693 = .ok (.iload 13, 2) := by decide +kernel
theorem dL_hangs_695 : decode cL_hangs 695 = .ok (.iload 14, 2) := by decide +kernel
theorem dL_hangs_697 : decode cL_hangs 697 = .ok (.iconst 1, 1) := by decide +kernel
theorem dL_hangs_698 : decode cL_hangs 698 = .ok (.iadd, 1) := by decide +kernel
theorem dL_hangs_699 : decode cL_hangs 699 = .ok (.iconst 4, 1) := by decide +kernel
theorem dL_hangs_700 : decode cL_hangs 700 = .ok (.irem, 1) := by decide +kernel
theorem dL_hangs_701 : decode cL_hangs 701 = .ok (.invokestatic 128, 3) := by decide +kernel
theorem dL_hangs_704 : decode cL_hangs 704 = .ok (.iconst 1, 1) := by decide +kernel
theorem dL_hangs_705 : decode cL_hangs 705 = .ok (.if_icmp .le 7, 3) := by decide +kernel
theorem dL_hangs_708 : decode cL_hangs 708 = .ok (.iconst 1, 1) := by decide +kernel
theorem dL_hangs_709 : decode cL_hangs 709 = .ok (.goto 4, 3) := by decide +kernel
theorem dL_hangs_712 : decode cL_hangs 712 = .ok (.iconst 0, 1) := by decide +kernel
theorem dL_hangs_713 : decode cL_hangs 713 = .ok (.istore 10, 2) := by decide +kernel
theorem dL_hangs_715 : decode cL_hangs 715 = .ok (.iinc 11 1, 3) := by decide +kernel
theorem dL_hangs_718 : decode cL_hangs 718 = .ok (.goto (-153), 3) := by decide +kernel
theorem dL_hangs_721 : decode cL_hangs 721 = .ok (.iload 10, 2) := by decide +kernel
theorem dL_hangs_723 : decode cL_hangs 723 = .ok (.ifCond .eq 19, 3) := by decide +kernel
theorem dL_hangs_726 : decode cL_hangs 726 = .ok (.iload 8, 2) := by decide +kernel
theorem dL_hangs_728 : decode cL_hangs 728 = .ok (.ifCond .lt 10, 3) := by decide +kernel
theorem dL_hangs_731 : decode cL_hangs 731 = .ok (.aload_n 0, 1) := by decide +kernel
theorem dL_hangs_732 : decode cL_hangs 732 = .ok (.invokevirtual 130, 3) := by decide +kernel
theorem dL_hangs_735 : decode cL_hangs 735 = .ok (.ifCond .ne 7, 3) := by decide +kernel
theorem dL_hangs_738 : decode cL_hangs 738 = .ok (.iconst 1, 1) := by decide +kernel
theorem dL_hangs_739 : decode cL_hangs 739 = .ok (.goto 4, 3) := by decide +kernel
theorem dL_hangs_742 : decode cL_hangs 742 = .ok (.iconst 0, 1) := by decide +kernel
theorem dL_hangs_743 : decode cL_hangs 743 = .ok (.ireturn, 1) := by decide +kernel
theorem dL_addsUp_0 : decode cL_addsUp 0 = .ok (.aload_n 0, 1) := by decide +kernel
theorem dL_addsUp_1 : decode cL_addsUp 1 = .ok (.iconst 0, 1) := by decide +kernel
theorem dL_addsUp_2 : decode cL_addsUp 2 = .ok (.invokestatic 84, 3) := by decide +kernel
theorem dL_addsUp_5 : decode cL_addsUp 5 = .ok (.istore_n 1, 1) := by decide +kernel
theorem dL_addsUp_6 : decode cL_addsUp 6 = .ok (.aload_n 0, 1) := by decide +kernel
theorem dL_addsUp_7 : decode cL_addsUp 7 = .ok (.iconst 1, 1) := by decide +kernel
theorem dL_addsUp_8 : decode cL_addsUp 8 = .ok (.invokestatic 84, 3) := by decide +kernel
theorem dL_addsUp_11 : decode cL_addsUp 11 = .ok (.istore_n 2, 1) := by decide +kernel
theorem dL_addsUp_12 : decode cL_addsUp 12 = .ok (.aload_n 0, 1) := by decide +kernel
theorem dL_addsUp_13 : decode cL_addsUp 13 = .ok (.invokevirtual 130, 3) := by decide +kernel
theorem dL_addsUp_16 : decode cL_addsUp 16 = .ok (.istore_n 3, 1) := by decide +kernel
theorem dL_addsUp_17 : decode cL_addsUp 17 = .ok (.iconst (-1), 1) := by decide +kernel
theorem dL_addsUp_18 : decode cL_addsUp 18 = .ok (.istore 4, 2) := by decide +kernel
theorem dL_addsUp_20 : decode cL_addsUp 20 = .ok (.iload_n 1, 1) := by decide +kernel
theorem dL_addsUp_21 : decode cL_addsUp 21 = .ok (.iload_n 2, 1) := by decide +kernel
theorem dL_addsUp_22 : decode cL_addsUp 22 = .ok (.imul, 1) := by decide +kernel
theorem dL_addsUp_23 : decode cL_addsUp 23 = .ok (.iconst 1, 1) := by decide +kernel
theorem dL_addsUp_24 : decode cL_addsUp 24 = .ok (.isub, 1) := by decide +kernel
theorem dL_addsUp_25 : decode cL_addsUp 25 = .ok (.istore 5, 2) := by decide +kernel
theorem dL_addsUp_27 : decode cL_addsUp 27 = .ok (.iload 5, 2) := by decide +kernel
theorem dL_addsUp_29 : decode cL_addsUp 29 = .ok (.ifCond .lt 34, 3) := by decide +kernel
theorem dL_addsUp_32 : decode cL_addsUp 32 = .ok (.aload_n 0, 1) := by decide +kernel
theorem dL_addsUp_33 : decode cL_addsUp 33 = .ok (.iload 5, 2) := by decide +kernel
theorem dL_addsUp_35 : decode cL_addsUp 35 = .ok (.iload_n 1, 1) := by decide +kernel
theorem dL_addsUp_36 : decode cL_addsUp 36 = .ok (.irem, 1) := by decide +kernel
theorem dL_addsUp_37 : decode cL_addsUp 37 = .ok (.iload 5, 2) := by decide +kernel
theorem dL_addsUp_39 : decode cL_addsUp 39 = .ok (.iload_n 1, 1) := by decide +kernel
theorem dL_addsUp_40 : decode cL_addsUp 40 = .ok (.idiv, 1) := by decide +kernel
theorem dL_addsUp_41 : decode cL_addsUp 41 = .ok (.iconst 0, 1) := by decide +kernel
theorem dL_addsUp_42 : decode cL_addsUp 42 = .ok (.invokestatic 113, 3) := by decide +kernel
theorem dL_addsUp_45 : decode cL_addsUp 45 = .ok (.ifCond .ne 8, 3) := by decide +kernel
theorem dL_addsUp_48 : decode cL_addsUp 48 = .ok (.iload 5, 2) := by decide +kernel
theorem dL_addsUp_50 : decode cL_addsUp 50 = .ok (.goto 5, 3) := by decide +kernel
theorem dL_addsUp_53 : decode cL_addsUp 53 = .ok (.iload 4, 2) := by decide +kernel
theorem dL_addsUp_55 : decode cL_addsUp 55 = .ok (.istore 4, 2) := by decide +kernel
theorem dL_addsUp_57 : decode cL_addsUp 57 = .ok (.iinc 5 (-1), 3) := by decide +kernel
theorem dL_addsUp_60 : decode cL_addsUp 60 = .ok (.goto (-33), 3) := by decide +kernel
theorem dL_addsUp_63 : decode cL_addsUp 63 = .ok (.iload 4, 2) := by decide +kernel
theorem dL_addsUp_65 : decode cL_addsUp 65 = .ok (.ifCond .ge 14, 3) := by decide +kernel
theorem dL_addsUp_68 : decode cL_addsUp 68 = .ok (.iload_n 3, 1) := by decide +kernel
theorem dL_addsUp_69 : decode cL_addsUp 69 = .ok (.iconst 1, 1) := by decide +kernel
theorem dL_addsUp_70 : decode cL_addsUp 70 = .ok (.if_icmp .ne 7, 3) := by decide +kernel
theorem dL_addsUp_73 : decode cL_addsUp 73 = .ok (.iconst 1, 1) := by decide +kernel
theorem dL_addsUp_74 : decode cL_addsUp 74 = .ok (.goto 4, 3) := by decide +kernel
theorem dL_addsUp_77 : decode cL_addsUp 77 = .ok (.iconst 0, 1) := by decide +kernel
theorem dL_addsUp_78 : decode cL_addsUp 78 = .ok (.ireturn, 1) := by decide +kernel
theorem dL_addsUp_79 : decode cL_addsUp 79 = .ok (.iload 4, 2) := by decide +kernel
theorem dL_addsUp_81 : decode cL_addsUp 81 = .ok (.iload_n 1, 1) := by decide +kernel
theorem dL_addsUp_82 : decode cL_addsUp 82 = .ok (.irem, 1) := by decide +kernel
theorem dL_addsUp_83 : decode cL_addsUp 83 = .ok (.istore 5, 2) := by decide +kernel
theorem dL_addsUp_85 : decode cL_addsUp 85 = .ok (.iload 4, 2) := by decide +kernel
theorem dL_addsUp_87 : decode cL_addsUp 87 = .ok (.iload_n 1, 1) := by decide +kernel
theorem dL_addsUp_88 : decode cL_addsUp 88 = .ok (.idiv, 1) := by decide +kernel
theorem dL_addsUp_89 : decode cL_addsUp 89 = .ok (.istore 6, 2) := by decide +kernel
theorem dL_addsUp_91 : decode cL_addsUp 91 = .ok (.iconst 0, 1) := by decide +kernel
theorem dL_addsUp_92 : decode cL_addsUp 92 = .ok (.istore 7, 2) := by decide +kernel
theorem dL_addsUp_94 : decode cL_addsUp 94 = .ok (.iconst 0, 1) := by decide +kernel
theorem dL_addsUp_95 : decode cL_addsUp 95 = .ok (.istore 8, 2) := by decide +kernel
theorem dL_addsUp_97 : decode cL_addsUp 97 = .ok (.iload 8, 2) := by decide +kernel
theorem dL_addsUp_99 : decode cL_addsUp 99 = .ok (.iconst 4, 1) := by decide +kernel
theorem dL_addsUp_100 : decode cL_addsUp 100 = .ok (.if_icmp .ge 49, 3) := by decide +kernel
theorem dL_addsUp_103 : decode cL_addsUp 103 = .ok (.aload_n 0, 1) := by decide +kernel
theorem dL_addsUp_104 : decode cL_addsUp 104 = .ok (.iload 8, 2) := by decide +kernel
theorem dL_addsUp_106 : decode cL_addsUp 106 = .ok (.ifCond .ne 10, 3) := by decide +kernel
theorem dL_addsUp_109 : decode cL_addsUp 109 = .ok (.iload 5, 2) := by decide +kernel
theorem dL_addsUp_111 : decode cL_addsUp 111 = .ok (.iconst 1, 1) := by decide +kernel
theorem dL_addsUp_112 : decode cL_addsUp 112 = .ok (.isub, 1) := by decide +kernel
theorem dL_addsUp_113 : decode cL_addsUp 113 = .ok (.goto 5, 3) := by decide +kernel
theorem dL_addsUp_116 : decode cL_addsUp 116 = .ok (.iload 5, 2) := by decide +kernel
theorem dL_addsUp_118 : decode cL_addsUp 118 = .ok (.iload 6, 2) := by decide +kernel
theorem dL_addsUp_120 : decode cL_addsUp 120 = .ok (.iload 8, 2) := by decide +kernel
theorem dL_addsUp_122 : decode cL_addsUp 122 = .ok (.invokestatic 133, 3) := by decide +kernel
theorem dL_addsUp_125 : decode cL_addsUp 125 = .ok (.istore 9, 2) := by decide +kernel
theorem dL_addsUp_127 : decode cL_addsUp 127 = .ok (.iload 7, 2) := by decide +kernel
theorem dL_addsUp_129 : decode cL_addsUp 129 = .ok (.iload 9, 2) := by decide +kernel
theorem dL_addsUp_131 : decode cL_addsUp 131 = .ok (.ifCond .ge 7, 3) := by decide +kernel
theorem dL_addsUp_134 : decode cL_addsUp 134 = .ok (.iconst 0, 1) := by decide +kernel
theorem dL_addsUp_135 : decode cL_addsUp 135 = .ok (.goto 5, 3) := by decide +kernel
theorem dL_addsUp_138 : decode cL_addsUp 138 = .ok (.iload 9, 2) := by decide +kernel
theorem dL_addsUp_140 : decode cL_addsUp 140 = .ok (.iadd, 1) := by decide +kernel
theorem dL_addsUp_141 : decode cL_addsUp 141 = .ok (.istore 7, 2) := by decide +kernel
theorem dL_addsUp_143 : decode cL_addsUp 143 = .ok (.iinc 8 1, 3) := by decide +kernel
theorem dL_addsUp_146 : decode cL_addsUp 146 = .ok (.goto (-49), 3) := by decide +kernel
theorem dL_addsUp_149 : decode cL_addsUp 149 = .ok (.iload 7, 2) := by decide +kernel
theorem dL_addsUp_151 : decode cL_addsUp 151 = .ok (.iload_n 3, 1) := by decide +kernel
theorem dL_addsUp_152 : decode cL_addsUp 152 = .ok (.if_icmp .ne 7, 3) := by decide +kernel
theorem dL_addsUp_155 : decode cL_addsUp 155 = .ok (.iconst 1, 1) := by decide +kernel
theorem dL_addsUp_156 : decode cL_addsUp 156 = .ok (.goto 4, 3) := by decide +kernel
theorem dL_addsUp_159 : decode cL_addsUp 159 = .ok (.iconst 0, 1) := by decide +kernel
theorem dL_addsUp_160 : decode cL_addsUp 160 = .ok (.ireturn, 1) := by decide +kernel
