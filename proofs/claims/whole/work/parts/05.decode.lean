theorem dX0_init_0 : decode cX0_init 0 = .ok (.aload_n 0, 1) := by decide +kernel
theorem dX0_init_1 : decode cX0_init 1 = .ok (.invokespecial 3, 3) := by decide +kernel
theorem dX0_init_4 : decode cX0_init 4 = .ok (.aload_n 0, 1) := by decide +kernel
theorem dX0_init_5 : decode cX0_init 5 = .ok (.iconst 0, 1) := by decide +kernel
theorem dX0_init_6 : decode cX0_init 6 = .ok (.putfield 9, 3) := by decide +kernel
theorem dX0_init_9 : decode cX0_init 9 = .ok (.aload_n 0, 1) := by decide +kernel
theorem dX0_init_10 : decode cX0_init 10 = .ok (.bipush 71, 2) := by decide +kernel
theorem dX0_init_12 : decode cX0_init 12 = .ok (.newarray .int, 2) := by decide +kernel
theorem dX0_init_14 : decode cX0_init 14 = .ok (.putfield 15, 3) := by decide +kernel
theorem dX0_init_17 : decode cX0_init 17 = .ok (.return_, 1) := by decide +kernel
theorem dX0_isFull_0 : decode cX0_isFull 0 = .ok (.aload_n 0, 1) := by decide +kernel
theorem dX0_isFull_1 : decode cX0_isFull 1 = .ok (.getfield 9, 3) := by decide +kernel
theorem dX0_isFull_4 : decode cX0_isFull 4 = .ok (.aload_n 0, 1) := by decide +kernel
theorem dX0_isFull_5 : decode cX0_isFull 5 = .ok (.getfield 15, 3) := by decide +kernel
theorem dX0_isFull_8 : decode cX0_isFull 8 = .ok (.arraylength, 1) := by decide +kernel
theorem dX0_isFull_9 : decode cX0_isFull 9 = .ok (.if_icmp .lt 7, 3) := by decide +kernel
theorem dX0_isFull_12 : decode cX0_isFull 12 = .ok (.iconst 1, 1) := by decide +kernel
theorem dX0_isFull_13 : decode cX0_isFull 13 = .ok (.goto 4, 3) := by decide +kernel
theorem dX0_isFull_16 : decode cX0_isFull 16 = .ok (.iconst 0, 1) := by decide +kernel
theorem dX0_isFull_17 : decode cX0_isFull 17 = .ok (.ireturn, 1) := by decide +kernel
theorem dX0_add_0 : decode cX0_add 0 = .ok (.aload_n 0, 1) := by decide +kernel
theorem dX0_add_1 : decode cX0_add 1 = .ok (.getfield 9, 3) := by decide +kernel
theorem dX0_add_4 : decode cX0_add 4 = .ok (.aload_n 0, 1) := by decide +kernel
theorem dX0_add_5 : decode cX0_add 5 = .ok (.getfield 15, 3) := by decide +kernel
theorem dX0_add_8 : decode cX0_add 8 = .ok (.arraylength, 1) := by decide +kernel
theorem dX0_add_9 : decode cX0_add 9 = .ok (.if_icmp .ge 23, 3) := by decide +kernel
theorem dX0_add_12 : decode cX0_add 12 = .ok (.aload_n 0, 1) := by decide +kernel
theorem dX0_add_13 : decode cX0_add 13 = .ok (.getfield 15, 3) := by decide +kernel
theorem dX0_add_16 : decode cX0_add 16 = .ok (.aload_n 0, 1) := by decide +kernel
theorem dX0_add_17 : decode cX0_add 17 = .ok (.getfield 9, 3) := by decide +kernel
theorem dX0_add_20 : decode cX0_add 20 = .ok (.iload_n 1, 1) := by decide +kernel
theorem dX0_add_21 : decode cX0_add 21 = .ok (.iastore, 1) := by decide +kernel
theorem dX0_add_22 : decode cX0_add 22 = .ok (.aload_n 0, 1) := by decide +kernel
theorem dX0_add_23 : decode cX0_add 23 = .ok (.dup, 1) := by decide +kernel
theorem dX0_add_24 : decode cX0_add 24 = .ok (.getfield 9, 3) := by decide +kernel
theorem dX0_add_27 : decode cX0_add 27 = .ok (.iconst 1, 1) := by decide +kernel
theorem dX0_add_28 : decode cX0_add 28 = .ok (.iadd, 1) := by decide +kernel
theorem dX0_add_29 : decode cX0_add 29 = .ok (.putfield 9, 3) := by decide +kernel
theorem dX0_add_32 : decode cX0_add 32 = .ok (.return_, 1) := by decide +kernel
theorem dX0_codeAt_0 : decode cX0_codeAt 0 = .ok (.iload_n 1, 1) := by decide +kernel
theorem dX0_codeAt_1 : decode cX0_codeAt 1 = .ok (.ifCond .lt 29, 3) := by decide +kernel
theorem dX0_codeAt_4 : decode cX0_codeAt 4 = .ok (.iload_n 1, 1) := by decide +kernel
theorem dX0_codeAt_5 : decode cX0_codeAt 5 = .ok (.aload_n 0, 1) := by decide +kernel
theorem dX0_codeAt_6 : decode cX0_codeAt 6 = .ok (.getfield 9, 3) := by decide +kernel
theorem dX0_codeAt_9 : decode cX0_codeAt 9 = .ok (.if_icmp .ge 21, 3) := by decide +kernel
theorem dX0_codeAt_12 : decode cX0_codeAt 12 = .ok (.iload_n 1, 1) := by decide +kernel
theorem dX0_codeAt_13 : decode cX0_codeAt 13 = .ok (.aload_n 0, 1) := by decide +kernel
theorem dX0_codeAt_14 : decode cX0_codeAt 14 = .ok (.getfield 15, 3) := by decide +kernel
theorem dX0_codeAt_17 : decode cX0_codeAt 17 = .ok (.arraylength, 1) := by decide +kernel
theorem dX0_codeAt_18 : decode cX0_codeAt 18 = .ok (.if_icmp .ge 12, 3) := by decide +kernel
theorem dX0_codeAt_21 : decode cX0_codeAt 21 = .ok (.aload_n 0, 1) := by decide +kernel
theorem dX0_codeAt_22 : decode cX0_codeAt 22 = .ok (.getfield 15, 3) := by decide +kernel
theorem dX0_codeAt_25 : decode cX0_codeAt 25 = .ok (.iload_n 1, 1) := by decide +kernel
theorem dX0_codeAt_26 : decode cX0_codeAt 26 = .ok (.iaload, 1) := by decide +kernel
theorem dX0_codeAt_27 : decode cX0_codeAt 27 = .ok (.goto 4, 3) := by decide +kernel
theorem dX0_codeAt_30 : decode cX0_codeAt 30 = .ok (.iconst 0, 1) := by decide +kernel
theorem dX0_codeAt_31 : decode cX0_codeAt 31 = .ok (.ireturn, 1) := by decide +kernel
theorem dX0_readInto_0 : decode cX0_readInto 0 = .ok (.iconst 0, 1) := by decide +kernel
theorem dX0_readInto_1 : decode cX0_readInto 1 = .ok (.istore_n 2, 1) := by decide +kernel
theorem dX0_readInto_2 : decode cX0_readInto 2 = .ok (.iload_n 2, 1) := by decide +kernel
theorem dX0_readInto_3 : decode cX0_readInto 3 = .ok (.aload_n 0, 1) := by decide +kernel
theorem dX0_readInto_4 : decode cX0_readInto 4 = .ok (.getfield 9, 3) := by decide +kernel
theorem dX0_readInto_7 : decode cX0_readInto 7 = .ok (.if_icmp .ge 32, 3) := by decide +kernel
theorem dX0_readInto_10 : decode cX0_readInto 10 = .ok (.aload_n 1, 1) := by decide +kernel
theorem dX0_readInto_11 : decode cX0_readInto 11 = .ok (.aload_n 0, 1) := by decide +kernel
theorem dX0_readInto_12 : decode cX0_readInto 12 = .ok (.iload_n 2, 1) := by decide +kernel
theorem dX0_readInto_13 : decode cX0_readInto 13 = .ok (.invokevirtual 19, 3) := by decide +kernel
theorem dX0_readInto_16 : decode cX0_readInto 16 = .ok (.invokevirtual 23, 3) := by decide +kernel
theorem dX0_readInto_19 : decode cX0_readInto 19 = .ok (.ifCond .ne 5, 3) := by decide +kernel
theorem dX0_readInto_22 : decode cX0_readInto 22 = .ok (.iload_n 2, 1) := by decide +kernel
theorem dX0_readInto_23 : decode cX0_readInto 23 = .ok (.ireturn, 1) := by decide +kernel
theorem dX0_readInto_24 : decode cX0_readInto 24 = .ok (.aload_n 1, 1) := by decide +kernel
theorem dX0_readInto_25 : decode cX0_readInto 25 = .ok (.aload_n 0, 1) := by decide +kernel
theorem dX0_readInto_26 : decode cX0_readInto 26 = .ok (.iload_n 2, 1) := by decide +kernel
theorem dX0_readInto_27 : decode cX0_readInto 27 = .ok (.invokevirtual 19, 3) := by decide +kernel
theorem dX0_readInto_30 : decode cX0_readInto 30 = .ok (.invokevirtual 29, 3) := by decide +kernel
theorem dX0_readInto_33 : decode cX0_readInto 33 = .ok (.iinc 2 1, 3) := by decide +kernel
theorem dX0_readInto_36 : decode cX0_readInto 36 = .ok (.goto (-34), 3) := by decide +kernel
theorem dX0_readInto_39 : decode cX0_readInto 39 = .ok (.aload_n 0, 1) := by decide +kernel
theorem dX0_readInto_40 : decode cX0_readInto 40 = .ok (.getfield 9, 3) := by decide +kernel
theorem dX0_readInto_43 : decode cX0_readInto 43 = .ok (.ireturn, 1) := by decide +kernel
theorem dX1_init_0 : decode cX1_init 0 = .ok (.aload_n 0, 1) := by decide +kernel
theorem dX1_init_1 : decode cX1_init 1 = .ok (.invokespecial 3, 3) := by decide +kernel
theorem dX1_init_4 : decode cX1_init 4 = .ok (.aload_n 0, 1) := by decide +kernel
theorem dX1_init_5 : decode cX1_init 5 = .ok (.iconst 4, 1) := by decide +kernel
theorem dX1_init_6 : decode cX1_init 6 = .ok (.putfield 9, 3) := by decide +kernel
theorem dX1_init_9 : decode cX1_init 9 = .ok (.aload_n 0, 1) := by decide +kernel
theorem dX1_init_10 : decode cX1_init 10 = .ok (.iconst 4, 1) := by decide +kernel
theorem dX1_init_11 : decode cX1_init 11 = .ok (.putfield 15, 3) := by decide +kernel
theorem dX1_init_14 : decode cX1_init 14 = .ok (.aload_n 0, 1) := by decide +kernel
theorem dX1_init_15 : decode cX1_init 15 = .ok (.iconst 0, 1) := by decide +kernel
theorem dX1_init_16 : decode cX1_init 16 = .ok (.putfield 18, 3) := by decide +kernel
theorem dX1_init_19 : decode cX1_init 19 = .ok (.aload_n 0, 1) := by decide +kernel
theorem dX1_init_20 : decode cX1_init 20 = .ok (.lconst 0, 1) := by decide +kernel
theorem dX1_init_21 : decode cX1_init 21 = .ok (.putfield 21, 3) := by decide +kernel
theorem dX1_init_24 : decode cX1_init 24 = .ok (.aload_n 0, 1) := by decide +kernel
theorem dX1_init_25 : decode cX1_init 25 = .ok (.lconst 0, 1) := by decide +kernel
theorem dX1_init_26 : decode cX1_init 26 = .ok (.putfield 25, 3) := by decide +kernel
theorem dX1_init_29 : decode cX1_init 29 = .ok (.aload_n 0, 1) := by decide +kernel
theorem dX1_init_30 : decode cX1_init 30 = .ok (.iconst 0, 1) := by decide +kernel
theorem dX1_init_31 : decode cX1_init 31 = .ok (.putfield 28, 3) := by decide +kernel
theorem dX1_init_34 : decode cX1_init 34 = .ok (.aload_n 0, 1) := by decide +kernel
theorem dX1_init_35 : decode cX1_init 35 = .ok (.iconst 0, 1) := by decide +kernel
theorem dX1_init_36 : decode cX1_init 36 = .ok (.putfield 31, 3) := by decide +kernel
theorem dX1_init_39 : decode cX1_init 39 = .ok (.aload_n 0, 1) := by decide +kernel
theorem dX1_init_40 : decode cX1_init 40 = .ok (.iconst 0, 1) := by decide +kernel
theorem dX1_init_41 : decode cX1_init 41 = .ok (.putfield 34, 3) := by decide +kernel
theorem dX1_init_44 : decode cX1_init 44 = .ok (.aload_n 0, 1) := by decide +kernel
theorem dX1_init_45 : decode cX1_init 45 = .ok (.bipush 21, 2) := by decide +kernel
theorem dX1_init_47 : decode cX1_init 47 = .ok (.newarray .int, 2) := by decide +kernel
theorem dX1_init_49 : decode cX1_init 49 = .ok (.putfield 37, 3) := by decide +kernel
theorem dX1_init_52 : decode cX1_init 52 = .ok (.return_, 1) := by decide +kernel
theorem dX1_copied_0 : decode cX1_copied 0 = .ok (.new 10, 3) := by decide +kernel
theorem dX1_copied_3 : decode cX1_copied 3 = .ok (.dup, 1) := by decide +kernel
theorem dX1_copied_4 : decode cX1_copied 4 = .ok (.invokespecial 41, 3) := by decide +kernel
theorem dX1_copied_7 : decode cX1_copied 7 = .ok (.astore_n 1, 1) := by decide +kernel
theorem dX1_copied_8 : decode cX1_copied 8 = .ok (.aload_n 1, 1) := by decide +kernel
theorem dX1_copied_9 : decode cX1_copied 9 = .ok (.aload_n 0, 1) := by decide +kernel
theorem dX1_copied_10 : decode cX1_copied 10 = .ok (.getfield 9, 3) := by decide +kernel
theorem dX1_copied_13 : decode cX1_copied 13 = .ok (.putfield 9, 3) := by decide +kernel
theorem dX1_copied_16 : decode cX1_copied 16 = .ok (.aload_n 1, 1) := by decide +kernel
theorem dX1_copied_17 : decode cX1_copied 17 = .ok (.aload_n 0, 1) := by decide +kernel
theorem dX1_copied_18 : decode cX1_copied 18 = .ok (.getfield 15, 3) := by decide +kernel
theorem dX1_copied_21 : decode cX1_copied 21 = .ok (.putfield 15, 3) := by decide +kernel
theorem dX1_copied_24 : decode cX1_copied 24 = .ok (.aload_n 1, 1) := by decide +kernel
theorem dX1_copied_25 : decode cX1_copied 25 = .ok (.aload_n 0, 1) := by decide +kernel
theorem dX1_copied_26 : decode cX1_copied 26 = .ok (.getfield 18, 3) := by decide +kernel
theorem dX1_copied_29 : decode cX1_copied 29 = .ok (.putfield 18, 3) := by decide +kernel
theorem dX1_copied_32 : decode cX1_copied 32 = .ok (.aload_n 1, 1) := by decide +kernel
theorem dX1_copied_33 : decode cX1_copied 33 = .ok (.aload_n 0, 1) := by decide +kernel
theorem dX1_copied_34 : decode cX1_copied 34 = .ok (.getfield 21, 3) := by decide +kernel
theorem dX1_copied_37 : decode cX1_copied 37 = .ok (.putfield 21, 3) := by decide +kernel
theorem dX1_copied_40 : decode cX1_copied 40 = .ok (.aload_n 1, 1) := by decide +kernel
theorem dX1_copied_41 : decode cX1_copied 41 = .ok (.aload_n 0, 1) := by decide +kernel
theorem dX1_copied_42 : decode cX1_copied 42 = .ok (.getfield 25, 3) := by decide +kernel
theorem dX1_copied_45 : decode cX1_copied 45 = .ok (.putfield 25, 3) := by decide +kernel
theorem dX1_copied_48 : decode cX1_copied 48 = .ok (.aload_n 1, 1) := by decide +kernel
theorem dX1_copied_49 : decode cX1_copied 49 = .ok (.aload_n 0, 1) := by decide +kernel
theorem dX1_copied_50 : decode cX1_copied 50 = .ok (.getfield 28, 3) := by decide +kernel
theorem dX1_copied_53 : decode cX1_copied 53 = .ok (.putfield 28, 3) := by decide +kernel
theorem dX1_copied_56 : decode cX1_copied 56 = .ok (.aload_n 1, 1) := by decide +kernel
theorem dX1_copied_57 : decode cX1_copied 57 = .ok (.aload_n 0, 1) := by decide +kernel
theorem dX1_copied_58 : decode cX1_copied 58 = .ok (.getfield 31, 3) := by decide +kernel
theorem dX1_copied_61 : decode cX1_copied 61 = .ok (.putfield 31, 3) := by decide +kernel
theorem dX1_copied_64 : decode cX1_copied 64 = .ok (.aload_n 1, 1) := by decide +kernel
theorem dX1_copied_65 : decode cX1_copied 65 = .ok (.aload_n 0, 1) := by decide +kernel
theorem dX1_copied_66 : decode cX1_copied 66 = .ok (.getfield 34, 3) := by decide +kernel
theorem dX1_copied_69 : decode cX1_copied 69 = .ok (.putfield 34, 3) := by decide +kernel
theorem dX1_copied_72 : decode cX1_copied 72 = .ok (.aload_n 0, 1) := by decide +kernel
theorem dX1_copied_73 : decode cX1_copied 73 = .ok (.getfield 37, 3) := by decide +kernel
theorem dX1_copied_76 : decode cX1_copied 76 = .ok (.iconst 0, 1) := by decide +kernel
theorem dX1_copied_77 : decode cX1_copied 77 = .ok (.aload_n 1, 1) := by decide +kernel
theorem dX1_copied_78 : decode cX1_copied 78 = .ok (.getfield 37, 3) := by decide +kernel
theorem dX1_copied_81 : decode cX1_copied 81 = .ok (.iconst 0, 1) := by decide +kernel
theorem dX1_copied_82 : decode cX1_copied 82 = .ok (.bipush 21, 2) := by decide +kernel
theorem dX1_copied_84 : decode cX1_copied 84 = .ok (.invokestatic 42, 3) := by decide +kernel
theorem dX1_copied_87 : decode cX1_copied 87 = .ok (.aload_n 1, 1) := by decide +kernel
theorem dX1_copied_88 : decode cX1_copied 88 = .ok (.areturn, 1) := by decide +kernel
theorem dX1_layOut_0 : decode cX1_layOut 0 = .ok (.aload_n 0, 1) := by decide +kernel
theorem dX1_layOut_1 : decode cX1_layOut 1 = .ok (.iload_n 1, 1) := by decide +kernel
theorem dX1_layOut_2 : decode cX1_layOut 2 = .ok (.putfield 9, 3) := by decide +kernel
theorem dX1_layOut_5 : decode cX1_layOut 5 = .ok (.aload_n 0, 1) := by decide +kernel
theorem dX1_layOut_6 : decode cX1_layOut 6 = .ok (.iload_n 2, 1) := by decide +kernel
theorem dX1_layOut_7 : decode cX1_layOut 7 = .ok (.putfield 15, 3) := by decide +kernel
theorem dX1_layOut_10 : decode cX1_layOut 10 = .ok (.aload_n 0, 1) := by decide +kernel
theorem dX1_layOut_11 : decode cX1_layOut 11 = .ok (.iload_n 3, 1) := by decide +kernel
theorem dX1_layOut_12 : decode cX1_layOut 12 = .ok (.putfield 18, 3) := by decide +kernel
theorem dX1_layOut_15 : decode cX1_layOut 15 = .ok (.aload_n 0, 1) := by decide +kernel
theorem dX1_layOut_16 : decode cX1_layOut 16 = .ok (.lload 4, 2) := by decide +kernel
theorem dX1_layOut_18 : decode cX1_layOut 18 = .ok (.putfield 21, 3) := by decide +kernel
theorem dX1_layOut_21 : decode cX1_layOut 21 = .ok (.aload_n 0, 1) := by decide +kernel
theorem dX1_layOut_22 : decode cX1_layOut 22 = .ok (.lconst 0, 1) := by decide +kernel
theorem dX1_layOut_23 : decode cX1_layOut 23 = .ok (.putfield 25, 3) := by decide +kernel
theorem dX1_layOut_26 : decode cX1_layOut 26 = .ok (.aload_n 0, 1) := by decide +kernel
theorem dX1_layOut_27 : decode cX1_layOut 27 = .ok (.iconst 0, 1) := by decide +kernel
theorem dX1_layOut_28 : decode cX1_layOut 28 = .ok (.putfield 28, 3) := by decide +kernel
theorem dX1_layOut_31 : decode cX1_layOut 31 = .ok (.return_, 1) := by decide +kernel
theorem dX1_hasBlock_0 : decode cX1_hasBlock 0 = .ok (.iload_n 1, 1) := by decide +kernel
theorem dX1_hasBlock_1 : decode cX1_hasBlock 1 = .ok (.ifCond .lt 32, 3) := by decide +kernel
theorem dX1_hasBlock_4 : decode cX1_hasBlock 4 = .ok (.iload_n 2, 1) := by decide +kernel
theorem dX1_hasBlock_5 : decode cX1_hasBlock 5 = .ok (.ifCond .lt 28, 3) := by decide +kernel
theorem dX1_hasBlock_8 : decode cX1_hasBlock 8 = .ok (.iload_n 1, 1) := by decide +kernel
theorem dX1_hasBlock_9 : decode cX1_hasBlock 9 = .ok (.aload_n 0, 1) := by decide +kernel
theorem dX1_hasBlock_10 : decode cX1_hasBlock 10 = .ok (.getfield 9, 3) := by decide +kernel
theorem dX1_hasBlock_13 : decode cX1_hasBlock 13 = .ok (.iload_n 3, 1) := by decide +kernel
theorem dX1_hasBlock_14 : decode cX1_hasBlock 14 = .ok (.isub, 1) := by decide +kernel
theorem dX1_hasBlock_15 : decode cX1_hasBlock 15 = .ok (.if_icmp .gt 18, 3) := by decide +kernel
theorem dX1_hasBlock_18 : decode cX1_hasBlock 18 = .ok (.iload_n 2, 1) := by decide +kernel
theorem dX1_hasBlock_19 : decode cX1_hasBlock 19 = .ok (.aload_n 0, 1) := by decide +kernel
theorem dX1_hasBlock_20 : decode cX1_hasBlock 20 = .ok (.getfield 15, 3) := by decide +kernel
theorem dX1_hasBlock_23 : decode cX1_hasBlock 23 = .ok (.iload 4, 2) := by decide +kernel
theorem dX1_hasBlock_25 : decode cX1_hasBlock 25 = .ok (.isub, 1) := by decide +kernel
theorem dX1_hasBlock_26 : decode cX1_hasBlock 26 = .ok (.if_icmp .gt 7, 3) := by decide +kernel
theorem dX1_hasBlock_29 : decode cX1_hasBlock 29 = .ok (.iconst 1, 1) := by decide +kernel
theorem dX1_hasBlock_30 : decode cX1_hasBlock 30 = .ok (.goto 4, 3) := by decide +kernel
theorem dX1_hasBlock_33 : decode cX1_hasBlock 33 = .ok (.iconst 0, 1) := by decide +kernel
theorem dX1_hasBlock_34 : decode cX1_hasBlock 34 = .ok (.ireturn, 1) := by decide +kernel
theorem dX1_pondCell_0 : decode cX1_pondCell 0 = .ok (.lconst 1, 1) := by decide +kernel
theorem dX1_pondCell_1 : decode cX1_pondCell 1 = .ok (.aload_n 0, 1) := by decide +kernel
theorem dX1_pondCell_2 : decode cX1_pondCell 2 = .ok (.getfield 18, 3) := by decide +kernel
theorem dX1_pondCell_5 : decode cX1_pondCell 5 = .ok (.lshl, 1) := by decide +kernel
theorem dX1_pondCell_6 : decode cX1_pondCell 6 = .ok (.lreturn, 1) := by decide +kernel
theorem dX1_freeCells_0 : decode cX1_freeCells 0 = .ok (.iconst 0, 1) := by decide +kernel
theorem dX1_freeCells_1 : decode cX1_freeCells 1 = .ok (.iconst 0, 1) := by decide +kernel
theorem dX1_freeCells_2 : decode cX1_freeCells 2 = .ok (.aload_n 0, 1) := by decide +kernel
theorem dX1_freeCells_3 : decode cX1_freeCells 3 = .ok (.getfield 9, 3) := by decide +kernel
theorem dX1_freeCells_6 : decode cX1_freeCells 6 = .ok (.aload_n 0, 1) := by decide +kernel
theorem dX1_freeCells_7 : decode cX1_freeCells 7 = .ok (.getfield 15, 3) := by decide +kernel
theorem dX1_freeCells_10 : decode cX1_freeCells 10 = .ok (.invokestatic 48, 3) := by decide +kernel
theorem dX1_freeCells_13 : decode cX1_freeCells 13 = .ok (.aload_n 0, 1) := by decide +kernel
theorem dX1_freeCells_14 : decode cX1_freeCells 14 = .ok (.getfield 21, 3) := by decide +kernel
theorem dX1_freeCells_17 : decode cX1_freeCells 17 = .ok (.aload_n 0, 1) := by decide +kernel
theorem dX1_freeCells_18 : decode cX1_freeCells 18 = .ok (.getfield 25, 3) := by decide +kernel
theorem dX1_freeCells_21 : decode cX1_freeCells 21 = .ok (.lor, 1) := by decide +kernel
theorem dX1_freeCells_22 : decode cX1_freeCells 22 = .ok (.aload_n 0, 1) := by decide +kernel
theorem dX1_freeCells_23 : decode cX1_freeCells 23 = .ok (.invokevirtual 52, 3) := by decide +kernel
theorem dX1_freeCells_26 : decode cX1_freeCells 26 = .ok (.lor, 1) := by decide +kernel
theorem dX1_freeCells_27 : decode cX1_freeCells 27 = .ok (.ldc2_w 56, 3) := by decide +kernel
theorem dX1_freeCells_30 : decode cX1_freeCells 30 = .ok (.lxor, 1) := by decide +kernel
theorem dX1_freeCells_31 : decode cX1_freeCells 31 = .ok (.land, 1) := by decide +kernel
theorem dX1_freeCells_32 : decode cX1_freeCells 32 = .ok (.lreturn, 1) := by decide +kernel
theorem dX1_blockCells_0 : decode cX1_blockCells 0 = .ok (.lconst 0, 1) := by decide +kernel
theorem dX1_blockCells_1 : decode cX1_blockCells 1 = .ok (.lstore 4, 2) := by decide +kernel
theorem dX1_blockCells_3 : decode cX1_blockCells 3 = .ok (.iconst 0, 1) := by decide +kernel
theorem dX1_blockCells_4 : decode cX1_blockCells 4 = .ok (.istore 6, 2) := by decide +kernel
theorem dX1_blockCells_6 : decode cX1_blockCells 6 = .ok (.iload 6, 2) := by decide +kernel
theorem dX1_blockCells_8 : decode cX1_blockCells 8 = .ok (.iload_n 3, 1) := by decide +kernel
theorem dX1_blockCells_9 : decode cX1_blockCells 9 = .ok (.if_icmp .ge 28, 3) := by decide +kernel
theorem dX1_blockCells_12 : decode cX1_blockCells 12 = .ok (.lload 4, 2) := by decide +kernel
theorem dX1_blockCells_14 : decode cX1_blockCells 14 = .ok (.lconst 1, 1) := by decide +kernel
theorem dX1_blockCells_15 : decode cX1_blockCells 15 = .ok (.iload_n 2, 1) := by decide +kernel
theorem dX1_blockCells_16 : decode cX1_blockCells 16 = .ok (.lshl, 1) := by decide +kernel
theorem dX1_blockCells_17 : decode cX1_blockCells 17 = .ok (.lconst 1, 1) := by decide +kernel
theorem dX1_blockCells_18 : decode cX1_blockCells 18 = .ok (.lsub, 1) := by decide +kernel
theorem dX1_blockCells_19 : decode cX1_blockCells 19 = .ok (.iload_n 0, 1) := by decide +kernel
theorem dX1_blockCells_20 : decode cX1_blockCells 20 = .ok (.iload_n 1, 1) := by decide +kernel
theorem dX1_blockCells_21 : decode cX1_blockCells 21 = .ok (.iload 6, 2) := by decide +kernel
theorem dX1_blockCells_23 : decode cX1_blockCells 23 = .ok (.iadd, 1) := by decide +kernel
theorem dX1_blockCells_24 : decode cX1_blockCells 24 = .ok (.invokestatic 58, 3) := by decide +kernel
theorem dX1_blockCells_27 : decode cX1_blockCells 27 = .ok (.lshl, 1) := by decide +kernel
theorem dX1_blockCells_28 : decode cX1_blockCells 28 = .ok (.lor, 1) := by decide +kernel
theorem dX1_blockCells_29 : decode cX1_blockCells 29 = .ok (.lstore 4, 2) := by decide +kernel
theorem dX1_blockCells_31 : decode cX1_blockCells 31 = .ok (.iinc 6 1, 3) := by decide +kernel
theorem dX1_blockCells_34 : decode cX1_blockCells 34 = .ok (.goto (-28), 3) := by decide +kernel
theorem dX1_blockCells_37 : decode cX1_blockCells 37 = .ok (.lload 4, 2) := by decide +kernel
theorem dX1_blockCells_39 : decode cX1_blockCells 39 = .ok (.lreturn, 1) := by decide +kernel
theorem dX1_kindOf_0 : decode cX1_kindOf 0 = .ok (.lload_n 1, 1) := by decide +kernel
theorem dX1_kindOf_1 : decode cX1_kindOf 1 = .ok (.aload_n 0, 1) := by decide +kernel
theorem dX1_kindOf_2 : decode cX1_kindOf 2 = .ok (.invokevirtual 52, 3) := by decide +kernel
theorem dX1_kindOf_5 : decode cX1_kindOf 5 = .ok (.land, 1) := by decide +kernel
theorem dX1_kindOf_6 : decode cX1_kindOf 6 = .ok (.lconst 0, 1) := by decide +kernel
theorem dX1_kindOf_7 : decode cX1_kindOf 7 = .ok (.lcmp, 1) := by decide +kernel
theorem dX1_kindOf_8 : decode cX1_kindOf 8 = .ok (.ifCond .eq 5, 3) := by decide +kernel
theorem dX1_kindOf_11 : decode cX1_kindOf 11 = .ok (.iconst 1, 1) := by decide +kernel
theorem dX1_kindOf_12 : decode cX1_kindOf 12 = .ok (.ireturn, 1) := by decide +kernel
theorem dX1_kindOf_13 : decode cX1_kindOf 13 = .ok (.lload_n 1, 1) := by decide +kernel
theorem dX1_kindOf_14 : decode cX1_kindOf 14 = .ok (.aload_n 0, 1) := by decide +kernel
theorem dX1_kindOf_15 : decode cX1_kindOf 15 = .ok (.getfield 21, 3) := by decide +kernel
theorem dX1_kindOf_18 : decode cX1_kindOf 18 = .ok (.land, 1) := by decide +kernel
theorem dX1_kindOf_19 : decode cX1_kindOf 19 = .ok (.lconst 0, 1) := by decide +kernel
theorem dX1_kindOf_20 : decode cX1_kindOf 20 = .ok (.lcmp, 1) := by decide +kernel
theorem dX1_kindOf_21 : decode cX1_kindOf 21 = .ok (.ifCond .eq 5, 3) := by decide +kernel
theorem dX1_kindOf_24 : decode cX1_kindOf 24 = .ok (.iconst 2, 1) := by decide +kernel
theorem dX1_kindOf_25 : decode cX1_kindOf 25 = .ok (.ireturn, 1) := by decide +kernel
theorem dX1_kindOf_26 : decode cX1_kindOf 26 = .ok (.lload_n 1, 1) := by decide +kernel
theorem dX1_kindOf_27 : decode cX1_kindOf 27 = .ok (.aload_n 0, 1) := by decide +kernel
theorem dX1_kindOf_28 : decode cX1_kindOf 28 = .ok (.getfield 25, 3) := by decide +kernel
theorem dX1_kindOf_31 : decode cX1_kindOf 31 = .ok (.land, 1) := by decide +kernel
theorem dX1_kindOf_32 : decode cX1_kindOf 32 = .ok (.lconst 0, 1) := by decide +kernel
theorem dX1_kindOf_33 : decode cX1_kindOf 33 = .ok (.lcmp, 1) := by decide +kernel
theorem dX1_kindOf_34 : decode cX1_kindOf 34 = .ok (.ifCond .eq 7, 3) := by decide +kernel
theorem dX1_kindOf_37 : decode cX1_kindOf 37 = .ok (.iconst 3, 1) := by decide +kernel
theorem dX1_kindOf_38 : decode cX1_kindOf 38 = .ok (.goto 4, 3) := by decide +kernel
theorem dX1_kindOf_41 : decode cX1_kindOf 41 = .ok (.iconst 0, 1) := by decide +kernel
theorem dX1_kindOf_42 : decode cX1_kindOf 42 = .ok (.ireturn, 1) := by decide +kernel
theorem dX1_whyRefused_0 : decode cX1_whyRefused 0 = .ok (.aload_n 0, 1) := by decide +kernel
theorem dX1_whyRefused_1 : decode cX1_whyRefused 1 = .ok (.iload_n 1, 1) := by decide +kernel
theorem dX1_whyRefused_2 : decode cX1_whyRefused 2 = .ok (.iload_n 2, 1) := by decide +kernel
theorem dX1_whyRefused_3 : decode cX1_whyRefused 3 = .ok (.iconst 2, 1) := by decide +kernel
theorem dX1_whyRefused_4 : decode cX1_whyRefused 4 = .ok (.iconst 2, 1) := by decide +kernel
theorem dX1_whyRefused_5 : decode cX1_whyRefused 5 = .ok (.invokevirtual 62, 3) := by decide +kernel
theorem dX1_whyRefused_8 : decode cX1_whyRefused 8 = .ok (.ifCond .ne 5, 3) := by decide +kernel
theorem dX1_whyRefused_11 : decode cX1_whyRefused 11 = .ok (.iconst 1, 1) := by decide +kernel
theorem dX1_whyRefused_12 : decode cX1_whyRefused 12 = .ok (.ireturn, 1) := by decide +kernel
theorem dX1_whyRefused_13 : decode cX1_whyRefused 13 = .ok (.iload_n 1, 1) := by decide +kernel
theorem dX1_whyRefused_14 : decode cX1_whyRefused 14 = .ok (.iload_n 2, 1) := by decide +kernel
theorem dX1_whyRefused_15 : decode cX1_whyRefused 15 = .ok (.iload_n 3, 1) := by decide +kernel
theorem dX1_whyRefused_16 : decode cX1_whyRefused 16 = .ok (.invokestatic 66, 3) := by decide +kernel
theorem dX1_whyRefused_19 : decode cX1_whyRefused 19 = .ok (.lstore 4, 2) := by decide +kernel
theorem dX1_whyRefused_21 : decode cX1_whyRefused 21 = .ok (.lload 4, 2) := by decide +kernel
theorem dX1_whyRefused_23 : decode cX1_whyRefused 23 = .ok (.aload_n 0, 1) := by decide +kernel
theorem dX1_whyRefused_24 : decode cX1_whyRefused 24 = .ok (.invokevirtual 52, 3) := by decide +kernel
theorem dX1_whyRefused_27 : decode cX1_whyRefused 27 = .ok (.land, 1) := by decide +kernel
theorem dX1_whyRefused_28 : decode cX1_whyRefused 28 = .ok (.lconst 0, 1) := by decide +kernel
theorem dX1_whyRefused_29 : decode cX1_whyRefused 29 = .ok (.lcmp, 1) := by decide +kernel
theorem dX1_whyRefused_30 : decode cX1_whyRefused 30 = .ok (.ifCond .eq 5, 3) := by decide +kernel
theorem dX1_whyRefused_33 : decode cX1_whyRefused 33 = .ok (.iconst 2, 1) := by decide +kernel
theorem dX1_whyRefused_34 : decode cX1_whyRefused 34 = .ok (.ireturn, 1) := by decide +kernel
theorem dX1_whyRefused_35 : decode cX1_whyRefused 35 = .ok (.lload 4, 2) := by decide +kernel
theorem dX1_whyRefused_37 : decode cX1_whyRefused 37 = .ok (.aload_n 0, 1) := by decide +kernel
theorem dX1_whyRefused_38 : decode cX1_whyRefused 38 = .ok (.getfield 21, 3) := by decide +kernel
theorem dX1_whyRefused_41 : decode cX1_whyRefused 41 = .ok (.land, 1) := by decide +kernel
theorem dX1_whyRefused_42 : decode cX1_whyRefused 42 = .ok (.lconst 0, 1) := by decide +kernel
theorem dX1_whyRefused_43 : decode cX1_whyRefused 43 = .ok (.lcmp, 1) := by decide +kernel
theorem dX1_whyRefused_44 : decode cX1_whyRefused 44 = .ok (.ifCond .eq 5, 3) := by decide +kernel
theorem dX1_whyRefused_47 : decode cX1_whyRefused 47 = .ok (.iconst 3, 1) := by decide +kernel
theorem dX1_whyRefused_48 : decode cX1_whyRefused 48 = .ok (.ireturn, 1) := by decide +kernel
theorem dX1_whyRefused_49 : decode cX1_whyRefused 49 = .ok (.lload 4, 2) := by decide +kernel
theorem dX1_whyRefused_51 : decode cX1_whyRefused 51 = .ok (.aload_n 0, 1) := by decide +kernel
theorem dX1_whyRefused_52 : decode cX1_whyRefused 52 = .ok (.getfield 25, 3) := by decide +kernel
theorem dX1_whyRefused_55 : decode cX1_whyRefused 55 = .ok (.land, 1) := by decide +kernel
theorem dX1_whyRefused_56 : decode cX1_whyRefused 56 = .ok (.lconst 0, 1) := by decide +kernel
theorem dX1_whyRefused_57 : decode cX1_whyRefused 57 = .ok (.lcmp, 1) := by decide +kernel
theorem dX1_whyRefused_58 : decode cX1_whyRefused 58 = .ok (.ifCond .eq 7, 3) := by decide +kernel
theorem dX1_whyRefused_61 : decode cX1_whyRefused 61 = .ok (.iconst 4, 1) := by decide +kernel
theorem dX1_whyRefused_62 : decode cX1_whyRefused 62 = .ok (.goto 4, 3) := by decide +kernel
theorem dX1_whyRefused_65 : decode cX1_whyRefused 65 = .ok (.iconst 0, 1) := by decide +kernel
theorem dX1_whyRefused_66 : decode cX1_whyRefused 66 = .ok (.ireturn, 1) := by decide +kernel
theorem dX1_putTriple_0 : decode cX1_putTriple 0 = .ok (.aload_n 0, 1) := by decide +kernel
theorem dX1_putTriple_1 : decode cX1_putTriple 1 = .ok (.getfield 28, 3) := by decide +kernel
theorem dX1_putTriple_4 : decode cX1_putTriple 4 = .ok (.aload_n 0, 1) := by decide +kernel
theorem dX1_putTriple_5 : decode cX1_putTriple 5 = .ok (.getfield 37, 3) := by decide +kernel
theorem dX1_putTriple_8 : decode cX1_putTriple 8 = .ok (.arraylength, 1) := by decide +kernel
theorem dX1_putTriple_9 : decode cX1_putTriple 9 = .ok (.if_icmp .ge 43, 3) := by decide +kernel
theorem dX1_putTriple_12 : decode cX1_putTriple 12 = .ok (.aload_n 0, 1) := by decide +kernel
theorem dX1_putTriple_13 : decode cX1_putTriple 13 = .ok (.getfield 37, 3) := by decide +kernel
theorem dX1_putTriple_16 : decode cX1_putTriple 16 = .ok (.aload_n 0, 1) := by decide +kernel
theorem dX1_putTriple_17 : decode cX1_putTriple 17 = .ok (.getfield 28, 3) := by decide +kernel
theorem dX1_putTriple_20 : decode cX1_putTriple 20 = .ok (.iload_n 1, 1) := by decide +kernel
theorem dX1_putTriple_21 : decode cX1_putTriple 21 = .ok (.iload_n 2, 1) := by decide +kernel
theorem dX1_putTriple_22 : decode cX1_putTriple 22 = .ok (.iload_n 3, 1) := by decide +kernel
theorem dX1_putTriple_23 : decode cX1_putTriple 23 = .ok (.invokestatic 70, 3) := by decide +kernel
theorem dX1_putTriple_26 : decode cX1_putTriple 26 = .ok (.iastore, 1) := by decide +kernel
theorem dX1_putTriple_27 : decode cX1_putTriple 27 = .ok (.aload_n 0, 1) := by decide +kernel
theorem dX1_putTriple_28 : decode cX1_putTriple 28 = .ok (.dup, 1) := by decide +kernel
theorem dX1_putTriple_29 : decode cX1_putTriple 29 = .ok (.getfield 28, 3) := by decide +kernel
theorem dX1_putTriple_32 : decode cX1_putTriple 32 = .ok (.iconst 1, 1) := by decide +kernel
theorem dX1_putTriple_33 : decode cX1_putTriple 33 = .ok (.iadd, 1) := by decide +kernel
theorem dX1_putTriple_34 : decode cX1_putTriple 34 = .ok (.putfield 28, 3) := by decide +kernel
theorem dX1_putTriple_37 : decode cX1_putTriple 37 = .ok (.aload_n 0, 1) := by decide +kernel
theorem dX1_putTriple_38 : decode cX1_putTriple 38 = .ok (.dup, 1) := by decide +kernel
theorem dX1_putTriple_39 : decode cX1_putTriple 39 = .ok (.getfield 25, 3) := by decide +kernel
theorem dX1_putTriple_42 : decode cX1_putTriple 42 = .ok (.iload_n 1, 1) := by decide +kernel
theorem dX1_putTriple_43 : decode cX1_putTriple 43 = .ok (.iload_n 2, 1) := by decide +kernel
theorem dX1_putTriple_44 : decode cX1_putTriple 44 = .ok (.iload_n 3, 1) := by decide +kernel
theorem dX1_putTriple_45 : decode cX1_putTriple 45 = .ok (.invokestatic 66, 3) := by decide +kernel
theorem dX1_putTriple_48 : decode cX1_putTriple 48 = .ok (.lor, 1) := by decide +kernel
theorem dX1_putTriple_49 : decode cX1_putTriple 49 = .ok (.putfield 25, 3) := by decide +kernel
theorem dX1_putTriple_52 : decode cX1_putTriple 52 = .ok (.return_, 1) := by decide +kernel
theorem dX1_takeTriple_0 : decode cX1_takeTriple 0 = .ok (.iload_n 1, 1) := by decide +kernel
theorem dX1_takeTriple_1 : decode cX1_takeTriple 1 = .ok (.ifCond .lt 11, 3) := by decide +kernel
theorem dX1_takeTriple_4 : decode cX1_takeTriple 4 = .ok (.iload_n 1, 1) := by decide +kernel
theorem dX1_takeTriple_5 : decode cX1_takeTriple 5 = .ok (.aload_n 0, 1) := by decide +kernel
theorem dX1_takeTriple_6 : decode cX1_takeTriple 6 = .ok (.getfield 28, 3) := by decide +kernel
theorem dX1_takeTriple_9 : decode cX1_takeTriple 9 = .ok (.if_icmp .lt 4, 3) := by decide +kernel
theorem dX1_takeTriple_12 : decode cX1_takeTriple 12 = .ok (.return_, 1) := by decide +kernel
theorem dX1_takeTriple_13 : decode cX1_takeTriple 13 = .ok (.aload_n 0, 1) := by decide +kernel
theorem dX1_takeTriple_14 : decode cX1_takeTriple 14 = .ok (.dup, 1) := by decide +kernel
theorem dX1_takeTriple_15 : decode cX1_takeTriple 15 = .ok (.getfield 25, 3) := by decide +kernel
theorem dX1_takeTriple_18 : decode cX1_takeTriple 18 = .ok (.aload_n 0, 1) := by decide +kernel
theorem dX1_takeTriple_19 : decode cX1_takeTriple 19 = .ok (.iload_n 1, 1) := by decide +kernel
theorem dX1_takeTriple_20 : decode cX1_takeTriple 20 = .ok (.invokevirtual 74, 3) := by decide +kernel
theorem dX1_takeTriple_23 : decode cX1_takeTriple 23 = .ok (.ldc2_w 56, 3) := by decide +kernel
theorem dX1_takeTriple_26 : decode cX1_takeTriple 26 = .ok (.lxor, 1) := by decide +kernel
theorem dX1_takeTriple_27 : decode cX1_takeTriple 27 = .ok (.land, 1) := by decide +kernel
theorem dX1_takeTriple_28 : decode cX1_takeTriple 28 = .ok (.putfield 25, 3) := by decide +kernel
theorem dX1_takeTriple_31 : decode cX1_takeTriple 31 = .ok (.aload_n 0, 1) := by decide +kernel
theorem dX1_takeTriple_32 : decode cX1_takeTriple 32 = .ok (.dup, 1) := by decide +kernel
theorem dX1_takeTriple_33 : decode cX1_takeTriple 33 = .ok (.getfield 28, 3) := by decide +kernel
theorem dX1_takeTriple_36 : decode cX1_takeTriple 36 = .ok (.iconst 1, 1) := by decide +kernel
theorem dX1_takeTriple_37 : decode cX1_takeTriple 37 = .ok (.isub, 1) := by decide +kernel
theorem dX1_takeTriple_38 : decode cX1_takeTriple 38 = .ok (.putfield 28, 3) := by decide +kernel
theorem dX1_takeTriple_41 : decode cX1_takeTriple 41 = .ok (.iload_n 1, 1) := by decide +kernel
theorem dX1_takeTriple_42 : decode cX1_takeTriple 42 = .ok (.istore_n 2, 1) := by decide +kernel
theorem dX1_takeTriple_43 : decode cX1_takeTriple 43 = .ok (.iload_n 2, 1) := by decide +kernel
theorem dX1_takeTriple_44 : decode cX1_takeTriple 44 = .ok (.aload_n 0, 1) := by decide +kernel
theorem dX1_takeTriple_45 : decode cX1_takeTriple 45 = .ok (.getfield 28, 3) := by decide +kernel
theorem dX1_takeTriple_48 : decode cX1_takeTriple 48 = .ok (.if_icmp .ge 34, 3) := by decide +kernel
theorem dX1_takeTriple_51 : decode cX1_takeTriple 51 = .ok (.iload_n 2, 1) := by decide +kernel
theorem dX1_takeTriple_52 : decode cX1_takeTriple 52 = .ok (.iconst 1, 1) := by decide +kernel
theorem dX1_takeTriple_53 : decode cX1_takeTriple 53 = .ok (.iadd, 1) := by decide +kernel
theorem dX1_takeTriple_54 : decode cX1_takeTriple 54 = .ok (.aload_n 0, 1) := by decide +kernel
theorem dX1_takeTriple_55 : decode cX1_takeTriple 55 = .ok (.getfield 37, 3) := by decide +kernel
theorem dX1_takeTriple_58 : decode cX1_takeTriple 58 = .ok (.arraylength, 1) := by decide +kernel
theorem dX1_takeTriple_59 : decode cX1_takeTriple 59 = .ok (.if_icmp .ge 23, 3) := by decide +kernel
theorem dX1_takeTriple_62 : decode cX1_takeTriple 62 = .ok (.aload_n 0, 1) := by decide +kernel
theorem dX1_takeTriple_63 : decode cX1_takeTriple 63 = .ok (.getfield 37, 3) := by decide +kernel
theorem dX1_takeTriple_66 : decode cX1_takeTriple 66 = .ok (.iload_n 2, 1) := by decide +kernel
theorem dX1_takeTriple_67 : decode cX1_takeTriple 67 = .ok (.aload_n 0, 1) := by decide +kernel
theorem dX1_takeTriple_68 : decode cX1_takeTriple 68 = .ok (.getfield 37, 3) := by decide +kernel
theorem dX1_takeTriple_71 : decode cX1_takeTriple 71 = .ok (.iload_n 2, 1) := by decide +kernel
theorem dX1_takeTriple_72 : decode cX1_takeTriple 72 = .ok (.iconst 1, 1) := by decide +kernel
theorem dX1_takeTriple_73 : decode cX1_takeTriple 73 = .ok (.iadd, 1) := by decide +kernel
theorem dX1_takeTriple_74 : decode cX1_takeTriple 74 = .ok (.iaload, 1) := by decide +kernel
theorem dX1_takeTriple_75 : decode cX1_takeTriple 75 = .ok (.iastore, 1) := by decide +kernel
theorem dX1_takeTriple_76 : decode cX1_takeTriple 76 = .ok (.iinc 2 1, 3) := by decide +kernel
theorem dX1_takeTriple_79 : decode cX1_takeTriple 79 = .ok (.goto (-36), 3) := by decide +kernel
theorem dX1_takeTriple_82 : decode cX1_takeTriple 82 = .ok (.return_, 1) := by decide +kernel
theorem dX1_tripleName_0 : decode cX1_tripleName 0 = .ok (.iload_n 1, 1) := by decide +kernel
theorem dX1_tripleName_1 : decode cX1_tripleName 1 = .ok (.ifCond .lt 29, 3) := by decide +kernel
theorem dX1_tripleName_4 : decode cX1_tripleName 4 = .ok (.iload_n 1, 1) := by decide +kernel
theorem dX1_tripleName_5 : decode cX1_tripleName 5 = .ok (.aload_n 0, 1) := by decide +kernel
theorem dX1_tripleName_6 : decode cX1_tripleName 6 = .ok (.getfield 28, 3) := by decide +kernel
theorem dX1_tripleName_9 : decode cX1_tripleName 9 = .ok (.if_icmp .ge 21, 3) := by decide +kernel
theorem dX1_tripleName_12 : decode cX1_tripleName 12 = .ok (.iload_n 1, 1) := by decide +kernel
theorem dX1_tripleName_13 : decode cX1_tripleName 13 = .ok (.aload_n 0, 1) := by decide +kernel
theorem dX1_tripleName_14 : decode cX1_tripleName 14 = .ok (.getfield 37, 3) := by decide +kernel
theorem dX1_tripleName_17 : decode cX1_tripleName 17 = .ok (.arraylength, 1) := by decide +kernel
theorem dX1_tripleName_18 : decode cX1_tripleName 18 = .ok (.if_icmp .ge 12, 3) := by decide +kernel
theorem dX1_tripleName_21 : decode cX1_tripleName 21 = .ok (.aload_n 0, 1) := by decide +kernel
theorem dX1_tripleName_22 : decode cX1_tripleName 22 = .ok (.getfield 37, 3) := by decide +kernel
theorem dX1_tripleName_25 : decode cX1_tripleName 25 = .ok (.iload_n 1, 1) := by decide +kernel
theorem dX1_tripleName_26 : decode cX1_tripleName 26 = .ok (.iaload, 1) := by decide +kernel
theorem dX1_tripleName_27 : decode cX1_tripleName 27 = .ok (.goto 4, 3) := by decide +kernel
theorem dX1_tripleName_30 : decode cX1_tripleName 30 = .ok (.iconst 0, 1) := by decide +kernel
theorem dX1_tripleName_31 : decode cX1_tripleName 31 = .ok (.ireturn, 1) := by decide +kernel
theorem dX1_tripleCells_0 : decode cX1_tripleCells 0 = .ok (.aload_n 0, 1) := by decide +kernel
theorem dX1_tripleCells_1 : decode cX1_tripleCells 1 = .ok (.iload_n 1, 1) := by decide +kernel
theorem dX1_tripleCells_2 : decode cX1_tripleCells 2 = .ok (.invokevirtual 78, 3) := by decide +kernel
theorem dX1_tripleCells_5 : decode cX1_tripleCells 5 = .ok (.istore_n 2, 1) := by decide +kernel
theorem dX1_tripleCells_6 : decode cX1_tripleCells 6 = .ok (.iload_n 2, 1) := by decide +kernel
theorem dX1_tripleCells_7 : decode cX1_tripleCells 7 = .ok (.invokestatic 82, 3) := by decide +kernel
theorem dX1_tripleCells_10 : decode cX1_tripleCells 10 = .ok (.iload_n 2, 1) := by decide +kernel
theorem dX1_tripleCells_11 : decode cX1_tripleCells 11 = .ok (.invokestatic 85, 3) := by decide +kernel
theorem dX1_tripleCells_14 : decode cX1_tripleCells 14 = .ok (.iload_n 2, 1) := by decide +kernel
theorem dX1_tripleCells_15 : decode cX1_tripleCells 15 = .ok (.invokestatic 88, 3) := by decide +kernel
theorem dX1_tripleCells_18 : decode cX1_tripleCells 18 = .ok (.invokestatic 66, 3) := by decide +kernel
theorem dX1_tripleCells_21 : decode cX1_tripleCells 21 = .ok (.lreturn, 1) := by decide +kernel
theorem dX1_tripleOver_0 : decode cX1_tripleOver 0 = .ok (.iconst 0, 1) := by decide +kernel
theorem dX1_tripleOver_1 : decode cX1_tripleOver 1 = .ok (.istore_n 3, 1) := by decide +kernel
theorem dX1_tripleOver_2 : decode cX1_tripleOver 2 = .ok (.iload_n 3, 1) := by decide +kernel
theorem dX1_tripleOver_3 : decode cX1_tripleOver 3 = .ok (.aload_n 0, 1) := by decide +kernel
theorem dX1_tripleOver_4 : decode cX1_tripleOver 4 = .ok (.getfield 28, 3) := by decide +kernel
theorem dX1_tripleOver_7 : decode cX1_tripleOver 7 = .ok (.if_icmp .ge 23, 3) := by decide +kernel
theorem dX1_tripleOver_10 : decode cX1_tripleOver 10 = .ok (.aload_n 0, 1) := by decide +kernel
theorem dX1_tripleOver_11 : decode cX1_tripleOver 11 = .ok (.iload_n 3, 1) := by decide +kernel
theorem dX1_tripleOver_12 : decode cX1_tripleOver 12 = .ok (.invokevirtual 74, 3) := by decide +kernel
theorem dX1_tripleOver_15 : decode cX1_tripleOver 15 = .ok (.lload_n 1, 1) := by decide +kernel
theorem dX1_tripleOver_16 : decode cX1_tripleOver 16 = .ok (.land, 1) := by decide +kernel
theorem dX1_tripleOver_17 : decode cX1_tripleOver 17 = .ok (.lconst 0, 1) := by decide +kernel
theorem dX1_tripleOver_18 : decode cX1_tripleOver 18 = .ok (.lcmp, 1) := by decide +kernel
theorem dX1_tripleOver_19 : decode cX1_tripleOver 19 = .ok (.ifCond .eq 5, 3) := by decide +kernel
theorem dX1_tripleOver_22 : decode cX1_tripleOver 22 = .ok (.iload_n 3, 1) := by decide +kernel
theorem dX1_tripleOver_23 : decode cX1_tripleOver 23 = .ok (.ireturn, 1) := by decide +kernel
theorem dX1_tripleOver_24 : decode cX1_tripleOver 24 = .ok (.iinc 3 1, 3) := by decide +kernel
theorem dX1_tripleOver_27 : decode cX1_tripleOver 27 = .ok (.goto (-25), 3) := by decide +kernel
theorem dX1_tripleOver_30 : decode cX1_tripleOver 30 = .ok (.iconst (-1), 1) := by decide +kernel
theorem dX1_tripleOver_31 : decode cX1_tripleOver 31 = .ok (.ireturn, 1) := by decide +kernel
theorem dX1_layableTriples_0 : decode cX1_layableTriples 0 = .ok (.iconst 0, 1) := by decide +kernel
theorem dX1_layableTriples_1 : decode cX1_layableTriples 1 = .ok (.istore_n 1, 1) := by decide +kernel
theorem dX1_layableTriples_2 : decode cX1_layableTriples 2 = .ok (.iconst 0, 1) := by decide +kernel
theorem dX1_layableTriples_3 : decode cX1_layableTriples 3 = .ok (.istore_n 2, 1) := by decide +kernel
theorem dX1_layableTriples_4 : decode cX1_layableTriples 4 = .ok (.iload_n 2, 1) := by decide +kernel
theorem dX1_layableTriples_5 : decode cX1_layableTriples 5 = .ok (.aload_n 0, 1) := by decide +kernel
theorem dX1_layableTriples_6 : decode cX1_layableTriples 6 = .ok (.getfield 15, 3) := by decide +kernel
theorem dX1_layableTriples_9 : decode cX1_layableTriples 9 = .ok (.if_icmp .ge 59, 3) := by decide +kernel
theorem dX1_layableTriples_12 : decode cX1_layableTriples 12 = .ok (.iconst 0, 1) := by decide +kernel
theorem dX1_layableTriples_13 : decode cX1_layableTriples 13 = .ok (.istore_n 3, 1) := by decide +kernel
theorem dX1_layableTriples_14 : decode cX1_layableTriples 14 = .ok (.iload_n 3, 1) := by decide +kernel
theorem dX1_layableTriples_15 : decode cX1_layableTriples 15 = .ok (.aload_n 0, 1) := by decide +kernel
theorem dX1_layableTriples_16 : decode cX1_layableTriples 16 = .ok (.getfield 9, 3) := by decide +kernel
theorem dX1_layableTriples_19 : decode cX1_layableTriples 19 = .ok (.if_icmp .ge 43, 3) := by decide +kernel
theorem dX1_layableTriples_22 : decode cX1_layableTriples 22 = .ok (.iconst 0, 1) := by decide +kernel
theorem dX1_layableTriples_23 : decode cX1_layableTriples 23 = .ok (.istore 4, 2) := by decide +kernel
theorem dX1_layableTriples_25 : decode cX1_layableTriples 25 = .ok (.iload 4, 2) := by decide +kernel
theorem dX1_layableTriples_27 : decode cX1_layableTriples 27 = .ok (.iconst 4, 1) := by decide +kernel
theorem dX1_layableTriples_28 : decode cX1_layableTriples 28 = .ok (.if_icmp .ge 28, 3) := by decide +kernel
theorem dX1_layableTriples_31 : decode cX1_layableTriples 31 = .ok (.iload_n 1, 1) := by decide +kernel
theorem dX1_layableTriples_32 : decode cX1_layableTriples 32 = .ok (.aload_n 0, 1) := by decide +kernel
theorem dX1_layableTriples_33 : decode cX1_layableTriples 33 = .ok (.iload_n 3, 1) := by decide +kernel
theorem dX1_layableTriples_34 : decode cX1_layableTriples 34 = .ok (.iload_n 2, 1) := by decide +kernel
theorem dX1_layableTriples_35 : decode cX1_layableTriples 35 = .ok (.iload 4, 2) := by decide +kernel
theorem dX1_layableTriples_37 : decode cX1_layableTriples 37 = .ok (.invokevirtual 91, 3) := by decide +kernel
theorem dX1_layableTriples_40 : decode cX1_layableTriples 40 = .ok (.ifCond .ne 7, 3) := by decide +kernel
theorem dX1_layableTriples_43 : decode cX1_layableTriples 43 = .ok (.iconst 1, 1) := by decide +kernel
theorem dX1_layableTriples_44 : decode cX1_layableTriples 44 = .ok (.goto 4, 3) := by decide +kernel
theorem dX1_layableTriples_47 : decode cX1_layableTriples 47 = .ok (.iconst 0, 1) := by decide +kernel
theorem dX1_layableTriples_48 : decode cX1_layableTriples 48 = .ok (.iadd, 1) := by decide +kernel
theorem dX1_layableTriples_49 : decode cX1_layableTriples 49 = .ok (.istore_n 1, 1) := by decide +kernel
theorem dX1_layableTriples_50 : decode cX1_layableTriples 50 = .ok (.iinc 4 1, 3) := by decide +kernel
theorem dX1_layableTriples_53 : decode cX1_layableTriples 53 = .ok (.goto (-28), 3) := by decide +kernel
theorem dX1_layableTriples_56 : decode cX1_layableTriples 56 = .ok (.iinc 3 1, 3) := by decide +kernel
theorem dX1_layableTriples_59 : decode cX1_layableTriples 59 = .ok (.goto (-45), 3) := by decide +kernel
theorem dX1_layableTriples_62 : decode cX1_layableTriples 62 = .ok (.iinc 2 1, 3) := by decide +kernel
theorem dX1_layableTriples_65 : decode cX1_layableTriples 65 = .ok (.goto (-61), 3) := by decide +kernel
theorem dX1_layableTriples_68 : decode cX1_layableTriples 68 = .ok (.iload_n 1, 1) := by decide +kernel
theorem dX1_layableTriples_69 : decode cX1_layableTriples 69 = .ok (.ireturn, 1) := by decide +kernel
theorem dX1_coverX_0 : decode cX1_coverX 0 = .ok (.iload_n 0, 1) := by decide +kernel
theorem dX1_coverX_1 : decode cX1_coverX 1 = .ok (.bipush 8, 2) := by decide +kernel
theorem dX1_coverX_3 : decode cX1_coverX 3 = .ok (.irem, 1) := by decide +kernel
theorem dX1_coverX_4 : decode cX1_coverX 4 = .ok (.iload_n 1, 1) := by decide +kernel
theorem dX1_coverX_5 : decode cX1_coverX 5 = .ok (.iconst 2, 1) := by decide +kernel
theorem dX1_coverX_6 : decode cX1_coverX 6 = .ok (.irem, 1) := by decide +kernel
theorem dX1_coverX_7 : decode cX1_coverX 7 = .ok (.isub, 1) := by decide +kernel
theorem dX1_coverX_8 : decode cX1_coverX 8 = .ok (.ireturn, 1) := by decide +kernel
theorem dX1_coverY_0 : decode cX1_coverY 0 = .ok (.iload_n 0, 1) := by decide +kernel
theorem dX1_coverY_1 : decode cX1_coverY 1 = .ok (.bipush 8, 2) := by decide +kernel
theorem dX1_coverY_3 : decode cX1_coverY 3 = .ok (.idiv, 1) := by decide +kernel
theorem dX1_coverY_4 : decode cX1_coverY 4 = .ok (.iload_n 1, 1) := by decide +kernel
theorem dX1_coverY_5 : decode cX1_coverY 5 = .ok (.iconst 2, 1) := by decide +kernel
theorem dX1_coverY_6 : decode cX1_coverY 6 = .ok (.idiv, 1) := by decide +kernel
theorem dX1_coverY_7 : decode cX1_coverY 7 = .ok (.iconst 2, 1) := by decide +kernel
theorem dX1_coverY_8 : decode cX1_coverY 8 = .ok (.irem, 1) := by decide +kernel
theorem dX1_coverY_9 : decode cX1_coverY 9 = .ok (.isub, 1) := by decide +kernel
theorem dX1_coverY_10 : decode cX1_coverY 10 = .ok (.ireturn, 1) := by decide +kernel
theorem dX1_couldCover_0 : decode cX1_couldCover 0 = .ok (.iload_n 1, 1) := by decide +kernel
theorem dX1_couldCover_1 : decode cX1_couldCover 1 = .ok (.iload_n 2, 1) := by decide +kernel
theorem dX1_couldCover_2 : decode cX1_couldCover 2 = .ok (.invokestatic 94, 3) := by decide +kernel
theorem dX1_couldCover_5 : decode cX1_couldCover 5 = .ok (.istore_n 3, 1) := by decide +kernel
theorem dX1_couldCover_6 : decode cX1_couldCover 6 = .ok (.iload_n 1, 1) := by decide +kernel
theorem dX1_couldCover_7 : decode cX1_couldCover 7 = .ok (.iload_n 2, 1) := by decide +kernel
theorem dX1_couldCover_8 : decode cX1_couldCover 8 = .ok (.invokestatic 97, 3) := by decide +kernel
theorem dX1_couldCover_11 : decode cX1_couldCover 11 = .ok (.istore 4, 2) := by decide +kernel
theorem dX1_couldCover_13 : decode cX1_couldCover 13 = .ok (.iload_n 2, 1) := by decide +kernel
theorem dX1_couldCover_14 : decode cX1_couldCover 14 = .ok (.iconst 4, 1) := by decide +kernel
theorem dX1_couldCover_15 : decode cX1_couldCover 15 = .ok (.idiv, 1) := by decide +kernel
theorem dX1_couldCover_16 : decode cX1_couldCover 16 = .ok (.istore 5, 2) := by decide +kernel
theorem dX1_couldCover_18 : decode cX1_couldCover 18 = .ok (.aload_n 0, 1) := by decide +kernel
theorem dX1_couldCover_19 : decode cX1_couldCover 19 = .ok (.iload_n 3, 1) := by decide +kernel
theorem dX1_couldCover_20 : decode cX1_couldCover 20 = .ok (.iload 4, 2) := by decide +kernel
theorem dX1_couldCover_22 : decode cX1_couldCover 22 = .ok (.iload 5, 2) := by decide +kernel
theorem dX1_couldCover_24 : decode cX1_couldCover 24 = .ok (.invokevirtual 91, 3) := by decide +kernel
theorem dX1_couldCover_27 : decode cX1_couldCover 27 = .ok (.ifCond .ne 22, 3) := by decide +kernel
theorem dX1_couldCover_30 : decode cX1_couldCover 30 = .ok (.iload_n 3, 1) := by decide +kernel
theorem dX1_couldCover_31 : decode cX1_couldCover 31 = .ok (.iload 4, 2) := by decide +kernel
theorem dX1_couldCover_33 : decode cX1_couldCover 33 = .ok (.iload 5, 2) := by decide +kernel
theorem dX1_couldCover_35 : decode cX1_couldCover 35 = .ok (.invokestatic 66, 3) := by decide +kernel
theorem dX1_couldCover_38 : decode cX1_couldCover 38 = .ok (.iload_n 1, 1) := by decide +kernel
theorem dX1_couldCover_39 : decode cX1_couldCover 39 = .ok (.invokestatic 100, 3) := by decide +kernel
theorem dX1_couldCover_42 : decode cX1_couldCover 42 = .ok (.ifCond .eq 7, 3) := by decide +kernel
theorem dX1_couldCover_45 : decode cX1_couldCover 45 = .ok (.iconst 1, 1) := by decide +kernel
theorem dX1_couldCover_46 : decode cX1_couldCover 46 = .ok (.goto 4, 3) := by decide +kernel
theorem dX1_couldCover_49 : decode cX1_couldCover 49 = .ok (.iconst 0, 1) := by decide +kernel
theorem dX1_couldCover_50 : decode cX1_couldCover 50 = .ok (.ireturn, 1) := by decide +kernel
theorem dX1_coverCount_0 : decode cX1_coverCount 0 = .ok (.iconst 0, 1) := by decide +kernel
theorem dX1_coverCount_1 : decode cX1_coverCount 1 = .ok (.istore_n 2, 1) := by decide +kernel
theorem dX1_coverCount_2 : decode cX1_coverCount 2 = .ok (.iconst 0, 1) := by decide +kernel
theorem dX1_coverCount_3 : decode cX1_coverCount 3 = .ok (.istore_n 3, 1) := by decide +kernel
theorem dX1_coverCount_4 : decode cX1_coverCount 4 = .ok (.iload_n 3, 1) := by decide +kernel
theorem dX1_coverCount_5 : decode cX1_coverCount 5 = .ok (.bipush 16, 2) := by decide +kernel
theorem dX1_coverCount_7 : decode cX1_coverCount 7 = .ok (.if_icmp .ge 26, 3) := by decide +kernel
theorem dX1_coverCount_10 : decode cX1_coverCount 10 = .ok (.iload_n 2, 1) := by decide +kernel
theorem dX1_coverCount_11 : decode cX1_coverCount 11 = .ok (.aload_n 0, 1) := by decide +kernel
theorem dX1_coverCount_12 : decode cX1_coverCount 12 = .ok (.iload_n 1, 1) := by decide +kernel
theorem dX1_coverCount_13 : decode cX1_coverCount 13 = .ok (.iload_n 3, 1) := by decide +kernel
theorem dX1_coverCount_14 : decode cX1_coverCount 14 = .ok (.invokevirtual 104, 3) := by decide +kernel
theorem dX1_coverCount_17 : decode cX1_coverCount 17 = .ok (.ifCond .eq 7, 3) := by decide +kernel
theorem dX1_coverCount_20 : decode cX1_coverCount 20 = .ok (.iconst 1, 1) := by decide +kernel
theorem dX1_coverCount_21 : decode cX1_coverCount 21 = .ok (.goto 4, 3) := by decide +kernel
theorem dX1_coverCount_24 : decode cX1_coverCount 24 = .ok (.iconst 0, 1) := by decide +kernel
theorem dX1_coverCount_25 : decode cX1_coverCount 25 = .ok (.iadd, 1) := by decide +kernel
theorem dX1_coverCount_26 : decode cX1_coverCount 26 = .ok (.istore_n 2, 1) := by decide +kernel
theorem dX1_coverCount_27 : decode cX1_coverCount 27 = .ok (.iinc 3 1, 3) := by decide +kernel
theorem dX1_coverCount_30 : decode cX1_coverCount 30 = .ok (.goto (-26), 3) := by decide +kernel
theorem dX1_coverCount_33 : decode cX1_coverCount 33 = .ok (.iload_n 2, 1) := by decide +kernel
theorem dX1_coverCount_34 : decode cX1_coverCount 34 = .ok (.ireturn, 1) := by decide +kernel
theorem dX1_firstCover_0 : decode cX1_firstCover 0 = .ok (.iconst 0, 1) := by decide +kernel
theorem dX1_firstCover_1 : decode cX1_firstCover 1 = .ok (.istore_n 2, 1) := by decide +kernel
theorem dX1_firstCover_2 : decode cX1_firstCover 2 = .ok (.iload_n 2, 1) := by decide +kernel
theorem dX1_firstCover_3 : decode cX1_firstCover 3 = .ok (.bipush 16, 2) := by decide +kernel
theorem dX1_firstCover_5 : decode cX1_firstCover 5 = .ok (.if_icmp .ge 35, 3) := by decide +kernel
theorem dX1_firstCover_8 : decode cX1_firstCover 8 = .ok (.aload_n 0, 1) := by decide +kernel
theorem dX1_firstCover_9 : decode cX1_firstCover 9 = .ok (.iload_n 1, 1) := by decide +kernel
theorem dX1_firstCover_10 : decode cX1_firstCover 10 = .ok (.iload_n 2, 1) := by decide +kernel
theorem dX1_firstCover_11 : decode cX1_firstCover 11 = .ok (.invokevirtual 104, 3) := by decide +kernel
theorem dX1_firstCover_14 : decode cX1_firstCover 14 = .ok (.ifCond .eq 20, 3) := by decide +kernel
theorem dX1_firstCover_17 : decode cX1_firstCover 17 = .ok (.iload_n 1, 1) := by decide +kernel
theorem dX1_firstCover_18 : decode cX1_firstCover 18 = .ok (.iload_n 2, 1) := by decide +kernel
theorem dX1_firstCover_19 : decode cX1_firstCover 19 = .ok (.invokestatic 94, 3) := by decide +kernel
theorem dX1_firstCover_22 : decode cX1_firstCover 22 = .ok (.iload_n 1, 1) := by decide +kernel
theorem dX1_firstCover_23 : decode cX1_firstCover 23 = .ok (.iload_n 2, 1) := by decide +kernel
theorem dX1_firstCover_24 : decode cX1_firstCover 24 = .ok (.invokestatic 97, 3) := by decide +kernel
theorem dX1_firstCover_27 : decode cX1_firstCover 27 = .ok (.iload_n 2, 1) := by decide +kernel
theorem dX1_firstCover_28 : decode cX1_firstCover 28 = .ok (.iconst 4, 1) := by decide +kernel
theorem dX1_firstCover_29 : decode cX1_firstCover 29 = .ok (.idiv, 1) := by decide +kernel
theorem dX1_firstCover_30 : decode cX1_firstCover 30 = .ok (.invokestatic 70, 3) := by decide +kernel
theorem dX1_firstCover_33 : decode cX1_firstCover 33 = .ok (.ireturn, 1) := by decide +kernel
theorem dX1_firstCover_34 : decode cX1_firstCover 34 = .ok (.iinc 2 1, 3) := by decide +kernel
theorem dX1_firstCover_37 : decode cX1_firstCover 37 = .ok (.goto (-35), 3) := by decide +kernel
theorem dX1_firstCover_40 : decode cX1_firstCover 40 = .ok (.iconst (-1), 1) := by decide +kernel
theorem dX1_firstCover_41 : decode cX1_firstCover 41 = .ok (.ireturn, 1) := by decide +kernel
theorem dX1_firstFreeWith_0 : decode cX1_firstFreeWith 0 = .ok (.aload_n 0, 1) := by decide +kernel
theorem dX1_firstFreeWith_1 : decode cX1_firstFreeWith 1 = .ok (.invokevirtual 108, 3) := by decide +kernel
theorem dX1_firstFreeWith_4 : decode cX1_firstFreeWith 4 = .ok (.lstore_n 2, 1) := by decide +kernel
theorem dX1_firstFreeWith_5 : decode cX1_firstFreeWith 5 = .ok (.iconst 0, 1) := by decide +kernel
theorem dX1_firstFreeWith_6 : decode cX1_firstFreeWith 6 = .ok (.istore 4, 2) := by decide +kernel
theorem dX1_firstFreeWith_8 : decode cX1_firstFreeWith 8 = .ok (.iload 4, 2) := by decide +kernel
theorem dX1_firstFreeWith_10 : decode cX1_firstFreeWith 10 = .ok (.bipush 64, 2) := by decide +kernel
theorem dX1_firstFreeWith_12 : decode cX1_firstFreeWith 12 = .ok (.if_icmp .ge 31, 3) := by decide +kernel
theorem dX1_firstFreeWith_15 : decode cX1_firstFreeWith 15 = .ok (.lload_n 2, 1) := by decide +kernel
theorem dX1_firstFreeWith_16 : decode cX1_firstFreeWith 16 = .ok (.iload 4, 2) := by decide +kernel
theorem dX1_firstFreeWith_18 : decode cX1_firstFreeWith 18 = .ok (.invokestatic 100, 3) := by decide +kernel
theorem dX1_firstFreeWith_21 : decode cX1_firstFreeWith 21 = .ok (.ifCond .eq 16, 3) := by decide +kernel
theorem dX1_firstFreeWith_24 : decode cX1_firstFreeWith 24 = .ok (.aload_n 0, 1) := by decide +kernel
theorem dX1_firstFreeWith_25 : decode cX1_firstFreeWith 25 = .ok (.iload 4, 2) := by decide +kernel
theorem dX1_firstFreeWith_27 : decode cX1_firstFreeWith 27 = .ok (.invokevirtual 111, 3) := by decide +kernel
theorem dX1_firstFreeWith_30 : decode cX1_firstFreeWith 30 = .ok (.iload_n 1, 1) := by decide +kernel
theorem dX1_firstFreeWith_31 : decode cX1_firstFreeWith 31 = .ok (.if_icmp .ne 6, 3) := by decide +kernel
theorem dX1_firstFreeWith_34 : decode cX1_firstFreeWith 34 = .ok (.iload 4, 2) := by decide +kernel
theorem dX1_firstFreeWith_36 : decode cX1_firstFreeWith 36 = .ok (.ireturn, 1) := by decide +kernel
theorem dX1_firstFreeWith_37 : decode cX1_firstFreeWith 37 = .ok (.iinc 4 1, 3) := by decide +kernel
theorem dX1_firstFreeWith_40 : decode cX1_firstFreeWith 40 = .ok (.goto (-32), 3) := by decide +kernel
theorem dX1_firstFreeWith_43 : decode cX1_firstFreeWith 43 = .ok (.iconst (-1), 1) := by decide +kernel
theorem dX1_firstFreeWith_44 : decode cX1_firstFreeWith 44 = .ok (.ireturn, 1) := by decide +kernel
theorem dX1_hasFlipBlock_0 : decode cX1_hasFlipBlock 0 = .ok (.aload_n 0, 1) := by decide +kernel
theorem dX1_hasFlipBlock_1 : decode cX1_hasFlipBlock 1 = .ok (.iload_n 1, 1) := by decide +kernel
theorem dX1_hasFlipBlock_2 : decode cX1_hasFlipBlock 2 = .ok (.iload_n 2, 1) := by decide +kernel
theorem dX1_hasFlipBlock_3 : decode cX1_hasFlipBlock 3 = .ok (.iload_n 3, 1) := by decide +kernel
theorem dX1_hasFlipBlock_4 : decode cX1_hasFlipBlock 4 = .ok (.ifCond .eq 7, 3) := by decide +kernel
theorem dX1_hasFlipBlock_7 : decode cX1_hasFlipBlock 7 = .ok (.iconst 2, 1) := by decide +kernel
theorem dX1_hasFlipBlock_8 : decode cX1_hasFlipBlock 8 = .ok (.goto 4, 3) := by decide +kernel
theorem dX1_hasFlipBlock_11 : decode cX1_hasFlipBlock 11 = .ok (.iconst 3, 1) := by decide +kernel
theorem dX1_hasFlipBlock_12 : decode cX1_hasFlipBlock 12 = .ok (.iload_n 3, 1) := by decide +kernel
theorem dX1_hasFlipBlock_13 : decode cX1_hasFlipBlock 13 = .ok (.ifCond .eq 7, 3) := by decide +kernel
theorem dX1_hasFlipBlock_16 : decode cX1_hasFlipBlock 16 = .ok (.iconst 3, 1) := by decide +kernel
theorem dX1_hasFlipBlock_17 : decode cX1_hasFlipBlock 17 = .ok (.goto 4, 3) := by decide +kernel
theorem dX1_hasFlipBlock_20 : decode cX1_hasFlipBlock 20 = .ok (.iconst 2, 1) := by decide +kernel
theorem dX1_hasFlipBlock_21 : decode cX1_hasFlipBlock 21 = .ok (.invokevirtual 62, 3) := by decide +kernel
theorem dX1_hasFlipBlock_24 : decode cX1_hasFlipBlock 24 = .ok (.ireturn, 1) := by decide +kernel
theorem dX1_isFlippable_0 : decode cX1_isFlippable 0 = .ok (.aload_n 0, 1) := by decide +kernel
theorem dX1_isFlippable_1 : decode cX1_isFlippable 1 = .ok (.iload_n 1, 1) := by decide +kernel
theorem dX1_isFlippable_2 : decode cX1_isFlippable 2 = .ok (.iload_n 2, 1) := by decide +kernel
theorem dX1_isFlippable_3 : decode cX1_isFlippable 3 = .ok (.invokestatic 114, 3) := by decide +kernel
theorem dX1_isFlippable_6 : decode cX1_isFlippable 6 = .ok (.invokevirtual 118, 3) := by decide +kernel
theorem dX1_isFlippable_9 : decode cX1_isFlippable 9 = .ok (.istore 4, 2) := by decide +kernel
theorem dX1_isFlippable_11 : decode cX1_isFlippable 11 = .ok (.aload_n 0, 1) := by decide +kernel
theorem dX1_isFlippable_12 : decode cX1_isFlippable 12 = .ok (.iload_n 1, 1) := by decide +kernel
theorem dX1_isFlippable_13 : decode cX1_isFlippable 13 = .ok (.iload_n 2, 1) := by decide +kernel
theorem dX1_isFlippable_14 : decode cX1_isFlippable 14 = .ok (.iload_n 3, 1) := by decide +kernel
theorem dX1_isFlippable_15 : decode cX1_isFlippable 15 = .ok (.invokestatic 122, 3) := by decide +kernel
theorem dX1_isFlippable_18 : decode cX1_isFlippable 18 = .ok (.invokevirtual 118, 3) := by decide +kernel
theorem dX1_isFlippable_21 : decode cX1_isFlippable 21 = .ok (.istore 5, 2) := by decide +kernel
theorem dX1_isFlippable_23 : decode cX1_isFlippable 23 = .ok (.iload 4, 2) := by decide +kernel
theorem dX1_isFlippable_25 : decode cX1_isFlippable 25 = .ok (.iconst (-1), 1) := by decide +kernel
theorem dX1_isFlippable_26 : decode cX1_isFlippable 26 = .ok (.if_icmp .eq 9, 3) := by decide +kernel
theorem dX1_isFlippable_29 : decode cX1_isFlippable 29 = .ok (.iload 5, 2) := by decide +kernel
theorem dX1_isFlippable_31 : decode cX1_isFlippable 31 = .ok (.iconst (-1), 1) := by decide +kernel
theorem dX1_isFlippable_32 : decode cX1_isFlippable 32 = .ok (.if_icmp .ne 5, 3) := by decide +kernel
theorem dX1_isFlippable_35 : decode cX1_isFlippable 35 = .ok (.iconst 0, 1) := by decide +kernel
theorem dX1_isFlippable_36 : decode cX1_isFlippable 36 = .ok (.ireturn, 1) := by decide +kernel
theorem dX1_isFlippable_37 : decode cX1_isFlippable 37 = .ok (.iload_n 1, 1) := by decide +kernel
theorem dX1_isFlippable_38 : decode cX1_isFlippable 38 = .ok (.iload_n 2, 1) := by decide +kernel
theorem dX1_isFlippable_39 : decode cX1_isFlippable 39 = .ok (.iload_n 3, 1) := by decide +kernel
theorem dX1_isFlippable_40 : decode cX1_isFlippable 40 = .ok (.ifCond .eq 7, 3) := by decide +kernel
theorem dX1_isFlippable_43 : decode cX1_isFlippable 43 = .ok (.iconst 2, 1) := by decide +kernel
theorem dX1_isFlippable_44 : decode cX1_isFlippable 44 = .ok (.goto 4, 3) := by decide +kernel
theorem dX1_isFlippable_47 : decode cX1_isFlippable 47 = .ok (.iconst 3, 1) := by decide +kernel
theorem dX1_isFlippable_48 : decode cX1_isFlippable 48 = .ok (.iload_n 3, 1) := by decide +kernel
theorem dX1_isFlippable_49 : decode cX1_isFlippable 49 = .ok (.ifCond .eq 7, 3) := by decide +kernel
theorem dX1_isFlippable_52 : decode cX1_isFlippable 52 = .ok (.iconst 3, 1) := by decide +kernel
theorem dX1_isFlippable_53 : decode cX1_isFlippable 53 = .ok (.goto 4, 3) := by decide +kernel
theorem dX1_isFlippable_56 : decode cX1_isFlippable 56 = .ok (.iconst 2, 1) := by decide +kernel
theorem dX1_isFlippable_57 : decode cX1_isFlippable 57 = .ok (.invokestatic 48, 3) := by decide +kernel
theorem dX1_isFlippable_60 : decode cX1_isFlippable 60 = .ok (.lstore 6, 2) := by decide +kernel
theorem dX1_isFlippable_62 : decode cX1_isFlippable 62 = .ok (.aload_n 0, 1) := by decide +kernel
theorem dX1_isFlippable_63 : decode cX1_isFlippable 63 = .ok (.iload 4, 2) := by decide +kernel
theorem dX1_isFlippable_65 : decode cX1_isFlippable 65 = .ok (.invokevirtual 74, 3) := by decide +kernel
theorem dX1_isFlippable_68 : decode cX1_isFlippable 68 = .ok (.aload_n 0, 1) := by decide +kernel
theorem dX1_isFlippable_69 : decode cX1_isFlippable 69 = .ok (.iload 5, 2) := by decide +kernel
theorem dX1_isFlippable_71 : decode cX1_isFlippable 71 = .ok (.invokevirtual 74, 3) := by decide +kernel
theorem dX1_isFlippable_74 : decode cX1_isFlippable 74 = .ok (.lor, 1) := by decide +kernel
theorem dX1_isFlippable_75 : decode cX1_isFlippable 75 = .ok (.lload 6, 2) := by decide +kernel
theorem dX1_isFlippable_77 : decode cX1_isFlippable 77 = .ok (.lcmp, 1) := by decide +kernel
theorem dX1_isFlippable_78 : decode cX1_isFlippable 78 = .ok (.ifCond .ne 7, 3) := by decide +kernel
theorem dX1_isFlippable_81 : decode cX1_isFlippable 81 = .ok (.iconst 1, 1) := by decide +kernel
theorem dX1_isFlippable_82 : decode cX1_isFlippable 82 = .ok (.goto 4, 3) := by decide +kernel
theorem dX1_isFlippable_85 : decode cX1_isFlippable 85 = .ok (.iconst 0, 1) := by decide +kernel
theorem dX1_isFlippable_86 : decode cX1_isFlippable 86 = .ok (.ireturn, 1) := by decide +kernel
theorem dX1_lastFlipCell_0 : decode cX1_lastFlipCell 0 = .ok (.iload_n 2, 1) := by decide +kernel
theorem dX1_lastFlipCell_1 : decode cX1_lastFlipCell 1 = .ok (.ifCond .eq 15, 3) := by decide +kernel
theorem dX1_lastFlipCell_4 : decode cX1_lastFlipCell 4 = .ok (.iload_n 0, 1) := by decide +kernel
theorem dX1_lastFlipCell_5 : decode cX1_lastFlipCell 5 = .ok (.iconst 1, 1) := by decide +kernel
theorem dX1_lastFlipCell_6 : decode cX1_lastFlipCell 6 = .ok (.iadd, 1) := by decide +kernel
theorem dX1_lastFlipCell_7 : decode cX1_lastFlipCell 7 = .ok (.iload_n 1, 1) := by decide +kernel
theorem dX1_lastFlipCell_8 : decode cX1_lastFlipCell 8 = .ok (.iconst 2, 1) := by decide +kernel
theorem dX1_lastFlipCell_9 : decode cX1_lastFlipCell 9 = .ok (.iadd, 1) := by decide +kernel
theorem dX1_lastFlipCell_10 : decode cX1_lastFlipCell 10 = .ok (.invokestatic 114, 3) := by decide +kernel
theorem dX1_lastFlipCell_13 : decode cX1_lastFlipCell 13 = .ok (.goto 12, 3) := by decide +kernel
theorem dX1_lastFlipCell_16 : decode cX1_lastFlipCell 16 = .ok (.iload_n 0, 1) := by decide +kernel
theorem dX1_lastFlipCell_17 : decode cX1_lastFlipCell 17 = .ok (.iconst 2, 1) := by decide +kernel
theorem dX1_lastFlipCell_18 : decode cX1_lastFlipCell 18 = .ok (.iadd, 1) := by decide +kernel
theorem dX1_lastFlipCell_19 : decode cX1_lastFlipCell 19 = .ok (.iload_n 1, 1) := by decide +kernel
theorem dX1_lastFlipCell_20 : decode cX1_lastFlipCell 20 = .ok (.iconst 1, 1) := by decide +kernel
theorem dX1_lastFlipCell_21 : decode cX1_lastFlipCell 21 = .ok (.iadd, 1) := by decide +kernel
theorem dX1_lastFlipCell_22 : decode cX1_lastFlipCell 22 = .ok (.invokestatic 114, 3) := by decide +kernel
theorem dX1_lastFlipCell_25 : decode cX1_lastFlipCell 25 = .ok (.lreturn, 1) := by decide +kernel
theorem dX1_flipBlock_0 : decode cX1_flipBlock 0 = .ok (.aload_n 0, 1) := by decide +kernel
theorem dX1_flipBlock_1 : decode cX1_flipBlock 1 = .ok (.iload_n 1, 1) := by decide +kernel
theorem dX1_flipBlock_2 : decode cX1_flipBlock 2 = .ok (.iload_n 2, 1) := by decide +kernel
theorem dX1_flipBlock_3 : decode cX1_flipBlock 3 = .ok (.invokestatic 114, 3) := by decide +kernel
theorem dX1_flipBlock_6 : decode cX1_flipBlock 6 = .ok (.invokevirtual 118, 3) := by decide +kernel
theorem dX1_flipBlock_9 : decode cX1_flipBlock 9 = .ok (.istore 4, 2) := by decide +kernel
theorem dX1_flipBlock_11 : decode cX1_flipBlock 11 = .ok (.aload_n 0, 1) := by decide +kernel
theorem dX1_flipBlock_12 : decode cX1_flipBlock 12 = .ok (.iload_n 1, 1) := by decide +kernel
theorem dX1_flipBlock_13 : decode cX1_flipBlock 13 = .ok (.iload_n 2, 1) := by decide +kernel
theorem dX1_flipBlock_14 : decode cX1_flipBlock 14 = .ok (.iload_n 3, 1) := by decide +kernel
theorem dX1_flipBlock_15 : decode cX1_flipBlock 15 = .ok (.invokestatic 122, 3) := by decide +kernel
theorem dX1_flipBlock_18 : decode cX1_flipBlock 18 = .ok (.invokevirtual 118, 3) := by decide +kernel
theorem dX1_flipBlock_21 : decode cX1_flipBlock 21 = .ok (.istore 5, 2) := by decide +kernel
theorem dX1_flipBlock_23 : decode cX1_flipBlock 23 = .ok (.iload_n 3, 1) := by decide +kernel
theorem dX1_flipBlock_24 : decode cX1_flipBlock 24 = .ok (.ifCond .eq 7, 3) := by decide +kernel
theorem dX1_flipBlock_27 : decode cX1_flipBlock 27 = .ok (.iconst 5, 1) := by decide +kernel
theorem dX1_flipBlock_28 : decode cX1_flipBlock 28 = .ok (.goto 4, 3) := by decide +kernel
theorem dX1_flipBlock_31 : decode cX1_flipBlock 31 = .ok (.iconst 3, 1) := by decide +kernel
theorem dX1_flipBlock_32 : decode cX1_flipBlock 32 = .ok (.aload_n 0, 1) := by decide +kernel
theorem dX1_flipBlock_33 : decode cX1_flipBlock 33 = .ok (.iload 4, 2) := by decide +kernel
theorem dX1_flipBlock_35 : decode cX1_flipBlock 35 = .ok (.invokevirtual 78, 3) := by decide +kernel
theorem dX1_flipBlock_38 : decode cX1_flipBlock 38 = .ok (.invokestatic 88, 3) := by decide +kernel
theorem dX1_flipBlock_41 : decode cX1_flipBlock 41 = .ok (.isub, 1) := by decide +kernel
theorem dX1_flipBlock_42 : decode cX1_flipBlock 42 = .ok (.istore 6, 2) := by decide +kernel
theorem dX1_flipBlock_44 : decode cX1_flipBlock 44 = .ok (.aload_n 0, 1) := by decide +kernel
theorem dX1_flipBlock_45 : decode cX1_flipBlock 45 = .ok (.iload 4, 2) := by decide +kernel
theorem dX1_flipBlock_47 : decode cX1_flipBlock 47 = .ok (.iload 5, 2) := by decide +kernel
theorem dX1_flipBlock_49 : decode cX1_flipBlock 49 = .ok (.invokestatic 126, 3) := by decide +kernel
theorem dX1_flipBlock_52 : decode cX1_flipBlock 52 = .ok (.invokevirtual 131, 3) := by decide +kernel
theorem dX1_flipBlock_55 : decode cX1_flipBlock 55 = .ok (.aload_n 0, 1) := by decide +kernel
theorem dX1_flipBlock_56 : decode cX1_flipBlock 56 = .ok (.iload 4, 2) := by decide +kernel
theorem dX1_flipBlock_58 : decode cX1_flipBlock 58 = .ok (.iload 5, 2) := by decide +kernel
theorem dX1_flipBlock_60 : decode cX1_flipBlock 60 = .ok (.invokestatic 135, 3) := by decide +kernel
theorem dX1_flipBlock_63 : decode cX1_flipBlock 63 = .ok (.invokevirtual 131, 3) := by decide +kernel
theorem dX1_flipBlock_66 : decode cX1_flipBlock 66 = .ok (.aload_n 0, 1) := by decide +kernel
theorem dX1_flipBlock_67 : decode cX1_flipBlock 67 = .ok (.iload_n 1, 1) := by decide +kernel
theorem dX1_flipBlock_68 : decode cX1_flipBlock 68 = .ok (.iload_n 2, 1) := by decide +kernel
theorem dX1_flipBlock_69 : decode cX1_flipBlock 69 = .ok (.iload 6, 2) := by decide +kernel
theorem dX1_flipBlock_71 : decode cX1_flipBlock 71 = .ok (.invokevirtual 138, 3) := by decide +kernel
theorem dX1_flipBlock_74 : decode cX1_flipBlock 74 = .ok (.aload_n 0, 1) := by decide +kernel
theorem dX1_flipBlock_75 : decode cX1_flipBlock 75 = .ok (.iload_n 3, 1) := by decide +kernel
theorem dX1_flipBlock_76 : decode cX1_flipBlock 76 = .ok (.ifCond .eq 7, 3) := by decide +kernel
theorem dX1_flipBlock_79 : decode cX1_flipBlock 79 = .ok (.iload_n 1, 1) := by decide +kernel
theorem dX1_flipBlock_80 : decode cX1_flipBlock 80 = .ok (.goto 6, 3) := by decide +kernel
theorem dX1_flipBlock_83 : decode cX1_flipBlock 83 = .ok (.iload_n 1, 1) := by decide +kernel
theorem dX1_flipBlock_84 : decode cX1_flipBlock 84 = .ok (.iconst 1, 1) := by decide +kernel
theorem dX1_flipBlock_85 : decode cX1_flipBlock 85 = .ok (.iadd, 1) := by decide +kernel
theorem dX1_flipBlock_86 : decode cX1_flipBlock 86 = .ok (.iload_n 3, 1) := by decide +kernel
theorem dX1_flipBlock_87 : decode cX1_flipBlock 87 = .ok (.ifCond .eq 9, 3) := by decide +kernel
theorem dX1_flipBlock_90 : decode cX1_flipBlock 90 = .ok (.iload_n 2, 1) := by decide +kernel
theorem dX1_flipBlock_91 : decode cX1_flipBlock 91 = .ok (.iconst 1, 1) := by decide +kernel
theorem dX1_flipBlock_92 : decode cX1_flipBlock 92 = .ok (.iadd, 1) := by decide +kernel
theorem dX1_flipBlock_93 : decode cX1_flipBlock 93 = .ok (.goto 4, 3) := by decide +kernel
theorem dX1_flipBlock_96 : decode cX1_flipBlock 96 = .ok (.iload_n 2, 1) := by decide +kernel
theorem dX1_flipBlock_97 : decode cX1_flipBlock 97 = .ok (.iload 6, 2) := by decide +kernel
theorem dX1_flipBlock_99 : decode cX1_flipBlock 99 = .ok (.iconst 2, 1) := by decide +kernel
theorem dX1_flipBlock_100 : decode cX1_flipBlock 100 = .ok (.iadd, 1) := by decide +kernel
theorem dX1_flipBlock_101 : decode cX1_flipBlock 101 = .ok (.iconst 4, 1) := by decide +kernel
theorem dX1_flipBlock_102 : decode cX1_flipBlock 102 = .ok (.irem, 1) := by decide +kernel
theorem dX1_flipBlock_103 : decode cX1_flipBlock 103 = .ok (.invokevirtual 138, 3) := by decide +kernel
theorem dX1_flipBlock_106 : decode cX1_flipBlock 106 = .ok (.aload_n 0, 1) := by decide +kernel
theorem dX1_flipBlock_107 : decode cX1_flipBlock 107 = .ok (.dup, 1) := by decide +kernel
theorem dX1_flipBlock_108 : decode cX1_flipBlock 108 = .ok (.getfield 31, 3) := by decide +kernel
theorem dX1_flipBlock_111 : decode cX1_flipBlock 111 = .ok (.iconst 1, 1) := by decide +kernel
theorem dX1_flipBlock_112 : decode cX1_flipBlock 112 = .ok (.iadd, 1) := by decide +kernel
theorem dX1_flipBlock_113 : decode cX1_flipBlock 113 = .ok (.putfield 31, 3) := by decide +kernel
theorem dX1_flipBlock_116 : decode cX1_flipBlock 116 = .ok (.return_, 1) := by decide +kernel
theorem dX1_flippableBlocks_0 : decode cX1_flippableBlocks 0 = .ok (.iconst 0, 1) := by decide +kernel
theorem dX1_flippableBlocks_1 : decode cX1_flippableBlocks 1 = .ok (.istore_n 1, 1) := by decide +kernel
theorem dX1_flippableBlocks_2 : decode cX1_flippableBlocks 2 = .ok (.iconst 0, 1) := by decide +kernel
theorem dX1_flippableBlocks_3 : decode cX1_flippableBlocks 3 = .ok (.istore_n 2, 1) := by decide +kernel
theorem dX1_flippableBlocks_4 : decode cX1_flippableBlocks 4 = .ok (.iload_n 2, 1) := by decide +kernel
theorem dX1_flippableBlocks_5 : decode cX1_flippableBlocks 5 = .ok (.aload_n 0, 1) := by decide +kernel
theorem dX1_flippableBlocks_6 : decode cX1_flippableBlocks 6 = .ok (.getfield 15, 3) := by decide +kernel
theorem dX1_flippableBlocks_9 : decode cX1_flippableBlocks 9 = .ok (.if_icmp .ge 81, 3) := by decide +kernel
theorem dX1_flippableBlocks_12 : decode cX1_flippableBlocks 12 = .ok (.iconst 0, 1) := by decide +kernel
theorem dX1_flippableBlocks_13 : decode cX1_flippableBlocks 13 = .ok (.istore_n 3, 1) := by decide +kernel
theorem dX1_flippableBlocks_14 : decode cX1_flippableBlocks 14 = .ok (.iload_n 3, 1) := by decide +kernel
theorem dX1_flippableBlocks_15 : decode cX1_flippableBlocks 15 = .ok (.aload_n 0, 1) := by decide +kernel
theorem dX1_flippableBlocks_16 : decode cX1_flippableBlocks 16 = .ok (.getfield 9, 3) := by decide +kernel
theorem dX1_flippableBlocks_19 : decode cX1_flippableBlocks 19 = .ok (.if_icmp .ge 65, 3) := by decide +kernel
theorem dX1_flippableBlocks_22 : decode cX1_flippableBlocks 22 = .ok (.iload_n 1, 1) := by decide +kernel
theorem dX1_flippableBlocks_23 : decode cX1_flippableBlocks 23 = .ok (.aload_n 0, 1) := by decide +kernel
theorem dX1_flippableBlocks_24 : decode cX1_flippableBlocks 24 = .ok (.iload_n 3, 1) := by decide +kernel
theorem dX1_flippableBlocks_25 : decode cX1_flippableBlocks 25 = .ok (.iload_n 2, 1) := by decide +kernel
theorem dX1_flippableBlocks_26 : decode cX1_flippableBlocks 26 = .ok (.iconst 1, 1) := by decide +kernel
theorem dX1_flippableBlocks_27 : decode cX1_flippableBlocks 27 = .ok (.invokevirtual 142, 3) := by decide +kernel
theorem dX1_flippableBlocks_30 : decode cX1_flippableBlocks 30 = .ok (.ifCond .eq 17, 3) := by decide +kernel
theorem dX1_flippableBlocks_33 : decode cX1_flippableBlocks 33 = .ok (.aload_n 0, 1) := by decide +kernel
theorem dX1_flippableBlocks_34 : decode cX1_flippableBlocks 34 = .ok (.iload_n 3, 1) := by decide +kernel
theorem dX1_flippableBlocks_35 : decode cX1_flippableBlocks 35 = .ok (.iload_n 2, 1) := by decide +kernel
theorem dX1_flippableBlocks_36 : decode cX1_flippableBlocks 36 = .ok (.iconst 1, 1) := by decide +kernel
theorem dX1_flippableBlocks_37 : decode cX1_flippableBlocks 37 = .ok (.invokevirtual 146, 3) := by decide +kernel
theorem dX1_flippableBlocks_40 : decode cX1_flippableBlocks 40 = .ok (.ifCond .eq 7, 3) := by decide +kernel
theorem dX1_flippableBlocks_43 : decode cX1_flippableBlocks 43 = .ok (.iconst 1, 1) := by decide +kernel
theorem dX1_flippableBlocks_44 : decode cX1_flippableBlocks 44 = .ok (.goto 4, 3) := by decide +kernel
theorem dX1_flippableBlocks_47 : decode cX1_flippableBlocks 47 = .ok (.iconst 0, 1) := by decide +kernel
theorem dX1_flippableBlocks_48 : decode cX1_flippableBlocks 48 = .ok (.iadd, 1) := by decide +kernel
theorem dX1_flippableBlocks_49 : decode cX1_flippableBlocks 49 = .ok (.istore_n 1, 1) := by decide +kernel
theorem dX1_flippableBlocks_50 : decode cX1_flippableBlocks 50 = .ok (.iload_n 1, 1) := by decide +kernel
theorem dX1_flippableBlocks_51 : decode cX1_flippableBlocks 51 = .ok (.aload_n 0, 1) := by decide +kernel
theorem dX1_flippableBlocks_52 : decode cX1_flippableBlocks 52 = .ok (.iload_n 3, 1) := by decide +kernel
theorem dX1_flippableBlocks_53 : decode cX1_flippableBlocks 53 = .ok (.iload_n 2, 1) := by decide +kernel
theorem dX1_flippableBlocks_54 : decode cX1_flippableBlocks 54 = .ok (.iconst 0, 1) := by decide +kernel
theorem dX1_flippableBlocks_55 : decode cX1_flippableBlocks 55 = .ok (.invokevirtual 142, 3) := by decide +kernel
theorem dX1_flippableBlocks_58 : decode cX1_flippableBlocks 58 = .ok (.ifCond .eq 17, 3) := by decide +kernel
theorem dX1_flippableBlocks_61 : decode cX1_flippableBlocks 61 = .ok (.aload_n 0, 1) := by decide +kernel
theorem dX1_flippableBlocks_62 : decode cX1_flippableBlocks 62 = .ok (.iload_n 3, 1) := by decide +kernel
theorem dX1_flippableBlocks_63 : decode cX1_flippableBlocks 63 = .ok (.iload_n 2, 1) := by decide +kernel
theorem dX1_flippableBlocks_64 : decode cX1_flippableBlocks 64 = .ok (.iconst 0, 1) := by decide +kernel
theorem dX1_flippableBlocks_65 : decode cX1_flippableBlocks 65 = .ok (.invokevirtual 146, 3) := by decide +kernel
theorem dX1_flippableBlocks_68 : decode cX1_flippableBlocks 68 = .ok (.ifCond .eq 7, 3) := by decide +kernel
theorem dX1_flippableBlocks_71 : decode cX1_flippableBlocks 71 = .ok (.iconst 1, 1) := by decide +kernel
theorem dX1_flippableBlocks_72 : decode cX1_flippableBlocks 72 = .ok (.goto 4, 3) := by decide +kernel
theorem dX1_flippableBlocks_75 : decode cX1_flippableBlocks 75 = .ok (.iconst 0, 1) := by decide +kernel
theorem dX1_flippableBlocks_76 : decode cX1_flippableBlocks 76 = .ok (.iadd, 1) := by decide +kernel
theorem dX1_flippableBlocks_77 : decode cX1_flippableBlocks 77 = .ok (.istore_n 1, 1) := by decide +kernel
theorem dX1_flippableBlocks_78 : decode cX1_flippableBlocks 78 = .ok (.iinc 3 1, 3) := by decide +kernel
theorem dX1_flippableBlocks_81 : decode cX1_flippableBlocks 81 = .ok (.goto (-67), 3) := by decide +kernel
theorem dX1_flippableBlocks_84 : decode cX1_flippableBlocks 84 = .ok (.iinc 2 1, 3) := by decide +kernel
theorem dX1_flippableBlocks_87 : decode cX1_flippableBlocks 87 = .ok (.goto (-83), 3) := by decide +kernel
theorem dX1_flippableBlocks_90 : decode cX1_flippableBlocks 90 = .ok (.iload_n 1, 1) := by decide +kernel
theorem dX1_flippableBlocks_91 : decode cX1_flippableBlocks 91 = .ok (.ireturn, 1) := by decide +kernel
theorem dX1_isHalvable_0 : decode cX1_isHalvable 0 = .ok (.aload_n 0, 1) := by decide +kernel
theorem dX1_isHalvable_1 : decode cX1_isHalvable 1 = .ok (.getfield 9, 3) := by decide +kernel
theorem dX1_isHalvable_4 : decode cX1_isHalvable 4 = .ok (.iconst 2, 1) := by decide +kernel
theorem dX1_isHalvable_5 : decode cX1_isHalvable 5 = .ok (.if_icmp .eq 20, 3) := by decide +kernel
theorem dX1_isHalvable_8 : decode cX1_isHalvable 8 = .ok (.aload_n 0, 1) := by decide +kernel
theorem dX1_isHalvable_9 : decode cX1_isHalvable 9 = .ok (.getfield 9, 3) := by decide +kernel
theorem dX1_isHalvable_12 : decode cX1_isHalvable 12 = .ok (.iconst 4, 1) := by decide +kernel
theorem dX1_isHalvable_13 : decode cX1_isHalvable 13 = .ok (.if_icmp .eq 12, 3) := by decide +kernel
theorem dX1_isHalvable_16 : decode cX1_isHalvable 16 = .ok (.aload_n 0, 1) := by decide +kernel
theorem dX1_isHalvable_17 : decode cX1_isHalvable 17 = .ok (.getfield 9, 3) := by decide +kernel
theorem dX1_isHalvable_20 : decode cX1_isHalvable 20 = .ok (.bipush 8, 2) := by decide +kernel
theorem dX1_isHalvable_22 : decode cX1_isHalvable 22 = .ok (.if_icmp .ne 7, 3) := by decide +kernel
theorem dX1_isHalvable_25 : decode cX1_isHalvable 25 = .ok (.iconst 1, 1) := by decide +kernel
theorem dX1_isHalvable_26 : decode cX1_isHalvable 26 = .ok (.goto 4, 3) := by decide +kernel
theorem dX1_isHalvable_29 : decode cX1_isHalvable 29 = .ok (.iconst 0, 1) := by decide +kernel
theorem dX1_isHalvable_30 : decode cX1_isHalvable 30 = .ok (.istore_n 1, 1) := by decide +kernel
theorem dX1_isHalvable_31 : decode cX1_isHalvable 31 = .ok (.iload_n 1, 1) := by decide +kernel
theorem dX1_isHalvable_32 : decode cX1_isHalvable 32 = .ok (.ifCond .eq 34, 3) := by decide +kernel
theorem dX1_isHalvable_35 : decode cX1_isHalvable 35 = .ok (.aload_n 0, 1) := by decide +kernel
theorem dX1_isHalvable_36 : decode cX1_isHalvable 36 = .ok (.getfield 9, 3) := by decide +kernel
theorem dX1_isHalvable_39 : decode cX1_isHalvable 39 = .ok (.aload_n 0, 1) := by decide +kernel
theorem dX1_isHalvable_40 : decode cX1_isHalvable 40 = .ok (.getfield 15, 3) := by decide +kernel
theorem dX1_isHalvable_43 : decode cX1_isHalvable 43 = .ok (.if_icmp .ne 23, 3) := by decide +kernel
theorem dX1_isHalvable_46 : decode cX1_isHalvable 46 = .ok (.aload_n 0, 1) := by decide +kernel
theorem dX1_isHalvable_47 : decode cX1_isHalvable 47 = .ok (.getfield 21, 3) := by decide +kernel
theorem dX1_isHalvable_50 : decode cX1_isHalvable 50 = .ok (.lconst 0, 1) := by decide +kernel
theorem dX1_isHalvable_51 : decode cX1_isHalvable 51 = .ok (.lcmp, 1) := by decide +kernel
theorem dX1_isHalvable_52 : decode cX1_isHalvable 52 = .ok (.ifCond .ne 14, 3) := by decide +kernel
theorem dX1_isHalvable_55 : decode cX1_isHalvable 55 = .ok (.aload_n 0, 1) := by decide +kernel
theorem dX1_isHalvable_56 : decode cX1_isHalvable 56 = .ok (.getfield 28, 3) := by decide +kernel
theorem dX1_isHalvable_59 : decode cX1_isHalvable 59 = .ok (.ifCond .ne 7, 3) := by decide +kernel
theorem dX1_isHalvable_62 : decode cX1_isHalvable 62 = .ok (.iconst 1, 1) := by decide +kernel
theorem dX1_isHalvable_63 : decode cX1_isHalvable 63 = .ok (.goto 4, 3) := by decide +kernel
theorem dX1_isHalvable_66 : decode cX1_isHalvable 66 = .ok (.iconst 0, 1) := by decide +kernel
theorem dX1_isHalvable_67 : decode cX1_isHalvable 67 = .ok (.ireturn, 1) := by decide +kernel
theorem dX1_paveSquares_0 : decode cX1_paveSquares 0 = .ok (.aload_n 0, 1) := by decide +kernel
theorem dX1_paveSquares_1 : decode cX1_paveSquares 1 = .ok (.iconst 0, 1) := by decide +kernel
theorem dX1_paveSquares_2 : decode cX1_paveSquares 2 = .ok (.iconst 0, 1) := by decide +kernel
theorem dX1_paveSquares_3 : decode cX1_paveSquares 3 = .ok (.aload_n 0, 1) := by decide +kernel
theorem dX1_paveSquares_4 : decode cX1_paveSquares 4 = .ok (.getfield 9, 3) := by decide +kernel
theorem dX1_paveSquares_7 : decode cX1_paveSquares 7 = .ok (.aload_n 0, 1) := by decide +kernel
theorem dX1_paveSquares_8 : decode cX1_paveSquares 8 = .ok (.getfield 18, 3) := by decide +kernel
theorem dX1_paveSquares_11 : decode cX1_paveSquares 11 = .ok (.invokestatic 149, 3) := by decide +kernel
theorem dX1_paveSquares_14 : decode cX1_paveSquares 14 = .ok (.return_, 1) := by decide +kernel
theorem dX1_paveSquare_0 : decode cX1_paveSquare 0 = .ok (.iload_n 3, 1) := by decide +kernel
theorem dX1_paveSquare_1 : decode cX1_paveSquare 1 = .ok (.iconst 2, 1) := by decide +kernel
theorem dX1_paveSquare_2 : decode cX1_paveSquare 2 = .ok (.if_icmp .lt 9, 3) := by decide +kernel
theorem dX1_paveSquare_5 : decode cX1_paveSquare 5 = .ok (.iload_n 3, 1) := by decide +kernel
theorem dX1_paveSquare_6 : decode cX1_paveSquare 6 = .ok (.bipush 8, 2) := by decide +kernel
theorem dX1_paveSquare_8 : decode cX1_paveSquare 8 = .ok (.if_icmp .le 4, 3) := by decide +kernel
theorem dX1_paveSquare_11 : decode cX1_paveSquare 11 = .ok (.return_, 1) := by decide +kernel
theorem dX1_paveSquare_12 : decode cX1_paveSquare 12 = .ok (.iload_n 3, 1) := by decide +kernel
theorem dX1_paveSquare_13 : decode cX1_paveSquare 13 = .ok (.iconst 2, 1) := by decide +kernel
theorem dX1_paveSquare_14 : decode cX1_paveSquare 14 = .ok (.idiv, 1) := by decide +kernel
theorem dX1_paveSquare_15 : decode cX1_paveSquare 15 = .ok (.istore 5, 2) := by decide +kernel
theorem dX1_paveSquare_17 : decode cX1_paveSquare 17 = .ok (.iload 4, 2) := by decide +kernel
theorem dX1_paveSquare_19 : decode cX1_paveSquare 19 = .ok (.bipush 8, 2) := by decide +kernel
theorem dX1_paveSquare_21 : decode cX1_paveSquare 21 = .ok (.irem, 1) := by decide +kernel
theorem dX1_paveSquare_22 : decode cX1_paveSquare 22 = .ok (.iload_n 1, 1) := by decide +kernel
theorem dX1_paveSquare_23 : decode cX1_paveSquare 23 = .ok (.iload 5, 2) := by decide +kernel
theorem dX1_paveSquare_25 : decode cX1_paveSquare 25 = .ok (.iadd, 1) := by decide +kernel
theorem dX1_paveSquare_26 : decode cX1_paveSquare 26 = .ok (.if_icmp .lt 7, 3) := by decide +kernel
theorem dX1_paveSquare_29 : decode cX1_paveSquare 29 = .ok (.iconst 1, 1) := by decide +kernel
theorem dX1_paveSquare_30 : decode cX1_paveSquare 30 = .ok (.goto 4, 3) := by decide +kernel
theorem dX1_paveSquare_33 : decode cX1_paveSquare 33 = .ok (.iconst 0, 1) := by decide +kernel
theorem dX1_paveSquare_34 : decode cX1_paveSquare 34 = .ok (.istore 6, 2) := by decide +kernel
theorem dX1_paveSquare_36 : decode cX1_paveSquare 36 = .ok (.iload 4, 2) := by decide +kernel
theorem dX1_paveSquare_38 : decode cX1_paveSquare 38 = .ok (.bipush 8, 2) := by decide +kernel
theorem dX1_paveSquare_40 : decode cX1_paveSquare 40 = .ok (.idiv, 1) := by decide +kernel
theorem dX1_paveSquare_41 : decode cX1_paveSquare 41 = .ok (.iload_n 2, 1) := by decide +kernel
theorem dX1_paveSquare_42 : decode cX1_paveSquare 42 = .ok (.iload 5, 2) := by decide +kernel
theorem dX1_paveSquare_44 : decode cX1_paveSquare 44 = .ok (.iadd, 1) := by decide +kernel
theorem dX1_paveSquare_45 : decode cX1_paveSquare 45 = .ok (.if_icmp .lt 7, 3) := by decide +kernel
theorem dX1_paveSquare_48 : decode cX1_paveSquare 48 = .ok (.iconst 1, 1) := by decide +kernel
theorem dX1_paveSquare_49 : decode cX1_paveSquare 49 = .ok (.goto 4, 3) := by decide +kernel
theorem dX1_paveSquare_52 : decode cX1_paveSquare 52 = .ok (.iconst 0, 1) := by decide +kernel
theorem dX1_paveSquare_53 : decode cX1_paveSquare 53 = .ok (.istore 7, 2) := by decide +kernel
theorem dX1_paveSquare_55 : decode cX1_paveSquare 55 = .ok (.iload_n 1, 1) := by decide +kernel
theorem dX1_paveSquare_56 : decode cX1_paveSquare 56 = .ok (.iload 5, 2) := by decide +kernel
theorem dX1_paveSquare_58 : decode cX1_paveSquare 58 = .ok (.iadd, 1) := by decide +kernel
theorem dX1_paveSquare_59 : decode cX1_paveSquare 59 = .ok (.iconst 1, 1) := by decide +kernel
theorem dX1_paveSquare_60 : decode cX1_paveSquare 60 = .ok (.isub, 1) := by decide +kernel
theorem dX1_paveSquare_61 : decode cX1_paveSquare 61 = .ok (.istore 8, 2) := by decide +kernel
theorem dX1_paveSquare_63 : decode cX1_paveSquare 63 = .ok (.iload_n 2, 1) := by decide +kernel
theorem dX1_paveSquare_64 : decode cX1_paveSquare 64 = .ok (.iload 5, 2) := by decide +kernel
theorem dX1_paveSquare_66 : decode cX1_paveSquare 66 = .ok (.iadd, 1) := by decide +kernel
theorem dX1_paveSquare_67 : decode cX1_paveSquare 67 = .ok (.iconst 1, 1) := by decide +kernel
theorem dX1_paveSquare_68 : decode cX1_paveSquare 68 = .ok (.isub, 1) := by decide +kernel
theorem dX1_paveSquare_69 : decode cX1_paveSquare 69 = .ok (.istore 9, 2) := by decide +kernel
theorem dX1_paveSquare_71 : decode cX1_paveSquare 71 = .ok (.aload_n 0, 1) := by decide +kernel
theorem dX1_paveSquare_72 : decode cX1_paveSquare 72 = .ok (.iload 8, 2) := by decide +kernel
theorem dX1_paveSquare_74 : decode cX1_paveSquare 74 = .ok (.iload 9, 2) := by decide +kernel
theorem dX1_paveSquare_76 : decode cX1_paveSquare 76 = .ok (.iload 6, 2) := by decide +kernel
theorem dX1_paveSquare_78 : decode cX1_paveSquare 78 = .ok (.iload 7, 2) := by decide +kernel
theorem dX1_paveSquare_80 : decode cX1_paveSquare 80 = .ok (.invokestatic 153, 3) := by decide +kernel
theorem dX1_paveSquare_83 : decode cX1_paveSquare 83 = .ok (.invokevirtual 138, 3) := by decide +kernel
theorem dX1_paveSquare_86 : decode cX1_paveSquare 86 = .ok (.iconst 0, 1) := by decide +kernel
theorem dX1_paveSquare_87 : decode cX1_paveSquare 87 = .ok (.istore 10, 2) := by decide +kernel
theorem dX1_paveSquare_89 : decode cX1_paveSquare 89 = .ok (.iload 10, 2) := by decide +kernel
theorem dX1_paveSquare_91 : decode cX1_paveSquare 91 = .ok (.iconst 4, 1) := by decide +kernel
theorem dX1_paveSquare_92 : decode cX1_paveSquare 92 = .ok (.if_icmp .ge 107, 3) := by decide +kernel
theorem dX1_paveSquare_95 : decode cX1_paveSquare 95 = .ok (.iload 10, 2) := by decide +kernel
theorem dX1_paveSquare_97 : decode cX1_paveSquare 97 = .ok (.iconst 2, 1) := by decide +kernel
theorem dX1_paveSquare_98 : decode cX1_paveSquare 98 = .ok (.irem, 1) := by decide +kernel
theorem dX1_paveSquare_99 : decode cX1_paveSquare 99 = .ok (.istore 11, 2) := by decide +kernel
theorem dX1_paveSquare_101 : decode cX1_paveSquare 101 = .ok (.iload 10, 2) := by decide +kernel
theorem dX1_paveSquare_103 : decode cX1_paveSquare 103 = .ok (.iconst 2, 1) := by decide +kernel
theorem dX1_paveSquare_104 : decode cX1_paveSquare 104 = .ok (.idiv, 1) := by decide +kernel
theorem dX1_paveSquare_105 : decode cX1_paveSquare 105 = .ok (.istore 12, 2) := by decide +kernel
theorem dX1_paveSquare_107 : decode cX1_paveSquare 107 = .ok (.iload 6, 2) := by decide +kernel
theorem dX1_paveSquare_109 : decode cX1_paveSquare 109 = .ok (.iload 11, 2) := by decide +kernel
theorem dX1_paveSquare_111 : decode cX1_paveSquare 111 = .ok (.iconst 1, 1) := by decide +kernel
theorem dX1_paveSquare_112 : decode cX1_paveSquare 112 = .ok (.if_icmp .ne 7, 3) := by decide +kernel
theorem dX1_paveSquare_115 : decode cX1_paveSquare 115 = .ok (.iconst 1, 1) := by decide +kernel
theorem dX1_paveSquare_116 : decode cX1_paveSquare 116 = .ok (.goto 4, 3) := by decide +kernel
theorem dX1_paveSquare_119 : decode cX1_paveSquare 119 = .ok (.iconst 0, 1) := by decide +kernel
theorem dX1_paveSquare_120 : decode cX1_paveSquare 120 = .ok (.if_icmp .ne 23, 3) := by decide +kernel
theorem dX1_paveSquare_123 : decode cX1_paveSquare 123 = .ok (.iload 7, 2) := by decide +kernel
theorem dX1_paveSquare_125 : decode cX1_paveSquare 125 = .ok (.iload 12, 2) := by decide +kernel
theorem dX1_paveSquare_127 : decode cX1_paveSquare 127 = .ok (.iconst 1, 1) := by decide +kernel
theorem dX1_paveSquare_128 : decode cX1_paveSquare 128 = .ok (.if_icmp .ne 7, 3) := by decide +kernel
theorem dX1_paveSquare_131 : decode cX1_paveSquare 131 = .ok (.iconst 1, 1) := by decide +kernel
theorem dX1_paveSquare_132 : decode cX1_paveSquare 132 = .ok (.goto 4, 3) := by decide +kernel
theorem dX1_paveSquare_135 : decode cX1_paveSquare 135 = .ok (.iconst 0, 1) := by decide +kernel
theorem dX1_paveSquare_136 : decode cX1_paveSquare 136 = .ok (.if_icmp .ne 7, 3) := by decide +kernel
theorem dX1_paveSquare_139 : decode cX1_paveSquare 139 = .ok (.iconst 1, 1) := by decide +kernel
theorem dX1_paveSquare_140 : decode cX1_paveSquare 140 = .ok (.goto 4, 3) := by decide +kernel
theorem dX1_paveSquare_143 : decode cX1_paveSquare 143 = .ok (.iconst 0, 1) := by decide +kernel
theorem dX1_paveSquare_144 : decode cX1_paveSquare 144 = .ok (.istore 13, 2) := by decide +kernel
theorem dX1_paveSquare_146 : decode cX1_paveSquare 146 = .ok (.iload 13, 2) := by decide +kernel
theorem dX1_paveSquare_148 : decode cX1_paveSquare 148 = .ok (.ifCond .eq 8, 3) := by decide +kernel
theorem dX1_paveSquare_151 : decode cX1_paveSquare 151 = .ok (.iload 4, 2) := by decide +kernel
theorem dX1_paveSquare_153 : decode cX1_paveSquare 153 = .ok (.goto 16, 3) := by decide +kernel
theorem dX1_paveSquare_156 : decode cX1_paveSquare 156 = .ok (.iload 8, 2) := by decide +kernel
theorem dX1_paveSquare_158 : decode cX1_paveSquare 158 = .ok (.iload 11, 2) := by decide +kernel
theorem dX1_paveSquare_160 : decode cX1_paveSquare 160 = .ok (.iadd, 1) := by decide +kernel
theorem dX1_paveSquare_161 : decode cX1_paveSquare 161 = .ok (.iload 9, 2) := by decide +kernel
theorem dX1_paveSquare_163 : decode cX1_paveSquare 163 = .ok (.iload 12, 2) := by decide +kernel
theorem dX1_paveSquare_165 : decode cX1_paveSquare 165 = .ok (.iadd, 1) := by decide +kernel
theorem dX1_paveSquare_166 : decode cX1_paveSquare 166 = .ok (.invokestatic 58, 3) := by decide +kernel
theorem dX1_paveSquare_169 : decode cX1_paveSquare 169 = .ok (.istore 14, 2) := by decide +kernel
theorem dX1_paveSquare_171 : decode cX1_paveSquare 171 = .ok (.aload_n 0, 1) := by decide +kernel
theorem dX1_paveSquare_172 : decode cX1_paveSquare 172 = .ok (.iload_n 1, 1) := by decide +kernel
theorem dX1_paveSquare_173 : decode cX1_paveSquare 173 = .ok (.iload 5, 2) := by decide +kernel
theorem dX1_paveSquare_175 : decode cX1_paveSquare 175 = .ok (.iload 11, 2) := by decide +kernel
theorem dX1_paveSquare_177 : decode cX1_paveSquare 177 = .ok (.imul, 1) := by decide +kernel
theorem dX1_paveSquare_178 : decode cX1_paveSquare 178 = .ok (.iadd, 1) := by decide +kernel
theorem dX1_paveSquare_179 : decode cX1_paveSquare 179 = .ok (.iload_n 2, 1) := by decide +kernel
theorem dX1_paveSquare_180 : decode cX1_paveSquare 180 = .ok (.iload 5, 2) := by decide +kernel
theorem dX1_paveSquare_182 : decode cX1_paveSquare 182 = .ok (.iload 12, 2) := by decide +kernel
theorem dX1_paveSquare_184 : decode cX1_paveSquare 184 = .ok (.imul, 1) := by decide +kernel
theorem dX1_paveSquare_185 : decode cX1_paveSquare 185 = .ok (.iadd, 1) := by decide +kernel
theorem dX1_paveSquare_186 : decode cX1_paveSquare 186 = .ok (.iload 5, 2) := by decide +kernel
theorem dX1_paveSquare_188 : decode cX1_paveSquare 188 = .ok (.iload 14, 2) := by decide +kernel
theorem dX1_paveSquare_190 : decode cX1_paveSquare 190 = .ok (.invokestatic 149, 3) := by decide +kernel
theorem dX1_paveSquare_193 : decode cX1_paveSquare 193 = .ok (.iinc 10 1, 3) := by decide +kernel
theorem dX1_paveSquare_196 : decode cX1_paveSquare 196 = .ok (.goto (-107), 3) := by decide +kernel
theorem dX1_paveSquare_199 : decode cX1_paveSquare 199 = .ok (.return_, 1) := by decide +kernel
theorem dX1_quarterTurn_0 : decode cX1_quarterTurn 0 = .ok (.iload_n 1, 1) := by decide +kernel
theorem dX1_quarterTurn_1 : decode cX1_quarterTurn 1 = .ok (.ifCond .eq 13, 3) := by decide +kernel
theorem dX1_quarterTurn_4 : decode cX1_quarterTurn 4 = .ok (.iload_n 0, 1) := by decide +kernel
theorem dX1_quarterTurn_5 : decode cX1_quarterTurn 5 = .ok (.ifCond .eq 7, 3) := by decide +kernel
theorem dX1_quarterTurn_8 : decode cX1_quarterTurn 8 = .ok (.iconst 2, 1) := by decide +kernel
theorem dX1_quarterTurn_9 : decode cX1_quarterTurn 9 = .ok (.goto 4, 3) := by decide +kernel
theorem dX1_quarterTurn_12 : decode cX1_quarterTurn 12 = .ok (.iconst 3, 1) := by decide +kernel
theorem dX1_quarterTurn_13 : decode cX1_quarterTurn 13 = .ok (.ireturn, 1) := by decide +kernel
theorem dX1_quarterTurn_14 : decode cX1_quarterTurn 14 = .ok (.iload_n 0, 1) := by decide +kernel
theorem dX1_quarterTurn_15 : decode cX1_quarterTurn 15 = .ok (.ifCond .eq 7, 3) := by decide +kernel
theorem dX1_quarterTurn_18 : decode cX1_quarterTurn 18 = .ok (.iconst 1, 1) := by decide +kernel
theorem dX1_quarterTurn_19 : decode cX1_quarterTurn 19 = .ok (.goto 4, 3) := by decide +kernel
theorem dX1_quarterTurn_22 : decode cX1_quarterTurn 22 = .ok (.iconst 0, 1) := by decide +kernel
theorem dX1_quarterTurn_23 : decode cX1_quarterTurn 23 = .ok (.ireturn, 1) := by decide +kernel
theorem dX2_init_0 : decode cX2_init 0 = .ok (.aload_n 0, 1) := by decide +kernel
theorem dX2_init_1 : decode cX2_init 1 = .ok (.invokespecial 5, 3) := by decide +kernel
theorem dX2_init_4 : decode cX2_init 4 = .ok (.aload_n 0, 1) := by decide +kernel
theorem dX2_init_5 : decode cX2_init 5 = .ok (.bipush 65, 2) := by decide +kernel
theorem dX2_init_7 : decode cX2_init 7 = .ok (.sipush 512, 3) := by decide +kernel
theorem dX2_init_10 : decode cX2_init 10 = .ok (.multianewarray 11 2, 4) := by decide +kernel
theorem dX2_init_14 : decode cX2_init 14 = .ok (.putfield 13, 3) := by decide +kernel
theorem dX2_init_17 : decode cX2_init 17 = .ok (.aload_n 0, 1) := by decide +kernel
theorem dX2_init_18 : decode cX2_init 18 = .ok (.iconst 4, 1) := by decide +kernel
theorem dX2_init_19 : decode cX2_init 19 = .ok (.newarray .int, 2) := by decide +kernel
theorem dX2_init_21 : decode cX2_init 21 = .ok (.putfield 16, 3) := by decide +kernel
theorem dX2_init_24 : decode cX2_init 24 = .ok (.aload_n 0, 1) := by decide +kernel
theorem dX2_init_25 : decode cX2_init 25 = .ok (.new 20, 3) := by decide +kernel
theorem dX2_init_28 : decode cX2_init 28 = .ok (.dup, 1) := by decide +kernel
theorem dX2_init_29 : decode cX2_init 29 = .ok (.invokespecial 22, 3) := by decide +kernel
theorem dX2_init_32 : decode cX2_init 32 = .ok (.putfield 23, 3) := by decide +kernel
theorem dX2_init_35 : decode cX2_init 35 = .ok (.aload_n 0, 1) := by decide +kernel
theorem dX2_init_36 : decode cX2_init 36 = .ok (.new 20, 3) := by decide +kernel
theorem dX2_init_39 : decode cX2_init 39 = .ok (.dup, 1) := by decide +kernel
theorem dX2_init_40 : decode cX2_init 40 = .ok (.invokespecial 22, 3) := by decide +kernel
theorem dX2_init_43 : decode cX2_init 43 = .ok (.putfield 27, 3) := by decide +kernel
theorem dX2_init_46 : decode cX2_init 46 = .ok (.return_, 1) := by decide +kernel
theorem dX2_waysToPave_0 : decode cX2_waysToPave 0 = .ok (.lload_n 1, 1) := by decide +kernel
theorem dX2_waysToPave_1 : decode cX2_waysToPave 1 = .ok (.invokestatic 30, 3) := by decide +kernel
theorem dX2_waysToPave_4 : decode cX2_waysToPave 4 = .ok (.iconst 3, 1) := by decide +kernel
theorem dX2_waysToPave_5 : decode cX2_waysToPave 5 = .ok (.irem, 1) := by decide +kernel
theorem dX2_waysToPave_6 : decode cX2_waysToPave 6 = .ok (.ifCond .eq 5, 3) := by decide +kernel
theorem dX2_waysToPave_9 : decode cX2_waysToPave 9 = .ok (.iconst 0, 1) := by decide +kernel
theorem dX2_waysToPave_10 : decode cX2_waysToPave 10 = .ok (.ireturn, 1) := by decide +kernel
theorem dX2_waysToPave_11 : decode cX2_waysToPave 11 = .ok (.aload_n 0, 1) := by decide +kernel
theorem dX2_waysToPave_12 : decode cX2_waysToPave 12 = .ok (.invokevirtual 36, 3) := by decide +kernel
theorem dX2_waysToPave_15 : decode cX2_waysToPave 15 = .ok (.lload_n 1, 1) := by decide +kernel
theorem dX2_waysToPave_16 : decode cX2_waysToPave 16 = .ok (.invokestatic 39, 3) := by decide +kernel
theorem dX2_waysToPave_19 : decode cX2_waysToPave 19 = .ok (.istore_n 3, 1) := by decide +kernel
theorem dX2_waysToPave_20 : decode cX2_waysToPave 20 = .ok (.lload_n 1, 1) := by decide +kernel
theorem dX2_waysToPave_21 : decode cX2_waysToPave 21 = .ok (.invokestatic 42, 3) := by decide +kernel
theorem dX2_waysToPave_24 : decode cX2_waysToPave 24 = .ok (.istore 4, 2) := by decide +kernel
theorem dX2_waysToPave_26 : decode cX2_waysToPave 26 = .ok (.iload 4, 2) := by decide +kernel
theorem dX2_waysToPave_28 : decode cX2_waysToPave 28 = .ok (.iload_n 3, 1) := by decide +kernel
theorem dX2_waysToPave_29 : decode cX2_waysToPave 29 = .ok (.if_icmp .ge 16, 3) := by decide +kernel
theorem dX2_waysToPave_32 : decode cX2_waysToPave 32 = .ok (.aload_n 0, 1) := by decide +kernel
theorem dX2_waysToPave_33 : decode cX2_waysToPave 33 = .ok (.lload_n 1, 1) := by decide +kernel
theorem dX2_waysToPave_34 : decode cX2_waysToPave 34 = .ok (.iload 4, 2) := by decide +kernel
theorem dX2_waysToPave_36 : decode cX2_waysToPave 36 = .ok (.invokevirtual 45, 3) := by decide +kernel
theorem dX2_waysToPave_39 : decode cX2_waysToPave 39 = .ok (.iinc 4 1, 3) := by decide +kernel
theorem dX2_waysToPave_42 : decode cX2_waysToPave 42 = .ok (.goto (-16), 3) := by decide +kernel
theorem dX2_waysToPave_45 : decode cX2_waysToPave 45 = .ok (.aload_n 0, 1) := by decide +kernel
theorem dX2_waysToPave_46 : decode cX2_waysToPave 46 = .ok (.getfield 23, 3) := by decide +kernel
theorem dX2_waysToPave_49 : decode cX2_waysToPave 49 = .ok (.iconst 0, 1) := by decide +kernel
theorem dX2_waysToPave_50 : decode cX2_waysToPave 50 = .ok (.invokevirtual 49, 3) := by decide +kernel
theorem dX2_waysToPave_53 : decode cX2_waysToPave 53 = .ok (.ireturn, 1) := by decide +kernel
theorem dX2_endOf_0 : decode cX2_endOf 0 = .ok (.bipush 64, 2) := by decide +kernel
theorem dX2_endOf_2 : decode cX2_endOf 2 = .ok (.lload_n 0, 1) := by decide +kernel
theorem dX2_endOf_3 : decode cX2_endOf 3 = .ok (.invokestatic 53, 3) := by decide +kernel
theorem dX2_endOf_6 : decode cX2_endOf 6 = .ok (.isub, 1) := by decide +kernel
theorem dX2_endOf_7 : decode cX2_endOf 7 = .ok (.ireturn, 1) := by decide +kernel
theorem dX2_begin_0 : decode cX2_begin 0 = .ok (.aload_n 0, 1) := by decide +kernel
theorem dX2_begin_1 : decode cX2_begin 1 = .ok (.getfield 23, 3) := by decide +kernel
theorem dX2_begin_4 : decode cX2_begin 4 = .ok (.invokevirtual 56, 3) := by decide +kernel
theorem dX2_begin_7 : decode cX2_begin 7 = .ok (.aload_n 0, 1) := by decide +kernel
theorem dX2_begin_8 : decode cX2_begin 8 = .ok (.getfield 23, 3) := by decide +kernel
theorem dX2_begin_11 : decode cX2_begin 11 = .ok (.iconst 0, 1) := by decide +kernel
theorem dX2_begin_12 : decode cX2_begin 12 = .ok (.iconst 1, 1) := by decide +kernel
theorem dX2_begin_13 : decode cX2_begin 13 = .ok (.invokevirtual 59, 3) := by decide +kernel
theorem dX2_begin_16 : decode cX2_begin 16 = .ok (.return_, 1) := by decide +kernel
theorem dX2_goOn_0 : decode cX2_goOn 0 = .ok (.lload_n 1, 1) := by decide +kernel
theorem dX2_goOn_1 : decode cX2_goOn 1 = .ok (.iload_n 3, 1) := by decide +kernel
theorem dX2_goOn_2 : decode cX2_goOn 2 = .ok (.invokestatic 63, 3) := by decide +kernel
theorem dX2_goOn_5 : decode cX2_goOn 5 = .ok (.istore 4, 2) := by decide +kernel
theorem dX2_goOn_7 : decode cX2_goOn 7 = .ok (.iload 4, 2) := by decide +kernel
theorem dX2_goOn_9 : decode cX2_goOn 9 = .ok (.ifCond .eq 9, 3) := by decide +kernel
theorem dX2_goOn_12 : decode cX2_goOn 12 = .ok (.aload_n 0, 1) := by decide +kernel
theorem dX2_goOn_13 : decode cX2_goOn 13 = .ok (.lload_n 1, 1) := by decide +kernel
theorem dX2_goOn_14 : decode cX2_goOn 14 = .ok (.iload_n 3, 1) := by decide +kernel
theorem dX2_goOn_15 : decode cX2_goOn 15 = .ok (.invokevirtual 67, 3) := by decide +kernel
theorem dX2_goOn_18 : decode cX2_goOn 18 = .ok (.aload_n 0, 1) := by decide +kernel
theorem dX2_goOn_19 : decode cX2_goOn 19 = .ok (.getfield 27, 3) := by decide +kernel
theorem dX2_goOn_22 : decode cX2_goOn 22 = .ok (.invokevirtual 56, 3) := by decide +kernel
theorem dX2_goOn_25 : decode cX2_goOn 25 = .ok (.iconst 0, 1) := by decide +kernel
theorem dX2_goOn_26 : decode cX2_goOn 26 = .ok (.istore 5, 2) := by decide +kernel
theorem dX2_goOn_28 : decode cX2_goOn 28 = .ok (.iload 5, 2) := by decide +kernel
theorem dX2_goOn_30 : decode cX2_goOn 30 = .ok (.aload_n 0, 1) := by decide +kernel
theorem dX2_goOn_31 : decode cX2_goOn 31 = .ok (.getfield 23, 3) := by decide +kernel
theorem dX2_goOn_34 : decode cX2_goOn 34 = .ok (.getfield 70, 3) := by decide +kernel
theorem dX2_goOn_37 : decode cX2_goOn 37 = .ok (.if_icmp .ge 61, 3) := by decide +kernel
theorem dX2_goOn_40 : decode cX2_goOn 40 = .ok (.aload_n 0, 1) := by decide +kernel
theorem dX2_goOn_41 : decode cX2_goOn 41 = .ok (.getfield 23, 3) := by decide +kernel
theorem dX2_goOn_44 : decode cX2_goOn 44 = .ok (.iload 5, 2) := by decide +kernel
theorem dX2_goOn_46 : decode cX2_goOn 46 = .ok (.invokevirtual 74, 3) := by decide +kernel
theorem dX2_goOn_49 : decode cX2_goOn 49 = .ok (.istore 6, 2) := by decide +kernel
theorem dX2_goOn_51 : decode cX2_goOn 51 = .ok (.iload 4, 2) := by decide +kernel
theorem dX2_goOn_53 : decode cX2_goOn 53 = .ok (.ifCond .eq 19, 3) := by decide +kernel
theorem dX2_goOn_56 : decode cX2_goOn 56 = .ok (.iload 6, 2) := by decide +kernel
theorem dX2_goOn_58 : decode cX2_goOn 58 = .ok (.iconst 1, 1) := by decide +kernel
theorem dX2_goOn_59 : decode cX2_goOn 59 = .ok (.iand, 1) := by decide +kernel
theorem dX2_goOn_60 : decode cX2_goOn 60 = .ok (.ifCond .ne 12, 3) := by decide +kernel
theorem dX2_goOn_63 : decode cX2_goOn 63 = .ok (.aload_n 0, 1) := by decide +kernel
theorem dX2_goOn_64 : decode cX2_goOn 64 = .ok (.iload 6, 2) := by decide +kernel
theorem dX2_goOn_66 : decode cX2_goOn 66 = .ok (.invokevirtual 77, 3) := by decide +kernel
theorem dX2_goOn_69 : decode cX2_goOn 69 = .ok (.goto 23, 3) := by decide +kernel
theorem dX2_goOn_72 : decode cX2_goOn 72 = .ok (.aload_n 0, 1) := by decide +kernel
theorem dX2_goOn_73 : decode cX2_goOn 73 = .ok (.getfield 27, 3) := by decide +kernel
theorem dX2_goOn_76 : decode cX2_goOn 76 = .ok (.iload 6, 2) := by decide +kernel
theorem dX2_goOn_78 : decode cX2_goOn 78 = .ok (.iconst 1, 1) := by decide +kernel
theorem dX2_goOn_79 : decode cX2_goOn 79 = .ok (.ishr, 1) := by decide +kernel
theorem dX2_goOn_80 : decode cX2_goOn 80 = .ok (.aload_n 0, 1) := by decide +kernel
theorem dX2_goOn_81 : decode cX2_goOn 81 = .ok (.getfield 23, 3) := by decide +kernel
theorem dX2_goOn_84 : decode cX2_goOn 84 = .ok (.iload 6, 2) := by decide +kernel
theorem dX2_goOn_86 : decode cX2_goOn 86 = .ok (.invokevirtual 49, 3) := by decide +kernel
theorem dX2_goOn_89 : decode cX2_goOn 89 = .ok (.invokevirtual 59, 3) := by decide +kernel
theorem dX2_goOn_92 : decode cX2_goOn 92 = .ok (.iinc 5 1, 3) := by decide +kernel
theorem dX2_goOn_95 : decode cX2_goOn 95 = .ok (.goto (-67), 3) := by decide +kernel
theorem dX2_goOn_98 : decode cX2_goOn 98 = .ok (.aload_n 0, 1) := by decide +kernel
theorem dX2_goOn_99 : decode cX2_goOn 99 = .ok (.getfield 23, 3) := by decide +kernel
theorem dX2_goOn_102 : decode cX2_goOn 102 = .ok (.astore 5, 2) := by decide +kernel
theorem dX2_goOn_104 : decode cX2_goOn 104 = .ok (.aload_n 0, 1) := by decide +kernel
theorem dX2_goOn_105 : decode cX2_goOn 105 = .ok (.aload_n 0, 1) := by decide +kernel
theorem dX2_goOn_106 : decode cX2_goOn 106 = .ok (.getfield 27, 3) := by decide +kernel
theorem dX2_goOn_109 : decode cX2_goOn 109 = .ok (.putfield 23, 3) := by decide +kernel
theorem dX2_goOn_112 : decode cX2_goOn 112 = .ok (.aload_n 0, 1) := by decide +kernel
theorem dX2_goOn_113 : decode cX2_goOn 113 = .ok (.aload 5, 2) := by decide +kernel
theorem dX2_goOn_115 : decode cX2_goOn 115 = .ok (.putfield 27, 3) := by decide +kernel
theorem dX2_goOn_118 : decode cX2_goOn 118 = .ok (.return_, 1) := by decide +kernel
theorem dX2_goOnByTurns_0 : decode cX2_goOnByTurns 0 = .ok (.iconst 0, 1) := by decide +kernel
theorem dX2_goOnByTurns_1 : decode cX2_goOnByTurns 1 = .ok (.istore_n 2, 1) := by decide +kernel
theorem dX2_goOnByTurns_2 : decode cX2_goOnByTurns 2 = .ok (.iload_n 2, 1) := by decide +kernel
theorem dX2_goOnByTurns_3 : decode cX2_goOnByTurns 3 = .ok (.iconst 4, 1) := by decide +kernel
theorem dX2_goOnByTurns_4 : decode cX2_goOnByTurns 4 = .ok (.if_icmp .ge 39, 3) := by decide +kernel
theorem dX2_goOnByTurns_7 : decode cX2_goOnByTurns 7 = .ok (.aload_n 0, 1) := by decide +kernel
theorem dX2_goOnByTurns_8 : decode cX2_goOnByTurns 8 = .ok (.iload_n 2, 1) := by decide +kernel
theorem dX2_goOnByTurns_9 : decode cX2_goOnByTurns 9 = .ok (.iload_n 1, 1) := by decide +kernel
theorem dX2_goOnByTurns_10 : decode cX2_goOnByTurns 10 = .ok (.invokevirtual 81, 3) := by decide +kernel
theorem dX2_goOnByTurns_13 : decode cX2_goOnByTurns 13 = .ok (.ifCond .eq 24, 3) := by decide +kernel
theorem dX2_goOnByTurns_16 : decode cX2_goOnByTurns 16 = .ok (.aload_n 0, 1) := by decide +kernel
theorem dX2_goOnByTurns_17 : decode cX2_goOnByTurns 17 = .ok (.getfield 27, 3) := by decide +kernel
theorem dX2_goOnByTurns_20 : decode cX2_goOnByTurns 20 = .ok (.aload_n 0, 1) := by decide +kernel
theorem dX2_goOnByTurns_21 : decode cX2_goOnByTurns 21 = .ok (.iload_n 2, 1) := by decide +kernel
theorem dX2_goOnByTurns_22 : decode cX2_goOnByTurns 22 = .ok (.iload_n 1, 1) := by decide +kernel
theorem dX2_goOnByTurns_23 : decode cX2_goOnByTurns 23 = .ok (.invokevirtual 85, 3) := by decide +kernel
theorem dX2_goOnByTurns_26 : decode cX2_goOnByTurns 26 = .ok (.aload_n 0, 1) := by decide +kernel
theorem dX2_goOnByTurns_27 : decode cX2_goOnByTurns 27 = .ok (.getfield 23, 3) := by decide +kernel
theorem dX2_goOnByTurns_30 : decode cX2_goOnByTurns 30 = .ok (.iload_n 1, 1) := by decide +kernel
theorem dX2_goOnByTurns_31 : decode cX2_goOnByTurns 31 = .ok (.invokevirtual 49, 3) := by decide +kernel
theorem dX2_goOnByTurns_34 : decode cX2_goOnByTurns 34 = .ok (.invokevirtual 59, 3) := by decide +kernel
theorem dX2_goOnByTurns_37 : decode cX2_goOnByTurns 37 = .ok (.iinc 2 1, 3) := by decide +kernel
theorem dX2_goOnByTurns_40 : decode cX2_goOnByTurns 40 = .ok (.goto (-38), 3) := by decide +kernel
theorem dX2_goOnByTurns_43 : decode cX2_goOnByTurns 43 = .ok (.return_, 1) := by decide +kernel
theorem dX2_findTakes_0 : decode cX2_findTakes 0 = .ok (.iconst 0, 1) := by decide +kernel
theorem dX2_findTakes_1 : decode cX2_findTakes 1 = .ok (.istore 4, 2) := by decide +kernel
theorem dX2_findTakes_3 : decode cX2_findTakes 3 = .ok (.iload 4, 2) := by decide +kernel
theorem dX2_findTakes_5 : decode cX2_findTakes 5 = .ok (.iconst 4, 1) := by decide +kernel
theorem dX2_findTakes_6 : decode cX2_findTakes 6 = .ok (.if_icmp .ge 67, 3) := by decide +kernel
theorem dX2_findTakes_9 : decode cX2_findTakes 9 = .ok (.iload_n 3, 1) := by decide +kernel
theorem dX2_findTakes_10 : decode cX2_findTakes 10 = .ok (.iload 4, 2) := by decide +kernel
theorem dX2_findTakes_12 : decode cX2_findTakes 12 = .ok (.invokestatic 89, 3) := by decide +kernel
theorem dX2_findTakes_15 : decode cX2_findTakes 15 = .ok (.iload_n 3, 1) := by decide +kernel
theorem dX2_findTakes_16 : decode cX2_findTakes 16 = .ok (.bipush 8, 2) := by decide +kernel
theorem dX2_findTakes_18 : decode cX2_findTakes 18 = .ok (.idiv, 1) := by decide +kernel
theorem dX2_findTakes_19 : decode cX2_findTakes 19 = .ok (.iload 4, 2) := by decide +kernel
theorem dX2_findTakes_21 : decode cX2_findTakes 21 = .ok (.invokestatic 92, 3) := by decide +kernel
theorem dX2_findTakes_24 : decode cX2_findTakes 24 = .ok (.lstore 5, 2) := by decide +kernel
theorem dX2_findTakes_26 : decode cX2_findTakes 26 = .ok (.lload 5, 2) := by decide +kernel
theorem dX2_findTakes_28 : decode cX2_findTakes 28 = .ok (.lload_n 1, 1) := by decide +kernel
theorem dX2_findTakes_29 : decode cX2_findTakes 29 = .ok (.ldc2_w 96, 3) := by decide +kernel
theorem dX2_findTakes_32 : decode cX2_findTakes 32 = .ok (.lxor, 1) := by decide +kernel
theorem dX2_findTakes_33 : decode cX2_findTakes 33 = .ok (.land, 1) := by decide +kernel
theorem dX2_findTakes_34 : decode cX2_findTakes 34 = .ok (.lconst 0, 1) := by decide +kernel
theorem dX2_findTakes_35 : decode cX2_findTakes 35 = .ok (.lcmp, 1) := by decide +kernel
theorem dX2_findTakes_36 : decode cX2_findTakes 36 = .ok (.ifCond .ne 7, 3) := by decide +kernel
theorem dX2_findTakes_39 : decode cX2_findTakes 39 = .ok (.iconst 1, 1) := by decide +kernel
theorem dX2_findTakes_40 : decode cX2_findTakes 40 = .ok (.goto 4, 3) := by decide +kernel
theorem dX2_findTakes_43 : decode cX2_findTakes 43 = .ok (.iconst 0, 1) := by decide +kernel
theorem dX2_findTakes_44 : decode cX2_findTakes 44 = .ok (.istore 7, 2) := by decide +kernel
theorem dX2_findTakes_46 : decode cX2_findTakes 46 = .ok (.aload_n 0, 1) := by decide +kernel
theorem dX2_findTakes_47 : decode cX2_findTakes 47 = .ok (.getfield 16, 3) := by decide +kernel
theorem dX2_findTakes_50 : decode cX2_findTakes 50 = .ok (.iload 4, 2) := by decide +kernel
theorem dX2_findTakes_52 : decode cX2_findTakes 52 = .ok (.iload 7, 2) := by decide +kernel
theorem dX2_findTakes_54 : decode cX2_findTakes 54 = .ok (.ifCond .eq 11, 3) := by decide +kernel
theorem dX2_findTakes_57 : decode cX2_findTakes 57 = .ok (.lload 5, 2) := by decide +kernel
theorem dX2_findTakes_59 : decode cX2_findTakes 59 = .ok (.iload_n 3, 1) := by decide +kernel
theorem dX2_findTakes_60 : decode cX2_findTakes 60 = .ok (.lushr, 1) := by decide +kernel
theorem dX2_findTakes_61 : decode cX2_findTakes 61 = .ok (.l2i, 1) := by decide +kernel
theorem dX2_findTakes_62 : decode cX2_findTakes 62 = .ok (.goto 4, 3) := by decide +kernel
theorem dX2_findTakes_65 : decode cX2_findTakes 65 = .ok (.iconst 0, 1) := by decide +kernel
theorem dX2_findTakes_66 : decode cX2_findTakes 66 = .ok (.iastore, 1) := by decide +kernel
theorem dX2_findTakes_67 : decode cX2_findTakes 67 = .ok (.iinc 4 1, 3) := by decide +kernel
theorem dX2_findTakes_70 : decode cX2_findTakes 70 = .ok (.goto (-67), 3) := by decide +kernel
theorem dX2_findTakes_73 : decode cX2_findTakes 73 = .ok (.return_, 1) := by decide +kernel
theorem dX2_blockColumn_0 : decode cX2_blockColumn 0 = .ok (.iload_n 1, 1) := by decide +kernel
theorem dX2_blockColumn_1 : decode cX2_blockColumn 1 = .ok (.ifCond .ne 12, 3) := by decide +kernel
theorem dX2_blockColumn_4 : decode cX2_blockColumn 4 = .ok (.iload_n 0, 1) := by decide +kernel
theorem dX2_blockColumn_5 : decode cX2_blockColumn 5 = .ok (.bipush 8, 2) := by decide +kernel
theorem dX2_blockColumn_7 : decode cX2_blockColumn 7 = .ok (.irem, 1) := by decide +kernel
theorem dX2_blockColumn_8 : decode cX2_blockColumn 8 = .ok (.iconst 1, 1) := by decide +kernel
theorem dX2_blockColumn_9 : decode cX2_blockColumn 9 = .ok (.isub, 1) := by decide +kernel
theorem dX2_blockColumn_10 : decode cX2_blockColumn 10 = .ok (.goto 7, 3) := by decide +kernel
theorem dX2_blockColumn_13 : decode cX2_blockColumn 13 = .ok (.iload_n 0, 1) := by decide +kernel
theorem dX2_blockColumn_14 : decode cX2_blockColumn 14 = .ok (.bipush 8, 2) := by decide +kernel
theorem dX2_blockColumn_16 : decode cX2_blockColumn 16 = .ok (.irem, 1) := by decide +kernel
theorem dX2_blockColumn_17 : decode cX2_blockColumn 17 = .ok (.ireturn, 1) := by decide +kernel
theorem dX2_isOpen_0 : decode cX2_isOpen 0 = .ok (.aload_n 0, 1) := by decide +kernel
theorem dX2_isOpen_1 : decode cX2_isOpen 1 = .ok (.getfield 16, 3) := by decide +kernel
theorem dX2_isOpen_4 : decode cX2_isOpen 4 = .ok (.iload_n 1, 1) := by decide +kernel
theorem dX2_isOpen_5 : decode cX2_isOpen 5 = .ok (.iaload, 1) := by decide +kernel
theorem dX2_isOpen_6 : decode cX2_isOpen 6 = .ok (.ifCond .eq 18, 3) := by decide +kernel
theorem dX2_isOpen_9 : decode cX2_isOpen 9 = .ok (.aload_n 0, 1) := by decide +kernel
theorem dX2_isOpen_10 : decode cX2_isOpen 10 = .ok (.getfield 16, 3) := by decide +kernel
theorem dX2_isOpen_13 : decode cX2_isOpen 13 = .ok (.iload_n 1, 1) := by decide +kernel
theorem dX2_isOpen_14 : decode cX2_isOpen 14 = .ok (.iaload, 1) := by decide +kernel
theorem dX2_isOpen_15 : decode cX2_isOpen 15 = .ok (.iload_n 2, 1) := by decide +kernel
theorem dX2_isOpen_16 : decode cX2_isOpen 16 = .ok (.iand, 1) := by decide +kernel
theorem dX2_isOpen_17 : decode cX2_isOpen 17 = .ok (.ifCond .ne 7, 3) := by decide +kernel
theorem dX2_isOpen_20 : decode cX2_isOpen 20 = .ok (.iconst 1, 1) := by decide +kernel
theorem dX2_isOpen_21 : decode cX2_isOpen 21 = .ok (.goto 4, 3) := by decide +kernel
theorem dX2_isOpen_24 : decode cX2_isOpen 24 = .ok (.iconst 0, 1) := by decide +kernel
theorem dX2_isOpen_25 : decode cX2_isOpen 25 = .ok (.ireturn, 1) := by decide +kernel
theorem dX2_windowAfter_0 : decode cX2_windowAfter 0 = .ok (.aload_n 0, 1) := by decide +kernel
theorem dX2_windowAfter_1 : decode cX2_windowAfter 1 = .ok (.getfield 16, 3) := by decide +kernel
theorem dX2_windowAfter_4 : decode cX2_windowAfter 4 = .ok (.iload_n 1, 1) := by decide +kernel
theorem dX2_windowAfter_5 : decode cX2_windowAfter 5 = .ok (.iaload, 1) := by decide +kernel
theorem dX2_windowAfter_6 : decode cX2_windowAfter 6 = .ok (.iload_n 2, 1) := by decide +kernel
theorem dX2_windowAfter_7 : decode cX2_windowAfter 7 = .ok (.ior, 1) := by decide +kernel
theorem dX2_windowAfter_8 : decode cX2_windowAfter 8 = .ok (.iconst 1, 1) := by decide +kernel
theorem dX2_windowAfter_9 : decode cX2_windowAfter 9 = .ok (.ishr, 1) := by decide +kernel
theorem dX2_windowAfter_10 : decode cX2_windowAfter 10 = .ok (.sipush 511, 3) := by decide +kernel
theorem dX2_windowAfter_13 : decode cX2_windowAfter 13 = .ok (.iand, 1) := by decide +kernel
theorem dX2_windowAfter_14 : decode cX2_windowAfter 14 = .ok (.ireturn, 1) := by decide +kernel
theorem dX2_countRest_0 : decode cX2_countRest 0 = .ok (.lload_n 1, 1) := by decide +kernel
theorem dX2_countRest_1 : decode cX2_countRest 1 = .ok (.invokestatic 39, 3) := by decide +kernel
theorem dX2_countRest_4 : decode cX2_countRest 4 = .ok (.istore_n 3, 1) := by decide +kernel
theorem dX2_countRest_5 : decode cX2_countRest 5 = .ok (.aload_n 0, 1) := by decide +kernel
theorem dX2_countRest_6 : decode cX2_countRest 6 = .ok (.iload_n 3, 1) := by decide +kernel
theorem dX2_countRest_7 : decode cX2_countRest 7 = .ok (.invokevirtual 98, 3) := by decide +kernel
theorem dX2_countRest_10 : decode cX2_countRest 10 = .ok (.astore 4, 2) := by decide +kernel
theorem dX2_countRest_12 : decode cX2_countRest 12 = .ok (.aload 4, 2) := by decide +kernel
theorem dX2_countRest_14 : decode cX2_countRest 14 = .ok (.iconst 0, 1) := by decide +kernel
theorem dX2_countRest_15 : decode cX2_countRest 15 = .ok (.invokestatic 102, 3) := by decide +kernel
theorem dX2_countRest_18 : decode cX2_countRest 18 = .ok (.aload 4, 2) := by decide +kernel
theorem dX2_countRest_20 : decode cX2_countRest 20 = .ok (.iconst 0, 1) := by decide +kernel
theorem dX2_countRest_21 : decode cX2_countRest 21 = .ok (.iconst 1, 1) := by decide +kernel
theorem dX2_countRest_22 : decode cX2_countRest 22 = .ok (.iastore, 1) := by decide +kernel
theorem dX2_countRest_23 : decode cX2_countRest 23 = .ok (.iload_n 3, 1) := by decide +kernel
theorem dX2_countRest_24 : decode cX2_countRest 24 = .ok (.iconst 1, 1) := by decide +kernel
theorem dX2_countRest_25 : decode cX2_countRest 25 = .ok (.isub, 1) := by decide +kernel
theorem dX2_countRest_26 : decode cX2_countRest 26 = .ok (.istore 5, 2) := by decide +kernel
theorem dX2_countRest_28 : decode cX2_countRest 28 = .ok (.iload 5, 2) := by decide +kernel
theorem dX2_countRest_30 : decode cX2_countRest 30 = .ok (.ifCond .lt 40, 3) := by decide +kernel
theorem dX2_countRest_33 : decode cX2_countRest 33 = .ok (.aload_n 0, 1) := by decide +kernel
theorem dX2_countRest_34 : decode cX2_countRest 34 = .ok (.lload_n 1, 1) := by decide +kernel
theorem dX2_countRest_35 : decode cX2_countRest 35 = .ok (.iload 5, 2) := by decide +kernel
theorem dX2_countRest_37 : decode cX2_countRest 37 = .ok (.invokevirtual 67, 3) := by decide +kernel
theorem dX2_countRest_40 : decode cX2_countRest 40 = .ok (.aload_n 0, 1) := by decide +kernel
theorem dX2_countRest_41 : decode cX2_countRest 41 = .ok (.lload_n 1, 1) := by decide +kernel
theorem dX2_countRest_42 : decode cX2_countRest 42 = .ok (.iload 5, 2) := by decide +kernel
theorem dX2_countRest_44 : decode cX2_countRest 44 = .ok (.invokestatic 63, 3) := by decide +kernel
theorem dX2_countRest_47 : decode cX2_countRest 47 = .ok (.aload_n 0, 1) := by decide +kernel
theorem dX2_countRest_48 : decode cX2_countRest 48 = .ok (.iload 5, 2) := by decide +kernel
theorem dX2_countRest_50 : decode cX2_countRest 50 = .ok (.invokevirtual 98, 3) := by decide +kernel
theorem dX2_countRest_53 : decode cX2_countRest 53 = .ok (.aload_n 0, 1) := by decide +kernel
theorem dX2_countRest_54 : decode cX2_countRest 54 = .ok (.iload 5, 2) := by decide +kernel
theorem dX2_countRest_56 : decode cX2_countRest 56 = .ok (.iconst 1, 1) := by decide +kernel
theorem dX2_countRest_57 : decode cX2_countRest 57 = .ok (.iadd, 1) := by decide +kernel
theorem dX2_countRest_58 : decode cX2_countRest 58 = .ok (.invokevirtual 98, 3) := by decide +kernel
theorem dX2_countRest_61 : decode cX2_countRest 61 = .ok (.invokevirtual 108, 3) := by decide +kernel
theorem dX2_countRest_64 : decode cX2_countRest 64 = .ok (.iinc 5 (-1), 3) := by decide +kernel
theorem dX2_countRest_67 : decode cX2_countRest 67 = .ok (.goto (-39), 3) := by decide +kernel
theorem dX2_countRest_70 : decode cX2_countRest 70 = .ok (.return_, 1) := by decide +kernel
theorem dX2_restOf_0 : decode cX2_restOf 0 = .ok (.aload_n 0, 1) := by decide +kernel
theorem dX2_restOf_1 : decode cX2_restOf 1 = .ok (.getfield 13, 3) := by decide +kernel
theorem dX2_restOf_4 : decode cX2_restOf 4 = .ok (.iconst 0, 1) := by decide +kernel
theorem dX2_restOf_5 : decode cX2_restOf 5 = .ok (.iload_n 1, 1) := by decide +kernel
theorem dX2_restOf_6 : decode cX2_restOf 6 = .ok (.bipush 64, 2) := by decide +kernel
theorem dX2_restOf_8 : decode cX2_restOf 8 = .ok (.invokestatic 112, 3) := by decide +kernel
theorem dX2_restOf_11 : decode cX2_restOf 11 = .ok (.invokestatic 117, 3) := by decide +kernel
theorem dX2_restOf_14 : decode cX2_restOf 14 = .ok (.aaload, 1) := by decide +kernel
theorem dX2_restOf_15 : decode cX2_restOf 15 = .ok (.areturn, 1) := by decide +kernel
theorem dX2_countPlace_0 : decode cX2_countPlace 0 = .ok (.iconst 0, 1) := by decide +kernel
theorem dX2_countPlace_1 : decode cX2_countPlace 1 = .ok (.istore 4, 2) := by decide +kernel
theorem dX2_countPlace_3 : decode cX2_countPlace 3 = .ok (.iload 4, 2) := by decide +kernel
theorem dX2_countPlace_5 : decode cX2_countPlace 5 = .ok (.sipush 512, 3) := by decide +kernel
theorem dX2_countPlace_8 : decode cX2_countPlace 8 = .ok (.if_icmp .ge 44, 3) := by decide +kernel
theorem dX2_countPlace_11 : decode cX2_countPlace 11 = .ok (.iload_n 1, 1) := by decide +kernel
theorem dX2_countPlace_12 : decode cX2_countPlace 12 = .ok (.ifCond .eq 24, 3) := by decide +kernel
theorem dX2_countPlace_15 : decode cX2_countPlace 15 = .ok (.iload 4, 2) := by decide +kernel
theorem dX2_countPlace_17 : decode cX2_countPlace 17 = .ok (.iconst 1, 1) := by decide +kernel
theorem dX2_countPlace_18 : decode cX2_countPlace 18 = .ok (.iand, 1) := by decide +kernel
theorem dX2_countPlace_19 : decode cX2_countPlace 19 = .ok (.ifCond .ne 17, 3) := by decide +kernel
theorem dX2_countPlace_22 : decode cX2_countPlace 22 = .ok (.aload_n 2, 1) := by decide +kernel
theorem dX2_countPlace_23 : decode cX2_countPlace 23 = .ok (.iload 4, 2) := by decide +kernel
theorem dX2_countPlace_25 : decode cX2_countPlace 25 = .ok (.aload_n 0, 1) := by decide +kernel
theorem dX2_countPlace_26 : decode cX2_countPlace 26 = .ok (.iload 4, 2) := by decide +kernel
theorem dX2_countPlace_28 : decode cX2_countPlace 28 = .ok (.aload_n 3, 1) := by decide +kernel
theorem dX2_countPlace_29 : decode cX2_countPlace 29 = .ok (.invokevirtual 120, 3) := by decide +kernel
theorem dX2_countPlace_32 : decode cX2_countPlace 32 = .ok (.iastore, 1) := by decide +kernel
theorem dX2_countPlace_33 : decode cX2_countPlace 33 = .ok (.goto 13, 3) := by decide +kernel
theorem dX2_countPlace_36 : decode cX2_countPlace 36 = .ok (.aload_n 2, 1) := by decide +kernel
theorem dX2_countPlace_37 : decode cX2_countPlace 37 = .ok (.iload 4, 2) := by decide +kernel
theorem dX2_countPlace_39 : decode cX2_countPlace 39 = .ok (.aload_n 3, 1) := by decide +kernel
theorem dX2_countPlace_40 : decode cX2_countPlace 40 = .ok (.iload 4, 2) := by decide +kernel
theorem dX2_countPlace_42 : decode cX2_countPlace 42 = .ok (.iconst 1, 1) := by decide +kernel
theorem dX2_countPlace_43 : decode cX2_countPlace 43 = .ok (.ishr, 1) := by decide +kernel
theorem dX2_countPlace_44 : decode cX2_countPlace 44 = .ok (.iaload, 1) := by decide +kernel
theorem dX2_countPlace_45 : decode cX2_countPlace 45 = .ok (.iastore, 1) := by decide +kernel
theorem dX2_countPlace_46 : decode cX2_countPlace 46 = .ok (.iinc 4 1, 3) := by decide +kernel
theorem dX2_countPlace_49 : decode cX2_countPlace 49 = .ok (.goto (-46), 3) := by decide +kernel
theorem dX2_countPlace_52 : decode cX2_countPlace 52 = .ok (.return_, 1) := by decide +kernel
theorem dX2_countTurns_0 : decode cX2_countTurns 0 = .ok (.iconst 0, 1) := by decide +kernel
theorem dX2_countTurns_1 : decode cX2_countTurns 1 = .ok (.istore_n 3, 1) := by decide +kernel
theorem dX2_countTurns_2 : decode cX2_countTurns 2 = .ok (.iconst 0, 1) := by decide +kernel
theorem dX2_countTurns_3 : decode cX2_countTurns 3 = .ok (.istore 4, 2) := by decide +kernel
theorem dX2_countTurns_5 : decode cX2_countTurns 5 = .ok (.iload 4, 2) := by decide +kernel
theorem dX2_countTurns_7 : decode cX2_countTurns 7 = .ok (.iconst 4, 1) := by decide +kernel
theorem dX2_countTurns_8 : decode cX2_countTurns 8 = .ok (.if_icmp .ge 31, 3) := by decide +kernel
theorem dX2_countTurns_11 : decode cX2_countTurns 11 = .ok (.aload_n 0, 1) := by decide +kernel
theorem dX2_countTurns_12 : decode cX2_countTurns 12 = .ok (.iload 4, 2) := by decide +kernel
theorem dX2_countTurns_14 : decode cX2_countTurns 14 = .ok (.iload_n 1, 1) := by decide +kernel
theorem dX2_countTurns_15 : decode cX2_countTurns 15 = .ok (.invokevirtual 81, 3) := by decide +kernel
theorem dX2_countTurns_18 : decode cX2_countTurns 18 = .ok (.ifCond .eq 15, 3) := by decide +kernel
theorem dX2_countTurns_21 : decode cX2_countTurns 21 = .ok (.iload_n 3, 1) := by decide +kernel
theorem dX2_countTurns_22 : decode cX2_countTurns 22 = .ok (.aload_n 2, 1) := by decide +kernel
theorem dX2_countTurns_23 : decode cX2_countTurns 23 = .ok (.aload_n 0, 1) := by decide +kernel
theorem dX2_countTurns_24 : decode cX2_countTurns 24 = .ok (.iload 4, 2) := by decide +kernel
theorem dX2_countTurns_26 : decode cX2_countTurns 26 = .ok (.iload_n 1, 1) := by decide +kernel
theorem dX2_countTurns_27 : decode cX2_countTurns 27 = .ok (.invokevirtual 85, 3) := by decide +kernel
theorem dX2_countTurns_30 : decode cX2_countTurns 30 = .ok (.iaload, 1) := by decide +kernel
theorem dX2_countTurns_31 : decode cX2_countTurns 31 = .ok (.iadd, 1) := by decide +kernel
theorem dX2_countTurns_32 : decode cX2_countTurns 32 = .ok (.istore_n 3, 1) := by decide +kernel
theorem dX2_countTurns_33 : decode cX2_countTurns 33 = .ok (.iinc 4 1, 3) := by decide +kernel
theorem dX2_countTurns_36 : decode cX2_countTurns 36 = .ok (.goto (-31), 3) := by decide +kernel
theorem dX2_countTurns_39 : decode cX2_countTurns 39 = .ok (.iload_n 3, 1) := by decide +kernel
theorem dX2_countTurns_40 : decode cX2_countTurns 40 = .ok (.ireturn, 1) := by decide +kernel
theorem dX2_restFrom_0 : decode cX2_restFrom 0 = .ok (.iload_n 2, 1) := by decide +kernel
theorem dX2_restFrom_1 : decode cX2_restFrom 1 = .ok (.ifCond .lt 20, 3) := by decide +kernel
theorem dX2_restFrom_4 : decode cX2_restFrom 4 = .ok (.iload_n 2, 1) := by decide +kernel
theorem dX2_restFrom_5 : decode cX2_restFrom 5 = .ok (.sipush 512, 3) := by decide +kernel
theorem dX2_restFrom_8 : decode cX2_restFrom 8 = .ok (.if_icmp .ge 13, 3) := by decide +kernel
theorem dX2_restFrom_11 : decode cX2_restFrom 11 = .ok (.aload_n 0, 1) := by decide +kernel
theorem dX2_restFrom_12 : decode cX2_restFrom 12 = .ok (.iload_n 1, 1) := by decide +kernel
theorem dX2_restFrom_13 : decode cX2_restFrom 13 = .ok (.invokevirtual 98, 3) := by decide +kernel
theorem dX2_restFrom_16 : decode cX2_restFrom 16 = .ok (.iload_n 2, 1) := by decide +kernel
theorem dX2_restFrom_17 : decode cX2_restFrom 17 = .ok (.iaload, 1) := by decide +kernel
theorem dX2_restFrom_18 : decode cX2_restFrom 18 = .ok (.goto 4, 3) := by decide +kernel
theorem dX2_restFrom_21 : decode cX2_restFrom 21 = .ok (.iconst 0, 1) := by decide +kernel
theorem dX2_restFrom_22 : decode cX2_restFrom 22 = .ok (.ireturn, 1) := by decide +kernel
theorem dX2_paveFirstWay_0 : decode cX2_paveFirstWay 0 = .ok (.aload_n 1, 1) := by decide +kernel
theorem dX2_paveFirstWay_1 : decode cX2_paveFirstWay 1 = .ok (.invokevirtual 124, 3) := by decide +kernel
theorem dX2_paveFirstWay_4 : decode cX2_paveFirstWay 4 = .ok (.lstore_n 2, 1) := by decide +kernel
theorem dX2_paveFirstWay_5 : decode cX2_paveFirstWay 5 = .ok (.aload_n 0, 1) := by decide +kernel
theorem dX2_paveFirstWay_6 : decode cX2_paveFirstWay 6 = .ok (.lload_n 2, 1) := by decide +kernel
theorem dX2_paveFirstWay_7 : decode cX2_paveFirstWay 7 = .ok (.invokevirtual 130, 3) := by decide +kernel
theorem dX2_paveFirstWay_10 : decode cX2_paveFirstWay 10 = .ok (.lload_n 2, 1) := by decide +kernel
theorem dX2_paveFirstWay_11 : decode cX2_paveFirstWay 11 = .ok (.invokestatic 39, 3) := by decide +kernel
theorem dX2_paveFirstWay_14 : decode cX2_paveFirstWay 14 = .ok (.istore 4, 2) := by decide +kernel
theorem dX2_paveFirstWay_16 : decode cX2_paveFirstWay 16 = .ok (.iconst 0, 1) := by decide +kernel
theorem dX2_paveFirstWay_17 : decode cX2_paveFirstWay 17 = .ok (.istore 5, 2) := by decide +kernel
theorem dX2_paveFirstWay_19 : decode cX2_paveFirstWay 19 = .ok (.iconst 0, 1) := by decide +kernel
theorem dX2_paveFirstWay_20 : decode cX2_paveFirstWay 20 = .ok (.istore 6, 2) := by decide +kernel
theorem dX2_paveFirstWay_22 : decode cX2_paveFirstWay 22 = .ok (.iload 6, 2) := by decide +kernel
theorem dX2_paveFirstWay_24 : decode cX2_paveFirstWay 24 = .ok (.iload 4, 2) := by decide +kernel
theorem dX2_paveFirstWay_26 : decode cX2_paveFirstWay 26 = .ok (.if_icmp .ge 69, 3) := by decide +kernel
theorem dX2_paveFirstWay_29 : decode cX2_paveFirstWay 29 = .ok (.aload_n 0, 1) := by decide +kernel
theorem dX2_paveFirstWay_30 : decode cX2_paveFirstWay 30 = .ok (.lload_n 2, 1) := by decide +kernel
theorem dX2_paveFirstWay_31 : decode cX2_paveFirstWay 31 = .ok (.iload 6, 2) := by decide +kernel
theorem dX2_paveFirstWay_33 : decode cX2_paveFirstWay 33 = .ok (.invokevirtual 67, 3) := by decide +kernel
theorem dX2_paveFirstWay_36 : decode cX2_paveFirstWay 36 = .ok (.aload_n 0, 1) := by decide +kernel
theorem dX2_paveFirstWay_37 : decode cX2_paveFirstWay 37 = .ok (.iload 6, 2) := by decide +kernel
theorem dX2_paveFirstWay_39 : decode cX2_paveFirstWay 39 = .ok (.iload 5, 2) := by decide +kernel
theorem dX2_paveFirstWay_41 : decode cX2_paveFirstWay 41 = .ok (.invokevirtual 134, 3) := by decide +kernel
theorem dX2_paveFirstWay_44 : decode cX2_paveFirstWay 44 = .ok (.istore 7, 2) := by decide +kernel
theorem dX2_paveFirstWay_46 : decode cX2_paveFirstWay 46 = .ok (.iload 7, 2) := by decide +kernel
theorem dX2_paveFirstWay_48 : decode cX2_paveFirstWay 48 = .ok (.iconst (-1), 1) := by decide +kernel
theorem dX2_paveFirstWay_49 : decode cX2_paveFirstWay 49 = .ok (.if_icmp .ne 12, 3) := by decide +kernel
theorem dX2_paveFirstWay_52 : decode cX2_paveFirstWay 52 = .ok (.iload 5, 2) := by decide +kernel
theorem dX2_paveFirstWay_54 : decode cX2_paveFirstWay 54 = .ok (.iconst 1, 1) := by decide +kernel
theorem dX2_paveFirstWay_55 : decode cX2_paveFirstWay 55 = .ok (.ishr, 1) := by decide +kernel
theorem dX2_paveFirstWay_56 : decode cX2_paveFirstWay 56 = .ok (.istore 5, 2) := by decide +kernel
theorem dX2_paveFirstWay_58 : decode cX2_paveFirstWay 58 = .ok (.goto 31, 3) := by decide +kernel
theorem dX2_paveFirstWay_61 : decode cX2_paveFirstWay 61 = .ok (.aload_n 1, 1) := by decide +kernel
theorem dX2_paveFirstWay_62 : decode cX2_paveFirstWay 62 = .ok (.iload 6, 2) := by decide +kernel
theorem dX2_paveFirstWay_64 : decode cX2_paveFirstWay 64 = .ok (.iload 7, 2) := by decide +kernel
theorem dX2_paveFirstWay_66 : decode cX2_paveFirstWay 66 = .ok (.invokestatic 89, 3) := by decide +kernel
theorem dX2_paveFirstWay_69 : decode cX2_paveFirstWay 69 = .ok (.iload 6, 2) := by decide +kernel
theorem dX2_paveFirstWay_71 : decode cX2_paveFirstWay 71 = .ok (.bipush 8, 2) := by decide +kernel
theorem dX2_paveFirstWay_73 : decode cX2_paveFirstWay 73 = .ok (.idiv, 1) := by decide +kernel
theorem dX2_paveFirstWay_74 : decode cX2_paveFirstWay 74 = .ok (.iload 7, 2) := by decide +kernel
theorem dX2_paveFirstWay_76 : decode cX2_paveFirstWay 76 = .ok (.invokevirtual 137, 3) := by decide +kernel
theorem dX2_paveFirstWay_79 : decode cX2_paveFirstWay 79 = .ok (.aload_n 0, 1) := by decide +kernel
theorem dX2_paveFirstWay_80 : decode cX2_paveFirstWay 80 = .ok (.iload 7, 2) := by decide +kernel
theorem dX2_paveFirstWay_82 : decode cX2_paveFirstWay 82 = .ok (.iload 5, 2) := by decide +kernel
theorem dX2_paveFirstWay_84 : decode cX2_paveFirstWay 84 = .ok (.invokevirtual 85, 3) := by decide +kernel
theorem dX2_paveFirstWay_87 : decode cX2_paveFirstWay 87 = .ok (.istore 5, 2) := by decide +kernel
theorem dX2_paveFirstWay_89 : decode cX2_paveFirstWay 89 = .ok (.iinc 6 1, 3) := by decide +kernel
theorem dX2_paveFirstWay_92 : decode cX2_paveFirstWay 92 = .ok (.goto (-70), 3) := by decide +kernel
theorem dX2_paveFirstWay_95 : decode cX2_paveFirstWay 95 = .ok (.return_, 1) := by decide +kernel
theorem dX2_leastTurn_0 : decode cX2_leastTurn 0 = .ok (.iconst 0, 1) := by decide +kernel
theorem dX2_leastTurn_1 : decode cX2_leastTurn 1 = .ok (.istore_n 3, 1) := by decide +kernel
theorem dX2_leastTurn_2 : decode cX2_leastTurn 2 = .ok (.iload_n 3, 1) := by decide +kernel
theorem dX2_leastTurn_3 : decode cX2_leastTurn 3 = .ok (.iconst 4, 1) := by decide +kernel
theorem dX2_leastTurn_4 : decode cX2_leastTurn 4 = .ok (.if_icmp .ge 36, 3) := by decide +kernel
theorem dX2_leastTurn_7 : decode cX2_leastTurn 7 = .ok (.aload_n 0, 1) := by decide +kernel
theorem dX2_leastTurn_8 : decode cX2_leastTurn 8 = .ok (.iload_n 3, 1) := by decide +kernel
theorem dX2_leastTurn_9 : decode cX2_leastTurn 9 = .ok (.iload_n 2, 1) := by decide +kernel
theorem dX2_leastTurn_10 : decode cX2_leastTurn 10 = .ok (.invokevirtual 81, 3) := by decide +kernel
theorem dX2_leastTurn_13 : decode cX2_leastTurn 13 = .ok (.ifCond .eq 21, 3) := by decide +kernel
theorem dX2_leastTurn_16 : decode cX2_leastTurn 16 = .ok (.aload_n 0, 1) := by decide +kernel
theorem dX2_leastTurn_17 : decode cX2_leastTurn 17 = .ok (.iload_n 1, 1) := by decide +kernel
theorem dX2_leastTurn_18 : decode cX2_leastTurn 18 = .ok (.iconst 1, 1) := by decide +kernel
theorem dX2_leastTurn_19 : decode cX2_leastTurn 19 = .ok (.iadd, 1) := by decide +kernel
theorem dX2_leastTurn_20 : decode cX2_leastTurn 20 = .ok (.aload_n 0, 1) := by decide +kernel
theorem dX2_leastTurn_21 : decode cX2_leastTurn 21 = .ok (.iload_n 3, 1) := by decide +kernel
theorem dX2_leastTurn_22 : decode cX2_leastTurn 22 = .ok (.iload_n 2, 1) := by decide +kernel
theorem dX2_leastTurn_23 : decode cX2_leastTurn 23 = .ok (.invokevirtual 85, 3) := by decide +kernel
theorem dX2_leastTurn_26 : decode cX2_leastTurn 26 = .ok (.invokevirtual 141, 3) := by decide +kernel
theorem dX2_leastTurn_29 : decode cX2_leastTurn 29 = .ok (.ifCond .eq 5, 3) := by decide +kernel
theorem dX2_leastTurn_32 : decode cX2_leastTurn 32 = .ok (.iload_n 3, 1) := by decide +kernel
theorem dX2_leastTurn_33 : decode cX2_leastTurn 33 = .ok (.ireturn, 1) := by decide +kernel
theorem dX2_leastTurn_34 : decode cX2_leastTurn 34 = .ok (.iinc 3 1, 3) := by decide +kernel
theorem dX2_leastTurn_37 : decode cX2_leastTurn 37 = .ok (.goto (-35), 3) := by decide +kernel
theorem dX2_leastTurn_40 : decode cX2_leastTurn 40 = .ok (.iconst (-1), 1) := by decide +kernel
theorem dX2_leastTurn_41 : decode cX2_leastTurn 41 = .ok (.ireturn, 1) := by decide +kernel
theorem dX2_bestGap_0 : decode cX2_bestGap 0 = .ok (.aload_n 0, 1) := by decide +kernel
theorem dX2_bestGap_1 : decode cX2_bestGap 1 = .ok (.lload_n 1, 1) := by decide +kernel
theorem dX2_bestGap_2 : decode cX2_bestGap 2 = .ok (.invokevirtual 130, 3) := by decide +kernel
theorem dX2_bestGap_5 : decode cX2_bestGap 5 = .ok (.aload_n 0, 1) := by decide +kernel
theorem dX2_bestGap_6 : decode cX2_bestGap 6 = .ok (.invokevirtual 36, 3) := by decide +kernel
theorem dX2_bestGap_9 : decode cX2_bestGap 9 = .ok (.iconst (-1), 1) := by decide +kernel
theorem dX2_bestGap_10 : decode cX2_bestGap 10 = .ok (.istore_n 3, 1) := by decide +kernel
theorem dX2_bestGap_11 : decode cX2_bestGap 11 = .ok (.iconst 0, 1) := by decide +kernel
theorem dX2_bestGap_12 : decode cX2_bestGap 12 = .ok (.istore 4, 2) := by decide +kernel
theorem dX2_bestGap_14 : decode cX2_bestGap 14 = .ok (.lload_n 1, 1) := by decide +kernel
theorem dX2_bestGap_15 : decode cX2_bestGap 15 = .ok (.invokestatic 39, 3) := by decide +kernel
theorem dX2_bestGap_18 : decode cX2_bestGap 18 = .ok (.istore 5, 2) := by decide +kernel
theorem dX2_bestGap_20 : decode cX2_bestGap 20 = .ok (.iconst 0, 1) := by decide +kernel
theorem dX2_bestGap_21 : decode cX2_bestGap 21 = .ok (.istore 6, 2) := by decide +kernel
theorem dX2_bestGap_23 : decode cX2_bestGap 23 = .ok (.iload 6, 2) := by decide +kernel
theorem dX2_bestGap_25 : decode cX2_bestGap 25 = .ok (.iload 5, 2) := by decide +kernel
theorem dX2_bestGap_27 : decode cX2_bestGap 27 = .ok (.if_icmp .ge 51, 3) := by decide +kernel
theorem dX2_bestGap_30 : decode cX2_bestGap 30 = .ok (.lload_n 1, 1) := by decide +kernel
theorem dX2_bestGap_31 : decode cX2_bestGap 31 = .ok (.iload 6, 2) := by decide +kernel
theorem dX2_bestGap_33 : decode cX2_bestGap 33 = .ok (.invokestatic 63, 3) := by decide +kernel
theorem dX2_bestGap_36 : decode cX2_bestGap 36 = .ok (.ifCond .eq 12, 3) := by decide +kernel
theorem dX2_bestGap_39 : decode cX2_bestGap 39 = .ok (.aload_n 0, 1) := by decide +kernel
theorem dX2_bestGap_40 : decode cX2_bestGap 40 = .ok (.iload 6, 2) := by decide +kernel
theorem dX2_bestGap_42 : decode cX2_bestGap 42 = .ok (.invokevirtual 144, 3) := by decide +kernel
theorem dX2_bestGap_45 : decode cX2_bestGap 45 = .ok (.goto 4, 3) := by decide +kernel
theorem dX2_bestGap_48 : decode cX2_bestGap 48 = .ok (.iconst 0, 1) := by decide +kernel
theorem dX2_bestGap_49 : decode cX2_bestGap 49 = .ok (.istore 7, 2) := by decide +kernel
theorem dX2_bestGap_51 : decode cX2_bestGap 51 = .ok (.iload 7, 2) := by decide +kernel
theorem dX2_bestGap_53 : decode cX2_bestGap 53 = .ok (.iload 4, 2) := by decide +kernel
theorem dX2_bestGap_55 : decode cX2_bestGap 55 = .ok (.if_icmp .le 10, 3) := by decide +kernel
theorem dX2_bestGap_58 : decode cX2_bestGap 58 = .ok (.iload 7, 2) := by decide +kernel
theorem dX2_bestGap_60 : decode cX2_bestGap 60 = .ok (.istore 4, 2) := by decide +kernel
theorem dX2_bestGap_62 : decode cX2_bestGap 62 = .ok (.iload 6, 2) := by decide +kernel
theorem dX2_bestGap_64 : decode cX2_bestGap 64 = .ok (.istore_n 3, 1) := by decide +kernel
theorem dX2_bestGap_65 : decode cX2_bestGap 65 = .ok (.aload_n 0, 1) := by decide +kernel
theorem dX2_bestGap_66 : decode cX2_bestGap 66 = .ok (.lload_n 1, 1) := by decide +kernel
theorem dX2_bestGap_67 : decode cX2_bestGap 67 = .ok (.iload 6, 2) := by decide +kernel
theorem dX2_bestGap_69 : decode cX2_bestGap 69 = .ok (.invokevirtual 45, 3) := by decide +kernel
theorem dX2_bestGap_72 : decode cX2_bestGap 72 = .ok (.iinc 6 1, 3) := by decide +kernel
theorem dX2_bestGap_75 : decode cX2_bestGap 75 = .ok (.goto (-52), 3) := by decide +kernel
theorem dX2_bestGap_78 : decode cX2_bestGap 78 = .ok (.iload_n 3, 1) := by decide +kernel
theorem dX2_bestGap_79 : decode cX2_bestGap 79 = .ok (.ireturn, 1) := by decide +kernel
theorem dX2_waysAround_0 : decode cX2_waysAround 0 = .ok (.iconst 0, 1) := by decide +kernel
theorem dX2_waysAround_1 : decode cX2_waysAround 1 = .ok (.istore_n 2, 1) := by decide +kernel
theorem dX2_waysAround_2 : decode cX2_waysAround 2 = .ok (.iconst 0, 1) := by decide +kernel
theorem dX2_waysAround_3 : decode cX2_waysAround 3 = .ok (.istore_n 3, 1) := by decide +kernel
theorem dX2_waysAround_4 : decode cX2_waysAround 4 = .ok (.iload_n 3, 1) := by decide +kernel
theorem dX2_waysAround_5 : decode cX2_waysAround 5 = .ok (.aload_n 0, 1) := by decide +kernel
theorem dX2_waysAround_6 : decode cX2_waysAround 6 = .ok (.getfield 23, 3) := by decide +kernel
theorem dX2_waysAround_9 : decode cX2_waysAround 9 = .ok (.getfield 70, 3) := by decide +kernel
theorem dX2_waysAround_12 : decode cX2_waysAround 12 = .ok (.if_icmp .ge 50, 3) := by decide +kernel
theorem dX2_waysAround_15 : decode cX2_waysAround 15 = .ok (.aload_n 0, 1) := by decide +kernel
theorem dX2_waysAround_16 : decode cX2_waysAround 16 = .ok (.getfield 23, 3) := by decide +kernel
theorem dX2_waysAround_19 : decode cX2_waysAround 19 = .ok (.iload_n 3, 1) := by decide +kernel
theorem dX2_waysAround_20 : decode cX2_waysAround 20 = .ok (.invokevirtual 74, 3) := by decide +kernel
theorem dX2_waysAround_23 : decode cX2_waysAround 23 = .ok (.istore 4, 2) := by decide +kernel
theorem dX2_waysAround_25 : decode cX2_waysAround 25 = .ok (.iload 4, 2) := by decide +kernel
theorem dX2_waysAround_27 : decode cX2_waysAround 27 = .ok (.iconst 1, 1) := by decide +kernel
theorem dX2_waysAround_28 : decode cX2_waysAround 28 = .ok (.iand, 1) := by decide +kernel
theorem dX2_waysAround_29 : decode cX2_waysAround 29 = .ok (.ifCond .ne 27, 3) := by decide +kernel
theorem dX2_waysAround_32 : decode cX2_waysAround 32 = .ok (.iload_n 2, 1) := by decide +kernel
theorem dX2_waysAround_33 : decode cX2_waysAround 33 = .ok (.aload_n 0, 1) := by decide +kernel
theorem dX2_waysAround_34 : decode cX2_waysAround 34 = .ok (.getfield 23, 3) := by decide +kernel
theorem dX2_waysAround_37 : decode cX2_waysAround 37 = .ok (.iload 4, 2) := by decide +kernel
theorem dX2_waysAround_39 : decode cX2_waysAround 39 = .ok (.invokevirtual 49, 3) := by decide +kernel
theorem dX2_waysAround_42 : decode cX2_waysAround 42 = .ok (.aload_n 0, 1) := by decide +kernel
theorem dX2_waysAround_43 : decode cX2_waysAround 43 = .ok (.iload_n 1, 1) := by decide +kernel
theorem dX2_waysAround_44 : decode cX2_waysAround 44 = .ok (.iconst 1, 1) := by decide +kernel
theorem dX2_waysAround_45 : decode cX2_waysAround 45 = .ok (.iadd, 1) := by decide +kernel
theorem dX2_waysAround_46 : decode cX2_waysAround 46 = .ok (.iload 4, 2) := by decide +kernel
theorem dX2_waysAround_48 : decode cX2_waysAround 48 = .ok (.iconst 1, 1) := by decide +kernel
theorem dX2_waysAround_49 : decode cX2_waysAround 49 = .ok (.ishr, 1) := by decide +kernel
theorem dX2_waysAround_50 : decode cX2_waysAround 50 = .ok (.invokevirtual 141, 3) := by decide +kernel
theorem dX2_waysAround_53 : decode cX2_waysAround 53 = .ok (.imul, 1) := by decide +kernel
theorem dX2_waysAround_54 : decode cX2_waysAround 54 = .ok (.iadd, 1) := by decide +kernel
theorem dX2_waysAround_55 : decode cX2_waysAround 55 = .ok (.istore_n 2, 1) := by decide +kernel
theorem dX2_waysAround_56 : decode cX2_waysAround 56 = .ok (.iinc 3 1, 3) := by decide +kernel
theorem dX2_waysAround_59 : decode cX2_waysAround 59 = .ok (.goto (-55), 3) := by decide +kernel
theorem dX2_waysAround_62 : decode cX2_waysAround 62 = .ok (.iload_n 2, 1) := by decide +kernel
theorem dX2_waysAround_63 : decode cX2_waysAround 63 = .ok (.ireturn, 1) := by decide +kernel
theorem dX6_init_0 : decode cX6_init 0 = .ok (.aload_n 0, 1) := by decide +kernel
theorem dX6_init_1 : decode cX6_init 1 = .ok (.invokespecial 1, 3) := by decide +kernel
theorem dX6_init_4 : decode cX6_init 4 = .ok (.aload_n 0, 1) := by decide +kernel
theorem dX6_init_5 : decode cX6_init 5 = .ok (.iconst 0, 1) := by decide +kernel
theorem dX6_init_6 : decode cX6_init 6 = .ok (.putfield 7, 3) := by decide +kernel
theorem dX6_init_9 : decode cX6_init 9 = .ok (.aload_n 0, 1) := by decide +kernel
theorem dX6_init_10 : decode cX6_init 10 = .ok (.sipush 512, 3) := by decide +kernel
theorem dX6_init_13 : decode cX6_init 13 = .ok (.newarray .int, 2) := by decide +kernel
theorem dX6_init_15 : decode cX6_init 15 = .ok (.putfield 15, 3) := by decide +kernel
theorem dX6_init_18 : decode cX6_init 18 = .ok (.aload_n 0, 1) := by decide +kernel
theorem dX6_init_19 : decode cX6_init 19 = .ok (.sipush 512, 3) := by decide +kernel
theorem dX6_init_22 : decode cX6_init 22 = .ok (.newarray .int, 2) := by decide +kernel
theorem dX6_init_24 : decode cX6_init 24 = .ok (.putfield 19, 3) := by decide +kernel
theorem dX6_init_27 : decode cX6_init 27 = .ok (.return_, 1) := by decide +kernel
theorem dX6_clear_0 : decode cX6_clear 0 = .ok (.iconst 0, 1) := by decide +kernel
theorem dX6_clear_1 : decode cX6_clear 1 = .ok (.istore_n 1, 1) := by decide +kernel
theorem dX6_clear_2 : decode cX6_clear 2 = .ok (.iload_n 1, 1) := by decide +kernel
theorem dX6_clear_3 : decode cX6_clear 3 = .ok (.aload_n 0, 1) := by decide +kernel
theorem dX6_clear_4 : decode cX6_clear 4 = .ok (.getfield 7, 3) := by decide +kernel
theorem dX6_clear_7 : decode cX6_clear 7 = .ok (.if_icmp .ge 20, 3) := by decide +kernel
theorem dX6_clear_10 : decode cX6_clear 10 = .ok (.aload_n 0, 1) := by decide +kernel
theorem dX6_clear_11 : decode cX6_clear 11 = .ok (.getfield 19, 3) := by decide +kernel
theorem dX6_clear_14 : decode cX6_clear 14 = .ok (.aload_n 0, 1) := by decide +kernel
theorem dX6_clear_15 : decode cX6_clear 15 = .ok (.iload_n 1, 1) := by decide +kernel
theorem dX6_clear_16 : decode cX6_clear 16 = .ok (.invokevirtual 22, 3) := by decide +kernel
theorem dX6_clear_19 : decode cX6_clear 19 = .ok (.iconst 0, 1) := by decide +kernel
theorem dX6_clear_20 : decode cX6_clear 20 = .ok (.iastore, 1) := by decide +kernel
theorem dX6_clear_21 : decode cX6_clear 21 = .ok (.iinc 1 1, 3) := by decide +kernel
theorem dX6_clear_24 : decode cX6_clear 24 = .ok (.goto (-22), 3) := by decide +kernel
theorem dX6_clear_27 : decode cX6_clear 27 = .ok (.aload_n 0, 1) := by decide +kernel
theorem dX6_clear_28 : decode cX6_clear 28 = .ok (.iconst 0, 1) := by decide +kernel
theorem dX6_clear_29 : decode cX6_clear 29 = .ok (.putfield 7, 3) := by decide +kernel
theorem dX6_clear_32 : decode cX6_clear 32 = .ok (.return_, 1) := by decide +kernel
theorem dX6_add_0 : decode cX6_add 0 = .ok (.iload_n 1, 1) := by decide +kernel
theorem dX6_add_1 : decode cX6_add 1 = .ok (.ifCond .lt 12, 3) := by decide +kernel
theorem dX6_add_4 : decode cX6_add 4 = .ok (.iload_n 1, 1) := by decide +kernel
theorem dX6_add_5 : decode cX6_add 5 = .ok (.aload_n 0, 1) := by decide +kernel
theorem dX6_add_6 : decode cX6_add 6 = .ok (.getfield 19, 3) := by decide +kernel
theorem dX6_add_9 : decode cX6_add 9 = .ok (.arraylength, 1) := by decide +kernel
theorem dX6_add_10 : decode cX6_add 10 = .ok (.if_icmp .lt 4, 3) := by decide +kernel
theorem dX6_add_13 : decode cX6_add 13 = .ok (.return_, 1) := by decide +kernel
theorem dX6_add_14 : decode cX6_add 14 = .ok (.aload_n 0, 1) := by decide +kernel
theorem dX6_add_15 : decode cX6_add 15 = .ok (.getfield 19, 3) := by decide +kernel
theorem dX6_add_18 : decode cX6_add 18 = .ok (.iload_n 1, 1) := by decide +kernel
theorem dX6_add_19 : decode cX6_add 19 = .ok (.iaload, 1) := by decide +kernel
theorem dX6_add_20 : decode cX6_add 20 = .ok (.ifCond .ne 35, 3) := by decide +kernel
theorem dX6_add_23 : decode cX6_add 23 = .ok (.aload_n 0, 1) := by decide +kernel
theorem dX6_add_24 : decode cX6_add 24 = .ok (.getfield 7, 3) := by decide +kernel
theorem dX6_add_27 : decode cX6_add 27 = .ok (.aload_n 0, 1) := by decide +kernel
theorem dX6_add_28 : decode cX6_add 28 = .ok (.getfield 15, 3) := by decide +kernel
theorem dX6_add_31 : decode cX6_add 31 = .ok (.arraylength, 1) := by decide +kernel
theorem dX6_add_32 : decode cX6_add 32 = .ok (.if_icmp .ge 23, 3) := by decide +kernel
theorem dX6_add_35 : decode cX6_add 35 = .ok (.aload_n 0, 1) := by decide +kernel
theorem dX6_add_36 : decode cX6_add 36 = .ok (.getfield 15, 3) := by decide +kernel
theorem dX6_add_39 : decode cX6_add 39 = .ok (.aload_n 0, 1) := by decide +kernel
theorem dX6_add_40 : decode cX6_add 40 = .ok (.getfield 7, 3) := by decide +kernel
theorem dX6_add_43 : decode cX6_add 43 = .ok (.iload_n 1, 1) := by decide +kernel
theorem dX6_add_44 : decode cX6_add 44 = .ok (.iastore, 1) := by decide +kernel
theorem dX6_add_45 : decode cX6_add 45 = .ok (.aload_n 0, 1) := by decide +kernel
theorem dX6_add_46 : decode cX6_add 46 = .ok (.dup, 1) := by decide +kernel
theorem dX6_add_47 : decode cX6_add 47 = .ok (.getfield 7, 3) := by decide +kernel
theorem dX6_add_50 : decode cX6_add 50 = .ok (.iconst 1, 1) := by decide +kernel
theorem dX6_add_51 : decode cX6_add 51 = .ok (.iadd, 1) := by decide +kernel
theorem dX6_add_52 : decode cX6_add 52 = .ok (.putfield 7, 3) := by decide +kernel
theorem dX6_add_55 : decode cX6_add 55 = .ok (.aload_n 0, 1) := by decide +kernel
theorem dX6_add_56 : decode cX6_add 56 = .ok (.getfield 19, 3) := by decide +kernel
theorem dX6_add_59 : decode cX6_add 59 = .ok (.iload_n 1, 1) := by decide +kernel
theorem dX6_add_60 : decode cX6_add 60 = .ok (.dup2, 1) := by decide +kernel
theorem dX6_add_61 : decode cX6_add 61 = .ok (.iaload, 1) := by decide +kernel
theorem dX6_add_62 : decode cX6_add 62 = .ok (.iload_n 2, 1) := by decide +kernel
theorem dX6_add_63 : decode cX6_add 63 = .ok (.iadd, 1) := by decide +kernel
theorem dX6_add_64 : decode cX6_add 64 = .ok (.iastore, 1) := by decide +kernel
theorem dX6_add_65 : decode cX6_add 65 = .ok (.return_, 1) := by decide +kernel
theorem dX6_windowAt_0 : decode cX6_windowAt 0 = .ok (.iload_n 1, 1) := by decide +kernel
theorem dX6_windowAt_1 : decode cX6_windowAt 1 = .ok (.ifCond .lt 21, 3) := by decide +kernel
theorem dX6_windowAt_4 : decode cX6_windowAt 4 = .ok (.iload_n 1, 1) := by decide +kernel
theorem dX6_windowAt_5 : decode cX6_windowAt 5 = .ok (.aload_n 0, 1) := by decide +kernel
theorem dX6_windowAt_6 : decode cX6_windowAt 6 = .ok (.getfield 15, 3) := by decide +kernel
theorem dX6_windowAt_9 : decode cX6_windowAt 9 = .ok (.arraylength, 1) := by decide +kernel
theorem dX6_windowAt_10 : decode cX6_windowAt 10 = .ok (.if_icmp .ge 12, 3) := by decide +kernel
theorem dX6_windowAt_13 : decode cX6_windowAt 13 = .ok (.aload_n 0, 1) := by decide +kernel
theorem dX6_windowAt_14 : decode cX6_windowAt 14 = .ok (.getfield 15, 3) := by decide +kernel
theorem dX6_windowAt_17 : decode cX6_windowAt 17 = .ok (.iload_n 1, 1) := by decide +kernel
theorem dX6_windowAt_18 : decode cX6_windowAt 18 = .ok (.iaload, 1) := by decide +kernel
theorem dX6_windowAt_19 : decode cX6_windowAt 19 = .ok (.goto 4, 3) := by decide +kernel
theorem dX6_windowAt_22 : decode cX6_windowAt 22 = .ok (.iconst 0, 1) := by decide +kernel
theorem dX6_windowAt_23 : decode cX6_windowAt 23 = .ok (.ireturn, 1) := by decide +kernel
theorem dX6_waysTo_0 : decode cX6_waysTo 0 = .ok (.iload_n 1, 1) := by decide +kernel
theorem dX6_waysTo_1 : decode cX6_waysTo 1 = .ok (.ifCond .lt 21, 3) := by decide +kernel
theorem dX6_waysTo_4 : decode cX6_waysTo 4 = .ok (.iload_n 1, 1) := by decide +kernel
theorem dX6_waysTo_5 : decode cX6_waysTo 5 = .ok (.aload_n 0, 1) := by decide +kernel
theorem dX6_waysTo_6 : decode cX6_waysTo 6 = .ok (.getfield 19, 3) := by decide +kernel
theorem dX6_waysTo_9 : decode cX6_waysTo 9 = .ok (.arraylength, 1) := by decide +kernel
theorem dX6_waysTo_10 : decode cX6_waysTo 10 = .ok (.if_icmp .ge 12, 3) := by decide +kernel
theorem dX6_waysTo_13 : decode cX6_waysTo 13 = .ok (.aload_n 0, 1) := by decide +kernel
theorem dX6_waysTo_14 : decode cX6_waysTo 14 = .ok (.getfield 19, 3) := by decide +kernel
theorem dX6_waysTo_17 : decode cX6_waysTo 17 = .ok (.iload_n 1, 1) := by decide +kernel
theorem dX6_waysTo_18 : decode cX6_waysTo 18 = .ok (.iaload, 1) := by decide +kernel
theorem dX6_waysTo_19 : decode cX6_waysTo 19 = .ok (.goto 4, 3) := by decide +kernel
theorem dX6_waysTo_22 : decode cX6_waysTo 22 = .ok (.iconst 0, 1) := by decide +kernel
theorem dX6_waysTo_23 : decode cX6_waysTo 23 = .ok (.ireturn, 1) := by decide +kernel
theorem dX3_init_0 : decode cX3_init 0 = .ok (.aload_n 0, 1) := by decide +kernel
theorem dX3_init_1 : decode cX3_init 1 = .ok (.invokespecial 3, 3) := by decide +kernel
theorem dX3_init_4 : decode cX3_init 4 = .ok (.aload_n 0, 1) := by decide +kernel
theorem dX3_init_5 : decode cX3_init 5 = .ok (.bipush 8, 2) := by decide +kernel
theorem dX3_init_7 : decode cX3_init 7 = .ok (.putfield 9, 3) := by decide +kernel
theorem dX3_init_10 : decode cX3_init 10 = .ok (.aload_n 0, 1) := by decide +kernel
theorem dX3_init_11 : decode cX3_init 11 = .ok (.iconst 0, 1) := by decide +kernel
theorem dX3_init_12 : decode cX3_init 12 = .ok (.putfield 15, 3) := by decide +kernel
theorem dX3_init_15 : decode cX3_init 15 = .ok (.aload_n 0, 1) := by decide +kernel
theorem dX3_init_16 : decode cX3_init 16 = .ok (.iconst (-1), 1) := by decide +kernel
theorem dX3_init_17 : decode cX3_init 17 = .ok (.putfield 18, 3) := by decide +kernel
theorem dX3_init_20 : decode cX3_init 20 = .ok (.aload_n 0, 1) := by decide +kernel
theorem dX3_init_21 : decode cX3_init 21 = .ok (.lconst 0, 1) := by decide +kernel
theorem dX3_init_22 : decode cX3_init 22 = .ok (.putfield 21, 3) := by decide +kernel
theorem dX3_init_25 : decode cX3_init 25 = .ok (.aload_n 0, 1) := by decide +kernel
theorem dX3_init_26 : decode cX3_init 26 = .ok (.iconst 0, 1) := by decide +kernel
theorem dX3_init_27 : decode cX3_init 27 = .ok (.putfield 25, 3) := by decide +kernel
theorem dX3_init_30 : decode cX3_init 30 = .ok (.return_, 1) := by decide +kernel
theorem dX3_isNext_0 : decode cX3_isNext 0 = .ok (.iload_n 1, 1) := by decide +kernel
theorem dX3_isNext_1 : decode cX3_isNext 1 = .ok (.bipush 47, 2) := by decide +kernel
theorem dX3_isNext_3 : decode cX3_isNext 3 = .ok (.if_icmp .ne 27, 3) := by decide +kernel
theorem dX3_isNext_6 : decode cX3_isNext 6 = .ok (.aload_n 0, 1) := by decide +kernel
theorem dX3_isNext_7 : decode cX3_isNext 7 = .ok (.invokevirtual 28, 3) := by decide +kernel
theorem dX3_isNext_10 : decode cX3_isNext 10 = .ok (.ifCond .eq 18, 3) := by decide +kernel
theorem dX3_isNext_13 : decode cX3_isNext 13 = .ok (.aload_n 0, 1) := by decide +kernel
theorem dX3_isNext_14 : decode cX3_isNext 14 = .ok (.getfield 15, 3) := by decide +kernel
theorem dX3_isNext_17 : decode cX3_isNext 17 = .ok (.iconst 1, 1) := by decide +kernel
theorem dX3_isNext_18 : decode cX3_isNext 18 = .ok (.iadd, 1) := by decide +kernel
theorem dX3_isNext_19 : decode cX3_isNext 19 = .ok (.bipush 8, 2) := by decide +kernel
theorem dX3_isNext_21 : decode cX3_isNext 21 = .ok (.if_icmp .ge 7, 3) := by decide +kernel
theorem dX3_isNext_24 : decode cX3_isNext 24 = .ok (.iconst 1, 1) := by decide +kernel
theorem dX3_isNext_25 : decode cX3_isNext 25 = .ok (.goto 4, 3) := by decide +kernel
theorem dX3_isNext_28 : decode cX3_isNext 28 = .ok (.iconst 0, 1) := by decide +kernel
theorem dX3_isNext_29 : decode cX3_isNext 29 = .ok (.ireturn, 1) := by decide +kernel
theorem dX3_isNext_30 : decode cX3_isNext 30 = .ok (.aload_n 0, 1) := by decide +kernel
theorem dX3_isNext_31 : decode cX3_isNext 31 = .ok (.getfield 25, 3) := by decide +kernel
theorem dX3_isNext_34 : decode cX3_isNext 34 = .ok (.aload_n 0, 1) := by decide +kernel
theorem dX3_isNext_35 : decode cX3_isNext 35 = .ok (.getfield 9, 3) := by decide +kernel
theorem dX3_isNext_38 : decode cX3_isNext 38 = .ok (.if_icmp .lt 5, 3) := by decide +kernel
theorem dX3_isNext_41 : decode cX3_isNext 41 = .ok (.iconst 0, 1) := by decide +kernel
theorem dX3_isNext_42 : decode cX3_isNext 42 = .ok (.ireturn, 1) := by decide +kernel
theorem dX3_isNext_43 : decode cX3_isNext 43 = .ok (.iload_n 1, 1) := by decide +kernel
theorem dX3_isNext_44 : decode cX3_isNext 44 = .ok (.bipush 111, 2) := by decide +kernel
theorem dX3_isNext_46 : decode cX3_isNext 46 = .ok (.if_icmp .ne 17, 3) := by decide +kernel
theorem dX3_isNext_49 : decode cX3_isNext 49 = .ok (.aload_n 0, 1) := by decide +kernel
theorem dX3_isNext_50 : decode cX3_isNext 50 = .ok (.getfield 18, 3) := by decide +kernel
theorem dX3_isNext_53 : decode cX3_isNext 53 = .ok (.iconst (-1), 1) := by decide +kernel
theorem dX3_isNext_54 : decode cX3_isNext 54 = .ok (.if_icmp .ne 7, 3) := by decide +kernel
theorem dX3_isNext_57 : decode cX3_isNext 57 = .ok (.iconst 1, 1) := by decide +kernel
theorem dX3_isNext_58 : decode cX3_isNext 58 = .ok (.goto 4, 3) := by decide +kernel
theorem dX3_isNext_61 : decode cX3_isNext 61 = .ok (.iconst 0, 1) := by decide +kernel
theorem dX3_isNext_62 : decode cX3_isNext 62 = .ok (.ireturn, 1) := by decide +kernel
theorem dX3_isNext_63 : decode cX3_isNext 63 = .ok (.iload_n 1, 1) := by decide +kernel
theorem dX3_isNext_64 : decode cX3_isNext 64 = .ok (.bipush 46, 2) := by decide +kernel
theorem dX3_isNext_66 : decode cX3_isNext 66 = .ok (.if_icmp .eq 9, 3) := by decide +kernel
theorem dX3_isNext_69 : decode cX3_isNext 69 = .ok (.iload_n 1, 1) := by decide +kernel
theorem dX3_isNext_70 : decode cX3_isNext 70 = .ok (.bipush 35, 2) := by decide +kernel
theorem dX3_isNext_72 : decode cX3_isNext 72 = .ok (.if_icmp .ne 14, 3) := by decide +kernel
theorem dX3_isNext_75 : decode cX3_isNext 75 = .ok (.aload_n 0, 1) := by decide +kernel
theorem dX3_isNext_76 : decode cX3_isNext 76 = .ok (.invokevirtual 32, 3) := by decide +kernel
theorem dX3_isNext_79 : decode cX3_isNext 79 = .ok (.ifCond .ne 7, 3) := by decide +kernel
theorem dX3_isNext_82 : decode cX3_isNext 82 = .ok (.iconst 1, 1) := by decide +kernel
theorem dX3_isNext_83 : decode cX3_isNext 83 = .ok (.goto 4, 3) := by decide +kernel
theorem dX3_isNext_86 : decode cX3_isNext 86 = .ok (.iconst 0, 1) := by decide +kernel
theorem dX3_isNext_87 : decode cX3_isNext 87 = .ok (.ireturn, 1) := by decide +kernel
theorem dX3_isRowWhole_0 : decode cX3_isRowWhole 0 = .ok (.aload_n 0, 1) := by decide +kernel
theorem dX3_isRowWhole_1 : decode cX3_isRowWhole 1 = .ok (.getfield 15, 3) := by decide +kernel
theorem dX3_isRowWhole_4 : decode cX3_isRowWhole 4 = .ok (.ifCond .ne 19, 3) := by decide +kernel
theorem dX3_isRowWhole_7 : decode cX3_isRowWhole 7 = .ok (.aload_n 0, 1) := by decide +kernel
theorem dX3_isRowWhole_8 : decode cX3_isRowWhole 8 = .ok (.getfield 25, 3) := by decide +kernel
theorem dX3_isRowWhole_11 : decode cX3_isRowWhole 11 = .ok (.iconst 2, 1) := by decide +kernel
theorem dX3_isRowWhole_12 : decode cX3_isRowWhole 12 = .ok (.if_icmp .lt 7, 3) := by decide +kernel
theorem dX3_isRowWhole_15 : decode cX3_isRowWhole 15 = .ok (.iconst 1, 1) := by decide +kernel
theorem dX3_isRowWhole_16 : decode cX3_isRowWhole 16 = .ok (.goto 23, 3) := by decide +kernel
theorem dX3_isRowWhole_19 : decode cX3_isRowWhole 19 = .ok (.iconst 0, 1) := by decide +kernel
theorem dX3_isRowWhole_20 : decode cX3_isRowWhole 20 = .ok (.goto 19, 3) := by decide +kernel
theorem dX3_isRowWhole_23 : decode cX3_isRowWhole 23 = .ok (.aload_n 0, 1) := by decide +kernel
theorem dX3_isRowWhole_24 : decode cX3_isRowWhole 24 = .ok (.getfield 25, 3) := by decide +kernel
theorem dX3_isRowWhole_27 : decode cX3_isRowWhole 27 = .ok (.aload_n 0, 1) := by decide +kernel
theorem dX3_isRowWhole_28 : decode cX3_isRowWhole 28 = .ok (.getfield 9, 3) := by decide +kernel
theorem dX3_isRowWhole_31 : decode cX3_isRowWhole 31 = .ok (.if_icmp .ne 7, 3) := by decide +kernel
theorem dX3_isRowWhole_34 : decode cX3_isRowWhole 34 = .ok (.iconst 1, 1) := by decide +kernel
theorem dX3_isRowWhole_35 : decode cX3_isRowWhole 35 = .ok (.goto 4, 3) := by decide +kernel
theorem dX3_isRowWhole_38 : decode cX3_isRowWhole 38 = .ok (.iconst 0, 1) := by decide +kernel
theorem dX3_isRowWhole_39 : decode cX3_isRowWhole 39 = .ok (.ireturn, 1) := by decide +kernel
theorem dX3_isLastForPond_0 : decode cX3_isLastForPond 0 = .ok (.aload_n 0, 1) := by decide +kernel
theorem dX3_isLastForPond_1 : decode cX3_isLastForPond 1 = .ok (.getfield 18, 3) := by decide +kernel
theorem dX3_isLastForPond_4 : decode cX3_isLastForPond 4 = .ok (.iconst (-1), 1) := by decide +kernel
theorem dX3_isLastForPond_5 : decode cX3_isLastForPond 5 = .ok (.if_icmp .ne 31, 3) := by decide +kernel
theorem dX3_isLastForPond_8 : decode cX3_isLastForPond 8 = .ok (.aload_n 0, 1) := by decide +kernel
theorem dX3_isLastForPond_9 : decode cX3_isLastForPond 9 = .ok (.getfield 15, 3) := by decide +kernel
theorem dX3_isLastForPond_12 : decode cX3_isLastForPond 12 = .ok (.iconst 1, 1) := by decide +kernel
theorem dX3_isLastForPond_13 : decode cX3_isLastForPond 13 = .ok (.iadd, 1) := by decide +kernel
theorem dX3_isLastForPond_14 : decode cX3_isLastForPond 14 = .ok (.bipush 8, 2) := by decide +kernel
theorem dX3_isLastForPond_16 : decode cX3_isLastForPond 16 = .ok (.if_icmp .ne 20, 3) := by decide +kernel
theorem dX3_isLastForPond_19 : decode cX3_isLastForPond 19 = .ok (.aload_n 0, 1) := by decide +kernel
theorem dX3_isLastForPond_20 : decode cX3_isLastForPond 20 = .ok (.getfield 25, 3) := by decide +kernel
theorem dX3_isLastForPond_23 : decode cX3_isLastForPond 23 = .ok (.iconst 1, 1) := by decide +kernel
theorem dX3_isLastForPond_24 : decode cX3_isLastForPond 24 = .ok (.iadd, 1) := by decide +kernel
theorem dX3_isLastForPond_25 : decode cX3_isLastForPond 25 = .ok (.aload_n 0, 1) := by decide +kernel
theorem dX3_isLastForPond_26 : decode cX3_isLastForPond 26 = .ok (.getfield 9, 3) := by decide +kernel
theorem dX3_isLastForPond_29 : decode cX3_isLastForPond 29 = .ok (.if_icmp .ne 7, 3) := by decide +kernel
theorem dX3_isLastForPond_32 : decode cX3_isLastForPond 32 = .ok (.iconst 1, 1) := by decide +kernel
theorem dX3_isLastForPond_33 : decode cX3_isLastForPond 33 = .ok (.goto 4, 3) := by decide +kernel
theorem dX3_isLastForPond_36 : decode cX3_isLastForPond 36 = .ok (.iconst 0, 1) := by decide +kernel
theorem dX3_isLastForPond_37 : decode cX3_isLastForPond 37 = .ok (.ireturn, 1) := by decide +kernel
theorem dX3_take_0 : decode cX3_take 0 = .ok (.iload_n 1, 1) := by decide +kernel
theorem dX3_take_1 : decode cX3_take 1 = .ok (.bipush 47, 2) := by decide +kernel
theorem dX3_take_3 : decode cX3_take 3 = .ok (.if_icmp .ne 41, 3) := by decide +kernel
theorem dX3_take_6 : decode cX3_take 6 = .ok (.aload_n 0, 1) := by decide +kernel
theorem dX3_take_7 : decode cX3_take 7 = .ok (.aload_n 0, 1) := by decide +kernel
theorem dX3_take_8 : decode cX3_take 8 = .ok (.getfield 15, 3) := by decide +kernel
theorem dX3_take_11 : decode cX3_take 11 = .ok (.ifCond .ne 10, 3) := by decide +kernel
theorem dX3_take_14 : decode cX3_take 14 = .ok (.aload_n 0, 1) := by decide +kernel
theorem dX3_take_15 : decode cX3_take 15 = .ok (.getfield 25, 3) := by decide +kernel
theorem dX3_take_18 : decode cX3_take 18 = .ok (.goto 7, 3) := by decide +kernel
theorem dX3_take_21 : decode cX3_take 21 = .ok (.aload_n 0, 1) := by decide +kernel
theorem dX3_take_22 : decode cX3_take 22 = .ok (.getfield 9, 3) := by decide +kernel
theorem dX3_take_25 : decode cX3_take 25 = .ok (.putfield 9, 3) := by decide +kernel
theorem dX3_take_28 : decode cX3_take 28 = .ok (.aload_n 0, 1) := by decide +kernel
theorem dX3_take_29 : decode cX3_take 29 = .ok (.dup, 1) := by decide +kernel
theorem dX3_take_30 : decode cX3_take 30 = .ok (.getfield 15, 3) := by decide +kernel
theorem dX3_take_33 : decode cX3_take 33 = .ok (.iconst 1, 1) := by decide +kernel
theorem dX3_take_34 : decode cX3_take 34 = .ok (.iadd, 1) := by decide +kernel
theorem dX3_take_35 : decode cX3_take 35 = .ok (.putfield 15, 3) := by decide +kernel
theorem dX3_take_38 : decode cX3_take 38 = .ok (.aload_n 0, 1) := by decide +kernel
theorem dX3_take_39 : decode cX3_take 39 = .ok (.iconst 0, 1) := by decide +kernel
theorem dX3_take_40 : decode cX3_take 40 = .ok (.putfield 25, 3) := by decide +kernel
theorem dX3_take_43 : decode cX3_take 43 = .ok (.return_, 1) := by decide +kernel
theorem dX3_take_44 : decode cX3_take 44 = .ok (.iload_n 1, 1) := by decide +kernel
theorem dX3_take_45 : decode cX3_take 45 = .ok (.bipush 111, 2) := by decide +kernel
theorem dX3_take_47 : decode cX3_take 47 = .ok (.if_icmp .ne 18, 3) := by decide +kernel
theorem dX3_take_50 : decode cX3_take 50 = .ok (.aload_n 0, 1) := by decide +kernel
theorem dX3_take_51 : decode cX3_take 51 = .ok (.aload_n 0, 1) := by decide +kernel
theorem dX3_take_52 : decode cX3_take 52 = .ok (.getfield 25, 3) := by decide +kernel
theorem dX3_take_55 : decode cX3_take 55 = .ok (.aload_n 0, 1) := by decide +kernel
theorem dX3_take_56 : decode cX3_take 56 = .ok (.getfield 15, 3) := by decide +kernel
theorem dX3_take_59 : decode cX3_take 59 = .ok (.invokestatic 35, 3) := by decide +kernel
theorem dX3_take_62 : decode cX3_take 62 = .ok (.putfield 18, 3) := by decide +kernel
theorem dX3_take_65 : decode cX3_take 65 = .ok (.iload_n 1, 1) := by decide +kernel
theorem dX3_take_66 : decode cX3_take 66 = .ok (.bipush 35, 2) := by decide +kernel
theorem dX3_take_68 : decode cX3_take 68 = .ok (.if_icmp .ne 23, 3) := by decide +kernel
theorem dX3_take_71 : decode cX3_take 71 = .ok (.aload_n 0, 1) := by decide +kernel
theorem dX3_take_72 : decode cX3_take 72 = .ok (.dup, 1) := by decide +kernel
theorem dX3_take_73 : decode cX3_take 73 = .ok (.getfield 21, 3) := by decide +kernel
theorem dX3_take_76 : decode cX3_take 76 = .ok (.aload_n 0, 1) := by decide +kernel
theorem dX3_take_77 : decode cX3_take 77 = .ok (.getfield 25, 3) := by decide +kernel
theorem dX3_take_80 : decode cX3_take 80 = .ok (.aload_n 0, 1) := by decide +kernel
theorem dX3_take_81 : decode cX3_take 81 = .ok (.getfield 15, 3) := by decide +kernel
theorem dX3_take_84 : decode cX3_take 84 = .ok (.invokestatic 39, 3) := by decide +kernel
theorem dX3_take_87 : decode cX3_take 87 = .ok (.lor, 1) := by decide +kernel
theorem dX3_take_88 : decode cX3_take 88 = .ok (.putfield 21, 3) := by decide +kernel
theorem dX3_take_91 : decode cX3_take 91 = .ok (.aload_n 0, 1) := by decide +kernel
theorem dX3_take_92 : decode cX3_take 92 = .ok (.dup, 1) := by decide +kernel
theorem dX3_take_93 : decode cX3_take 93 = .ok (.getfield 25, 3) := by decide +kernel
theorem dX3_take_96 : decode cX3_take 96 = .ok (.iconst 1, 1) := by decide +kernel
theorem dX3_take_97 : decode cX3_take 97 = .ok (.iadd, 1) := by decide +kernel
theorem dX3_take_98 : decode cX3_take 98 = .ok (.putfield 25, 3) := by decide +kernel
theorem dX3_take_101 : decode cX3_take 101 = .ok (.return_, 1) := by decide +kernel
theorem dX3_isWhole_0 : decode cX3_isWhole 0 = .ok (.aload_n 0, 1) := by decide +kernel
theorem dX3_isWhole_1 : decode cX3_isWhole 1 = .ok (.getfield 15, 3) := by decide +kernel
theorem dX3_isWhole_4 : decode cX3_isWhole 4 = .ok (.iconst 1, 1) := by decide +kernel
theorem dX3_isWhole_5 : decode cX3_isWhole 5 = .ok (.iadd, 1) := by decide +kernel
theorem dX3_isWhole_6 : decode cX3_isWhole 6 = .ok (.iconst 2, 1) := by decide +kernel
theorem dX3_isWhole_7 : decode cX3_isWhole 7 = .ok (.if_icmp .lt 22, 3) := by decide +kernel
theorem dX3_isWhole_10 : decode cX3_isWhole 10 = .ok (.aload_n 0, 1) := by decide +kernel
theorem dX3_isWhole_11 : decode cX3_isWhole 11 = .ok (.invokevirtual 28, 3) := by decide +kernel
theorem dX3_isWhole_14 : decode cX3_isWhole 14 = .ok (.ifCond .eq 15, 3) := by decide +kernel
theorem dX3_isWhole_17 : decode cX3_isWhole 17 = .ok (.aload_n 0, 1) := by decide +kernel
theorem dX3_isWhole_18 : decode cX3_isWhole 18 = .ok (.getfield 18, 3) := by decide +kernel
theorem dX3_isWhole_21 : decode cX3_isWhole 21 = .ok (.iconst (-1), 1) := by decide +kernel
theorem dX3_isWhole_22 : decode cX3_isWhole 22 = .ok (.if_icmp .eq 7, 3) := by decide +kernel
theorem dX3_isWhole_25 : decode cX3_isWhole 25 = .ok (.iconst 1, 1) := by decide +kernel
theorem dX3_isWhole_26 : decode cX3_isWhole 26 = .ok (.goto 4, 3) := by decide +kernel
theorem dX3_isWhole_29 : decode cX3_isWhole 29 = .ok (.iconst 0, 1) := by decide +kernel
theorem dX3_isWhole_30 : decode cX3_isWhole 30 = .ok (.ireturn, 1) := by decide +kernel
theorem dX4_init_0 : decode cX4_init 0 = .ok (.aload_n 0, 1) := by decide +kernel
theorem dX4_init_1 : decode cX4_init 1 = .ok (.invokespecial 3, 3) := by decide +kernel
theorem dX4_init_4 : decode cX4_init 4 = .ok (.aload_n 0, 1) := by decide +kernel
theorem dX4_init_5 : decode cX4_init 5 = .ok (.new 9, 3) := by decide +kernel
theorem dX4_init_8 : decode cX4_init 8 = .ok (.dup, 1) := by decide +kernel
theorem dX4_init_9 : decode cX4_init 9 = .ok (.invokespecial 11, 3) := by decide +kernel
theorem dX4_init_12 : decode cX4_init 12 = .ok (.putfield 12, 3) := by decide +kernel
theorem dX4_init_15 : decode cX4_init 15 = .ok (.aload_n 0, 1) := by decide +kernel
theorem dX4_init_16 : decode cX4_init 16 = .ok (.iconst 2, 1) := by decide +kernel
theorem dX4_init_17 : decode cX4_init 17 = .ok (.anewarray 16, 3) := by decide +kernel
theorem dX4_init_20 : decode cX4_init 20 = .ok (.putfield 18, 3) := by decide +kernel
theorem dX4_init_23 : decode cX4_init 23 = .ok (.aload_n 0, 1) := by decide +kernel
theorem dX4_init_24 : decode cX4_init 24 = .ok (.new 22, 3) := by decide +kernel
theorem dX4_init_27 : decode cX4_init 27 = .ok (.dup, 1) := by decide +kernel
theorem dX4_init_28 : decode cX4_init 28 = .ok (.invokespecial 24, 3) := by decide +kernel
theorem dX4_init_31 : decode cX4_init 31 = .ok (.putfield 25, 3) := by decide +kernel
theorem dX4_init_34 : decode cX4_init 34 = .ok (.aload_n 0, 1) := by decide +kernel
theorem dX4_init_35 : decode cX4_init 35 = .ok (.new 29, 3) := by decide +kernel
theorem dX4_init_38 : decode cX4_init 38 = .ok (.dup, 1) := by decide +kernel
theorem dX4_init_39 : decode cX4_init 39 = .ok (.invokespecial 31, 3) := by decide +kernel
theorem dX4_init_42 : decode cX4_init 42 = .ok (.putfield 32, 3) := by decide +kernel
theorem dX4_init_45 : decode cX4_init 45 = .ok (.aload_n 0, 1) := by decide +kernel
theorem dX4_init_46 : decode cX4_init 46 = .ok (.new 16, 3) := by decide +kernel
theorem dX4_init_49 : decode cX4_init 49 = .ok (.dup, 1) := by decide +kernel
theorem dX4_init_50 : decode cX4_init 50 = .ok (.invokespecial 36, 3) := by decide +kernel
theorem dX4_init_53 : decode cX4_init 53 = .ok (.putfield 37, 3) := by decide +kernel
theorem dX4_init_56 : decode cX4_init 56 = .ok (.return_, 1) := by decide +kernel
theorem dX4_garden_0 : decode cX4_garden 0 = .ok (.iload_n 1, 1) := by decide +kernel
theorem dX4_garden_1 : decode cX4_garden 1 = .ok (.invokestatic 41, 3) := by decide +kernel
theorem dX4_garden_4 : decode cX4_garden 4 = .ok (.ifCond .eq 10, 3) := by decide +kernel
theorem dX4_garden_7 : decode cX4_garden 7 = .ok (.iload_n 2, 1) := by decide +kernel
theorem dX4_garden_8 : decode cX4_garden 8 = .ok (.invokestatic 41, 3) := by decide +kernel
theorem dX4_garden_11 : decode cX4_garden 11 = .ok (.ifCond .ne 13, 3) := by decide +kernel
theorem dX4_garden_14 : decode cX4_garden 14 = .ok (.new 45, 3) := by decide +kernel
theorem dX4_garden_17 : decode cX4_garden 17 = .ok (.dup, 1) := by decide +kernel
theorem dX4_garden_18 : decode cX4_garden 18 = .ok (.ldc 47, 2) := by decide +kernel
theorem dX4_garden_20 : decode cX4_garden 20 = .ok (.invokespecial 49, 3) := by decide +kernel
theorem dX4_garden_23 : decode cX4_garden 23 = .ok (.athrow, 1) := by decide +kernel
theorem dX4_garden_24 : decode cX4_garden 24 = .ok (.aload_n 0, 1) := by decide +kernel
theorem dX4_garden_25 : decode cX4_garden 25 = .ok (.invokevirtual 52, 3) := by decide +kernel
theorem dX4_garden_28 : decode cX4_garden 28 = .ok (.aload_n 0, 1) := by decide +kernel
theorem dX4_garden_29 : decode cX4_garden 29 = .ok (.getfield 37, 3) := by decide +kernel
theorem dX4_garden_32 : decode cX4_garden 32 = .ok (.iload_n 1, 1) := by decide +kernel
theorem dX4_garden_33 : decode cX4_garden 33 = .ok (.iload_n 2, 1) := by decide +kernel
theorem dX4_garden_34 : decode cX4_garden 34 = .ok (.iconst 0, 1) := by decide +kernel
theorem dX4_garden_35 : decode cX4_garden 35 = .ok (.lconst 0, 1) := by decide +kernel
theorem dX4_garden_36 : decode cX4_garden 36 = .ok (.invokevirtual 55, 3) := by decide +kernel
theorem dX4_garden_39 : decode cX4_garden 39 = .ok (.iload_n 1, 1) := by decide +kernel
theorem dX4_garden_40 : decode cX4_garden 40 = .ok (.iload_n 2, 1) := by decide +kernel
theorem dX4_garden_41 : decode cX4_garden 41 = .ok (.imul, 1) := by decide +kernel
theorem dX4_garden_42 : decode cX4_garden 42 = .ok (.ireturn, 1) := by decide +kernel
theorem dX4_pond_0 : decode cX4_pond 0 = .ok (.aload_n 0, 1) := by decide +kernel
theorem dX4_pond_1 : decode cX4_pond 1 = .ok (.iload_n 1, 1) := by decide +kernel
theorem dX4_pond_2 : decode cX4_pond 2 = .ok (.iload_n 2, 1) := by decide +kernel
theorem dX4_pond_3 : decode cX4_pond 3 = .ok (.invokevirtual 59, 3) := by decide +kernel
theorem dX4_pond_6 : decode cX4_pond 6 = .ok (.iload_n 1, 1) := by decide +kernel
theorem dX4_pond_7 : decode cX4_pond 7 = .ok (.iload_n 2, 1) := by decide +kernel
theorem dX4_pond_8 : decode cX4_pond 8 = .ok (.invokestatic 63, 3) := by decide +kernel
theorem dX4_pond_11 : decode cX4_pond 11 = .ok (.lstore_n 3, 1) := by decide +kernel
theorem dX4_pond_12 : decode cX4_pond 12 = .ok (.lload_n 3, 1) := by decide +kernel
theorem dX4_pond_13 : decode cX4_pond 13 = .ok (.aload_n 0, 1) := by decide +kernel
theorem dX4_pond_14 : decode cX4_pond 14 = .ok (.getfield 37, 3) := by decide +kernel
theorem dX4_pond_17 : decode cX4_pond 17 = .ok (.getfield 67, 3) := by decide +kernel
theorem dX4_pond_20 : decode cX4_pond 20 = .ok (.aload_n 0, 1) := by decide +kernel
theorem dX4_pond_21 : decode cX4_pond 21 = .ok (.getfield 37, 3) := by decide +kernel
theorem dX4_pond_24 : decode cX4_pond 24 = .ok (.getfield 71, 3) := by decide +kernel
theorem dX4_pond_27 : decode cX4_pond 27 = .ok (.lor, 1) := by decide +kernel
theorem dX4_pond_28 : decode cX4_pond 28 = .ok (.land, 1) := by decide +kernel
theorem dX4_pond_29 : decode cX4_pond 29 = .ok (.lconst 0, 1) := by decide +kernel
theorem dX4_pond_30 : decode cX4_pond 30 = .ok (.lcmp, 1) := by decide +kernel
theorem dX4_pond_31 : decode cX4_pond 31 = .ok (.ifCond .eq 13, 3) := by decide +kernel
theorem dX4_pond_34 : decode cX4_pond 34 = .ok (.new 74, 3) := by decide +kernel
theorem dX4_pond_37 : decode cX4_pond 37 = .ok (.dup, 1) := by decide +kernel
theorem dX4_pond_38 : decode cX4_pond 38 = .ok (.ldc 76, 2) := by decide +kernel
theorem dX4_pond_40 : decode cX4_pond 40 = .ok (.invokespecial 78, 3) := by decide +kernel
theorem dX4_pond_43 : decode cX4_pond 43 = .ok (.athrow, 1) := by decide +kernel
theorem dX4_pond_44 : decode cX4_pond 44 = .ok (.aload_n 0, 1) := by decide +kernel
theorem dX4_pond_45 : decode cX4_pond 45 = .ok (.invokevirtual 52, 3) := by decide +kernel
theorem dX4_pond_48 : decode cX4_pond 48 = .ok (.aload_n 0, 1) := by decide +kernel
theorem dX4_pond_49 : decode cX4_pond 49 = .ok (.getfield 37, 3) := by decide +kernel
theorem dX4_pond_52 : decode cX4_pond 52 = .ok (.getfield 79, 3) := by decide +kernel
theorem dX4_pond_55 : decode cX4_pond 55 = .ok (.istore 5, 2) := by decide +kernel
theorem dX4_pond_57 : decode cX4_pond 57 = .ok (.aload_n 0, 1) := by decide +kernel
theorem dX4_pond_58 : decode cX4_pond 58 = .ok (.getfield 37, 3) := by decide +kernel
theorem dX4_pond_61 : decode cX4_pond 61 = .ok (.iload_n 1, 1) := by decide +kernel
theorem dX4_pond_62 : decode cX4_pond 62 = .ok (.iload_n 2, 1) := by decide +kernel
theorem dX4_pond_63 : decode cX4_pond 63 = .ok (.invokestatic 83, 3) := by decide +kernel
theorem dX4_pond_66 : decode cX4_pond 66 = .ok (.putfield 79, 3) := by decide +kernel
theorem dX4_pond_69 : decode cX4_pond 69 = .ok (.iload 5, 2) := by decide +kernel
theorem dX4_pond_71 : decode cX4_pond 71 = .ok (.invokestatic 87, 3) := by decide +kernel
theorem dX4_pond_74 : decode cX4_pond 74 = .ok (.ireturn, 1) := by decide +kernel
theorem dX4_wall_0 : decode cX4_wall 0 = .ok (.aload_n 0, 1) := by decide +kernel
theorem dX4_wall_1 : decode cX4_wall 1 = .ok (.iload_n 1, 1) := by decide +kernel
theorem dX4_wall_2 : decode cX4_wall 2 = .ok (.iload_n 2, 1) := by decide +kernel
theorem dX4_wall_3 : decode cX4_wall 3 = .ok (.invokevirtual 59, 3) := by decide +kernel
theorem dX4_wall_6 : decode cX4_wall 6 = .ok (.iload_n 1, 1) := by decide +kernel
theorem dX4_wall_7 : decode cX4_wall 7 = .ok (.iload_n 2, 1) := by decide +kernel
theorem dX4_wall_8 : decode cX4_wall 8 = .ok (.invokestatic 63, 3) := by decide +kernel
theorem dX4_wall_11 : decode cX4_wall 11 = .ok (.lstore_n 3, 1) := by decide +kernel
theorem dX4_wall_12 : decode cX4_wall 12 = .ok (.lload_n 3, 1) := by decide +kernel
theorem dX4_wall_13 : decode cX4_wall 13 = .ok (.aload_n 0, 1) := by decide +kernel
theorem dX4_wall_14 : decode cX4_wall 14 = .ok (.getfield 37, 3) := by decide +kernel
theorem dX4_wall_17 : decode cX4_wall 17 = .ok (.invokevirtual 91, 3) := by decide +kernel
theorem dX4_wall_20 : decode cX4_wall 20 = .ok (.aload_n 0, 1) := by decide +kernel
theorem dX4_wall_21 : decode cX4_wall 21 = .ok (.getfield 37, 3) := by decide +kernel
theorem dX4_wall_24 : decode cX4_wall 24 = .ok (.getfield 71, 3) := by decide +kernel
theorem dX4_wall_27 : decode cX4_wall 27 = .ok (.lor, 1) := by decide +kernel
theorem dX4_wall_28 : decode cX4_wall 28 = .ok (.land, 1) := by decide +kernel
theorem dX4_wall_29 : decode cX4_wall 29 = .ok (.lconst 0, 1) := by decide +kernel
theorem dX4_wall_30 : decode cX4_wall 30 = .ok (.lcmp, 1) := by decide +kernel
theorem dX4_wall_31 : decode cX4_wall 31 = .ok (.ifCond .eq 13, 3) := by decide +kernel
theorem dX4_wall_34 : decode cX4_wall 34 = .ok (.new 74, 3) := by decide +kernel
theorem dX4_wall_37 : decode cX4_wall 37 = .ok (.dup, 1) := by decide +kernel
theorem dX4_wall_38 : decode cX4_wall 38 = .ok (.ldc 95, 2) := by decide +kernel
theorem dX4_wall_40 : decode cX4_wall 40 = .ok (.invokespecial 78, 3) := by decide +kernel
theorem dX4_wall_43 : decode cX4_wall 43 = .ok (.athrow, 1) := by decide +kernel
theorem dX4_wall_44 : decode cX4_wall 44 = .ok (.aload_n 0, 1) := by decide +kernel
theorem dX4_wall_45 : decode cX4_wall 45 = .ok (.invokevirtual 52, 3) := by decide +kernel
theorem dX4_wall_48 : decode cX4_wall 48 = .ok (.aload_n 0, 1) := by decide +kernel
theorem dX4_wall_49 : decode cX4_wall 49 = .ok (.getfield 37, 3) := by decide +kernel
theorem dX4_wall_52 : decode cX4_wall 52 = .ok (.dup, 1) := by decide +kernel
theorem dX4_wall_53 : decode cX4_wall 53 = .ok (.getfield 67, 3) := by decide +kernel
theorem dX4_wall_56 : decode cX4_wall 56 = .ok (.lload_n 3, 1) := by decide +kernel
theorem dX4_wall_57 : decode cX4_wall 57 = .ok (.lxor, 1) := by decide +kernel
theorem dX4_wall_58 : decode cX4_wall 58 = .ok (.putfield 67, 3) := by decide +kernel
theorem dX4_wall_61 : decode cX4_wall 61 = .ok (.aload_n 0, 1) := by decide +kernel
theorem dX4_wall_62 : decode cX4_wall 62 = .ok (.getfield 37, 3) := by decide +kernel
theorem dX4_wall_65 : decode cX4_wall 65 = .ok (.getfield 67, 3) := by decide +kernel
theorem dX4_wall_68 : decode cX4_wall 68 = .ok (.invokestatic 97, 3) := by decide +kernel
theorem dX4_wall_71 : decode cX4_wall 71 = .ok (.ireturn, 1) := by decide +kernel
theorem dX4_lay_0 : decode cX4_lay 0 = .ok (.iload_n 3, 1) := by decide +kernel
theorem dX4_lay_1 : decode cX4_lay 1 = .ok (.invokestatic 103, 3) := by decide +kernel
theorem dX4_lay_4 : decode cX4_lay 4 = .ok (.aload_n 0, 1) := by decide +kernel
theorem dX4_lay_5 : decode cX4_lay 5 = .ok (.invokevirtual 52, 3) := by decide +kernel
theorem dX4_lay_8 : decode cX4_lay 8 = .ok (.aload_n 0, 1) := by decide +kernel
theorem dX4_lay_9 : decode cX4_lay 9 = .ok (.getfield 37, 3) := by decide +kernel
theorem dX4_lay_12 : decode cX4_lay 12 = .ok (.iload_n 1, 1) := by decide +kernel
theorem dX4_lay_13 : decode cX4_lay 13 = .ok (.iload_n 2, 1) := by decide +kernel
theorem dX4_lay_14 : decode cX4_lay 14 = .ok (.iload_n 3, 1) := by decide +kernel
theorem dX4_lay_15 : decode cX4_lay 15 = .ok (.invokevirtual 107, 3) := by decide +kernel
theorem dX4_lay_18 : decode cX4_lay 18 = .ok (.istore 4, 2) := by decide +kernel
theorem dX4_lay_20 : decode cX4_lay 20 = .ok (.iload 4, 2) := by decide +kernel
theorem dX4_lay_22 : decode cX4_lay 22 = .ok (.ifCond .ne 16, 3) := by decide +kernel
theorem dX4_lay_25 : decode cX4_lay 25 = .ok (.aload_n 0, 1) := by decide +kernel
theorem dX4_lay_26 : decode cX4_lay 26 = .ok (.getfield 37, 3) := by decide +kernel
theorem dX4_lay_29 : decode cX4_lay 29 = .ok (.iload_n 1, 1) := by decide +kernel
theorem dX4_lay_30 : decode cX4_lay 30 = .ok (.iload_n 2, 1) := by decide +kernel
theorem dX4_lay_31 : decode cX4_lay 31 = .ok (.iload_n 3, 1) := by decide +kernel
theorem dX4_lay_32 : decode cX4_lay 32 = .ok (.invokevirtual 111, 3) := by decide +kernel
theorem dX4_lay_35 : decode cX4_lay 35 = .ok (.goto 16, 3) := by decide +kernel
theorem dX4_lay_38 : decode cX4_lay 38 = .ok (.aload_n 0, 1) := by decide +kernel
theorem dX4_lay_39 : decode cX4_lay 39 = .ok (.getfield 37, 3) := by decide +kernel
theorem dX4_lay_42 : decode cX4_lay 42 = .ok (.dup, 1) := by decide +kernel
theorem dX4_lay_43 : decode cX4_lay 43 = .ok (.getfield 115, 3) := by decide +kernel
theorem dX4_lay_46 : decode cX4_lay 46 = .ok (.iconst 1, 1) := by decide +kernel
theorem dX4_lay_47 : decode cX4_lay 47 = .ok (.iadd, 1) := by decide +kernel
theorem dX4_lay_48 : decode cX4_lay 48 = .ok (.putfield 115, 3) := by decide +kernel
theorem dX4_lay_51 : decode cX4_lay 51 = .ok (.iload 4, 2) := by decide +kernel
theorem dX4_lay_53 : decode cX4_lay 53 = .ok (.ireturn, 1) := by decide +kernel
theorem dX4_lift_0 : decode cX4_lift 0 = .ok (.aload_n 0, 1) := by decide +kernel
theorem dX4_lift_1 : decode cX4_lift 1 = .ok (.iload_n 1, 1) := by decide +kernel
theorem dX4_lift_2 : decode cX4_lift 2 = .ok (.iload_n 2, 1) := by decide +kernel
theorem dX4_lift_3 : decode cX4_lift 3 = .ok (.invokevirtual 59, 3) := by decide +kernel
theorem dX4_lift_6 : decode cX4_lift 6 = .ok (.aload_n 0, 1) := by decide +kernel
theorem dX4_lift_7 : decode cX4_lift 7 = .ok (.getfield 37, 3) := by decide +kernel
theorem dX4_lift_10 : decode cX4_lift 10 = .ok (.iload_n 1, 1) := by decide +kernel
theorem dX4_lift_11 : decode cX4_lift 11 = .ok (.iload_n 2, 1) := by decide +kernel
theorem dX4_lift_12 : decode cX4_lift 12 = .ok (.invokestatic 63, 3) := by decide +kernel
theorem dX4_lift_15 : decode cX4_lift 15 = .ok (.invokevirtual 118, 3) := by decide +kernel
theorem dX4_lift_18 : decode cX4_lift 18 = .ok (.istore_n 3, 1) := by decide +kernel
theorem dX4_lift_19 : decode cX4_lift 19 = .ok (.iload_n 3, 1) := by decide +kernel
theorem dX4_lift_20 : decode cX4_lift 20 = .ok (.iconst (-1), 1) := by decide +kernel
theorem dX4_lift_21 : decode cX4_lift 21 = .ok (.if_icmp .ne 13, 3) := by decide +kernel
theorem dX4_lift_24 : decode cX4_lift 24 = .ok (.new 74, 3) := by decide +kernel
theorem dX4_lift_27 : decode cX4_lift 27 = .ok (.dup, 1) := by decide +kernel
theorem dX4_lift_28 : decode cX4_lift 28 = .ok (.ldc 121, 2) := by decide +kernel
theorem dX4_lift_30 : decode cX4_lift 30 = .ok (.invokespecial 78, 3) := by decide +kernel
theorem dX4_lift_33 : decode cX4_lift 33 = .ok (.athrow, 1) := by decide +kernel
theorem dX4_lift_34 : decode cX4_lift 34 = .ok (.aload_n 0, 1) := by decide +kernel
theorem dX4_lift_35 : decode cX4_lift 35 = .ok (.invokevirtual 52, 3) := by decide +kernel
theorem dX4_lift_38 : decode cX4_lift 38 = .ok (.aload_n 0, 1) := by decide +kernel
theorem dX4_lift_39 : decode cX4_lift 39 = .ok (.getfield 37, 3) := by decide +kernel
theorem dX4_lift_42 : decode cX4_lift 42 = .ok (.iload_n 3, 1) := by decide +kernel
theorem dX4_lift_43 : decode cX4_lift 43 = .ok (.invokevirtual 123, 3) := by decide +kernel
theorem dX4_lift_46 : decode cX4_lift 46 = .ok (.iload_n 3, 1) := by decide +kernel
theorem dX4_lift_47 : decode cX4_lift 47 = .ok (.ireturn, 1) := by decide +kernel
theorem dX4_flip_0 : decode cX4_flip 0 = .ok (.aload_n 0, 1) := by decide +kernel
theorem dX4_flip_1 : decode cX4_flip 1 = .ok (.getfield 37, 3) := by decide +kernel
theorem dX4_flip_4 : decode cX4_flip 4 = .ok (.iload_n 1, 1) := by decide +kernel
theorem dX4_flip_5 : decode cX4_flip 5 = .ok (.iload_n 2, 1) := by decide +kernel
theorem dX4_flip_6 : decode cX4_flip 6 = .ok (.iload_n 3, 1) := by decide +kernel
theorem dX4_flip_7 : decode cX4_flip 7 = .ok (.invokevirtual 126, 3) := by decide +kernel
theorem dX4_flip_10 : decode cX4_flip 10 = .ok (.ifCond .ne 13, 3) := by decide +kernel
theorem dX4_flip_13 : decode cX4_flip 13 = .ok (.new 130, 3) := by decide +kernel
theorem dX4_flip_16 : decode cX4_flip 16 = .ok (.dup, 1) := by decide +kernel
theorem dX4_flip_17 : decode cX4_flip 17 = .ok (.ldc 132, 2) := by decide +kernel
theorem dX4_flip_19 : decode cX4_flip 19 = .ok (.invokespecial 134, 3) := by decide +kernel
theorem dX4_flip_22 : decode cX4_flip 22 = .ok (.athrow, 1) := by decide +kernel
theorem dX4_flip_23 : decode cX4_flip 23 = .ok (.aload_n 0, 1) := by decide +kernel
theorem dX4_flip_24 : decode cX4_flip 24 = .ok (.getfield 37, 3) := by decide +kernel
theorem dX4_flip_27 : decode cX4_flip 27 = .ok (.iload_n 1, 1) := by decide +kernel
theorem dX4_flip_28 : decode cX4_flip 28 = .ok (.iload_n 2, 1) := by decide +kernel
theorem dX4_flip_29 : decode cX4_flip 29 = .ok (.iload_n 3, 1) := by decide +kernel
theorem dX4_flip_30 : decode cX4_flip 30 = .ok (.invokevirtual 135, 3) := by decide +kernel
theorem dX4_flip_33 : decode cX4_flip 33 = .ok (.ifCond .ne 13, 3) := by decide +kernel
theorem dX4_flip_36 : decode cX4_flip 36 = .ok (.new 74, 3) := by decide +kernel
theorem dX4_flip_39 : decode cX4_flip 39 = .ok (.dup, 1) := by decide +kernel
theorem dX4_flip_40 : decode cX4_flip 40 = .ok (.ldc 138, 2) := by decide +kernel
theorem dX4_flip_42 : decode cX4_flip 42 = .ok (.invokespecial 78, 3) := by decide +kernel
theorem dX4_flip_45 : decode cX4_flip 45 = .ok (.athrow, 1) := by decide +kernel
theorem dX4_flip_46 : decode cX4_flip 46 = .ok (.aload_n 0, 1) := by decide +kernel
theorem dX4_flip_47 : decode cX4_flip 47 = .ok (.invokevirtual 52, 3) := by decide +kernel
theorem dX4_flip_50 : decode cX4_flip 50 = .ok (.aload_n 0, 1) := by decide +kernel
theorem dX4_flip_51 : decode cX4_flip 51 = .ok (.getfield 37, 3) := by decide +kernel
theorem dX4_flip_54 : decode cX4_flip 54 = .ok (.iload_n 1, 1) := by decide +kernel
theorem dX4_flip_55 : decode cX4_flip 55 = .ok (.iload_n 2, 1) := by decide +kernel
theorem dX4_flip_56 : decode cX4_flip 56 = .ok (.iload_n 3, 1) := by decide +kernel
theorem dX4_flip_57 : decode cX4_flip 57 = .ok (.invokevirtual 140, 3) := by decide +kernel
theorem dX4_flip_60 : decode cX4_flip 60 = .ok (.aload_n 0, 1) := by decide +kernel
theorem dX4_flip_61 : decode cX4_flip 61 = .ok (.getfield 37, 3) := by decide +kernel
theorem dX4_flip_64 : decode cX4_flip 64 = .ok (.getfield 144, 3) := by decide +kernel
theorem dX4_flip_67 : decode cX4_flip 67 = .ok (.ireturn, 1) := by decide +kernel
theorem dX4_fill_0 : decode cX4_fill 0 = .ok (.aload_n 0, 1) := by decide +kernel
theorem dX4_fill_1 : decode cX4_fill 1 = .ok (.getfield 32, 3) := by decide +kernel
theorem dX4_fill_4 : decode cX4_fill 4 = .ok (.aload_n 0, 1) := by decide +kernel
theorem dX4_fill_5 : decode cX4_fill 5 = .ok (.getfield 37, 3) := by decide +kernel
theorem dX4_fill_8 : decode cX4_fill 8 = .ok (.invokevirtual 147, 3) := by decide +kernel
theorem dX4_fill_11 : decode cX4_fill 11 = .ok (.invokevirtual 150, 3) := by decide +kernel
theorem dX4_fill_14 : decode cX4_fill 14 = .ok (.ifCond .ne 13, 3) := by decide +kernel
theorem dX4_fill_17 : decode cX4_fill 17 = .ok (.new 74, 3) := by decide +kernel
theorem dX4_fill_20 : decode cX4_fill 20 = .ok (.dup, 1) := by decide +kernel
theorem dX4_fill_21 : decode cX4_fill 21 = .ok (.ldc 153, 2) := by decide +kernel
theorem dX4_fill_23 : decode cX4_fill 23 = .ok (.invokespecial 78, 3) := by decide +kernel
theorem dX4_fill_26 : decode cX4_fill 26 = .ok (.athrow, 1) := by decide +kernel
theorem dX4_fill_27 : decode cX4_fill 27 = .ok (.aload_n 0, 1) := by decide +kernel
theorem dX4_fill_28 : decode cX4_fill 28 = .ok (.invokevirtual 52, 3) := by decide +kernel
theorem dX4_fill_31 : decode cX4_fill 31 = .ok (.aload_n 0, 1) := by decide +kernel
theorem dX4_fill_32 : decode cX4_fill 32 = .ok (.getfield 37, 3) := by decide +kernel
theorem dX4_fill_35 : decode cX4_fill 35 = .ok (.getfield 155, 3) := by decide +kernel
theorem dX4_fill_38 : decode cX4_fill 38 = .ok (.istore_n 1, 1) := by decide +kernel
theorem dX4_fill_39 : decode cX4_fill 39 = .ok (.aload_n 0, 1) := by decide +kernel
theorem dX4_fill_40 : decode cX4_fill 40 = .ok (.getfield 32, 3) := by decide +kernel
theorem dX4_fill_43 : decode cX4_fill 43 = .ok (.aload_n 0, 1) := by decide +kernel
theorem dX4_fill_44 : decode cX4_fill 44 = .ok (.getfield 37, 3) := by decide +kernel
theorem dX4_fill_47 : decode cX4_fill 47 = .ok (.invokevirtual 158, 3) := by decide +kernel
theorem dX4_fill_50 : decode cX4_fill 50 = .ok (.aload_n 0, 1) := by decide +kernel
theorem dX4_fill_51 : decode cX4_fill 51 = .ok (.getfield 37, 3) := by decide +kernel
theorem dX4_fill_54 : decode cX4_fill 54 = .ok (.getfield 155, 3) := by decide +kernel
theorem dX4_fill_57 : decode cX4_fill 57 = .ok (.iload_n 1, 1) := by decide +kernel
theorem dX4_fill_58 : decode cX4_fill 58 = .ok (.isub, 1) := by decide +kernel
theorem dX4_fill_59 : decode cX4_fill 59 = .ok (.ireturn, 1) := by decide +kernel
theorem dX4_halve_0 : decode cX4_halve 0 = .ok (.aload_n 0, 1) := by decide +kernel
theorem dX4_halve_1 : decode cX4_halve 1 = .ok (.getfield 37, 3) := by decide +kernel
theorem dX4_halve_4 : decode cX4_halve 4 = .ok (.invokevirtual 162, 3) := by decide +kernel
theorem dX4_halve_7 : decode cX4_halve 7 = .ok (.ifCond .ne 13, 3) := by decide +kernel
theorem dX4_halve_10 : decode cX4_halve 10 = .ok (.new 74, 3) := by decide +kernel
theorem dX4_halve_13 : decode cX4_halve 13 = .ok (.dup, 1) := by decide +kernel
theorem dX4_halve_14 : decode cX4_halve 14 = .ok (.ldc 166, 2) := by decide +kernel
theorem dX4_halve_16 : decode cX4_halve 16 = .ok (.invokespecial 78, 3) := by decide +kernel
theorem dX4_halve_19 : decode cX4_halve 19 = .ok (.athrow, 1) := by decide +kernel
theorem dX4_halve_20 : decode cX4_halve 20 = .ok (.aload_n 0, 1) := by decide +kernel
theorem dX4_halve_21 : decode cX4_halve 21 = .ok (.invokevirtual 52, 3) := by decide +kernel
theorem dX4_halve_24 : decode cX4_halve 24 = .ok (.aload_n 0, 1) := by decide +kernel
theorem dX4_halve_25 : decode cX4_halve 25 = .ok (.getfield 37, 3) := by decide +kernel
theorem dX4_halve_28 : decode cX4_halve 28 = .ok (.invokevirtual 168, 3) := by decide +kernel
theorem dX4_halve_31 : decode cX4_halve 31 = .ok (.aload_n 0, 1) := by decide +kernel
theorem dX4_halve_32 : decode cX4_halve 32 = .ok (.getfield 37, 3) := by decide +kernel
theorem dX4_halve_35 : decode cX4_halve 35 = .ok (.getfield 155, 3) := by decide +kernel
theorem dX4_halve_38 : decode cX4_halve 38 = .ok (.ireturn, 1) := by decide +kernel
theorem dX4_append_0 : decode cX4_append 0 = .ok (.iload_n 1, 1) := by decide +kernel
theorem dX4_append_1 : decode cX4_append 1 = .ok (.bipush 33, 2) := by decide +kernel
theorem dX4_append_3 : decode cX4_append 3 = .ok (.if_icmp .lt 9, 3) := by decide +kernel
theorem dX4_append_6 : decode cX4_append 6 = .ok (.iload_n 1, 1) := by decide +kernel
theorem dX4_append_7 : decode cX4_append 7 = .ok (.bipush 126, 2) := by decide +kernel
theorem dX4_append_9 : decode cX4_append 9 = .ok (.if_icmp .le 13, 3) := by decide +kernel
theorem dX4_append_12 : decode cX4_append 12 = .ok (.new 45, 3) := by decide +kernel
theorem dX4_append_15 : decode cX4_append 15 = .ok (.dup, 1) := by decide +kernel
theorem dX4_append_16 : decode cX4_append 16 = .ok (.ldc 171, 2) := by decide +kernel
theorem dX4_append_18 : decode cX4_append 18 = .ok (.invokespecial 49, 3) := by decide +kernel
theorem dX4_append_21 : decode cX4_append 21 = .ok (.athrow, 1) := by decide +kernel
theorem dX4_append_22 : decode cX4_append 22 = .ok (.aload_n 0, 1) := by decide +kernel
theorem dX4_append_23 : decode cX4_append 23 = .ok (.getfield 25, 3) := by decide +kernel
theorem dX4_append_26 : decode cX4_append 26 = .ok (.invokevirtual 173, 3) := by decide +kernel
theorem dX4_append_29 : decode cX4_append 29 = .ok (.ifCond .eq 13, 3) := by decide +kernel
theorem dX4_append_32 : decode cX4_append 32 = .ok (.new 74, 3) := by decide +kernel
theorem dX4_append_35 : decode cX4_append 35 = .ok (.dup, 1) := by decide +kernel
theorem dX4_append_36 : decode cX4_append 36 = .ok (.ldc 176, 2) := by decide +kernel
theorem dX4_append_38 : decode cX4_append 38 = .ok (.invokespecial 78, 3) := by decide +kernel
theorem dX4_append_41 : decode cX4_append 41 = .ok (.athrow, 1) := by decide +kernel
theorem dX4_append_42 : decode cX4_append 42 = .ok (.aload_n 0, 1) := by decide +kernel
theorem dX4_append_43 : decode cX4_append 43 = .ok (.getfield 25, 3) := by decide +kernel
theorem dX4_append_46 : decode cX4_append 46 = .ok (.iload_n 1, 1) := by decide +kernel
theorem dX4_append_47 : decode cX4_append 47 = .ok (.invokevirtual 178, 3) := by decide +kernel
theorem dX4_append_50 : decode cX4_append 50 = .ok (.aload_n 0, 1) := by decide +kernel
theorem dX4_append_51 : decode cX4_append 51 = .ok (.getfield 25, 3) := by decide +kernel
theorem dX4_append_54 : decode cX4_append 54 = .ok (.getfield 181, 3) := by decide +kernel
theorem dX4_append_57 : decode cX4_append 57 = .ok (.ireturn, 1) := by decide +kernel
theorem dX4_clearBuffer_0 : decode cX4_clearBuffer 0 = .ok (.aload_n 0, 1) := by decide +kernel
theorem dX4_clearBuffer_1 : decode cX4_clearBuffer 1 = .ok (.getfield 25, 3) := by decide +kernel
theorem dX4_clearBuffer_4 : decode cX4_clearBuffer 4 = .ok (.getfield 181, 3) := by decide +kernel
theorem dX4_clearBuffer_7 : decode cX4_clearBuffer 7 = .ok (.istore_n 1, 1) := by decide +kernel
theorem dX4_clearBuffer_8 : decode cX4_clearBuffer 8 = .ok (.aload_n 0, 1) := by decide +kernel
theorem dX4_clearBuffer_9 : decode cX4_clearBuffer 9 = .ok (.getfield 25, 3) := by decide +kernel
theorem dX4_clearBuffer_12 : decode cX4_clearBuffer 12 = .ok (.iconst 0, 1) := by decide +kernel
theorem dX4_clearBuffer_13 : decode cX4_clearBuffer 13 = .ok (.putfield 181, 3) := by decide +kernel
theorem dX4_clearBuffer_16 : decode cX4_clearBuffer 16 = .ok (.iload_n 1, 1) := by decide +kernel
theorem dX4_clearBuffer_17 : decode cX4_clearBuffer 17 = .ok (.ireturn, 1) := by decide +kernel
theorem dX4_firstError_0 : decode cX4_firstError 0 = .ok (.aload_n 0, 1) := by decide +kernel
theorem dX4_firstError_1 : decode cX4_firstError 1 = .ok (.getfield 25, 3) := by decide +kernel
theorem dX4_firstError_4 : decode cX4_firstError 4 = .ok (.new 184, 3) := by decide +kernel
theorem dX4_firstError_7 : decode cX4_firstError 7 = .ok (.dup, 1) := by decide +kernel
theorem dX4_firstError_8 : decode cX4_firstError 8 = .ok (.invokespecial 186, 3) := by decide +kernel
theorem dX4_firstError_11 : decode cX4_firstError 11 = .ok (.invokevirtual 187, 3) := by decide +kernel
theorem dX4_firstError_14 : decode cX4_firstError 14 = .ok (.ireturn, 1) := by decide +kernel
theorem dX4_load_0 : decode cX4_load 0 = .ok (.new 184, 3) := by decide +kernel
theorem dX4_load_3 : decode cX4_load 3 = .ok (.dup, 1) := by decide +kernel
theorem dX4_load_4 : decode cX4_load 4 = .ok (.invokespecial 186, 3) := by decide +kernel
theorem dX4_load_7 : decode cX4_load 7 = .ok (.astore_n 1, 1) := by decide +kernel
theorem dX4_load_8 : decode cX4_load 8 = .ok (.aload_n 0, 1) := by decide +kernel
theorem dX4_load_9 : decode cX4_load 9 = .ok (.getfield 25, 3) := by decide +kernel
theorem dX4_load_12 : decode cX4_load 12 = .ok (.aload_n 1, 1) := by decide +kernel
theorem dX4_load_13 : decode cX4_load 13 = .ok (.invokevirtual 187, 3) := by decide +kernel
theorem dX4_load_16 : decode cX4_load 16 = .ok (.aload_n 0, 1) := by decide +kernel
theorem dX4_load_17 : decode cX4_load 17 = .ok (.getfield 25, 3) := by decide +kernel
theorem dX4_load_20 : decode cX4_load 20 = .ok (.getfield 181, 3) := by decide +kernel
theorem dX4_load_23 : decode cX4_load 23 = .ok (.if_icmp .lt 10, 3) := by decide +kernel
theorem dX4_load_26 : decode cX4_load 26 = .ok (.aload_n 1, 1) := by decide +kernel
theorem dX4_load_27 : decode cX4_load 27 = .ok (.invokevirtual 191, 3) := by decide +kernel
theorem dX4_load_30 : decode cX4_load 30 = .ok (.ifCond .ne 13, 3) := by decide +kernel
theorem dX4_load_33 : decode cX4_load 33 = .ok (.new 45, 3) := by decide +kernel
theorem dX4_load_36 : decode cX4_load 36 = .ok (.dup, 1) := by decide +kernel
theorem dX4_load_37 : decode cX4_load 37 = .ok (.ldc 194, 2) := by decide +kernel
theorem dX4_load_39 : decode cX4_load 39 = .ok (.invokespecial 49, 3) := by decide +kernel
theorem dX4_load_42 : decode cX4_load 42 = .ok (.athrow, 1) := by decide +kernel
theorem dX4_load_43 : decode cX4_load 43 = .ok (.aload_n 0, 1) := by decide +kernel
theorem dX4_load_44 : decode cX4_load 44 = .ok (.invokevirtual 52, 3) := by decide +kernel
theorem dX4_load_47 : decode cX4_load 47 = .ok (.aload_n 0, 1) := by decide +kernel
theorem dX4_load_48 : decode cX4_load 48 = .ok (.getfield 37, 3) := by decide +kernel
theorem dX4_load_51 : decode cX4_load 51 = .ok (.aload_n 1, 1) := by decide +kernel
theorem dX4_load_52 : decode cX4_load 52 = .ok (.getfield 196, 3) := by decide +kernel
theorem dX4_load_55 : decode cX4_load 55 = .ok (.aload_n 1, 1) := by decide +kernel
theorem dX4_load_56 : decode cX4_load 56 = .ok (.getfield 199, 3) := by decide +kernel
theorem dX4_load_59 : decode cX4_load 59 = .ok (.iconst 1, 1) := by decide +kernel
theorem dX4_load_60 : decode cX4_load 60 = .ok (.iadd, 1) := by decide +kernel
theorem dX4_load_61 : decode cX4_load 61 = .ok (.aload_n 1, 1) := by decide +kernel
theorem dX4_load_62 : decode cX4_load 62 = .ok (.getfield 202, 3) := by decide +kernel
theorem dX4_load_65 : decode cX4_load 65 = .ok (.aload_n 1, 1) := by decide +kernel
theorem dX4_load_66 : decode cX4_load 66 = .ok (.getfield 203, 3) := by decide +kernel
theorem dX4_load_69 : decode cX4_load 69 = .ok (.invokevirtual 55, 3) := by decide +kernel
theorem dX4_load_72 : decode cX4_load 72 = .ok (.aload_n 0, 1) := by decide +kernel
theorem dX4_load_73 : decode cX4_load 73 = .ok (.getfield 25, 3) := by decide +kernel
theorem dX4_load_76 : decode cX4_load 76 = .ok (.iconst 0, 1) := by decide +kernel
theorem dX4_load_77 : decode cX4_load 77 = .ok (.putfield 181, 3) := by decide +kernel
theorem dX4_load_80 : decode cX4_load 80 = .ok (.aload_n 0, 1) := by decide +kernel
theorem dX4_load_81 : decode cX4_load 81 = .ok (.getfield 37, 3) := by decide +kernel
theorem dX4_load_84 : decode cX4_load 84 = .ok (.invokevirtual 147, 3) := by decide +kernel
theorem dX4_load_87 : decode cX4_load 87 = .ok (.invokestatic 97, 3) := by decide +kernel
theorem dX4_load_90 : decode cX4_load 90 = .ok (.ireturn, 1) := by decide +kernel
theorem dX4_keep_0 : decode cX4_keep 0 = .ok (.aload_n 0, 1) := by decide +kernel
theorem dX4_keep_1 : decode cX4_keep 1 = .ok (.iload_n 1, 1) := by decide +kernel
theorem dX4_keep_2 : decode cX4_keep 2 = .ok (.invokevirtual 204, 3) := by decide +kernel
theorem dX4_keep_5 : decode cX4_keep 5 = .ok (.aload_n 0, 1) := by decide +kernel
theorem dX4_keep_6 : decode cX4_keep 6 = .ok (.getfield 18, 3) := by decide +kernel
theorem dX4_keep_9 : decode cX4_keep 9 = .ok (.iload_n 1, 1) := by decide +kernel
theorem dX4_keep_10 : decode cX4_keep 10 = .ok (.aload_n 0, 1) := by decide +kernel
theorem dX4_keep_11 : decode cX4_keep 11 = .ok (.getfield 37, 3) := by decide +kernel
theorem dX4_keep_14 : decode cX4_keep 14 = .ok (.invokevirtual 207, 3) := by decide +kernel
theorem dX4_keep_17 : decode cX4_keep 17 = .ok (.aastore, 1) := by decide +kernel
theorem dX4_keep_18 : decode cX4_keep 18 = .ok (.aload_n 0, 1) := by decide +kernel
theorem dX4_keep_19 : decode cX4_keep 19 = .ok (.getfield 37, 3) := by decide +kernel
theorem dX4_keep_22 : decode cX4_keep 22 = .ok (.getfield 155, 3) := by decide +kernel
theorem dX4_keep_25 : decode cX4_keep 25 = .ok (.ireturn, 1) := by decide +kernel
theorem dX4_goBack_0 : decode cX4_goBack 0 = .ok (.aload_n 0, 1) := by decide +kernel
theorem dX4_goBack_1 : decode cX4_goBack 1 = .ok (.iload_n 1, 1) := by decide +kernel
theorem dX4_goBack_2 : decode cX4_goBack 2 = .ok (.invokevirtual 204, 3) := by decide +kernel
theorem dX4_goBack_5 : decode cX4_goBack 5 = .ok (.aload_n 0, 1) := by decide +kernel
theorem dX4_goBack_6 : decode cX4_goBack 6 = .ok (.getfield 18, 3) := by decide +kernel
theorem dX4_goBack_9 : decode cX4_goBack 9 = .ok (.iload_n 1, 1) := by decide +kernel
theorem dX4_goBack_10 : decode cX4_goBack 10 = .ok (.aaload, 1) := by decide +kernel
theorem dX4_goBack_11 : decode cX4_goBack 11 = .ok (.astore_n 2, 1) := by decide +kernel
theorem dX4_goBack_12 : decode cX4_goBack 12 = .ok (.aload_n 2, 1) := by decide +kernel
theorem dX4_goBack_13 : decode cX4_goBack 13 = .ok (.ifnonnull 13, 3) := by decide +kernel
theorem dX4_goBack_16 : decode cX4_goBack 16 = .ok (.new 74, 3) := by decide +kernel
theorem dX4_goBack_19 : decode cX4_goBack 19 = .ok (.dup, 1) := by decide +kernel
theorem dX4_goBack_20 : decode cX4_goBack 20 = .ok (.ldc 211, 2) := by decide +kernel
theorem dX4_goBack_22 : decode cX4_goBack 22 = .ok (.invokespecial 78, 3) := by decide +kernel
theorem dX4_goBack_25 : decode cX4_goBack 25 = .ok (.athrow, 1) := by decide +kernel
theorem dX4_goBack_26 : decode cX4_goBack 26 = .ok (.aload_n 0, 1) := by decide +kernel
theorem dX4_goBack_27 : decode cX4_goBack 27 = .ok (.invokevirtual 52, 3) := by decide +kernel
theorem dX4_goBack_30 : decode cX4_goBack 30 = .ok (.aload_n 0, 1) := by decide +kernel
theorem dX4_goBack_31 : decode cX4_goBack 31 = .ok (.aload_n 2, 1) := by decide +kernel
theorem dX4_goBack_32 : decode cX4_goBack 32 = .ok (.invokevirtual 207, 3) := by decide +kernel
theorem dX4_goBack_35 : decode cX4_goBack 35 = .ok (.putfield 37, 3) := by decide +kernel
theorem dX4_goBack_38 : decode cX4_goBack 38 = .ok (.aload_n 0, 1) := by decide +kernel
theorem dX4_goBack_39 : decode cX4_goBack 39 = .ok (.getfield 37, 3) := by decide +kernel
theorem dX4_goBack_42 : decode cX4_goBack 42 = .ok (.getfield 155, 3) := by decide +kernel
theorem dX4_goBack_45 : decode cX4_goBack 45 = .ok (.ireturn, 1) := by decide +kernel
theorem dX4_undo_0 : decode cX4_undo 0 = .ok (.aload_n 0, 1) := by decide +kernel
theorem dX4_undo_1 : decode cX4_undo 1 = .ok (.getfield 12, 3) := by decide +kernel
theorem dX4_undo_4 : decode cX4_undo 4 = .ok (.invokevirtual 213, 3) := by decide +kernel
theorem dX4_undo_7 : decode cX4_undo 7 = .ok (.iconst 1, 1) := by decide +kernel
theorem dX4_undo_8 : decode cX4_undo 8 = .ok (.isub, 1) := by decide +kernel
theorem dX4_undo_9 : decode cX4_undo 9 = .ok (.istore_n 1, 1) := by decide +kernel
theorem dX4_undo_10 : decode cX4_undo 10 = .ok (.iload_n 1, 1) := by decide +kernel
theorem dX4_undo_11 : decode cX4_undo 11 = .ok (.ifCond .ge 13, 3) := by decide +kernel
theorem dX4_undo_14 : decode cX4_undo 14 = .ok (.new 74, 3) := by decide +kernel
theorem dX4_undo_17 : decode cX4_undo 17 = .ok (.dup, 1) := by decide +kernel
theorem dX4_undo_18 : decode cX4_undo 18 = .ok (.ldc 217, 2) := by decide +kernel
theorem dX4_undo_20 : decode cX4_undo 20 = .ok (.invokespecial 78, 3) := by decide +kernel
theorem dX4_undo_23 : decode cX4_undo 23 = .ok (.athrow, 1) := by decide +kernel
theorem dX4_undo_24 : decode cX4_undo 24 = .ok (.aload_n 0, 1) := by decide +kernel
theorem dX4_undo_25 : decode cX4_undo 25 = .ok (.aload_n 0, 1) := by decide +kernel
theorem dX4_undo_26 : decode cX4_undo 26 = .ok (.getfield 12, 3) := by decide +kernel
theorem dX4_undo_29 : decode cX4_undo 29 = .ok (.iload_n 1, 1) := by decide +kernel
theorem dX4_undo_30 : decode cX4_undo 30 = .ok (.invokevirtual 219, 3) := by decide +kernel
theorem dX4_undo_33 : decode cX4_undo 33 = .ok (.checkcast 16, 3) := by decide +kernel
theorem dX4_undo_36 : decode cX4_undo 36 = .ok (.putfield 37, 3) := by decide +kernel
theorem dX4_undo_39 : decode cX4_undo 39 = .ok (.aload_n 0, 1) := by decide +kernel
theorem dX4_undo_40 : decode cX4_undo 40 = .ok (.getfield 12, 3) := by decide +kernel
theorem dX4_undo_43 : decode cX4_undo 43 = .ok (.iload_n 1, 1) := by decide +kernel
theorem dX4_undo_44 : decode cX4_undo 44 = .ok (.invokevirtual 223, 3) := by decide +kernel
theorem dX4_undo_47 : decode cX4_undo 47 = .ok (.pop, 1) := by decide +kernel
theorem dX4_undo_48 : decode cX4_undo 48 = .ok (.iload_n 1, 1) := by decide +kernel
theorem dX4_undo_49 : decode cX4_undo 49 = .ok (.ireturn, 1) := by decide +kernel
theorem dX4_cell_0 : decode cX4_cell 0 = .ok (.aload_n 0, 1) := by decide +kernel
theorem dX4_cell_1 : decode cX4_cell 1 = .ok (.iload_n 1, 1) := by decide +kernel
theorem dX4_cell_2 : decode cX4_cell 2 = .ok (.iload_n 2, 1) := by decide +kernel
theorem dX4_cell_3 : decode cX4_cell 3 = .ok (.invokevirtual 59, 3) := by decide +kernel
theorem dX4_cell_6 : decode cX4_cell 6 = .ok (.iload_n 3, 1) := by decide +kernel
theorem dX4_cell_7 : decode cX4_cell 7 = .ok (.invokestatic 226, 3) := by decide +kernel
theorem dX4_cell_10 : decode cX4_cell 10 = .ok (.iload_n 3, 1) := by decide +kernel
theorem dX4_cell_11 : decode cX4_cell 11 = .ok (.ifCond .ne 16, 3) := by decide +kernel
theorem dX4_cell_14 : decode cX4_cell 14 = .ok (.aload_n 0, 1) := by decide +kernel
theorem dX4_cell_15 : decode cX4_cell 15 = .ok (.getfield 37, 3) := by decide +kernel
theorem dX4_cell_18 : decode cX4_cell 18 = .ok (.iload_n 1, 1) := by decide +kernel
theorem dX4_cell_19 : decode cX4_cell 19 = .ok (.iload_n 2, 1) := by decide +kernel
theorem dX4_cell_20 : decode cX4_cell 20 = .ok (.invokestatic 63, 3) := by decide +kernel
theorem dX4_cell_23 : decode cX4_cell 23 = .ok (.invokevirtual 229, 3) := by decide +kernel
theorem dX4_cell_26 : decode cX4_cell 26 = .ok (.ireturn, 1) := by decide +kernel
theorem dX4_cell_27 : decode cX4_cell 27 = .ok (.iload_n 3, 1) := by decide +kernel
theorem dX4_cell_28 : decode cX4_cell 28 = .ok (.iconst 1, 1) := by decide +kernel
theorem dX4_cell_29 : decode cX4_cell 29 = .ok (.if_icmp .ne 18, 3) := by decide +kernel
theorem dX4_cell_32 : decode cX4_cell 32 = .ok (.aload_n 0, 1) := by decide +kernel
theorem dX4_cell_33 : decode cX4_cell 33 = .ok (.getfield 37, 3) := by decide +kernel
theorem dX4_cell_36 : decode cX4_cell 36 = .ok (.iload_n 1, 1) := by decide +kernel
theorem dX4_cell_37 : decode cX4_cell 37 = .ok (.iload_n 2, 1) := by decide +kernel
theorem dX4_cell_38 : decode cX4_cell 38 = .ok (.invokestatic 63, 3) := by decide +kernel
theorem dX4_cell_41 : decode cX4_cell 41 = .ok (.invokevirtual 118, 3) := by decide +kernel
theorem dX4_cell_44 : decode cX4_cell 44 = .ok (.goto 15, 3) := by decide +kernel
theorem dX4_cell_47 : decode cX4_cell 47 = .ok (.aload_n 0, 1) := by decide +kernel
theorem dX4_cell_48 : decode cX4_cell 48 = .ok (.getfield 37, 3) := by decide +kernel
theorem dX4_cell_51 : decode cX4_cell 51 = .ok (.iload_n 1, 1) := by decide +kernel
theorem dX4_cell_52 : decode cX4_cell 52 = .ok (.iload_n 2, 1) := by decide +kernel
theorem dX4_cell_53 : decode cX4_cell 53 = .ok (.invokestatic 83, 3) := by decide +kernel
theorem dX4_cell_56 : decode cX4_cell 56 = .ok (.invokevirtual 232, 3) := by decide +kernel
theorem dX4_cell_59 : decode cX4_cell 59 = .ok (.ireturn, 1) := by decide +kernel
theorem dX4_triple_0 : decode cX4_triple 0 = .ok (.iload_n 1, 1) := by decide +kernel
theorem dX4_triple_1 : decode cX4_triple 1 = .ok (.ifCond .lt 14, 3) := by decide +kernel
theorem dX4_triple_4 : decode cX4_triple 4 = .ok (.iload_n 1, 1) := by decide +kernel
theorem dX4_triple_5 : decode cX4_triple 5 = .ok (.aload_n 0, 1) := by decide +kernel
theorem dX4_triple_6 : decode cX4_triple 6 = .ok (.getfield 37, 3) := by decide +kernel
theorem dX4_triple_9 : decode cX4_triple 9 = .ok (.getfield 155, 3) := by decide +kernel
theorem dX4_triple_12 : decode cX4_triple 12 = .ok (.if_icmp .lt 13, 3) := by decide +kernel
theorem dX4_triple_15 : decode cX4_triple 15 = .ok (.new 130, 3) := by decide +kernel
theorem dX4_triple_18 : decode cX4_triple 18 = .ok (.dup, 1) := by decide +kernel
theorem dX4_triple_19 : decode cX4_triple 19 = .ok (.ldc 235, 2) := by decide +kernel
theorem dX4_triple_21 : decode cX4_triple 21 = .ok (.invokespecial 134, 3) := by decide +kernel
theorem dX4_triple_24 : decode cX4_triple 24 = .ok (.athrow, 1) := by decide +kernel
theorem dX4_triple_25 : decode cX4_triple 25 = .ok (.iload_n 2, 1) := by decide +kernel
theorem dX4_triple_26 : decode cX4_triple 26 = .ok (.invokestatic 226, 3) := by decide +kernel
theorem dX4_triple_29 : decode cX4_triple 29 = .ok (.aload_n 0, 1) := by decide +kernel
theorem dX4_triple_30 : decode cX4_triple 30 = .ok (.getfield 37, 3) := by decide +kernel
theorem dX4_triple_33 : decode cX4_triple 33 = .ok (.iload_n 1, 1) := by decide +kernel
theorem dX4_triple_34 : decode cX4_triple 34 = .ok (.invokevirtual 237, 3) := by decide +kernel
theorem dX4_triple_37 : decode cX4_triple 37 = .ok (.istore_n 3, 1) := by decide +kernel
theorem dX4_triple_38 : decode cX4_triple 38 = .ok (.iload_n 2, 1) := by decide +kernel
theorem dX4_triple_39 : decode cX4_triple 39 = .ok (.ifCond .ne 8, 3) := by decide +kernel
theorem dX4_triple_42 : decode cX4_triple 42 = .ok (.iload_n 3, 1) := by decide +kernel
theorem dX4_triple_43 : decode cX4_triple 43 = .ok (.invokestatic 240, 3) := by decide +kernel
theorem dX4_triple_46 : decode cX4_triple 46 = .ok (.ireturn, 1) := by decide +kernel
theorem dX4_triple_47 : decode cX4_triple 47 = .ok (.iload_n 2, 1) := by decide +kernel
theorem dX4_triple_48 : decode cX4_triple 48 = .ok (.iconst 1, 1) := by decide +kernel
theorem dX4_triple_49 : decode cX4_triple 49 = .ok (.if_icmp .ne 10, 3) := by decide +kernel
theorem dX4_triple_52 : decode cX4_triple 52 = .ok (.iload_n 3, 1) := by decide +kernel
theorem dX4_triple_53 : decode cX4_triple 53 = .ok (.invokestatic 243, 3) := by decide +kernel
theorem dX4_triple_56 : decode cX4_triple 56 = .ok (.goto 7, 3) := by decide +kernel
theorem dX4_triple_59 : decode cX4_triple 59 = .ok (.iload_n 3, 1) := by decide +kernel
theorem dX4_triple_60 : decode cX4_triple 60 = .ok (.invokestatic 246, 3) := by decide +kernel
theorem dX4_triple_63 : decode cX4_triple 63 = .ok (.ireturn, 1) := by decide +kernel
theorem dX4_row_0 : decode cX4_row 0 = .ok (.iload_n 1, 1) := by decide +kernel
theorem dX4_row_1 : decode cX4_row 1 = .ok (.ifCond .lt 14, 3) := by decide +kernel
theorem dX4_row_4 : decode cX4_row 4 = .ok (.iload_n 1, 1) := by decide +kernel
theorem dX4_row_5 : decode cX4_row 5 = .ok (.aload_n 0, 1) := by decide +kernel
theorem dX4_row_6 : decode cX4_row 6 = .ok (.getfield 37, 3) := by decide +kernel
theorem dX4_row_9 : decode cX4_row 9 = .ok (.getfield 249, 3) := by decide +kernel
theorem dX4_row_12 : decode cX4_row 12 = .ok (.if_icmp .lt 13, 3) := by decide +kernel
theorem dX4_row_15 : decode cX4_row 15 = .ok (.new 130, 3) := by decide +kernel
theorem dX4_row_18 : decode cX4_row 18 = .ok (.dup, 1) := by decide +kernel
theorem dX4_row_19 : decode cX4_row 19 = .ok (.ldc 252, 2) := by decide +kernel
theorem dX4_row_21 : decode cX4_row 21 = .ok (.invokespecial 134, 3) := by decide +kernel
theorem dX4_row_24 : decode cX4_row 24 = .ok (.athrow, 1) := by decide +kernel
theorem dX4_row_25 : decode cX4_row 25 = .ok (.iload_n 2, 1) := by decide +kernel
theorem dX4_row_26 : decode cX4_row 26 = .ok (.invokestatic 226, 3) := by decide +kernel
theorem dX4_row_29 : decode cX4_row 29 = .ok (.iload_n 2, 1) := by decide +kernel
theorem dX4_row_30 : decode cX4_row 30 = .ok (.ifCond .ne 15, 3) := by decide +kernel
theorem dX4_row_33 : decode cX4_row 33 = .ok (.aload_n 0, 1) := by decide +kernel
theorem dX4_row_34 : decode cX4_row 34 = .ok (.getfield 37, 3) := by decide +kernel
theorem dX4_row_37 : decode cX4_row 37 = .ok (.invokevirtual 147, 3) := by decide +kernel
theorem dX4_row_40 : decode cX4_row 40 = .ok (.iload_n 1, 1) := by decide +kernel
theorem dX4_row_41 : decode cX4_row 41 = .ok (.invokestatic 254, 3) := by decide +kernel
theorem dX4_row_44 : decode cX4_row 44 = .ok (.ireturn, 1) := by decide +kernel
theorem dX4_row_45 : decode cX4_row 45 = .ok (.iload_n 2, 1) := by decide +kernel
theorem dX4_row_46 : decode cX4_row 46 = .ok (.iconst 1, 1) := by decide +kernel
theorem dX4_row_47 : decode cX4_row 47 = .ok (.if_icmp .ne 13, 3) := by decide +kernel
theorem dX4_row_50 : decode cX4_row 50 = .ok (.aload_n 0, 1) := by decide +kernel
theorem dX4_row_51 : decode cX4_row 51 = .ok (.getfield 37, 3) := by decide +kernel
theorem dX4_row_54 : decode cX4_row 54 = .ok (.getfield 67, 3) := by decide +kernel
theorem dX4_row_57 : decode cX4_row 57 = .ok (.goto 10, 3) := by decide +kernel
theorem dX4_row_60 : decode cX4_row 60 = .ok (.aload_n 0, 1) := by decide +kernel
theorem dX4_row_61 : decode cX4_row 61 = .ok (.getfield 37, 3) := by decide +kernel
theorem dX4_row_64 : decode cX4_row 64 = .ok (.getfield 71, 3) := by decide +kernel
theorem dX4_row_67 : decode cX4_row 67 = .ok (.iload_n 1, 1) := by decide +kernel
theorem dX4_row_68 : decode cX4_row 68 = .ok (.invokestatic 254, 3) := by decide +kernel
theorem dX4_row_71 : decode cX4_row 71 = .ok (.ireturn, 1) := by decide +kernel
theorem dX4_count_0 : decode cX4_count 0 = .ok (.iload_n 1, 1) := by decide +kernel
theorem dX4_count_1 : decode cX4_count 1 = .ok (.tableswitch 171 0 11 #[63, 71, 79, 90, 101, 112, 120, 131, 139, 147, 155, 163], 63) := by decide +kernel
theorem dX4_count_64 : decode cX4_count 64 = .ok (.aload_n 0, 1) := by decide +kernel
theorem dX4_count_65 : decode cX4_count 65 = .ok (.getfield 37, 3) := by decide +kernel
theorem dX4_count_68 : decode cX4_count 68 = .ok (.getfield 258, 3) := by decide +kernel
theorem dX4_count_71 : decode cX4_count 71 = .ok (.ireturn, 1) := by decide +kernel
theorem dX4_count_72 : decode cX4_count 72 = .ok (.aload_n 0, 1) := by decide +kernel
theorem dX4_count_73 : decode cX4_count 73 = .ok (.getfield 37, 3) := by decide +kernel
theorem dX4_count_76 : decode cX4_count 76 = .ok (.getfield 249, 3) := by decide +kernel
theorem dX4_count_79 : decode cX4_count 79 = .ok (.ireturn, 1) := by decide +kernel
theorem dX4_count_80 : decode cX4_count 80 = .ok (.aload_n 0, 1) := by decide +kernel
theorem dX4_count_81 : decode cX4_count 81 = .ok (.getfield 37, 3) := by decide +kernel
theorem dX4_count_84 : decode cX4_count 84 = .ok (.getfield 79, 3) := by decide +kernel
theorem dX4_count_87 : decode cX4_count 87 = .ok (.bipush 8, 2) := by decide +kernel
theorem dX4_count_89 : decode cX4_count 89 = .ok (.irem, 1) := by decide +kernel
theorem dX4_count_90 : decode cX4_count 90 = .ok (.ireturn, 1) := by decide +kernel
theorem dX4_count_91 : decode cX4_count 91 = .ok (.aload_n 0, 1) := by decide +kernel
theorem dX4_count_92 : decode cX4_count 92 = .ok (.getfield 37, 3) := by decide +kernel
theorem dX4_count_95 : decode cX4_count 95 = .ok (.getfield 79, 3) := by decide +kernel
theorem dX4_count_98 : decode cX4_count 98 = .ok (.bipush 8, 2) := by decide +kernel
theorem dX4_count_100 : decode cX4_count 100 = .ok (.idiv, 1) := by decide +kernel
theorem dX4_count_101 : decode cX4_count 101 = .ok (.ireturn, 1) := by decide +kernel
theorem dX4_count_102 : decode cX4_count 102 = .ok (.aload_n 0, 1) := by decide +kernel
theorem dX4_count_103 : decode cX4_count 103 = .ok (.getfield 37, 3) := by decide +kernel
theorem dX4_count_106 : decode cX4_count 106 = .ok (.getfield 67, 3) := by decide +kernel
theorem dX4_count_109 : decode cX4_count 109 = .ok (.invokestatic 97, 3) := by decide +kernel
theorem dX4_count_112 : decode cX4_count 112 = .ok (.ireturn, 1) := by decide +kernel
theorem dX4_count_113 : decode cX4_count 113 = .ok (.aload_n 0, 1) := by decide +kernel
theorem dX4_count_114 : decode cX4_count 114 = .ok (.getfield 37, 3) := by decide +kernel
theorem dX4_count_117 : decode cX4_count 117 = .ok (.getfield 155, 3) := by decide +kernel
theorem dX4_count_120 : decode cX4_count 120 = .ok (.ireturn, 1) := by decide +kernel
theorem dX4_count_121 : decode cX4_count 121 = .ok (.aload_n 0, 1) := by decide +kernel
theorem dX4_count_122 : decode cX4_count 122 = .ok (.getfield 37, 3) := by decide +kernel
theorem dX4_count_125 : decode cX4_count 125 = .ok (.invokevirtual 147, 3) := by decide +kernel
theorem dX4_count_128 : decode cX4_count 128 = .ok (.invokestatic 97, 3) := by decide +kernel
theorem dX4_count_131 : decode cX4_count 131 = .ok (.ireturn, 1) := by decide +kernel
theorem dX4_count_132 : decode cX4_count 132 = .ok (.aload_n 0, 1) := by decide +kernel
theorem dX4_count_133 : decode cX4_count 133 = .ok (.getfield 37, 3) := by decide +kernel
theorem dX4_count_136 : decode cX4_count 136 = .ok (.invokevirtual 259, 3) := by decide +kernel
theorem dX4_count_139 : decode cX4_count 139 = .ok (.ireturn, 1) := by decide +kernel
theorem dX4_count_140 : decode cX4_count 140 = .ok (.aload_n 0, 1) := by decide +kernel
theorem dX4_count_141 : decode cX4_count 141 = .ok (.getfield 37, 3) := by decide +kernel
theorem dX4_count_144 : decode cX4_count 144 = .ok (.invokevirtual 262, 3) := by decide +kernel
theorem dX4_count_147 : decode cX4_count 147 = .ok (.ireturn, 1) := by decide +kernel
theorem dX4_count_148 : decode cX4_count 148 = .ok (.aload_n 0, 1) := by decide +kernel
theorem dX4_count_149 : decode cX4_count 149 = .ok (.getfield 37, 3) := by decide +kernel
theorem dX4_count_152 : decode cX4_count 152 = .ok (.getfield 144, 3) := by decide +kernel
theorem dX4_count_155 : decode cX4_count 155 = .ok (.ireturn, 1) := by decide +kernel
theorem dX4_count_156 : decode cX4_count 156 = .ok (.aload_n 0, 1) := by decide +kernel
theorem dX4_count_157 : decode cX4_count 157 = .ok (.getfield 37, 3) := by decide +kernel
theorem dX4_count_160 : decode cX4_count 160 = .ok (.getfield 115, 3) := by decide +kernel
theorem dX4_count_163 : decode cX4_count 163 = .ok (.ireturn, 1) := by decide +kernel
theorem dX4_count_164 : decode cX4_count 164 = .ok (.aload_n 0, 1) := by decide +kernel
theorem dX4_count_165 : decode cX4_count 165 = .ok (.getfield 12, 3) := by decide +kernel
theorem dX4_count_168 : decode cX4_count 168 = .ok (.invokevirtual 213, 3) := by decide +kernel
theorem dX4_count_171 : decode cX4_count 171 = .ok (.ireturn, 1) := by decide +kernel
theorem dX4_count_172 : decode cX4_count 172 = .ok (.new 45, 3) := by decide +kernel
theorem dX4_count_175 : decode cX4_count 175 = .ok (.dup, 1) := by decide +kernel
theorem dX4_count_176 : decode cX4_count 176 = .ok (.ldc_w 265, 3) := by decide +kernel
theorem dX4_count_179 : decode cX4_count 179 = .ok (.invokespecial 49, 3) := by decide +kernel
theorem dX4_count_182 : decode cX4_count 182 = .ok (.athrow, 1) := by decide +kernel
theorem dX4_whyNot_0 : decode cX4_whyNot 0 = .ok (.iload_n 3, 1) := by decide +kernel
theorem dX4_whyNot_1 : decode cX4_whyNot 1 = .ok (.invokestatic 103, 3) := by decide +kernel
theorem dX4_whyNot_4 : decode cX4_whyNot 4 = .ok (.aload_n 0, 1) := by decide +kernel
theorem dX4_whyNot_5 : decode cX4_whyNot 5 = .ok (.getfield 37, 3) := by decide +kernel
theorem dX4_whyNot_8 : decode cX4_whyNot 8 = .ok (.iload_n 1, 1) := by decide +kernel
theorem dX4_whyNot_9 : decode cX4_whyNot 9 = .ok (.iload_n 2, 1) := by decide +kernel
theorem dX4_whyNot_10 : decode cX4_whyNot 10 = .ok (.iload_n 3, 1) := by decide +kernel
theorem dX4_whyNot_11 : decode cX4_whyNot 11 = .ok (.invokevirtual 107, 3) := by decide +kernel
theorem dX4_whyNot_14 : decode cX4_whyNot 14 = .ok (.ireturn, 1) := by decide +kernel
theorem dX4_ways_0 : decode cX4_ways 0 = .ok (.aload_n 0, 1) := by decide +kernel
theorem dX4_ways_1 : decode cX4_ways 1 = .ok (.getfield 32, 3) := by decide +kernel
theorem dX4_ways_4 : decode cX4_ways 4 = .ok (.aload_n 0, 1) := by decide +kernel
theorem dX4_ways_5 : decode cX4_ways 5 = .ok (.getfield 37, 3) := by decide +kernel
theorem dX4_ways_8 : decode cX4_ways 8 = .ok (.invokevirtual 147, 3) := by decide +kernel
theorem dX4_ways_11 : decode cX4_ways 11 = .ok (.invokevirtual 150, 3) := by decide +kernel
theorem dX4_ways_14 : decode cX4_ways 14 = .ok (.ireturn, 1) := by decide +kernel
theorem dX4_waysWith_0 : decode cX4_waysWith 0 = .ok (.iload_n 3, 1) := by decide +kernel
theorem dX4_waysWith_1 : decode cX4_waysWith 1 = .ok (.invokestatic 103, 3) := by decide +kernel
theorem dX4_waysWith_4 : decode cX4_waysWith 4 = .ok (.aload_n 0, 1) := by decide +kernel
theorem dX4_waysWith_5 : decode cX4_waysWith 5 = .ok (.getfield 37, 3) := by decide +kernel
theorem dX4_waysWith_8 : decode cX4_waysWith 8 = .ok (.iload_n 1, 1) := by decide +kernel
theorem dX4_waysWith_9 : decode cX4_waysWith 9 = .ok (.iload_n 2, 1) := by decide +kernel
theorem dX4_waysWith_10 : decode cX4_waysWith 10 = .ok (.iload_n 3, 1) := by decide +kernel
theorem dX4_waysWith_11 : decode cX4_waysWith 11 = .ok (.invokevirtual 107, 3) := by decide +kernel
theorem dX4_waysWith_14 : decode cX4_waysWith 14 = .ok (.ifCond .eq 5, 3) := by decide +kernel
theorem dX4_waysWith_17 : decode cX4_waysWith 17 = .ok (.iconst (-1), 1) := by decide +kernel
theorem dX4_waysWith_18 : decode cX4_waysWith 18 = .ok (.ireturn, 1) := by decide +kernel
theorem dX4_waysWith_19 : decode cX4_waysWith 19 = .ok (.aload_n 0, 1) := by decide +kernel
theorem dX4_waysWith_20 : decode cX4_waysWith 20 = .ok (.getfield 32, 3) := by decide +kernel
theorem dX4_waysWith_23 : decode cX4_waysWith 23 = .ok (.aload_n 0, 1) := by decide +kernel
theorem dX4_waysWith_24 : decode cX4_waysWith 24 = .ok (.getfield 37, 3) := by decide +kernel
theorem dX4_waysWith_27 : decode cX4_waysWith 27 = .ok (.invokevirtual 147, 3) := by decide +kernel
theorem dX4_waysWith_30 : decode cX4_waysWith 30 = .ok (.iload_n 1, 1) := by decide +kernel
theorem dX4_waysWith_31 : decode cX4_waysWith 31 = .ok (.iload_n 2, 1) := by decide +kernel
theorem dX4_waysWith_32 : decode cX4_waysWith 32 = .ok (.iload_n 3, 1) := by decide +kernel
theorem dX4_waysWith_33 : decode cX4_waysWith 33 = .ok (.invokestatic 267, 3) := by decide +kernel
theorem dX4_waysWith_36 : decode cX4_waysWith 36 = .ok (.ldc2_w 271, 3) := by decide +kernel
theorem dX4_waysWith_39 : decode cX4_waysWith 39 = .ok (.lxor, 1) := by decide +kernel
theorem dX4_waysWith_40 : decode cX4_waysWith 40 = .ok (.land, 1) := by decide +kernel
theorem dX4_waysWith_41 : decode cX4_waysWith 41 = .ok (.invokevirtual 150, 3) := by decide +kernel
theorem dX4_waysWith_44 : decode cX4_waysWith 44 = .ok (.ireturn, 1) := by decide +kernel
theorem dX4_forced_0 : decode cX4_forced 0 = .ok (.iload_n 1, 1) := by decide +kernel
theorem dX4_forced_1 : decode cX4_forced 1 = .ok (.ifCond .eq 19, 3) := by decide +kernel
theorem dX4_forced_4 : decode cX4_forced 4 = .ok (.iload_n 1, 1) := by decide +kernel
theorem dX4_forced_5 : decode cX4_forced 5 = .ok (.iconst 1, 1) := by decide +kernel
theorem dX4_forced_6 : decode cX4_forced 6 = .ok (.if_icmp .eq 14, 3) := by decide +kernel
theorem dX4_forced_9 : decode cX4_forced 9 = .ok (.new 45, 3) := by decide +kernel
theorem dX4_forced_12 : decode cX4_forced 12 = .ok (.dup, 1) := by decide +kernel
theorem dX4_forced_13 : decode cX4_forced 13 = .ok (.ldc_w 273, 3) := by decide +kernel
theorem dX4_forced_16 : decode cX4_forced 16 = .ok (.invokespecial 49, 3) := by decide +kernel
theorem dX4_forced_19 : decode cX4_forced 19 = .ok (.athrow, 1) := by decide +kernel
theorem dX4_forced_20 : decode cX4_forced 20 = .ok (.aload_n 0, 1) := by decide +kernel
theorem dX4_forced_21 : decode cX4_forced 21 = .ok (.getfield 37, 3) := by decide +kernel
theorem dX4_forced_24 : decode cX4_forced 24 = .ok (.iconst 1, 1) := by decide +kernel
theorem dX4_forced_25 : decode cX4_forced 25 = .ok (.invokevirtual 275, 3) := by decide +kernel
theorem dX4_forced_28 : decode cX4_forced 28 = .ok (.istore_n 2, 1) := by decide +kernel
theorem dX4_forced_29 : decode cX4_forced 29 = .ok (.iload_n 2, 1) := by decide +kernel
theorem dX4_forced_30 : decode cX4_forced 30 = .ok (.iconst (-1), 1) := by decide +kernel
theorem dX4_forced_31 : decode cX4_forced 31 = .ok (.if_icmp .ne 5, 3) := by decide +kernel
theorem dX4_forced_34 : decode cX4_forced 34 = .ok (.iconst (-1), 1) := by decide +kernel
theorem dX4_forced_35 : decode cX4_forced 35 = .ok (.ireturn, 1) := by decide +kernel
theorem dX4_forced_36 : decode cX4_forced 36 = .ok (.iload_n 1, 1) := by decide +kernel
theorem dX4_forced_37 : decode cX4_forced 37 = .ok (.ifCond .ne 10, 3) := by decide +kernel
theorem dX4_forced_40 : decode cX4_forced 40 = .ok (.iload_n 2, 1) := by decide +kernel
theorem dX4_forced_41 : decode cX4_forced 41 = .ok (.invokestatic 87, 3) := by decide +kernel
theorem dX4_forced_44 : decode cX4_forced 44 = .ok (.goto 11, 3) := by decide +kernel
theorem dX4_forced_47 : decode cX4_forced 47 = .ok (.aload_n 0, 1) := by decide +kernel
theorem dX4_forced_48 : decode cX4_forced 48 = .ok (.getfield 37, 3) := by decide +kernel
theorem dX4_forced_51 : decode cX4_forced 51 = .ok (.iload_n 2, 1) := by decide +kernel
theorem dX4_forced_52 : decode cX4_forced 52 = .ok (.invokevirtual 278, 3) := by decide +kernel
theorem dX4_forced_55 : decode cX4_forced 55 = .ok (.ireturn, 1) := by decide +kernel
theorem dX4_lonely_0 : decode cX4_lonely 0 = .ok (.aload_n 0, 1) := by decide +kernel
theorem dX4_lonely_1 : decode cX4_lonely 1 = .ok (.getfield 37, 3) := by decide +kernel
theorem dX4_lonely_4 : decode cX4_lonely 4 = .ok (.iconst 0, 1) := by decide +kernel
theorem dX4_lonely_5 : decode cX4_lonely 5 = .ok (.invokevirtual 275, 3) := by decide +kernel
theorem dX4_lonely_8 : decode cX4_lonely 8 = .ok (.istore_n 1, 1) := by decide +kernel
theorem dX4_lonely_9 : decode cX4_lonely 9 = .ok (.iload_n 1, 1) := by decide +kernel
theorem dX4_lonely_10 : decode cX4_lonely 10 = .ok (.iconst (-1), 1) := by decide +kernel
theorem dX4_lonely_11 : decode cX4_lonely 11 = .ok (.if_icmp .ne 7, 3) := by decide +kernel
theorem dX4_lonely_14 : decode cX4_lonely 14 = .ok (.iconst (-1), 1) := by decide +kernel
theorem dX4_lonely_15 : decode cX4_lonely 15 = .ok (.goto 7, 3) := by decide +kernel
theorem dX4_lonely_18 : decode cX4_lonely 18 = .ok (.iload_n 1, 1) := by decide +kernel
theorem dX4_lonely_19 : decode cX4_lonely 19 = .ok (.invokestatic 87, 3) := by decide +kernel
theorem dX4_lonely_22 : decode cX4_lonely 22 = .ok (.ireturn, 1) := by decide +kernel
theorem dX4_bestPond_0 : decode cX4_bestPond 0 = .ok (.aload_n 0, 1) := by decide +kernel
theorem dX4_bestPond_1 : decode cX4_bestPond 1 = .ok (.getfield 32, 3) := by decide +kernel
theorem dX4_bestPond_4 : decode cX4_bestPond 4 = .ok (.aload_n 0, 1) := by decide +kernel
theorem dX4_bestPond_5 : decode cX4_bestPond 5 = .ok (.getfield 37, 3) := by decide +kernel
theorem dX4_bestPond_8 : decode cX4_bestPond 8 = .ok (.invokevirtual 147, 3) := by decide +kernel
theorem dX4_bestPond_11 : decode cX4_bestPond 11 = .ok (.aload_n 0, 1) := by decide +kernel
theorem dX4_bestPond_12 : decode cX4_bestPond 12 = .ok (.getfield 37, 3) := by decide +kernel
theorem dX4_bestPond_15 : decode cX4_bestPond 15 = .ok (.invokevirtual 91, 3) := by decide +kernel
theorem dX4_bestPond_18 : decode cX4_bestPond 18 = .ok (.lor, 1) := by decide +kernel
theorem dX4_bestPond_19 : decode cX4_bestPond 19 = .ok (.invokevirtual 281, 3) := by decide +kernel
theorem dX4_bestPond_22 : decode cX4_bestPond 22 = .ok (.istore_n 1, 1) := by decide +kernel
theorem dX4_bestPond_23 : decode cX4_bestPond 23 = .ok (.iload_n 1, 1) := by decide +kernel
theorem dX4_bestPond_24 : decode cX4_bestPond 24 = .ok (.iconst (-1), 1) := by decide +kernel
theorem dX4_bestPond_25 : decode cX4_bestPond 25 = .ok (.if_icmp .ne 7, 3) := by decide +kernel
theorem dX4_bestPond_28 : decode cX4_bestPond 28 = .ok (.iconst (-1), 1) := by decide +kernel
theorem dX4_bestPond_29 : decode cX4_bestPond 29 = .ok (.goto 7, 3) := by decide +kernel
theorem dX4_bestPond_32 : decode cX4_bestPond 32 = .ok (.iload_n 1, 1) := by decide +kernel
theorem dX4_bestPond_33 : decode cX4_bestPond 33 = .ok (.invokestatic 87, 3) := by decide +kernel
theorem dX4_bestPond_36 : decode cX4_bestPond 36 = .ok (.ireturn, 1) := by decide +kernel
theorem dX4_pavedShare_0 : decode cX4_pavedShare 0 = .ok (.aload_n 0, 1) := by decide +kernel
theorem dX4_pavedShare_1 : decode cX4_pavedShare 1 = .ok (.getfield 37, 3) := by decide +kernel
theorem dX4_pavedShare_4 : decode cX4_pavedShare 4 = .ok (.getfield 71, 3) := by decide +kernel
theorem dX4_pavedShare_7 : decode cX4_pavedShare 7 = .ok (.invokestatic 97, 3) := by decide +kernel
theorem dX4_pavedShare_10 : decode cX4_pavedShare 10 = .ok (.istore_n 1, 1) := by decide +kernel
theorem dX4_pavedShare_11 : decode cX4_pavedShare 11 = .ok (.iload_n 1, 1) := by decide +kernel
theorem dX4_pavedShare_12 : decode cX4_pavedShare 12 = .ok (.aload_n 0, 1) := by decide +kernel
theorem dX4_pavedShare_13 : decode cX4_pavedShare 13 = .ok (.getfield 37, 3) := by decide +kernel
theorem dX4_pavedShare_16 : decode cX4_pavedShare 16 = .ok (.invokevirtual 147, 3) := by decide +kernel
theorem dX4_pavedShare_19 : decode cX4_pavedShare 19 = .ok (.invokestatic 97, 3) := by decide +kernel
theorem dX4_pavedShare_22 : decode cX4_pavedShare 22 = .ok (.iadd, 1) := by decide +kernel
theorem dX4_pavedShare_23 : decode cX4_pavedShare 23 = .ok (.istore_n 2, 1) := by decide +kernel
theorem dX4_pavedShare_24 : decode cX4_pavedShare 24 = .ok (.iload_n 2, 1) := by decide +kernel
theorem dX4_pavedShare_25 : decode cX4_pavedShare 25 = .ok (.ifCond .ne 7, 3) := by decide +kernel
theorem dX4_pavedShare_28 : decode cX4_pavedShare 28 = .ok (.dconst 1, 1) := by decide +kernel
theorem dX4_pavedShare_29 : decode cX4_pavedShare 29 = .ok (.goto 8, 3) := by decide +kernel
theorem dX4_pavedShare_32 : decode cX4_pavedShare 32 = .ok (.iload_n 1, 1) := by decide +kernel
theorem dX4_pavedShare_33 : decode cX4_pavedShare 33 = .ok (.i2d, 1) := by decide +kernel
theorem dX4_pavedShare_34 : decode cX4_pavedShare 34 = .ok (.iload_n 2, 1) := by decide +kernel
theorem dX4_pavedShare_35 : decode cX4_pavedShare 35 = .ok (.i2d, 1) := by decide +kernel
theorem dX4_pavedShare_36 : decode cX4_pavedShare 36 = .ok (.ddiv, 1) := by decide +kernel
theorem dX4_pavedShare_37 : decode cX4_pavedShare 37 = .ok (.dreturn, 1) := by decide +kernel
theorem dX4_digest_0 : decode cX4_digest 0 = .ok (.ldc2_w 284, 3) := by decide +kernel
theorem dX4_digest_3 : decode cX4_digest 3 = .ok (.lstore_n 1, 1) := by decide +kernel
theorem dX4_digest_4 : decode cX4_digest 4 = .ok (.iconst 0, 1) := by decide +kernel
theorem dX4_digest_5 : decode cX4_digest 5 = .ok (.istore_n 3, 1) := by decide +kernel
theorem dX4_digest_6 : decode cX4_digest 6 = .ok (.iload_n 3, 1) := by decide +kernel
theorem dX4_digest_7 : decode cX4_digest 7 = .ok (.bipush 12, 2) := by decide +kernel
theorem dX4_digest_9 : decode cX4_digest 9 = .ok (.if_icmp .ge 20, 3) := by decide +kernel
theorem dX4_digest_12 : decode cX4_digest 12 = .ok (.lload_n 1, 1) := by decide +kernel
theorem dX4_digest_13 : decode cX4_digest 13 = .ok (.aload_n 0, 1) := by decide +kernel
theorem dX4_digest_14 : decode cX4_digest 14 = .ok (.iload_n 3, 1) := by decide +kernel
theorem dX4_digest_15 : decode cX4_digest 15 = .ok (.invokevirtual 286, 3) := by decide +kernel
theorem dX4_digest_18 : decode cX4_digest 18 = .ok (.i2l, 1) := by decide +kernel
theorem dX4_digest_19 : decode cX4_digest 19 = .ok (.invokestatic 289, 3) := by decide +kernel
theorem dX4_digest_22 : decode cX4_digest 22 = .ok (.lstore_n 1, 1) := by decide +kernel
theorem dX4_digest_23 : decode cX4_digest 23 = .ok (.iinc 3 1, 3) := by decide +kernel
theorem dX4_digest_26 : decode cX4_digest 26 = .ok (.goto (-20), 3) := by decide +kernel
theorem dX4_digest_29 : decode cX4_digest 29 = .ok (.aload_n 0, 1) := by decide +kernel
theorem dX4_digest_30 : decode cX4_digest 30 = .ok (.aload_n 0, 1) := by decide +kernel
theorem dX4_digest_31 : decode cX4_digest 31 = .ok (.aload_n 0, 1) := by decide +kernel
theorem dX4_digest_32 : decode cX4_digest 32 = .ok (.lload_n 1, 1) := by decide +kernel
theorem dX4_digest_33 : decode cX4_digest 33 = .ok (.invokevirtual 293, 3) := by decide +kernel
theorem dX4_digest_36 : decode cX4_digest 36 = .ok (.invokevirtual 297, 3) := by decide +kernel
theorem dX4_digest_39 : decode cX4_digest 39 = .ok (.invokevirtual 300, 3) := by decide +kernel
theorem dX4_digest_42 : decode cX4_digest 42 = .ok (.lstore_n 1, 1) := by decide +kernel
theorem dX4_digest_43 : decode cX4_digest 43 = .ok (.lload_n 1, 1) := by decide +kernel
theorem dX4_digest_44 : decode cX4_digest 44 = .ok (.aload_n 0, 1) := by decide +kernel
theorem dX4_digest_45 : decode cX4_digest 45 = .ok (.invokevirtual 303, 3) := by decide +kernel
theorem dX4_digest_48 : decode cX4_digest 48 = .ok (.i2l, 1) := by decide +kernel
theorem dX4_digest_49 : decode cX4_digest 49 = .ok (.invokestatic 289, 3) := by decide +kernel
theorem dX4_digest_52 : decode cX4_digest 52 = .ok (.lstore_n 1, 1) := by decide +kernel
theorem dX4_digest_53 : decode cX4_digest 53 = .ok (.iconst 0, 1) := by decide +kernel
theorem dX4_digest_54 : decode cX4_digest 54 = .ok (.istore_n 3, 1) := by decide +kernel
theorem dX4_digest_55 : decode cX4_digest 55 = .ok (.iload_n 3, 1) := by decide +kernel
theorem dX4_digest_56 : decode cX4_digest 56 = .ok (.iconst 3, 1) := by decide +kernel
theorem dX4_digest_57 : decode cX4_digest 57 = .ok (.if_icmp .ge 40, 3) := by decide +kernel
theorem dX4_digest_60 : decode cX4_digest 60 = .ok (.iconst 0, 1) := by decide +kernel
theorem dX4_digest_61 : decode cX4_digest 61 = .ok (.istore 4, 2) := by decide +kernel
theorem dX4_digest_63 : decode cX4_digest 63 = .ok (.iload 4, 2) := by decide +kernel
theorem dX4_digest_65 : decode cX4_digest 65 = .ok (.iconst 4, 1) := by decide +kernel
theorem dX4_digest_66 : decode cX4_digest 66 = .ok (.if_icmp .ge 25, 3) := by decide +kernel
theorem dX4_digest_69 : decode cX4_digest 69 = .ok (.lload_n 1, 1) := by decide +kernel
theorem dX4_digest_70 : decode cX4_digest 70 = .ok (.aload_n 0, 1) := by decide +kernel
theorem dX4_digest_71 : decode cX4_digest 71 = .ok (.iload_n 3, 1) := by decide +kernel
theorem dX4_digest_72 : decode cX4_digest 72 = .ok (.iload_n 3, 1) := by decide +kernel
theorem dX4_digest_73 : decode cX4_digest 73 = .ok (.iconst 2, 1) := by decide +kernel
theorem dX4_digest_74 : decode cX4_digest 74 = .ok (.irem, 1) := by decide +kernel
theorem dX4_digest_75 : decode cX4_digest 75 = .ok (.iload 4, 2) := by decide +kernel
theorem dX4_digest_77 : decode cX4_digest 77 = .ok (.invokevirtual 306, 3) := by decide +kernel
theorem dX4_digest_80 : decode cX4_digest 80 = .ok (.i2l, 1) := by decide +kernel
theorem dX4_digest_81 : decode cX4_digest 81 = .ok (.invokestatic 289, 3) := by decide +kernel
theorem dX4_digest_84 : decode cX4_digest 84 = .ok (.lstore_n 1, 1) := by decide +kernel
theorem dX4_digest_85 : decode cX4_digest 85 = .ok (.iinc 4 1, 3) := by decide +kernel
theorem dX4_digest_88 : decode cX4_digest 88 = .ok (.goto (-25), 3) := by decide +kernel
theorem dX4_digest_91 : decode cX4_digest 91 = .ok (.iinc 3 1, 3) := by decide +kernel
theorem dX4_digest_94 : decode cX4_digest 94 = .ok (.goto (-39), 3) := by decide +kernel
theorem dX4_digest_97 : decode cX4_digest 97 = .ok (.lload_n 1, 1) := by decide +kernel
theorem dX4_digest_98 : decode cX4_digest 98 = .ok (.aload_n 0, 1) := by decide +kernel
theorem dX4_digest_99 : decode cX4_digest 99 = .ok (.iconst 0, 1) := by decide +kernel
theorem dX4_digest_100 : decode cX4_digest 100 = .ok (.invokevirtual 309, 3) := by decide +kernel
theorem dX4_digest_103 : decode cX4_digest 103 = .ok (.i2l, 1) := by decide +kernel
theorem dX4_digest_104 : decode cX4_digest 104 = .ok (.invokestatic 289, 3) := by decide +kernel
theorem dX4_digest_107 : decode cX4_digest 107 = .ok (.aload_n 0, 1) := by decide +kernel
theorem dX4_digest_108 : decode cX4_digest 108 = .ok (.iconst 1, 1) := by decide +kernel
theorem dX4_digest_109 : decode cX4_digest 109 = .ok (.invokevirtual 309, 3) := by decide +kernel
theorem dX4_digest_112 : decode cX4_digest 112 = .ok (.i2l, 1) := by decide +kernel
theorem dX4_digest_113 : decode cX4_digest 113 = .ok (.invokestatic 289, 3) := by decide +kernel
theorem dX4_digest_116 : decode cX4_digest 116 = .ok (.lstore_n 1, 1) := by decide +kernel
theorem dX4_digest_117 : decode cX4_digest 117 = .ok (.lload_n 1, 1) := by decide +kernel
theorem dX4_digest_118 : decode cX4_digest 118 = .ok (.aload_n 0, 1) := by decide +kernel
theorem dX4_digest_119 : decode cX4_digest 119 = .ok (.invokevirtual 312, 3) := by decide +kernel
theorem dX4_digest_122 : decode cX4_digest 122 = .ok (.i2l, 1) := by decide +kernel
theorem dX4_digest_123 : decode cX4_digest 123 = .ok (.invokestatic 289, 3) := by decide +kernel
theorem dX4_digest_126 : decode cX4_digest 126 = .ok (.aload_n 0, 1) := by decide +kernel
theorem dX4_digest_127 : decode cX4_digest 127 = .ok (.invokevirtual 315, 3) := by decide +kernel
theorem dX4_digest_130 : decode cX4_digest 130 = .ok (.invokestatic 319, 3) := by decide +kernel
theorem dX4_digest_133 : decode cX4_digest 133 = .ok (.invokestatic 289, 3) := by decide +kernel
theorem dX4_digest_136 : decode cX4_digest 136 = .ok (.lstore_n 1, 1) := by decide +kernel
theorem dX4_digest_137 : decode cX4_digest 137 = .ok (.aload_n 0, 1) := by decide +kernel
theorem dX4_digest_138 : decode cX4_digest 138 = .ok (.aload_n 0, 1) := by decide +kernel
theorem dX4_digest_139 : decode cX4_digest 139 = .ok (.lload_n 1, 1) := by decide +kernel
theorem dX4_digest_140 : decode cX4_digest 140 = .ok (.invokevirtual 323, 3) := by decide +kernel
theorem dX4_digest_143 : decode cX4_digest 143 = .ok (.invokevirtual 326, 3) := by decide +kernel
theorem dX4_digest_146 : decode cX4_digest 146 = .ok (.lreturn, 1) := by decide +kernel
theorem dX4_mixed_0 : decode cX4_mixed 0 = .ok (.ldc2_w 329, 3) := by decide +kernel
theorem dX4_mixed_3 : decode cX4_mixed 3 = .ok (.lload_n 0, 1) := by decide +kernel
theorem dX4_mixed_4 : decode cX4_mixed 4 = .ok (.lmul, 1) := by decide +kernel
theorem dX4_mixed_5 : decode cX4_mixed 5 = .ok (.lload_n 2, 1) := by decide +kernel
theorem dX4_mixed_6 : decode cX4_mixed 6 = .ok (.ladd, 1) := by decide +kernel
theorem dX4_mixed_7 : decode cX4_mixed 7 = .ok (.lreturn, 1) := by decide +kernel
theorem dX4_mixedRows_0 : decode cX4_mixedRows 0 = .ok (.lload_n 1, 1) := by decide +kernel
theorem dX4_mixedRows_1 : decode cX4_mixedRows 1 = .ok (.lstore_n 3, 1) := by decide +kernel
theorem dX4_mixedRows_2 : decode cX4_mixedRows 2 = .ok (.iconst 0, 1) := by decide +kernel
theorem dX4_mixedRows_3 : decode cX4_mixedRows 3 = .ok (.istore 5, 2) := by decide +kernel
theorem dX4_mixedRows_5 : decode cX4_mixedRows 5 = .ok (.iload 5, 2) := by decide +kernel
theorem dX4_mixedRows_7 : decode cX4_mixedRows 7 = .ok (.aload_n 0, 1) := by decide +kernel
theorem dX4_mixedRows_8 : decode cX4_mixedRows 8 = .ok (.getfield 37, 3) := by decide +kernel
theorem dX4_mixedRows_11 : decode cX4_mixedRows 11 = .ok (.getfield 249, 3) := by decide +kernel
theorem dX4_mixedRows_14 : decode cX4_mixedRows 14 = .ok (.if_icmp .ge 38, 3) := by decide +kernel
theorem dX4_mixedRows_17 : decode cX4_mixedRows 17 = .ok (.iconst 0, 1) := by decide +kernel
theorem dX4_mixedRows_18 : decode cX4_mixedRows 18 = .ok (.istore 6, 2) := by decide +kernel
theorem dX4_mixedRows_20 : decode cX4_mixedRows 20 = .ok (.iload 6, 2) := by decide +kernel
theorem dX4_mixedRows_22 : decode cX4_mixedRows 22 = .ok (.iconst 3, 1) := by decide +kernel
theorem dX4_mixedRows_23 : decode cX4_mixedRows 23 = .ok (.if_icmp .ge 23, 3) := by decide +kernel
theorem dX4_mixedRows_26 : decode cX4_mixedRows 26 = .ok (.lload_n 3, 1) := by decide +kernel
theorem dX4_mixedRows_27 : decode cX4_mixedRows 27 = .ok (.aload_n 0, 1) := by decide +kernel
theorem dX4_mixedRows_28 : decode cX4_mixedRows 28 = .ok (.iload 5, 2) := by decide +kernel
theorem dX4_mixedRows_30 : decode cX4_mixedRows 30 = .ok (.iload 6, 2) := by decide +kernel
theorem dX4_mixedRows_32 : decode cX4_mixedRows 32 = .ok (.invokevirtual 331, 3) := by decide +kernel
theorem dX4_mixedRows_35 : decode cX4_mixedRows 35 = .ok (.i2l, 1) := by decide +kernel
theorem dX4_mixedRows_36 : decode cX4_mixedRows 36 = .ok (.invokestatic 289, 3) := by decide +kernel
theorem dX4_mixedRows_39 : decode cX4_mixedRows 39 = .ok (.lstore_n 3, 1) := by decide +kernel
theorem dX4_mixedRows_40 : decode cX4_mixedRows 40 = .ok (.iinc 6 1, 3) := by decide +kernel
theorem dX4_mixedRows_43 : decode cX4_mixedRows 43 = .ok (.goto (-23), 3) := by decide +kernel
theorem dX4_mixedRows_46 : decode cX4_mixedRows 46 = .ok (.iinc 5 1, 3) := by decide +kernel
theorem dX4_mixedRows_49 : decode cX4_mixedRows 49 = .ok (.goto (-44), 3) := by decide +kernel
theorem dX4_mixedRows_52 : decode cX4_mixedRows 52 = .ok (.lload_n 3, 1) := by decide +kernel
theorem dX4_mixedRows_53 : decode cX4_mixedRows 53 = .ok (.lreturn, 1) := by decide +kernel
theorem dX4_mixedCells_0 : decode cX4_mixedCells 0 = .ok (.lload_n 1, 1) := by decide +kernel
theorem dX4_mixedCells_1 : decode cX4_mixedCells 1 = .ok (.lstore_n 3, 1) := by decide +kernel
theorem dX4_mixedCells_2 : decode cX4_mixedCells 2 = .ok (.iconst 0, 1) := by decide +kernel
theorem dX4_mixedCells_3 : decode cX4_mixedCells 3 = .ok (.istore 5, 2) := by decide +kernel
theorem dX4_mixedCells_5 : decode cX4_mixedCells 5 = .ok (.iload 5, 2) := by decide +kernel
theorem dX4_mixedCells_7 : decode cX4_mixedCells 7 = .ok (.aload_n 0, 1) := by decide +kernel
theorem dX4_mixedCells_8 : decode cX4_mixedCells 8 = .ok (.getfield 37, 3) := by decide +kernel
theorem dX4_mixedCells_11 : decode cX4_mixedCells 11 = .ok (.getfield 249, 3) := by decide +kernel
theorem dX4_mixedCells_14 : decode cX4_mixedCells 14 = .ok (.if_icmp .ge 58, 3) := by decide +kernel
theorem dX4_mixedCells_17 : decode cX4_mixedCells 17 = .ok (.iconst 0, 1) := by decide +kernel
theorem dX4_mixedCells_18 : decode cX4_mixedCells 18 = .ok (.istore 6, 2) := by decide +kernel
theorem dX4_mixedCells_20 : decode cX4_mixedCells 20 = .ok (.iload 6, 2) := by decide +kernel
theorem dX4_mixedCells_22 : decode cX4_mixedCells 22 = .ok (.aload_n 0, 1) := by decide +kernel
theorem dX4_mixedCells_23 : decode cX4_mixedCells 23 = .ok (.getfield 37, 3) := by decide +kernel
theorem dX4_mixedCells_26 : decode cX4_mixedCells 26 = .ok (.getfield 258, 3) := by decide +kernel
theorem dX4_mixedCells_29 : decode cX4_mixedCells 29 = .ok (.if_icmp .ge 37, 3) := by decide +kernel
theorem dX4_mixedCells_32 : decode cX4_mixedCells 32 = .ok (.lload_n 3, 1) := by decide +kernel
theorem dX4_mixedCells_33 : decode cX4_mixedCells 33 = .ok (.aload_n 0, 1) := by decide +kernel
theorem dX4_mixedCells_34 : decode cX4_mixedCells 34 = .ok (.iload 6, 2) := by decide +kernel
theorem dX4_mixedCells_36 : decode cX4_mixedCells 36 = .ok (.iload 5, 2) := by decide +kernel
theorem dX4_mixedCells_38 : decode cX4_mixedCells 38 = .ok (.iconst 1, 1) := by decide +kernel
theorem dX4_mixedCells_39 : decode cX4_mixedCells 39 = .ok (.invokevirtual 333, 3) := by decide +kernel
theorem dX4_mixedCells_42 : decode cX4_mixedCells 42 = .ok (.i2l, 1) := by decide +kernel
theorem dX4_mixedCells_43 : decode cX4_mixedCells 43 = .ok (.invokestatic 289, 3) := by decide +kernel
theorem dX4_mixedCells_46 : decode cX4_mixedCells 46 = .ok (.aload_n 0, 1) := by decide +kernel
theorem dX4_mixedCells_47 : decode cX4_mixedCells 47 = .ok (.iload 6, 2) := by decide +kernel
theorem dX4_mixedCells_49 : decode cX4_mixedCells 49 = .ok (.iload 5, 2) := by decide +kernel
theorem dX4_mixedCells_51 : decode cX4_mixedCells 51 = .ok (.iconst 2, 1) := by decide +kernel
theorem dX4_mixedCells_52 : decode cX4_mixedCells 52 = .ok (.invokevirtual 333, 3) := by decide +kernel
theorem dX4_mixedCells_55 : decode cX4_mixedCells 55 = .ok (.i2l, 1) := by decide +kernel
theorem dX4_mixedCells_56 : decode cX4_mixedCells 56 = .ok (.invokestatic 289, 3) := by decide +kernel
theorem dX4_mixedCells_59 : decode cX4_mixedCells 59 = .ok (.lstore_n 3, 1) := by decide +kernel
theorem dX4_mixedCells_60 : decode cX4_mixedCells 60 = .ok (.iinc 6 1, 3) := by decide +kernel
theorem dX4_mixedCells_63 : decode cX4_mixedCells 63 = .ok (.goto (-43), 3) := by decide +kernel
theorem dX4_mixedCells_66 : decode cX4_mixedCells 66 = .ok (.iinc 5 1, 3) := by decide +kernel
theorem dX4_mixedCells_69 : decode cX4_mixedCells 69 = .ok (.goto (-64), 3) := by decide +kernel
theorem dX4_mixedCells_72 : decode cX4_mixedCells 72 = .ok (.lload_n 3, 1) := by decide +kernel
theorem dX4_mixedCells_73 : decode cX4_mixedCells 73 = .ok (.lreturn, 1) := by decide +kernel
theorem dX4_mixedTriples_0 : decode cX4_mixedTriples 0 = .ok (.lload_n 1, 1) := by decide +kernel
theorem dX4_mixedTriples_1 : decode cX4_mixedTriples 1 = .ok (.lstore_n 3, 1) := by decide +kernel
theorem dX4_mixedTriples_2 : decode cX4_mixedTriples 2 = .ok (.iconst 0, 1) := by decide +kernel
theorem dX4_mixedTriples_3 : decode cX4_mixedTriples 3 = .ok (.istore 5, 2) := by decide +kernel
theorem dX4_mixedTriples_5 : decode cX4_mixedTriples 5 = .ok (.iload 5, 2) := by decide +kernel
theorem dX4_mixedTriples_7 : decode cX4_mixedTriples 7 = .ok (.aload_n 0, 1) := by decide +kernel
theorem dX4_mixedTriples_8 : decode cX4_mixedTriples 8 = .ok (.getfield 37, 3) := by decide +kernel
theorem dX4_mixedTriples_11 : decode cX4_mixedTriples 11 = .ok (.getfield 155, 3) := by decide +kernel
theorem dX4_mixedTriples_14 : decode cX4_mixedTriples 14 = .ok (.if_icmp .ge 38, 3) := by decide +kernel
theorem dX4_mixedTriples_17 : decode cX4_mixedTriples 17 = .ok (.iconst 0, 1) := by decide +kernel
theorem dX4_mixedTriples_18 : decode cX4_mixedTriples 18 = .ok (.istore 6, 2) := by decide +kernel
theorem dX4_mixedTriples_20 : decode cX4_mixedTriples 20 = .ok (.iload 6, 2) := by decide +kernel
theorem dX4_mixedTriples_22 : decode cX4_mixedTriples 22 = .ok (.iconst 3, 1) := by decide +kernel
theorem dX4_mixedTriples_23 : decode cX4_mixedTriples 23 = .ok (.if_icmp .ge 23, 3) := by decide +kernel
theorem dX4_mixedTriples_26 : decode cX4_mixedTriples 26 = .ok (.lload_n 3, 1) := by decide +kernel
theorem dX4_mixedTriples_27 : decode cX4_mixedTriples 27 = .ok (.aload_n 0, 1) := by decide +kernel
theorem dX4_mixedTriples_28 : decode cX4_mixedTriples 28 = .ok (.iload 5, 2) := by decide +kernel
theorem dX4_mixedTriples_30 : decode cX4_mixedTriples 30 = .ok (.iload 6, 2) := by decide +kernel
theorem dX4_mixedTriples_32 : decode cX4_mixedTriples 32 = .ok (.invokevirtual 336, 3) := by decide +kernel
theorem dX4_mixedTriples_35 : decode cX4_mixedTriples 35 = .ok (.i2l, 1) := by decide +kernel
theorem dX4_mixedTriples_36 : decode cX4_mixedTriples 36 = .ok (.invokestatic 289, 3) := by decide +kernel
theorem dX4_mixedTriples_39 : decode cX4_mixedTriples 39 = .ok (.lstore_n 3, 1) := by decide +kernel
theorem dX4_mixedTriples_40 : decode cX4_mixedTriples 40 = .ok (.iinc 6 1, 3) := by decide +kernel
theorem dX4_mixedTriples_43 : decode cX4_mixedTriples 43 = .ok (.goto (-23), 3) := by decide +kernel
theorem dX4_mixedTriples_46 : decode cX4_mixedTriples 46 = .ok (.iinc 5 1, 3) := by decide +kernel
theorem dX4_mixedTriples_49 : decode cX4_mixedTriples 49 = .ok (.goto (-44), 3) := by decide +kernel
theorem dX4_mixedTriples_52 : decode cX4_mixedTriples 52 = .ok (.lload_n 3, 1) := by decide +kernel
theorem dX4_mixedTriples_53 : decode cX4_mixedTriples 53 = .ok (.lreturn, 1) := by decide +kernel
theorem dX4_mixedSlots_0 : decode cX4_mixedSlots 0 = .ok (.lload_n 1, 1) := by decide +kernel
theorem dX4_mixedSlots_1 : decode cX4_mixedSlots 1 = .ok (.lstore_n 3, 1) := by decide +kernel
theorem dX4_mixedSlots_2 : decode cX4_mixedSlots 2 = .ok (.iconst 0, 1) := by decide +kernel
theorem dX4_mixedSlots_3 : decode cX4_mixedSlots 3 = .ok (.istore 5, 2) := by decide +kernel
theorem dX4_mixedSlots_5 : decode cX4_mixedSlots 5 = .ok (.iload 5, 2) := by decide +kernel
theorem dX4_mixedSlots_7 : decode cX4_mixedSlots 7 = .ok (.aload_n 0, 1) := by decide +kernel
theorem dX4_mixedSlots_8 : decode cX4_mixedSlots 8 = .ok (.getfield 18, 3) := by decide +kernel
theorem dX4_mixedSlots_11 : decode cX4_mixedSlots 11 = .ok (.arraylength, 1) := by decide +kernel
theorem dX4_mixedSlots_12 : decode cX4_mixedSlots 12 = .ok (.if_icmp .ge 29, 3) := by decide +kernel
theorem dX4_mixedSlots_15 : decode cX4_mixedSlots 15 = .ok (.lload_n 3, 1) := by decide +kernel
theorem dX4_mixedSlots_16 : decode cX4_mixedSlots 16 = .ok (.aload_n 0, 1) := by decide +kernel
theorem dX4_mixedSlots_17 : decode cX4_mixedSlots 17 = .ok (.getfield 18, 3) := by decide +kernel
theorem dX4_mixedSlots_20 : decode cX4_mixedSlots 20 = .ok (.iload 5, 2) := by decide +kernel
theorem dX4_mixedSlots_22 : decode cX4_mixedSlots 22 = .ok (.aaload, 1) := by decide +kernel
theorem dX4_mixedSlots_23 : decode cX4_mixedSlots 23 = .ok (.ifnonnull 7, 3) := by decide +kernel
theorem dX4_mixedSlots_26 : decode cX4_mixedSlots 26 = .ok (.lconst 0, 1) := by decide +kernel
theorem dX4_mixedSlots_27 : decode cX4_mixedSlots 27 = .ok (.goto 4, 3) := by decide +kernel
theorem dX4_mixedSlots_30 : decode cX4_mixedSlots 30 = .ok (.lconst 1, 1) := by decide +kernel
theorem dX4_mixedSlots_31 : decode cX4_mixedSlots 31 = .ok (.invokestatic 289, 3) := by decide +kernel
theorem dX4_mixedSlots_34 : decode cX4_mixedSlots 34 = .ok (.lstore_n 3, 1) := by decide +kernel
theorem dX4_mixedSlots_35 : decode cX4_mixedSlots 35 = .ok (.iinc 5 1, 3) := by decide +kernel
theorem dX4_mixedSlots_38 : decode cX4_mixedSlots 38 = .ok (.goto (-33), 3) := by decide +kernel
theorem dX4_mixedSlots_41 : decode cX4_mixedSlots 41 = .ok (.lload_n 3, 1) := by decide +kernel
theorem dX4_mixedSlots_42 : decode cX4_mixedSlots 42 = .ok (.lreturn, 1) := by decide +kernel
theorem dX4_mixedBuffer_0 : decode cX4_mixedBuffer 0 = .ok (.lload_n 1, 1) := by decide +kernel
theorem dX4_mixedBuffer_1 : decode cX4_mixedBuffer 1 = .ok (.aload_n 0, 1) := by decide +kernel
theorem dX4_mixedBuffer_2 : decode cX4_mixedBuffer 2 = .ok (.getfield 25, 3) := by decide +kernel
theorem dX4_mixedBuffer_5 : decode cX4_mixedBuffer 5 = .ok (.getfield 181, 3) := by decide +kernel
theorem dX4_mixedBuffer_8 : decode cX4_mixedBuffer 8 = .ok (.i2l, 1) := by decide +kernel
theorem dX4_mixedBuffer_9 : decode cX4_mixedBuffer 9 = .ok (.invokestatic 289, 3) := by decide +kernel
theorem dX4_mixedBuffer_12 : decode cX4_mixedBuffer 12 = .ok (.lstore_n 3, 1) := by decide +kernel
theorem dX4_mixedBuffer_13 : decode cX4_mixedBuffer 13 = .ok (.iconst 0, 1) := by decide +kernel
theorem dX4_mixedBuffer_14 : decode cX4_mixedBuffer 14 = .ok (.istore 5, 2) := by decide +kernel
theorem dX4_mixedBuffer_16 : decode cX4_mixedBuffer 16 = .ok (.iload 5, 2) := by decide +kernel
theorem dX4_mixedBuffer_18 : decode cX4_mixedBuffer 18 = .ok (.aload_n 0, 1) := by decide +kernel
theorem dX4_mixedBuffer_19 : decode cX4_mixedBuffer 19 = .ok (.getfield 25, 3) := by decide +kernel
theorem dX4_mixedBuffer_22 : decode cX4_mixedBuffer 22 = .ok (.getfield 181, 3) := by decide +kernel
theorem dX4_mixedBuffer_25 : decode cX4_mixedBuffer 25 = .ok (.if_icmp .ge 24, 3) := by decide +kernel
theorem dX4_mixedBuffer_28 : decode cX4_mixedBuffer 28 = .ok (.lload_n 3, 1) := by decide +kernel
theorem dX4_mixedBuffer_29 : decode cX4_mixedBuffer 29 = .ok (.aload_n 0, 1) := by decide +kernel
theorem dX4_mixedBuffer_30 : decode cX4_mixedBuffer 30 = .ok (.getfield 25, 3) := by decide +kernel
theorem dX4_mixedBuffer_33 : decode cX4_mixedBuffer 33 = .ok (.iload 5, 2) := by decide +kernel
theorem dX4_mixedBuffer_35 : decode cX4_mixedBuffer 35 = .ok (.invokevirtual 339, 3) := by decide +kernel
theorem dX4_mixedBuffer_38 : decode cX4_mixedBuffer 38 = .ok (.i2l, 1) := by decide +kernel
theorem dX4_mixedBuffer_39 : decode cX4_mixedBuffer 39 = .ok (.invokestatic 289, 3) := by decide +kernel
theorem dX4_mixedBuffer_42 : decode cX4_mixedBuffer 42 = .ok (.lstore_n 3, 1) := by decide +kernel
theorem dX4_mixedBuffer_43 : decode cX4_mixedBuffer 43 = .ok (.iinc 5 1, 3) := by decide +kernel
theorem dX4_mixedBuffer_46 : decode cX4_mixedBuffer 46 = .ok (.goto (-30), 3) := by decide +kernel
theorem dX4_mixedBuffer_49 : decode cX4_mixedBuffer 49 = .ok (.lload_n 3, 1) := by decide +kernel
theorem dX4_mixedBuffer_50 : decode cX4_mixedBuffer 50 = .ok (.lreturn, 1) := by decide +kernel
theorem dX4_shareBits_0 : decode cX4_shareBits 0 = .ok (.dload_n 0, 1) := by decide +kernel
theorem dX4_shareBits_1 : decode cX4_shareBits 1 = .ok (.dconst 0, 1) := by decide +kernel
theorem dX4_shareBits_2 : decode cX4_shareBits 2 = .ok (.dcmp .g, 1) := by decide +kernel
theorem dX4_shareBits_3 : decode cX4_shareBits 3 = .ok (.ifCond .gt 5, 3) := by decide +kernel
theorem dX4_shareBits_6 : decode cX4_shareBits 6 = .ok (.lconst 0, 1) := by decide +kernel
theorem dX4_shareBits_7 : decode cX4_shareBits 7 = .ok (.lreturn, 1) := by decide +kernel
theorem dX4_shareBits_8 : decode cX4_shareBits 8 = .ok (.dload_n 0, 1) := by decide +kernel
theorem dX4_shareBits_9 : decode cX4_shareBits 9 = .ok (.dstore_n 2, 1) := by decide +kernel
theorem dX4_shareBits_10 : decode cX4_shareBits 10 = .ok (.ldc2_w 342, 3) := by decide +kernel
theorem dX4_shareBits_13 : decode cX4_shareBits 13 = .ok (.lstore 4, 2) := by decide +kernel
theorem dX4_shareBits_15 : decode cX4_shareBits 15 = .ok (.iconst 0, 1) := by decide +kernel
theorem dX4_shareBits_16 : decode cX4_shareBits 16 = .ok (.istore 6, 2) := by decide +kernel
theorem dX4_shareBits_18 : decode cX4_shareBits 18 = .ok (.iload 6, 2) := by decide +kernel
theorem dX4_shareBits_20 : decode cX4_shareBits 20 = .ok (.sipush 1022, 3) := by decide +kernel
theorem dX4_shareBits_23 : decode cX4_shareBits 23 = .ok (.if_icmp .ge 27, 3) := by decide +kernel
theorem dX4_shareBits_26 : decode cX4_shareBits 26 = .ok (.dload_n 2, 1) := by decide +kernel
theorem dX4_shareBits_27 : decode cX4_shareBits 27 = .ok (.dconst 1, 1) := by decide +kernel
theorem dX4_shareBits_28 : decode cX4_shareBits 28 = .ok (.dcmp .g, 1) := by decide +kernel
theorem dX4_shareBits_29 : decode cX4_shareBits 29 = .ok (.ifCond .ge 21, 3) := by decide +kernel
theorem dX4_shareBits_32 : decode cX4_shareBits 32 = .ok (.dload_n 2, 1) := by decide +kernel
theorem dX4_shareBits_33 : decode cX4_shareBits 33 = .ok (.ldc2_w 344, 3) := by decide +kernel
theorem dX4_shareBits_36 : decode cX4_shareBits 36 = .ok (.dmul, 1) := by decide +kernel
theorem dX4_shareBits_37 : decode cX4_shareBits 37 = .ok (.dstore_n 2, 1) := by decide +kernel
theorem dX4_shareBits_38 : decode cX4_shareBits 38 = .ok (.lload 4, 2) := by decide +kernel
theorem dX4_shareBits_40 : decode cX4_shareBits 40 = .ok (.lconst 1, 1) := by decide +kernel
theorem dX4_shareBits_41 : decode cX4_shareBits 41 = .ok (.lsub, 1) := by decide +kernel
theorem dX4_shareBits_42 : decode cX4_shareBits 42 = .ok (.lstore 4, 2) := by decide +kernel
theorem dX4_shareBits_44 : decode cX4_shareBits 44 = .ok (.iinc 6 1, 3) := by decide +kernel
theorem dX4_shareBits_47 : decode cX4_shareBits 47 = .ok (.goto (-29), 3) := by decide +kernel
theorem dX4_shareBits_50 : decode cX4_shareBits 50 = .ok (.lload 4, 2) := by decide +kernel
theorem dX4_shareBits_52 : decode cX4_shareBits 52 = .ok (.bipush 52, 2) := by decide +kernel
theorem dX4_shareBits_54 : decode cX4_shareBits 54 = .ok (.lshl, 1) := by decide +kernel
theorem dX4_shareBits_55 : decode cX4_shareBits 55 = .ok (.dload_n 2, 1) := by decide +kernel
theorem dX4_shareBits_56 : decode cX4_shareBits 56 = .ok (.dconst 1, 1) := by decide +kernel
theorem dX4_shareBits_57 : decode cX4_shareBits 57 = .ok (.dsub, 1) := by decide +kernel
theorem dX4_shareBits_58 : decode cX4_shareBits 58 = .ok (.ldc2_w 346, 3) := by decide +kernel
theorem dX4_shareBits_61 : decode cX4_shareBits 61 = .ok (.dmul, 1) := by decide +kernel
theorem dX4_shareBits_62 : decode cX4_shareBits 62 = .ok (.d2l, 1) := by decide +kernel
theorem dX4_shareBits_63 : decode cX4_shareBits 63 = .ok (.ladd, 1) := by decide +kernel
theorem dX4_shareBits_64 : decode cX4_shareBits 64 = .ok (.lreturn, 1) := by decide +kernel
theorem dX4_isSide_0 : decode cX4_isSide 0 = .ok (.iload_n 0, 1) := by decide +kernel
theorem dX4_isSide_1 : decode cX4_isSide 1 = .ok (.iconst 2, 1) := by decide +kernel
theorem dX4_isSide_2 : decode cX4_isSide 2 = .ok (.if_icmp .lt 13, 3) := by decide +kernel
theorem dX4_isSide_5 : decode cX4_isSide 5 = .ok (.iload_n 0, 1) := by decide +kernel
theorem dX4_isSide_6 : decode cX4_isSide 6 = .ok (.bipush 8, 2) := by decide +kernel
theorem dX4_isSide_8 : decode cX4_isSide 8 = .ok (.if_icmp .gt 7, 3) := by decide +kernel
theorem dX4_isSide_11 : decode cX4_isSide 11 = .ok (.iconst 1, 1) := by decide +kernel
theorem dX4_isSide_12 : decode cX4_isSide 12 = .ok (.goto 4, 3) := by decide +kernel
theorem dX4_isSide_15 : decode cX4_isSide 15 = .ok (.iconst 0, 1) := by decide +kernel
theorem dX4_isSide_16 : decode cX4_isSide 16 = .ok (.ireturn, 1) := by decide +kernel
theorem dX4_requireCell_0 : decode cX4_requireCell 0 = .ok (.aload_n 0, 1) := by decide +kernel
theorem dX4_requireCell_1 : decode cX4_requireCell 1 = .ok (.getfield 37, 3) := by decide +kernel
theorem dX4_requireCell_4 : decode cX4_requireCell 4 = .ok (.iload_n 1, 1) := by decide +kernel
theorem dX4_requireCell_5 : decode cX4_requireCell 5 = .ok (.iload_n 2, 1) := by decide +kernel
theorem dX4_requireCell_6 : decode cX4_requireCell 6 = .ok (.iconst 1, 1) := by decide +kernel
theorem dX4_requireCell_7 : decode cX4_requireCell 7 = .ok (.iconst 1, 1) := by decide +kernel
theorem dX4_requireCell_8 : decode cX4_requireCell 8 = .ok (.invokevirtual 348, 3) := by decide +kernel
theorem dX4_requireCell_11 : decode cX4_requireCell 11 = .ok (.ifCond .ne 14, 3) := by decide +kernel
theorem dX4_requireCell_14 : decode cX4_requireCell 14 = .ok (.new 130, 3) := by decide +kernel
theorem dX4_requireCell_17 : decode cX4_requireCell 17 = .ok (.dup, 1) := by decide +kernel
theorem dX4_requireCell_18 : decode cX4_requireCell 18 = .ok (.ldc_w 352, 3) := by decide +kernel
theorem dX4_requireCell_21 : decode cX4_requireCell 21 = .ok (.invokespecial 134, 3) := by decide +kernel
theorem dX4_requireCell_24 : decode cX4_requireCell 24 = .ok (.athrow, 1) := by decide +kernel
theorem dX4_requireCell_25 : decode cX4_requireCell 25 = .ok (.return_, 1) := by decide +kernel
theorem dX4_requireTurn_0 : decode cX4_requireTurn 0 = .ok (.iload_n 0, 1) := by decide +kernel
theorem dX4_requireTurn_1 : decode cX4_requireTurn 1 = .ok (.ifCond .lt 8, 3) := by decide +kernel
theorem dX4_requireTurn_4 : decode cX4_requireTurn 4 = .ok (.iload_n 0, 1) := by decide +kernel
theorem dX4_requireTurn_5 : decode cX4_requireTurn 5 = .ok (.iconst 4, 1) := by decide +kernel
theorem dX4_requireTurn_6 : decode cX4_requireTurn 6 = .ok (.if_icmp .lt 14, 3) := by decide +kernel
theorem dX4_requireTurn_9 : decode cX4_requireTurn 9 = .ok (.new 45, 3) := by decide +kernel
theorem dX4_requireTurn_12 : decode cX4_requireTurn 12 = .ok (.dup, 1) := by decide +kernel
theorem dX4_requireTurn_13 : decode cX4_requireTurn 13 = .ok (.ldc_w 354, 3) := by decide +kernel
theorem dX4_requireTurn_16 : decode cX4_requireTurn 16 = .ok (.invokespecial 49, 3) := by decide +kernel
theorem dX4_requireTurn_19 : decode cX4_requireTurn 19 = .ok (.athrow, 1) := by decide +kernel
theorem dX4_requireTurn_20 : decode cX4_requireTurn 20 = .ok (.return_, 1) := by decide +kernel
theorem dX4_requireProperty_0 : decode cX4_requireProperty 0 = .ok (.iload_n 0, 1) := by decide +kernel
theorem dX4_requireProperty_1 : decode cX4_requireProperty 1 = .ok (.ifCond .lt 8, 3) := by decide +kernel
theorem dX4_requireProperty_4 : decode cX4_requireProperty 4 = .ok (.iload_n 0, 1) := by decide +kernel
theorem dX4_requireProperty_5 : decode cX4_requireProperty 5 = .ok (.iconst 3, 1) := by decide +kernel
theorem dX4_requireProperty_6 : decode cX4_requireProperty 6 = .ok (.if_icmp .lt 14, 3) := by decide +kernel
theorem dX4_requireProperty_9 : decode cX4_requireProperty 9 = .ok (.new 45, 3) := by decide +kernel
theorem dX4_requireProperty_12 : decode cX4_requireProperty 12 = .ok (.dup, 1) := by decide +kernel
theorem dX4_requireProperty_13 : decode cX4_requireProperty 13 = .ok (.ldc_w 356, 3) := by decide +kernel
theorem dX4_requireProperty_16 : decode cX4_requireProperty 16 = .ok (.invokespecial 49, 3) := by decide +kernel
theorem dX4_requireProperty_19 : decode cX4_requireProperty 19 = .ok (.athrow, 1) := by decide +kernel
theorem dX4_requireProperty_20 : decode cX4_requireProperty 20 = .ok (.return_, 1) := by decide +kernel
theorem dX4_requireSlot_0 : decode cX4_requireSlot 0 = .ok (.iload_n 1, 1) := by decide +kernel
theorem dX4_requireSlot_1 : decode cX4_requireSlot 1 = .ok (.ifCond .lt 12, 3) := by decide +kernel
theorem dX4_requireSlot_4 : decode cX4_requireSlot 4 = .ok (.iload_n 1, 1) := by decide +kernel
theorem dX4_requireSlot_5 : decode cX4_requireSlot 5 = .ok (.aload_n 0, 1) := by decide +kernel
theorem dX4_requireSlot_6 : decode cX4_requireSlot 6 = .ok (.getfield 18, 3) := by decide +kernel
theorem dX4_requireSlot_9 : decode cX4_requireSlot 9 = .ok (.arraylength, 1) := by decide +kernel
theorem dX4_requireSlot_10 : decode cX4_requireSlot 10 = .ok (.if_icmp .lt 14, 3) := by decide +kernel
theorem dX4_requireSlot_13 : decode cX4_requireSlot 13 = .ok (.new 45, 3) := by decide +kernel
theorem dX4_requireSlot_16 : decode cX4_requireSlot 16 = .ok (.dup, 1) := by decide +kernel
theorem dX4_requireSlot_17 : decode cX4_requireSlot 17 = .ok (.ldc_w 358, 3) := by decide +kernel
theorem dX4_requireSlot_20 : decode cX4_requireSlot 20 = .ok (.invokespecial 49, 3) := by decide +kernel
theorem dX4_requireSlot_23 : decode cX4_requireSlot 23 = .ok (.athrow, 1) := by decide +kernel
theorem dX4_requireSlot_24 : decode cX4_requireSlot 24 = .ok (.return_, 1) := by decide +kernel
theorem dX4_saveState_0 : decode cX4_saveState 0 = .ok (.aload_n 0, 1) := by decide +kernel
theorem dX4_saveState_1 : decode cX4_saveState 1 = .ok (.getfield 12, 3) := by decide +kernel
theorem dX4_saveState_4 : decode cX4_saveState 4 = .ok (.invokevirtual 213, 3) := by decide +kernel
theorem dX4_saveState_7 : decode cX4_saveState 7 = .ok (.bipush 6, 2) := by decide +kernel
theorem dX4_saveState_9 : decode cX4_saveState 9 = .ok (.if_icmp .lt 12, 3) := by decide +kernel
theorem dX4_saveState_12 : decode cX4_saveState 12 = .ok (.aload_n 0, 1) := by decide +kernel
theorem dX4_saveState_13 : decode cX4_saveState 13 = .ok (.getfield 12, 3) := by decide +kernel
theorem dX4_saveState_16 : decode cX4_saveState 16 = .ok (.iconst 0, 1) := by decide +kernel
theorem dX4_saveState_17 : decode cX4_saveState 17 = .ok (.invokevirtual 223, 3) := by decide +kernel
theorem dX4_saveState_20 : decode cX4_saveState 20 = .ok (.pop, 1) := by decide +kernel
theorem dX4_saveState_21 : decode cX4_saveState 21 = .ok (.aload_n 0, 1) := by decide +kernel
theorem dX4_saveState_22 : decode cX4_saveState 22 = .ok (.getfield 12, 3) := by decide +kernel
theorem dX4_saveState_25 : decode cX4_saveState 25 = .ok (.aload_n 0, 1) := by decide +kernel
theorem dX4_saveState_26 : decode cX4_saveState 26 = .ok (.getfield 37, 3) := by decide +kernel
theorem dX4_saveState_29 : decode cX4_saveState 29 = .ok (.invokevirtual 207, 3) := by decide +kernel
theorem dX4_saveState_32 : decode cX4_saveState 32 = .ok (.invokevirtual 360, 3) := by decide +kernel
theorem dX4_saveState_35 : decode cX4_saveState 35 = .ok (.pop, 1) := by decide +kernel
theorem dX4_saveState_36 : decode cX4_saveState 36 = .ok (.return_, 1) := by decide +kernel
theorem dX4_placeOf_0 : decode cX4_placeOf 0 = .ok (.bipush 8, 2) := by decide +kernel
theorem dX4_placeOf_2 : decode cX4_placeOf 2 = .ok (.iload_n 1, 1) := by decide +kernel
theorem dX4_placeOf_3 : decode cX4_placeOf 3 = .ok (.imul, 1) := by decide +kernel
theorem dX4_placeOf_4 : decode cX4_placeOf 4 = .ok (.iload_n 0, 1) := by decide +kernel
theorem dX4_placeOf_5 : decode cX4_placeOf 5 = .ok (.iadd, 1) := by decide +kernel
theorem dX4_placeOf_6 : decode cX4_placeOf 6 = .ok (.ireturn, 1) := by decide +kernel
theorem dX4_cellAt_0 : decode cX4_cellAt 0 = .ok (.lconst 1, 1) := by decide +kernel
theorem dX4_cellAt_1 : decode cX4_cellAt 1 = .ok (.iload_n 0, 1) := by decide +kernel
theorem dX4_cellAt_2 : decode cX4_cellAt 2 = .ok (.iload_n 1, 1) := by decide +kernel
theorem dX4_cellAt_3 : decode cX4_cellAt 3 = .ok (.invokestatic 83, 3) := by decide +kernel
theorem dX4_cellAt_6 : decode cX4_cellAt 6 = .ok (.lshl, 1) := by decide +kernel
theorem dX4_cellAt_7 : decode cX4_cellAt 7 = .ok (.lreturn, 1) := by decide +kernel
theorem dX4_holds_0 : decode cX4_holds 0 = .ok (.lload_n 0, 1) := by decide +kernel
theorem dX4_holds_1 : decode cX4_holds 1 = .ok (.iload_n 2, 1) := by decide +kernel
theorem dX4_holds_2 : decode cX4_holds 2 = .ok (.lushr, 1) := by decide +kernel
theorem dX4_holds_3 : decode cX4_holds 3 = .ok (.lconst 1, 1) := by decide +kernel
theorem dX4_holds_4 : decode cX4_holds 4 = .ok (.land, 1) := by decide +kernel
theorem dX4_holds_5 : decode cX4_holds 5 = .ok (.lconst 0, 1) := by decide +kernel
theorem dX4_holds_6 : decode cX4_holds 6 = .ok (.lcmp, 1) := by decide +kernel
theorem dX4_holds_7 : decode cX4_holds 7 = .ok (.ifCond .eq 7, 3) := by decide +kernel
theorem dX4_holds_10 : decode cX4_holds 10 = .ok (.iconst 1, 1) := by decide +kernel
theorem dX4_holds_11 : decode cX4_holds 11 = .ok (.goto 4, 3) := by decide +kernel
theorem dX4_holds_14 : decode cX4_holds 14 = .ok (.iconst 0, 1) := by decide +kernel
theorem dX4_holds_15 : decode cX4_holds 15 = .ok (.ireturn, 1) := by decide +kernel
theorem dX4_rowMask_0 : decode cX4_rowMask 0 = .ok (.lload_n 0, 1) := by decide +kernel
theorem dX4_rowMask_1 : decode cX4_rowMask 1 = .ok (.bipush 8, 2) := by decide +kernel
theorem dX4_rowMask_3 : decode cX4_rowMask 3 = .ok (.iload_n 2, 1) := by decide +kernel
theorem dX4_rowMask_4 : decode cX4_rowMask 4 = .ok (.imul, 1) := by decide +kernel
theorem dX4_rowMask_5 : decode cX4_rowMask 5 = .ok (.lushr, 1) := by decide +kernel
theorem dX4_rowMask_6 : decode cX4_rowMask 6 = .ok (.ldc2_w 363, 3) := by decide +kernel
theorem dX4_rowMask_9 : decode cX4_rowMask 9 = .ok (.land, 1) := by decide +kernel
theorem dX4_rowMask_10 : decode cX4_rowMask 10 = .ok (.l2i, 1) := by decide +kernel
theorem dX4_rowMask_11 : decode cX4_rowMask 11 = .ok (.ireturn, 1) := by decide +kernel
theorem dX4_cellsOf_0 : decode cX4_cellsOf 0 = .ok (.bipush 6, 2) := by decide +kernel
theorem dX4_cellsOf_2 : decode cX4_cellsOf 2 = .ok (.istore_n 3, 1) := by decide +kernel
theorem dX4_cellsOf_3 : decode cX4_cellsOf 3 = .ok (.iload_n 0, 1) := by decide +kernel
theorem dX4_cellsOf_4 : decode cX4_cellsOf 4 = .ok (.ifCond .lt 29, 3) := by decide +kernel
theorem dX4_cellsOf_7 : decode cX4_cellsOf 7 = .ok (.iload_n 0, 1) := by decide +kernel
theorem dX4_cellsOf_8 : decode cX4_cellsOf 8 = .ok (.iload_n 3, 1) := by decide +kernel
theorem dX4_cellsOf_9 : decode cX4_cellsOf 9 = .ok (.if_icmp .gt 24, 3) := by decide +kernel
theorem dX4_cellsOf_12 : decode cX4_cellsOf 12 = .ok (.iload_n 1, 1) := by decide +kernel
theorem dX4_cellsOf_13 : decode cX4_cellsOf 13 = .ok (.ifCond .lt 20, 3) := by decide +kernel
theorem dX4_cellsOf_16 : decode cX4_cellsOf 16 = .ok (.iload_n 1, 1) := by decide +kernel
theorem dX4_cellsOf_17 : decode cX4_cellsOf 17 = .ok (.iload_n 3, 1) := by decide +kernel
theorem dX4_cellsOf_18 : decode cX4_cellsOf 18 = .ok (.if_icmp .gt 15, 3) := by decide +kernel
theorem dX4_cellsOf_21 : decode cX4_cellsOf 21 = .ok (.iload_n 2, 1) := by decide +kernel
theorem dX4_cellsOf_22 : decode cX4_cellsOf 22 = .ok (.ifCond .lt 11, 3) := by decide +kernel
theorem dX4_cellsOf_25 : decode cX4_cellsOf 25 = .ok (.iload_n 2, 1) := by decide +kernel
theorem dX4_cellsOf_26 : decode cX4_cellsOf 26 = .ok (.getstatic 365, 3) := by decide +kernel
theorem dX4_cellsOf_29 : decode cX4_cellsOf 29 = .ok (.arraylength, 1) := by decide +kernel
theorem dX4_cellsOf_30 : decode cX4_cellsOf 30 = .ok (.if_icmp .lt 5, 3) := by decide +kernel
theorem dX4_cellsOf_33 : decode cX4_cellsOf 33 = .ok (.lconst 0, 1) := by decide +kernel
theorem dX4_cellsOf_34 : decode cX4_cellsOf 34 = .ok (.lreturn, 1) := by decide +kernel
theorem dX4_cellsOf_35 : decode cX4_cellsOf 35 = .ok (.getstatic 365, 3) := by decide +kernel
theorem dX4_cellsOf_38 : decode cX4_cellsOf 38 = .ok (.iload_n 2, 1) := by decide +kernel
theorem dX4_cellsOf_39 : decode cX4_cellsOf 39 = .ok (.laload, 1) := by decide +kernel
theorem dX4_cellsOf_40 : decode cX4_cellsOf 40 = .ok (.bipush 8, 2) := by decide +kernel
theorem dX4_cellsOf_42 : decode cX4_cellsOf 42 = .ok (.iload_n 1, 1) := by decide +kernel
theorem dX4_cellsOf_43 : decode cX4_cellsOf 43 = .ok (.imul, 1) := by decide +kernel
theorem dX4_cellsOf_44 : decode cX4_cellsOf 44 = .ok (.iload_n 0, 1) := by decide +kernel
theorem dX4_cellsOf_45 : decode cX4_cellsOf 45 = .ok (.iadd, 1) := by decide +kernel
theorem dX4_cellsOf_46 : decode cX4_cellsOf 46 = .ok (.lshl, 1) := by decide +kernel
theorem dX4_cellsOf_47 : decode cX4_cellsOf 47 = .ok (.lreturn, 1) := by decide +kernel
theorem dX4_cellName_0 : decode cX4_cellName 0 = .ok (.iload_n 0, 1) := by decide +kernel
theorem dX4_cellName_1 : decode cX4_cellName 1 = .ok (.bipush 8, 2) := by decide +kernel
theorem dX4_cellName_3 : decode cX4_cellName 3 = .ok (.irem, 1) := by decide +kernel
theorem dX4_cellName_4 : decode cX4_cellName 4 = .ok (.bipush 10, 2) := by decide +kernel
theorem dX4_cellName_6 : decode cX4_cellName 6 = .ok (.iload_n 0, 1) := by decide +kernel
theorem dX4_cellName_7 : decode cX4_cellName 7 = .ok (.bipush 8, 2) := by decide +kernel
theorem dX4_cellName_9 : decode cX4_cellName 9 = .ok (.idiv, 1) := by decide +kernel
theorem dX4_cellName_10 : decode cX4_cellName 10 = .ok (.imul, 1) := by decide +kernel
theorem dX4_cellName_11 : decode cX4_cellName 11 = .ok (.iadd, 1) := by decide +kernel
theorem dX4_cellName_12 : decode cX4_cellName 12 = .ok (.ireturn, 1) := by decide +kernel
theorem dX4_nameOf_0 : decode cX4_nameOf 0 = .ok (.iload_n 0, 1) := by decide +kernel
theorem dX4_nameOf_1 : decode cX4_nameOf 1 = .ok (.bipush 10, 2) := by decide +kernel
theorem dX4_nameOf_3 : decode cX4_nameOf 3 = .ok (.iload_n 1, 1) := by decide +kernel
theorem dX4_nameOf_4 : decode cX4_nameOf 4 = .ok (.imul, 1) := by decide +kernel
theorem dX4_nameOf_5 : decode cX4_nameOf 5 = .ok (.iadd, 1) := by decide +kernel
theorem dX4_nameOf_6 : decode cX4_nameOf 6 = .ok (.bipush 100, 2) := by decide +kernel
theorem dX4_nameOf_8 : decode cX4_nameOf 8 = .ok (.iload_n 2, 1) := by decide +kernel
theorem dX4_nameOf_9 : decode cX4_nameOf 9 = .ok (.imul, 1) := by decide +kernel
theorem dX4_nameOf_10 : decode cX4_nameOf 10 = .ok (.iadd, 1) := by decide +kernel
theorem dX4_nameOf_11 : decode cX4_nameOf 11 = .ok (.ireturn, 1) := by decide +kernel
theorem dX4_columnOf_0 : decode cX4_columnOf 0 = .ok (.iload_n 0, 1) := by decide +kernel
theorem dX4_columnOf_1 : decode cX4_columnOf 1 = .ok (.bipush 10, 2) := by decide +kernel
theorem dX4_columnOf_3 : decode cX4_columnOf 3 = .ok (.irem, 1) := by decide +kernel
theorem dX4_columnOf_4 : decode cX4_columnOf 4 = .ok (.ireturn, 1) := by decide +kernel
theorem dX4_rowOf_0 : decode cX4_rowOf 0 = .ok (.iload_n 0, 1) := by decide +kernel
theorem dX4_rowOf_1 : decode cX4_rowOf 1 = .ok (.bipush 10, 2) := by decide +kernel
theorem dX4_rowOf_3 : decode cX4_rowOf 3 = .ok (.idiv, 1) := by decide +kernel
theorem dX4_rowOf_4 : decode cX4_rowOf 4 = .ok (.bipush 10, 2) := by decide +kernel
theorem dX4_rowOf_6 : decode cX4_rowOf 6 = .ok (.irem, 1) := by decide +kernel
theorem dX4_rowOf_7 : decode cX4_rowOf 7 = .ok (.ireturn, 1) := by decide +kernel
theorem dX4_turnOf_0 : decode cX4_turnOf 0 = .ok (.iload_n 0, 1) := by decide +kernel
theorem dX4_turnOf_1 : decode cX4_turnOf 1 = .ok (.bipush 100, 2) := by decide +kernel
theorem dX4_turnOf_3 : decode cX4_turnOf 3 = .ok (.idiv, 1) := by decide +kernel
theorem dX4_turnOf_4 : decode cX4_turnOf 4 = .ok (.ireturn, 1) := by decide +kernel
theorem dX5_init_0 : decode cX5_init 0 = .ok (.aload_n 0, 1) := by decide +kernel
theorem dX5_init_1 : decode cX5_init 1 = .ok (.invokespecial 1, 3) := by decide +kernel
theorem dX5_init_4 : decode cX5_init 4 = .ok (.aload_n 0, 1) := by decide +kernel
theorem dX5_init_5 : decode cX5_init 5 = .ok (.sipush 1970, 3) := by decide +kernel
theorem dX5_init_8 : decode cX5_init 8 = .ok (.newarray .int, 2) := by decide +kernel
theorem dX5_init_10 : decode cX5_init 10 = .ok (.putfield 7, 3) := by decide +kernel
theorem dX5_init_13 : decode cX5_init 13 = .ok (.aload_n 0, 1) := by decide +kernel
theorem dX5_init_14 : decode cX5_init 14 = .ok (.iconst 2, 1) := by decide +kernel
theorem dX5_init_15 : decode cX5_init 15 = .ok (.newarray .boolean, 2) := by decide +kernel
theorem dX5_init_17 : decode cX5_init 17 = .ok (.putfield 13, 3) := by decide +kernel
theorem dX5_init_20 : decode cX5_init 20 = .ok (.aload_n 0, 1) := by decide +kernel
theorem dX5_init_21 : decode cX5_init 21 = .ok (.bipush 71, 2) := by decide +kernel
theorem dX5_init_23 : decode cX5_init 23 = .ok (.newarray .char, 2) := by decide +kernel
theorem dX5_init_25 : decode cX5_init 25 = .ok (.putfield 17, 3) := by decide +kernel
theorem dX5_init_28 : decode cX5_init 28 = .ok (.aload_n 0, 1) := by decide +kernel
theorem dX5_init_29 : decode cX5_init 29 = .ok (.sipush 1024, 3) := by decide +kernel
theorem dX5_init_32 : decode cX5_init 32 = .ok (.newarray .int, 2) := by decide +kernel
theorem dX5_init_34 : decode cX5_init 34 = .ok (.putfield 21, 3) := by decide +kernel
theorem dX5_init_37 : decode cX5_init 37 = .ok (.aload_n 0, 1) := by decide +kernel
theorem dX5_init_38 : decode cX5_init 38 = .ok (.sipush 1024, 3) := by decide +kernel
theorem dX5_init_41 : decode cX5_init 41 = .ok (.newarray .int, 2) := by decide +kernel
theorem dX5_init_43 : decode cX5_init 43 = .ok (.putfield 24, 3) := by decide +kernel
theorem dX5_init_46 : decode cX5_init 46 = .ok (.aload_n 0, 1) := by decide +kernel
theorem dX5_init_47 : decode cX5_init 47 = .ok (.bipush 100, 2) := by decide +kernel
theorem dX5_init_49 : decode cX5_init 49 = .ok (.newarray .int, 2) := by decide +kernel
theorem dX5_init_51 : decode cX5_init 51 = .ok (.putfield 27, 3) := by decide +kernel
theorem dX5_init_54 : decode cX5_init 54 = .ok (.aload_n 0, 1) := by decide +kernel
theorem dX5_init_55 : decode cX5_init 55 = .ok (.iconst 0, 1) := by decide +kernel
theorem dX5_init_56 : decode cX5_init 56 = .ok (.iconst 4, 1) := by decide +kernel
theorem dX5_init_57 : decode cX5_init 57 = .ok (.iconst 4, 1) := by decide +kernel
theorem dX5_init_58 : decode cX5_init 58 = .ok (.invokevirtual 30, 3) := by decide +kernel
theorem dX5_init_61 : decode cX5_init 61 = .ok (.return_, 1) := by decide +kernel
theorem dX5_thrown_0 : decode cX5_thrown 0 = .ok (.aload_n 0, 1) := by decide +kernel
theorem dX5_thrown_1 : decode cX5_thrown 1 = .ok (.getfield 34, 3) := by decide +kernel
theorem dX5_thrown_4 : decode cX5_thrown 4 = .ok (.ireturn, 1) := by decide +kernel
theorem dX5_in_0 : decode cX5_in 0 = .ok (.iload_n 0, 1) := by decide +kernel
theorem dX5_in_1 : decode cX5_in 1 = .ok (.iload_n 1, 1) := by decide +kernel
theorem dX5_in_2 : decode cX5_in 2 = .ok (.if_icmp .lt 12, 3) := by decide +kernel
theorem dX5_in_5 : decode cX5_in 5 = .ok (.iload_n 0, 1) := by decide +kernel
theorem dX5_in_6 : decode cX5_in 6 = .ok (.iload_n 2, 1) := by decide +kernel
theorem dX5_in_7 : decode cX5_in 7 = .ok (.if_icmp .gt 7, 3) := by decide +kernel
theorem dX5_in_10 : decode cX5_in 10 = .ok (.iconst 1, 1) := by decide +kernel
theorem dX5_in_11 : decode cX5_in 11 = .ok (.goto 4, 3) := by decide +kernel
theorem dX5_in_14 : decode cX5_in 14 = .ok (.iconst 0, 1) := by decide +kernel
theorem dX5_in_15 : decode cX5_in 15 = .ok (.ireturn, 1) := by decide +kernel
theorem dX5_goes_0 : decode cX5_goes 0 = .ok (.aload_n 0, 1) := by decide +kernel
theorem dX5_goes_1 : decode cX5_goes 1 = .ok (.iload_n 1, 1) := by decide +kernel
theorem dX5_goes_2 : decode cX5_goes 2 = .ok (.ifCond .ne 7, 3) := by decide +kernel
theorem dX5_goes_5 : decode cX5_goes 5 = .ok (.iconst 1, 1) := by decide +kernel
theorem dX5_goes_6 : decode cX5_goes 6 = .ok (.goto 12, 3) := by decide +kernel
theorem dX5_goes_9 : decode cX5_goes 9 = .ok (.iload_n 2, 1) := by decide +kernel
theorem dX5_goes_10 : decode cX5_goes 10 = .ok (.ifCond .ne 7, 3) := by decide +kernel
theorem dX5_goes_13 : decode cX5_goes 13 = .ok (.iconst 2, 1) := by decide +kernel
theorem dX5_goes_14 : decode cX5_goes 14 = .ok (.goto 4, 3) := by decide +kernel
theorem dX5_goes_17 : decode cX5_goes 17 = .ok (.iconst 0, 1) := by decide +kernel
theorem dX5_goes_18 : decode cX5_goes 18 = .ok (.putfield 34, 3) := by decide +kernel
theorem dX5_goes_21 : decode cX5_goes 21 = .ok (.aload_n 0, 1) := by decide +kernel
theorem dX5_goes_22 : decode cX5_goes 22 = .ok (.getfield 34, 3) := by decide +kernel
theorem dX5_goes_25 : decode cX5_goes 25 = .ok (.ifCond .ne 7, 3) := by decide +kernel
theorem dX5_goes_28 : decode cX5_goes 28 = .ok (.iconst 1, 1) := by decide +kernel
theorem dX5_goes_29 : decode cX5_goes 29 = .ok (.goto 4, 3) := by decide +kernel
theorem dX5_goes_32 : decode cX5_goes 32 = .ok (.iconst 0, 1) := by decide +kernel
theorem dX5_goes_33 : decode cX5_goes 33 = .ok (.ireturn, 1) := by decide +kernel
theorem dX5_copies_0 : decode cX5_copies 0 = .ok (.iconst 0, 1) := by decide +kernel
theorem dX5_copies_1 : decode cX5_copies 1 = .ok (.istore_n 3, 1) := by decide +kernel
theorem dX5_copies_2 : decode cX5_copies 2 = .ok (.iload_n 3, 1) := by decide +kernel
theorem dX5_copies_3 : decode cX5_copies 3 = .ok (.sipush 197, 3) := by decide +kernel
theorem dX5_copies_6 : decode cX5_copies 6 = .ok (.if_icmp .ge 33, 3) := by decide +kernel
theorem dX5_copies_9 : decode cX5_copies 9 = .ok (.aload_n 0, 1) := by decide +kernel
theorem dX5_copies_10 : decode cX5_copies 10 = .ok (.getfield 7, 3) := by decide +kernel
theorem dX5_copies_13 : decode cX5_copies 13 = .ok (.sipush 197, 3) := by decide +kernel
theorem dX5_copies_16 : decode cX5_copies 16 = .ok (.iload_n 2, 1) := by decide +kernel
theorem dX5_copies_17 : decode cX5_copies 17 = .ok (.imul, 1) := by decide +kernel
theorem dX5_copies_18 : decode cX5_copies 18 = .ok (.iload_n 3, 1) := by decide +kernel
theorem dX5_copies_19 : decode cX5_copies 19 = .ok (.iadd, 1) := by decide +kernel
theorem dX5_copies_20 : decode cX5_copies 20 = .ok (.aload_n 0, 1) := by decide +kernel
theorem dX5_copies_21 : decode cX5_copies 21 = .ok (.getfield 7, 3) := by decide +kernel
theorem dX5_copies_24 : decode cX5_copies 24 = .ok (.sipush 197, 3) := by decide +kernel
theorem dX5_copies_27 : decode cX5_copies 27 = .ok (.iload_n 1, 1) := by decide +kernel
theorem dX5_copies_28 : decode cX5_copies 28 = .ok (.imul, 1) := by decide +kernel
theorem dX5_copies_29 : decode cX5_copies 29 = .ok (.iload_n 3, 1) := by decide +kernel
theorem dX5_copies_30 : decode cX5_copies 30 = .ok (.iadd, 1) := by decide +kernel
theorem dX5_copies_31 : decode cX5_copies 31 = .ok (.iaload, 1) := by decide +kernel
theorem dX5_copies_32 : decode cX5_copies 32 = .ok (.iastore, 1) := by decide +kernel
theorem dX5_copies_33 : decode cX5_copies 33 = .ok (.iinc 3 1, 3) := by decide +kernel
theorem dX5_copies_36 : decode cX5_copies 36 = .ok (.goto (-34), 3) := by decide +kernel
theorem dX5_copies_39 : decode cX5_copies 39 = .ok (.return_, 1) := by decide +kernel
theorem dX5_saves_0 : decode cX5_saves 0 = .ok (.aload_n 0, 1) := by decide +kernel
theorem dX5_saves_1 : decode cX5_saves 1 = .ok (.getfield 38, 3) := by decide +kernel
theorem dX5_saves_4 : decode cX5_saves 4 = .ok (.bipush 6, 2) := by decide +kernel
theorem dX5_saves_6 : decode cX5_saves 6 = .ok (.if_icmp .ne 35, 3) := by decide +kernel
theorem dX5_saves_9 : decode cX5_saves 9 = .ok (.iconst 1, 1) := by decide +kernel
theorem dX5_saves_10 : decode cX5_saves 10 = .ok (.istore_n 1, 1) := by decide +kernel
theorem dX5_saves_11 : decode cX5_saves 11 = .ok (.iload_n 1, 1) := by decide +kernel
theorem dX5_saves_12 : decode cX5_saves 12 = .ok (.bipush 6, 2) := by decide +kernel
theorem dX5_saves_14 : decode cX5_saves 14 = .ok (.if_icmp .ge 17, 3) := by decide +kernel
theorem dX5_saves_17 : decode cX5_saves 17 = .ok (.aload_n 0, 1) := by decide +kernel
theorem dX5_saves_18 : decode cX5_saves 18 = .ok (.iload_n 1, 1) := by decide +kernel
theorem dX5_saves_19 : decode cX5_saves 19 = .ok (.iconst 1, 1) := by decide +kernel
theorem dX5_saves_20 : decode cX5_saves 20 = .ok (.iadd, 1) := by decide +kernel
theorem dX5_saves_21 : decode cX5_saves 21 = .ok (.iload_n 1, 1) := by decide +kernel
theorem dX5_saves_22 : decode cX5_saves 22 = .ok (.invokevirtual 41, 3) := by decide +kernel
theorem dX5_saves_25 : decode cX5_saves 25 = .ok (.iinc 1 1, 3) := by decide +kernel
theorem dX5_saves_28 : decode cX5_saves 28 = .ok (.goto (-17), 3) := by decide +kernel
theorem dX5_saves_31 : decode cX5_saves 31 = .ok (.aload_n 0, 1) := by decide +kernel
theorem dX5_saves_32 : decode cX5_saves 32 = .ok (.dup, 1) := by decide +kernel
theorem dX5_saves_33 : decode cX5_saves 33 = .ok (.getfield 38, 3) := by decide +kernel
theorem dX5_saves_36 : decode cX5_saves 36 = .ok (.iconst 1, 1) := by decide +kernel
theorem dX5_saves_37 : decode cX5_saves 37 = .ok (.isub, 1) := by decide +kernel
theorem dX5_saves_38 : decode cX5_saves 38 = .ok (.putfield 38, 3) := by decide +kernel
theorem dX5_saves_41 : decode cX5_saves 41 = .ok (.aload_n 0, 1) := by decide +kernel
theorem dX5_saves_42 : decode cX5_saves 42 = .ok (.dup, 1) := by decide +kernel
theorem dX5_saves_43 : decode cX5_saves 43 = .ok (.getfield 38, 3) := by decide +kernel
theorem dX5_saves_46 : decode cX5_saves 46 = .ok (.iconst 1, 1) := by decide +kernel
theorem dX5_saves_47 : decode cX5_saves 47 = .ok (.iadd, 1) := by decide +kernel
theorem dX5_saves_48 : decode cX5_saves 48 = .ok (.putfield 38, 3) := by decide +kernel
theorem dX5_saves_51 : decode cX5_saves 51 = .ok (.aload_n 0, 1) := by decide +kernel
theorem dX5_saves_52 : decode cX5_saves 52 = .ok (.iconst 0, 1) := by decide +kernel
theorem dX5_saves_53 : decode cX5_saves 53 = .ok (.aload_n 0, 1) := by decide +kernel
theorem dX5_saves_54 : decode cX5_saves 54 = .ok (.getfield 38, 3) := by decide +kernel
theorem dX5_saves_57 : decode cX5_saves 57 = .ok (.invokevirtual 41, 3) := by decide +kernel
theorem dX5_saves_60 : decode cX5_saves 60 = .ok (.return_, 1) := by decide +kernel
theorem dX5_laysOut_0 : decode cX5_laysOut 0 = .ok (.aload_n 0, 1) := by decide +kernel
theorem dX5_laysOut_1 : decode cX5_laysOut 1 = .ok (.getfield 7, 3) := by decide +kernel
theorem dX5_laysOut_4 : decode cX5_laysOut 4 = .ok (.iload_n 1, 1) := by decide +kernel
theorem dX5_laysOut_5 : decode cX5_laysOut 5 = .ok (.iload_n 2, 1) := by decide +kernel
theorem dX5_laysOut_6 : decode cX5_laysOut 6 = .ok (.iastore, 1) := by decide +kernel
theorem dX5_laysOut_7 : decode cX5_laysOut 7 = .ok (.aload_n 0, 1) := by decide +kernel
theorem dX5_laysOut_8 : decode cX5_laysOut 8 = .ok (.getfield 7, 3) := by decide +kernel
theorem dX5_laysOut_11 : decode cX5_laysOut 11 = .ok (.iload_n 1, 1) := by decide +kernel
theorem dX5_laysOut_12 : decode cX5_laysOut 12 = .ok (.iconst 1, 1) := by decide +kernel
theorem dX5_laysOut_13 : decode cX5_laysOut 13 = .ok (.iadd, 1) := by decide +kernel
theorem dX5_laysOut_14 : decode cX5_laysOut 14 = .ok (.iload_n 3, 1) := by decide +kernel
theorem dX5_laysOut_15 : decode cX5_laysOut 15 = .ok (.iastore, 1) := by decide +kernel
theorem dX5_laysOut_16 : decode cX5_laysOut 16 = .ok (.aload_n 0, 1) := by decide +kernel
theorem dX5_laysOut_17 : decode cX5_laysOut 17 = .ok (.getfield 7, 3) := by decide +kernel
theorem dX5_laysOut_20 : decode cX5_laysOut 20 = .ok (.iload_n 1, 1) := by decide +kernel
theorem dX5_laysOut_21 : decode cX5_laysOut 21 = .ok (.iconst 2, 1) := by decide +kernel
theorem dX5_laysOut_22 : decode cX5_laysOut 22 = .ok (.iadd, 1) := by decide +kernel
theorem dX5_laysOut_23 : decode cX5_laysOut 23 = .ok (.iconst 0, 1) := by decide +kernel
theorem dX5_laysOut_24 : decode cX5_laysOut 24 = .ok (.iastore, 1) := by decide +kernel
theorem dX5_laysOut_25 : decode cX5_laysOut 25 = .ok (.aload_n 0, 1) := by decide +kernel
theorem dX5_laysOut_26 : decode cX5_laysOut 26 = .ok (.getfield 7, 3) := by decide +kernel
theorem dX5_laysOut_29 : decode cX5_laysOut 29 = .ok (.iload_n 1, 1) := by decide +kernel
theorem dX5_laysOut_30 : decode cX5_laysOut 30 = .ok (.sipush 131, 3) := by decide +kernel
theorem dX5_laysOut_33 : decode cX5_laysOut 33 = .ok (.iadd, 1) := by decide +kernel
theorem dX5_laysOut_34 : decode cX5_laysOut 34 = .ok (.iconst 0, 1) := by decide +kernel
theorem dX5_laysOut_35 : decode cX5_laysOut 35 = .ok (.iastore, 1) := by decide +kernel
theorem dX5_laysOut_36 : decode cX5_laysOut 36 = .ok (.iconst 0, 1) := by decide +kernel
theorem dX5_laysOut_37 : decode cX5_laysOut 37 = .ok (.istore 4, 2) := by decide +kernel
theorem dX5_laysOut_39 : decode cX5_laysOut 39 = .ok (.iload 4, 2) := by decide +kernel
theorem dX5_laysOut_41 : decode cX5_laysOut 41 = .ok (.bipush 64, 2) := by decide +kernel
theorem dX5_laysOut_43 : decode cX5_laysOut 43 = .ok (.if_icmp .ge 34, 3) := by decide +kernel
theorem dX5_laysOut_46 : decode cX5_laysOut 46 = .ok (.aload_n 0, 1) := by decide +kernel
theorem dX5_laysOut_47 : decode cX5_laysOut 47 = .ok (.getfield 7, 3) := by decide +kernel
theorem dX5_laysOut_50 : decode cX5_laysOut 50 = .ok (.iload_n 1, 1) := by decide +kernel
theorem dX5_laysOut_51 : decode cX5_laysOut 51 = .ok (.iconst 3, 1) := by decide +kernel
theorem dX5_laysOut_52 : decode cX5_laysOut 52 = .ok (.iadd, 1) := by decide +kernel
theorem dX5_laysOut_53 : decode cX5_laysOut 53 = .ok (.iload 4, 2) := by decide +kernel
theorem dX5_laysOut_55 : decode cX5_laysOut 55 = .ok (.iadd, 1) := by decide +kernel
theorem dX5_laysOut_56 : decode cX5_laysOut 56 = .ok (.iconst 0, 1) := by decide +kernel
theorem dX5_laysOut_57 : decode cX5_laysOut 57 = .ok (.iastore, 1) := by decide +kernel
theorem dX5_laysOut_58 : decode cX5_laysOut 58 = .ok (.aload_n 0, 1) := by decide +kernel
theorem dX5_laysOut_59 : decode cX5_laysOut 59 = .ok (.getfield 7, 3) := by decide +kernel
theorem dX5_laysOut_62 : decode cX5_laysOut 62 = .ok (.iload_n 1, 1) := by decide +kernel
theorem dX5_laysOut_63 : decode cX5_laysOut 63 = .ok (.bipush 67, 2) := by decide +kernel
theorem dX5_laysOut_65 : decode cX5_laysOut 65 = .ok (.iadd, 1) := by decide +kernel
theorem dX5_laysOut_66 : decode cX5_laysOut 66 = .ok (.iload 4, 2) := by decide +kernel
theorem dX5_laysOut_68 : decode cX5_laysOut 68 = .ok (.iadd, 1) := by decide +kernel
theorem dX5_laysOut_69 : decode cX5_laysOut 69 = .ok (.iconst (-1), 1) := by decide +kernel
theorem dX5_laysOut_70 : decode cX5_laysOut 70 = .ok (.iastore, 1) := by decide +kernel
theorem dX5_laysOut_71 : decode cX5_laysOut 71 = .ok (.iinc 4 1, 3) := by decide +kernel
theorem dX5_laysOut_74 : decode cX5_laysOut 74 = .ok (.goto (-35), 3) := by decide +kernel
theorem dX5_laysOut_77 : decode cX5_laysOut 77 = .ok (.return_, 1) := by decide +kernel
theorem dX5_isIn_0 : decode cX5_isIn 0 = .ok (.iload_n 1, 1) := by decide +kernel
theorem dX5_isIn_1 : decode cX5_isIn 1 = .ok (.iconst 0, 1) := by decide +kernel
theorem dX5_isIn_2 : decode cX5_isIn 2 = .ok (.aload_n 0, 1) := by decide +kernel
theorem dX5_isIn_3 : decode cX5_isIn 3 = .ok (.getfield 7, 3) := by decide +kernel
theorem dX5_isIn_6 : decode cX5_isIn 6 = .ok (.iconst 0, 1) := by decide +kernel
theorem dX5_isIn_7 : decode cX5_isIn 7 = .ok (.iaload, 1) := by decide +kernel
theorem dX5_isIn_8 : decode cX5_isIn 8 = .ok (.iconst 1, 1) := by decide +kernel
theorem dX5_isIn_9 : decode cX5_isIn 9 = .ok (.isub, 1) := by decide +kernel
theorem dX5_isIn_10 : decode cX5_isIn 10 = .ok (.invokestatic 45, 3) := by decide +kernel
theorem dX5_isIn_13 : decode cX5_isIn 13 = .ok (.ifCond .eq 23, 3) := by decide +kernel
theorem dX5_isIn_16 : decode cX5_isIn 16 = .ok (.iload_n 2, 1) := by decide +kernel
theorem dX5_isIn_17 : decode cX5_isIn 17 = .ok (.iconst 0, 1) := by decide +kernel
theorem dX5_isIn_18 : decode cX5_isIn 18 = .ok (.aload_n 0, 1) := by decide +kernel
theorem dX5_isIn_19 : decode cX5_isIn 19 = .ok (.getfield 7, 3) := by decide +kernel
theorem dX5_isIn_22 : decode cX5_isIn 22 = .ok (.iconst 1, 1) := by decide +kernel
theorem dX5_isIn_23 : decode cX5_isIn 23 = .ok (.iaload, 1) := by decide +kernel
theorem dX5_isIn_24 : decode cX5_isIn 24 = .ok (.iconst 1, 1) := by decide +kernel
theorem dX5_isIn_25 : decode cX5_isIn 25 = .ok (.isub, 1) := by decide +kernel
theorem dX5_isIn_26 : decode cX5_isIn 26 = .ok (.invokestatic 45, 3) := by decide +kernel
theorem dX5_isIn_29 : decode cX5_isIn 29 = .ok (.ifCond .eq 7, 3) := by decide +kernel
theorem dX5_isIn_32 : decode cX5_isIn 32 = .ok (.iconst 1, 1) := by decide +kernel
theorem dX5_isIn_33 : decode cX5_isIn 33 = .ok (.goto 4, 3) := by decide +kernel
theorem dX5_isIn_36 : decode cX5_isIn 36 = .ok (.iconst 0, 1) := by decide +kernel
theorem dX5_isIn_37 : decode cX5_isIn 37 = .ok (.ireturn, 1) := by decide +kernel
theorem dX5_isFree_0 : decode cX5_isFree 0 = .ok (.iload_n 2, 1) := by decide +kernel
theorem dX5_isFree_1 : decode cX5_isFree 1 = .ok (.aload_n 0, 1) := by decide +kernel
theorem dX5_isFree_2 : decode cX5_isFree 2 = .ok (.getfield 7, 3) := by decide +kernel
theorem dX5_isFree_5 : decode cX5_isFree 5 = .ok (.iload_n 1, 1) := by decide +kernel
theorem dX5_isFree_6 : decode cX5_isFree 6 = .ok (.iconst 2, 1) := by decide +kernel
theorem dX5_isFree_7 : decode cX5_isFree 7 = .ok (.iadd, 1) := by decide +kernel
theorem dX5_isFree_8 : decode cX5_isFree 8 = .ok (.iaload, 1) := by decide +kernel
theorem dX5_isFree_9 : decode cX5_isFree 9 = .ok (.if_icmp .eq 34, 3) := by decide +kernel
theorem dX5_isFree_12 : decode cX5_isFree 12 = .ok (.aload_n 0, 1) := by decide +kernel
theorem dX5_isFree_13 : decode cX5_isFree 13 = .ok (.getfield 7, 3) := by decide +kernel
theorem dX5_isFree_16 : decode cX5_isFree 16 = .ok (.iload_n 1, 1) := by decide +kernel
theorem dX5_isFree_17 : decode cX5_isFree 17 = .ok (.iconst 3, 1) := by decide +kernel
theorem dX5_isFree_18 : decode cX5_isFree 18 = .ok (.iadd, 1) := by decide +kernel
theorem dX5_isFree_19 : decode cX5_isFree 19 = .ok (.iload_n 2, 1) := by decide +kernel
theorem dX5_isFree_20 : decode cX5_isFree 20 = .ok (.iadd, 1) := by decide +kernel
theorem dX5_isFree_21 : decode cX5_isFree 21 = .ok (.iaload, 1) := by decide +kernel
theorem dX5_isFree_22 : decode cX5_isFree 22 = .ok (.ifCond .ne 21, 3) := by decide +kernel
theorem dX5_isFree_25 : decode cX5_isFree 25 = .ok (.aload_n 0, 1) := by decide +kernel
theorem dX5_isFree_26 : decode cX5_isFree 26 = .ok (.getfield 7, 3) := by decide +kernel
theorem dX5_isFree_29 : decode cX5_isFree 29 = .ok (.iload_n 1, 1) := by decide +kernel
theorem dX5_isFree_30 : decode cX5_isFree 30 = .ok (.bipush 67, 2) := by decide +kernel
theorem dX5_isFree_32 : decode cX5_isFree 32 = .ok (.iadd, 1) := by decide +kernel
theorem dX5_isFree_33 : decode cX5_isFree 33 = .ok (.iload_n 2, 1) := by decide +kernel
theorem dX5_isFree_34 : decode cX5_isFree 34 = .ok (.iadd, 1) := by decide +kernel
theorem dX5_isFree_35 : decode cX5_isFree 35 = .ok (.iaload, 1) := by decide +kernel
theorem dX5_isFree_36 : decode cX5_isFree 36 = .ok (.ifCond .ge 7, 3) := by decide +kernel
theorem dX5_isFree_39 : decode cX5_isFree 39 = .ok (.iconst 1, 1) := by decide +kernel
theorem dX5_isFree_40 : decode cX5_isFree 40 = .ok (.goto 4, 3) := by decide +kernel
theorem dX5_isFree_43 : decode cX5_isFree 43 = .ok (.iconst 0, 1) := by decide +kernel
theorem dX5_isFree_44 : decode cX5_isFree 44 = .ok (.ireturn, 1) := by decide +kernel
theorem dX5_ofBlock_0 : decode cX5_ofBlock 0 = .ok (.bipush 8, 2) := by decide +kernel
theorem dX5_ofBlock_2 : decode cX5_ofBlock 2 = .ok (.iload_n 1, 1) := by decide +kernel
theorem dX5_ofBlock_3 : decode cX5_ofBlock 3 = .ok (.iload_n 2, 1) := by decide +kernel
theorem dX5_ofBlock_4 : decode cX5_ofBlock 4 = .ok (.iconst 2, 1) := by decide +kernel
theorem dX5_ofBlock_5 : decode cX5_ofBlock 5 = .ok (.idiv, 1) := by decide +kernel
theorem dX5_ofBlock_6 : decode cX5_ofBlock 6 = .ok (.iadd, 1) := by decide +kernel
theorem dX5_ofBlock_7 : decode cX5_ofBlock 7 = .ok (.imul, 1) := by decide +kernel
theorem dX5_ofBlock_8 : decode cX5_ofBlock 8 = .ok (.iload_n 0, 1) := by decide +kernel
theorem dX5_ofBlock_9 : decode cX5_ofBlock 9 = .ok (.iadd, 1) := by decide +kernel
theorem dX5_ofBlock_10 : decode cX5_ofBlock 10 = .ok (.iload_n 2, 1) := by decide +kernel
theorem dX5_ofBlock_11 : decode cX5_ofBlock 11 = .ok (.iconst 1, 1) := by decide +kernel
theorem dX5_ofBlock_12 : decode cX5_ofBlock 12 = .ok (.if_icmp .eq 8, 3) := by decide +kernel
theorem dX5_ofBlock_15 : decode cX5_ofBlock 15 = .ok (.iload_n 2, 1) := by decide +kernel
theorem dX5_ofBlock_16 : decode cX5_ofBlock 16 = .ok (.iconst 2, 1) := by decide +kernel
theorem dX5_ofBlock_17 : decode cX5_ofBlock 17 = .ok (.if_icmp .ne 7, 3) := by decide +kernel
theorem dX5_ofBlock_20 : decode cX5_ofBlock 20 = .ok (.iconst 1, 1) := by decide +kernel
theorem dX5_ofBlock_21 : decode cX5_ofBlock 21 = .ok (.goto 4, 3) := by decide +kernel
theorem dX5_ofBlock_24 : decode cX5_ofBlock 24 = .ok (.iconst 0, 1) := by decide +kernel
theorem dX5_ofBlock_25 : decode cX5_ofBlock 25 = .ok (.iadd, 1) := by decide +kernel
theorem dX5_ofBlock_26 : decode cX5_ofBlock 26 = .ok (.ireturn, 1) := by decide +kernel
theorem dX5_wrong_0 : decode cX5_wrong 0 = .ok (.iload_n 2, 1) := by decide +kernel
theorem dX5_wrong_1 : decode cX5_wrong 1 = .ok (.iconst 0, 1) := by decide +kernel
theorem dX5_wrong_2 : decode cX5_wrong 2 = .ok (.aload_n 0, 1) := by decide +kernel
theorem dX5_wrong_3 : decode cX5_wrong 3 = .ok (.getfield 7, 3) := by decide +kernel
theorem dX5_wrong_6 : decode cX5_wrong 6 = .ok (.iload_n 1, 1) := by decide +kernel
theorem dX5_wrong_7 : decode cX5_wrong 7 = .ok (.iaload, 1) := by decide +kernel
theorem dX5_wrong_8 : decode cX5_wrong 8 = .ok (.iconst 2, 1) := by decide +kernel
theorem dX5_wrong_9 : decode cX5_wrong 9 = .ok (.isub, 1) := by decide +kernel
theorem dX5_wrong_10 : decode cX5_wrong 10 = .ok (.invokestatic 45, 3) := by decide +kernel
theorem dX5_wrong_13 : decode cX5_wrong 13 = .ok (.ifCond .eq 21, 3) := by decide +kernel
theorem dX5_wrong_16 : decode cX5_wrong 16 = .ok (.iload_n 3, 1) := by decide +kernel
theorem dX5_wrong_17 : decode cX5_wrong 17 = .ok (.iconst 0, 1) := by decide +kernel
theorem dX5_wrong_18 : decode cX5_wrong 18 = .ok (.aload_n 0, 1) := by decide +kernel
theorem dX5_wrong_19 : decode cX5_wrong 19 = .ok (.getfield 7, 3) := by decide +kernel
theorem dX5_wrong_22 : decode cX5_wrong 22 = .ok (.iload_n 1, 1) := by decide +kernel
theorem dX5_wrong_23 : decode cX5_wrong 23 = .ok (.iconst 1, 1) := by decide +kernel
theorem dX5_wrong_24 : decode cX5_wrong 24 = .ok (.iadd, 1) := by decide +kernel
theorem dX5_wrong_25 : decode cX5_wrong 25 = .ok (.iaload, 1) := by decide +kernel
theorem dX5_wrong_26 : decode cX5_wrong 26 = .ok (.iconst 2, 1) := by decide +kernel
theorem dX5_wrong_27 : decode cX5_wrong 27 = .ok (.isub, 1) := by decide +kernel
theorem dX5_wrong_28 : decode cX5_wrong 28 = .ok (.invokestatic 45, 3) := by decide +kernel
theorem dX5_wrong_31 : decode cX5_wrong 31 = .ok (.ifCond .ne 5, 3) := by decide +kernel
theorem dX5_wrong_34 : decode cX5_wrong 34 = .ok (.iconst 1, 1) := by decide +kernel
theorem dX5_wrong_35 : decode cX5_wrong 35 = .ok (.ireturn, 1) := by decide +kernel
theorem dX5_wrong_36 : decode cX5_wrong 36 = .ok (.iconst 0, 1) := by decide +kernel
theorem dX5_wrong_37 : decode cX5_wrong 37 = .ok (.istore 5, 2) := by decide +kernel
theorem dX5_wrong_39 : decode cX5_wrong 39 = .ok (.iconst 0, 1) := by decide +kernel
theorem dX5_wrong_40 : decode cX5_wrong 40 = .ok (.istore 6, 2) := by decide +kernel
theorem dX5_wrong_42 : decode cX5_wrong 42 = .ok (.iload 6, 2) := by decide +kernel
theorem dX5_wrong_44 : decode cX5_wrong 44 = .ok (.iconst 4, 1) := by decide +kernel
theorem dX5_wrong_45 : decode cX5_wrong 45 = .ok (.if_icmp .ge 109, 3) := by decide +kernel
theorem dX5_wrong_48 : decode cX5_wrong 48 = .ok (.iload 6, 2) := by decide +kernel
theorem dX5_wrong_50 : decode cX5_wrong 50 = .ok (.iload 4, 2) := by decide +kernel
theorem dX5_wrong_52 : decode cX5_wrong 52 = .ok (.if_icmp .eq 96, 3) := by decide +kernel
theorem dX5_wrong_55 : decode cX5_wrong 55 = .ok (.iload_n 2, 1) := by decide +kernel
theorem dX5_wrong_56 : decode cX5_wrong 56 = .ok (.iload_n 3, 1) := by decide +kernel
theorem dX5_wrong_57 : decode cX5_wrong 57 = .ok (.iload 6, 2) := by decide +kernel
theorem dX5_wrong_59 : decode cX5_wrong 59 = .ok (.invokestatic 49, 3) := by decide +kernel
theorem dX5_wrong_62 : decode cX5_wrong 62 = .ok (.istore 7, 2) := by decide +kernel
theorem dX5_wrong_64 : decode cX5_wrong 64 = .ok (.iload 7, 2) := by decide +kernel
theorem dX5_wrong_66 : decode cX5_wrong 66 = .ok (.aload_n 0, 1) := by decide +kernel
theorem dX5_wrong_67 : decode cX5_wrong 67 = .ok (.getfield 7, 3) := by decide +kernel
theorem dX5_wrong_70 : decode cX5_wrong 70 = .ok (.iload_n 1, 1) := by decide +kernel
theorem dX5_wrong_71 : decode cX5_wrong 71 = .ok (.iconst 2, 1) := by decide +kernel
theorem dX5_wrong_72 : decode cX5_wrong 72 = .ok (.iadd, 1) := by decide +kernel
theorem dX5_wrong_73 : decode cX5_wrong 73 = .ok (.iaload, 1) := by decide +kernel
theorem dX5_wrong_74 : decode cX5_wrong 74 = .ok (.if_icmp .ne 7, 3) := by decide +kernel
theorem dX5_wrong_77 : decode cX5_wrong 77 = .ok (.iconst 2, 1) := by decide +kernel
theorem dX5_wrong_78 : decode cX5_wrong 78 = .ok (.goto 42, 3) := by decide +kernel
theorem dX5_wrong_81 : decode cX5_wrong 81 = .ok (.aload_n 0, 1) := by decide +kernel
theorem dX5_wrong_82 : decode cX5_wrong 82 = .ok (.getfield 7, 3) := by decide +kernel
theorem dX5_wrong_85 : decode cX5_wrong 85 = .ok (.iload_n 1, 1) := by decide +kernel
theorem dX5_wrong_86 : decode cX5_wrong 86 = .ok (.iconst 3, 1) := by decide +kernel
theorem dX5_wrong_87 : decode cX5_wrong 87 = .ok (.iadd, 1) := by decide +kernel
theorem dX5_wrong_88 : decode cX5_wrong 88 = .ok (.iload 7, 2) := by decide +kernel
theorem dX5_wrong_90 : decode cX5_wrong 90 = .ok (.iadd, 1) := by decide +kernel
theorem dX5_wrong_91 : decode cX5_wrong 91 = .ok (.iaload, 1) := by decide +kernel
theorem dX5_wrong_92 : decode cX5_wrong 92 = .ok (.iconst 1, 1) := by decide +kernel
theorem dX5_wrong_93 : decode cX5_wrong 93 = .ok (.if_icmp .ne 7, 3) := by decide +kernel
theorem dX5_wrong_96 : decode cX5_wrong 96 = .ok (.iconst 3, 1) := by decide +kernel
theorem dX5_wrong_97 : decode cX5_wrong 97 = .ok (.goto 23, 3) := by decide +kernel
theorem dX5_wrong_100 : decode cX5_wrong 100 = .ok (.aload_n 0, 1) := by decide +kernel
theorem dX5_wrong_101 : decode cX5_wrong 101 = .ok (.getfield 7, 3) := by decide +kernel
theorem dX5_wrong_104 : decode cX5_wrong 104 = .ok (.iload_n 1, 1) := by decide +kernel
theorem dX5_wrong_105 : decode cX5_wrong 105 = .ok (.bipush 67, 2) := by decide +kernel
theorem dX5_wrong_107 : decode cX5_wrong 107 = .ok (.iadd, 1) := by decide +kernel
theorem dX5_wrong_108 : decode cX5_wrong 108 = .ok (.iload 7, 2) := by decide +kernel
theorem dX5_wrong_110 : decode cX5_wrong 110 = .ok (.iadd, 1) := by decide +kernel
theorem dX5_wrong_111 : decode cX5_wrong 111 = .ok (.iaload, 1) := by decide +kernel
theorem dX5_wrong_112 : decode cX5_wrong 112 = .ok (.ifCond .lt 7, 3) := by decide +kernel
theorem dX5_wrong_115 : decode cX5_wrong 115 = .ok (.iconst 4, 1) := by decide +kernel
theorem dX5_wrong_116 : decode cX5_wrong 116 = .ok (.goto 4, 3) := by decide +kernel
theorem dX5_wrong_119 : decode cX5_wrong 119 = .ok (.iconst 0, 1) := by decide +kernel
theorem dX5_wrong_120 : decode cX5_wrong 120 = .ok (.istore 8, 2) := by decide +kernel
theorem dX5_wrong_122 : decode cX5_wrong 122 = .ok (.iload 8, 2) := by decide +kernel
theorem dX5_wrong_124 : decode cX5_wrong 124 = .ok (.ifCond .le 20, 3) := by decide +kernel
theorem dX5_wrong_127 : decode cX5_wrong 127 = .ok (.iload 5, 2) := by decide +kernel
theorem dX5_wrong_129 : decode cX5_wrong 129 = .ok (.ifCond .eq 10, 3) := by decide +kernel
theorem dX5_wrong_132 : decode cX5_wrong 132 = .ok (.iload 8, 2) := by decide +kernel
theorem dX5_wrong_134 : decode cX5_wrong 134 = .ok (.iload 5, 2) := by decide +kernel
theorem dX5_wrong_136 : decode cX5_wrong 136 = .ok (.if_icmp .ge 8, 3) := by decide +kernel
theorem dX5_wrong_139 : decode cX5_wrong 139 = .ok (.iload 8, 2) := by decide +kernel
theorem dX5_wrong_141 : decode cX5_wrong 141 = .ok (.goto 5, 3) := by decide +kernel
theorem dX5_wrong_144 : decode cX5_wrong 144 = .ok (.iload 5, 2) := by decide +kernel
theorem dX5_wrong_146 : decode cX5_wrong 146 = .ok (.istore 5, 2) := by decide +kernel
theorem dX5_wrong_148 : decode cX5_wrong 148 = .ok (.iinc 6 1, 3) := by decide +kernel
theorem dX5_wrong_151 : decode cX5_wrong 151 = .ok (.goto (-109), 3) := by decide +kernel
theorem dX5_wrong_154 : decode cX5_wrong 154 = .ok (.iload 5, 2) := by decide +kernel
theorem dX5_wrong_156 : decode cX5_wrong 156 = .ok (.ireturn, 1) := by decide +kernel
theorem dX5_lays_0 : decode cX5_lays 0 = .ok (.aload_n 0, 1) := by decide +kernel
theorem dX5_lays_1 : decode cX5_lays 1 = .ok (.getfield 7, 3) := by decide +kernel
theorem dX5_lays_4 : decode cX5_lays 4 = .ok (.iload_n 1, 1) := by decide +kernel
theorem dX5_lays_5 : decode cX5_lays 5 = .ok (.sipush 131, 3) := by decide +kernel
theorem dX5_lays_8 : decode cX5_lays 8 = .ok (.iadd, 1) := by decide +kernel
theorem dX5_lays_9 : decode cX5_lays 9 = .ok (.iaload, 1) := by decide +kernel
theorem dX5_lays_10 : decode cX5_lays 10 = .ok (.istore 5, 2) := by decide +kernel
theorem dX5_lays_12 : decode cX5_lays 12 = .ok (.aload_n 0, 1) := by decide +kernel
theorem dX5_lays_13 : decode cX5_lays 13 = .ok (.getfield 7, 3) := by decide +kernel
theorem dX5_lays_16 : decode cX5_lays 16 = .ok (.iload_n 1, 1) := by decide +kernel
theorem dX5_lays_17 : decode cX5_lays 17 = .ok (.sipush 132, 3) := by decide +kernel
theorem dX5_lays_20 : decode cX5_lays 20 = .ok (.iadd, 1) := by decide +kernel
theorem dX5_lays_21 : decode cX5_lays 21 = .ok (.iconst 3, 1) := by decide +kernel
theorem dX5_lays_22 : decode cX5_lays 22 = .ok (.iload 5, 2) := by decide +kernel
theorem dX5_lays_24 : decode cX5_lays 24 = .ok (.imul, 1) := by decide +kernel
theorem dX5_lays_25 : decode cX5_lays 25 = .ok (.iadd, 1) := by decide +kernel
theorem dX5_lays_26 : decode cX5_lays 26 = .ok (.iload_n 2, 1) := by decide +kernel
theorem dX5_lays_27 : decode cX5_lays 27 = .ok (.iastore, 1) := by decide +kernel
theorem dX5_lays_28 : decode cX5_lays 28 = .ok (.aload_n 0, 1) := by decide +kernel
theorem dX5_lays_29 : decode cX5_lays 29 = .ok (.getfield 7, 3) := by decide +kernel
theorem dX5_lays_32 : decode cX5_lays 32 = .ok (.iload_n 1, 1) := by decide +kernel
theorem dX5_lays_33 : decode cX5_lays 33 = .ok (.sipush 132, 3) := by decide +kernel
theorem dX5_lays_36 : decode cX5_lays 36 = .ok (.iadd, 1) := by decide +kernel
theorem dX5_lays_37 : decode cX5_lays 37 = .ok (.iconst 3, 1) := by decide +kernel
theorem dX5_lays_38 : decode cX5_lays 38 = .ok (.iload 5, 2) := by decide +kernel
theorem dX5_lays_40 : decode cX5_lays 40 = .ok (.imul, 1) := by decide +kernel
theorem dX5_lays_41 : decode cX5_lays 41 = .ok (.iadd, 1) := by decide +kernel
theorem dX5_lays_42 : decode cX5_lays 42 = .ok (.iconst 1, 1) := by decide +kernel
theorem dX5_lays_43 : decode cX5_lays 43 = .ok (.iadd, 1) := by decide +kernel
theorem dX5_lays_44 : decode cX5_lays 44 = .ok (.iload_n 3, 1) := by decide +kernel
theorem dX5_lays_45 : decode cX5_lays 45 = .ok (.iastore, 1) := by decide +kernel
theorem dX5_lays_46 : decode cX5_lays 46 = .ok (.aload_n 0, 1) := by decide +kernel
theorem dX5_lays_47 : decode cX5_lays 47 = .ok (.getfield 7, 3) := by decide +kernel
theorem dX5_lays_50 : decode cX5_lays 50 = .ok (.iload_n 1, 1) := by decide +kernel
theorem dX5_lays_51 : decode cX5_lays 51 = .ok (.sipush 132, 3) := by decide +kernel
theorem dX5_lays_54 : decode cX5_lays 54 = .ok (.iadd, 1) := by decide +kernel
theorem dX5_lays_55 : decode cX5_lays 55 = .ok (.iconst 3, 1) := by decide +kernel
theorem dX5_lays_56 : decode cX5_lays 56 = .ok (.iload 5, 2) := by decide +kernel
theorem dX5_lays_58 : decode cX5_lays 58 = .ok (.imul, 1) := by decide +kernel
theorem dX5_lays_59 : decode cX5_lays 59 = .ok (.iadd, 1) := by decide +kernel
theorem dX5_lays_60 : decode cX5_lays 60 = .ok (.iconst 2, 1) := by decide +kernel
theorem dX5_lays_61 : decode cX5_lays 61 = .ok (.iadd, 1) := by decide +kernel
theorem dX5_lays_62 : decode cX5_lays 62 = .ok (.iload 4, 2) := by decide +kernel
theorem dX5_lays_64 : decode cX5_lays 64 = .ok (.iastore, 1) := by decide +kernel
theorem dX5_lays_65 : decode cX5_lays 65 = .ok (.iconst 0, 1) := by decide +kernel
theorem dX5_lays_66 : decode cX5_lays 66 = .ok (.istore 6, 2) := by decide +kernel
theorem dX5_lays_68 : decode cX5_lays 68 = .ok (.iload 6, 2) := by decide +kernel
theorem dX5_lays_70 : decode cX5_lays 70 = .ok (.iconst 4, 1) := by decide +kernel
theorem dX5_lays_71 : decode cX5_lays 71 = .ok (.if_icmp .ge 35, 3) := by decide +kernel
theorem dX5_lays_74 : decode cX5_lays 74 = .ok (.iload 6, 2) := by decide +kernel
theorem dX5_lays_76 : decode cX5_lays 76 = .ok (.iload 4, 2) := by decide +kernel
theorem dX5_lays_78 : decode cX5_lays 78 = .ok (.if_icmp .eq 22, 3) := by decide +kernel
theorem dX5_lays_81 : decode cX5_lays 81 = .ok (.aload_n 0, 1) := by decide +kernel
theorem dX5_lays_82 : decode cX5_lays 82 = .ok (.getfield 7, 3) := by decide +kernel
theorem dX5_lays_85 : decode cX5_lays 85 = .ok (.iload_n 1, 1) := by decide +kernel
theorem dX5_lays_86 : decode cX5_lays 86 = .ok (.bipush 67, 2) := by decide +kernel
theorem dX5_lays_88 : decode cX5_lays 88 = .ok (.iadd, 1) := by decide +kernel
theorem dX5_lays_89 : decode cX5_lays 89 = .ok (.iload_n 2, 1) := by decide +kernel
theorem dX5_lays_90 : decode cX5_lays 90 = .ok (.iload_n 3, 1) := by decide +kernel
theorem dX5_lays_91 : decode cX5_lays 91 = .ok (.iload 6, 2) := by decide +kernel
theorem dX5_lays_93 : decode cX5_lays 93 = .ok (.invokestatic 49, 3) := by decide +kernel
theorem dX5_lays_96 : decode cX5_lays 96 = .ok (.iadd, 1) := by decide +kernel
theorem dX5_lays_97 : decode cX5_lays 97 = .ok (.iload 5, 2) := by decide +kernel
theorem dX5_lays_99 : decode cX5_lays 99 = .ok (.iastore, 1) := by decide +kernel
theorem dX5_lays_100 : decode cX5_lays 100 = .ok (.iinc 6 1, 3) := by decide +kernel
theorem dX5_lays_103 : decode cX5_lays 103 = .ok (.goto (-35), 3) := by decide +kernel
theorem dX5_lays_106 : decode cX5_lays 106 = .ok (.aload_n 0, 1) := by decide +kernel
theorem dX5_lays_107 : decode cX5_lays 107 = .ok (.getfield 7, 3) := by decide +kernel
theorem dX5_lays_110 : decode cX5_lays 110 = .ok (.iload_n 1, 1) := by decide +kernel
theorem dX5_lays_111 : decode cX5_lays 111 = .ok (.sipush 131, 3) := by decide +kernel
theorem dX5_lays_114 : decode cX5_lays 114 = .ok (.iadd, 1) := by decide +kernel
theorem dX5_lays_115 : decode cX5_lays 115 = .ok (.dup2, 1) := by decide +kernel
theorem dX5_lays_116 : decode cX5_lays 116 = .ok (.iaload, 1) := by decide +kernel
theorem dX5_lays_117 : decode cX5_lays 117 = .ok (.iconst 1, 1) := by decide +kernel
theorem dX5_lays_118 : decode cX5_lays 118 = .ok (.iadd, 1) := by decide +kernel
theorem dX5_lays_119 : decode cX5_lays 119 = .ok (.iastore, 1) := by decide +kernel
theorem dX5_lays_120 : decode cX5_lays 120 = .ok (.return_, 1) := by decide +kernel
theorem dX5_lifts_0 : decode cX5_lifts 0 = .ok (.iconst 0, 1) := by decide +kernel
theorem dX5_lifts_1 : decode cX5_lifts 1 = .ok (.istore_n 3, 1) := by decide +kernel
theorem dX5_lifts_2 : decode cX5_lifts 2 = .ok (.iload_n 3, 1) := by decide +kernel
theorem dX5_lifts_3 : decode cX5_lifts 3 = .ok (.bipush 64, 2) := by decide +kernel
theorem dX5_lifts_5 : decode cX5_lifts 5 = .ok (.if_icmp .ge 58, 3) := by decide +kernel
theorem dX5_lifts_8 : decode cX5_lifts 8 = .ok (.aload_n 0, 1) := by decide +kernel
theorem dX5_lifts_9 : decode cX5_lifts 9 = .ok (.getfield 7, 3) := by decide +kernel
theorem dX5_lifts_12 : decode cX5_lifts 12 = .ok (.iload_n 1, 1) := by decide +kernel
theorem dX5_lifts_13 : decode cX5_lifts 13 = .ok (.bipush 67, 2) := by decide +kernel
theorem dX5_lifts_15 : decode cX5_lifts 15 = .ok (.iadd, 1) := by decide +kernel
theorem dX5_lifts_16 : decode cX5_lifts 16 = .ok (.iload_n 3, 1) := by decide +kernel
theorem dX5_lifts_17 : decode cX5_lifts 17 = .ok (.iadd, 1) := by decide +kernel
theorem dX5_lifts_18 : decode cX5_lifts 18 = .ok (.iaload, 1) := by decide +kernel
theorem dX5_lifts_19 : decode cX5_lifts 19 = .ok (.istore 4, 2) := by decide +kernel
theorem dX5_lifts_21 : decode cX5_lifts 21 = .ok (.aload_n 0, 1) := by decide +kernel
theorem dX5_lifts_22 : decode cX5_lifts 22 = .ok (.getfield 7, 3) := by decide +kernel
theorem dX5_lifts_25 : decode cX5_lifts 25 = .ok (.iload_n 1, 1) := by decide +kernel
theorem dX5_lifts_26 : decode cX5_lifts 26 = .ok (.bipush 67, 2) := by decide +kernel
theorem dX5_lifts_28 : decode cX5_lifts 28 = .ok (.iadd, 1) := by decide +kernel
theorem dX5_lifts_29 : decode cX5_lifts 29 = .ok (.iload_n 3, 1) := by decide +kernel
theorem dX5_lifts_30 : decode cX5_lifts 30 = .ok (.iadd, 1) := by decide +kernel
theorem dX5_lifts_31 : decode cX5_lifts 31 = .ok (.iload 4, 2) := by decide +kernel
theorem dX5_lifts_33 : decode cX5_lifts 33 = .ok (.iload_n 2, 1) := by decide +kernel
theorem dX5_lifts_34 : decode cX5_lifts 34 = .ok (.if_icmp .ne 7, 3) := by decide +kernel
theorem dX5_lifts_37 : decode cX5_lifts 37 = .ok (.iconst (-1), 1) := by decide +kernel
theorem dX5_lifts_38 : decode cX5_lifts 38 = .ok (.goto 18, 3) := by decide +kernel
theorem dX5_lifts_41 : decode cX5_lifts 41 = .ok (.iload 4, 2) := by decide +kernel
theorem dX5_lifts_43 : decode cX5_lifts 43 = .ok (.iload_n 2, 1) := by decide +kernel
theorem dX5_lifts_44 : decode cX5_lifts 44 = .ok (.if_icmp .le 10, 3) := by decide +kernel
theorem dX5_lifts_47 : decode cX5_lifts 47 = .ok (.iload 4, 2) := by decide +kernel
theorem dX5_lifts_49 : decode cX5_lifts 49 = .ok (.iconst 1, 1) := by decide +kernel
theorem dX5_lifts_50 : decode cX5_lifts 50 = .ok (.isub, 1) := by decide +kernel
theorem dX5_lifts_51 : decode cX5_lifts 51 = .ok (.goto 5, 3) := by decide +kernel
theorem dX5_lifts_54 : decode cX5_lifts 54 = .ok (.iload 4, 2) := by decide +kernel
theorem dX5_lifts_56 : decode cX5_lifts 56 = .ok (.iastore, 1) := by decide +kernel
theorem dX5_lifts_57 : decode cX5_lifts 57 = .ok (.iinc 3 1, 3) := by decide +kernel
theorem dX5_lifts_60 : decode cX5_lifts 60 = .ok (.goto (-58), 3) := by decide +kernel
theorem dX5_lifts_63 : decode cX5_lifts 63 = .ok (.iconst 3, 1) := by decide +kernel
theorem dX5_lifts_64 : decode cX5_lifts 64 = .ok (.iload_n 2, 1) := by decide +kernel
theorem dX5_lifts_65 : decode cX5_lifts 65 = .ok (.imul, 1) := by decide +kernel
theorem dX5_lifts_66 : decode cX5_lifts 66 = .ok (.istore_n 3, 1) := by decide +kernel
theorem dX5_lifts_67 : decode cX5_lifts 67 = .ok (.iload_n 3, 1) := by decide +kernel
theorem dX5_lifts_68 : decode cX5_lifts 68 = .ok (.iconst 3, 1) := by decide +kernel
theorem dX5_lifts_69 : decode cX5_lifts 69 = .ok (.iadd, 1) := by decide +kernel
theorem dX5_lifts_70 : decode cX5_lifts 70 = .ok (.iconst 3, 1) := by decide +kernel
theorem dX5_lifts_71 : decode cX5_lifts 71 = .ok (.aload_n 0, 1) := by decide +kernel
theorem dX5_lifts_72 : decode cX5_lifts 72 = .ok (.getfield 7, 3) := by decide +kernel
theorem dX5_lifts_75 : decode cX5_lifts 75 = .ok (.iload_n 1, 1) := by decide +kernel
theorem dX5_lifts_76 : decode cX5_lifts 76 = .ok (.sipush 131, 3) := by decide +kernel
theorem dX5_lifts_79 : decode cX5_lifts 79 = .ok (.iadd, 1) := by decide +kernel
theorem dX5_lifts_80 : decode cX5_lifts 80 = .ok (.iaload, 1) := by decide +kernel
theorem dX5_lifts_81 : decode cX5_lifts 81 = .ok (.imul, 1) := by decide +kernel
theorem dX5_lifts_82 : decode cX5_lifts 82 = .ok (.if_icmp .ge 35, 3) := by decide +kernel
theorem dX5_lifts_85 : decode cX5_lifts 85 = .ok (.aload_n 0, 1) := by decide +kernel
theorem dX5_lifts_86 : decode cX5_lifts 86 = .ok (.getfield 7, 3) := by decide +kernel
theorem dX5_lifts_89 : decode cX5_lifts 89 = .ok (.iload_n 1, 1) := by decide +kernel
theorem dX5_lifts_90 : decode cX5_lifts 90 = .ok (.sipush 132, 3) := by decide +kernel
theorem dX5_lifts_93 : decode cX5_lifts 93 = .ok (.iadd, 1) := by decide +kernel
theorem dX5_lifts_94 : decode cX5_lifts 94 = .ok (.iload_n 3, 1) := by decide +kernel
theorem dX5_lifts_95 : decode cX5_lifts 95 = .ok (.iadd, 1) := by decide +kernel
theorem dX5_lifts_96 : decode cX5_lifts 96 = .ok (.aload_n 0, 1) := by decide +kernel
theorem dX5_lifts_97 : decode cX5_lifts 97 = .ok (.getfield 7, 3) := by decide +kernel
theorem dX5_lifts_100 : decode cX5_lifts 100 = .ok (.iload_n 1, 1) := by decide +kernel
theorem dX5_lifts_101 : decode cX5_lifts 101 = .ok (.sipush 132, 3) := by decide +kernel
theorem dX5_lifts_104 : decode cX5_lifts 104 = .ok (.iadd, 1) := by decide +kernel
theorem dX5_lifts_105 : decode cX5_lifts 105 = .ok (.iload_n 3, 1) := by decide +kernel
theorem dX5_lifts_106 : decode cX5_lifts 106 = .ok (.iadd, 1) := by decide +kernel
theorem dX5_lifts_107 : decode cX5_lifts 107 = .ok (.iconst 3, 1) := by decide +kernel
theorem dX5_lifts_108 : decode cX5_lifts 108 = .ok (.iadd, 1) := by decide +kernel
theorem dX5_lifts_109 : decode cX5_lifts 109 = .ok (.iaload, 1) := by decide +kernel
theorem dX5_lifts_110 : decode cX5_lifts 110 = .ok (.iastore, 1) := by decide +kernel
theorem dX5_lifts_111 : decode cX5_lifts 111 = .ok (.iinc 3 1, 3) := by decide +kernel
theorem dX5_lifts_114 : decode cX5_lifts 114 = .ok (.goto (-47), 3) := by decide +kernel
theorem dX5_lifts_117 : decode cX5_lifts 117 = .ok (.aload_n 0, 1) := by decide +kernel
theorem dX5_lifts_118 : decode cX5_lifts 118 = .ok (.getfield 7, 3) := by decide +kernel
theorem dX5_lifts_121 : decode cX5_lifts 121 = .ok (.iload_n 1, 1) := by decide +kernel
theorem dX5_lifts_122 : decode cX5_lifts 122 = .ok (.sipush 131, 3) := by decide +kernel
theorem dX5_lifts_125 : decode cX5_lifts 125 = .ok (.iadd, 1) := by decide +kernel
theorem dX5_lifts_126 : decode cX5_lifts 126 = .ok (.dup2, 1) := by decide +kernel
theorem dX5_lifts_127 : decode cX5_lifts 127 = .ok (.iaload, 1) := by decide +kernel
theorem dX5_lifts_128 : decode cX5_lifts 128 = .ok (.iconst 1, 1) := by decide +kernel
theorem dX5_lifts_129 : decode cX5_lifts 129 = .ok (.isub, 1) := by decide +kernel
theorem dX5_lifts_130 : decode cX5_lifts 130 = .ok (.iastore, 1) := by decide +kernel
theorem dX5_lifts_131 : decode cX5_lifts 131 = .ok (.return_, 1) := by decide +kernel
theorem dX5_clears_0 : decode cX5_clears 0 = .ok (.iconst 0, 1) := by decide +kernel
theorem dX5_clears_1 : decode cX5_clears 1 = .ok (.istore_n 1, 1) := by decide +kernel
theorem dX5_clears_2 : decode cX5_clears 2 = .ok (.iload_n 1, 1) := by decide +kernel
theorem dX5_clears_3 : decode cX5_clears 3 = .ok (.sipush 1024, 3) := by decide +kernel
theorem dX5_clears_6 : decode cX5_clears 6 = .ok (.if_icmp .ge 16, 3) := by decide +kernel
theorem dX5_clears_9 : decode cX5_clears 9 = .ok (.aload_n 0, 1) := by decide +kernel
theorem dX5_clears_10 : decode cX5_clears 10 = .ok (.getfield 24, 3) := by decide +kernel
theorem dX5_clears_13 : decode cX5_clears 13 = .ok (.iload_n 1, 1) := by decide +kernel
theorem dX5_clears_14 : decode cX5_clears 14 = .ok (.iconst 0, 1) := by decide +kernel
theorem dX5_clears_15 : decode cX5_clears 15 = .ok (.iastore, 1) := by decide +kernel
theorem dX5_clears_16 : decode cX5_clears 16 = .ok (.iinc 1 1, 3) := by decide +kernel
theorem dX5_clears_19 : decode cX5_clears 19 = .ok (.goto (-17), 3) := by decide +kernel
theorem dX5_clears_22 : decode cX5_clears 22 = .ok (.return_, 1) := by decide +kernel
theorem dX5_takes_0 : decode cX5_takes 0 = .ok (.iconst 0, 1) := by decide +kernel
theorem dX5_takes_1 : decode cX5_takes 1 = .ok (.istore_n 1, 1) := by decide +kernel
theorem dX5_takes_2 : decode cX5_takes 2 = .ok (.iload_n 1, 1) := by decide +kernel
theorem dX5_takes_3 : decode cX5_takes 3 = .ok (.sipush 1024, 3) := by decide +kernel
theorem dX5_takes_6 : decode cX5_takes 6 = .ok (.if_icmp .ge 21, 3) := by decide +kernel
theorem dX5_takes_9 : decode cX5_takes 9 = .ok (.aload_n 0, 1) := by decide +kernel
theorem dX5_takes_10 : decode cX5_takes 10 = .ok (.getfield 21, 3) := by decide +kernel
theorem dX5_takes_13 : decode cX5_takes 13 = .ok (.iload_n 1, 1) := by decide +kernel
theorem dX5_takes_14 : decode cX5_takes 14 = .ok (.aload_n 0, 1) := by decide +kernel
theorem dX5_takes_15 : decode cX5_takes 15 = .ok (.getfield 24, 3) := by decide +kernel
theorem dX5_takes_18 : decode cX5_takes 18 = .ok (.iload_n 1, 1) := by decide +kernel
theorem dX5_takes_19 : decode cX5_takes 19 = .ok (.iaload, 1) := by decide +kernel
theorem dX5_takes_20 : decode cX5_takes 20 = .ok (.iastore, 1) := by decide +kernel
theorem dX5_takes_21 : decode cX5_takes 21 = .ok (.iinc 1 1, 3) := by decide +kernel
theorem dX5_takes_24 : decode cX5_takes 24 = .ok (.goto (-22), 3) := by decide +kernel
theorem dX5_takes_27 : decode cX5_takes 27 = .ok (.return_, 1) := by decide +kernel
theorem dX5_covers_0 : decode cX5_covers 0 = .ok (.iload 4, 2) := by decide +kernel
theorem dX5_covers_2 : decode cX5_covers 2 = .ok (.ifCond .ne 9, 3) := by decide +kernel
theorem dX5_covers_5 : decode cX5_covers 5 = .ok (.iload_n 2, 1) := by decide +kernel
theorem dX5_covers_6 : decode cX5_covers 6 = .ok (.iconst 1, 1) := by decide +kernel
theorem dX5_covers_7 : decode cX5_covers 7 = .ok (.isub, 1) := by decide +kernel
theorem dX5_covers_8 : decode cX5_covers 8 = .ok (.goto 4, 3) := by decide +kernel
theorem dX5_covers_11 : decode cX5_covers 11 = .ok (.iload_n 2, 1) := by decide +kernel
theorem dX5_covers_12 : decode cX5_covers 12 = .ok (.istore 5, 2) := by decide +kernel
theorem dX5_covers_14 : decode cX5_covers 14 = .ok (.aload_n 0, 1) := by decide +kernel
theorem dX5_covers_15 : decode cX5_covers 15 = .ok (.iload_n 1, 1) := by decide +kernel
theorem dX5_covers_16 : decode cX5_covers 16 = .ok (.iload 5, 2) := by decide +kernel
theorem dX5_covers_18 : decode cX5_covers 18 = .ok (.iload_n 3, 1) := by decide +kernel
theorem dX5_covers_19 : decode cX5_covers 19 = .ok (.iload 4, 2) := by decide +kernel
theorem dX5_covers_21 : decode cX5_covers 21 = .ok (.invokevirtual 53, 3) := by decide +kernel
theorem dX5_covers_24 : decode cX5_covers 24 = .ok (.ifCond .le 5, 3) := by decide +kernel
theorem dX5_covers_27 : decode cX5_covers 27 = .ok (.iconst 0, 1) := by decide +kernel
theorem dX5_covers_28 : decode cX5_covers 28 = .ok (.ireturn, 1) := by decide +kernel
theorem dX5_covers_29 : decode cX5_covers 29 = .ok (.aload_n 0, 1) := by decide +kernel
theorem dX5_covers_30 : decode cX5_covers 30 = .ok (.getfield 7, 3) := by decide +kernel
theorem dX5_covers_33 : decode cX5_covers 33 = .ok (.iload_n 1, 1) := by decide +kernel
theorem dX5_covers_34 : decode cX5_covers 34 = .ok (.iaload, 1) := by decide +kernel
theorem dX5_covers_35 : decode cX5_covers 35 = .ok (.istore 6, 2) := by decide +kernel
theorem dX5_covers_37 : decode cX5_covers 37 = .ok (.iload 4, 2) := by decide +kernel
theorem dX5_covers_39 : decode cX5_covers 39 = .ok (.ifCond .ne 19, 3) := by decide +kernel
theorem dX5_covers_42 : decode cX5_covers 42 = .ok (.iconst 1, 1) := by decide +kernel
theorem dX5_covers_43 : decode cX5_covers 43 = .ok (.iconst 1, 1) := by decide +kernel
theorem dX5_covers_44 : decode cX5_covers 44 = .ok (.iload 6, 2) := by decide +kernel
theorem dX5_covers_46 : decode cX5_covers 46 = .ok (.iconst 1, 1) := by decide +kernel
theorem dX5_covers_47 : decode cX5_covers 47 = .ok (.isub, 1) := by decide +kernel
theorem dX5_covers_48 : decode cX5_covers 48 = .ok (.ishl, 1) := by decide +kernel
theorem dX5_covers_49 : decode cX5_covers 49 = .ok (.ior, 1) := by decide +kernel
theorem dX5_covers_50 : decode cX5_covers 50 = .ok (.iconst 1, 1) := by decide +kernel
theorem dX5_covers_51 : decode cX5_covers 51 = .ok (.iload 6, 2) := by decide +kernel
theorem dX5_covers_53 : decode cX5_covers 53 = .ok (.ishl, 1) := by decide +kernel
theorem dX5_covers_54 : decode cX5_covers 54 = .ok (.ior, 1) := by decide +kernel
theorem dX5_covers_55 : decode cX5_covers 55 = .ok (.goto 48, 3) := by decide +kernel
theorem dX5_covers_58 : decode cX5_covers 58 = .ok (.iload 4, 2) := by decide +kernel
theorem dX5_covers_60 : decode cX5_covers 60 = .ok (.iconst 1, 1) := by decide +kernel
theorem dX5_covers_61 : decode cX5_covers 61 = .ok (.if_icmp .ne 19, 3) := by decide +kernel
theorem dX5_covers_64 : decode cX5_covers 64 = .ok (.iconst 1, 1) := by decide +kernel
theorem dX5_covers_65 : decode cX5_covers 65 = .ok (.iconst 1, 1) := by decide +kernel
theorem dX5_covers_66 : decode cX5_covers 66 = .ok (.iload 6, 2) := by decide +kernel
theorem dX5_covers_68 : decode cX5_covers 68 = .ok (.ishl, 1) := by decide +kernel
theorem dX5_covers_69 : decode cX5_covers 69 = .ok (.ior, 1) := by decide +kernel
theorem dX5_covers_70 : decode cX5_covers 70 = .ok (.iconst 1, 1) := by decide +kernel
theorem dX5_covers_71 : decode cX5_covers 71 = .ok (.iload 6, 2) := by decide +kernel
theorem dX5_covers_73 : decode cX5_covers 73 = .ok (.iconst 1, 1) := by decide +kernel
theorem dX5_covers_74 : decode cX5_covers 74 = .ok (.iadd, 1) := by decide +kernel
theorem dX5_covers_75 : decode cX5_covers 75 = .ok (.ishl, 1) := by decide +kernel
theorem dX5_covers_76 : decode cX5_covers 76 = .ok (.ior, 1) := by decide +kernel
theorem dX5_covers_77 : decode cX5_covers 77 = .ok (.goto 26, 3) := by decide +kernel
theorem dX5_covers_80 : decode cX5_covers 80 = .ok (.iload 4, 2) := by decide +kernel
theorem dX5_covers_82 : decode cX5_covers 82 = .ok (.iconst 2, 1) := by decide +kernel
theorem dX5_covers_83 : decode cX5_covers 83 = .ok (.if_icmp .ne 12, 3) := by decide +kernel
theorem dX5_covers_86 : decode cX5_covers 86 = .ok (.iconst 3, 1) := by decide +kernel
theorem dX5_covers_87 : decode cX5_covers 87 = .ok (.iconst 1, 1) := by decide +kernel
theorem dX5_covers_88 : decode cX5_covers 88 = .ok (.iload 6, 2) := by decide +kernel
theorem dX5_covers_90 : decode cX5_covers 90 = .ok (.ishl, 1) := by decide +kernel
theorem dX5_covers_91 : decode cX5_covers 91 = .ok (.ior, 1) := by decide +kernel
theorem dX5_covers_92 : decode cX5_covers 92 = .ok (.goto 11, 3) := by decide +kernel
theorem dX5_covers_95 : decode cX5_covers 95 = .ok (.iconst 3, 1) := by decide +kernel
theorem dX5_covers_96 : decode cX5_covers 96 = .ok (.iconst 1, 1) := by decide +kernel
theorem dX5_covers_97 : decode cX5_covers 97 = .ok (.iload 6, 2) := by decide +kernel
theorem dX5_covers_99 : decode cX5_covers 99 = .ok (.iconst 1, 1) := by decide +kernel
theorem dX5_covers_100 : decode cX5_covers 100 = .ok (.iadd, 1) := by decide +kernel
theorem dX5_covers_101 : decode cX5_covers 101 = .ok (.ishl, 1) := by decide +kernel
theorem dX5_covers_102 : decode cX5_covers 102 = .ok (.ior, 1) := by decide +kernel
theorem dX5_covers_103 : decode cX5_covers 103 = .ok (.ireturn, 1) := by decide +kernel
theorem dX5_paves_0 : decode cX5_paves 0 = .ok (.aload_n 0, 1) := by decide +kernel
theorem dX5_paves_1 : decode cX5_paves 1 = .ok (.getfield 7, 3) := by decide +kernel
theorem dX5_paves_4 : decode cX5_paves 4 = .ok (.iload_n 1, 1) := by decide +kernel
theorem dX5_paves_5 : decode cX5_paves 5 = .ok (.iaload, 1) := by decide +kernel
theorem dX5_paves_6 : decode cX5_paves 6 = .ok (.istore_n 2, 1) := by decide +kernel
theorem dX5_paves_7 : decode cX5_paves 7 = .ok (.aload_n 0, 1) := by decide +kernel
theorem dX5_paves_8 : decode cX5_paves 8 = .ok (.invokevirtual 57, 3) := by decide +kernel
theorem dX5_paves_11 : decode cX5_paves 11 = .ok (.aload_n 0, 1) := by decide +kernel
theorem dX5_paves_12 : decode cX5_paves 12 = .ok (.getfield 24, 3) := by decide +kernel
theorem dX5_paves_15 : decode cX5_paves 15 = .ok (.iconst 0, 1) := by decide +kernel
theorem dX5_paves_16 : decode cX5_paves 16 = .ok (.iconst 1, 1) := by decide +kernel
theorem dX5_paves_17 : decode cX5_paves 17 = .ok (.iastore, 1) := by decide +kernel
theorem dX5_paves_18 : decode cX5_paves 18 = .ok (.aload_n 0, 1) := by decide +kernel
theorem dX5_paves_19 : decode cX5_paves 19 = .ok (.invokevirtual 60, 3) := by decide +kernel
theorem dX5_paves_22 : decode cX5_paves 22 = .ok (.iconst 0, 1) := by decide +kernel
theorem dX5_paves_23 : decode cX5_paves 23 = .ok (.istore_n 3, 1) := by decide +kernel
theorem dX5_paves_24 : decode cX5_paves 24 = .ok (.iload_n 3, 1) := by decide +kernel
theorem dX5_paves_25 : decode cX5_paves 25 = .ok (.iload_n 2, 1) := by decide +kernel
theorem dX5_paves_26 : decode cX5_paves 26 = .ok (.aload_n 0, 1) := by decide +kernel
theorem dX5_paves_27 : decode cX5_paves 27 = .ok (.getfield 7, 3) := by decide +kernel
theorem dX5_paves_30 : decode cX5_paves 30 = .ok (.iload_n 1, 1) := by decide +kernel
theorem dX5_paves_31 : decode cX5_paves 31 = .ok (.iconst 1, 1) := by decide +kernel
theorem dX5_paves_32 : decode cX5_paves 32 = .ok (.iadd, 1) := by decide +kernel
theorem dX5_paves_33 : decode cX5_paves 33 = .ok (.iaload, 1) := by decide +kernel
theorem dX5_paves_34 : decode cX5_paves 34 = .ok (.imul, 1) := by decide +kernel
theorem dX5_paves_35 : decode cX5_paves 35 = .ok (.if_icmp .ge 177, 3) := by decide +kernel
theorem dX5_paves_38 : decode cX5_paves 38 = .ok (.iload_n 3, 1) := by decide +kernel
theorem dX5_paves_39 : decode cX5_paves 39 = .ok (.iload_n 2, 1) := by decide +kernel
theorem dX5_paves_40 : decode cX5_paves 40 = .ok (.irem, 1) := by decide +kernel
theorem dX5_paves_41 : decode cX5_paves 41 = .ok (.istore 4, 2) := by decide +kernel
theorem dX5_paves_43 : decode cX5_paves 43 = .ok (.iload_n 3, 1) := by decide +kernel
theorem dX5_paves_44 : decode cX5_paves 44 = .ok (.iload_n 2, 1) := by decide +kernel
theorem dX5_paves_45 : decode cX5_paves 45 = .ok (.idiv, 1) := by decide +kernel
theorem dX5_paves_46 : decode cX5_paves 46 = .ok (.istore 5, 2) := by decide +kernel
theorem dX5_paves_48 : decode cX5_paves 48 = .ok (.aload_n 0, 1) := by decide +kernel
theorem dX5_paves_49 : decode cX5_paves 49 = .ok (.iload_n 1, 1) := by decide +kernel
theorem dX5_paves_50 : decode cX5_paves 50 = .ok (.bipush 8, 2) := by decide +kernel
theorem dX5_paves_52 : decode cX5_paves 52 = .ok (.iload 5, 2) := by decide +kernel
theorem dX5_paves_54 : decode cX5_paves 54 = .ok (.imul, 1) := by decide +kernel
theorem dX5_paves_55 : decode cX5_paves 55 = .ok (.iload 4, 2) := by decide +kernel
theorem dX5_paves_57 : decode cX5_paves 57 = .ok (.iadd, 1) := by decide +kernel
theorem dX5_paves_58 : decode cX5_paves 58 = .ok (.invokevirtual 63, 3) := by decide +kernel
theorem dX5_paves_61 : decode cX5_paves 61 = .ok (.istore 6, 2) := by decide +kernel
theorem dX5_paves_63 : decode cX5_paves 63 = .ok (.aload_n 0, 1) := by decide +kernel
theorem dX5_paves_64 : decode cX5_paves 64 = .ok (.invokevirtual 57, 3) := by decide +kernel
theorem dX5_paves_67 : decode cX5_paves 67 = .ok (.iconst 0, 1) := by decide +kernel
theorem dX5_paves_68 : decode cX5_paves 68 = .ok (.istore 7, 2) := by decide +kernel
theorem dX5_paves_70 : decode cX5_paves 70 = .ok (.iload 7, 2) := by decide +kernel
theorem dX5_paves_72 : decode cX5_paves 72 = .ok (.iconst 4, 1) := by decide +kernel
theorem dX5_paves_73 : decode cX5_paves 73 = .ok (.iload_n 2, 1) := by decide +kernel
theorem dX5_paves_74 : decode cX5_paves 74 = .ok (.ishl, 1) := by decide +kernel
theorem dX5_paves_75 : decode cX5_paves 75 = .ok (.if_icmp .ge 127, 3) := by decide +kernel
theorem dX5_paves_78 : decode cX5_paves 78 = .ok (.aload_n 0, 1) := by decide +kernel
theorem dX5_paves_79 : decode cX5_paves 79 = .ok (.getfield 21, 3) := by decide +kernel
theorem dX5_paves_82 : decode cX5_paves 82 = .ok (.iload 7, 2) := by decide +kernel
theorem dX5_paves_84 : decode cX5_paves 84 = .ok (.iaload, 1) := by decide +kernel
theorem dX5_paves_85 : decode cX5_paves 85 = .ok (.ifCond .le 38, 3) := by decide +kernel
theorem dX5_paves_88 : decode cX5_paves 88 = .ok (.iload 6, 2) := by decide +kernel
theorem dX5_paves_90 : decode cX5_paves 90 = .ok (.ifCond .eq 11, 3) := by decide +kernel
theorem dX5_paves_93 : decode cX5_paves 93 = .ok (.iload 7, 2) := by decide +kernel
theorem dX5_paves_95 : decode cX5_paves 95 = .ok (.iconst 1, 1) := by decide +kernel
theorem dX5_paves_96 : decode cX5_paves 96 = .ok (.iand, 1) := by decide +kernel
theorem dX5_paves_97 : decode cX5_paves 97 = .ok (.iconst 1, 1) := by decide +kernel
theorem dX5_paves_98 : decode cX5_paves 98 = .ok (.if_icmp .ne 25, 3) := by decide +kernel
theorem dX5_paves_101 : decode cX5_paves 101 = .ok (.aload_n 0, 1) := by decide +kernel
theorem dX5_paves_102 : decode cX5_paves 102 = .ok (.getfield 24, 3) := by decide +kernel
theorem dX5_paves_105 : decode cX5_paves 105 = .ok (.iload 7, 2) := by decide +kernel
theorem dX5_paves_107 : decode cX5_paves 107 = .ok (.iconst 1, 1) := by decide +kernel
theorem dX5_paves_108 : decode cX5_paves 108 = .ok (.ishr, 1) := by decide +kernel
theorem dX5_paves_109 : decode cX5_paves 109 = .ok (.dup2, 1) := by decide +kernel
theorem dX5_paves_110 : decode cX5_paves 110 = .ok (.iaload, 1) := by decide +kernel
theorem dX5_paves_111 : decode cX5_paves 111 = .ok (.aload_n 0, 1) := by decide +kernel
theorem dX5_paves_112 : decode cX5_paves 112 = .ok (.getfield 21, 3) := by decide +kernel
theorem dX5_paves_115 : decode cX5_paves 115 = .ok (.iload 7, 2) := by decide +kernel
theorem dX5_paves_117 : decode cX5_paves 117 = .ok (.iaload, 1) := by decide +kernel
theorem dX5_paves_118 : decode cX5_paves 118 = .ok (.iadd, 1) := by decide +kernel
theorem dX5_paves_119 : decode cX5_paves 119 = .ok (.iastore, 1) := by decide +kernel
theorem dX5_paves_120 : decode cX5_paves 120 = .ok (.goto 76, 3) := by decide +kernel
theorem dX5_paves_123 : decode cX5_paves 123 = .ok (.aload_n 0, 1) := by decide +kernel
theorem dX5_paves_124 : decode cX5_paves 124 = .ok (.getfield 21, 3) := by decide +kernel
theorem dX5_paves_127 : decode cX5_paves 127 = .ok (.iload 7, 2) := by decide +kernel
theorem dX5_paves_129 : decode cX5_paves 129 = .ok (.iaload, 1) := by decide +kernel
theorem dX5_paves_130 : decode cX5_paves 130 = .ok (.ifCond .le 66, 3) := by decide +kernel
theorem dX5_paves_133 : decode cX5_paves 133 = .ok (.iconst 0, 1) := by decide +kernel
theorem dX5_paves_134 : decode cX5_paves 134 = .ok (.istore 8, 2) := by decide +kernel
theorem dX5_paves_136 : decode cX5_paves 136 = .ok (.iload 8, 2) := by decide +kernel
theorem dX5_paves_138 : decode cX5_paves 138 = .ok (.iconst 4, 1) := by decide +kernel
theorem dX5_paves_139 : decode cX5_paves 139 = .ok (.if_icmp .ge 57, 3) := by decide +kernel
theorem dX5_paves_142 : decode cX5_paves 142 = .ok (.aload_n 0, 1) := by decide +kernel
theorem dX5_paves_143 : decode cX5_paves 143 = .ok (.iload_n 1, 1) := by decide +kernel
theorem dX5_paves_144 : decode cX5_paves 144 = .ok (.iload 4, 2) := by decide +kernel
theorem dX5_paves_146 : decode cX5_paves 146 = .ok (.iload 5, 2) := by decide +kernel
theorem dX5_paves_148 : decode cX5_paves 148 = .ok (.iload 8, 2) := by decide +kernel
theorem dX5_paves_150 : decode cX5_paves 150 = .ok (.invokevirtual 67, 3) := by decide +kernel
theorem dX5_paves_153 : decode cX5_paves 153 = .ok (.istore 9, 2) := by decide +kernel
theorem dX5_paves_155 : decode cX5_paves 155 = .ok (.iload 9, 2) := by decide +kernel
theorem dX5_paves_157 : decode cX5_paves 157 = .ok (.ifCond .le 33, 3) := by decide +kernel
theorem dX5_paves_160 : decode cX5_paves 160 = .ok (.iload 9, 2) := by decide +kernel
theorem dX5_paves_162 : decode cX5_paves 162 = .ok (.iload 7, 2) := by decide +kernel
theorem dX5_paves_164 : decode cX5_paves 164 = .ok (.iand, 1) := by decide +kernel
theorem dX5_paves_165 : decode cX5_paves 165 = .ok (.ifCond .ne 25, 3) := by decide +kernel
theorem dX5_paves_168 : decode cX5_paves 168 = .ok (.aload_n 0, 1) := by decide +kernel
theorem dX5_paves_169 : decode cX5_paves 169 = .ok (.getfield 24, 3) := by decide +kernel
theorem dX5_paves_172 : decode cX5_paves 172 = .ok (.iload 7, 2) := by decide +kernel
theorem dX5_paves_174 : decode cX5_paves 174 = .ok (.iload 9, 2) := by decide +kernel
theorem dX5_paves_176 : decode cX5_paves 176 = .ok (.ior, 1) := by decide +kernel
theorem dX5_paves_177 : decode cX5_paves 177 = .ok (.iconst 1, 1) := by decide +kernel
theorem dX5_paves_178 : decode cX5_paves 178 = .ok (.ishr, 1) := by decide +kernel
theorem dX5_paves_179 : decode cX5_paves 179 = .ok (.dup2, 1) := by decide +kernel
theorem dX5_paves_180 : decode cX5_paves 180 = .ok (.iaload, 1) := by decide +kernel
theorem dX5_paves_181 : decode cX5_paves 181 = .ok (.aload_n 0, 1) := by decide +kernel
theorem dX5_paves_182 : decode cX5_paves 182 = .ok (.getfield 21, 3) := by decide +kernel
theorem dX5_paves_185 : decode cX5_paves 185 = .ok (.iload 7, 2) := by decide +kernel
theorem dX5_paves_187 : decode cX5_paves 187 = .ok (.iaload, 1) := by decide +kernel
theorem dX5_paves_188 : decode cX5_paves 188 = .ok (.iadd, 1) := by decide +kernel
theorem dX5_paves_189 : decode cX5_paves 189 = .ok (.iastore, 1) := by decide +kernel
theorem dX5_paves_190 : decode cX5_paves 190 = .ok (.iinc 8 1, 3) := by decide +kernel
theorem dX5_paves_193 : decode cX5_paves 193 = .ok (.goto (-57), 3) := by decide +kernel
theorem dX5_paves_196 : decode cX5_paves 196 = .ok (.iinc 7 1, 3) := by decide +kernel
theorem dX5_paves_199 : decode cX5_paves 199 = .ok (.goto (-129), 3) := by decide +kernel
theorem dX5_paves_202 : decode cX5_paves 202 = .ok (.aload_n 0, 1) := by decide +kernel
theorem dX5_paves_203 : decode cX5_paves 203 = .ok (.invokevirtual 60, 3) := by decide +kernel
theorem dX5_paves_206 : decode cX5_paves 206 = .ok (.iinc 3 1, 3) := by decide +kernel
theorem dX5_paves_209 : decode cX5_paves 209 = .ok (.goto (-185), 3) := by decide +kernel
theorem dX5_paves_212 : decode cX5_paves 212 = .ok (.aload_n 0, 1) := by decide +kernel
theorem dX5_paves_213 : decode cX5_paves 213 = .ok (.getfield 21, 3) := by decide +kernel
theorem dX5_paves_216 : decode cX5_paves 216 = .ok (.iconst 0, 1) := by decide +kernel
theorem dX5_paves_217 : decode cX5_paves 217 = .ok (.iaload, 1) := by decide +kernel
theorem dX5_paves_218 : decode cX5_paves 218 = .ok (.ireturn, 1) := by decide +kernel
theorem dX5_fills_0 : decode cX5_fills 0 = .ok (.aload_n 0, 1) := by decide +kernel
theorem dX5_fills_1 : decode cX5_fills 1 = .ok (.getfield 7, 3) := by decide +kernel
theorem dX5_fills_4 : decode cX5_fills 4 = .ok (.iload_n 1, 1) := by decide +kernel
theorem dX5_fills_5 : decode cX5_fills 5 = .ok (.sipush 131, 3) := by decide +kernel
theorem dX5_fills_8 : decode cX5_fills 8 = .ok (.iadd, 1) := by decide +kernel
theorem dX5_fills_9 : decode cX5_fills 9 = .ok (.iaload, 1) := by decide +kernel
theorem dX5_fills_10 : decode cX5_fills 10 = .ok (.istore_n 2, 1) := by decide +kernel
theorem dX5_fills_11 : decode cX5_fills 11 = .ok (.iconst 0, 1) := by decide +kernel
theorem dX5_fills_12 : decode cX5_fills 12 = .ok (.istore_n 3, 1) := by decide +kernel
theorem dX5_fills_13 : decode cX5_fills 13 = .ok (.iload_n 3, 1) := by decide +kernel
theorem dX5_fills_14 : decode cX5_fills 14 = .ok (.aload_n 0, 1) := by decide +kernel
theorem dX5_fills_15 : decode cX5_fills 15 = .ok (.getfield 7, 3) := by decide +kernel
theorem dX5_fills_18 : decode cX5_fills 18 = .ok (.iload_n 1, 1) := by decide +kernel
theorem dX5_fills_19 : decode cX5_fills 19 = .ok (.iconst 1, 1) := by decide +kernel
theorem dX5_fills_20 : decode cX5_fills 20 = .ok (.iadd, 1) := by decide +kernel
theorem dX5_fills_21 : decode cX5_fills 21 = .ok (.iaload, 1) := by decide +kernel
theorem dX5_fills_22 : decode cX5_fills 22 = .ok (.if_icmp .ge 147, 3) := by decide +kernel
theorem dX5_fills_25 : decode cX5_fills 25 = .ok (.iconst 0, 1) := by decide +kernel
theorem dX5_fills_26 : decode cX5_fills 26 = .ok (.istore 4, 2) := by decide +kernel
theorem dX5_fills_28 : decode cX5_fills 28 = .ok (.iload 4, 2) := by decide +kernel
theorem dX5_fills_30 : decode cX5_fills 30 = .ok (.aload_n 0, 1) := by decide +kernel
theorem dX5_fills_31 : decode cX5_fills 31 = .ok (.getfield 7, 3) := by decide +kernel
theorem dX5_fills_34 : decode cX5_fills 34 = .ok (.iload_n 1, 1) := by decide +kernel
theorem dX5_fills_35 : decode cX5_fills 35 = .ok (.iaload, 1) := by decide +kernel
theorem dX5_fills_36 : decode cX5_fills 36 = .ok (.if_icmp .ge 127, 3) := by decide +kernel
theorem dX5_fills_39 : decode cX5_fills 39 = .ok (.aload_n 0, 1) := by decide +kernel
theorem dX5_fills_40 : decode cX5_fills 40 = .ok (.iload_n 1, 1) := by decide +kernel
theorem dX5_fills_41 : decode cX5_fills 41 = .ok (.bipush 8, 2) := by decide +kernel
theorem dX5_fills_43 : decode cX5_fills 43 = .ok (.iload_n 3, 1) := by decide +kernel
theorem dX5_fills_44 : decode cX5_fills 44 = .ok (.imul, 1) := by decide +kernel
theorem dX5_fills_45 : decode cX5_fills 45 = .ok (.iload 4, 2) := by decide +kernel
theorem dX5_fills_47 : decode cX5_fills 47 = .ok (.iadd, 1) := by decide +kernel
theorem dX5_fills_48 : decode cX5_fills 48 = .ok (.invokevirtual 63, 3) := by decide +kernel
theorem dX5_fills_51 : decode cX5_fills 51 = .ok (.ifCond .ne 7, 3) := by decide +kernel
theorem dX5_fills_54 : decode cX5_fills 54 = .ok (.iconst 1, 1) := by decide +kernel
theorem dX5_fills_55 : decode cX5_fills 55 = .ok (.goto 4, 3) := by decide +kernel
theorem dX5_fills_58 : decode cX5_fills 58 = .ok (.iconst 0, 1) := by decide +kernel
theorem dX5_fills_59 : decode cX5_fills 59 = .ok (.istore 5, 2) := by decide +kernel
theorem dX5_fills_61 : decode cX5_fills 61 = .ok (.iconst 0, 1) := by decide +kernel
theorem dX5_fills_62 : decode cX5_fills 62 = .ok (.istore 6, 2) := by decide +kernel
theorem dX5_fills_64 : decode cX5_fills 64 = .ok (.iload 6, 2) := by decide +kernel
theorem dX5_fills_66 : decode cX5_fills 66 = .ok (.iconst 4, 1) := by decide +kernel
theorem dX5_fills_67 : decode cX5_fills 67 = .ok (.if_icmp .ge 90, 3) := by decide +kernel
theorem dX5_fills_70 : decode cX5_fills 70 = .ok (.iload 5, 2) := by decide +kernel
theorem dX5_fills_72 : decode cX5_fills 72 = .ok (.ifCond .ne 85, 3) := by decide +kernel
theorem dX5_fills_75 : decode cX5_fills 75 = .ok (.iload 6, 2) := by decide +kernel
theorem dX5_fills_77 : decode cX5_fills 77 = .ok (.ifCond .ne 10, 3) := by decide +kernel
theorem dX5_fills_80 : decode cX5_fills 80 = .ok (.iload 4, 2) := by decide +kernel
theorem dX5_fills_82 : decode cX5_fills 82 = .ok (.iconst 1, 1) := by decide +kernel
theorem dX5_fills_83 : decode cX5_fills 83 = .ok (.isub, 1) := by decide +kernel
theorem dX5_fills_84 : decode cX5_fills 84 = .ok (.goto 5, 3) := by decide +kernel
theorem dX5_fills_87 : decode cX5_fills 87 = .ok (.iload 4, 2) := by decide +kernel
theorem dX5_fills_89 : decode cX5_fills 89 = .ok (.istore 7, 2) := by decide +kernel
theorem dX5_fills_91 : decode cX5_fills 91 = .ok (.aload_n 0, 1) := by decide +kernel
theorem dX5_fills_92 : decode cX5_fills 92 = .ok (.iload_n 1, 1) := by decide +kernel
theorem dX5_fills_93 : decode cX5_fills 93 = .ok (.iload 7, 2) := by decide +kernel
theorem dX5_fills_95 : decode cX5_fills 95 = .ok (.iload_n 3, 1) := by decide +kernel
theorem dX5_fills_96 : decode cX5_fills 96 = .ok (.iload 6, 2) := by decide +kernel
theorem dX5_fills_98 : decode cX5_fills 98 = .ok (.invokevirtual 53, 3) := by decide +kernel
theorem dX5_fills_101 : decode cX5_fills 101 = .ok (.ifCond .ne 50, 3) := by decide +kernel
theorem dX5_fills_104 : decode cX5_fills 104 = .ok (.aload_n 0, 1) := by decide +kernel
theorem dX5_fills_105 : decode cX5_fills 105 = .ok (.iload_n 1, 1) := by decide +kernel
theorem dX5_fills_106 : decode cX5_fills 106 = .ok (.iload 7, 2) := by decide +kernel
theorem dX5_fills_108 : decode cX5_fills 108 = .ok (.iload_n 3, 1) := by decide +kernel
theorem dX5_fills_109 : decode cX5_fills 109 = .ok (.iload 6, 2) := by decide +kernel
theorem dX5_fills_111 : decode cX5_fills 111 = .ok (.invokevirtual 70, 3) := by decide +kernel
theorem dX5_fills_114 : decode cX5_fills 114 = .ok (.aload_n 0, 1) := by decide +kernel
theorem dX5_fills_115 : decode cX5_fills 115 = .ok (.iload_n 1, 1) := by decide +kernel
theorem dX5_fills_116 : decode cX5_fills 116 = .ok (.invokevirtual 74, 3) := by decide +kernel
theorem dX5_fills_119 : decode cX5_fills 119 = .ok (.ifCond .le 7, 3) := by decide +kernel
theorem dX5_fills_122 : decode cX5_fills 122 = .ok (.iconst 1, 1) := by decide +kernel
theorem dX5_fills_123 : decode cX5_fills 123 = .ok (.goto 4, 3) := by decide +kernel
theorem dX5_fills_126 : decode cX5_fills 126 = .ok (.iconst 0, 1) := by decide +kernel
theorem dX5_fills_127 : decode cX5_fills 127 = .ok (.istore 5, 2) := by decide +kernel
theorem dX5_fills_129 : decode cX5_fills 129 = .ok (.iload 5, 2) := by decide +kernel
theorem dX5_fills_131 : decode cX5_fills 131 = .ok (.ifCond .ne 20, 3) := by decide +kernel
theorem dX5_fills_134 : decode cX5_fills 134 = .ok (.aload_n 0, 1) := by decide +kernel
theorem dX5_fills_135 : decode cX5_fills 135 = .ok (.iload_n 1, 1) := by decide +kernel
theorem dX5_fills_136 : decode cX5_fills 136 = .ok (.aload_n 0, 1) := by decide +kernel
theorem dX5_fills_137 : decode cX5_fills 137 = .ok (.getfield 7, 3) := by decide +kernel
theorem dX5_fills_140 : decode cX5_fills 140 = .ok (.iload_n 1, 1) := by decide +kernel
theorem dX5_fills_141 : decode cX5_fills 141 = .ok (.sipush 131, 3) := by decide +kernel
theorem dX5_fills_144 : decode cX5_fills 144 = .ok (.iadd, 1) := by decide +kernel
theorem dX5_fills_145 : decode cX5_fills 145 = .ok (.iaload, 1) := by decide +kernel
theorem dX5_fills_146 : decode cX5_fills 146 = .ok (.iconst 1, 1) := by decide +kernel
theorem dX5_fills_147 : decode cX5_fills 147 = .ok (.isub, 1) := by decide +kernel
theorem dX5_fills_148 : decode cX5_fills 148 = .ok (.invokevirtual 78, 3) := by decide +kernel
theorem dX5_fills_151 : decode cX5_fills 151 = .ok (.iinc 6 1, 3) := by decide +kernel
theorem dX5_fills_154 : decode cX5_fills 154 = .ok (.goto (-90), 3) := by decide +kernel
theorem dX5_fills_157 : decode cX5_fills 157 = .ok (.iinc 4 1, 3) := by decide +kernel
theorem dX5_fills_160 : decode cX5_fills 160 = .ok (.goto (-132), 3) := by decide +kernel
theorem dX5_fills_163 : decode cX5_fills 163 = .ok (.iinc 3 1, 3) := by decide +kernel
theorem dX5_fills_166 : decode cX5_fills 166 = .ok (.goto (-153), 3) := by decide +kernel
theorem dX5_fills_169 : decode cX5_fills 169 = .ok (.aload_n 0, 1) := by decide +kernel
theorem dX5_fills_170 : decode cX5_fills 170 = .ok (.getfield 7, 3) := by decide +kernel
theorem dX5_fills_173 : decode cX5_fills 173 = .ok (.iload_n 1, 1) := by decide +kernel
theorem dX5_fills_174 : decode cX5_fills 174 = .ok (.sipush 131, 3) := by decide +kernel
theorem dX5_fills_177 : decode cX5_fills 177 = .ok (.iadd, 1) := by decide +kernel
theorem dX5_fills_178 : decode cX5_fills 178 = .ok (.iaload, 1) := by decide +kernel
theorem dX5_fills_179 : decode cX5_fills 179 = .ok (.iload_n 2, 1) := by decide +kernel
theorem dX5_fills_180 : decode cX5_fills 180 = .ok (.isub, 1) := by decide +kernel
theorem dX5_fills_181 : decode cX5_fills 181 = .ok (.ireturn, 1) := by decide +kernel
theorem dX5_walls_0 : decode cX5_walls 0 = .ok (.iconst 0, 1) := by decide +kernel
theorem dX5_walls_1 : decode cX5_walls 1 = .ok (.istore_n 1, 1) := by decide +kernel
theorem dX5_walls_2 : decode cX5_walls 2 = .ok (.iconst 0, 1) := by decide +kernel
theorem dX5_walls_3 : decode cX5_walls 3 = .ok (.istore_n 2, 1) := by decide +kernel
theorem dX5_walls_4 : decode cX5_walls 4 = .ok (.iload_n 2, 1) := by decide +kernel
theorem dX5_walls_5 : decode cX5_walls 5 = .ok (.bipush 64, 2) := by decide +kernel
theorem dX5_walls_7 : decode cX5_walls 7 = .ok (.if_icmp .ge 20, 3) := by decide +kernel
theorem dX5_walls_10 : decode cX5_walls 10 = .ok (.iload_n 1, 1) := by decide +kernel
theorem dX5_walls_11 : decode cX5_walls 11 = .ok (.aload_n 0, 1) := by decide +kernel
theorem dX5_walls_12 : decode cX5_walls 12 = .ok (.getfield 7, 3) := by decide +kernel
theorem dX5_walls_15 : decode cX5_walls 15 = .ok (.iconst 3, 1) := by decide +kernel
theorem dX5_walls_16 : decode cX5_walls 16 = .ok (.iload_n 2, 1) := by decide +kernel
theorem dX5_walls_17 : decode cX5_walls 17 = .ok (.iadd, 1) := by decide +kernel
theorem dX5_walls_18 : decode cX5_walls 18 = .ok (.iaload, 1) := by decide +kernel
theorem dX5_walls_19 : decode cX5_walls 19 = .ok (.iadd, 1) := by decide +kernel
theorem dX5_walls_20 : decode cX5_walls 20 = .ok (.istore_n 1, 1) := by decide +kernel
theorem dX5_walls_21 : decode cX5_walls 21 = .ok (.iinc 2 1, 3) := by decide +kernel
theorem dX5_walls_24 : decode cX5_walls 24 = .ok (.goto (-20), 3) := by decide +kernel
theorem dX5_walls_27 : decode cX5_walls 27 = .ok (.iload_n 1, 1) := by decide +kernel
theorem dX5_walls_28 : decode cX5_walls 28 = .ok (.ireturn, 1) := by decide +kernel
theorem dX5_garden_0 : decode cX5_garden 0 = .ok (.aload_n 0, 1) := by decide +kernel
theorem dX5_garden_1 : decode cX5_garden 1 = .ok (.iload_n 1, 1) := by decide +kernel
theorem dX5_garden_2 : decode cX5_garden 2 = .ok (.iconst 2, 1) := by decide +kernel
theorem dX5_garden_3 : decode cX5_garden 3 = .ok (.bipush 8, 2) := by decide +kernel
theorem dX5_garden_5 : decode cX5_garden 5 = .ok (.invokestatic 45, 3) := by decide +kernel
theorem dX5_garden_8 : decode cX5_garden 8 = .ok (.ifCond .eq 17, 3) := by decide +kernel
theorem dX5_garden_11 : decode cX5_garden 11 = .ok (.iload_n 2, 1) := by decide +kernel
theorem dX5_garden_12 : decode cX5_garden 12 = .ok (.iconst 2, 1) := by decide +kernel
theorem dX5_garden_13 : decode cX5_garden 13 = .ok (.bipush 8, 2) := by decide +kernel
theorem dX5_garden_15 : decode cX5_garden 15 = .ok (.invokestatic 45, 3) := by decide +kernel
theorem dX5_garden_18 : decode cX5_garden 18 = .ok (.ifCond .eq 7, 3) := by decide +kernel
theorem dX5_garden_21 : decode cX5_garden 21 = .ok (.iconst 1, 1) := by decide +kernel
theorem dX5_garden_22 : decode cX5_garden 22 = .ok (.goto 4, 3) := by decide +kernel
theorem dX5_garden_25 : decode cX5_garden 25 = .ok (.iconst 0, 1) := by decide +kernel
theorem dX5_garden_26 : decode cX5_garden 26 = .ok (.iconst 1, 1) := by decide +kernel
theorem dX5_garden_27 : decode cX5_garden 27 = .ok (.invokevirtual 81, 3) := by decide +kernel
theorem dX5_garden_30 : decode cX5_garden 30 = .ok (.ifCond .ne 5, 3) := by decide +kernel
theorem dX5_garden_33 : decode cX5_garden 33 = .ok (.iconst 0, 1) := by decide +kernel
theorem dX5_garden_34 : decode cX5_garden 34 = .ok (.ireturn, 1) := by decide +kernel
theorem dX5_garden_35 : decode cX5_garden 35 = .ok (.aload_n 0, 1) := by decide +kernel
theorem dX5_garden_36 : decode cX5_garden 36 = .ok (.invokevirtual 85, 3) := by decide +kernel
theorem dX5_garden_39 : decode cX5_garden 39 = .ok (.aload_n 0, 1) := by decide +kernel
theorem dX5_garden_40 : decode cX5_garden 40 = .ok (.iconst 0, 1) := by decide +kernel
theorem dX5_garden_41 : decode cX5_garden 41 = .ok (.iload_n 1, 1) := by decide +kernel
theorem dX5_garden_42 : decode cX5_garden 42 = .ok (.iload_n 2, 1) := by decide +kernel
theorem dX5_garden_43 : decode cX5_garden 43 = .ok (.invokevirtual 30, 3) := by decide +kernel
theorem dX5_garden_46 : decode cX5_garden 46 = .ok (.iload_n 1, 1) := by decide +kernel
theorem dX5_garden_47 : decode cX5_garden 47 = .ok (.iload_n 2, 1) := by decide +kernel
theorem dX5_garden_48 : decode cX5_garden 48 = .ok (.imul, 1) := by decide +kernel
theorem dX5_garden_49 : decode cX5_garden 49 = .ok (.ireturn, 1) := by decide +kernel
theorem dX5_pond_0 : decode cX5_pond 0 = .ok (.aload_n 0, 1) := by decide +kernel
theorem dX5_pond_1 : decode cX5_pond 1 = .ok (.iload_n 1, 1) := by decide +kernel
theorem dX5_pond_2 : decode cX5_pond 2 = .ok (.iload_n 2, 1) := by decide +kernel
theorem dX5_pond_3 : decode cX5_pond 3 = .ok (.invokevirtual 88, 3) := by decide +kernel
theorem dX5_pond_6 : decode cX5_pond 6 = .ok (.istore_n 3, 1) := by decide +kernel
theorem dX5_pond_7 : decode cX5_pond 7 = .ok (.iload_n 3, 1) := by decide +kernel
theorem dX5_pond_8 : decode cX5_pond 8 = .ok (.ifCond .eq 12, 3) := by decide +kernel
theorem dX5_pond_11 : decode cX5_pond 11 = .ok (.bipush 8, 2) := by decide +kernel
theorem dX5_pond_13 : decode cX5_pond 13 = .ok (.iload_n 2, 1) := by decide +kernel
theorem dX5_pond_14 : decode cX5_pond 14 = .ok (.imul, 1) := by decide +kernel
theorem dX5_pond_15 : decode cX5_pond 15 = .ok (.iload_n 1, 1) := by decide +kernel
theorem dX5_pond_16 : decode cX5_pond 16 = .ok (.iadd, 1) := by decide +kernel
theorem dX5_pond_17 : decode cX5_pond 17 = .ok (.goto 4, 3) := by decide +kernel
theorem dX5_pond_20 : decode cX5_pond 20 = .ok (.iconst 0, 1) := by decide +kernel
theorem dX5_pond_21 : decode cX5_pond 21 = .ok (.istore 4, 2) := by decide +kernel
theorem dX5_pond_23 : decode cX5_pond 23 = .ok (.aload_n 0, 1) := by decide +kernel
theorem dX5_pond_24 : decode cX5_pond 24 = .ok (.iload_n 3, 1) := by decide +kernel
theorem dX5_pond_25 : decode cX5_pond 25 = .ok (.iload_n 3, 1) := by decide +kernel
theorem dX5_pond_26 : decode cX5_pond 26 = .ok (.ifCond .eq 32, 3) := by decide +kernel
theorem dX5_pond_29 : decode cX5_pond 29 = .ok (.aload_n 0, 1) := by decide +kernel
theorem dX5_pond_30 : decode cX5_pond 30 = .ok (.getfield 7, 3) := by decide +kernel
theorem dX5_pond_33 : decode cX5_pond 33 = .ok (.iconst 3, 1) := by decide +kernel
theorem dX5_pond_34 : decode cX5_pond 34 = .ok (.iload 4, 2) := by decide +kernel
theorem dX5_pond_36 : decode cX5_pond 36 = .ok (.iadd, 1) := by decide +kernel
theorem dX5_pond_37 : decode cX5_pond 37 = .ok (.iaload, 1) := by decide +kernel
theorem dX5_pond_38 : decode cX5_pond 38 = .ok (.ifCond .ne 20, 3) := by decide +kernel
theorem dX5_pond_41 : decode cX5_pond 41 = .ok (.aload_n 0, 1) := by decide +kernel
theorem dX5_pond_42 : decode cX5_pond 42 = .ok (.getfield 7, 3) := by decide +kernel
theorem dX5_pond_45 : decode cX5_pond 45 = .ok (.bipush 67, 2) := by decide +kernel
theorem dX5_pond_47 : decode cX5_pond 47 = .ok (.iload 4, 2) := by decide +kernel
theorem dX5_pond_49 : decode cX5_pond 49 = .ok (.iadd, 1) := by decide +kernel
theorem dX5_pond_50 : decode cX5_pond 50 = .ok (.iaload, 1) := by decide +kernel
theorem dX5_pond_51 : decode cX5_pond 51 = .ok (.ifCond .ge 7, 3) := by decide +kernel
theorem dX5_pond_54 : decode cX5_pond 54 = .ok (.iconst 1, 1) := by decide +kernel
theorem dX5_pond_55 : decode cX5_pond 55 = .ok (.goto 4, 3) := by decide +kernel
theorem dX5_pond_58 : decode cX5_pond 58 = .ok (.iconst 0, 1) := by decide +kernel
theorem dX5_pond_59 : decode cX5_pond 59 = .ok (.invokevirtual 81, 3) := by decide +kernel
theorem dX5_pond_62 : decode cX5_pond 62 = .ok (.ifCond .ne 5, 3) := by decide +kernel
theorem dX5_pond_65 : decode cX5_pond 65 = .ok (.iconst 0, 1) := by decide +kernel
theorem dX5_pond_66 : decode cX5_pond 66 = .ok (.ireturn, 1) := by decide +kernel
theorem dX5_pond_67 : decode cX5_pond 67 = .ok (.aload_n 0, 1) := by decide +kernel
theorem dX5_pond_68 : decode cX5_pond 68 = .ok (.invokevirtual 85, 3) := by decide +kernel
theorem dX5_pond_71 : decode cX5_pond 71 = .ok (.aload_n 0, 1) := by decide +kernel
theorem dX5_pond_72 : decode cX5_pond 72 = .ok (.getfield 7, 3) := by decide +kernel
theorem dX5_pond_75 : decode cX5_pond 75 = .ok (.iconst 2, 1) := by decide +kernel
theorem dX5_pond_76 : decode cX5_pond 76 = .ok (.iaload, 1) := by decide +kernel
theorem dX5_pond_77 : decode cX5_pond 77 = .ok (.istore 5, 2) := by decide +kernel
theorem dX5_pond_79 : decode cX5_pond 79 = .ok (.aload_n 0, 1) := by decide +kernel
theorem dX5_pond_80 : decode cX5_pond 80 = .ok (.getfield 7, 3) := by decide +kernel
theorem dX5_pond_83 : decode cX5_pond 83 = .ok (.iconst 2, 1) := by decide +kernel
theorem dX5_pond_84 : decode cX5_pond 84 = .ok (.iload 4, 2) := by decide +kernel
theorem dX5_pond_86 : decode cX5_pond 86 = .ok (.iastore, 1) := by decide +kernel
theorem dX5_pond_87 : decode cX5_pond 87 = .ok (.iload 5, 2) := by decide +kernel
theorem dX5_pond_89 : decode cX5_pond 89 = .ok (.bipush 8, 2) := by decide +kernel
theorem dX5_pond_91 : decode cX5_pond 91 = .ok (.irem, 1) := by decide +kernel
theorem dX5_pond_92 : decode cX5_pond 92 = .ok (.bipush 10, 2) := by decide +kernel
theorem dX5_pond_94 : decode cX5_pond 94 = .ok (.iload 5, 2) := by decide +kernel
theorem dX5_pond_96 : decode cX5_pond 96 = .ok (.bipush 8, 2) := by decide +kernel
theorem dX5_pond_98 : decode cX5_pond 98 = .ok (.idiv, 1) := by decide +kernel
theorem dX5_pond_99 : decode cX5_pond 99 = .ok (.imul, 1) := by decide +kernel
theorem dX5_pond_100 : decode cX5_pond 100 = .ok (.iadd, 1) := by decide +kernel
theorem dX5_pond_101 : decode cX5_pond 101 = .ok (.ireturn, 1) := by decide +kernel
theorem dX5_wall_0 : decode cX5_wall 0 = .ok (.aload_n 0, 1) := by decide +kernel
theorem dX5_wall_1 : decode cX5_wall 1 = .ok (.iload_n 1, 1) := by decide +kernel
theorem dX5_wall_2 : decode cX5_wall 2 = .ok (.iload_n 2, 1) := by decide +kernel
theorem dX5_wall_3 : decode cX5_wall 3 = .ok (.invokevirtual 88, 3) := by decide +kernel
theorem dX5_wall_6 : decode cX5_wall 6 = .ok (.istore_n 3, 1) := by decide +kernel
theorem dX5_wall_7 : decode cX5_wall 7 = .ok (.iload_n 3, 1) := by decide +kernel
theorem dX5_wall_8 : decode cX5_wall 8 = .ok (.ifCond .eq 12, 3) := by decide +kernel
theorem dX5_wall_11 : decode cX5_wall 11 = .ok (.bipush 8, 2) := by decide +kernel
theorem dX5_wall_13 : decode cX5_wall 13 = .ok (.iload_n 2, 1) := by decide +kernel
theorem dX5_wall_14 : decode cX5_wall 14 = .ok (.imul, 1) := by decide +kernel
theorem dX5_wall_15 : decode cX5_wall 15 = .ok (.iload_n 1, 1) := by decide +kernel
theorem dX5_wall_16 : decode cX5_wall 16 = .ok (.iadd, 1) := by decide +kernel
theorem dX5_wall_17 : decode cX5_wall 17 = .ok (.goto 4, 3) := by decide +kernel
theorem dX5_wall_20 : decode cX5_wall 20 = .ok (.iconst 0, 1) := by decide +kernel
theorem dX5_wall_21 : decode cX5_wall 21 = .ok (.istore 4, 2) := by decide +kernel
theorem dX5_wall_23 : decode cX5_wall 23 = .ok (.aload_n 0, 1) := by decide +kernel
theorem dX5_wall_24 : decode cX5_wall 24 = .ok (.iload_n 3, 1) := by decide +kernel
theorem dX5_wall_25 : decode cX5_wall 25 = .ok (.iload_n 3, 1) := by decide +kernel
theorem dX5_wall_26 : decode cX5_wall 26 = .ok (.ifCond .eq 31, 3) := by decide +kernel
theorem dX5_wall_29 : decode cX5_wall 29 = .ok (.aload_n 0, 1) := by decide +kernel
theorem dX5_wall_30 : decode cX5_wall 30 = .ok (.getfield 7, 3) := by decide +kernel
theorem dX5_wall_33 : decode cX5_wall 33 = .ok (.iconst 2, 1) := by decide +kernel
theorem dX5_wall_34 : decode cX5_wall 34 = .ok (.iaload, 1) := by decide +kernel
theorem dX5_wall_35 : decode cX5_wall 35 = .ok (.iload 4, 2) := by decide +kernel
theorem dX5_wall_37 : decode cX5_wall 37 = .ok (.if_icmp .eq 20, 3) := by decide +kernel
theorem dX5_wall_40 : decode cX5_wall 40 = .ok (.aload_n 0, 1) := by decide +kernel
theorem dX5_wall_41 : decode cX5_wall 41 = .ok (.getfield 7, 3) := by decide +kernel
theorem dX5_wall_44 : decode cX5_wall 44 = .ok (.bipush 67, 2) := by decide +kernel
theorem dX5_wall_46 : decode cX5_wall 46 = .ok (.iload 4, 2) := by decide +kernel
theorem dX5_wall_48 : decode cX5_wall 48 = .ok (.iadd, 1) := by decide +kernel
theorem dX5_wall_49 : decode cX5_wall 49 = .ok (.iaload, 1) := by decide +kernel
theorem dX5_wall_50 : decode cX5_wall 50 = .ok (.ifCond .ge 7, 3) := by decide +kernel
theorem dX5_wall_53 : decode cX5_wall 53 = .ok (.iconst 1, 1) := by decide +kernel
theorem dX5_wall_54 : decode cX5_wall 54 = .ok (.goto 4, 3) := by decide +kernel
theorem dX5_wall_57 : decode cX5_wall 57 = .ok (.iconst 0, 1) := by decide +kernel
theorem dX5_wall_58 : decode cX5_wall 58 = .ok (.invokevirtual 81, 3) := by decide +kernel
theorem dX5_wall_61 : decode cX5_wall 61 = .ok (.ifCond .ne 5, 3) := by decide +kernel
theorem dX5_wall_64 : decode cX5_wall 64 = .ok (.iconst 0, 1) := by decide +kernel
theorem dX5_wall_65 : decode cX5_wall 65 = .ok (.ireturn, 1) := by decide +kernel
theorem dX5_wall_66 : decode cX5_wall 66 = .ok (.aload_n 0, 1) := by decide +kernel
theorem dX5_wall_67 : decode cX5_wall 67 = .ok (.invokevirtual 85, 3) := by decide +kernel
theorem dX5_wall_70 : decode cX5_wall 70 = .ok (.aload_n 0, 1) := by decide +kernel
theorem dX5_wall_71 : decode cX5_wall 71 = .ok (.getfield 7, 3) := by decide +kernel
theorem dX5_wall_74 : decode cX5_wall 74 = .ok (.iconst 3, 1) := by decide +kernel
theorem dX5_wall_75 : decode cX5_wall 75 = .ok (.iload 4, 2) := by decide +kernel
theorem dX5_wall_77 : decode cX5_wall 77 = .ok (.iadd, 1) := by decide +kernel
theorem dX5_wall_78 : decode cX5_wall 78 = .ok (.iconst 1, 1) := by decide +kernel
theorem dX5_wall_79 : decode cX5_wall 79 = .ok (.aload_n 0, 1) := by decide +kernel
theorem dX5_wall_80 : decode cX5_wall 80 = .ok (.getfield 7, 3) := by decide +kernel
theorem dX5_wall_83 : decode cX5_wall 83 = .ok (.iconst 3, 1) := by decide +kernel
theorem dX5_wall_84 : decode cX5_wall 84 = .ok (.iload 4, 2) := by decide +kernel
theorem dX5_wall_86 : decode cX5_wall 86 = .ok (.iadd, 1) := by decide +kernel
theorem dX5_wall_87 : decode cX5_wall 87 = .ok (.iaload, 1) := by decide +kernel
theorem dX5_wall_88 : decode cX5_wall 88 = .ok (.isub, 1) := by decide +kernel
theorem dX5_wall_89 : decode cX5_wall 89 = .ok (.iastore, 1) := by decide +kernel
theorem dX5_wall_90 : decode cX5_wall 90 = .ok (.aload_n 0, 1) := by decide +kernel
theorem dX5_wall_91 : decode cX5_wall 91 = .ok (.invokevirtual 91, 3) := by decide +kernel
theorem dX5_wall_94 : decode cX5_wall 94 = .ok (.ireturn, 1) := by decide +kernel
theorem dX5_lay_0 : decode cX5_lay 0 = .ok (.aload_n 0, 1) := by decide +kernel
theorem dX5_lay_1 : decode cX5_lay 1 = .ok (.iload_n 3, 1) := by decide +kernel
theorem dX5_lay_2 : decode cX5_lay 2 = .ok (.iconst 0, 1) := by decide +kernel
theorem dX5_lay_3 : decode cX5_lay 3 = .ok (.iconst 3, 1) := by decide +kernel
theorem dX5_lay_4 : decode cX5_lay 4 = .ok (.invokestatic 45, 3) := by decide +kernel
theorem dX5_lay_7 : decode cX5_lay 7 = .ok (.iconst 1, 1) := by decide +kernel
theorem dX5_lay_8 : decode cX5_lay 8 = .ok (.invokevirtual 81, 3) := by decide +kernel
theorem dX5_lay_11 : decode cX5_lay 11 = .ok (.ifCond .ne 5, 3) := by decide +kernel
theorem dX5_lay_14 : decode cX5_lay 14 = .ok (.iconst 0, 1) := by decide +kernel
theorem dX5_lay_15 : decode cX5_lay 15 = .ok (.ireturn, 1) := by decide +kernel
theorem dX5_lay_16 : decode cX5_lay 16 = .ok (.aload_n 0, 1) := by decide +kernel
theorem dX5_lay_17 : decode cX5_lay 17 = .ok (.invokevirtual 85, 3) := by decide +kernel
theorem dX5_lay_20 : decode cX5_lay 20 = .ok (.aload_n 0, 1) := by decide +kernel
theorem dX5_lay_21 : decode cX5_lay 21 = .ok (.iconst 0, 1) := by decide +kernel
theorem dX5_lay_22 : decode cX5_lay 22 = .ok (.iload_n 1, 1) := by decide +kernel
theorem dX5_lay_23 : decode cX5_lay 23 = .ok (.iload_n 2, 1) := by decide +kernel
theorem dX5_lay_24 : decode cX5_lay 24 = .ok (.iload_n 3, 1) := by decide +kernel
theorem dX5_lay_25 : decode cX5_lay 25 = .ok (.invokevirtual 53, 3) := by decide +kernel
theorem dX5_lay_28 : decode cX5_lay 28 = .ok (.istore 4, 2) := by decide +kernel
theorem dX5_lay_30 : decode cX5_lay 30 = .ok (.iload 4, 2) := by decide +kernel
theorem dX5_lay_32 : decode cX5_lay 32 = .ok (.ifCond .le 18, 3) := by decide +kernel
theorem dX5_lay_35 : decode cX5_lay 35 = .ok (.aload_n 0, 1) := by decide +kernel
theorem dX5_lay_36 : decode cX5_lay 36 = .ok (.getfield 7, 3) := by decide +kernel
theorem dX5_lay_39 : decode cX5_lay 39 = .ok (.sipush 196, 3) := by decide +kernel
theorem dX5_lay_42 : decode cX5_lay 42 = .ok (.dup2, 1) := by decide +kernel
theorem dX5_lay_43 : decode cX5_lay 43 = .ok (.iaload, 1) := by decide +kernel
theorem dX5_lay_44 : decode cX5_lay 44 = .ok (.iconst 1, 1) := by decide +kernel
theorem dX5_lay_45 : decode cX5_lay 45 = .ok (.iadd, 1) := by decide +kernel
theorem dX5_lay_46 : decode cX5_lay 46 = .ok (.iastore, 1) := by decide +kernel
theorem dX5_lay_47 : decode cX5_lay 47 = .ok (.goto 11, 3) := by decide +kernel
theorem dX5_lay_50 : decode cX5_lay 50 = .ok (.aload_n 0, 1) := by decide +kernel
theorem dX5_lay_51 : decode cX5_lay 51 = .ok (.iconst 0, 1) := by decide +kernel
theorem dX5_lay_52 : decode cX5_lay 52 = .ok (.iload_n 1, 1) := by decide +kernel
theorem dX5_lay_53 : decode cX5_lay 53 = .ok (.iload_n 2, 1) := by decide +kernel
theorem dX5_lay_54 : decode cX5_lay 54 = .ok (.iload_n 3, 1) := by decide +kernel
theorem dX5_lay_55 : decode cX5_lay 55 = .ok (.invokevirtual 70, 3) := by decide +kernel
theorem dX5_lay_58 : decode cX5_lay 58 = .ok (.iload 4, 2) := by decide +kernel
theorem dX5_lay_60 : decode cX5_lay 60 = .ok (.ireturn, 1) := by decide +kernel
theorem dX5_lift_0 : decode cX5_lift 0 = .ok (.aload_n 0, 1) := by decide +kernel
theorem dX5_lift_1 : decode cX5_lift 1 = .ok (.iload_n 1, 1) := by decide +kernel
theorem dX5_lift_2 : decode cX5_lift 2 = .ok (.iload_n 2, 1) := by decide +kernel
theorem dX5_lift_3 : decode cX5_lift 3 = .ok (.invokevirtual 88, 3) := by decide +kernel
theorem dX5_lift_6 : decode cX5_lift 6 = .ok (.istore_n 3, 1) := by decide +kernel
theorem dX5_lift_7 : decode cX5_lift 7 = .ok (.iload_n 3, 1) := by decide +kernel
theorem dX5_lift_8 : decode cX5_lift 8 = .ok (.ifCond .eq 20, 3) := by decide +kernel
theorem dX5_lift_11 : decode cX5_lift 11 = .ok (.aload_n 0, 1) := by decide +kernel
theorem dX5_lift_12 : decode cX5_lift 12 = .ok (.getfield 7, 3) := by decide +kernel
theorem dX5_lift_15 : decode cX5_lift 15 = .ok (.bipush 67, 2) := by decide +kernel
theorem dX5_lift_17 : decode cX5_lift 17 = .ok (.bipush 8, 2) := by decide +kernel
theorem dX5_lift_19 : decode cX5_lift 19 = .ok (.iload_n 2, 1) := by decide +kernel
theorem dX5_lift_20 : decode cX5_lift 20 = .ok (.imul, 1) := by decide +kernel
theorem dX5_lift_21 : decode cX5_lift 21 = .ok (.iadd, 1) := by decide +kernel
theorem dX5_lift_22 : decode cX5_lift 22 = .ok (.iload_n 1, 1) := by decide +kernel
theorem dX5_lift_23 : decode cX5_lift 23 = .ok (.iadd, 1) := by decide +kernel
theorem dX5_lift_24 : decode cX5_lift 24 = .ok (.iaload, 1) := by decide +kernel
theorem dX5_lift_25 : decode cX5_lift 25 = .ok (.goto 4, 3) := by decide +kernel
theorem dX5_lift_28 : decode cX5_lift 28 = .ok (.iconst (-1), 1) := by decide +kernel
theorem dX5_lift_29 : decode cX5_lift 29 = .ok (.istore 4, 2) := by decide +kernel
theorem dX5_lift_31 : decode cX5_lift 31 = .ok (.aload_n 0, 1) := by decide +kernel
theorem dX5_lift_32 : decode cX5_lift 32 = .ok (.iload_n 3, 1) := by decide +kernel
theorem dX5_lift_33 : decode cX5_lift 33 = .ok (.iload 4, 2) := by decide +kernel
theorem dX5_lift_35 : decode cX5_lift 35 = .ok (.ifCond .lt 7, 3) := by decide +kernel
theorem dX5_lift_38 : decode cX5_lift 38 = .ok (.iconst 1, 1) := by decide +kernel
theorem dX5_lift_39 : decode cX5_lift 39 = .ok (.goto 4, 3) := by decide +kernel
theorem dX5_lift_42 : decode cX5_lift 42 = .ok (.iconst 0, 1) := by decide +kernel
theorem dX5_lift_43 : decode cX5_lift 43 = .ok (.invokevirtual 81, 3) := by decide +kernel
theorem dX5_lift_46 : decode cX5_lift 46 = .ok (.ifCond .ne 5, 3) := by decide +kernel
theorem dX5_lift_49 : decode cX5_lift 49 = .ok (.iconst 0, 1) := by decide +kernel
theorem dX5_lift_50 : decode cX5_lift 50 = .ok (.ireturn, 1) := by decide +kernel
theorem dX5_lift_51 : decode cX5_lift 51 = .ok (.aload_n 0, 1) := by decide +kernel
theorem dX5_lift_52 : decode cX5_lift 52 = .ok (.invokevirtual 85, 3) := by decide +kernel
theorem dX5_lift_55 : decode cX5_lift 55 = .ok (.aload_n 0, 1) := by decide +kernel
theorem dX5_lift_56 : decode cX5_lift 56 = .ok (.iconst 0, 1) := by decide +kernel
theorem dX5_lift_57 : decode cX5_lift 57 = .ok (.iload 4, 2) := by decide +kernel
theorem dX5_lift_59 : decode cX5_lift 59 = .ok (.invokevirtual 78, 3) := by decide +kernel
theorem dX5_lift_62 : decode cX5_lift 62 = .ok (.iload 4, 2) := by decide +kernel
theorem dX5_lift_64 : decode cX5_lift 64 = .ok (.ireturn, 1) := by decide +kernel
theorem dX5_isBlock_0 : decode cX5_isBlock 0 = .ok (.iload_n 1, 1) := by decide +kernel
theorem dX5_isBlock_1 : decode cX5_isBlock 1 = .ok (.iconst 0, 1) := by decide +kernel
theorem dX5_isBlock_2 : decode cX5_isBlock 2 = .ok (.aload_n 0, 1) := by decide +kernel
theorem dX5_isBlock_3 : decode cX5_isBlock 3 = .ok (.getfield 7, 3) := by decide +kernel
theorem dX5_isBlock_6 : decode cX5_isBlock 6 = .ok (.iconst 0, 1) := by decide +kernel
theorem dX5_isBlock_7 : decode cX5_isBlock 7 = .ok (.iaload, 1) := by decide +kernel
theorem dX5_isBlock_8 : decode cX5_isBlock 8 = .ok (.iload_n 3, 1) := by decide +kernel
theorem dX5_isBlock_9 : decode cX5_isBlock 9 = .ok (.ifCond .eq 7, 3) := by decide +kernel
theorem dX5_isBlock_12 : decode cX5_isBlock 12 = .ok (.iconst 2, 1) := by decide +kernel
theorem dX5_isBlock_13 : decode cX5_isBlock 13 = .ok (.goto 4, 3) := by decide +kernel
theorem dX5_isBlock_16 : decode cX5_isBlock 16 = .ok (.iconst 3, 1) := by decide +kernel
theorem dX5_isBlock_17 : decode cX5_isBlock 17 = .ok (.isub, 1) := by decide +kernel
theorem dX5_isBlock_18 : decode cX5_isBlock 18 = .ok (.invokestatic 45, 3) := by decide +kernel
theorem dX5_isBlock_21 : decode cX5_isBlock 21 = .ok (.ifCond .eq 31, 3) := by decide +kernel
theorem dX5_isBlock_24 : decode cX5_isBlock 24 = .ok (.iload_n 2, 1) := by decide +kernel
theorem dX5_isBlock_25 : decode cX5_isBlock 25 = .ok (.iconst 0, 1) := by decide +kernel
theorem dX5_isBlock_26 : decode cX5_isBlock 26 = .ok (.aload_n 0, 1) := by decide +kernel
theorem dX5_isBlock_27 : decode cX5_isBlock 27 = .ok (.getfield 7, 3) := by decide +kernel
theorem dX5_isBlock_30 : decode cX5_isBlock 30 = .ok (.iconst 1, 1) := by decide +kernel
theorem dX5_isBlock_31 : decode cX5_isBlock 31 = .ok (.iaload, 1) := by decide +kernel
theorem dX5_isBlock_32 : decode cX5_isBlock 32 = .ok (.iload_n 3, 1) := by decide +kernel
theorem dX5_isBlock_33 : decode cX5_isBlock 33 = .ok (.ifCond .eq 7, 3) := by decide +kernel
theorem dX5_isBlock_36 : decode cX5_isBlock 36 = .ok (.iconst 3, 1) := by decide +kernel
theorem dX5_isBlock_37 : decode cX5_isBlock 37 = .ok (.goto 4, 3) := by decide +kernel
theorem dX5_isBlock_40 : decode cX5_isBlock 40 = .ok (.iconst 2, 1) := by decide +kernel
theorem dX5_isBlock_41 : decode cX5_isBlock 41 = .ok (.isub, 1) := by decide +kernel
theorem dX5_isBlock_42 : decode cX5_isBlock 42 = .ok (.invokestatic 45, 3) := by decide +kernel
theorem dX5_isBlock_45 : decode cX5_isBlock 45 = .ok (.ifCond .eq 7, 3) := by decide +kernel
theorem dX5_isBlock_48 : decode cX5_isBlock 48 = .ok (.iconst 1, 1) := by decide +kernel
theorem dX5_isBlock_49 : decode cX5_isBlock 49 = .ok (.goto 4, 3) := by decide +kernel
theorem dX5_isBlock_52 : decode cX5_isBlock 52 = .ok (.iconst 0, 1) := by decide +kernel
theorem dX5_isBlock_53 : decode cX5_isBlock 53 = .ok (.ireturn, 1) := by decide +kernel
theorem dX5_turnOf_0 : decode cX5_turnOf 0 = .ok (.aload_n 0, 1) := by decide +kernel
theorem dX5_turnOf_1 : decode cX5_turnOf 1 = .ok (.getfield 7, 3) := by decide +kernel
theorem dX5_turnOf_4 : decode cX5_turnOf 4 = .ok (.bipush 67, 2) := by decide +kernel
theorem dX5_turnOf_6 : decode cX5_turnOf 6 = .ok (.bipush 8, 2) := by decide +kernel
theorem dX5_turnOf_8 : decode cX5_turnOf 8 = .ok (.iload_n 2, 1) := by decide +kernel
theorem dX5_turnOf_9 : decode cX5_turnOf 9 = .ok (.imul, 1) := by decide +kernel
theorem dX5_turnOf_10 : decode cX5_turnOf 10 = .ok (.iadd, 1) := by decide +kernel
theorem dX5_turnOf_11 : decode cX5_turnOf 11 = .ok (.iload_n 1, 1) := by decide +kernel
theorem dX5_turnOf_12 : decode cX5_turnOf 12 = .ok (.iadd, 1) := by decide +kernel
theorem dX5_turnOf_13 : decode cX5_turnOf 13 = .ok (.iaload, 1) := by decide +kernel
theorem dX5_turnOf_14 : decode cX5_turnOf 14 = .ok (.istore 4, 2) := by decide +kernel
theorem dX5_turnOf_16 : decode cX5_turnOf 16 = .ok (.aload_n 0, 1) := by decide +kernel
theorem dX5_turnOf_17 : decode cX5_turnOf 17 = .ok (.getfield 7, 3) := by decide +kernel
theorem dX5_turnOf_20 : decode cX5_turnOf 20 = .ok (.bipush 67, 2) := by decide +kernel
theorem dX5_turnOf_22 : decode cX5_turnOf 22 = .ok (.bipush 8, 2) := by decide +kernel
theorem dX5_turnOf_24 : decode cX5_turnOf 24 = .ok (.iload_n 2, 1) := by decide +kernel
theorem dX5_turnOf_25 : decode cX5_turnOf 25 = .ok (.iload_n 3, 1) := by decide +kernel
theorem dX5_turnOf_26 : decode cX5_turnOf 26 = .ok (.ifCond .eq 7, 3) := by decide +kernel
theorem dX5_turnOf_29 : decode cX5_turnOf 29 = .ok (.iconst 2, 1) := by decide +kernel
theorem dX5_turnOf_30 : decode cX5_turnOf 30 = .ok (.goto 4, 3) := by decide +kernel
theorem dX5_turnOf_33 : decode cX5_turnOf 33 = .ok (.iconst 1, 1) := by decide +kernel
theorem dX5_turnOf_34 : decode cX5_turnOf 34 = .ok (.iadd, 1) := by decide +kernel
theorem dX5_turnOf_35 : decode cX5_turnOf 35 = .ok (.imul, 1) := by decide +kernel
theorem dX5_turnOf_36 : decode cX5_turnOf 36 = .ok (.iadd, 1) := by decide +kernel
theorem dX5_turnOf_37 : decode cX5_turnOf 37 = .ok (.iload_n 1, 1) := by decide +kernel
theorem dX5_turnOf_38 : decode cX5_turnOf 38 = .ok (.iadd, 1) := by decide +kernel
theorem dX5_turnOf_39 : decode cX5_turnOf 39 = .ok (.iload_n 3, 1) := by decide +kernel
theorem dX5_turnOf_40 : decode cX5_turnOf 40 = .ok (.ifCond .eq 7, 3) := by decide +kernel
theorem dX5_turnOf_43 : decode cX5_turnOf 43 = .ok (.iconst 1, 1) := by decide +kernel
theorem dX5_turnOf_44 : decode cX5_turnOf 44 = .ok (.goto 4, 3) := by decide +kernel
theorem dX5_turnOf_47 : decode cX5_turnOf 47 = .ok (.iconst 2, 1) := by decide +kernel
theorem dX5_turnOf_48 : decode cX5_turnOf 48 = .ok (.iadd, 1) := by decide +kernel
theorem dX5_turnOf_49 : decode cX5_turnOf 49 = .ok (.iaload, 1) := by decide +kernel
theorem dX5_turnOf_50 : decode cX5_turnOf 50 = .ok (.istore 5, 2) := by decide +kernel
theorem dX5_turnOf_52 : decode cX5_turnOf 52 = .ok (.iload 4, 2) := by decide +kernel
theorem dX5_turnOf_54 : decode cX5_turnOf 54 = .ok (.ifCond .lt 15, 3) := by decide +kernel
theorem dX5_turnOf_57 : decode cX5_turnOf 57 = .ok (.iload 5, 2) := by decide +kernel
theorem dX5_turnOf_59 : decode cX5_turnOf 59 = .ok (.ifCond .lt 10, 3) := by decide +kernel
theorem dX5_turnOf_62 : decode cX5_turnOf 62 = .ok (.iload 4, 2) := by decide +kernel
theorem dX5_turnOf_64 : decode cX5_turnOf 64 = .ok (.iload 5, 2) := by decide +kernel
theorem dX5_turnOf_66 : decode cX5_turnOf 66 = .ok (.if_icmp .ne 5, 3) := by decide +kernel
theorem dX5_turnOf_69 : decode cX5_turnOf 69 = .ok (.iconst (-1), 1) := by decide +kernel
theorem dX5_turnOf_70 : decode cX5_turnOf 70 = .ok (.ireturn, 1) := by decide +kernel
theorem dX5_turnOf_71 : decode cX5_turnOf 71 = .ok (.aload_n 0, 1) := by decide +kernel
theorem dX5_turnOf_72 : decode cX5_turnOf 72 = .ok (.getfield 7, 3) := by decide +kernel
theorem dX5_turnOf_75 : decode cX5_turnOf 75 = .ok (.sipush 132, 3) := by decide +kernel
theorem dX5_turnOf_78 : decode cX5_turnOf 78 = .ok (.iconst 3, 1) := by decide +kernel
theorem dX5_turnOf_79 : decode cX5_turnOf 79 = .ok (.iload 4, 2) := by decide +kernel
theorem dX5_turnOf_81 : decode cX5_turnOf 81 = .ok (.imul, 1) := by decide +kernel
theorem dX5_turnOf_82 : decode cX5_turnOf 82 = .ok (.iadd, 1) := by decide +kernel
theorem dX5_turnOf_83 : decode cX5_turnOf 83 = .ok (.iconst 2, 1) := by decide +kernel
theorem dX5_turnOf_84 : decode cX5_turnOf 84 = .ok (.iadd, 1) := by decide +kernel
theorem dX5_turnOf_85 : decode cX5_turnOf 85 = .ok (.iaload, 1) := by decide +kernel
theorem dX5_turnOf_86 : decode cX5_turnOf 86 = .ok (.istore 6, 2) := by decide +kernel
theorem dX5_turnOf_88 : decode cX5_turnOf 88 = .ok (.aload_n 0, 1) := by decide +kernel
theorem dX5_turnOf_89 : decode cX5_turnOf 89 = .ok (.getfield 7, 3) := by decide +kernel
theorem dX5_turnOf_92 : decode cX5_turnOf 92 = .ok (.sipush 132, 3) := by decide +kernel
theorem dX5_turnOf_95 : decode cX5_turnOf 95 = .ok (.iconst 3, 1) := by decide +kernel
theorem dX5_turnOf_96 : decode cX5_turnOf 96 = .ok (.iload 4, 2) := by decide +kernel
theorem dX5_turnOf_98 : decode cX5_turnOf 98 = .ok (.imul, 1) := by decide +kernel
theorem dX5_turnOf_99 : decode cX5_turnOf 99 = .ok (.iadd, 1) := by decide +kernel
theorem dX5_turnOf_100 : decode cX5_turnOf 100 = .ok (.iaload, 1) := by decide +kernel
theorem dX5_turnOf_101 : decode cX5_turnOf 101 = .ok (.iload_n 1, 1) := by decide +kernel
theorem dX5_turnOf_102 : decode cX5_turnOf 102 = .ok (.if_icmp .ne 46, 3) := by decide +kernel
theorem dX5_turnOf_105 : decode cX5_turnOf 105 = .ok (.aload_n 0, 1) := by decide +kernel
theorem dX5_turnOf_106 : decode cX5_turnOf 106 = .ok (.getfield 7, 3) := by decide +kernel
theorem dX5_turnOf_109 : decode cX5_turnOf 109 = .ok (.sipush 132, 3) := by decide +kernel
theorem dX5_turnOf_112 : decode cX5_turnOf 112 = .ok (.iconst 3, 1) := by decide +kernel
theorem dX5_turnOf_113 : decode cX5_turnOf 113 = .ok (.iload 4, 2) := by decide +kernel
theorem dX5_turnOf_115 : decode cX5_turnOf 115 = .ok (.imul, 1) := by decide +kernel
theorem dX5_turnOf_116 : decode cX5_turnOf 116 = .ok (.iadd, 1) := by decide +kernel
theorem dX5_turnOf_117 : decode cX5_turnOf 117 = .ok (.iconst 1, 1) := by decide +kernel
theorem dX5_turnOf_118 : decode cX5_turnOf 118 = .ok (.iadd, 1) := by decide +kernel
theorem dX5_turnOf_119 : decode cX5_turnOf 119 = .ok (.iaload, 1) := by decide +kernel
theorem dX5_turnOf_120 : decode cX5_turnOf 120 = .ok (.iload_n 2, 1) := by decide +kernel
theorem dX5_turnOf_121 : decode cX5_turnOf 121 = .ok (.if_icmp .ne 27, 3) := by decide +kernel
theorem dX5_turnOf_124 : decode cX5_turnOf 124 = .ok (.iload 6, 2) := by decide +kernel
theorem dX5_turnOf_126 : decode cX5_turnOf 126 = .ok (.iconst 2, 1) := by decide +kernel
theorem dX5_turnOf_127 : decode cX5_turnOf 127 = .ok (.if_icmp .eq 17, 3) := by decide +kernel
theorem dX5_turnOf_130 : decode cX5_turnOf 130 = .ok (.iload 6, 2) := by decide +kernel
theorem dX5_turnOf_132 : decode cX5_turnOf 132 = .ok (.iload_n 3, 1) := by decide +kernel
theorem dX5_turnOf_133 : decode cX5_turnOf 133 = .ok (.ifCond .eq 7, 3) := by decide +kernel
theorem dX5_turnOf_136 : decode cX5_turnOf 136 = .ok (.iconst 3, 1) := by decide +kernel
theorem dX5_turnOf_137 : decode cX5_turnOf 137 = .ok (.goto 4, 3) := by decide +kernel
theorem dX5_turnOf_140 : decode cX5_turnOf 140 = .ok (.iconst 1, 1) := by decide +kernel
theorem dX5_turnOf_141 : decode cX5_turnOf 141 = .ok (.if_icmp .ne 7, 3) := by decide +kernel
theorem dX5_turnOf_144 : decode cX5_turnOf 144 = .ok (.iconst 1, 1) := by decide +kernel
theorem dX5_turnOf_145 : decode cX5_turnOf 145 = .ok (.goto 4, 3) := by decide +kernel
theorem dX5_turnOf_148 : decode cX5_turnOf 148 = .ok (.iconst 0, 1) := by decide +kernel
theorem dX5_turnOf_149 : decode cX5_turnOf 149 = .ok (.istore 7, 2) := by decide +kernel
theorem dX5_turnOf_151 : decode cX5_turnOf 151 = .ok (.iload_n 3, 1) := by decide +kernel
theorem dX5_turnOf_152 : decode cX5_turnOf 152 = .ok (.ifCond .eq 7, 3) := by decide +kernel
theorem dX5_turnOf_155 : decode cX5_turnOf 155 = .ok (.iload_n 1, 1) := by decide +kernel
theorem dX5_turnOf_156 : decode cX5_turnOf 156 = .ok (.goto 6, 3) := by decide +kernel
theorem dX5_turnOf_159 : decode cX5_turnOf 159 = .ok (.iload_n 1, 1) := by decide +kernel
theorem dX5_turnOf_160 : decode cX5_turnOf 160 = .ok (.iconst 1, 1) := by decide +kernel
theorem dX5_turnOf_161 : decode cX5_turnOf 161 = .ok (.iadd, 1) := by decide +kernel
theorem dX5_turnOf_162 : decode cX5_turnOf 162 = .ok (.istore 8, 2) := by decide +kernel
theorem dX5_turnOf_164 : decode cX5_turnOf 164 = .ok (.iload_n 3, 1) := by decide +kernel
theorem dX5_turnOf_165 : decode cX5_turnOf 165 = .ok (.ifCond .eq 9, 3) := by decide +kernel
theorem dX5_turnOf_168 : decode cX5_turnOf 168 = .ok (.iload_n 2, 1) := by decide +kernel
theorem dX5_turnOf_169 : decode cX5_turnOf 169 = .ok (.iconst 1, 1) := by decide +kernel
theorem dX5_turnOf_170 : decode cX5_turnOf 170 = .ok (.iadd, 1) := by decide +kernel
theorem dX5_turnOf_171 : decode cX5_turnOf 171 = .ok (.goto 4, 3) := by decide +kernel
theorem dX5_turnOf_174 : decode cX5_turnOf 174 = .ok (.iload_n 2, 1) := by decide +kernel
theorem dX5_turnOf_175 : decode cX5_turnOf 175 = .ok (.istore 9, 2) := by decide +kernel
theorem dX5_turnOf_177 : decode cX5_turnOf 177 = .ok (.iload 6, 2) := by decide +kernel
theorem dX5_turnOf_179 : decode cX5_turnOf 179 = .ok (.iconst 2, 1) := by decide +kernel
theorem dX5_turnOf_180 : decode cX5_turnOf 180 = .ok (.if_icmp .ne 7, 3) := by decide +kernel
theorem dX5_turnOf_183 : decode cX5_turnOf 183 = .ok (.iconst 0, 1) := by decide +kernel
theorem dX5_turnOf_184 : decode cX5_turnOf 184 = .ok (.goto 12, 3) := by decide +kernel
theorem dX5_turnOf_187 : decode cX5_turnOf 187 = .ok (.iload_n 3, 1) := by decide +kernel
theorem dX5_turnOf_188 : decode cX5_turnOf 188 = .ok (.ifCond .eq 7, 3) := by decide +kernel
theorem dX5_turnOf_191 : decode cX5_turnOf 191 = .ok (.iconst 1, 1) := by decide +kernel
theorem dX5_turnOf_192 : decode cX5_turnOf 192 = .ok (.goto 4, 3) := by decide +kernel
theorem dX5_turnOf_195 : decode cX5_turnOf 195 = .ok (.iconst 3, 1) := by decide +kernel
theorem dX5_turnOf_196 : decode cX5_turnOf 196 = .ok (.istore 10, 2) := by decide +kernel
theorem dX5_turnOf_198 : decode cX5_turnOf 198 = .ok (.iload 7, 2) := by decide +kernel
theorem dX5_turnOf_200 : decode cX5_turnOf 200 = .ok (.ifCond .eq 65, 3) := by decide +kernel
theorem dX5_turnOf_203 : decode cX5_turnOf 203 = .ok (.aload_n 0, 1) := by decide +kernel
theorem dX5_turnOf_204 : decode cX5_turnOf 204 = .ok (.getfield 7, 3) := by decide +kernel
theorem dX5_turnOf_207 : decode cX5_turnOf 207 = .ok (.sipush 132, 3) := by decide +kernel
theorem dX5_turnOf_210 : decode cX5_turnOf 210 = .ok (.iconst 3, 1) := by decide +kernel
theorem dX5_turnOf_211 : decode cX5_turnOf 211 = .ok (.iload 5, 2) := by decide +kernel
theorem dX5_turnOf_213 : decode cX5_turnOf 213 = .ok (.imul, 1) := by decide +kernel
theorem dX5_turnOf_214 : decode cX5_turnOf 214 = .ok (.iadd, 1) := by decide +kernel
theorem dX5_turnOf_215 : decode cX5_turnOf 215 = .ok (.iaload, 1) := by decide +kernel
theorem dX5_turnOf_216 : decode cX5_turnOf 216 = .ok (.iload 8, 2) := by decide +kernel
theorem dX5_turnOf_218 : decode cX5_turnOf 218 = .ok (.if_icmp .ne 47, 3) := by decide +kernel
theorem dX5_turnOf_221 : decode cX5_turnOf 221 = .ok (.aload_n 0, 1) := by decide +kernel
theorem dX5_turnOf_222 : decode cX5_turnOf 222 = .ok (.getfield 7, 3) := by decide +kernel
theorem dX5_turnOf_225 : decode cX5_turnOf 225 = .ok (.sipush 132, 3) := by decide +kernel
theorem dX5_turnOf_228 : decode cX5_turnOf 228 = .ok (.iconst 3, 1) := by decide +kernel
theorem dX5_turnOf_229 : decode cX5_turnOf 229 = .ok (.iload 5, 2) := by decide +kernel
theorem dX5_turnOf_231 : decode cX5_turnOf 231 = .ok (.imul, 1) := by decide +kernel
theorem dX5_turnOf_232 : decode cX5_turnOf 232 = .ok (.iadd, 1) := by decide +kernel
theorem dX5_turnOf_233 : decode cX5_turnOf 233 = .ok (.iconst 1, 1) := by decide +kernel
theorem dX5_turnOf_234 : decode cX5_turnOf 234 = .ok (.iadd, 1) := by decide +kernel
theorem dX5_turnOf_235 : decode cX5_turnOf 235 = .ok (.iaload, 1) := by decide +kernel
theorem dX5_turnOf_236 : decode cX5_turnOf 236 = .ok (.iload 9, 2) := by decide +kernel
theorem dX5_turnOf_238 : decode cX5_turnOf 238 = .ok (.if_icmp .ne 27, 3) := by decide +kernel
theorem dX5_turnOf_241 : decode cX5_turnOf 241 = .ok (.aload_n 0, 1) := by decide +kernel
theorem dX5_turnOf_242 : decode cX5_turnOf 242 = .ok (.getfield 7, 3) := by decide +kernel
theorem dX5_turnOf_245 : decode cX5_turnOf 245 = .ok (.sipush 132, 3) := by decide +kernel
theorem dX5_turnOf_248 : decode cX5_turnOf 248 = .ok (.iconst 3, 1) := by decide +kernel
theorem dX5_turnOf_249 : decode cX5_turnOf 249 = .ok (.iload 5, 2) := by decide +kernel
theorem dX5_turnOf_251 : decode cX5_turnOf 251 = .ok (.imul, 1) := by decide +kernel
theorem dX5_turnOf_252 : decode cX5_turnOf 252 = .ok (.iadd, 1) := by decide +kernel
theorem dX5_turnOf_253 : decode cX5_turnOf 253 = .ok (.iconst 2, 1) := by decide +kernel
theorem dX5_turnOf_254 : decode cX5_turnOf 254 = .ok (.iadd, 1) := by decide +kernel
theorem dX5_turnOf_255 : decode cX5_turnOf 255 = .ok (.iaload, 1) := by decide +kernel
theorem dX5_turnOf_256 : decode cX5_turnOf 256 = .ok (.iload 10, 2) := by decide +kernel
theorem dX5_turnOf_258 : decode cX5_turnOf 258 = .ok (.if_icmp .ne 7, 3) := by decide +kernel
theorem dX5_turnOf_261 : decode cX5_turnOf 261 = .ok (.iconst 1, 1) := by decide +kernel
theorem dX5_turnOf_262 : decode cX5_turnOf 262 = .ok (.goto 4, 3) := by decide +kernel
theorem dX5_turnOf_265 : decode cX5_turnOf 265 = .ok (.iconst 0, 1) := by decide +kernel
theorem dX5_turnOf_266 : decode cX5_turnOf 266 = .ok (.istore 7, 2) := by decide +kernel
theorem dX5_turnOf_268 : decode cX5_turnOf 268 = .ok (.iload 7, 2) := by decide +kernel
theorem dX5_turnOf_270 : decode cX5_turnOf 270 = .ok (.ifCond .eq 8, 3) := by decide +kernel
theorem dX5_turnOf_273 : decode cX5_turnOf 273 = .ok (.iload 6, 2) := by decide +kernel
theorem dX5_turnOf_275 : decode cX5_turnOf 275 = .ok (.goto 4, 3) := by decide +kernel
theorem dX5_turnOf_278 : decode cX5_turnOf 278 = .ok (.iconst (-1), 1) := by decide +kernel
theorem dX5_turnOf_279 : decode cX5_turnOf 279 = .ok (.ireturn, 1) := by decide +kernel
theorem dX5_flip_0 : decode cX5_flip 0 = .ok (.aload_n 0, 1) := by decide +kernel
theorem dX5_flip_1 : decode cX5_flip 1 = .ok (.iload_n 1, 1) := by decide +kernel
theorem dX5_flip_2 : decode cX5_flip 2 = .ok (.iload_n 2, 1) := by decide +kernel
theorem dX5_flip_3 : decode cX5_flip 3 = .ok (.iload_n 3, 1) := by decide +kernel
theorem dX5_flip_4 : decode cX5_flip 4 = .ok (.invokevirtual 95, 3) := by decide +kernel
theorem dX5_flip_7 : decode cX5_flip 7 = .ok (.istore 4, 2) := by decide +kernel
theorem dX5_flip_9 : decode cX5_flip 9 = .ok (.iload 4, 2) := by decide +kernel
theorem dX5_flip_11 : decode cX5_flip 11 = .ok (.ifCond .eq 13, 3) := by decide +kernel
theorem dX5_flip_14 : decode cX5_flip 14 = .ok (.aload_n 0, 1) := by decide +kernel
theorem dX5_flip_15 : decode cX5_flip 15 = .ok (.iload_n 1, 1) := by decide +kernel
theorem dX5_flip_16 : decode cX5_flip 16 = .ok (.iload_n 2, 1) := by decide +kernel
theorem dX5_flip_17 : decode cX5_flip 17 = .ok (.iload_n 3, 1) := by decide +kernel
theorem dX5_flip_18 : decode cX5_flip 18 = .ok (.invokevirtual 99, 3) := by decide +kernel
theorem dX5_flip_21 : decode cX5_flip 21 = .ok (.goto 4, 3) := by decide +kernel
theorem dX5_flip_24 : decode cX5_flip 24 = .ok (.iconst (-1), 1) := by decide +kernel
theorem dX5_flip_25 : decode cX5_flip 25 = .ok (.istore 5, 2) := by decide +kernel
theorem dX5_flip_27 : decode cX5_flip 27 = .ok (.aload_n 0, 1) := by decide +kernel
theorem dX5_flip_28 : decode cX5_flip 28 = .ok (.iload 4, 2) := by decide +kernel
theorem dX5_flip_30 : decode cX5_flip 30 = .ok (.iload 5, 2) := by decide +kernel
theorem dX5_flip_32 : decode cX5_flip 32 = .ok (.ifCond .lt 7, 3) := by decide +kernel
theorem dX5_flip_35 : decode cX5_flip 35 = .ok (.iconst 1, 1) := by decide +kernel
theorem dX5_flip_36 : decode cX5_flip 36 = .ok (.goto 4, 3) := by decide +kernel
theorem dX5_flip_39 : decode cX5_flip 39 = .ok (.iconst 0, 1) := by decide +kernel
theorem dX5_flip_40 : decode cX5_flip 40 = .ok (.invokevirtual 81, 3) := by decide +kernel
theorem dX5_flip_43 : decode cX5_flip 43 = .ok (.ifCond .ne 5, 3) := by decide +kernel
theorem dX5_flip_46 : decode cX5_flip 46 = .ok (.iconst 0, 1) := by decide +kernel
theorem dX5_flip_47 : decode cX5_flip 47 = .ok (.ireturn, 1) := by decide +kernel
theorem dX5_flip_48 : decode cX5_flip 48 = .ok (.aload_n 0, 1) := by decide +kernel
theorem dX5_flip_49 : decode cX5_flip 49 = .ok (.invokevirtual 85, 3) := by decide +kernel
theorem dX5_flip_52 : decode cX5_flip 52 = .ok (.aload_n 0, 1) := by decide +kernel
theorem dX5_flip_53 : decode cX5_flip 53 = .ok (.iconst 0, 1) := by decide +kernel
theorem dX5_flip_54 : decode cX5_flip 54 = .ok (.aload_n 0, 1) := by decide +kernel
theorem dX5_flip_55 : decode cX5_flip 55 = .ok (.getfield 7, 3) := by decide +kernel
theorem dX5_flip_58 : decode cX5_flip 58 = .ok (.bipush 67, 2) := by decide +kernel
theorem dX5_flip_60 : decode cX5_flip 60 = .ok (.bipush 8, 2) := by decide +kernel
theorem dX5_flip_62 : decode cX5_flip 62 = .ok (.iload_n 2, 1) := by decide +kernel
theorem dX5_flip_63 : decode cX5_flip 63 = .ok (.imul, 1) := by decide +kernel
theorem dX5_flip_64 : decode cX5_flip 64 = .ok (.iadd, 1) := by decide +kernel
theorem dX5_flip_65 : decode cX5_flip 65 = .ok (.iload_n 1, 1) := by decide +kernel
theorem dX5_flip_66 : decode cX5_flip 66 = .ok (.iadd, 1) := by decide +kernel
theorem dX5_flip_67 : decode cX5_flip 67 = .ok (.iaload, 1) := by decide +kernel
theorem dX5_flip_68 : decode cX5_flip 68 = .ok (.invokevirtual 78, 3) := by decide +kernel
theorem dX5_flip_71 : decode cX5_flip 71 = .ok (.aload_n 0, 1) := by decide +kernel
theorem dX5_flip_72 : decode cX5_flip 72 = .ok (.iconst 0, 1) := by decide +kernel
theorem dX5_flip_73 : decode cX5_flip 73 = .ok (.aload_n 0, 1) := by decide +kernel
theorem dX5_flip_74 : decode cX5_flip 74 = .ok (.getfield 7, 3) := by decide +kernel
theorem dX5_flip_77 : decode cX5_flip 77 = .ok (.bipush 67, 2) := by decide +kernel
theorem dX5_flip_79 : decode cX5_flip 79 = .ok (.bipush 8, 2) := by decide +kernel
theorem dX5_flip_81 : decode cX5_flip 81 = .ok (.iload_n 2, 1) := by decide +kernel
theorem dX5_flip_82 : decode cX5_flip 82 = .ok (.iload_n 3, 1) := by decide +kernel
theorem dX5_flip_83 : decode cX5_flip 83 = .ok (.ifCond .eq 7, 3) := by decide +kernel
theorem dX5_flip_86 : decode cX5_flip 86 = .ok (.iconst 2, 1) := by decide +kernel
theorem dX5_flip_87 : decode cX5_flip 87 = .ok (.goto 4, 3) := by decide +kernel
theorem dX5_flip_90 : decode cX5_flip 90 = .ok (.iconst 1, 1) := by decide +kernel
theorem dX5_flip_91 : decode cX5_flip 91 = .ok (.iadd, 1) := by decide +kernel
theorem dX5_flip_92 : decode cX5_flip 92 = .ok (.imul, 1) := by decide +kernel
theorem dX5_flip_93 : decode cX5_flip 93 = .ok (.iadd, 1) := by decide +kernel
theorem dX5_flip_94 : decode cX5_flip 94 = .ok (.iload_n 1, 1) := by decide +kernel
theorem dX5_flip_95 : decode cX5_flip 95 = .ok (.iadd, 1) := by decide +kernel
theorem dX5_flip_96 : decode cX5_flip 96 = .ok (.iload_n 3, 1) := by decide +kernel
theorem dX5_flip_97 : decode cX5_flip 97 = .ok (.ifCond .eq 7, 3) := by decide +kernel
theorem dX5_flip_100 : decode cX5_flip 100 = .ok (.iconst 1, 1) := by decide +kernel
theorem dX5_flip_101 : decode cX5_flip 101 = .ok (.goto 4, 3) := by decide +kernel
theorem dX5_flip_104 : decode cX5_flip 104 = .ok (.iconst 2, 1) := by decide +kernel
theorem dX5_flip_105 : decode cX5_flip 105 = .ok (.iadd, 1) := by decide +kernel
theorem dX5_flip_106 : decode cX5_flip 106 = .ok (.iaload, 1) := by decide +kernel
theorem dX5_flip_107 : decode cX5_flip 107 = .ok (.invokevirtual 78, 3) := by decide +kernel
theorem dX5_flip_110 : decode cX5_flip 110 = .ok (.iload 5, 2) := by decide +kernel
theorem dX5_flip_112 : decode cX5_flip 112 = .ok (.iconst 2, 1) := by decide +kernel
theorem dX5_flip_113 : decode cX5_flip 113 = .ok (.if_icmp .eq 7, 3) := by decide +kernel
theorem dX5_flip_116 : decode cX5_flip 116 = .ok (.iconst 2, 1) := by decide +kernel
theorem dX5_flip_117 : decode cX5_flip 117 = .ok (.goto 12, 3) := by decide +kernel
theorem dX5_flip_120 : decode cX5_flip 120 = .ok (.iload_n 3, 1) := by decide +kernel
theorem dX5_flip_121 : decode cX5_flip 121 = .ok (.ifCond .eq 7, 3) := by decide +kernel
theorem dX5_flip_124 : decode cX5_flip 124 = .ok (.iconst 3, 1) := by decide +kernel
theorem dX5_flip_125 : decode cX5_flip 125 = .ok (.goto 4, 3) := by decide +kernel
theorem dX5_flip_128 : decode cX5_flip 128 = .ok (.iconst 1, 1) := by decide +kernel
theorem dX5_flip_129 : decode cX5_flip 129 = .ok (.istore 6, 2) := by decide +kernel
theorem dX5_flip_131 : decode cX5_flip 131 = .ok (.aload_n 0, 1) := by decide +kernel
theorem dX5_flip_132 : decode cX5_flip 132 = .ok (.iconst 0, 1) := by decide +kernel
theorem dX5_flip_133 : decode cX5_flip 133 = .ok (.iload_n 1, 1) := by decide +kernel
theorem dX5_flip_134 : decode cX5_flip 134 = .ok (.iload_n 2, 1) := by decide +kernel
theorem dX5_flip_135 : decode cX5_flip 135 = .ok (.iload 6, 2) := by decide +kernel
theorem dX5_flip_137 : decode cX5_flip 137 = .ok (.invokevirtual 70, 3) := by decide +kernel
theorem dX5_flip_140 : decode cX5_flip 140 = .ok (.aload_n 0, 1) := by decide +kernel
theorem dX5_flip_141 : decode cX5_flip 141 = .ok (.iconst 0, 1) := by decide +kernel
theorem dX5_flip_142 : decode cX5_flip 142 = .ok (.iload_n 3, 1) := by decide +kernel
theorem dX5_flip_143 : decode cX5_flip 143 = .ok (.ifCond .eq 7, 3) := by decide +kernel
theorem dX5_flip_146 : decode cX5_flip 146 = .ok (.iload_n 1, 1) := by decide +kernel
theorem dX5_flip_147 : decode cX5_flip 147 = .ok (.goto 6, 3) := by decide +kernel
theorem dX5_flip_150 : decode cX5_flip 150 = .ok (.iload_n 1, 1) := by decide +kernel
theorem dX5_flip_151 : decode cX5_flip 151 = .ok (.iconst 1, 1) := by decide +kernel
theorem dX5_flip_152 : decode cX5_flip 152 = .ok (.iadd, 1) := by decide +kernel
theorem dX5_flip_153 : decode cX5_flip 153 = .ok (.iload_n 3, 1) := by decide +kernel
theorem dX5_flip_154 : decode cX5_flip 154 = .ok (.ifCond .eq 9, 3) := by decide +kernel
theorem dX5_flip_157 : decode cX5_flip 157 = .ok (.iload_n 2, 1) := by decide +kernel
theorem dX5_flip_158 : decode cX5_flip 158 = .ok (.iconst 1, 1) := by decide +kernel
theorem dX5_flip_159 : decode cX5_flip 159 = .ok (.iadd, 1) := by decide +kernel
theorem dX5_flip_160 : decode cX5_flip 160 = .ok (.goto 4, 3) := by decide +kernel
theorem dX5_flip_163 : decode cX5_flip 163 = .ok (.iload_n 2, 1) := by decide +kernel
theorem dX5_flip_164 : decode cX5_flip 164 = .ok (.iload 6, 2) := by decide +kernel
theorem dX5_flip_166 : decode cX5_flip 166 = .ok (.iconst 2, 1) := by decide +kernel
theorem dX5_flip_167 : decode cX5_flip 167 = .ok (.if_icmp .ne 7, 3) := by decide +kernel
theorem dX5_flip_170 : decode cX5_flip 170 = .ok (.iconst 0, 1) := by decide +kernel
theorem dX5_flip_171 : decode cX5_flip 171 = .ok (.goto 12, 3) := by decide +kernel
theorem dX5_flip_174 : decode cX5_flip 174 = .ok (.iload_n 3, 1) := by decide +kernel
theorem dX5_flip_175 : decode cX5_flip 175 = .ok (.ifCond .eq 7, 3) := by decide +kernel
theorem dX5_flip_178 : decode cX5_flip 178 = .ok (.iconst 1, 1) := by decide +kernel
theorem dX5_flip_179 : decode cX5_flip 179 = .ok (.goto 4, 3) := by decide +kernel
theorem dX5_flip_182 : decode cX5_flip 182 = .ok (.iconst 3, 1) := by decide +kernel
theorem dX5_flip_183 : decode cX5_flip 183 = .ok (.invokevirtual 70, 3) := by decide +kernel
theorem dX5_flip_186 : decode cX5_flip 186 = .ok (.aload_n 0, 1) := by decide +kernel
theorem dX5_flip_187 : decode cX5_flip 187 = .ok (.getfield 7, 3) := by decide +kernel
theorem dX5_flip_190 : decode cX5_flip 190 = .ok (.sipush 195, 3) := by decide +kernel
theorem dX5_flip_193 : decode cX5_flip 193 = .ok (.dup2, 1) := by decide +kernel
theorem dX5_flip_194 : decode cX5_flip 194 = .ok (.iaload, 1) := by decide +kernel
theorem dX5_flip_195 : decode cX5_flip 195 = .ok (.iconst 1, 1) := by decide +kernel
theorem dX5_flip_196 : decode cX5_flip 196 = .ok (.iadd, 1) := by decide +kernel
theorem dX5_flip_197 : decode cX5_flip 197 = .ok (.iastore, 1) := by decide +kernel
theorem dX5_flip_198 : decode cX5_flip 198 = .ok (.aload_n 0, 1) := by decide +kernel
theorem dX5_flip_199 : decode cX5_flip 199 = .ok (.getfield 7, 3) := by decide +kernel
theorem dX5_flip_202 : decode cX5_flip 202 = .ok (.sipush 195, 3) := by decide +kernel
theorem dX5_flip_205 : decode cX5_flip 205 = .ok (.iaload, 1) := by decide +kernel
theorem dX5_flip_206 : decode cX5_flip 206 = .ok (.ireturn, 1) := by decide +kernel
theorem dX5_fill_0 : decode cX5_fill 0 = .ok (.aload_n 0, 1) := by decide +kernel
theorem dX5_fill_1 : decode cX5_fill 1 = .ok (.aload_n 0, 1) := by decide +kernel
theorem dX5_fill_2 : decode cX5_fill 2 = .ok (.iconst 0, 1) := by decide +kernel
theorem dX5_fill_3 : decode cX5_fill 3 = .ok (.invokevirtual 74, 3) := by decide +kernel
theorem dX5_fill_6 : decode cX5_fill 6 = .ok (.ifCond .le 7, 3) := by decide +kernel
theorem dX5_fill_9 : decode cX5_fill 9 = .ok (.iconst 1, 1) := by decide +kernel
theorem dX5_fill_10 : decode cX5_fill 10 = .ok (.goto 4, 3) := by decide +kernel
theorem dX5_fill_13 : decode cX5_fill 13 = .ok (.iconst 0, 1) := by decide +kernel
theorem dX5_fill_14 : decode cX5_fill 14 = .ok (.iconst 1, 1) := by decide +kernel
theorem dX5_fill_15 : decode cX5_fill 15 = .ok (.invokevirtual 81, 3) := by decide +kernel
theorem dX5_fill_18 : decode cX5_fill 18 = .ok (.ifCond .ne 5, 3) := by decide +kernel
theorem dX5_fill_21 : decode cX5_fill 21 = .ok (.iconst 0, 1) := by decide +kernel
theorem dX5_fill_22 : decode cX5_fill 22 = .ok (.ireturn, 1) := by decide +kernel
theorem dX5_fill_23 : decode cX5_fill 23 = .ok (.aload_n 0, 1) := by decide +kernel
theorem dX5_fill_24 : decode cX5_fill 24 = .ok (.invokevirtual 85, 3) := by decide +kernel
theorem dX5_fill_27 : decode cX5_fill 27 = .ok (.aload_n 0, 1) := by decide +kernel
theorem dX5_fill_28 : decode cX5_fill 28 = .ok (.iconst 0, 1) := by decide +kernel
theorem dX5_fill_29 : decode cX5_fill 29 = .ok (.invokevirtual 103, 3) := by decide +kernel
theorem dX5_fill_32 : decode cX5_fill 32 = .ok (.ireturn, 1) := by decide +kernel
theorem dX5_areSquares_0 : decode cX5_areSquares 0 = .ok (.aload_n 0, 1) := by decide +kernel
theorem dX5_areSquares_1 : decode cX5_areSquares 1 = .ok (.getfield 7, 3) := by decide +kernel
theorem dX5_areSquares_4 : decode cX5_areSquares 4 = .ok (.iconst 0, 1) := by decide +kernel
theorem dX5_areSquares_5 : decode cX5_areSquares 5 = .ok (.iaload, 1) := by decide +kernel
theorem dX5_areSquares_6 : decode cX5_areSquares 6 = .ok (.istore_n 1, 1) := by decide +kernel
theorem dX5_areSquares_7 : decode cX5_areSquares 7 = .ok (.iload_n 1, 1) := by decide +kernel
theorem dX5_areSquares_8 : decode cX5_areSquares 8 = .ok (.aload_n 0, 1) := by decide +kernel
theorem dX5_areSquares_9 : decode cX5_areSquares 9 = .ok (.getfield 7, 3) := by decide +kernel
theorem dX5_areSquares_12 : decode cX5_areSquares 12 = .ok (.iconst 1, 1) := by decide +kernel
theorem dX5_areSquares_13 : decode cX5_areSquares 13 = .ok (.iaload, 1) := by decide +kernel
theorem dX5_areSquares_14 : decode cX5_areSquares 14 = .ok (.if_icmp .ne 41, 3) := by decide +kernel
theorem dX5_areSquares_17 : decode cX5_areSquares 17 = .ok (.iload_n 1, 1) := by decide +kernel
theorem dX5_areSquares_18 : decode cX5_areSquares 18 = .ok (.iconst 2, 1) := by decide +kernel
theorem dX5_areSquares_19 : decode cX5_areSquares 19 = .ok (.if_icmp .eq 14, 3) := by decide +kernel
theorem dX5_areSquares_22 : decode cX5_areSquares 22 = .ok (.iload_n 1, 1) := by decide +kernel
theorem dX5_areSquares_23 : decode cX5_areSquares 23 = .ok (.iconst 4, 1) := by decide +kernel
theorem dX5_areSquares_24 : decode cX5_areSquares 24 = .ok (.if_icmp .eq 9, 3) := by decide +kernel
theorem dX5_areSquares_27 : decode cX5_areSquares 27 = .ok (.iload_n 1, 1) := by decide +kernel
theorem dX5_areSquares_28 : decode cX5_areSquares 28 = .ok (.bipush 8, 2) := by decide +kernel
theorem dX5_areSquares_30 : decode cX5_areSquares 30 = .ok (.if_icmp .ne 25, 3) := by decide +kernel
theorem dX5_areSquares_33 : decode cX5_areSquares 33 = .ok (.aload_n 0, 1) := by decide +kernel
theorem dX5_areSquares_34 : decode cX5_areSquares 34 = .ok (.invokevirtual 91, 3) := by decide +kernel
theorem dX5_areSquares_37 : decode cX5_areSquares 37 = .ok (.ifCond .ne 18, 3) := by decide +kernel
theorem dX5_areSquares_40 : decode cX5_areSquares 40 = .ok (.aload_n 0, 1) := by decide +kernel
theorem dX5_areSquares_41 : decode cX5_areSquares 41 = .ok (.getfield 7, 3) := by decide +kernel
theorem dX5_areSquares_44 : decode cX5_areSquares 44 = .ok (.sipush 131, 3) := by decide +kernel
theorem dX5_areSquares_47 : decode cX5_areSquares 47 = .ok (.iaload, 1) := by decide +kernel
theorem dX5_areSquares_48 : decode cX5_areSquares 48 = .ok (.ifCond .ne 7, 3) := by decide +kernel
theorem dX5_areSquares_51 : decode cX5_areSquares 51 = .ok (.iconst 1, 1) := by decide +kernel
theorem dX5_areSquares_52 : decode cX5_areSquares 52 = .ok (.goto 4, 3) := by decide +kernel
theorem dX5_areSquares_55 : decode cX5_areSquares 55 = .ok (.iconst 0, 1) := by decide +kernel
theorem dX5_areSquares_56 : decode cX5_areSquares 56 = .ok (.ireturn, 1) := by decide +kernel
theorem dX5_pushes_0 : decode cX5_pushes 0 = .ok (.aload_n 0, 1) := by decide +kernel
theorem dX5_pushes_1 : decode cX5_pushes 1 = .ok (.getfield 27, 3) := by decide +kernel
theorem dX5_pushes_4 : decode cX5_pushes 4 = .ok (.iconst 5, 1) := by decide +kernel
theorem dX5_pushes_5 : decode cX5_pushes 5 = .ok (.iload_n 1, 1) := by decide +kernel
theorem dX5_pushes_6 : decode cX5_pushes 6 = .ok (.imul, 1) := by decide +kernel
theorem dX5_pushes_7 : decode cX5_pushes 7 = .ok (.iload_n 2, 1) := by decide +kernel
theorem dX5_pushes_8 : decode cX5_pushes 8 = .ok (.iastore, 1) := by decide +kernel
theorem dX5_pushes_9 : decode cX5_pushes 9 = .ok (.aload_n 0, 1) := by decide +kernel
theorem dX5_pushes_10 : decode cX5_pushes 10 = .ok (.getfield 27, 3) := by decide +kernel
theorem dX5_pushes_13 : decode cX5_pushes 13 = .ok (.iconst 5, 1) := by decide +kernel
theorem dX5_pushes_14 : decode cX5_pushes 14 = .ok (.iload_n 1, 1) := by decide +kernel
theorem dX5_pushes_15 : decode cX5_pushes 15 = .ok (.imul, 1) := by decide +kernel
theorem dX5_pushes_16 : decode cX5_pushes 16 = .ok (.iconst 1, 1) := by decide +kernel
theorem dX5_pushes_17 : decode cX5_pushes 17 = .ok (.iadd, 1) := by decide +kernel
theorem dX5_pushes_18 : decode cX5_pushes 18 = .ok (.iload_n 3, 1) := by decide +kernel
theorem dX5_pushes_19 : decode cX5_pushes 19 = .ok (.iastore, 1) := by decide +kernel
theorem dX5_pushes_20 : decode cX5_pushes 20 = .ok (.aload_n 0, 1) := by decide +kernel
theorem dX5_pushes_21 : decode cX5_pushes 21 = .ok (.getfield 27, 3) := by decide +kernel
theorem dX5_pushes_24 : decode cX5_pushes 24 = .ok (.iconst 5, 1) := by decide +kernel
theorem dX5_pushes_25 : decode cX5_pushes 25 = .ok (.iload_n 1, 1) := by decide +kernel
theorem dX5_pushes_26 : decode cX5_pushes 26 = .ok (.imul, 1) := by decide +kernel
theorem dX5_pushes_27 : decode cX5_pushes 27 = .ok (.iconst 2, 1) := by decide +kernel
theorem dX5_pushes_28 : decode cX5_pushes 28 = .ok (.iadd, 1) := by decide +kernel
theorem dX5_pushes_29 : decode cX5_pushes 29 = .ok (.iload 4, 2) := by decide +kernel
theorem dX5_pushes_31 : decode cX5_pushes 31 = .ok (.iastore, 1) := by decide +kernel
theorem dX5_pushes_32 : decode cX5_pushes 32 = .ok (.aload_n 0, 1) := by decide +kernel
theorem dX5_pushes_33 : decode cX5_pushes 33 = .ok (.getfield 27, 3) := by decide +kernel
theorem dX5_pushes_36 : decode cX5_pushes 36 = .ok (.iconst 5, 1) := by decide +kernel
theorem dX5_pushes_37 : decode cX5_pushes 37 = .ok (.iload_n 1, 1) := by decide +kernel
theorem dX5_pushes_38 : decode cX5_pushes 38 = .ok (.imul, 1) := by decide +kernel
theorem dX5_pushes_39 : decode cX5_pushes 39 = .ok (.iconst 3, 1) := by decide +kernel
theorem dX5_pushes_40 : decode cX5_pushes 40 = .ok (.iadd, 1) := by decide +kernel
theorem dX5_pushes_41 : decode cX5_pushes 41 = .ok (.iload 5, 2) := by decide +kernel
theorem dX5_pushes_43 : decode cX5_pushes 43 = .ok (.bipush 8, 2) := by decide +kernel
theorem dX5_pushes_45 : decode cX5_pushes 45 = .ok (.irem, 1) := by decide +kernel
theorem dX5_pushes_46 : decode cX5_pushes 46 = .ok (.iastore, 1) := by decide +kernel
theorem dX5_pushes_47 : decode cX5_pushes 47 = .ok (.aload_n 0, 1) := by decide +kernel
theorem dX5_pushes_48 : decode cX5_pushes 48 = .ok (.getfield 27, 3) := by decide +kernel
theorem dX5_pushes_51 : decode cX5_pushes 51 = .ok (.iconst 5, 1) := by decide +kernel
theorem dX5_pushes_52 : decode cX5_pushes 52 = .ok (.iload_n 1, 1) := by decide +kernel
theorem dX5_pushes_53 : decode cX5_pushes 53 = .ok (.imul, 1) := by decide +kernel
theorem dX5_pushes_54 : decode cX5_pushes 54 = .ok (.iconst 4, 1) := by decide +kernel
theorem dX5_pushes_55 : decode cX5_pushes 55 = .ok (.iadd, 1) := by decide +kernel
theorem dX5_pushes_56 : decode cX5_pushes 56 = .ok (.iload 5, 2) := by decide +kernel
theorem dX5_pushes_58 : decode cX5_pushes 58 = .ok (.bipush 8, 2) := by decide +kernel
theorem dX5_pushes_60 : decode cX5_pushes 60 = .ok (.idiv, 1) := by decide +kernel
theorem dX5_pushes_61 : decode cX5_pushes 61 = .ok (.iastore, 1) := by decide +kernel
theorem dX5_pushes_62 : decode cX5_pushes 62 = .ok (.return_, 1) := by decide +kernel
theorem dX5_quarter_0 : decode cX5_quarter 0 = .ok (.aload_n 0, 1) := by decide +kernel
theorem dX5_quarter_1 : decode cX5_quarter 1 = .ok (.getfield 27, 3) := by decide +kernel
theorem dX5_quarter_4 : decode cX5_quarter 4 = .ok (.iload_n 1, 1) := by decide +kernel
theorem dX5_quarter_5 : decode cX5_quarter 5 = .ok (.iconst 2, 1) := by decide +kernel
theorem dX5_quarter_6 : decode cX5_quarter 6 = .ok (.iadd, 1) := by decide +kernel
theorem dX5_quarter_7 : decode cX5_quarter 7 = .ok (.iaload, 1) := by decide +kernel
theorem dX5_quarter_8 : decode cX5_quarter 8 = .ok (.iconst 2, 1) := by decide +kernel
theorem dX5_quarter_9 : decode cX5_quarter 9 = .ok (.idiv, 1) := by decide +kernel
theorem dX5_quarter_10 : decode cX5_quarter 10 = .ok (.istore_n 2, 1) := by decide +kernel
theorem dX5_quarter_11 : decode cX5_quarter 11 = .ok (.aload_n 0, 1) := by decide +kernel
theorem dX5_quarter_12 : decode cX5_quarter 12 = .ok (.getfield 27, 3) := by decide +kernel
theorem dX5_quarter_15 : decode cX5_quarter 15 = .ok (.iload_n 1, 1) := by decide +kernel
theorem dX5_quarter_16 : decode cX5_quarter 16 = .ok (.iconst 3, 1) := by decide +kernel
theorem dX5_quarter_17 : decode cX5_quarter 17 = .ok (.iadd, 1) := by decide +kernel
theorem dX5_quarter_18 : decode cX5_quarter 18 = .ok (.iaload, 1) := by decide +kernel
theorem dX5_quarter_19 : decode cX5_quarter 19 = .ok (.aload_n 0, 1) := by decide +kernel
theorem dX5_quarter_20 : decode cX5_quarter 20 = .ok (.getfield 27, 3) := by decide +kernel
theorem dX5_quarter_23 : decode cX5_quarter 23 = .ok (.iload_n 1, 1) := by decide +kernel
theorem dX5_quarter_24 : decode cX5_quarter 24 = .ok (.iaload, 1) := by decide +kernel
theorem dX5_quarter_25 : decode cX5_quarter 25 = .ok (.iload_n 2, 1) := by decide +kernel
theorem dX5_quarter_26 : decode cX5_quarter 26 = .ok (.iadd, 1) := by decide +kernel
theorem dX5_quarter_27 : decode cX5_quarter 27 = .ok (.if_icmp .lt 7, 3) := by decide +kernel
theorem dX5_quarter_30 : decode cX5_quarter 30 = .ok (.iconst 1, 1) := by decide +kernel
theorem dX5_quarter_31 : decode cX5_quarter 31 = .ok (.goto 4, 3) := by decide +kernel
theorem dX5_quarter_34 : decode cX5_quarter 34 = .ok (.iconst 0, 1) := by decide +kernel
theorem dX5_quarter_35 : decode cX5_quarter 35 = .ok (.istore_n 3, 1) := by decide +kernel
theorem dX5_quarter_36 : decode cX5_quarter 36 = .ok (.aload_n 0, 1) := by decide +kernel
theorem dX5_quarter_37 : decode cX5_quarter 37 = .ok (.getfield 27, 3) := by decide +kernel
theorem dX5_quarter_40 : decode cX5_quarter 40 = .ok (.iload_n 1, 1) := by decide +kernel
theorem dX5_quarter_41 : decode cX5_quarter 41 = .ok (.iconst 4, 1) := by decide +kernel
theorem dX5_quarter_42 : decode cX5_quarter 42 = .ok (.iadd, 1) := by decide +kernel
theorem dX5_quarter_43 : decode cX5_quarter 43 = .ok (.iaload, 1) := by decide +kernel
theorem dX5_quarter_44 : decode cX5_quarter 44 = .ok (.aload_n 0, 1) := by decide +kernel
theorem dX5_quarter_45 : decode cX5_quarter 45 = .ok (.getfield 27, 3) := by decide +kernel
theorem dX5_quarter_48 : decode cX5_quarter 48 = .ok (.iload_n 1, 1) := by decide +kernel
theorem dX5_quarter_49 : decode cX5_quarter 49 = .ok (.iconst 1, 1) := by decide +kernel
theorem dX5_quarter_50 : decode cX5_quarter 50 = .ok (.iadd, 1) := by decide +kernel
theorem dX5_quarter_51 : decode cX5_quarter 51 = .ok (.iaload, 1) := by decide +kernel
theorem dX5_quarter_52 : decode cX5_quarter 52 = .ok (.iload_n 2, 1) := by decide +kernel
theorem dX5_quarter_53 : decode cX5_quarter 53 = .ok (.iadd, 1) := by decide +kernel
theorem dX5_quarter_54 : decode cX5_quarter 54 = .ok (.if_icmp .lt 7, 3) := by decide +kernel
theorem dX5_quarter_57 : decode cX5_quarter 57 = .ok (.iconst 1, 1) := by decide +kernel
theorem dX5_quarter_58 : decode cX5_quarter 58 = .ok (.goto 4, 3) := by decide +kernel
theorem dX5_quarter_61 : decode cX5_quarter 61 = .ok (.iconst 0, 1) := by decide +kernel
theorem dX5_quarter_62 : decode cX5_quarter 62 = .ok (.istore 4, 2) := by decide +kernel
theorem dX5_quarter_64 : decode cX5_quarter 64 = .ok (.iload 4, 2) := by decide +kernel
theorem dX5_quarter_66 : decode cX5_quarter 66 = .ok (.ifCond .eq 15, 3) := by decide +kernel
theorem dX5_quarter_69 : decode cX5_quarter 69 = .ok (.iload_n 3, 1) := by decide +kernel
theorem dX5_quarter_70 : decode cX5_quarter 70 = .ok (.ifCond .eq 7, 3) := by decide +kernel
theorem dX5_quarter_73 : decode cX5_quarter 73 = .ok (.iconst 2, 1) := by decide +kernel
theorem dX5_quarter_74 : decode cX5_quarter 74 = .ok (.goto 16, 3) := by decide +kernel
theorem dX5_quarter_77 : decode cX5_quarter 77 = .ok (.iconst 3, 1) := by decide +kernel
theorem dX5_quarter_78 : decode cX5_quarter 78 = .ok (.goto 12, 3) := by decide +kernel
theorem dX5_quarter_81 : decode cX5_quarter 81 = .ok (.iload_n 3, 1) := by decide +kernel
theorem dX5_quarter_82 : decode cX5_quarter 82 = .ok (.ifCond .eq 7, 3) := by decide +kernel
theorem dX5_quarter_85 : decode cX5_quarter 85 = .ok (.iconst 1, 1) := by decide +kernel
theorem dX5_quarter_86 : decode cX5_quarter 86 = .ok (.goto 4, 3) := by decide +kernel
theorem dX5_quarter_89 : decode cX5_quarter 89 = .ok (.iconst 0, 1) := by decide +kernel
theorem dX5_quarter_90 : decode cX5_quarter 90 = .ok (.ireturn, 1) := by decide +kernel
theorem dX5_halve_0 : decode cX5_halve 0 = .ok (.aload_n 0, 1) := by decide +kernel
theorem dX5_halve_1 : decode cX5_halve 1 = .ok (.aload_n 0, 1) := by decide +kernel
theorem dX5_halve_2 : decode cX5_halve 2 = .ok (.invokevirtual 106, 3) := by decide +kernel
theorem dX5_halve_5 : decode cX5_halve 5 = .ok (.iconst 1, 1) := by decide +kernel
theorem dX5_halve_6 : decode cX5_halve 6 = .ok (.invokevirtual 81, 3) := by decide +kernel
theorem dX5_halve_9 : decode cX5_halve 9 = .ok (.ifCond .ne 5, 3) := by decide +kernel
theorem dX5_halve_12 : decode cX5_halve 12 = .ok (.iconst 0, 1) := by decide +kernel
theorem dX5_halve_13 : decode cX5_halve 13 = .ok (.ireturn, 1) := by decide +kernel
theorem dX5_halve_14 : decode cX5_halve 14 = .ok (.aload_n 0, 1) := by decide +kernel
theorem dX5_halve_15 : decode cX5_halve 15 = .ok (.invokevirtual 85, 3) := by decide +kernel
theorem dX5_halve_18 : decode cX5_halve 18 = .ok (.iconst 1, 1) := by decide +kernel
theorem dX5_halve_19 : decode cX5_halve 19 = .ok (.istore_n 1, 1) := by decide +kernel
theorem dX5_halve_20 : decode cX5_halve 20 = .ok (.aload_n 0, 1) := by decide +kernel
theorem dX5_halve_21 : decode cX5_halve 21 = .ok (.iconst 0, 1) := by decide +kernel
theorem dX5_halve_22 : decode cX5_halve 22 = .ok (.iconst 0, 1) := by decide +kernel
theorem dX5_halve_23 : decode cX5_halve 23 = .ok (.iconst 0, 1) := by decide +kernel
theorem dX5_halve_24 : decode cX5_halve 24 = .ok (.aload_n 0, 1) := by decide +kernel
theorem dX5_halve_25 : decode cX5_halve 25 = .ok (.getfield 7, 3) := by decide +kernel
theorem dX5_halve_28 : decode cX5_halve 28 = .ok (.iconst 0, 1) := by decide +kernel
theorem dX5_halve_29 : decode cX5_halve 29 = .ok (.iaload, 1) := by decide +kernel
theorem dX5_halve_30 : decode cX5_halve 30 = .ok (.aload_n 0, 1) := by decide +kernel
theorem dX5_halve_31 : decode cX5_halve 31 = .ok (.getfield 7, 3) := by decide +kernel
theorem dX5_halve_34 : decode cX5_halve 34 = .ok (.iconst 2, 1) := by decide +kernel
theorem dX5_halve_35 : decode cX5_halve 35 = .ok (.iaload, 1) := by decide +kernel
theorem dX5_halve_36 : decode cX5_halve 36 = .ok (.invokevirtual 110, 3) := by decide +kernel
theorem dX5_halve_39 : decode cX5_halve 39 = .ok (.iload_n 1, 1) := by decide +kernel
theorem dX5_halve_40 : decode cX5_halve 40 = .ok (.ifCond .le 255, 3) := by decide +kernel
theorem dX5_halve_43 : decode cX5_halve 43 = .ok (.iinc 1 (-1), 3) := by decide +kernel
theorem dX5_halve_46 : decode cX5_halve 46 = .ok (.iconst 5, 1) := by decide +kernel
theorem dX5_halve_47 : decode cX5_halve 47 = .ok (.iload_n 1, 1) := by decide +kernel
theorem dX5_halve_48 : decode cX5_halve 48 = .ok (.imul, 1) := by decide +kernel
theorem dX5_halve_49 : decode cX5_halve 49 = .ok (.istore_n 2, 1) := by decide +kernel
theorem dX5_halve_50 : decode cX5_halve 50 = .ok (.aload_n 0, 1) := by decide +kernel
theorem dX5_halve_51 : decode cX5_halve 51 = .ok (.getfield 27, 3) := by decide +kernel
theorem dX5_halve_54 : decode cX5_halve 54 = .ok (.iload_n 2, 1) := by decide +kernel
theorem dX5_halve_55 : decode cX5_halve 55 = .ok (.iaload, 1) := by decide +kernel
theorem dX5_halve_56 : decode cX5_halve 56 = .ok (.istore_n 3, 1) := by decide +kernel
theorem dX5_halve_57 : decode cX5_halve 57 = .ok (.aload_n 0, 1) := by decide +kernel
theorem dX5_halve_58 : decode cX5_halve 58 = .ok (.getfield 27, 3) := by decide +kernel
theorem dX5_halve_61 : decode cX5_halve 61 = .ok (.iload_n 2, 1) := by decide +kernel
theorem dX5_halve_62 : decode cX5_halve 62 = .ok (.iconst 1, 1) := by decide +kernel
theorem dX5_halve_63 : decode cX5_halve 63 = .ok (.iadd, 1) := by decide +kernel
theorem dX5_halve_64 : decode cX5_halve 64 = .ok (.iaload, 1) := by decide +kernel
theorem dX5_halve_65 : decode cX5_halve 65 = .ok (.istore 4, 2) := by decide +kernel
theorem dX5_halve_67 : decode cX5_halve 67 = .ok (.aload_n 0, 1) := by decide +kernel
theorem dX5_halve_68 : decode cX5_halve 68 = .ok (.getfield 27, 3) := by decide +kernel
theorem dX5_halve_71 : decode cX5_halve 71 = .ok (.iload_n 2, 1) := by decide +kernel
theorem dX5_halve_72 : decode cX5_halve 72 = .ok (.iconst 2, 1) := by decide +kernel
theorem dX5_halve_73 : decode cX5_halve 73 = .ok (.iadd, 1) := by decide +kernel
theorem dX5_halve_74 : decode cX5_halve 74 = .ok (.iaload, 1) := by decide +kernel
theorem dX5_halve_75 : decode cX5_halve 75 = .ok (.iconst 2, 1) := by decide +kernel
theorem dX5_halve_76 : decode cX5_halve 76 = .ok (.idiv, 1) := by decide +kernel
theorem dX5_halve_77 : decode cX5_halve 77 = .ok (.istore 5, 2) := by decide +kernel
theorem dX5_halve_79 : decode cX5_halve 79 = .ok (.bipush 8, 2) := by decide +kernel
theorem dX5_halve_81 : decode cX5_halve 81 = .ok (.aload_n 0, 1) := by decide +kernel
theorem dX5_halve_82 : decode cX5_halve 82 = .ok (.getfield 27, 3) := by decide +kernel
theorem dX5_halve_85 : decode cX5_halve 85 = .ok (.iload_n 2, 1) := by decide +kernel
theorem dX5_halve_86 : decode cX5_halve 86 = .ok (.iconst 4, 1) := by decide +kernel
theorem dX5_halve_87 : decode cX5_halve 87 = .ok (.iadd, 1) := by decide +kernel
theorem dX5_halve_88 : decode cX5_halve 88 = .ok (.iaload, 1) := by decide +kernel
theorem dX5_halve_89 : decode cX5_halve 89 = .ok (.imul, 1) := by decide +kernel
theorem dX5_halve_90 : decode cX5_halve 90 = .ok (.aload_n 0, 1) := by decide +kernel
theorem dX5_halve_91 : decode cX5_halve 91 = .ok (.getfield 27, 3) := by decide +kernel
theorem dX5_halve_94 : decode cX5_halve 94 = .ok (.iload_n 2, 1) := by decide +kernel
theorem dX5_halve_95 : decode cX5_halve 95 = .ok (.iconst 3, 1) := by decide +kernel
theorem dX5_halve_96 : decode cX5_halve 96 = .ok (.iadd, 1) := by decide +kernel
theorem dX5_halve_97 : decode cX5_halve 97 = .ok (.iaload, 1) := by decide +kernel
theorem dX5_halve_98 : decode cX5_halve 98 = .ok (.iadd, 1) := by decide +kernel
theorem dX5_halve_99 : decode cX5_halve 99 = .ok (.istore 6, 2) := by decide +kernel
theorem dX5_halve_101 : decode cX5_halve 101 = .ok (.aload_n 0, 1) := by decide +kernel
theorem dX5_halve_102 : decode cX5_halve 102 = .ok (.iload_n 2, 1) := by decide +kernel
theorem dX5_halve_103 : decode cX5_halve 103 = .ok (.invokevirtual 114, 3) := by decide +kernel
theorem dX5_halve_106 : decode cX5_halve 106 = .ok (.istore 7, 2) := by decide +kernel
theorem dX5_halve_108 : decode cX5_halve 108 = .ok (.aload_n 0, 1) := by decide +kernel
theorem dX5_halve_109 : decode cX5_halve 109 = .ok (.iconst 0, 1) := by decide +kernel
theorem dX5_halve_110 : decode cX5_halve 110 = .ok (.iload_n 3, 1) := by decide +kernel
theorem dX5_halve_111 : decode cX5_halve 111 = .ok (.iload 5, 2) := by decide +kernel
theorem dX5_halve_113 : decode cX5_halve 113 = .ok (.iadd, 1) := by decide +kernel
theorem dX5_halve_114 : decode cX5_halve 114 = .ok (.iconst 1, 1) := by decide +kernel
theorem dX5_halve_115 : decode cX5_halve 115 = .ok (.isub, 1) := by decide +kernel
theorem dX5_halve_116 : decode cX5_halve 116 = .ok (.iload 4, 2) := by decide +kernel
theorem dX5_halve_118 : decode cX5_halve 118 = .ok (.iload 5, 2) := by decide +kernel
theorem dX5_halve_120 : decode cX5_halve 120 = .ok (.iadd, 1) := by decide +kernel
theorem dX5_halve_121 : decode cX5_halve 121 = .ok (.iconst 1, 1) := by decide +kernel
theorem dX5_halve_122 : decode cX5_halve 122 = .ok (.isub, 1) := by decide +kernel
theorem dX5_halve_123 : decode cX5_halve 123 = .ok (.iload 7, 2) := by decide +kernel
theorem dX5_halve_125 : decode cX5_halve 125 = .ok (.invokevirtual 70, 3) := by decide +kernel
theorem dX5_halve_128 : decode cX5_halve 128 = .ok (.iload 5, 2) := by decide +kernel
theorem dX5_halve_130 : decode cX5_halve 130 = .ok (.iconst 1, 1) := by decide +kernel
theorem dX5_halve_131 : decode cX5_halve 131 = .ok (.if_icmp .le 161, 3) := by decide +kernel
theorem dX5_halve_134 : decode cX5_halve 134 = .ok (.bipush 8, 2) := by decide +kernel
theorem dX5_halve_136 : decode cX5_halve 136 = .ok (.iload 4, 2) := by decide +kernel
theorem dX5_halve_138 : decode cX5_halve 138 = .ok (.iload 5, 2) := by decide +kernel
theorem dX5_halve_140 : decode cX5_halve 140 = .ok (.iadd, 1) := by decide +kernel
theorem dX5_halve_141 : decode cX5_halve 141 = .ok (.imul, 1) := by decide +kernel
theorem dX5_halve_142 : decode cX5_halve 142 = .ok (.istore 8, 2) := by decide +kernel
theorem dX5_halve_144 : decode cX5_halve 144 = .ok (.bipush 8, 2) := by decide +kernel
theorem dX5_halve_146 : decode cX5_halve 146 = .ok (.iload 4, 2) := by decide +kernel
theorem dX5_halve_148 : decode cX5_halve 148 = .ok (.iload 5, 2) := by decide +kernel
theorem dX5_halve_150 : decode cX5_halve 150 = .ok (.iadd, 1) := by decide +kernel
theorem dX5_halve_151 : decode cX5_halve 151 = .ok (.iconst 1, 1) := by decide +kernel
theorem dX5_halve_152 : decode cX5_halve 152 = .ok (.isub, 1) := by decide +kernel
theorem dX5_halve_153 : decode cX5_halve 153 = .ok (.imul, 1) := by decide +kernel
theorem dX5_halve_154 : decode cX5_halve 154 = .ok (.istore 9, 2) := by decide +kernel
theorem dX5_halve_156 : decode cX5_halve 156 = .ok (.aload_n 0, 1) := by decide +kernel
theorem dX5_halve_157 : decode cX5_halve 157 = .ok (.iload_n 1, 1) := by decide +kernel
theorem dX5_halve_158 : decode cX5_halve 158 = .ok (.iload_n 3, 1) := by decide +kernel
theorem dX5_halve_159 : decode cX5_halve 159 = .ok (.iload 5, 2) := by decide +kernel
theorem dX5_halve_161 : decode cX5_halve 161 = .ok (.iadd, 1) := by decide +kernel
theorem dX5_halve_162 : decode cX5_halve 162 = .ok (.iload 4, 2) := by decide +kernel
theorem dX5_halve_164 : decode cX5_halve 164 = .ok (.iload 5, 2) := by decide +kernel
theorem dX5_halve_166 : decode cX5_halve 166 = .ok (.iadd, 1) := by decide +kernel
theorem dX5_halve_167 : decode cX5_halve 167 = .ok (.iload 5, 2) := by decide +kernel
theorem dX5_halve_169 : decode cX5_halve 169 = .ok (.iload 7, 2) := by decide +kernel
theorem dX5_halve_171 : decode cX5_halve 171 = .ok (.iconst 2, 1) := by decide +kernel
theorem dX5_halve_172 : decode cX5_halve 172 = .ok (.if_icmp .ne 8, 3) := by decide +kernel
theorem dX5_halve_175 : decode cX5_halve 175 = .ok (.iload 6, 2) := by decide +kernel
theorem dX5_halve_177 : decode cX5_halve 177 = .ok (.goto 10, 3) := by decide +kernel
theorem dX5_halve_180 : decode cX5_halve 180 = .ok (.iload 8, 2) := by decide +kernel
theorem dX5_halve_182 : decode cX5_halve 182 = .ok (.iload_n 3, 1) := by decide +kernel
theorem dX5_halve_183 : decode cX5_halve 183 = .ok (.iadd, 1) := by decide +kernel
theorem dX5_halve_184 : decode cX5_halve 184 = .ok (.iload 5, 2) := by decide +kernel
theorem dX5_halve_186 : decode cX5_halve 186 = .ok (.iadd, 1) := by decide +kernel
theorem dX5_halve_187 : decode cX5_halve 187 = .ok (.invokevirtual 110, 3) := by decide +kernel
theorem dX5_halve_190 : decode cX5_halve 190 = .ok (.aload_n 0, 1) := by decide +kernel
theorem dX5_halve_191 : decode cX5_halve 191 = .ok (.iload_n 1, 1) := by decide +kernel
theorem dX5_halve_192 : decode cX5_halve 192 = .ok (.iconst 1, 1) := by decide +kernel
theorem dX5_halve_193 : decode cX5_halve 193 = .ok (.iadd, 1) := by decide +kernel
theorem dX5_halve_194 : decode cX5_halve 194 = .ok (.iload_n 3, 1) := by decide +kernel
theorem dX5_halve_195 : decode cX5_halve 195 = .ok (.iload 4, 2) := by decide +kernel
theorem dX5_halve_197 : decode cX5_halve 197 = .ok (.iload 5, 2) := by decide +kernel
theorem dX5_halve_199 : decode cX5_halve 199 = .ok (.iadd, 1) := by decide +kernel
theorem dX5_halve_200 : decode cX5_halve 200 = .ok (.iload 5, 2) := by decide +kernel
theorem dX5_halve_202 : decode cX5_halve 202 = .ok (.iload 7, 2) := by decide +kernel
theorem dX5_halve_204 : decode cX5_halve 204 = .ok (.iconst 3, 1) := by decide +kernel
theorem dX5_halve_205 : decode cX5_halve 205 = .ok (.if_icmp .ne 8, 3) := by decide +kernel
theorem dX5_halve_208 : decode cX5_halve 208 = .ok (.iload 6, 2) := by decide +kernel
theorem dX5_halve_210 : decode cX5_halve 210 = .ok (.goto 12, 3) := by decide +kernel
theorem dX5_halve_213 : decode cX5_halve 213 = .ok (.iload 8, 2) := by decide +kernel
theorem dX5_halve_215 : decode cX5_halve 215 = .ok (.iload_n 3, 1) := by decide +kernel
theorem dX5_halve_216 : decode cX5_halve 216 = .ok (.iadd, 1) := by decide +kernel
theorem dX5_halve_217 : decode cX5_halve 217 = .ok (.iload 5, 2) := by decide +kernel
theorem dX5_halve_219 : decode cX5_halve 219 = .ok (.iadd, 1) := by decide +kernel
theorem dX5_halve_220 : decode cX5_halve 220 = .ok (.iconst 1, 1) := by decide +kernel
theorem dX5_halve_221 : decode cX5_halve 221 = .ok (.isub, 1) := by decide +kernel
theorem dX5_halve_222 : decode cX5_halve 222 = .ok (.invokevirtual 110, 3) := by decide +kernel
theorem dX5_halve_225 : decode cX5_halve 225 = .ok (.aload_n 0, 1) := by decide +kernel
theorem dX5_halve_226 : decode cX5_halve 226 = .ok (.iload_n 1, 1) := by decide +kernel
theorem dX5_halve_227 : decode cX5_halve 227 = .ok (.iconst 2, 1) := by decide +kernel
theorem dX5_halve_228 : decode cX5_halve 228 = .ok (.iadd, 1) := by decide +kernel
theorem dX5_halve_229 : decode cX5_halve 229 = .ok (.iload_n 3, 1) := by decide +kernel
theorem dX5_halve_230 : decode cX5_halve 230 = .ok (.iload 5, 2) := by decide +kernel
theorem dX5_halve_232 : decode cX5_halve 232 = .ok (.iadd, 1) := by decide +kernel
theorem dX5_halve_233 : decode cX5_halve 233 = .ok (.iload 4, 2) := by decide +kernel
theorem dX5_halve_235 : decode cX5_halve 235 = .ok (.iload 5, 2) := by decide +kernel
theorem dX5_halve_237 : decode cX5_halve 237 = .ok (.iload 7, 2) := by decide +kernel
theorem dX5_halve_239 : decode cX5_halve 239 = .ok (.iconst 1, 1) := by decide +kernel
theorem dX5_halve_240 : decode cX5_halve 240 = .ok (.if_icmp .ne 8, 3) := by decide +kernel
theorem dX5_halve_243 : decode cX5_halve 243 = .ok (.iload 6, 2) := by decide +kernel
theorem dX5_halve_245 : decode cX5_halve 245 = .ok (.goto 10, 3) := by decide +kernel
theorem dX5_halve_248 : decode cX5_halve 248 = .ok (.iload 9, 2) := by decide +kernel
theorem dX5_halve_250 : decode cX5_halve 250 = .ok (.iload_n 3, 1) := by decide +kernel
theorem dX5_halve_251 : decode cX5_halve 251 = .ok (.iadd, 1) := by decide +kernel
theorem dX5_halve_252 : decode cX5_halve 252 = .ok (.iload 5, 2) := by decide +kernel
theorem dX5_halve_254 : decode cX5_halve 254 = .ok (.iadd, 1) := by decide +kernel
theorem dX5_halve_255 : decode cX5_halve 255 = .ok (.invokevirtual 110, 3) := by decide +kernel
theorem dX5_halve_258 : decode cX5_halve 258 = .ok (.aload_n 0, 1) := by decide +kernel
theorem dX5_halve_259 : decode cX5_halve 259 = .ok (.iload_n 1, 1) := by decide +kernel
theorem dX5_halve_260 : decode cX5_halve 260 = .ok (.iconst 3, 1) := by decide +kernel
theorem dX5_halve_261 : decode cX5_halve 261 = .ok (.iadd, 1) := by decide +kernel
theorem dX5_halve_262 : decode cX5_halve 262 = .ok (.iload_n 3, 1) := by decide +kernel
theorem dX5_halve_263 : decode cX5_halve 263 = .ok (.iload 4, 2) := by decide +kernel
theorem dX5_halve_265 : decode cX5_halve 265 = .ok (.iload 5, 2) := by decide +kernel
theorem dX5_halve_267 : decode cX5_halve 267 = .ok (.iload 7, 2) := by decide +kernel
theorem dX5_halve_269 : decode cX5_halve 269 = .ok (.ifCond .ne 8, 3) := by decide +kernel
theorem dX5_halve_272 : decode cX5_halve 272 = .ok (.iload 6, 2) := by decide +kernel
theorem dX5_halve_274 : decode cX5_halve 274 = .ok (.goto 12, 3) := by decide +kernel
theorem dX5_halve_277 : decode cX5_halve 277 = .ok (.iload 9, 2) := by decide +kernel
theorem dX5_halve_279 : decode cX5_halve 279 = .ok (.iload_n 3, 1) := by decide +kernel
theorem dX5_halve_280 : decode cX5_halve 280 = .ok (.iadd, 1) := by decide +kernel
theorem dX5_halve_281 : decode cX5_halve 281 = .ok (.iload 5, 2) := by decide +kernel
theorem dX5_halve_283 : decode cX5_halve 283 = .ok (.iadd, 1) := by decide +kernel
theorem dX5_halve_284 : decode cX5_halve 284 = .ok (.iconst 1, 1) := by decide +kernel
theorem dX5_halve_285 : decode cX5_halve 285 = .ok (.isub, 1) := by decide +kernel
theorem dX5_halve_286 : decode cX5_halve 286 = .ok (.invokevirtual 110, 3) := by decide +kernel
theorem dX5_halve_289 : decode cX5_halve 289 = .ok (.iinc 1 4, 3) := by decide +kernel
theorem dX5_halve_292 : decode cX5_halve 292 = .ok (.goto (-253), 3) := by decide +kernel
theorem dX5_halve_295 : decode cX5_halve 295 = .ok (.aload_n 0, 1) := by decide +kernel
theorem dX5_halve_296 : decode cX5_halve 296 = .ok (.getfield 7, 3) := by decide +kernel
theorem dX5_halve_299 : decode cX5_halve 299 = .ok (.sipush 131, 3) := by decide +kernel
theorem dX5_halve_302 : decode cX5_halve 302 = .ok (.iaload, 1) := by decide +kernel
theorem dX5_halve_303 : decode cX5_halve 303 = .ok (.ireturn, 1) := by decide +kernel
theorem dX5_append_0 : decode cX5_append 0 = .ok (.aload_n 0, 1) := by decide +kernel
theorem dX5_append_1 : decode cX5_append 1 = .ok (.iload_n 1, 1) := by decide +kernel
theorem dX5_append_2 : decode cX5_append 2 = .ok (.bipush 33, 2) := by decide +kernel
theorem dX5_append_4 : decode cX5_append 4 = .ok (.bipush 126, 2) := by decide +kernel
theorem dX5_append_6 : decode cX5_append 6 = .ok (.invokestatic 45, 3) := by decide +kernel
theorem dX5_append_9 : decode cX5_append 9 = .ok (.aload_n 0, 1) := by decide +kernel
theorem dX5_append_10 : decode cX5_append 10 = .ok (.getfield 117, 3) := by decide +kernel
theorem dX5_append_13 : decode cX5_append 13 = .ok (.bipush 71, 2) := by decide +kernel
theorem dX5_append_15 : decode cX5_append 15 = .ok (.if_icmp .ge 7, 3) := by decide +kernel
theorem dX5_append_18 : decode cX5_append 18 = .ok (.iconst 1, 1) := by decide +kernel
theorem dX5_append_19 : decode cX5_append 19 = .ok (.goto 4, 3) := by decide +kernel
theorem dX5_append_22 : decode cX5_append 22 = .ok (.iconst 0, 1) := by decide +kernel
theorem dX5_append_23 : decode cX5_append 23 = .ok (.invokevirtual 81, 3) := by decide +kernel
theorem dX5_append_26 : decode cX5_append 26 = .ok (.ifCond .ne 5, 3) := by decide +kernel
theorem dX5_append_29 : decode cX5_append 29 = .ok (.iconst 0, 1) := by decide +kernel
theorem dX5_append_30 : decode cX5_append 30 = .ok (.ireturn, 1) := by decide +kernel
theorem dX5_append_31 : decode cX5_append 31 = .ok (.aload_n 0, 1) := by decide +kernel
theorem dX5_append_32 : decode cX5_append 32 = .ok (.getfield 17, 3) := by decide +kernel
theorem dX5_append_35 : decode cX5_append 35 = .ok (.aload_n 0, 1) := by decide +kernel
theorem dX5_append_36 : decode cX5_append 36 = .ok (.getfield 117, 3) := by decide +kernel
theorem dX5_append_39 : decode cX5_append 39 = .ok (.iload_n 1, 1) := by decide +kernel
theorem dX5_append_40 : decode cX5_append 40 = .ok (.i2c, 1) := by decide +kernel
theorem dX5_append_41 : decode cX5_append 41 = .ok (.castore, 1) := by decide +kernel
theorem dX5_append_42 : decode cX5_append 42 = .ok (.aload_n 0, 1) := by decide +kernel
theorem dX5_append_43 : decode cX5_append 43 = .ok (.dup, 1) := by decide +kernel
theorem dX5_append_44 : decode cX5_append 44 = .ok (.getfield 117, 3) := by decide +kernel
theorem dX5_append_47 : decode cX5_append 47 = .ok (.iconst 1, 1) := by decide +kernel
theorem dX5_append_48 : decode cX5_append 48 = .ok (.iadd, 1) := by decide +kernel
theorem dX5_append_49 : decode cX5_append 49 = .ok (.putfield 117, 3) := by decide +kernel
theorem dX5_append_52 : decode cX5_append 52 = .ok (.aload_n 0, 1) := by decide +kernel
theorem dX5_append_53 : decode cX5_append 53 = .ok (.getfield 117, 3) := by decide +kernel
theorem dX5_append_56 : decode cX5_append 56 = .ok (.ireturn, 1) := by decide +kernel
theorem dX5_clearBuffer_0 : decode cX5_clearBuffer 0 = .ok (.aload_n 0, 1) := by decide +kernel
theorem dX5_clearBuffer_1 : decode cX5_clearBuffer 1 = .ok (.iconst 0, 1) := by decide +kernel
theorem dX5_clearBuffer_2 : decode cX5_clearBuffer 2 = .ok (.putfield 34, 3) := by decide +kernel
theorem dX5_clearBuffer_5 : decode cX5_clearBuffer 5 = .ok (.aload_n 0, 1) := by decide +kernel
theorem dX5_clearBuffer_6 : decode cX5_clearBuffer 6 = .ok (.getfield 117, 3) := by decide +kernel
theorem dX5_clearBuffer_9 : decode cX5_clearBuffer 9 = .ok (.istore_n 1, 1) := by decide +kernel
theorem dX5_clearBuffer_10 : decode cX5_clearBuffer 10 = .ok (.aload_n 0, 1) := by decide +kernel
theorem dX5_clearBuffer_11 : decode cX5_clearBuffer 11 = .ok (.iconst 0, 1) := by decide +kernel
theorem dX5_clearBuffer_12 : decode cX5_clearBuffer 12 = .ok (.putfield 117, 3) := by decide +kernel
theorem dX5_clearBuffer_15 : decode cX5_clearBuffer 15 = .ok (.iload_n 1, 1) := by decide +kernel
theorem dX5_clearBuffer_16 : decode cX5_clearBuffer 16 = .ok (.ireturn, 1) := by decide +kernel
theorem dX5_error_0 : decode cX5_error 0 = .ok (.iconst 0, 1) := by decide +kernel
theorem dX5_error_1 : decode cX5_error 1 = .ok (.istore_n 1, 1) := by decide +kernel
theorem dX5_error_2 : decode cX5_error 2 = .ok (.iconst 0, 1) := by decide +kernel
theorem dX5_error_3 : decode cX5_error 3 = .ok (.istore_n 2, 1) := by decide +kernel
theorem dX5_error_4 : decode cX5_error 4 = .ok (.aload_n 0, 1) := by decide +kernel
theorem dX5_error_5 : decode cX5_error 5 = .ok (.iconst 1, 1) := by decide +kernel
theorem dX5_error_6 : decode cX5_error 6 = .ok (.putfield 120, 3) := by decide +kernel
theorem dX5_error_9 : decode cX5_error 9 = .ok (.iconst 0, 1) := by decide +kernel
theorem dX5_error_10 : decode cX5_error 10 = .ok (.istore_n 3, 1) := by decide +kernel
theorem dX5_error_11 : decode cX5_error 11 = .ok (.iconst 0, 1) := by decide +kernel
theorem dX5_error_12 : decode cX5_error 12 = .ok (.istore 4, 2) := by decide +kernel
theorem dX5_error_14 : decode cX5_error 14 = .ok (.iload 4, 2) := by decide +kernel
theorem dX5_error_16 : decode cX5_error 16 = .ok (.aload_n 0, 1) := by decide +kernel
theorem dX5_error_17 : decode cX5_error 17 = .ok (.getfield 117, 3) := by decide +kernel
theorem dX5_error_20 : decode cX5_error 20 = .ok (.if_icmp .ge 230, 3) := by decide +kernel
theorem dX5_error_23 : decode cX5_error 23 = .ok (.aload_n 0, 1) := by decide +kernel
theorem dX5_error_24 : decode cX5_error 24 = .ok (.getfield 17, 3) := by decide +kernel
theorem dX5_error_27 : decode cX5_error 27 = .ok (.iload 4, 2) := by decide +kernel
theorem dX5_error_29 : decode cX5_error 29 = .ok (.caload, 1) := by decide +kernel
theorem dX5_error_30 : decode cX5_error 30 = .ok (.istore 5, 2) := by decide +kernel
theorem dX5_error_32 : decode cX5_error 32 = .ok (.aload_n 0, 1) := by decide +kernel
theorem dX5_error_33 : decode cX5_error 33 = .ok (.getfield 120, 3) := by decide +kernel
theorem dX5_error_36 : decode cX5_error 36 = .ok (.bipush 8, 2) := by decide +kernel
theorem dX5_error_38 : decode cX5_error 38 = .ok (.if_icmp .ne 14, 3) := by decide +kernel
theorem dX5_error_41 : decode cX5_error 41 = .ok (.iload_n 2, 1) := by decide +kernel
theorem dX5_error_42 : decode cX5_error 42 = .ok (.iload_n 1, 1) := by decide +kernel
theorem dX5_error_43 : decode cX5_error 43 = .ok (.iconst 1, 1) := by decide +kernel
theorem dX5_error_44 : decode cX5_error 44 = .ok (.isub, 1) := by decide +kernel
theorem dX5_error_45 : decode cX5_error 45 = .ok (.if_icmp .ne 7, 3) := by decide +kernel
theorem dX5_error_48 : decode cX5_error 48 = .ok (.iconst 1, 1) := by decide +kernel
theorem dX5_error_49 : decode cX5_error 49 = .ok (.goto 4, 3) := by decide +kernel
theorem dX5_error_52 : decode cX5_error 52 = .ok (.iconst 0, 1) := by decide +kernel
theorem dX5_error_53 : decode cX5_error 53 = .ok (.istore 6, 2) := by decide +kernel
theorem dX5_error_55 : decode cX5_error 55 = .ok (.aload_n 0, 1) := by decide +kernel
theorem dX5_error_56 : decode cX5_error 56 = .ok (.getfield 120, 3) := by decide +kernel
theorem dX5_error_59 : decode cX5_error 59 = .ok (.iconst 1, 1) := by decide +kernel
theorem dX5_error_60 : decode cX5_error 60 = .ok (.if_icmp .ne 16, 3) := by decide +kernel
theorem dX5_error_63 : decode cX5_error 63 = .ok (.iload_n 2, 1) := by decide +kernel
theorem dX5_error_64 : decode cX5_error 64 = .ok (.iconst 2, 1) := by decide +kernel
theorem dX5_error_65 : decode cX5_error 65 = .ok (.if_icmp .lt 7, 3) := by decide +kernel
theorem dX5_error_68 : decode cX5_error 68 = .ok (.iconst 1, 1) := by decide +kernel
theorem dX5_error_69 : decode cX5_error 69 = .ok (.goto 17, 3) := by decide +kernel
theorem dX5_error_72 : decode cX5_error 72 = .ok (.iconst 0, 1) := by decide +kernel
theorem dX5_error_73 : decode cX5_error 73 = .ok (.goto 13, 3) := by decide +kernel
theorem dX5_error_76 : decode cX5_error 76 = .ok (.iload_n 2, 1) := by decide +kernel
theorem dX5_error_77 : decode cX5_error 77 = .ok (.iload_n 1, 1) := by decide +kernel
theorem dX5_error_78 : decode cX5_error 78 = .ok (.if_icmp .ne 7, 3) := by decide +kernel
theorem dX5_error_81 : decode cX5_error 81 = .ok (.iconst 1, 1) := by decide +kernel
theorem dX5_error_82 : decode cX5_error 82 = .ok (.goto 4, 3) := by decide +kernel
theorem dX5_error_85 : decode cX5_error 85 = .ok (.iconst 0, 1) := by decide +kernel
theorem dX5_error_86 : decode cX5_error 86 = .ok (.istore 7, 2) := by decide +kernel
theorem dX5_error_88 : decode cX5_error 88 = .ok (.iload 5, 2) := by decide +kernel
theorem dX5_error_90 : decode cX5_error 90 = .ok (.bipush 47, 2) := by decide +kernel
theorem dX5_error_92 : decode cX5_error 92 = .ok (.if_icmp .ne 37, 3) := by decide +kernel
theorem dX5_error_95 : decode cX5_error 95 = .ok (.iload 7, 2) := by decide +kernel
theorem dX5_error_97 : decode cX5_error 97 = .ok (.ifCond .eq 12, 3) := by decide +kernel
theorem dX5_error_100 : decode cX5_error 100 = .ok (.aload_n 0, 1) := by decide +kernel
theorem dX5_error_101 : decode cX5_error 101 = .ok (.getfield 120, 3) := by decide +kernel
theorem dX5_error_104 : decode cX5_error 104 = .ok (.bipush 8, 2) := by decide +kernel
theorem dX5_error_106 : decode cX5_error 106 = .ok (.if_icmp .ne 6, 3) := by decide +kernel
theorem dX5_error_109 : decode cX5_error 109 = .ok (.iload 4, 2) := by decide +kernel
theorem dX5_error_111 : decode cX5_error 111 = .ok (.ireturn, 1) := by decide +kernel
theorem dX5_error_112 : decode cX5_error 112 = .ok (.iload_n 2, 1) := by decide +kernel
theorem dX5_error_113 : decode cX5_error 113 = .ok (.istore_n 1, 1) := by decide +kernel
theorem dX5_error_114 : decode cX5_error 114 = .ok (.iconst 0, 1) := by decide +kernel
theorem dX5_error_115 : decode cX5_error 115 = .ok (.istore_n 2, 1) := by decide +kernel
theorem dX5_error_116 : decode cX5_error 116 = .ok (.aload_n 0, 1) := by decide +kernel
theorem dX5_error_117 : decode cX5_error 117 = .ok (.dup, 1) := by decide +kernel
theorem dX5_error_118 : decode cX5_error 118 = .ok (.getfield 120, 3) := by decide +kernel
theorem dX5_error_121 : decode cX5_error 121 = .ok (.iconst 1, 1) := by decide +kernel
theorem dX5_error_122 : decode cX5_error 122 = .ok (.iadd, 1) := by decide +kernel
theorem dX5_error_123 : decode cX5_error 123 = .ok (.putfield 120, 3) := by decide +kernel
theorem dX5_error_126 : decode cX5_error 126 = .ok (.goto 118, 3) := by decide +kernel
theorem dX5_error_129 : decode cX5_error 129 = .ok (.aload_n 0, 1) := by decide +kernel
theorem dX5_error_130 : decode cX5_error 130 = .ok (.getfield 120, 3) := by decide +kernel
theorem dX5_error_133 : decode cX5_error 133 = .ok (.iconst 1, 1) := by decide +kernel
theorem dX5_error_134 : decode cX5_error 134 = .ok (.if_icmp .ne 17, 3) := by decide +kernel
theorem dX5_error_137 : decode cX5_error 137 = .ok (.iload_n 2, 1) := by decide +kernel
theorem dX5_error_138 : decode cX5_error 138 = .ok (.bipush 8, 2) := by decide +kernel
theorem dX5_error_140 : decode cX5_error 140 = .ok (.if_icmp .ge 7, 3) := by decide +kernel
theorem dX5_error_143 : decode cX5_error 143 = .ok (.iconst 1, 1) := by decide +kernel
theorem dX5_error_144 : decode cX5_error 144 = .ok (.goto 17, 3) := by decide +kernel
theorem dX5_error_147 : decode cX5_error 147 = .ok (.iconst 0, 1) := by decide +kernel
theorem dX5_error_148 : decode cX5_error 148 = .ok (.goto 13, 3) := by decide +kernel
theorem dX5_error_151 : decode cX5_error 151 = .ok (.iload_n 2, 1) := by decide +kernel
theorem dX5_error_152 : decode cX5_error 152 = .ok (.iload_n 1, 1) := by decide +kernel
theorem dX5_error_153 : decode cX5_error 153 = .ok (.if_icmp .ge 7, 3) := by decide +kernel
theorem dX5_error_156 : decode cX5_error 156 = .ok (.iconst 1, 1) := by decide +kernel
theorem dX5_error_157 : decode cX5_error 157 = .ok (.goto 4, 3) := by decide +kernel
theorem dX5_error_160 : decode cX5_error 160 = .ok (.iconst 0, 1) := by decide +kernel
theorem dX5_error_161 : decode cX5_error 161 = .ok (.istore 8, 2) := by decide +kernel
theorem dX5_error_163 : decode cX5_error 163 = .ok (.iload 5, 2) := by decide +kernel
theorem dX5_error_165 : decode cX5_error 165 = .ok (.bipush 111, 2) := by decide +kernel
theorem dX5_error_167 : decode cX5_error 167 = .ok (.if_icmp .ne 15, 3) := by decide +kernel
theorem dX5_error_170 : decode cX5_error 170 = .ok (.iload_n 3, 1) := by decide +kernel
theorem dX5_error_171 : decode cX5_error 171 = .ok (.ifCond .ne 7, 3) := by decide +kernel
theorem dX5_error_174 : decode cX5_error 174 = .ok (.iconst 1, 1) := by decide +kernel
theorem dX5_error_175 : decode cX5_error 175 = .ok (.goto 36, 3) := by decide +kernel
theorem dX5_error_178 : decode cX5_error 178 = .ok (.iconst 0, 1) := by decide +kernel
theorem dX5_error_179 : decode cX5_error 179 = .ok (.goto 32, 3) := by decide +kernel
theorem dX5_error_182 : decode cX5_error 182 = .ok (.iload 5, 2) := by decide +kernel
theorem dX5_error_184 : decode cX5_error 184 = .ok (.bipush 46, 2) := by decide +kernel
theorem dX5_error_186 : decode cX5_error 186 = .ok (.if_icmp .eq 10, 3) := by decide +kernel
theorem dX5_error_189 : decode cX5_error 189 = .ok (.iload 5, 2) := by decide +kernel
theorem dX5_error_191 : decode cX5_error 191 = .ok (.bipush 35, 2) := by decide +kernel
theorem dX5_error_193 : decode cX5_error 193 = .ok (.if_icmp .ne 17, 3) := by decide +kernel
theorem dX5_error_196 : decode cX5_error 196 = .ok (.iload 6, 2) := by decide +kernel
theorem dX5_error_198 : decode cX5_error 198 = .ok (.ifCond .eq 8, 3) := by decide +kernel
theorem dX5_error_201 : decode cX5_error 201 = .ok (.iload_n 3, 1) := by decide +kernel
theorem dX5_error_202 : decode cX5_error 202 = .ok (.iconst 1, 1) := by decide +kernel
theorem dX5_error_203 : decode cX5_error 203 = .ok (.if_icmp .ne 7, 3) := by decide +kernel
theorem dX5_error_206 : decode cX5_error 206 = .ok (.iconst 1, 1) := by decide +kernel
theorem dX5_error_207 : decode cX5_error 207 = .ok (.goto 4, 3) := by decide +kernel
theorem dX5_error_210 : decode cX5_error 210 = .ok (.iconst 0, 1) := by decide +kernel
theorem dX5_error_211 : decode cX5_error 211 = .ok (.istore 9, 2) := by decide +kernel
theorem dX5_error_213 : decode cX5_error 213 = .ok (.iload 8, 2) := by decide +kernel
theorem dX5_error_215 : decode cX5_error 215 = .ok (.ifCond .eq 8, 3) := by decide +kernel
theorem dX5_error_218 : decode cX5_error 218 = .ok (.iload 9, 2) := by decide +kernel
theorem dX5_error_220 : decode cX5_error 220 = .ok (.ifCond .ne 6, 3) := by decide +kernel
theorem dX5_error_223 : decode cX5_error 223 = .ok (.iload 4, 2) := by decide +kernel
theorem dX5_error_225 : decode cX5_error 225 = .ok (.ireturn, 1) := by decide +kernel
theorem dX5_error_226 : decode cX5_error 226 = .ok (.iload_n 3, 1) := by decide +kernel
theorem dX5_error_227 : decode cX5_error 227 = .ok (.iload 5, 2) := by decide +kernel
theorem dX5_error_229 : decode cX5_error 229 = .ok (.bipush 111, 2) := by decide +kernel
theorem dX5_error_231 : decode cX5_error 231 = .ok (.if_icmp .ne 7, 3) := by decide +kernel
theorem dX5_error_234 : decode cX5_error 234 = .ok (.iconst 1, 1) := by decide +kernel
theorem dX5_error_235 : decode cX5_error 235 = .ok (.goto 4, 3) := by decide +kernel
theorem dX5_error_238 : decode cX5_error 238 = .ok (.iconst 0, 1) := by decide +kernel
theorem dX5_error_239 : decode cX5_error 239 = .ok (.iadd, 1) := by decide +kernel
theorem dX5_error_240 : decode cX5_error 240 = .ok (.istore_n 3, 1) := by decide +kernel
theorem dX5_error_241 : decode cX5_error 241 = .ok (.iinc 2 1, 3) := by decide +kernel
theorem dX5_error_244 : decode cX5_error 244 = .ok (.iinc 4 1, 3) := by decide +kernel
theorem dX5_error_247 : decode cX5_error 247 = .ok (.goto (-233), 3) := by decide +kernel
theorem dX5_error_250 : decode cX5_error 250 = .ok (.aload_n 0, 1) := by decide +kernel
theorem dX5_error_251 : decode cX5_error 251 = .ok (.getfield 120, 3) := by decide +kernel
theorem dX5_error_254 : decode cX5_error 254 = .ok (.iconst 1, 1) := by decide +kernel
theorem dX5_error_255 : decode cX5_error 255 = .ok (.if_icmp .le 17, 3) := by decide +kernel
theorem dX5_error_258 : decode cX5_error 258 = .ok (.iload_n 2, 1) := by decide +kernel
theorem dX5_error_259 : decode cX5_error 259 = .ok (.iload_n 1, 1) := by decide +kernel
theorem dX5_error_260 : decode cX5_error 260 = .ok (.if_icmp .ne 12, 3) := by decide +kernel
theorem dX5_error_263 : decode cX5_error 263 = .ok (.iload_n 3, 1) := by decide +kernel
theorem dX5_error_264 : decode cX5_error 264 = .ok (.iconst 1, 1) := by decide +kernel
theorem dX5_error_265 : decode cX5_error 265 = .ok (.if_icmp .ne 7, 3) := by decide +kernel
theorem dX5_error_268 : decode cX5_error 268 = .ok (.iconst (-1), 1) := by decide +kernel
theorem dX5_error_269 : decode cX5_error 269 = .ok (.goto 7, 3) := by decide +kernel
theorem dX5_error_272 : decode cX5_error 272 = .ok (.aload_n 0, 1) := by decide +kernel
theorem dX5_error_273 : decode cX5_error 273 = .ok (.getfield 117, 3) := by decide +kernel
theorem dX5_error_276 : decode cX5_error 276 = .ok (.ireturn, 1) := by decide +kernel
theorem dX5_firstError_0 : decode cX5_firstError 0 = .ok (.aload_n 0, 1) := by decide +kernel
theorem dX5_firstError_1 : decode cX5_firstError 1 = .ok (.iconst 0, 1) := by decide +kernel
theorem dX5_firstError_2 : decode cX5_firstError 2 = .ok (.putfield 34, 3) := by decide +kernel
theorem dX5_firstError_5 : decode cX5_firstError 5 = .ok (.aload_n 0, 1) := by decide +kernel
theorem dX5_firstError_6 : decode cX5_firstError 6 = .ok (.invokevirtual 123, 3) := by decide +kernel
theorem dX5_firstError_9 : decode cX5_firstError 9 = .ok (.istore_n 1, 1) := by decide +kernel
theorem dX5_firstError_10 : decode cX5_firstError 10 = .ok (.iload_n 1, 1) := by decide +kernel
theorem dX5_firstError_11 : decode cX5_firstError 11 = .ok (.ifCond .ge 10, 3) := by decide +kernel
theorem dX5_firstError_14 : decode cX5_firstError 14 = .ok (.aload_n 0, 1) := by decide +kernel
theorem dX5_firstError_15 : decode cX5_firstError 15 = .ok (.getfield 117, 3) := by decide +kernel
theorem dX5_firstError_18 : decode cX5_firstError 18 = .ok (.goto 4, 3) := by decide +kernel
theorem dX5_firstError_21 : decode cX5_firstError 21 = .ok (.iload_n 1, 1) := by decide +kernel
theorem dX5_firstError_22 : decode cX5_firstError 22 = .ok (.ireturn, 1) := by decide +kernel
theorem dX5_free_0 : decode cX5_free 0 = .ok (.iconst 0, 1) := by decide +kernel
theorem dX5_free_1 : decode cX5_free 1 = .ok (.istore_n 1, 1) := by decide +kernel
theorem dX5_free_2 : decode cX5_free 2 = .ok (.iconst 0, 1) := by decide +kernel
theorem dX5_free_3 : decode cX5_free 3 = .ok (.istore_n 2, 1) := by decide +kernel
theorem dX5_free_4 : decode cX5_free 4 = .ok (.iload_n 2, 1) := by decide +kernel
theorem dX5_free_5 : decode cX5_free 5 = .ok (.bipush 64, 2) := by decide +kernel
theorem dX5_free_7 : decode cX5_free 7 = .ok (.if_icmp .ge 41, 3) := by decide +kernel
theorem dX5_free_10 : decode cX5_free 10 = .ok (.iload_n 1, 1) := by decide +kernel
theorem dX5_free_11 : decode cX5_free 11 = .ok (.aload_n 0, 1) := by decide +kernel
theorem dX5_free_12 : decode cX5_free 12 = .ok (.iload_n 2, 1) := by decide +kernel
theorem dX5_free_13 : decode cX5_free 13 = .ok (.bipush 8, 2) := by decide +kernel
theorem dX5_free_15 : decode cX5_free 15 = .ok (.irem, 1) := by decide +kernel
theorem dX5_free_16 : decode cX5_free 16 = .ok (.iload_n 2, 1) := by decide +kernel
theorem dX5_free_17 : decode cX5_free 17 = .ok (.bipush 8, 2) := by decide +kernel
theorem dX5_free_19 : decode cX5_free 19 = .ok (.idiv, 1) := by decide +kernel
theorem dX5_free_20 : decode cX5_free 20 = .ok (.invokevirtual 88, 3) := by decide +kernel
theorem dX5_free_23 : decode cX5_free 23 = .ok (.ifCond .eq 16, 3) := by decide +kernel
theorem dX5_free_26 : decode cX5_free 26 = .ok (.aload_n 0, 1) := by decide +kernel
theorem dX5_free_27 : decode cX5_free 27 = .ok (.iconst 0, 1) := by decide +kernel
theorem dX5_free_28 : decode cX5_free 28 = .ok (.iload_n 2, 1) := by decide +kernel
theorem dX5_free_29 : decode cX5_free 29 = .ok (.invokevirtual 63, 3) := by decide +kernel
theorem dX5_free_32 : decode cX5_free 32 = .ok (.ifCond .eq 7, 3) := by decide +kernel
theorem dX5_free_35 : decode cX5_free 35 = .ok (.iconst 1, 1) := by decide +kernel
theorem dX5_free_36 : decode cX5_free 36 = .ok (.goto 4, 3) := by decide +kernel
theorem dX5_free_39 : decode cX5_free 39 = .ok (.iconst 0, 1) := by decide +kernel
theorem dX5_free_40 : decode cX5_free 40 = .ok (.iadd, 1) := by decide +kernel
theorem dX5_free_41 : decode cX5_free 41 = .ok (.istore_n 1, 1) := by decide +kernel
theorem dX5_free_42 : decode cX5_free 42 = .ok (.iinc 2 1, 3) := by decide +kernel
theorem dX5_free_45 : decode cX5_free 45 = .ok (.goto (-41), 3) := by decide +kernel
theorem dX5_free_48 : decode cX5_free 48 = .ok (.iload_n 1, 1) := by decide +kernel
theorem dX5_free_49 : decode cX5_free 49 = .ok (.ireturn, 1) := by decide +kernel
theorem dX5_load_0 : decode cX5_load 0 = .ok (.aload_n 0, 1) := by decide +kernel
theorem dX5_load_1 : decode cX5_load 1 = .ok (.aload_n 0, 1) := by decide +kernel
theorem dX5_load_2 : decode cX5_load 2 = .ok (.invokevirtual 123, 3) := by decide +kernel
theorem dX5_load_5 : decode cX5_load 5 = .ok (.ifCond .ge 7, 3) := by decide +kernel
theorem dX5_load_8 : decode cX5_load 8 = .ok (.iconst 1, 1) := by decide +kernel
theorem dX5_load_9 : decode cX5_load 9 = .ok (.goto 4, 3) := by decide +kernel
theorem dX5_load_12 : decode cX5_load 12 = .ok (.iconst 0, 1) := by decide +kernel
theorem dX5_load_13 : decode cX5_load 13 = .ok (.iconst 1, 1) := by decide +kernel
theorem dX5_load_14 : decode cX5_load 14 = .ok (.invokevirtual 81, 3) := by decide +kernel
theorem dX5_load_17 : decode cX5_load 17 = .ok (.ifCond .ne 5, 3) := by decide +kernel
theorem dX5_load_20 : decode cX5_load 20 = .ok (.iconst 0, 1) := by decide +kernel
theorem dX5_load_21 : decode cX5_load 21 = .ok (.ireturn, 1) := by decide +kernel
theorem dX5_load_22 : decode cX5_load 22 = .ok (.aload_n 0, 1) := by decide +kernel
theorem dX5_load_23 : decode cX5_load 23 = .ok (.invokevirtual 85, 3) := by decide +kernel
theorem dX5_load_26 : decode cX5_load 26 = .ok (.aload_n 0, 1) := by decide +kernel
theorem dX5_load_27 : decode cX5_load 27 = .ok (.iconst 0, 1) := by decide +kernel
theorem dX5_load_28 : decode cX5_load 28 = .ok (.aload_n 0, 1) := by decide +kernel
theorem dX5_load_29 : decode cX5_load 29 = .ok (.getfield 117, 3) := by decide +kernel
theorem dX5_load_32 : decode cX5_load 32 = .ok (.aload_n 0, 1) := by decide +kernel
theorem dX5_load_33 : decode cX5_load 33 = .ok (.getfield 120, 3) := by decide +kernel
theorem dX5_load_36 : decode cX5_load 36 = .ok (.idiv, 1) := by decide +kernel
theorem dX5_load_37 : decode cX5_load 37 = .ok (.aload_n 0, 1) := by decide +kernel
theorem dX5_load_38 : decode cX5_load 38 = .ok (.getfield 120, 3) := by decide +kernel
theorem dX5_load_41 : decode cX5_load 41 = .ok (.invokevirtual 30, 3) := by decide +kernel
theorem dX5_load_44 : decode cX5_load 44 = .ok (.aload_n 0, 1) := by decide +kernel
theorem dX5_load_45 : decode cX5_load 45 = .ok (.getfield 7, 3) := by decide +kernel
theorem dX5_load_48 : decode cX5_load 48 = .ok (.iconst 0, 1) := by decide +kernel
theorem dX5_load_49 : decode cX5_load 49 = .ok (.iaload, 1) := by decide +kernel
theorem dX5_load_50 : decode cX5_load 50 = .ok (.istore_n 1, 1) := by decide +kernel
theorem dX5_load_51 : decode cX5_load 51 = .ok (.iconst 0, 1) := by decide +kernel
theorem dX5_load_52 : decode cX5_load 52 = .ok (.istore_n 2, 1) := by decide +kernel
theorem dX5_load_53 : decode cX5_load 53 = .ok (.iload_n 2, 1) := by decide +kernel
theorem dX5_load_54 : decode cX5_load 54 = .ok (.aload_n 0, 1) := by decide +kernel
theorem dX5_load_55 : decode cX5_load 55 = .ok (.getfield 117, 3) := by decide +kernel
theorem dX5_load_58 : decode cX5_load 58 = .ok (.if_icmp .ge 65, 3) := by decide +kernel
theorem dX5_load_61 : decode cX5_load 61 = .ok (.bipush 8, 2) := by decide +kernel
theorem dX5_load_63 : decode cX5_load 63 = .ok (.iload_n 2, 1) := by decide +kernel
theorem dX5_load_64 : decode cX5_load 64 = .ok (.iload_n 1, 1) := by decide +kernel
theorem dX5_load_65 : decode cX5_load 65 = .ok (.iconst 1, 1) := by decide +kernel
theorem dX5_load_66 : decode cX5_load 66 = .ok (.iadd, 1) := by decide +kernel
theorem dX5_load_67 : decode cX5_load 67 = .ok (.idiv, 1) := by decide +kernel
theorem dX5_load_68 : decode cX5_load 68 = .ok (.imul, 1) := by decide +kernel
theorem dX5_load_69 : decode cX5_load 69 = .ok (.iload_n 2, 1) := by decide +kernel
theorem dX5_load_70 : decode cX5_load 70 = .ok (.iload_n 1, 1) := by decide +kernel
theorem dX5_load_71 : decode cX5_load 71 = .ok (.iconst 1, 1) := by decide +kernel
theorem dX5_load_72 : decode cX5_load 72 = .ok (.iadd, 1) := by decide +kernel
theorem dX5_load_73 : decode cX5_load 73 = .ok (.irem, 1) := by decide +kernel
theorem dX5_load_74 : decode cX5_load 74 = .ok (.iadd, 1) := by decide +kernel
theorem dX5_load_75 : decode cX5_load 75 = .ok (.istore_n 3, 1) := by decide +kernel
theorem dX5_load_76 : decode cX5_load 76 = .ok (.aload_n 0, 1) := by decide +kernel
theorem dX5_load_77 : decode cX5_load 77 = .ok (.getfield 17, 3) := by decide +kernel
theorem dX5_load_80 : decode cX5_load 80 = .ok (.iload_n 2, 1) := by decide +kernel
theorem dX5_load_81 : decode cX5_load 81 = .ok (.caload, 1) := by decide +kernel
theorem dX5_load_82 : decode cX5_load 82 = .ok (.bipush 35, 2) := by decide +kernel
theorem dX5_load_84 : decode cX5_load 84 = .ok (.if_icmp .ne 15, 3) := by decide +kernel
theorem dX5_load_87 : decode cX5_load 87 = .ok (.aload_n 0, 1) := by decide +kernel
theorem dX5_load_88 : decode cX5_load 88 = .ok (.getfield 7, 3) := by decide +kernel
theorem dX5_load_91 : decode cX5_load 91 = .ok (.iconst 3, 1) := by decide +kernel
theorem dX5_load_92 : decode cX5_load 92 = .ok (.iload_n 3, 1) := by decide +kernel
theorem dX5_load_93 : decode cX5_load 93 = .ok (.iadd, 1) := by decide +kernel
theorem dX5_load_94 : decode cX5_load 94 = .ok (.iconst 1, 1) := by decide +kernel
theorem dX5_load_95 : decode cX5_load 95 = .ok (.iastore, 1) := by decide +kernel
theorem dX5_load_96 : decode cX5_load 96 = .ok (.goto 21, 3) := by decide +kernel
theorem dX5_load_99 : decode cX5_load 99 = .ok (.aload_n 0, 1) := by decide +kernel
theorem dX5_load_100 : decode cX5_load 100 = .ok (.getfield 17, 3) := by decide +kernel
theorem dX5_load_103 : decode cX5_load 103 = .ok (.iload_n 2, 1) := by decide +kernel
theorem dX5_load_104 : decode cX5_load 104 = .ok (.caload, 1) := by decide +kernel
theorem dX5_load_105 : decode cX5_load 105 = .ok (.bipush 111, 2) := by decide +kernel
theorem dX5_load_107 : decode cX5_load 107 = .ok (.if_icmp .ne 10, 3) := by decide +kernel
theorem dX5_load_110 : decode cX5_load 110 = .ok (.aload_n 0, 1) := by decide +kernel
theorem dX5_load_111 : decode cX5_load 111 = .ok (.getfield 7, 3) := by decide +kernel
theorem dX5_load_114 : decode cX5_load 114 = .ok (.iconst 2, 1) := by decide +kernel
theorem dX5_load_115 : decode cX5_load 115 = .ok (.iload_n 3, 1) := by decide +kernel
theorem dX5_load_116 : decode cX5_load 116 = .ok (.iastore, 1) := by decide +kernel
theorem dX5_load_117 : decode cX5_load 117 = .ok (.iinc 2 1, 3) := by decide +kernel
theorem dX5_load_120 : decode cX5_load 120 = .ok (.goto (-67), 3) := by decide +kernel
theorem dX5_load_123 : decode cX5_load 123 = .ok (.aload_n 0, 1) := by decide +kernel
theorem dX5_load_124 : decode cX5_load 124 = .ok (.iconst 0, 1) := by decide +kernel
theorem dX5_load_125 : decode cX5_load 125 = .ok (.putfield 117, 3) := by decide +kernel
theorem dX5_load_128 : decode cX5_load 128 = .ok (.aload_n 0, 1) := by decide +kernel
theorem dX5_load_129 : decode cX5_load 129 = .ok (.invokevirtual 126, 3) := by decide +kernel
theorem dX5_load_132 : decode cX5_load 132 = .ok (.ireturn, 1) := by decide +kernel
theorem dX5_keep_0 : decode cX5_keep 0 = .ok (.aload_n 0, 1) := by decide +kernel
theorem dX5_keep_1 : decode cX5_keep 1 = .ok (.iload_n 1, 1) := by decide +kernel
theorem dX5_keep_2 : decode cX5_keep 2 = .ok (.iconst 0, 1) := by decide +kernel
theorem dX5_keep_3 : decode cX5_keep 3 = .ok (.iconst 1, 1) := by decide +kernel
theorem dX5_keep_4 : decode cX5_keep 4 = .ok (.invokestatic 45, 3) := by decide +kernel
theorem dX5_keep_7 : decode cX5_keep 7 = .ok (.iconst 1, 1) := by decide +kernel
theorem dX5_keep_8 : decode cX5_keep 8 = .ok (.invokevirtual 81, 3) := by decide +kernel
theorem dX5_keep_11 : decode cX5_keep 11 = .ok (.ifCond .ne 5, 3) := by decide +kernel
theorem dX5_keep_14 : decode cX5_keep 14 = .ok (.iconst 0, 1) := by decide +kernel
theorem dX5_keep_15 : decode cX5_keep 15 = .ok (.ireturn, 1) := by decide +kernel
theorem dX5_keep_16 : decode cX5_keep 16 = .ok (.aload_n 0, 1) := by decide +kernel
theorem dX5_keep_17 : decode cX5_keep 17 = .ok (.iconst 0, 1) := by decide +kernel
theorem dX5_keep_18 : decode cX5_keep 18 = .ok (.bipush 7, 2) := by decide +kernel
theorem dX5_keep_20 : decode cX5_keep 20 = .ok (.iload_n 1, 1) := by decide +kernel
theorem dX5_keep_21 : decode cX5_keep 21 = .ok (.iadd, 1) := by decide +kernel
theorem dX5_keep_22 : decode cX5_keep 22 = .ok (.invokevirtual 41, 3) := by decide +kernel
theorem dX5_keep_25 : decode cX5_keep 25 = .ok (.aload_n 0, 1) := by decide +kernel
theorem dX5_keep_26 : decode cX5_keep 26 = .ok (.getfield 13, 3) := by decide +kernel
theorem dX5_keep_29 : decode cX5_keep 29 = .ok (.iload_n 1, 1) := by decide +kernel
theorem dX5_keep_30 : decode cX5_keep 30 = .ok (.iconst 1, 1) := by decide +kernel
theorem dX5_keep_31 : decode cX5_keep 31 = .ok (.bastore, 1) := by decide +kernel
theorem dX5_keep_32 : decode cX5_keep 32 = .ok (.aload_n 0, 1) := by decide +kernel
theorem dX5_keep_33 : decode cX5_keep 33 = .ok (.getfield 7, 3) := by decide +kernel
theorem dX5_keep_36 : decode cX5_keep 36 = .ok (.sipush 131, 3) := by decide +kernel
theorem dX5_keep_39 : decode cX5_keep 39 = .ok (.iaload, 1) := by decide +kernel
theorem dX5_keep_40 : decode cX5_keep 40 = .ok (.ireturn, 1) := by decide +kernel
theorem dX5_goBack_0 : decode cX5_goBack 0 = .ok (.aload_n 0, 1) := by decide +kernel
theorem dX5_goBack_1 : decode cX5_goBack 1 = .ok (.iload_n 1, 1) := by decide +kernel
theorem dX5_goBack_2 : decode cX5_goBack 2 = .ok (.iconst 0, 1) := by decide +kernel
theorem dX5_goBack_3 : decode cX5_goBack 3 = .ok (.iconst 1, 1) := by decide +kernel
theorem dX5_goBack_4 : decode cX5_goBack 4 = .ok (.invokestatic 45, 3) := by decide +kernel
theorem dX5_goBack_7 : decode cX5_goBack 7 = .ok (.iload_n 1, 1) := by decide +kernel
theorem dX5_goBack_8 : decode cX5_goBack 8 = .ok (.iconst 0, 1) := by decide +kernel
theorem dX5_goBack_9 : decode cX5_goBack 9 = .ok (.iconst 1, 1) := by decide +kernel
theorem dX5_goBack_10 : decode cX5_goBack 10 = .ok (.invokestatic 45, 3) := by decide +kernel
theorem dX5_goBack_13 : decode cX5_goBack 13 = .ok (.ifCond .eq 16, 3) := by decide +kernel
theorem dX5_goBack_16 : decode cX5_goBack 16 = .ok (.aload_n 0, 1) := by decide +kernel
theorem dX5_goBack_17 : decode cX5_goBack 17 = .ok (.getfield 13, 3) := by decide +kernel
theorem dX5_goBack_20 : decode cX5_goBack 20 = .ok (.iload_n 1, 1) := by decide +kernel
theorem dX5_goBack_21 : decode cX5_goBack 21 = .ok (.baload, 1) := by decide +kernel
theorem dX5_goBack_22 : decode cX5_goBack 22 = .ok (.ifCond .eq 7, 3) := by decide +kernel
theorem dX5_goBack_25 : decode cX5_goBack 25 = .ok (.iconst 1, 1) := by decide +kernel
theorem dX5_goBack_26 : decode cX5_goBack 26 = .ok (.goto 4, 3) := by decide +kernel
theorem dX5_goBack_29 : decode cX5_goBack 29 = .ok (.iconst 0, 1) := by decide +kernel
theorem dX5_goBack_30 : decode cX5_goBack 30 = .ok (.invokevirtual 81, 3) := by decide +kernel
theorem dX5_goBack_33 : decode cX5_goBack 33 = .ok (.ifCond .ne 5, 3) := by decide +kernel
theorem dX5_goBack_36 : decode cX5_goBack 36 = .ok (.iconst 0, 1) := by decide +kernel
theorem dX5_goBack_37 : decode cX5_goBack 37 = .ok (.ireturn, 1) := by decide +kernel
theorem dX5_goBack_38 : decode cX5_goBack 38 = .ok (.aload_n 0, 1) := by decide +kernel
theorem dX5_goBack_39 : decode cX5_goBack 39 = .ok (.invokevirtual 85, 3) := by decide +kernel
theorem dX5_goBack_42 : decode cX5_goBack 42 = .ok (.aload_n 0, 1) := by decide +kernel
theorem dX5_goBack_43 : decode cX5_goBack 43 = .ok (.bipush 7, 2) := by decide +kernel
theorem dX5_goBack_45 : decode cX5_goBack 45 = .ok (.iload_n 1, 1) := by decide +kernel
theorem dX5_goBack_46 : decode cX5_goBack 46 = .ok (.iadd, 1) := by decide +kernel
theorem dX5_goBack_47 : decode cX5_goBack 47 = .ok (.iconst 0, 1) := by decide +kernel
theorem dX5_goBack_48 : decode cX5_goBack 48 = .ok (.invokevirtual 41, 3) := by decide +kernel
theorem dX5_goBack_51 : decode cX5_goBack 51 = .ok (.aload_n 0, 1) := by decide +kernel
theorem dX5_goBack_52 : decode cX5_goBack 52 = .ok (.getfield 7, 3) := by decide +kernel
theorem dX5_goBack_55 : decode cX5_goBack 55 = .ok (.sipush 131, 3) := by decide +kernel
theorem dX5_goBack_58 : decode cX5_goBack 58 = .ok (.iaload, 1) := by decide +kernel
theorem dX5_goBack_59 : decode cX5_goBack 59 = .ok (.ireturn, 1) := by decide +kernel
theorem dX5_undo_0 : decode cX5_undo 0 = .ok (.aload_n 0, 1) := by decide +kernel
theorem dX5_undo_1 : decode cX5_undo 1 = .ok (.aload_n 0, 1) := by decide +kernel
theorem dX5_undo_2 : decode cX5_undo 2 = .ok (.getfield 38, 3) := by decide +kernel
theorem dX5_undo_5 : decode cX5_undo 5 = .ok (.ifCond .le 7, 3) := by decide +kernel
theorem dX5_undo_8 : decode cX5_undo 8 = .ok (.iconst 1, 1) := by decide +kernel
theorem dX5_undo_9 : decode cX5_undo 9 = .ok (.goto 4, 3) := by decide +kernel
theorem dX5_undo_12 : decode cX5_undo 12 = .ok (.iconst 0, 1) := by decide +kernel
theorem dX5_undo_13 : decode cX5_undo 13 = .ok (.iconst 1, 1) := by decide +kernel
theorem dX5_undo_14 : decode cX5_undo 14 = .ok (.invokevirtual 81, 3) := by decide +kernel
theorem dX5_undo_17 : decode cX5_undo 17 = .ok (.ifCond .ne 5, 3) := by decide +kernel
theorem dX5_undo_20 : decode cX5_undo 20 = .ok (.iconst 0, 1) := by decide +kernel
theorem dX5_undo_21 : decode cX5_undo 21 = .ok (.ireturn, 1) := by decide +kernel
theorem dX5_undo_22 : decode cX5_undo 22 = .ok (.aload_n 0, 1) := by decide +kernel
theorem dX5_undo_23 : decode cX5_undo 23 = .ok (.aload_n 0, 1) := by decide +kernel
theorem dX5_undo_24 : decode cX5_undo 24 = .ok (.getfield 38, 3) := by decide +kernel
theorem dX5_undo_27 : decode cX5_undo 27 = .ok (.iconst 0, 1) := by decide +kernel
theorem dX5_undo_28 : decode cX5_undo 28 = .ok (.invokevirtual 41, 3) := by decide +kernel
theorem dX5_undo_31 : decode cX5_undo 31 = .ok (.aload_n 0, 1) := by decide +kernel
theorem dX5_undo_32 : decode cX5_undo 32 = .ok (.dup, 1) := by decide +kernel
theorem dX5_undo_33 : decode cX5_undo 33 = .ok (.getfield 38, 3) := by decide +kernel
theorem dX5_undo_36 : decode cX5_undo 36 = .ok (.iconst 1, 1) := by decide +kernel
theorem dX5_undo_37 : decode cX5_undo 37 = .ok (.isub, 1) := by decide +kernel
theorem dX5_undo_38 : decode cX5_undo 38 = .ok (.putfield 38, 3) := by decide +kernel
theorem dX5_undo_41 : decode cX5_undo 41 = .ok (.aload_n 0, 1) := by decide +kernel
theorem dX5_undo_42 : decode cX5_undo 42 = .ok (.getfield 38, 3) := by decide +kernel
theorem dX5_undo_45 : decode cX5_undo 45 = .ok (.ireturn, 1) := by decide +kernel
theorem dX5_isOfTriple_0 : decode cX5_isOfTriple 0 = .ok (.iconst 0, 1) := by decide +kernel
theorem dX5_isOfTriple_1 : decode cX5_isOfTriple 1 = .ok (.istore 4, 2) := by decide +kernel
theorem dX5_isOfTriple_3 : decode cX5_isOfTriple 3 = .ok (.iconst 0, 1) := by decide +kernel
theorem dX5_isOfTriple_4 : decode cX5_isOfTriple 4 = .ok (.istore 5, 2) := by decide +kernel
theorem dX5_isOfTriple_6 : decode cX5_isOfTriple 6 = .ok (.iload 5, 2) := by decide +kernel
theorem dX5_isOfTriple_8 : decode cX5_isOfTriple 8 = .ok (.iconst 4, 1) := by decide +kernel
theorem dX5_isOfTriple_9 : decode cX5_isOfTriple 9 = .ok (.if_icmp .ge 38, 3) := by decide +kernel
theorem dX5_isOfTriple_12 : decode cX5_isOfTriple 12 = .ok (.iload 4, 2) := by decide +kernel
theorem dX5_isOfTriple_14 : decode cX5_isOfTriple 14 = .ok (.ifCond .ne 20, 3) := by decide +kernel
theorem dX5_isOfTriple_17 : decode cX5_isOfTriple 17 = .ok (.iload 5, 2) := by decide +kernel
theorem dX5_isOfTriple_19 : decode cX5_isOfTriple 19 = .ok (.iload_n 2, 1) := by decide +kernel
theorem dX5_isOfTriple_20 : decode cX5_isOfTriple 20 = .ok (.if_icmp .eq 18, 3) := by decide +kernel
theorem dX5_isOfTriple_23 : decode cX5_isOfTriple 23 = .ok (.iload_n 0, 1) := by decide +kernel
theorem dX5_isOfTriple_24 : decode cX5_isOfTriple 24 = .ok (.iload_n 1, 1) := by decide +kernel
theorem dX5_isOfTriple_25 : decode cX5_isOfTriple 25 = .ok (.iload 5, 2) := by decide +kernel
theorem dX5_isOfTriple_27 : decode cX5_isOfTriple 27 = .ok (.invokestatic 49, 3) := by decide +kernel
theorem dX5_isOfTriple_30 : decode cX5_isOfTriple 30 = .ok (.iload_n 3, 1) := by decide +kernel
theorem dX5_isOfTriple_31 : decode cX5_isOfTriple 31 = .ok (.if_icmp .ne 7, 3) := by decide +kernel
theorem dX5_isOfTriple_34 : decode cX5_isOfTriple 34 = .ok (.iconst 1, 1) := by decide +kernel
theorem dX5_isOfTriple_35 : decode cX5_isOfTriple 35 = .ok (.goto 4, 3) := by decide +kernel
theorem dX5_isOfTriple_38 : decode cX5_isOfTriple 38 = .ok (.iconst 0, 1) := by decide +kernel
theorem dX5_isOfTriple_39 : decode cX5_isOfTriple 39 = .ok (.istore 4, 2) := by decide +kernel
theorem dX5_isOfTriple_41 : decode cX5_isOfTriple 41 = .ok (.iinc 5 1, 3) := by decide +kernel
theorem dX5_isOfTriple_44 : decode cX5_isOfTriple 44 = .ok (.goto (-38), 3) := by decide +kernel
theorem dX5_isOfTriple_47 : decode cX5_isOfTriple 47 = .ok (.iload 4, 2) := by decide +kernel
theorem dX5_isOfTriple_49 : decode cX5_isOfTriple 49 = .ok (.ireturn, 1) := by decide +kernel
theorem dX5_could_0 : decode cX5_could 0 = .ok (.iconst 0, 1) := by decide +kernel
theorem dX5_could_1 : decode cX5_could 1 = .ok (.istore_n 3, 1) := by decide +kernel
theorem dX5_could_2 : decode cX5_could 2 = .ok (.iconst (-1), 1) := by decide +kernel
theorem dX5_could_3 : decode cX5_could 3 = .ok (.istore 4, 2) := by decide +kernel
theorem dX5_could_5 : decode cX5_could 5 = .ok (.iconst 0, 1) := by decide +kernel
theorem dX5_could_6 : decode cX5_could 6 = .ok (.istore 5, 2) := by decide +kernel
theorem dX5_could_8 : decode cX5_could 8 = .ok (.iload 5, 2) := by decide +kernel
theorem dX5_could_10 : decode cX5_could 10 = .ok (.aload_n 0, 1) := by decide +kernel
theorem dX5_could_11 : decode cX5_could 11 = .ok (.getfield 7, 3) := by decide +kernel
theorem dX5_could_14 : decode cX5_could 14 = .ok (.iconst 1, 1) := by decide +kernel
theorem dX5_could_15 : decode cX5_could 15 = .ok (.iaload, 1) := by decide +kernel
theorem dX5_could_16 : decode cX5_could 16 = .ok (.iconst 1, 1) := by decide +kernel
theorem dX5_could_17 : decode cX5_could 17 = .ok (.isub, 1) := by decide +kernel
theorem dX5_could_18 : decode cX5_could 18 = .ok (.if_icmp .ge 96, 3) := by decide +kernel
theorem dX5_could_21 : decode cX5_could 21 = .ok (.iconst 0, 1) := by decide +kernel
theorem dX5_could_22 : decode cX5_could 22 = .ok (.istore 6, 2) := by decide +kernel
theorem dX5_could_24 : decode cX5_could 24 = .ok (.iload 6, 2) := by decide +kernel
theorem dX5_could_26 : decode cX5_could 26 = .ok (.aload_n 0, 1) := by decide +kernel
theorem dX5_could_27 : decode cX5_could 27 = .ok (.getfield 7, 3) := by decide +kernel
theorem dX5_could_30 : decode cX5_could 30 = .ok (.iconst 0, 1) := by decide +kernel
theorem dX5_could_31 : decode cX5_could 31 = .ok (.iaload, 1) := by decide +kernel
theorem dX5_could_32 : decode cX5_could 32 = .ok (.iconst 1, 1) := by decide +kernel
theorem dX5_could_33 : decode cX5_could 33 = .ok (.isub, 1) := by decide +kernel
theorem dX5_could_34 : decode cX5_could 34 = .ok (.if_icmp .ge 74, 3) := by decide +kernel
theorem dX5_could_37 : decode cX5_could 37 = .ok (.iconst 0, 1) := by decide +kernel
theorem dX5_could_38 : decode cX5_could 38 = .ok (.istore 7, 2) := by decide +kernel
theorem dX5_could_40 : decode cX5_could 40 = .ok (.iload 7, 2) := by decide +kernel
theorem dX5_could_42 : decode cX5_could 42 = .ok (.iconst 4, 1) := by decide +kernel
theorem dX5_could_43 : decode cX5_could 43 = .ok (.if_icmp .ge 59, 3) := by decide +kernel
theorem dX5_could_46 : decode cX5_could 46 = .ok (.aload_n 0, 1) := by decide +kernel
theorem dX5_could_47 : decode cX5_could 47 = .ok (.iconst 0, 1) := by decide +kernel
theorem dX5_could_48 : decode cX5_could 48 = .ok (.iload 6, 2) := by decide +kernel
theorem dX5_could_50 : decode cX5_could 50 = .ok (.iload 5, 2) := by decide +kernel
theorem dX5_could_52 : decode cX5_could 52 = .ok (.iload 7, 2) := by decide +kernel
theorem dX5_could_54 : decode cX5_could 54 = .ok (.invokevirtual 53, 3) := by decide +kernel
theorem dX5_could_57 : decode cX5_could 57 = .ok (.ifCond .ne 39, 3) := by decide +kernel
theorem dX5_could_60 : decode cX5_could 60 = .ok (.iload_n 1, 1) := by decide +kernel
theorem dX5_could_61 : decode cX5_could 61 = .ok (.ifCond .lt 16, 3) := by decide +kernel
theorem dX5_could_64 : decode cX5_could 64 = .ok (.iload 6, 2) := by decide +kernel
theorem dX5_could_66 : decode cX5_could 66 = .ok (.iload 5, 2) := by decide +kernel
theorem dX5_could_68 : decode cX5_could 68 = .ok (.iload 7, 2) := by decide +kernel
theorem dX5_could_70 : decode cX5_could 70 = .ok (.iload_n 1, 1) := by decide +kernel
theorem dX5_could_71 : decode cX5_could 71 = .ok (.invokestatic 129, 3) := by decide +kernel
theorem dX5_could_74 : decode cX5_could 74 = .ok (.ifCond .eq 22, 3) := by decide +kernel
theorem dX5_could_77 : decode cX5_could 77 = .ok (.iinc 3 1, 3) := by decide +kernel
theorem dX5_could_80 : decode cX5_could 80 = .ok (.iload 6, 2) := by decide +kernel
theorem dX5_could_82 : decode cX5_could 82 = .ok (.bipush 10, 2) := by decide +kernel
theorem dX5_could_84 : decode cX5_could 84 = .ok (.iload 5, 2) := by decide +kernel
theorem dX5_could_86 : decode cX5_could 86 = .ok (.imul, 1) := by decide +kernel
theorem dX5_could_87 : decode cX5_could 87 = .ok (.iadd, 1) := by decide +kernel
theorem dX5_could_88 : decode cX5_could 88 = .ok (.bipush 100, 2) := by decide +kernel
theorem dX5_could_90 : decode cX5_could 90 = .ok (.iload 7, 2) := by decide +kernel
theorem dX5_could_92 : decode cX5_could 92 = .ok (.imul, 1) := by decide +kernel
theorem dX5_could_93 : decode cX5_could 93 = .ok (.iadd, 1) := by decide +kernel
theorem dX5_could_94 : decode cX5_could 94 = .ok (.istore 4, 2) := by decide +kernel
theorem dX5_could_96 : decode cX5_could 96 = .ok (.iinc 7 1, 3) := by decide +kernel
theorem dX5_could_99 : decode cX5_could 99 = .ok (.goto (-59), 3) := by decide +kernel
theorem dX5_could_102 : decode cX5_could 102 = .ok (.iinc 6 1, 3) := by decide +kernel
theorem dX5_could_105 : decode cX5_could 105 = .ok (.goto (-81), 3) := by decide +kernel
theorem dX5_could_108 : decode cX5_could 108 = .ok (.iinc 5 1, 3) := by decide +kernel
theorem dX5_could_111 : decode cX5_could 111 = .ok (.goto (-103), 3) := by decide +kernel
theorem dX5_could_114 : decode cX5_could 114 = .ok (.iload_n 2, 1) := by decide +kernel
theorem dX5_could_115 : decode cX5_could 115 = .ok (.ifCond .eq 8, 3) := by decide +kernel
theorem dX5_could_118 : decode cX5_could 118 = .ok (.iload 4, 2) := by decide +kernel
theorem dX5_could_120 : decode cX5_could 120 = .ok (.goto 4, 3) := by decide +kernel
theorem dX5_could_123 : decode cX5_could 123 = .ok (.iload_n 3, 1) := by decide +kernel
theorem dX5_could_124 : decode cX5_could 124 = .ok (.ireturn, 1) := by decide +kernel
theorem dX5_cells_0 : decode cX5_cells 0 = .ok (.iload_n 2, 1) := by decide +kernel
theorem dX5_cells_1 : decode cX5_cells 1 = .ok (.ifCond .ne 51, 3) := by decide +kernel
theorem dX5_cells_4 : decode cX5_cells 4 = .ok (.iload_n 1, 1) := by decide +kernel
theorem dX5_cells_5 : decode cX5_cells 5 = .ok (.aload_n 0, 1) := by decide +kernel
theorem dX5_cells_6 : decode cX5_cells 6 = .ok (.getfield 7, 3) := by decide +kernel
theorem dX5_cells_9 : decode cX5_cells 9 = .ok (.iconst 2, 1) := by decide +kernel
theorem dX5_cells_10 : decode cX5_cells 10 = .ok (.iaload, 1) := by decide +kernel
theorem dX5_cells_11 : decode cX5_cells 11 = .ok (.if_icmp .ne 7, 3) := by decide +kernel
theorem dX5_cells_14 : decode cX5_cells 14 = .ok (.iconst 1, 1) := by decide +kernel
theorem dX5_cells_15 : decode cX5_cells 15 = .ok (.goto 36, 3) := by decide +kernel
theorem dX5_cells_18 : decode cX5_cells 18 = .ok (.aload_n 0, 1) := by decide +kernel
theorem dX5_cells_19 : decode cX5_cells 19 = .ok (.getfield 7, 3) := by decide +kernel
theorem dX5_cells_22 : decode cX5_cells 22 = .ok (.iconst 3, 1) := by decide +kernel
theorem dX5_cells_23 : decode cX5_cells 23 = .ok (.iload_n 1, 1) := by decide +kernel
theorem dX5_cells_24 : decode cX5_cells 24 = .ok (.iadd, 1) := by decide +kernel
theorem dX5_cells_25 : decode cX5_cells 25 = .ok (.iaload, 1) := by decide +kernel
theorem dX5_cells_26 : decode cX5_cells 26 = .ok (.iconst 1, 1) := by decide +kernel
theorem dX5_cells_27 : decode cX5_cells 27 = .ok (.if_icmp .ne 7, 3) := by decide +kernel
theorem dX5_cells_30 : decode cX5_cells 30 = .ok (.iconst 2, 1) := by decide +kernel
theorem dX5_cells_31 : decode cX5_cells 31 = .ok (.goto 20, 3) := by decide +kernel
theorem dX5_cells_34 : decode cX5_cells 34 = .ok (.aload_n 0, 1) := by decide +kernel
theorem dX5_cells_35 : decode cX5_cells 35 = .ok (.getfield 7, 3) := by decide +kernel
theorem dX5_cells_38 : decode cX5_cells 38 = .ok (.bipush 67, 2) := by decide +kernel
theorem dX5_cells_40 : decode cX5_cells 40 = .ok (.iload_n 1, 1) := by decide +kernel
theorem dX5_cells_41 : decode cX5_cells 41 = .ok (.iadd, 1) := by decide +kernel
theorem dX5_cells_42 : decode cX5_cells 42 = .ok (.iaload, 1) := by decide +kernel
theorem dX5_cells_43 : decode cX5_cells 43 = .ok (.ifCond .lt 7, 3) := by decide +kernel
theorem dX5_cells_46 : decode cX5_cells 46 = .ok (.iconst 3, 1) := by decide +kernel
theorem dX5_cells_47 : decode cX5_cells 47 = .ok (.goto 4, 3) := by decide +kernel
theorem dX5_cells_50 : decode cX5_cells 50 = .ok (.iconst 0, 1) := by decide +kernel
theorem dX5_cells_51 : decode cX5_cells 51 = .ok (.ireturn, 1) := by decide +kernel
theorem dX5_cells_52 : decode cX5_cells 52 = .ok (.iload_n 2, 1) := by decide +kernel
theorem dX5_cells_53 : decode cX5_cells 53 = .ok (.iconst 1, 1) := by decide +kernel
theorem dX5_cells_54 : decode cX5_cells 54 = .ok (.if_icmp .ne 15, 3) := by decide +kernel
theorem dX5_cells_57 : decode cX5_cells 57 = .ok (.aload_n 0, 1) := by decide +kernel
theorem dX5_cells_58 : decode cX5_cells 58 = .ok (.getfield 7, 3) := by decide +kernel
theorem dX5_cells_61 : decode cX5_cells 61 = .ok (.bipush 67, 2) := by decide +kernel
theorem dX5_cells_63 : decode cX5_cells 63 = .ok (.iload_n 1, 1) := by decide +kernel
theorem dX5_cells_64 : decode cX5_cells 64 = .ok (.iadd, 1) := by decide +kernel
theorem dX5_cells_65 : decode cX5_cells 65 = .ok (.iaload, 1) := by decide +kernel
theorem dX5_cells_66 : decode cX5_cells 66 = .ok (.goto 9, 3) := by decide +kernel
theorem dX5_cells_69 : decode cX5_cells 69 = .ok (.aload_n 0, 1) := by decide +kernel
theorem dX5_cells_70 : decode cX5_cells 70 = .ok (.iload_n 1, 1) := by decide +kernel
theorem dX5_cells_71 : decode cX5_cells 71 = .ok (.iconst 0, 1) := by decide +kernel
theorem dX5_cells_72 : decode cX5_cells 72 = .ok (.invokevirtual 133, 3) := by decide +kernel
theorem dX5_cells_75 : decode cX5_cells 75 = .ok (.ireturn, 1) := by decide +kernel
theorem dX5_cell_0 : decode cX5_cell 0 = .ok (.aload_n 0, 1) := by decide +kernel
theorem dX5_cell_1 : decode cX5_cell 1 = .ok (.aload_n 0, 1) := by decide +kernel
theorem dX5_cell_2 : decode cX5_cell 2 = .ok (.iload_n 1, 1) := by decide +kernel
theorem dX5_cell_3 : decode cX5_cell 3 = .ok (.iload_n 2, 1) := by decide +kernel
theorem dX5_cell_4 : decode cX5_cell 4 = .ok (.invokevirtual 88, 3) := by decide +kernel
theorem dX5_cell_7 : decode cX5_cell 7 = .ok (.iload_n 3, 1) := by decide +kernel
theorem dX5_cell_8 : decode cX5_cell 8 = .ok (.iconst 0, 1) := by decide +kernel
theorem dX5_cell_9 : decode cX5_cell 9 = .ok (.iconst 2, 1) := by decide +kernel
theorem dX5_cell_10 : decode cX5_cell 10 = .ok (.invokestatic 45, 3) := by decide +kernel
theorem dX5_cell_13 : decode cX5_cell 13 = .ok (.invokevirtual 81, 3) := by decide +kernel
theorem dX5_cell_16 : decode cX5_cell 16 = .ok (.ifCond .eq 17, 3) := by decide +kernel
theorem dX5_cell_19 : decode cX5_cell 19 = .ok (.aload_n 0, 1) := by decide +kernel
theorem dX5_cell_20 : decode cX5_cell 20 = .ok (.bipush 8, 2) := by decide +kernel
theorem dX5_cell_22 : decode cX5_cell 22 = .ok (.iload_n 2, 1) := by decide +kernel
theorem dX5_cell_23 : decode cX5_cell 23 = .ok (.imul, 1) := by decide +kernel
theorem dX5_cell_24 : decode cX5_cell 24 = .ok (.iload_n 1, 1) := by decide +kernel
theorem dX5_cell_25 : decode cX5_cell 25 = .ok (.iadd, 1) := by decide +kernel
theorem dX5_cell_26 : decode cX5_cell 26 = .ok (.iload_n 3, 1) := by decide +kernel
theorem dX5_cell_27 : decode cX5_cell 27 = .ok (.invokevirtual 137, 3) := by decide +kernel
theorem dX5_cell_30 : decode cX5_cell 30 = .ok (.goto 4, 3) := by decide +kernel
theorem dX5_cell_33 : decode cX5_cell 33 = .ok (.iconst 0, 1) := by decide +kernel
theorem dX5_cell_34 : decode cX5_cell 34 = .ok (.ireturn, 1) := by decide +kernel
theorem dX5_triple_0 : decode cX5_triple 0 = .ok (.aload_n 0, 1) := by decide +kernel
theorem dX5_triple_1 : decode cX5_triple 1 = .ok (.iload_n 1, 1) := by decide +kernel
theorem dX5_triple_2 : decode cX5_triple 2 = .ok (.iconst 0, 1) := by decide +kernel
theorem dX5_triple_3 : decode cX5_triple 3 = .ok (.aload_n 0, 1) := by decide +kernel
theorem dX5_triple_4 : decode cX5_triple 4 = .ok (.getfield 7, 3) := by decide +kernel
theorem dX5_triple_7 : decode cX5_triple 7 = .ok (.sipush 131, 3) := by decide +kernel
theorem dX5_triple_10 : decode cX5_triple 10 = .ok (.iaload, 1) := by decide +kernel
theorem dX5_triple_11 : decode cX5_triple 11 = .ok (.iconst 1, 1) := by decide +kernel
theorem dX5_triple_12 : decode cX5_triple 12 = .ok (.isub, 1) := by decide +kernel
theorem dX5_triple_13 : decode cX5_triple 13 = .ok (.invokestatic 45, 3) := by decide +kernel
theorem dX5_triple_16 : decode cX5_triple 16 = .ok (.iload_n 2, 1) := by decide +kernel
theorem dX5_triple_17 : decode cX5_triple 17 = .ok (.iconst 0, 1) := by decide +kernel
theorem dX5_triple_18 : decode cX5_triple 18 = .ok (.iconst 2, 1) := by decide +kernel
theorem dX5_triple_19 : decode cX5_triple 19 = .ok (.invokestatic 45, 3) := by decide +kernel
theorem dX5_triple_22 : decode cX5_triple 22 = .ok (.invokevirtual 81, 3) := by decide +kernel
theorem dX5_triple_25 : decode cX5_triple 25 = .ok (.ifCond .eq 20, 3) := by decide +kernel
theorem dX5_triple_28 : decode cX5_triple 28 = .ok (.aload_n 0, 1) := by decide +kernel
theorem dX5_triple_29 : decode cX5_triple 29 = .ok (.getfield 7, 3) := by decide +kernel
theorem dX5_triple_32 : decode cX5_triple 32 = .ok (.sipush 132, 3) := by decide +kernel
theorem dX5_triple_35 : decode cX5_triple 35 = .ok (.iconst 3, 1) := by decide +kernel
theorem dX5_triple_36 : decode cX5_triple 36 = .ok (.iload_n 1, 1) := by decide +kernel
theorem dX5_triple_37 : decode cX5_triple 37 = .ok (.imul, 1) := by decide +kernel
theorem dX5_triple_38 : decode cX5_triple 38 = .ok (.iadd, 1) := by decide +kernel
theorem dX5_triple_39 : decode cX5_triple 39 = .ok (.iload_n 2, 1) := by decide +kernel
theorem dX5_triple_40 : decode cX5_triple 40 = .ok (.iadd, 1) := by decide +kernel
theorem dX5_triple_41 : decode cX5_triple 41 = .ok (.iaload, 1) := by decide +kernel
theorem dX5_triple_42 : decode cX5_triple 42 = .ok (.goto 4, 3) := by decide +kernel
theorem dX5_triple_45 : decode cX5_triple 45 = .ok (.iconst 0, 1) := by decide +kernel
theorem dX5_triple_46 : decode cX5_triple 46 = .ok (.ireturn, 1) := by decide +kernel
theorem dX5_mask_0 : decode cX5_mask 0 = .ok (.iconst 0, 1) := by decide +kernel
theorem dX5_mask_1 : decode cX5_mask 1 = .ok (.istore_n 3, 1) := by decide +kernel
theorem dX5_mask_2 : decode cX5_mask 2 = .ok (.iload_n 2, 1) := by decide +kernel
theorem dX5_mask_3 : decode cX5_mask 3 = .ok (.ifCond .ne 7, 3) := by decide +kernel
theorem dX5_mask_6 : decode cX5_mask 6 = .ok (.iconst 0, 1) := by decide +kernel
theorem dX5_mask_7 : decode cX5_mask 7 = .ok (.goto 6, 3) := by decide +kernel
theorem dX5_mask_10 : decode cX5_mask 10 = .ok (.iload_n 2, 1) := by decide +kernel
theorem dX5_mask_11 : decode cX5_mask 11 = .ok (.iconst 1, 1) := by decide +kernel
theorem dX5_mask_12 : decode cX5_mask 12 = .ok (.iadd, 1) := by decide +kernel
theorem dX5_mask_13 : decode cX5_mask 13 = .ok (.istore 4, 2) := by decide +kernel
theorem dX5_mask_15 : decode cX5_mask 15 = .ok (.iconst 0, 1) := by decide +kernel
theorem dX5_mask_16 : decode cX5_mask 16 = .ok (.istore 5, 2) := by decide +kernel
theorem dX5_mask_18 : decode cX5_mask 18 = .ok (.iload 5, 2) := by decide +kernel
theorem dX5_mask_20 : decode cX5_mask 20 = .ok (.aload_n 0, 1) := by decide +kernel
theorem dX5_mask_21 : decode cX5_mask 21 = .ok (.getfield 7, 3) := by decide +kernel
theorem dX5_mask_24 : decode cX5_mask 24 = .ok (.iconst 0, 1) := by decide +kernel
theorem dX5_mask_25 : decode cX5_mask 25 = .ok (.iaload, 1) := by decide +kernel
theorem dX5_mask_26 : decode cX5_mask 26 = .ok (.if_icmp .ge 37, 3) := by decide +kernel
theorem dX5_mask_29 : decode cX5_mask 29 = .ok (.iload_n 3, 1) := by decide +kernel
theorem dX5_mask_30 : decode cX5_mask 30 = .ok (.aload_n 0, 1) := by decide +kernel
theorem dX5_mask_31 : decode cX5_mask 31 = .ok (.bipush 8, 2) := by decide +kernel
theorem dX5_mask_33 : decode cX5_mask 33 = .ok (.iload_n 1, 1) := by decide +kernel
theorem dX5_mask_34 : decode cX5_mask 34 = .ok (.imul, 1) := by decide +kernel
theorem dX5_mask_35 : decode cX5_mask 35 = .ok (.iload 5, 2) := by decide +kernel
theorem dX5_mask_37 : decode cX5_mask 37 = .ok (.iadd, 1) := by decide +kernel
theorem dX5_mask_38 : decode cX5_mask 38 = .ok (.iconst 0, 1) := by decide +kernel
theorem dX5_mask_39 : decode cX5_mask 39 = .ok (.invokevirtual 137, 3) := by decide +kernel
theorem dX5_mask_42 : decode cX5_mask 42 = .ok (.iload 4, 2) := by decide +kernel
theorem dX5_mask_44 : decode cX5_mask 44 = .ok (.if_icmp .ne 10, 3) := by decide +kernel
theorem dX5_mask_47 : decode cX5_mask 47 = .ok (.iconst 1, 1) := by decide +kernel
theorem dX5_mask_48 : decode cX5_mask 48 = .ok (.iload 5, 2) := by decide +kernel
theorem dX5_mask_50 : decode cX5_mask 50 = .ok (.ishl, 1) := by decide +kernel
theorem dX5_mask_51 : decode cX5_mask 51 = .ok (.goto 4, 3) := by decide +kernel
theorem dX5_mask_54 : decode cX5_mask 54 = .ok (.iconst 0, 1) := by decide +kernel
theorem dX5_mask_55 : decode cX5_mask 55 = .ok (.ior, 1) := by decide +kernel
theorem dX5_mask_56 : decode cX5_mask 56 = .ok (.istore_n 3, 1) := by decide +kernel
theorem dX5_mask_57 : decode cX5_mask 57 = .ok (.iinc 5 1, 3) := by decide +kernel
theorem dX5_mask_60 : decode cX5_mask 60 = .ok (.goto (-42), 3) := by decide +kernel
theorem dX5_mask_63 : decode cX5_mask 63 = .ok (.iload_n 3, 1) := by decide +kernel
theorem dX5_mask_64 : decode cX5_mask 64 = .ok (.ireturn, 1) := by decide +kernel
theorem dX5_row_0 : decode cX5_row 0 = .ok (.aload_n 0, 1) := by decide +kernel
theorem dX5_row_1 : decode cX5_row 1 = .ok (.iload_n 1, 1) := by decide +kernel
theorem dX5_row_2 : decode cX5_row 2 = .ok (.iconst 0, 1) := by decide +kernel
theorem dX5_row_3 : decode cX5_row 3 = .ok (.aload_n 0, 1) := by decide +kernel
theorem dX5_row_4 : decode cX5_row 4 = .ok (.getfield 7, 3) := by decide +kernel
theorem dX5_row_7 : decode cX5_row 7 = .ok (.iconst 1, 1) := by decide +kernel
theorem dX5_row_8 : decode cX5_row 8 = .ok (.iaload, 1) := by decide +kernel
theorem dX5_row_9 : decode cX5_row 9 = .ok (.iconst 1, 1) := by decide +kernel
theorem dX5_row_10 : decode cX5_row 10 = .ok (.isub, 1) := by decide +kernel
theorem dX5_row_11 : decode cX5_row 11 = .ok (.invokestatic 45, 3) := by decide +kernel
theorem dX5_row_14 : decode cX5_row 14 = .ok (.iload_n 2, 1) := by decide +kernel
theorem dX5_row_15 : decode cX5_row 15 = .ok (.iconst 0, 1) := by decide +kernel
theorem dX5_row_16 : decode cX5_row 16 = .ok (.iconst 2, 1) := by decide +kernel
theorem dX5_row_17 : decode cX5_row 17 = .ok (.invokestatic 45, 3) := by decide +kernel
theorem dX5_row_20 : decode cX5_row 20 = .ok (.invokevirtual 81, 3) := by decide +kernel
theorem dX5_row_23 : decode cX5_row 23 = .ok (.ifCond .eq 12, 3) := by decide +kernel
theorem dX5_row_26 : decode cX5_row 26 = .ok (.aload_n 0, 1) := by decide +kernel
theorem dX5_row_27 : decode cX5_row 27 = .ok (.iload_n 1, 1) := by decide +kernel
theorem dX5_row_28 : decode cX5_row 28 = .ok (.iload_n 2, 1) := by decide +kernel
theorem dX5_row_29 : decode cX5_row 29 = .ok (.invokevirtual 141, 3) := by decide +kernel
theorem dX5_row_32 : decode cX5_row 32 = .ok (.goto 4, 3) := by decide +kernel
theorem dX5_row_35 : decode cX5_row 35 = .ok (.iconst 0, 1) := by decide +kernel
theorem dX5_row_36 : decode cX5_row 36 = .ok (.ireturn, 1) := by decide +kernel
theorem dX5_flippable_0 : decode cX5_flippable 0 = .ok (.iconst 0, 1) := by decide +kernel
theorem dX5_flippable_1 : decode cX5_flippable 1 = .ok (.istore_n 1, 1) := by decide +kernel
theorem dX5_flippable_2 : decode cX5_flippable 2 = .ok (.iconst 0, 1) := by decide +kernel
theorem dX5_flippable_3 : decode cX5_flippable 3 = .ok (.istore_n 2, 1) := by decide +kernel
theorem dX5_flippable_4 : decode cX5_flippable 4 = .ok (.iload_n 2, 1) := by decide +kernel
theorem dX5_flippable_5 : decode cX5_flippable 5 = .ok (.aload_n 0, 1) := by decide +kernel
theorem dX5_flippable_6 : decode cX5_flippable 6 = .ok (.getfield 7, 3) := by decide +kernel
theorem dX5_flippable_9 : decode cX5_flippable 9 = .ok (.iconst 1, 1) := by decide +kernel
theorem dX5_flippable_10 : decode cX5_flippable 10 = .ok (.iaload, 1) := by decide +kernel
theorem dX5_flippable_11 : decode cX5_flippable 11 = .ok (.if_icmp .ge 83, 3) := by decide +kernel
theorem dX5_flippable_14 : decode cX5_flippable 14 = .ok (.iconst 0, 1) := by decide +kernel
theorem dX5_flippable_15 : decode cX5_flippable 15 = .ok (.istore_n 3, 1) := by decide +kernel
theorem dX5_flippable_16 : decode cX5_flippable 16 = .ok (.iload_n 3, 1) := by decide +kernel
theorem dX5_flippable_17 : decode cX5_flippable 17 = .ok (.aload_n 0, 1) := by decide +kernel
theorem dX5_flippable_18 : decode cX5_flippable 18 = .ok (.getfield 7, 3) := by decide +kernel
theorem dX5_flippable_21 : decode cX5_flippable 21 = .ok (.iconst 0, 1) := by decide +kernel
theorem dX5_flippable_22 : decode cX5_flippable 22 = .ok (.iaload, 1) := by decide +kernel
theorem dX5_flippable_23 : decode cX5_flippable 23 = .ok (.if_icmp .ge 65, 3) := by decide +kernel
theorem dX5_flippable_26 : decode cX5_flippable 26 = .ok (.iload_n 1, 1) := by decide +kernel
theorem dX5_flippable_27 : decode cX5_flippable 27 = .ok (.aload_n 0, 1) := by decide +kernel
theorem dX5_flippable_28 : decode cX5_flippable 28 = .ok (.iload_n 3, 1) := by decide +kernel
theorem dX5_flippable_29 : decode cX5_flippable 29 = .ok (.iload_n 2, 1) := by decide +kernel
theorem dX5_flippable_30 : decode cX5_flippable 30 = .ok (.iconst 1, 1) := by decide +kernel
theorem dX5_flippable_31 : decode cX5_flippable 31 = .ok (.invokevirtual 95, 3) := by decide +kernel
theorem dX5_flippable_34 : decode cX5_flippable 34 = .ok (.ifCond .eq 17, 3) := by decide +kernel
theorem dX5_flippable_37 : decode cX5_flippable 37 = .ok (.aload_n 0, 1) := by decide +kernel
theorem dX5_flippable_38 : decode cX5_flippable 38 = .ok (.iload_n 3, 1) := by decide +kernel
theorem dX5_flippable_39 : decode cX5_flippable 39 = .ok (.iload_n 2, 1) := by decide +kernel
theorem dX5_flippable_40 : decode cX5_flippable 40 = .ok (.iconst 1, 1) := by decide +kernel
theorem dX5_flippable_41 : decode cX5_flippable 41 = .ok (.invokevirtual 99, 3) := by decide +kernel
theorem dX5_flippable_44 : decode cX5_flippable 44 = .ok (.ifCond .lt 7, 3) := by decide +kernel
theorem dX5_flippable_47 : decode cX5_flippable 47 = .ok (.iconst 1, 1) := by decide +kernel
theorem dX5_flippable_48 : decode cX5_flippable 48 = .ok (.goto 4, 3) := by decide +kernel
theorem dX5_flippable_51 : decode cX5_flippable 51 = .ok (.iconst 0, 1) := by decide +kernel
theorem dX5_flippable_52 : decode cX5_flippable 52 = .ok (.iadd, 1) := by decide +kernel
theorem dX5_flippable_53 : decode cX5_flippable 53 = .ok (.istore_n 1, 1) := by decide +kernel
theorem dX5_flippable_54 : decode cX5_flippable 54 = .ok (.iload_n 1, 1) := by decide +kernel
theorem dX5_flippable_55 : decode cX5_flippable 55 = .ok (.aload_n 0, 1) := by decide +kernel
theorem dX5_flippable_56 : decode cX5_flippable 56 = .ok (.iload_n 3, 1) := by decide +kernel
theorem dX5_flippable_57 : decode cX5_flippable 57 = .ok (.iload_n 2, 1) := by decide +kernel
theorem dX5_flippable_58 : decode cX5_flippable 58 = .ok (.iconst 0, 1) := by decide +kernel
theorem dX5_flippable_59 : decode cX5_flippable 59 = .ok (.invokevirtual 95, 3) := by decide +kernel
theorem dX5_flippable_62 : decode cX5_flippable 62 = .ok (.ifCond .eq 17, 3) := by decide +kernel
theorem dX5_flippable_65 : decode cX5_flippable 65 = .ok (.aload_n 0, 1) := by decide +kernel
theorem dX5_flippable_66 : decode cX5_flippable 66 = .ok (.iload_n 3, 1) := by decide +kernel
theorem dX5_flippable_67 : decode cX5_flippable 67 = .ok (.iload_n 2, 1) := by decide +kernel
theorem dX5_flippable_68 : decode cX5_flippable 68 = .ok (.iconst 0, 1) := by decide +kernel
theorem dX5_flippable_69 : decode cX5_flippable 69 = .ok (.invokevirtual 99, 3) := by decide +kernel
theorem dX5_flippable_72 : decode cX5_flippable 72 = .ok (.ifCond .lt 7, 3) := by decide +kernel
theorem dX5_flippable_75 : decode cX5_flippable 75 = .ok (.iconst 1, 1) := by decide +kernel
theorem dX5_flippable_76 : decode cX5_flippable 76 = .ok (.goto 4, 3) := by decide +kernel
theorem dX5_flippable_79 : decode cX5_flippable 79 = .ok (.iconst 0, 1) := by decide +kernel
theorem dX5_flippable_80 : decode cX5_flippable 80 = .ok (.iadd, 1) := by decide +kernel
theorem dX5_flippable_81 : decode cX5_flippable 81 = .ok (.istore_n 1, 1) := by decide +kernel
theorem dX5_flippable_82 : decode cX5_flippable 82 = .ok (.iinc 3 1, 3) := by decide +kernel
theorem dX5_flippable_85 : decode cX5_flippable 85 = .ok (.goto (-69), 3) := by decide +kernel
theorem dX5_flippable_88 : decode cX5_flippable 88 = .ok (.iinc 2 1, 3) := by decide +kernel
theorem dX5_flippable_91 : decode cX5_flippable 91 = .ok (.goto (-87), 3) := by decide +kernel
theorem dX5_flippable_94 : decode cX5_flippable 94 = .ok (.iload_n 1, 1) := by decide +kernel
theorem dX5_flippable_95 : decode cX5_flippable 95 = .ok (.ireturn, 1) := by decide +kernel
theorem dX5_counted_0 : decode cX5_counted 0 = .ok (.iload_n 1, 1) := by decide +kernel
theorem dX5_counted_1 : decode cX5_counted 1 = .ok (.tableswitch 135 0 10 #[59, 59, 66, 76, 86, 91, 100, 105, 112, 117, 126], 59) := by decide +kernel
theorem dX5_counted_60 : decode cX5_counted 60 = .ok (.aload_n 0, 1) := by decide +kernel
theorem dX5_counted_61 : decode cX5_counted 61 = .ok (.getfield 7, 3) := by decide +kernel
theorem dX5_counted_64 : decode cX5_counted 64 = .ok (.iload_n 1, 1) := by decide +kernel
theorem dX5_counted_65 : decode cX5_counted 65 = .ok (.iaload, 1) := by decide +kernel
theorem dX5_counted_66 : decode cX5_counted 66 = .ok (.ireturn, 1) := by decide +kernel
theorem dX5_counted_67 : decode cX5_counted 67 = .ok (.aload_n 0, 1) := by decide +kernel
theorem dX5_counted_68 : decode cX5_counted 68 = .ok (.getfield 7, 3) := by decide +kernel
theorem dX5_counted_71 : decode cX5_counted 71 = .ok (.iconst 2, 1) := by decide +kernel
theorem dX5_counted_72 : decode cX5_counted 72 = .ok (.iaload, 1) := by decide +kernel
theorem dX5_counted_73 : decode cX5_counted 73 = .ok (.bipush 8, 2) := by decide +kernel
theorem dX5_counted_75 : decode cX5_counted 75 = .ok (.irem, 1) := by decide +kernel
theorem dX5_counted_76 : decode cX5_counted 76 = .ok (.ireturn, 1) := by decide +kernel
theorem dX5_counted_77 : decode cX5_counted 77 = .ok (.aload_n 0, 1) := by decide +kernel
theorem dX5_counted_78 : decode cX5_counted 78 = .ok (.getfield 7, 3) := by decide +kernel
theorem dX5_counted_81 : decode cX5_counted 81 = .ok (.iconst 2, 1) := by decide +kernel
theorem dX5_counted_82 : decode cX5_counted 82 = .ok (.iaload, 1) := by decide +kernel
theorem dX5_counted_83 : decode cX5_counted 83 = .ok (.bipush 8, 2) := by decide +kernel
theorem dX5_counted_85 : decode cX5_counted 85 = .ok (.idiv, 1) := by decide +kernel
theorem dX5_counted_86 : decode cX5_counted 86 = .ok (.ireturn, 1) := by decide +kernel
theorem dX5_counted_87 : decode cX5_counted 87 = .ok (.aload_n 0, 1) := by decide +kernel
theorem dX5_counted_88 : decode cX5_counted 88 = .ok (.invokevirtual 91, 3) := by decide +kernel
theorem dX5_counted_91 : decode cX5_counted 91 = .ok (.ireturn, 1) := by decide +kernel
theorem dX5_counted_92 : decode cX5_counted 92 = .ok (.aload_n 0, 1) := by decide +kernel
theorem dX5_counted_93 : decode cX5_counted 93 = .ok (.getfield 7, 3) := by decide +kernel
theorem dX5_counted_96 : decode cX5_counted 96 = .ok (.sipush 131, 3) := by decide +kernel
theorem dX5_counted_99 : decode cX5_counted 99 = .ok (.iaload, 1) := by decide +kernel
theorem dX5_counted_100 : decode cX5_counted 100 = .ok (.ireturn, 1) := by decide +kernel
theorem dX5_counted_101 : decode cX5_counted 101 = .ok (.aload_n 0, 1) := by decide +kernel
theorem dX5_counted_102 : decode cX5_counted 102 = .ok (.invokevirtual 126, 3) := by decide +kernel
theorem dX5_counted_105 : decode cX5_counted 105 = .ok (.ireturn, 1) := by decide +kernel
theorem dX5_counted_106 : decode cX5_counted 106 = .ok (.aload_n 0, 1) := by decide +kernel
theorem dX5_counted_107 : decode cX5_counted 107 = .ok (.iconst (-1), 1) := by decide +kernel
theorem dX5_counted_108 : decode cX5_counted 108 = .ok (.iconst 0, 1) := by decide +kernel
theorem dX5_counted_109 : decode cX5_counted 109 = .ok (.invokevirtual 133, 3) := by decide +kernel
theorem dX5_counted_112 : decode cX5_counted 112 = .ok (.ireturn, 1) := by decide +kernel
theorem dX5_counted_113 : decode cX5_counted 113 = .ok (.aload_n 0, 1) := by decide +kernel
theorem dX5_counted_114 : decode cX5_counted 114 = .ok (.invokevirtual 144, 3) := by decide +kernel
theorem dX5_counted_117 : decode cX5_counted 117 = .ok (.ireturn, 1) := by decide +kernel
theorem dX5_counted_118 : decode cX5_counted 118 = .ok (.aload_n 0, 1) := by decide +kernel
theorem dX5_counted_119 : decode cX5_counted 119 = .ok (.getfield 7, 3) := by decide +kernel
theorem dX5_counted_122 : decode cX5_counted 122 = .ok (.sipush 195, 3) := by decide +kernel
theorem dX5_counted_125 : decode cX5_counted 125 = .ok (.iaload, 1) := by decide +kernel
theorem dX5_counted_126 : decode cX5_counted 126 = .ok (.ireturn, 1) := by decide +kernel
theorem dX5_counted_127 : decode cX5_counted 127 = .ok (.aload_n 0, 1) := by decide +kernel
theorem dX5_counted_128 : decode cX5_counted 128 = .ok (.getfield 7, 3) := by decide +kernel
theorem dX5_counted_131 : decode cX5_counted 131 = .ok (.sipush 196, 3) := by decide +kernel
theorem dX5_counted_134 : decode cX5_counted 134 = .ok (.iaload, 1) := by decide +kernel
theorem dX5_counted_135 : decode cX5_counted 135 = .ok (.ireturn, 1) := by decide +kernel
theorem dX5_counted_136 : decode cX5_counted 136 = .ok (.aload_n 0, 1) := by decide +kernel
theorem dX5_counted_137 : decode cX5_counted 137 = .ok (.getfield 38, 3) := by decide +kernel
theorem dX5_counted_140 : decode cX5_counted 140 = .ok (.ireturn, 1) := by decide +kernel
theorem dX5_count_0 : decode cX5_count 0 = .ok (.aload_n 0, 1) := by decide +kernel
theorem dX5_count_1 : decode cX5_count 1 = .ok (.iload_n 1, 1) := by decide +kernel
theorem dX5_count_2 : decode cX5_count 2 = .ok (.iconst 0, 1) := by decide +kernel
theorem dX5_count_3 : decode cX5_count 3 = .ok (.bipush 11, 2) := by decide +kernel
theorem dX5_count_5 : decode cX5_count 5 = .ok (.invokestatic 45, 3) := by decide +kernel
theorem dX5_count_8 : decode cX5_count 8 = .ok (.iconst 1, 1) := by decide +kernel
theorem dX5_count_9 : decode cX5_count 9 = .ok (.invokevirtual 81, 3) := by decide +kernel
theorem dX5_count_12 : decode cX5_count 12 = .ok (.ifCond .eq 11, 3) := by decide +kernel
theorem dX5_count_15 : decode cX5_count 15 = .ok (.aload_n 0, 1) := by decide +kernel
theorem dX5_count_16 : decode cX5_count 16 = .ok (.iload_n 1, 1) := by decide +kernel
theorem dX5_count_17 : decode cX5_count 17 = .ok (.invokevirtual 147, 3) := by decide +kernel
theorem dX5_count_20 : decode cX5_count 20 = .ok (.goto 4, 3) := by decide +kernel
theorem dX5_count_23 : decode cX5_count 23 = .ok (.iconst 0, 1) := by decide +kernel
theorem dX5_count_24 : decode cX5_count 24 = .ok (.ireturn, 1) := by decide +kernel
theorem dX5_whyNot_0 : decode cX5_whyNot 0 = .ok (.aload_n 0, 1) := by decide +kernel
theorem dX5_whyNot_1 : decode cX5_whyNot 1 = .ok (.iload_n 3, 1) := by decide +kernel
theorem dX5_whyNot_2 : decode cX5_whyNot 2 = .ok (.iconst 0, 1) := by decide +kernel
theorem dX5_whyNot_3 : decode cX5_whyNot 3 = .ok (.iconst 3, 1) := by decide +kernel
theorem dX5_whyNot_4 : decode cX5_whyNot 4 = .ok (.invokestatic 45, 3) := by decide +kernel
theorem dX5_whyNot_7 : decode cX5_whyNot 7 = .ok (.iconst 1, 1) := by decide +kernel
theorem dX5_whyNot_8 : decode cX5_whyNot 8 = .ok (.invokevirtual 81, 3) := by decide +kernel
theorem dX5_whyNot_11 : decode cX5_whyNot 11 = .ok (.ifCond .eq 14, 3) := by decide +kernel
theorem dX5_whyNot_14 : decode cX5_whyNot 14 = .ok (.aload_n 0, 1) := by decide +kernel
theorem dX5_whyNot_15 : decode cX5_whyNot 15 = .ok (.iconst 0, 1) := by decide +kernel
theorem dX5_whyNot_16 : decode cX5_whyNot 16 = .ok (.iload_n 1, 1) := by decide +kernel
theorem dX5_whyNot_17 : decode cX5_whyNot 17 = .ok (.iload_n 2, 1) := by decide +kernel
theorem dX5_whyNot_18 : decode cX5_whyNot 18 = .ok (.iload_n 3, 1) := by decide +kernel
theorem dX5_whyNot_19 : decode cX5_whyNot 19 = .ok (.invokevirtual 53, 3) := by decide +kernel
theorem dX5_whyNot_22 : decode cX5_whyNot 22 = .ok (.goto 4, 3) := by decide +kernel
theorem dX5_whyNot_25 : decode cX5_whyNot 25 = .ok (.iconst 0, 1) := by decide +kernel
theorem dX5_whyNot_26 : decode cX5_whyNot 26 = .ok (.ireturn, 1) := by decide +kernel
theorem dX5_ways_0 : decode cX5_ways 0 = .ok (.aload_n 0, 1) := by decide +kernel
theorem dX5_ways_1 : decode cX5_ways 1 = .ok (.iconst 0, 1) := by decide +kernel
theorem dX5_ways_2 : decode cX5_ways 2 = .ok (.putfield 34, 3) := by decide +kernel
theorem dX5_ways_5 : decode cX5_ways 5 = .ok (.aload_n 0, 1) := by decide +kernel
theorem dX5_ways_6 : decode cX5_ways 6 = .ok (.iconst 0, 1) := by decide +kernel
theorem dX5_ways_7 : decode cX5_ways 7 = .ok (.invokevirtual 74, 3) := by decide +kernel
theorem dX5_ways_10 : decode cX5_ways 10 = .ok (.ireturn, 1) := by decide +kernel
theorem dX5_with_0 : decode cX5_with 0 = .ok (.aload_n 0, 1) := by decide +kernel
theorem dX5_with_1 : decode cX5_with 1 = .ok (.iconst 0, 1) := by decide +kernel
theorem dX5_with_2 : decode cX5_with 2 = .ok (.iload_n 1, 1) := by decide +kernel
theorem dX5_with_3 : decode cX5_with 3 = .ok (.iload_n 2, 1) := by decide +kernel
theorem dX5_with_4 : decode cX5_with 4 = .ok (.iload_n 3, 1) := by decide +kernel
theorem dX5_with_5 : decode cX5_with 5 = .ok (.invokevirtual 53, 3) := by decide +kernel
theorem dX5_with_8 : decode cX5_with 8 = .ok (.ifCond .le 5, 3) := by decide +kernel
theorem dX5_with_11 : decode cX5_with 11 = .ok (.iconst (-1), 1) := by decide +kernel
theorem dX5_with_12 : decode cX5_with 12 = .ok (.ireturn, 1) := by decide +kernel
theorem dX5_with_13 : decode cX5_with 13 = .ok (.aload_n 0, 1) := by decide +kernel
theorem dX5_with_14 : decode cX5_with 14 = .ok (.iconst 0, 1) := by decide +kernel
theorem dX5_with_15 : decode cX5_with 15 = .ok (.bipush 9, 2) := by decide +kernel
theorem dX5_with_17 : decode cX5_with 17 = .ok (.invokevirtual 41, 3) := by decide +kernel
theorem dX5_with_20 : decode cX5_with 20 = .ok (.aload_n 0, 1) := by decide +kernel
theorem dX5_with_21 : decode cX5_with 21 = .ok (.sipush 1773, 3) := by decide +kernel
theorem dX5_with_24 : decode cX5_with 24 = .ok (.iload_n 1, 1) := by decide +kernel
theorem dX5_with_25 : decode cX5_with 25 = .ok (.iload_n 2, 1) := by decide +kernel
theorem dX5_with_26 : decode cX5_with 26 = .ok (.iload_n 3, 1) := by decide +kernel
theorem dX5_with_27 : decode cX5_with 27 = .ok (.invokevirtual 70, 3) := by decide +kernel
theorem dX5_with_30 : decode cX5_with 30 = .ok (.aload_n 0, 1) := by decide +kernel
theorem dX5_with_31 : decode cX5_with 31 = .ok (.sipush 1773, 3) := by decide +kernel
theorem dX5_with_34 : decode cX5_with 34 = .ok (.invokevirtual 74, 3) := by decide +kernel
theorem dX5_with_37 : decode cX5_with 37 = .ok (.ireturn, 1) := by decide +kernel
theorem dX5_waysWith_0 : decode cX5_waysWith 0 = .ok (.aload_n 0, 1) := by decide +kernel
theorem dX5_waysWith_1 : decode cX5_waysWith 1 = .ok (.iload_n 3, 1) := by decide +kernel
theorem dX5_waysWith_2 : decode cX5_waysWith 2 = .ok (.iconst 0, 1) := by decide +kernel
theorem dX5_waysWith_3 : decode cX5_waysWith 3 = .ok (.iconst 3, 1) := by decide +kernel
theorem dX5_waysWith_4 : decode cX5_waysWith 4 = .ok (.invokestatic 45, 3) := by decide +kernel
theorem dX5_waysWith_7 : decode cX5_waysWith 7 = .ok (.iconst 1, 1) := by decide +kernel
theorem dX5_waysWith_8 : decode cX5_waysWith 8 = .ok (.invokevirtual 81, 3) := by decide +kernel
theorem dX5_waysWith_11 : decode cX5_waysWith 11 = .ok (.ifCond .eq 13, 3) := by decide +kernel
theorem dX5_waysWith_14 : decode cX5_waysWith 14 = .ok (.aload_n 0, 1) := by decide +kernel
theorem dX5_waysWith_15 : decode cX5_waysWith 15 = .ok (.iload_n 1, 1) := by decide +kernel
theorem dX5_waysWith_16 : decode cX5_waysWith 16 = .ok (.iload_n 2, 1) := by decide +kernel
theorem dX5_waysWith_17 : decode cX5_waysWith 17 = .ok (.iload_n 3, 1) := by decide +kernel
theorem dX5_waysWith_18 : decode cX5_waysWith 18 = .ok (.invokevirtual 150, 3) := by decide +kernel
theorem dX5_waysWith_21 : decode cX5_waysWith 21 = .ok (.goto 4, 3) := by decide +kernel
theorem dX5_waysWith_24 : decode cX5_waysWith 24 = .ok (.iconst 0, 1) := by decide +kernel
theorem dX5_waysWith_25 : decode cX5_waysWith 25 = .ok (.ireturn, 1) := by decide +kernel
theorem dX5_firstWith_0 : decode cX5_firstWith 0 = .ok (.iconst 0, 1) := by decide +kernel
theorem dX5_firstWith_1 : decode cX5_firstWith 1 = .ok (.istore_n 2, 1) := by decide +kernel
theorem dX5_firstWith_2 : decode cX5_firstWith 2 = .ok (.iload_n 2, 1) := by decide +kernel
theorem dX5_firstWith_3 : decode cX5_firstWith 3 = .ok (.aload_n 0, 1) := by decide +kernel
theorem dX5_firstWith_4 : decode cX5_firstWith 4 = .ok (.getfield 7, 3) := by decide +kernel
theorem dX5_firstWith_7 : decode cX5_firstWith 7 = .ok (.iconst 1, 1) := by decide +kernel
theorem dX5_firstWith_8 : decode cX5_firstWith 8 = .ok (.iaload, 1) := by decide +kernel
theorem dX5_firstWith_9 : decode cX5_firstWith 9 = .ok (.if_icmp .ge 63, 3) := by decide +kernel
theorem dX5_firstWith_12 : decode cX5_firstWith 12 = .ok (.iconst 0, 1) := by decide +kernel
theorem dX5_firstWith_13 : decode cX5_firstWith 13 = .ok (.istore_n 3, 1) := by decide +kernel
theorem dX5_firstWith_14 : decode cX5_firstWith 14 = .ok (.iload_n 3, 1) := by decide +kernel
theorem dX5_firstWith_15 : decode cX5_firstWith 15 = .ok (.aload_n 0, 1) := by decide +kernel
theorem dX5_firstWith_16 : decode cX5_firstWith 16 = .ok (.getfield 7, 3) := by decide +kernel
theorem dX5_firstWith_19 : decode cX5_firstWith 19 = .ok (.iconst 0, 1) := by decide +kernel
theorem dX5_firstWith_20 : decode cX5_firstWith 20 = .ok (.iaload, 1) := by decide +kernel
theorem dX5_firstWith_21 : decode cX5_firstWith 21 = .ok (.if_icmp .ge 45, 3) := by decide +kernel
theorem dX5_firstWith_24 : decode cX5_firstWith 24 = .ok (.aload_n 0, 1) := by decide +kernel
theorem dX5_firstWith_25 : decode cX5_firstWith 25 = .ok (.iconst 0, 1) := by decide +kernel
theorem dX5_firstWith_26 : decode cX5_firstWith 26 = .ok (.bipush 8, 2) := by decide +kernel
theorem dX5_firstWith_28 : decode cX5_firstWith 28 = .ok (.iload_n 2, 1) := by decide +kernel
theorem dX5_firstWith_29 : decode cX5_firstWith 29 = .ok (.imul, 1) := by decide +kernel
theorem dX5_firstWith_30 : decode cX5_firstWith 30 = .ok (.iload_n 3, 1) := by decide +kernel
theorem dX5_firstWith_31 : decode cX5_firstWith 31 = .ok (.iadd, 1) := by decide +kernel
theorem dX5_firstWith_32 : decode cX5_firstWith 32 = .ok (.invokevirtual 63, 3) := by decide +kernel
theorem dX5_firstWith_35 : decode cX5_firstWith 35 = .ok (.ifCond .eq 25, 3) := by decide +kernel
theorem dX5_firstWith_38 : decode cX5_firstWith 38 = .ok (.aload_n 0, 1) := by decide +kernel
theorem dX5_firstWith_39 : decode cX5_firstWith 39 = .ok (.bipush 8, 2) := by decide +kernel
theorem dX5_firstWith_41 : decode cX5_firstWith 41 = .ok (.iload_n 2, 1) := by decide +kernel
theorem dX5_firstWith_42 : decode cX5_firstWith 42 = .ok (.imul, 1) := by decide +kernel
theorem dX5_firstWith_43 : decode cX5_firstWith 43 = .ok (.iload_n 3, 1) := by decide +kernel
theorem dX5_firstWith_44 : decode cX5_firstWith 44 = .ok (.iadd, 1) := by decide +kernel
theorem dX5_firstWith_45 : decode cX5_firstWith 45 = .ok (.iconst 0, 1) := by decide +kernel
theorem dX5_firstWith_46 : decode cX5_firstWith 46 = .ok (.invokevirtual 133, 3) := by decide +kernel
theorem dX5_firstWith_49 : decode cX5_firstWith 49 = .ok (.iload_n 1, 1) := by decide +kernel
theorem dX5_firstWith_50 : decode cX5_firstWith 50 = .ok (.if_icmp .ne 10, 3) := by decide +kernel
theorem dX5_firstWith_53 : decode cX5_firstWith 53 = .ok (.bipush 8, 2) := by decide +kernel
theorem dX5_firstWith_55 : decode cX5_firstWith 55 = .ok (.iload_n 2, 1) := by decide +kernel
theorem dX5_firstWith_56 : decode cX5_firstWith 56 = .ok (.imul, 1) := by decide +kernel
theorem dX5_firstWith_57 : decode cX5_firstWith 57 = .ok (.iload_n 3, 1) := by decide +kernel
theorem dX5_firstWith_58 : decode cX5_firstWith 58 = .ok (.iadd, 1) := by decide +kernel
theorem dX5_firstWith_59 : decode cX5_firstWith 59 = .ok (.ireturn, 1) := by decide +kernel
theorem dX5_firstWith_60 : decode cX5_firstWith 60 = .ok (.iinc 3 1, 3) := by decide +kernel
theorem dX5_firstWith_63 : decode cX5_firstWith 63 = .ok (.goto (-49), 3) := by decide +kernel
theorem dX5_firstWith_66 : decode cX5_firstWith 66 = .ok (.iinc 2 1, 3) := by decide +kernel
theorem dX5_firstWith_69 : decode cX5_firstWith 69 = .ok (.goto (-67), 3) := by decide +kernel
theorem dX5_firstWith_72 : decode cX5_firstWith 72 = .ok (.iconst (-1), 1) := by decide +kernel
theorem dX5_firstWith_73 : decode cX5_firstWith 73 = .ok (.ireturn, 1) := by decide +kernel
theorem dX5_told_0 : decode cX5_told 0 = .ok (.iload_n 0, 1) := by decide +kernel
theorem dX5_told_1 : decode cX5_told 1 = .ok (.ifCond .ge 7, 3) := by decide +kernel
theorem dX5_told_4 : decode cX5_told 4 = .ok (.iconst (-1), 1) := by decide +kernel
theorem dX5_told_5 : decode cX5_told 5 = .ok (.goto 15, 3) := by decide +kernel
theorem dX5_told_8 : decode cX5_told 8 = .ok (.iload_n 0, 1) := by decide +kernel
theorem dX5_told_9 : decode cX5_told 9 = .ok (.bipush 8, 2) := by decide +kernel
theorem dX5_told_11 : decode cX5_told 11 = .ok (.irem, 1) := by decide +kernel
theorem dX5_told_12 : decode cX5_told 12 = .ok (.bipush 10, 2) := by decide +kernel
theorem dX5_told_14 : decode cX5_told 14 = .ok (.iload_n 0, 1) := by decide +kernel
theorem dX5_told_15 : decode cX5_told 15 = .ok (.bipush 8, 2) := by decide +kernel
theorem dX5_told_17 : decode cX5_told 17 = .ok (.idiv, 1) := by decide +kernel
theorem dX5_told_18 : decode cX5_told 18 = .ok (.imul, 1) := by decide +kernel
theorem dX5_told_19 : decode cX5_told 19 = .ok (.iadd, 1) := by decide +kernel
theorem dX5_told_20 : decode cX5_told 20 = .ok (.ireturn, 1) := by decide +kernel
theorem dX5_isForced_0 : decode cX5_isForced 0 = .ok (.aload_n 0, 1) := by decide +kernel
theorem dX5_isForced_1 : decode cX5_isForced 1 = .ok (.iconst 1, 1) := by decide +kernel
theorem dX5_isForced_2 : decode cX5_isForced 2 = .ok (.invokevirtual 153, 3) := by decide +kernel
theorem dX5_isForced_5 : decode cX5_isForced 5 = .ok (.istore_n 2, 1) := by decide +kernel
theorem dX5_isForced_6 : decode cX5_isForced 6 = .ok (.iload_n 2, 1) := by decide +kernel
theorem dX5_isForced_7 : decode cX5_isForced 7 = .ok (.ifCond .ge 7, 3) := by decide +kernel
theorem dX5_isForced_10 : decode cX5_isForced 10 = .ok (.iconst (-1), 1) := by decide +kernel
theorem dX5_isForced_11 : decode cX5_isForced 11 = .ok (.goto 20, 3) := by decide +kernel
theorem dX5_isForced_14 : decode cX5_isForced 14 = .ok (.iload_n 1, 1) := by decide +kernel
theorem dX5_isForced_15 : decode cX5_isForced 15 = .ok (.ifCond .ne 10, 3) := by decide +kernel
theorem dX5_isForced_18 : decode cX5_isForced 18 = .ok (.iload_n 2, 1) := by decide +kernel
theorem dX5_isForced_19 : decode cX5_isForced 19 = .ok (.invokestatic 156, 3) := by decide +kernel
theorem dX5_isForced_22 : decode cX5_isForced 22 = .ok (.goto 9, 3) := by decide +kernel
theorem dX5_isForced_25 : decode cX5_isForced 25 = .ok (.aload_n 0, 1) := by decide +kernel
theorem dX5_isForced_26 : decode cX5_isForced 26 = .ok (.iload_n 2, 1) := by decide +kernel
theorem dX5_isForced_27 : decode cX5_isForced 27 = .ok (.iconst 1, 1) := by decide +kernel
theorem dX5_isForced_28 : decode cX5_isForced 28 = .ok (.invokevirtual 133, 3) := by decide +kernel
theorem dX5_isForced_31 : decode cX5_isForced 31 = .ok (.ireturn, 1) := by decide +kernel
theorem dX5_forced_0 : decode cX5_forced 0 = .ok (.aload_n 0, 1) := by decide +kernel
theorem dX5_forced_1 : decode cX5_forced 1 = .ok (.iload_n 1, 1) := by decide +kernel
theorem dX5_forced_2 : decode cX5_forced 2 = .ok (.iconst 0, 1) := by decide +kernel
theorem dX5_forced_3 : decode cX5_forced 3 = .ok (.iconst 1, 1) := by decide +kernel
theorem dX5_forced_4 : decode cX5_forced 4 = .ok (.invokestatic 45, 3) := by decide +kernel
theorem dX5_forced_7 : decode cX5_forced 7 = .ok (.iconst 1, 1) := by decide +kernel
theorem dX5_forced_8 : decode cX5_forced 8 = .ok (.invokevirtual 81, 3) := by decide +kernel
theorem dX5_forced_11 : decode cX5_forced 11 = .ok (.ifCond .eq 11, 3) := by decide +kernel
theorem dX5_forced_14 : decode cX5_forced 14 = .ok (.aload_n 0, 1) := by decide +kernel
theorem dX5_forced_15 : decode cX5_forced 15 = .ok (.iload_n 1, 1) := by decide +kernel
theorem dX5_forced_16 : decode cX5_forced 16 = .ok (.invokevirtual 159, 3) := by decide +kernel
theorem dX5_forced_19 : decode cX5_forced 19 = .ok (.goto 4, 3) := by decide +kernel
theorem dX5_forced_22 : decode cX5_forced 22 = .ok (.iconst 0, 1) := by decide +kernel
theorem dX5_forced_23 : decode cX5_forced 23 = .ok (.ireturn, 1) := by decide +kernel
theorem dX5_lonely_0 : decode cX5_lonely 0 = .ok (.aload_n 0, 1) := by decide +kernel
theorem dX5_lonely_1 : decode cX5_lonely 1 = .ok (.iconst 0, 1) := by decide +kernel
theorem dX5_lonely_2 : decode cX5_lonely 2 = .ok (.putfield 34, 3) := by decide +kernel
theorem dX5_lonely_5 : decode cX5_lonely 5 = .ok (.aload_n 0, 1) := by decide +kernel
theorem dX5_lonely_6 : decode cX5_lonely 6 = .ok (.iconst 0, 1) := by decide +kernel
theorem dX5_lonely_7 : decode cX5_lonely 7 = .ok (.invokevirtual 153, 3) := by decide +kernel
theorem dX5_lonely_10 : decode cX5_lonely 10 = .ok (.invokestatic 156, 3) := by decide +kernel
theorem dX5_lonely_13 : decode cX5_lonely 13 = .ok (.ireturn, 1) := by decide +kernel
theorem dX5_bestPond_0 : decode cX5_bestPond 0 = .ok (.aload_n 0, 1) := by decide +kernel
theorem dX5_bestPond_1 : decode cX5_bestPond 1 = .ok (.iconst 0, 1) := by decide +kernel
theorem dX5_bestPond_2 : decode cX5_bestPond 2 = .ok (.putfield 34, 3) := by decide +kernel
theorem dX5_bestPond_5 : decode cX5_bestPond 5 = .ok (.iconst (-1), 1) := by decide +kernel
theorem dX5_bestPond_6 : decode cX5_bestPond 6 = .ok (.istore_n 1, 1) := by decide +kernel
theorem dX5_bestPond_7 : decode cX5_bestPond 7 = .ok (.iconst 0, 1) := by decide +kernel
theorem dX5_bestPond_8 : decode cX5_bestPond 8 = .ok (.istore_n 2, 1) := by decide +kernel
theorem dX5_bestPond_9 : decode cX5_bestPond 9 = .ok (.iconst 0, 1) := by decide +kernel
theorem dX5_bestPond_10 : decode cX5_bestPond 10 = .ok (.istore_n 3, 1) := by decide +kernel
theorem dX5_bestPond_11 : decode cX5_bestPond 11 = .ok (.iload_n 3, 1) := by decide +kernel
theorem dX5_bestPond_12 : decode cX5_bestPond 12 = .ok (.aload_n 0, 1) := by decide +kernel
theorem dX5_bestPond_13 : decode cX5_bestPond 13 = .ok (.getfield 7, 3) := by decide +kernel
theorem dX5_bestPond_16 : decode cX5_bestPond 16 = .ok (.iconst 1, 1) := by decide +kernel
theorem dX5_bestPond_17 : decode cX5_bestPond 17 = .ok (.iaload, 1) := by decide +kernel
theorem dX5_bestPond_18 : decode cX5_bestPond 18 = .ok (.if_icmp .ge 111, 3) := by decide +kernel
theorem dX5_bestPond_21 : decode cX5_bestPond 21 = .ok (.iconst 0, 1) := by decide +kernel
theorem dX5_bestPond_22 : decode cX5_bestPond 22 = .ok (.istore 4, 2) := by decide +kernel
theorem dX5_bestPond_24 : decode cX5_bestPond 24 = .ok (.iload 4, 2) := by decide +kernel
theorem dX5_bestPond_26 : decode cX5_bestPond 26 = .ok (.aload_n 0, 1) := by decide +kernel
theorem dX5_bestPond_27 : decode cX5_bestPond 27 = .ok (.getfield 7, 3) := by decide +kernel
theorem dX5_bestPond_30 : decode cX5_bestPond 30 = .ok (.iconst 0, 1) := by decide +kernel
theorem dX5_bestPond_31 : decode cX5_bestPond 31 = .ok (.iaload, 1) := by decide +kernel
theorem dX5_bestPond_32 : decode cX5_bestPond 32 = .ok (.if_icmp .ge 91, 3) := by decide +kernel
theorem dX5_bestPond_35 : decode cX5_bestPond 35 = .ok (.bipush 8, 2) := by decide +kernel
theorem dX5_bestPond_37 : decode cX5_bestPond 37 = .ok (.iload_n 3, 1) := by decide +kernel
theorem dX5_bestPond_38 : decode cX5_bestPond 38 = .ok (.imul, 1) := by decide +kernel
theorem dX5_bestPond_39 : decode cX5_bestPond 39 = .ok (.iload 4, 2) := by decide +kernel
theorem dX5_bestPond_41 : decode cX5_bestPond 41 = .ok (.iadd, 1) := by decide +kernel
theorem dX5_bestPond_42 : decode cX5_bestPond 42 = .ok (.istore 5, 2) := by decide +kernel
theorem dX5_bestPond_44 : decode cX5_bestPond 44 = .ok (.iload 5, 2) := by decide +kernel
theorem dX5_bestPond_46 : decode cX5_bestPond 46 = .ok (.aload_n 0, 1) := by decide +kernel
theorem dX5_bestPond_47 : decode cX5_bestPond 47 = .ok (.getfield 7, 3) := by decide +kernel
theorem dX5_bestPond_50 : decode cX5_bestPond 50 = .ok (.iconst 2, 1) := by decide +kernel
theorem dX5_bestPond_51 : decode cX5_bestPond 51 = .ok (.iaload, 1) := by decide +kernel
theorem dX5_bestPond_52 : decode cX5_bestPond 52 = .ok (.if_icmp .eq 13, 3) := by decide +kernel
theorem dX5_bestPond_55 : decode cX5_bestPond 55 = .ok (.aload_n 0, 1) := by decide +kernel
theorem dX5_bestPond_56 : decode cX5_bestPond 56 = .ok (.iconst 0, 1) := by decide +kernel
theorem dX5_bestPond_57 : decode cX5_bestPond 57 = .ok (.iload 5, 2) := by decide +kernel
theorem dX5_bestPond_59 : decode cX5_bestPond 59 = .ok (.invokevirtual 63, 3) := by decide +kernel
theorem dX5_bestPond_62 : decode cX5_bestPond 62 = .ok (.ifCond .eq 55, 3) := by decide +kernel
theorem dX5_bestPond_65 : decode cX5_bestPond 65 = .ok (.aload_n 0, 1) := by decide +kernel
theorem dX5_bestPond_66 : decode cX5_bestPond 66 = .ok (.iconst 0, 1) := by decide +kernel
theorem dX5_bestPond_67 : decode cX5_bestPond 67 = .ok (.bipush 9, 2) := by decide +kernel
theorem dX5_bestPond_69 : decode cX5_bestPond 69 = .ok (.invokevirtual 41, 3) := by decide +kernel
theorem dX5_bestPond_72 : decode cX5_bestPond 72 = .ok (.aload_n 0, 1) := by decide +kernel
theorem dX5_bestPond_73 : decode cX5_bestPond 73 = .ok (.getfield 7, 3) := by decide +kernel
theorem dX5_bestPond_76 : decode cX5_bestPond 76 = .ok (.sipush 1775, 3) := by decide +kernel
theorem dX5_bestPond_79 : decode cX5_bestPond 79 = .ok (.iload 5, 2) := by decide +kernel
theorem dX5_bestPond_81 : decode cX5_bestPond 81 = .ok (.iastore, 1) := by decide +kernel
theorem dX5_bestPond_82 : decode cX5_bestPond 82 = .ok (.aload_n 0, 1) := by decide +kernel
theorem dX5_bestPond_83 : decode cX5_bestPond 83 = .ok (.sipush 1773, 3) := by decide +kernel
theorem dX5_bestPond_86 : decode cX5_bestPond 86 = .ok (.invokevirtual 74, 3) := by decide +kernel
theorem dX5_bestPond_89 : decode cX5_bestPond 89 = .ok (.istore 6, 2) := by decide +kernel
theorem dX5_bestPond_91 : decode cX5_bestPond 91 = .ok (.iload 6, 2) := by decide +kernel
theorem dX5_bestPond_93 : decode cX5_bestPond 93 = .ok (.iload_n 2, 1) := by decide +kernel
theorem dX5_bestPond_94 : decode cX5_bestPond 94 = .ok (.if_icmp .le 8, 3) := by decide +kernel
theorem dX5_bestPond_97 : decode cX5_bestPond 97 = .ok (.iload 5, 2) := by decide +kernel
theorem dX5_bestPond_99 : decode cX5_bestPond 99 = .ok (.goto 4, 3) := by decide +kernel
theorem dX5_bestPond_102 : decode cX5_bestPond 102 = .ok (.iload_n 1, 1) := by decide +kernel
theorem dX5_bestPond_103 : decode cX5_bestPond 103 = .ok (.istore_n 1, 1) := by decide +kernel
theorem dX5_bestPond_104 : decode cX5_bestPond 104 = .ok (.iload 6, 2) := by decide +kernel
theorem dX5_bestPond_106 : decode cX5_bestPond 106 = .ok (.iload_n 2, 1) := by decide +kernel
theorem dX5_bestPond_107 : decode cX5_bestPond 107 = .ok (.if_icmp .le 8, 3) := by decide +kernel
theorem dX5_bestPond_110 : decode cX5_bestPond 110 = .ok (.iload 6, 2) := by decide +kernel
theorem dX5_bestPond_112 : decode cX5_bestPond 112 = .ok (.goto 4, 3) := by decide +kernel
theorem dX5_bestPond_115 : decode cX5_bestPond 115 = .ok (.iload_n 2, 1) := by decide +kernel
theorem dX5_bestPond_116 : decode cX5_bestPond 116 = .ok (.istore_n 2, 1) := by decide +kernel
theorem dX5_bestPond_117 : decode cX5_bestPond 117 = .ok (.iinc 4 1, 3) := by decide +kernel
theorem dX5_bestPond_120 : decode cX5_bestPond 120 = .ok (.goto (-96), 3) := by decide +kernel
theorem dX5_bestPond_123 : decode cX5_bestPond 123 = .ok (.iinc 3 1, 3) := by decide +kernel
theorem dX5_bestPond_126 : decode cX5_bestPond 126 = .ok (.goto (-115), 3) := by decide +kernel
theorem dX5_bestPond_129 : decode cX5_bestPond 129 = .ok (.iload_n 1, 1) := by decide +kernel
theorem dX5_bestPond_130 : decode cX5_bestPond 130 = .ok (.invokestatic 156, 3) := by decide +kernel
theorem dX5_bestPond_133 : decode cX5_bestPond 133 = .ok (.ireturn, 1) := by decide +kernel
theorem dX5_share_0 : decode cX5_share 0 = .ok (.iconst 3, 1) := by decide +kernel
theorem dX5_share_1 : decode cX5_share 1 = .ok (.aload_n 0, 1) := by decide +kernel
theorem dX5_share_2 : decode cX5_share 2 = .ok (.getfield 7, 3) := by decide +kernel
theorem dX5_share_5 : decode cX5_share 5 = .ok (.sipush 131, 3) := by decide +kernel
theorem dX5_share_8 : decode cX5_share 8 = .ok (.iaload, 1) := by decide +kernel
theorem dX5_share_9 : decode cX5_share 9 = .ok (.imul, 1) := by decide +kernel
theorem dX5_share_10 : decode cX5_share 10 = .ok (.istore_n 1, 1) := by decide +kernel
theorem dX5_share_11 : decode cX5_share 11 = .ok (.iload_n 1, 1) := by decide +kernel
theorem dX5_share_12 : decode cX5_share 12 = .ok (.aload_n 0, 1) := by decide +kernel
theorem dX5_share_13 : decode cX5_share 13 = .ok (.invokevirtual 126, 3) := by decide +kernel
theorem dX5_share_16 : decode cX5_share 16 = .ok (.iadd, 1) := by decide +kernel
theorem dX5_share_17 : decode cX5_share 17 = .ok (.istore_n 2, 1) := by decide +kernel
theorem dX5_share_18 : decode cX5_share 18 = .ok (.iload_n 2, 1) := by decide +kernel
theorem dX5_share_19 : decode cX5_share 19 = .ok (.ifCond .ne 7, 3) := by decide +kernel
theorem dX5_share_22 : decode cX5_share 22 = .ok (.dconst 1, 1) := by decide +kernel
theorem dX5_share_23 : decode cX5_share 23 = .ok (.goto 8, 3) := by decide +kernel
theorem dX5_share_26 : decode cX5_share 26 = .ok (.iload_n 1, 1) := by decide +kernel
theorem dX5_share_27 : decode cX5_share 27 = .ok (.i2d, 1) := by decide +kernel
theorem dX5_share_28 : decode cX5_share 28 = .ok (.iload_n 2, 1) := by decide +kernel
theorem dX5_share_29 : decode cX5_share 29 = .ok (.i2d, 1) := by decide +kernel
theorem dX5_share_30 : decode cX5_share 30 = .ok (.ddiv, 1) := by decide +kernel
theorem dX5_share_31 : decode cX5_share 31 = .ok (.dreturn, 1) := by decide +kernel
theorem dX5_pavedShare_0 : decode cX5_pavedShare 0 = .ok (.aload_n 0, 1) := by decide +kernel
theorem dX5_pavedShare_1 : decode cX5_pavedShare 1 = .ok (.iconst 0, 1) := by decide +kernel
theorem dX5_pavedShare_2 : decode cX5_pavedShare 2 = .ok (.putfield 34, 3) := by decide +kernel
theorem dX5_pavedShare_5 : decode cX5_pavedShare 5 = .ok (.aload_n 0, 1) := by decide +kernel
theorem dX5_pavedShare_6 : decode cX5_pavedShare 6 = .ok (.invokevirtual 162, 3) := by decide +kernel
theorem dX5_pavedShare_9 : decode cX5_pavedShare 9 = .ok (.dreturn, 1) := by decide +kernel
theorem dX5_digest_0 : decode cX5_digest 0 = .ok (.aload_n 0, 1) := by decide +kernel
theorem dX5_digest_1 : decode cX5_digest 1 = .ok (.iconst 0, 1) := by decide +kernel
theorem dX5_digest_2 : decode cX5_digest 2 = .ok (.putfield 34, 3) := by decide +kernel
theorem dX5_digest_5 : decode cX5_digest 5 = .ok (.ldc2_w 166, 3) := by decide +kernel
theorem dX5_digest_8 : decode cX5_digest 8 = .ok (.lstore_n 1, 1) := by decide +kernel
theorem dX5_digest_9 : decode cX5_digest 9 = .ok (.iconst 0, 1) := by decide +kernel
theorem dX5_digest_10 : decode cX5_digest 10 = .ok (.istore_n 3, 1) := by decide +kernel
theorem dX5_digest_11 : decode cX5_digest 11 = .ok (.iload_n 3, 1) := by decide +kernel
theorem dX5_digest_12 : decode cX5_digest 12 = .ok (.bipush 12, 2) := by decide +kernel
theorem dX5_digest_14 : decode cX5_digest 14 = .ok (.if_icmp .ge 22, 3) := by decide +kernel
theorem dX5_digest_17 : decode cX5_digest 17 = .ok (.ldc2_w 168, 3) := by decide +kernel
theorem dX5_digest_20 : decode cX5_digest 20 = .ok (.lload_n 1, 1) := by decide +kernel
theorem dX5_digest_21 : decode cX5_digest 21 = .ok (.lmul, 1) := by decide +kernel
theorem dX5_digest_22 : decode cX5_digest 22 = .ok (.aload_n 0, 1) := by decide +kernel
theorem dX5_digest_23 : decode cX5_digest 23 = .ok (.iload_n 3, 1) := by decide +kernel
theorem dX5_digest_24 : decode cX5_digest 24 = .ok (.invokevirtual 147, 3) := by decide +kernel
theorem dX5_digest_27 : decode cX5_digest 27 = .ok (.i2l, 1) := by decide +kernel
theorem dX5_digest_28 : decode cX5_digest 28 = .ok (.ladd, 1) := by decide +kernel
theorem dX5_digest_29 : decode cX5_digest 29 = .ok (.lstore_n 1, 1) := by decide +kernel
theorem dX5_digest_30 : decode cX5_digest 30 = .ok (.iinc 3 1, 3) := by decide +kernel
theorem dX5_digest_33 : decode cX5_digest 33 = .ok (.goto (-22), 3) := by decide +kernel
theorem dX5_digest_36 : decode cX5_digest 36 = .ok (.iconst 0, 1) := by decide +kernel
theorem dX5_digest_37 : decode cX5_digest 37 = .ok (.istore_n 3, 1) := by decide +kernel
theorem dX5_digest_38 : decode cX5_digest 38 = .ok (.iload_n 3, 1) := by decide +kernel
theorem dX5_digest_39 : decode cX5_digest 39 = .ok (.iconst 3, 1) := by decide +kernel
theorem dX5_digest_40 : decode cX5_digest 40 = .ok (.aload_n 0, 1) := by decide +kernel
theorem dX5_digest_41 : decode cX5_digest 41 = .ok (.getfield 7, 3) := by decide +kernel
theorem dX5_digest_44 : decode cX5_digest 44 = .ok (.iconst 1, 1) := by decide +kernel
theorem dX5_digest_45 : decode cX5_digest 45 = .ok (.iaload, 1) := by decide +kernel
theorem dX5_digest_46 : decode cX5_digest 46 = .ok (.imul, 1) := by decide +kernel
theorem dX5_digest_47 : decode cX5_digest 47 = .ok (.if_icmp .ge 27, 3) := by decide +kernel
theorem dX5_digest_50 : decode cX5_digest 50 = .ok (.ldc2_w 168, 3) := by decide +kernel
theorem dX5_digest_53 : decode cX5_digest 53 = .ok (.lload_n 1, 1) := by decide +kernel
theorem dX5_digest_54 : decode cX5_digest 54 = .ok (.lmul, 1) := by decide +kernel
theorem dX5_digest_55 : decode cX5_digest 55 = .ok (.aload_n 0, 1) := by decide +kernel
theorem dX5_digest_56 : decode cX5_digest 56 = .ok (.iload_n 3, 1) := by decide +kernel
theorem dX5_digest_57 : decode cX5_digest 57 = .ok (.iconst 3, 1) := by decide +kernel
theorem dX5_digest_58 : decode cX5_digest 58 = .ok (.idiv, 1) := by decide +kernel
theorem dX5_digest_59 : decode cX5_digest 59 = .ok (.iload_n 3, 1) := by decide +kernel
theorem dX5_digest_60 : decode cX5_digest 60 = .ok (.iconst 3, 1) := by decide +kernel
theorem dX5_digest_61 : decode cX5_digest 61 = .ok (.irem, 1) := by decide +kernel
theorem dX5_digest_62 : decode cX5_digest 62 = .ok (.invokevirtual 141, 3) := by decide +kernel
theorem dX5_digest_65 : decode cX5_digest 65 = .ok (.i2l, 1) := by decide +kernel
theorem dX5_digest_66 : decode cX5_digest 66 = .ok (.ladd, 1) := by decide +kernel
theorem dX5_digest_67 : decode cX5_digest 67 = .ok (.lstore_n 1, 1) := by decide +kernel
theorem dX5_digest_68 : decode cX5_digest 68 = .ok (.iinc 3 1, 3) := by decide +kernel
theorem dX5_digest_71 : decode cX5_digest 71 = .ok (.goto (-33), 3) := by decide +kernel
theorem dX5_digest_74 : decode cX5_digest 74 = .ok (.iconst 0, 1) := by decide +kernel
theorem dX5_digest_75 : decode cX5_digest 75 = .ok (.istore_n 3, 1) := by decide +kernel
theorem dX5_digest_76 : decode cX5_digest 76 = .ok (.iload_n 3, 1) := by decide +kernel
theorem dX5_digest_77 : decode cX5_digest 77 = .ok (.aload_n 0, 1) := by decide +kernel
theorem dX5_digest_78 : decode cX5_digest 78 = .ok (.getfield 7, 3) := by decide +kernel
theorem dX5_digest_81 : decode cX5_digest 81 = .ok (.iconst 0, 1) := by decide +kernel
theorem dX5_digest_82 : decode cX5_digest 82 = .ok (.iaload, 1) := by decide +kernel
theorem dX5_digest_83 : decode cX5_digest 83 = .ok (.aload_n 0, 1) := by decide +kernel
theorem dX5_digest_84 : decode cX5_digest 84 = .ok (.getfield 7, 3) := by decide +kernel
theorem dX5_digest_87 : decode cX5_digest 87 = .ok (.iconst 1, 1) := by decide +kernel
theorem dX5_digest_88 : decode cX5_digest 88 = .ok (.iaload, 1) := by decide +kernel
theorem dX5_digest_89 : decode cX5_digest 89 = .ok (.imul, 1) := by decide +kernel
theorem dX5_digest_90 : decode cX5_digest 90 = .ok (.if_icmp .ge 61, 3) := by decide +kernel
theorem dX5_digest_93 : decode cX5_digest 93 = .ok (.bipush 8, 2) := by decide +kernel
theorem dX5_digest_95 : decode cX5_digest 95 = .ok (.iload_n 3, 1) := by decide +kernel
theorem dX5_digest_96 : decode cX5_digest 96 = .ok (.aload_n 0, 1) := by decide +kernel
theorem dX5_digest_97 : decode cX5_digest 97 = .ok (.getfield 7, 3) := by decide +kernel
theorem dX5_digest_100 : decode cX5_digest 100 = .ok (.iconst 0, 1) := by decide +kernel
theorem dX5_digest_101 : decode cX5_digest 101 = .ok (.iaload, 1) := by decide +kernel
theorem dX5_digest_102 : decode cX5_digest 102 = .ok (.idiv, 1) := by decide +kernel
theorem dX5_digest_103 : decode cX5_digest 103 = .ok (.imul, 1) := by decide +kernel
theorem dX5_digest_104 : decode cX5_digest 104 = .ok (.iload_n 3, 1) := by decide +kernel
theorem dX5_digest_105 : decode cX5_digest 105 = .ok (.aload_n 0, 1) := by decide +kernel
theorem dX5_digest_106 : decode cX5_digest 106 = .ok (.getfield 7, 3) := by decide +kernel
theorem dX5_digest_109 : decode cX5_digest 109 = .ok (.iconst 0, 1) := by decide +kernel
theorem dX5_digest_110 : decode cX5_digest 110 = .ok (.iaload, 1) := by decide +kernel
theorem dX5_digest_111 : decode cX5_digest 111 = .ok (.irem, 1) := by decide +kernel
theorem dX5_digest_112 : decode cX5_digest 112 = .ok (.iadd, 1) := by decide +kernel
theorem dX5_digest_113 : decode cX5_digest 113 = .ok (.istore 4, 2) := by decide +kernel
theorem dX5_digest_115 : decode cX5_digest 115 = .ok (.ldc2_w 168, 3) := by decide +kernel
theorem dX5_digest_118 : decode cX5_digest 118 = .ok (.lload_n 1, 1) := by decide +kernel
theorem dX5_digest_119 : decode cX5_digest 119 = .ok (.lmul, 1) := by decide +kernel
theorem dX5_digest_120 : decode cX5_digest 120 = .ok (.aload_n 0, 1) := by decide +kernel
theorem dX5_digest_121 : decode cX5_digest 121 = .ok (.iload 4, 2) := by decide +kernel
theorem dX5_digest_123 : decode cX5_digest 123 = .ok (.iconst 1, 1) := by decide +kernel
theorem dX5_digest_124 : decode cX5_digest 124 = .ok (.invokevirtual 137, 3) := by decide +kernel
theorem dX5_digest_127 : decode cX5_digest 127 = .ok (.i2l, 1) := by decide +kernel
theorem dX5_digest_128 : decode cX5_digest 128 = .ok (.ladd, 1) := by decide +kernel
theorem dX5_digest_129 : decode cX5_digest 129 = .ok (.lstore_n 1, 1) := by decide +kernel
theorem dX5_digest_130 : decode cX5_digest 130 = .ok (.ldc2_w 168, 3) := by decide +kernel
theorem dX5_digest_133 : decode cX5_digest 133 = .ok (.lload_n 1, 1) := by decide +kernel
theorem dX5_digest_134 : decode cX5_digest 134 = .ok (.lmul, 1) := by decide +kernel
theorem dX5_digest_135 : decode cX5_digest 135 = .ok (.aload_n 0, 1) := by decide +kernel
theorem dX5_digest_136 : decode cX5_digest 136 = .ok (.iload 4, 2) := by decide +kernel
theorem dX5_digest_138 : decode cX5_digest 138 = .ok (.iconst 2, 1) := by decide +kernel
theorem dX5_digest_139 : decode cX5_digest 139 = .ok (.invokevirtual 137, 3) := by decide +kernel
theorem dX5_digest_142 : decode cX5_digest 142 = .ok (.i2l, 1) := by decide +kernel
theorem dX5_digest_143 : decode cX5_digest 143 = .ok (.ladd, 1) := by decide +kernel
theorem dX5_digest_144 : decode cX5_digest 144 = .ok (.lstore_n 1, 1) := by decide +kernel
theorem dX5_digest_145 : decode cX5_digest 145 = .ok (.iinc 3 1, 3) := by decide +kernel
theorem dX5_digest_148 : decode cX5_digest 148 = .ok (.goto (-72), 3) := by decide +kernel
theorem dX5_digest_151 : decode cX5_digest 151 = .ok (.iconst 0, 1) := by decide +kernel
theorem dX5_digest_152 : decode cX5_digest 152 = .ok (.istore_n 3, 1) := by decide +kernel
theorem dX5_digest_153 : decode cX5_digest 153 = .ok (.iload_n 3, 1) := by decide +kernel
theorem dX5_digest_154 : decode cX5_digest 154 = .ok (.iconst 3, 1) := by decide +kernel
theorem dX5_digest_155 : decode cX5_digest 155 = .ok (.aload_n 0, 1) := by decide +kernel
theorem dX5_digest_156 : decode cX5_digest 156 = .ok (.getfield 7, 3) := by decide +kernel
theorem dX5_digest_159 : decode cX5_digest 159 = .ok (.sipush 131, 3) := by decide +kernel
theorem dX5_digest_162 : decode cX5_digest 162 = .ok (.iaload, 1) := by decide +kernel
theorem dX5_digest_163 : decode cX5_digest 163 = .ok (.imul, 1) := by decide +kernel
theorem dX5_digest_164 : decode cX5_digest 164 = .ok (.if_icmp .ge 27, 3) := by decide +kernel
theorem dX5_digest_167 : decode cX5_digest 167 = .ok (.ldc2_w 168, 3) := by decide +kernel
theorem dX5_digest_170 : decode cX5_digest 170 = .ok (.lload_n 1, 1) := by decide +kernel
theorem dX5_digest_171 : decode cX5_digest 171 = .ok (.lmul, 1) := by decide +kernel
theorem dX5_digest_172 : decode cX5_digest 172 = .ok (.aload_n 0, 1) := by decide +kernel
theorem dX5_digest_173 : decode cX5_digest 173 = .ok (.getfield 7, 3) := by decide +kernel
theorem dX5_digest_176 : decode cX5_digest 176 = .ok (.sipush 132, 3) := by decide +kernel
theorem dX5_digest_179 : decode cX5_digest 179 = .ok (.iload_n 3, 1) := by decide +kernel
theorem dX5_digest_180 : decode cX5_digest 180 = .ok (.iadd, 1) := by decide +kernel
theorem dX5_digest_181 : decode cX5_digest 181 = .ok (.iaload, 1) := by decide +kernel
theorem dX5_digest_182 : decode cX5_digest 182 = .ok (.i2l, 1) := by decide +kernel
theorem dX5_digest_183 : decode cX5_digest 183 = .ok (.ladd, 1) := by decide +kernel
theorem dX5_digest_184 : decode cX5_digest 184 = .ok (.lstore_n 1, 1) := by decide +kernel
theorem dX5_digest_185 : decode cX5_digest 185 = .ok (.iinc 3 1, 3) := by decide +kernel
theorem dX5_digest_188 : decode cX5_digest 188 = .ok (.goto (-35), 3) := by decide +kernel
theorem dX5_digest_191 : decode cX5_digest 191 = .ok (.ldc2_w 168, 3) := by decide +kernel
theorem dX5_digest_194 : decode cX5_digest 194 = .ok (.lload_n 1, 1) := by decide +kernel
theorem dX5_digest_195 : decode cX5_digest 195 = .ok (.lmul, 1) := by decide +kernel
theorem dX5_digest_196 : decode cX5_digest 196 = .ok (.aload_n 0, 1) := by decide +kernel
theorem dX5_digest_197 : decode cX5_digest 197 = .ok (.iconst 0, 1) := by decide +kernel
theorem dX5_digest_198 : decode cX5_digest 198 = .ok (.invokevirtual 74, 3) := by decide +kernel
theorem dX5_digest_201 : decode cX5_digest 201 = .ok (.i2l, 1) := by decide +kernel
theorem dX5_digest_202 : decode cX5_digest 202 = .ok (.ladd, 1) := by decide +kernel
theorem dX5_digest_203 : decode cX5_digest 203 = .ok (.lstore_n 1, 1) := by decide +kernel
theorem dX5_digest_204 : decode cX5_digest 204 = .ok (.iconst 0, 1) := by decide +kernel
theorem dX5_digest_205 : decode cX5_digest 205 = .ok (.istore_n 3, 1) := by decide +kernel
theorem dX5_digest_206 : decode cX5_digest 206 = .ok (.iload_n 3, 1) := by decide +kernel
theorem dX5_digest_207 : decode cX5_digest 207 = .ok (.bipush 12, 2) := by decide +kernel
theorem dX5_digest_209 : decode cX5_digest 209 = .ok (.if_icmp .ge 39, 3) := by decide +kernel
theorem dX5_digest_212 : decode cX5_digest 212 = .ok (.ldc2_w 168, 3) := by decide +kernel
theorem dX5_digest_215 : decode cX5_digest 215 = .ok (.lload_n 1, 1) := by decide +kernel
theorem dX5_digest_216 : decode cX5_digest 216 = .ok (.lmul, 1) := by decide +kernel
theorem dX5_digest_217 : decode cX5_digest 217 = .ok (.aload_n 0, 1) := by decide +kernel
theorem dX5_digest_218 : decode cX5_digest 218 = .ok (.iload_n 3, 1) := by decide +kernel
theorem dX5_digest_219 : decode cX5_digest 219 = .ok (.iconst 4, 1) := by decide +kernel
theorem dX5_digest_220 : decode cX5_digest 220 = .ok (.idiv, 1) := by decide +kernel
theorem dX5_digest_221 : decode cX5_digest 221 = .ok (.iload_n 3, 1) := by decide +kernel
theorem dX5_digest_222 : decode cX5_digest 222 = .ok (.iconst 4, 1) := by decide +kernel
theorem dX5_digest_223 : decode cX5_digest 223 = .ok (.idiv, 1) := by decide +kernel
theorem dX5_digest_224 : decode cX5_digest 224 = .ok (.iconst 1, 1) := by decide +kernel
theorem dX5_digest_225 : decode cX5_digest 225 = .ok (.if_icmp .ne 7, 3) := by decide +kernel
theorem dX5_digest_228 : decode cX5_digest 228 = .ok (.iconst 1, 1) := by decide +kernel
theorem dX5_digest_229 : decode cX5_digest 229 = .ok (.goto 4, 3) := by decide +kernel
theorem dX5_digest_232 : decode cX5_digest 232 = .ok (.iconst 0, 1) := by decide +kernel
theorem dX5_digest_233 : decode cX5_digest 233 = .ok (.iload_n 3, 1) := by decide +kernel
theorem dX5_digest_234 : decode cX5_digest 234 = .ok (.iconst 4, 1) := by decide +kernel
theorem dX5_digest_235 : decode cX5_digest 235 = .ok (.irem, 1) := by decide +kernel
theorem dX5_digest_236 : decode cX5_digest 236 = .ok (.invokevirtual 150, 3) := by decide +kernel
theorem dX5_digest_239 : decode cX5_digest 239 = .ok (.i2l, 1) := by decide +kernel
theorem dX5_digest_240 : decode cX5_digest 240 = .ok (.ladd, 1) := by decide +kernel
theorem dX5_digest_241 : decode cX5_digest 241 = .ok (.lstore_n 1, 1) := by decide +kernel
theorem dX5_digest_242 : decode cX5_digest 242 = .ok (.iinc 3 1, 3) := by decide +kernel
theorem dX5_digest_245 : decode cX5_digest 245 = .ok (.goto (-39), 3) := by decide +kernel
theorem dX5_digest_248 : decode cX5_digest 248 = .ok (.ldc2_w 168, 3) := by decide +kernel
theorem dX5_digest_251 : decode cX5_digest 251 = .ok (.lload_n 1, 1) := by decide +kernel
theorem dX5_digest_252 : decode cX5_digest 252 = .ok (.lmul, 1) := by decide +kernel
theorem dX5_digest_253 : decode cX5_digest 253 = .ok (.aload_n 0, 1) := by decide +kernel
theorem dX5_digest_254 : decode cX5_digest 254 = .ok (.iconst 0, 1) := by decide +kernel
theorem dX5_digest_255 : decode cX5_digest 255 = .ok (.invokevirtual 159, 3) := by decide +kernel
theorem dX5_digest_258 : decode cX5_digest 258 = .ok (.i2l, 1) := by decide +kernel
theorem dX5_digest_259 : decode cX5_digest 259 = .ok (.ladd, 1) := by decide +kernel
theorem dX5_digest_260 : decode cX5_digest 260 = .ok (.lstore_n 1, 1) := by decide +kernel
theorem dX5_digest_261 : decode cX5_digest 261 = .ok (.ldc2_w 168, 3) := by decide +kernel
theorem dX5_digest_264 : decode cX5_digest 264 = .ok (.lload_n 1, 1) := by decide +kernel
theorem dX5_digest_265 : decode cX5_digest 265 = .ok (.lmul, 1) := by decide +kernel
theorem dX5_digest_266 : decode cX5_digest 266 = .ok (.aload_n 0, 1) := by decide +kernel
theorem dX5_digest_267 : decode cX5_digest 267 = .ok (.iconst 1, 1) := by decide +kernel
theorem dX5_digest_268 : decode cX5_digest 268 = .ok (.invokevirtual 159, 3) := by decide +kernel
theorem dX5_digest_271 : decode cX5_digest 271 = .ok (.i2l, 1) := by decide +kernel
theorem dX5_digest_272 : decode cX5_digest 272 = .ok (.ladd, 1) := by decide +kernel
theorem dX5_digest_273 : decode cX5_digest 273 = .ok (.lstore_n 1, 1) := by decide +kernel
theorem dX5_digest_274 : decode cX5_digest 274 = .ok (.ldc2_w 168, 3) := by decide +kernel
theorem dX5_digest_277 : decode cX5_digest 277 = .ok (.lload_n 1, 1) := by decide +kernel
theorem dX5_digest_278 : decode cX5_digest 278 = .ok (.lmul, 1) := by decide +kernel
theorem dX5_digest_279 : decode cX5_digest 279 = .ok (.aload_n 0, 1) := by decide +kernel
theorem dX5_digest_280 : decode cX5_digest 280 = .ok (.iconst 0, 1) := by decide +kernel
theorem dX5_digest_281 : decode cX5_digest 281 = .ok (.invokevirtual 153, 3) := by decide +kernel
theorem dX5_digest_284 : decode cX5_digest 284 = .ok (.invokestatic 156, 3) := by decide +kernel
theorem dX5_digest_287 : decode cX5_digest 287 = .ok (.i2l, 1) := by decide +kernel
theorem dX5_digest_288 : decode cX5_digest 288 = .ok (.ladd, 1) := by decide +kernel
theorem dX5_digest_289 : decode cX5_digest 289 = .ok (.lstore_n 1, 1) := by decide +kernel
theorem dX5_digest_290 : decode cX5_digest 290 = .ok (.ldc2_w 168, 3) := by decide +kernel
theorem dX5_digest_293 : decode cX5_digest 293 = .ok (.lload_n 1, 1) := by decide +kernel
theorem dX5_digest_294 : decode cX5_digest 294 = .ok (.lmul, 1) := by decide +kernel
theorem dX5_digest_295 : decode cX5_digest 295 = .ok (.aload_n 0, 1) := by decide +kernel
theorem dX5_digest_296 : decode cX5_digest 296 = .ok (.invokevirtual 162, 3) := by decide +kernel
theorem dX5_digest_299 : decode cX5_digest 299 = .ok (.invokestatic 170, 3) := by decide +kernel
theorem dX5_digest_302 : decode cX5_digest 302 = .ok (.ladd, 1) := by decide +kernel
theorem dX5_digest_303 : decode cX5_digest 303 = .ok (.lstore_n 1, 1) := by decide +kernel
theorem dX5_digest_304 : decode cX5_digest 304 = .ok (.ldc2_w 168, 3) := by decide +kernel
theorem dX5_digest_307 : decode cX5_digest 307 = .ok (.lload_n 1, 1) := by decide +kernel
theorem dX5_digest_308 : decode cX5_digest 308 = .ok (.lmul, 1) := by decide +kernel
theorem dX5_digest_309 : decode cX5_digest 309 = .ok (.aload_n 0, 1) := by decide +kernel
theorem dX5_digest_310 : decode cX5_digest 310 = .ok (.getfield 13, 3) := by decide +kernel
theorem dX5_digest_313 : decode cX5_digest 313 = .ok (.iconst 0, 1) := by decide +kernel
theorem dX5_digest_314 : decode cX5_digest 314 = .ok (.baload, 1) := by decide +kernel
theorem dX5_digest_315 : decode cX5_digest 315 = .ok (.ifCond .eq 7, 3) := by decide +kernel
theorem dX5_digest_318 : decode cX5_digest 318 = .ok (.iconst 1, 1) := by decide +kernel
theorem dX5_digest_319 : decode cX5_digest 319 = .ok (.goto 4, 3) := by decide +kernel
theorem dX5_digest_322 : decode cX5_digest 322 = .ok (.iconst 0, 1) := by decide +kernel
theorem dX5_digest_323 : decode cX5_digest 323 = .ok (.i2l, 1) := by decide +kernel
theorem dX5_digest_324 : decode cX5_digest 324 = .ok (.ladd, 1) := by decide +kernel
theorem dX5_digest_325 : decode cX5_digest 325 = .ok (.lstore_n 1, 1) := by decide +kernel
theorem dX5_digest_326 : decode cX5_digest 326 = .ok (.ldc2_w 168, 3) := by decide +kernel
theorem dX5_digest_329 : decode cX5_digest 329 = .ok (.lload_n 1, 1) := by decide +kernel
theorem dX5_digest_330 : decode cX5_digest 330 = .ok (.lmul, 1) := by decide +kernel
theorem dX5_digest_331 : decode cX5_digest 331 = .ok (.aload_n 0, 1) := by decide +kernel
theorem dX5_digest_332 : decode cX5_digest 332 = .ok (.getfield 13, 3) := by decide +kernel
theorem dX5_digest_335 : decode cX5_digest 335 = .ok (.iconst 1, 1) := by decide +kernel
theorem dX5_digest_336 : decode cX5_digest 336 = .ok (.baload, 1) := by decide +kernel
theorem dX5_digest_337 : decode cX5_digest 337 = .ok (.ifCond .eq 7, 3) := by decide +kernel
theorem dX5_digest_340 : decode cX5_digest 340 = .ok (.iconst 1, 1) := by decide +kernel
theorem dX5_digest_341 : decode cX5_digest 341 = .ok (.goto 4, 3) := by decide +kernel
theorem dX5_digest_344 : decode cX5_digest 344 = .ok (.iconst 0, 1) := by decide +kernel
theorem dX5_digest_345 : decode cX5_digest 345 = .ok (.i2l, 1) := by decide +kernel
theorem dX5_digest_346 : decode cX5_digest 346 = .ok (.ladd, 1) := by decide +kernel
theorem dX5_digest_347 : decode cX5_digest 347 = .ok (.lstore_n 1, 1) := by decide +kernel
theorem dX5_digest_348 : decode cX5_digest 348 = .ok (.ldc2_w 168, 3) := by decide +kernel
theorem dX5_digest_351 : decode cX5_digest 351 = .ok (.lload_n 1, 1) := by decide +kernel
theorem dX5_digest_352 : decode cX5_digest 352 = .ok (.lmul, 1) := by decide +kernel
theorem dX5_digest_353 : decode cX5_digest 353 = .ok (.aload_n 0, 1) := by decide +kernel
theorem dX5_digest_354 : decode cX5_digest 354 = .ok (.getfield 117, 3) := by decide +kernel
theorem dX5_digest_357 : decode cX5_digest 357 = .ok (.i2l, 1) := by decide +kernel
theorem dX5_digest_358 : decode cX5_digest 358 = .ok (.ladd, 1) := by decide +kernel
theorem dX5_digest_359 : decode cX5_digest 359 = .ok (.lstore_n 1, 1) := by decide +kernel
theorem dX5_digest_360 : decode cX5_digest 360 = .ok (.iconst 0, 1) := by decide +kernel
theorem dX5_digest_361 : decode cX5_digest 361 = .ok (.istore_n 3, 1) := by decide +kernel
theorem dX5_digest_362 : decode cX5_digest 362 = .ok (.iload_n 3, 1) := by decide +kernel
theorem dX5_digest_363 : decode cX5_digest 363 = .ok (.aload_n 0, 1) := by decide +kernel
theorem dX5_digest_364 : decode cX5_digest 364 = .ok (.getfield 117, 3) := by decide +kernel
theorem dX5_digest_367 : decode cX5_digest 367 = .ok (.if_icmp .ge 23, 3) := by decide +kernel
theorem dX5_digest_370 : decode cX5_digest 370 = .ok (.ldc2_w 168, 3) := by decide +kernel
theorem dX5_digest_373 : decode cX5_digest 373 = .ok (.lload_n 1, 1) := by decide +kernel
theorem dX5_digest_374 : decode cX5_digest 374 = .ok (.lmul, 1) := by decide +kernel
theorem dX5_digest_375 : decode cX5_digest 375 = .ok (.aload_n 0, 1) := by decide +kernel
theorem dX5_digest_376 : decode cX5_digest 376 = .ok (.getfield 17, 3) := by decide +kernel
theorem dX5_digest_379 : decode cX5_digest 379 = .ok (.iload_n 3, 1) := by decide +kernel
theorem dX5_digest_380 : decode cX5_digest 380 = .ok (.caload, 1) := by decide +kernel
theorem dX5_digest_381 : decode cX5_digest 381 = .ok (.i2l, 1) := by decide +kernel
theorem dX5_digest_382 : decode cX5_digest 382 = .ok (.ladd, 1) := by decide +kernel
theorem dX5_digest_383 : decode cX5_digest 383 = .ok (.lstore_n 1, 1) := by decide +kernel
theorem dX5_digest_384 : decode cX5_digest 384 = .ok (.iinc 3 1, 3) := by decide +kernel
theorem dX5_digest_387 : decode cX5_digest 387 = .ok (.goto (-25), 3) := by decide +kernel
theorem dX5_digest_390 : decode cX5_digest 390 = .ok (.lload_n 1, 1) := by decide +kernel
theorem dX5_digest_391 : decode cX5_digest 391 = .ok (.lreturn, 1) := by decide +kernel
theorem dJxe99ae_isNaN_b9ae7_0 : decode cJxe99ae_isNaN_b9ae7 0 = .ok (.dload_n 0, 1) := by decide +kernel
theorem dJxe99ae_isNaN_b9ae7_1 : decode cJxe99ae_isNaN_b9ae7 1 = .ok (.dload_n 0, 1) := by decide +kernel
theorem dJxe99ae_isNaN_b9ae7_2 : decode cJxe99ae_isNaN_b9ae7 2 = .ok (.dcmp .l, 1) := by decide +kernel
theorem dJxe99ae_isNaN_b9ae7_3 : decode cJxe99ae_isNaN_b9ae7 3 = .ok (.ifCond .eq 7, 3) := by decide +kernel
theorem dJxe99ae_isNaN_b9ae7_6 : decode cJxe99ae_isNaN_b9ae7 6 = .ok (.iconst 1, 1) := by decide +kernel
theorem dJxe99ae_isNaN_b9ae7_7 : decode cJxe99ae_isNaN_b9ae7 7 = .ok (.goto 4, 3) := by decide +kernel
theorem dJxe99ae_isNaN_b9ae7_10 : decode cJxe99ae_isNaN_b9ae7 10 = .ok (.iconst 0, 1) := by decide +kernel
theorem dJxe99ae_isNaN_b9ae7_11 : decode cJxe99ae_isNaN_b9ae7 11 = .ok (.ireturn, 1) := by decide +kernel
theorem dJxe99ae_doubleToLongBits_ccdee_0 : decode cJxe99ae_doubleToLongBits_ccdee 0 = .ok (.dload_n 0, 1) := by decide +kernel
theorem dJxe99ae_doubleToLongBits_ccdee_1 : decode cJxe99ae_doubleToLongBits_ccdee 1 = .ok (.invokestatic 122, 3) := by decide +kernel
theorem dJxe99ae_doubleToLongBits_ccdee_4 : decode cJxe99ae_doubleToLongBits_ccdee 4 = .ok (.ifCond .ne 8, 3) := by decide +kernel
theorem dJxe99ae_doubleToLongBits_ccdee_7 : decode cJxe99ae_doubleToLongBits_ccdee 7 = .ok (.dload_n 0, 1) := by decide +kernel
theorem dJxe99ae_doubleToLongBits_ccdee_8 : decode cJxe99ae_doubleToLongBits_ccdee 8 = .ok (.invokestatic 134, 3) := by decide +kernel
theorem dJxe99ae_doubleToLongBits_ccdee_11 : decode cJxe99ae_doubleToLongBits_ccdee 11 = .ok (.lreturn, 1) := by decide +kernel
theorem dJxe99ae_doubleToLongBits_ccdee_12 : decode cJxe99ae_doubleToLongBits_ccdee 12 = .ok (.ldc2_w 137, 3) := by decide +kernel
theorem dJxe99ae_doubleToLongBits_ccdee_15 : decode cJxe99ae_doubleToLongBits_ccdee 15 = .ok (.lreturn, 1) := by decide +kernel
theorem dJ6_numberOfLeadingZeros_0f7a4_0 : decode cJ6_numberOfLeadingZeros_0f7a4 0 = .ok (.iload_n 0, 1) := by decide +kernel
theorem dJ6_numberOfLeadingZeros_0f7a4_1 : decode cJ6_numberOfLeadingZeros_0f7a4 1 = .ok (.ifCond .gt 14, 3) := by decide +kernel
theorem dJ6_numberOfLeadingZeros_0f7a4_4 : decode cJ6_numberOfLeadingZeros_0f7a4 4 = .ok (.iload_n 0, 1) := by decide +kernel
theorem dJ6_numberOfLeadingZeros_0f7a4_5 : decode cJ6_numberOfLeadingZeros_0f7a4 5 = .ok (.ifCond .ne 8, 3) := by decide +kernel
theorem dJ6_numberOfLeadingZeros_0f7a4_8 : decode cJ6_numberOfLeadingZeros_0f7a4 8 = .ok (.bipush 32, 2) := by decide +kernel
theorem dJ6_numberOfLeadingZeros_0f7a4_10 : decode cJ6_numberOfLeadingZeros_0f7a4 10 = .ok (.goto 4, 3) := by decide +kernel
theorem dJ6_numberOfLeadingZeros_0f7a4_13 : decode cJ6_numberOfLeadingZeros_0f7a4 13 = .ok (.iconst 0, 1) := by decide +kernel
theorem dJ6_numberOfLeadingZeros_0f7a4_14 : decode cJ6_numberOfLeadingZeros_0f7a4 14 = .ok (.ireturn, 1) := by decide +kernel
theorem dJ6_numberOfLeadingZeros_0f7a4_15 : decode cJ6_numberOfLeadingZeros_0f7a4 15 = .ok (.bipush 31, 2) := by decide +kernel
theorem dJ6_numberOfLeadingZeros_0f7a4_17 : decode cJ6_numberOfLeadingZeros_0f7a4 17 = .ok (.istore_n 1, 1) := by decide +kernel
theorem dJ6_numberOfLeadingZeros_0f7a4_18 : decode cJ6_numberOfLeadingZeros_0f7a4 18 = .ok (.iload_n 0, 1) := by decide +kernel
theorem dJ6_numberOfLeadingZeros_0f7a4_19 : decode cJ6_numberOfLeadingZeros_0f7a4 19 = .ok (.ldc_w 264, 3) := by decide +kernel
theorem dJ6_numberOfLeadingZeros_0f7a4_22 : decode cJ6_numberOfLeadingZeros_0f7a4 22 = .ok (.if_icmp .lt 11, 3) := by decide +kernel
theorem dJ6_numberOfLeadingZeros_0f7a4_25 : decode cJ6_numberOfLeadingZeros_0f7a4 25 = .ok (.iinc 1 (-16), 3) := by decide +kernel
theorem dJ6_numberOfLeadingZeros_0f7a4_28 : decode cJ6_numberOfLeadingZeros_0f7a4 28 = .ok (.iload_n 0, 1) := by decide +kernel
theorem dJ6_numberOfLeadingZeros_0f7a4_29 : decode cJ6_numberOfLeadingZeros_0f7a4 29 = .ok (.bipush 16, 2) := by decide +kernel
theorem dJ6_numberOfLeadingZeros_0f7a4_31 : decode cJ6_numberOfLeadingZeros_0f7a4 31 = .ok (.iushr, 1) := by decide +kernel
theorem dJ6_numberOfLeadingZeros_0f7a4_32 : decode cJ6_numberOfLeadingZeros_0f7a4 32 = .ok (.istore_n 0, 1) := by decide +kernel
theorem dJ6_numberOfLeadingZeros_0f7a4_33 : decode cJ6_numberOfLeadingZeros_0f7a4 33 = .ok (.iload_n 0, 1) := by decide +kernel
theorem dJ6_numberOfLeadingZeros_0f7a4_34 : decode cJ6_numberOfLeadingZeros_0f7a4 34 = .ok (.sipush 256, 3) := by decide +kernel
theorem dJ6_numberOfLeadingZeros_0f7a4_37 : decode cJ6_numberOfLeadingZeros_0f7a4 37 = .ok (.if_icmp .lt 11, 3) := by decide +kernel
theorem dJ6_numberOfLeadingZeros_0f7a4_40 : decode cJ6_numberOfLeadingZeros_0f7a4 40 = .ok (.iinc 1 (-8), 3) := by decide +kernel
theorem dJ6_numberOfLeadingZeros_0f7a4_43 : decode cJ6_numberOfLeadingZeros_0f7a4 43 = .ok (.iload_n 0, 1) := by decide +kernel
theorem dJ6_numberOfLeadingZeros_0f7a4_44 : decode cJ6_numberOfLeadingZeros_0f7a4 44 = .ok (.bipush 8, 2) := by decide +kernel
theorem dJ6_numberOfLeadingZeros_0f7a4_46 : decode cJ6_numberOfLeadingZeros_0f7a4 46 = .ok (.iushr, 1) := by decide +kernel
theorem dJ6_numberOfLeadingZeros_0f7a4_47 : decode cJ6_numberOfLeadingZeros_0f7a4 47 = .ok (.istore_n 0, 1) := by decide +kernel
theorem dJ6_numberOfLeadingZeros_0f7a4_48 : decode cJ6_numberOfLeadingZeros_0f7a4 48 = .ok (.iload_n 0, 1) := by decide +kernel
theorem dJ6_numberOfLeadingZeros_0f7a4_49 : decode cJ6_numberOfLeadingZeros_0f7a4 49 = .ok (.bipush 16, 2) := by decide +kernel
theorem dJ6_numberOfLeadingZeros_0f7a4_51 : decode cJ6_numberOfLeadingZeros_0f7a4 51 = .ok (.if_icmp .lt 10, 3) := by decide +kernel
theorem dJ6_numberOfLeadingZeros_0f7a4_54 : decode cJ6_numberOfLeadingZeros_0f7a4 54 = .ok (.iinc 1 (-4), 3) := by decide +kernel
theorem dJ6_numberOfLeadingZeros_0f7a4_57 : decode cJ6_numberOfLeadingZeros_0f7a4 57 = .ok (.iload_n 0, 1) := by decide +kernel
theorem dJ6_numberOfLeadingZeros_0f7a4_58 : decode cJ6_numberOfLeadingZeros_0f7a4 58 = .ok (.iconst 4, 1) := by decide +kernel
theorem dJ6_numberOfLeadingZeros_0f7a4_59 : decode cJ6_numberOfLeadingZeros_0f7a4 59 = .ok (.iushr, 1) := by decide +kernel
theorem dJ6_numberOfLeadingZeros_0f7a4_60 : decode cJ6_numberOfLeadingZeros_0f7a4 60 = .ok (.istore_n 0, 1) := by decide +kernel
theorem dJ6_numberOfLeadingZeros_0f7a4_61 : decode cJ6_numberOfLeadingZeros_0f7a4 61 = .ok (.iload_n 0, 1) := by decide +kernel
theorem dJ6_numberOfLeadingZeros_0f7a4_62 : decode cJ6_numberOfLeadingZeros_0f7a4 62 = .ok (.iconst 4, 1) := by decide +kernel
theorem dJ6_numberOfLeadingZeros_0f7a4_63 : decode cJ6_numberOfLeadingZeros_0f7a4 63 = .ok (.if_icmp .lt 10, 3) := by decide +kernel
theorem dJ6_numberOfLeadingZeros_0f7a4_66 : decode cJ6_numberOfLeadingZeros_0f7a4 66 = .ok (.iinc 1 (-2), 3) := by decide +kernel
theorem dJ6_numberOfLeadingZeros_0f7a4_69 : decode cJ6_numberOfLeadingZeros_0f7a4 69 = .ok (.iload_n 0, 1) := by decide +kernel
theorem dJ6_numberOfLeadingZeros_0f7a4_70 : decode cJ6_numberOfLeadingZeros_0f7a4 70 = .ok (.iconst 2, 1) := by decide +kernel
theorem dJ6_numberOfLeadingZeros_0f7a4_71 : decode cJ6_numberOfLeadingZeros_0f7a4 71 = .ok (.iushr, 1) := by decide +kernel
theorem dJ6_numberOfLeadingZeros_0f7a4_72 : decode cJ6_numberOfLeadingZeros_0f7a4 72 = .ok (.istore_n 0, 1) := by decide +kernel
theorem dJ6_numberOfLeadingZeros_0f7a4_73 : decode cJ6_numberOfLeadingZeros_0f7a4 73 = .ok (.iload_n 1, 1) := by decide +kernel
theorem dJ6_numberOfLeadingZeros_0f7a4_74 : decode cJ6_numberOfLeadingZeros_0f7a4 74 = .ok (.iload_n 0, 1) := by decide +kernel
theorem dJ6_numberOfLeadingZeros_0f7a4_75 : decode cJ6_numberOfLeadingZeros_0f7a4 75 = .ok (.iconst 1, 1) := by decide +kernel
theorem dJ6_numberOfLeadingZeros_0f7a4_76 : decode cJ6_numberOfLeadingZeros_0f7a4 76 = .ok (.iushr, 1) := by decide +kernel
theorem dJ6_numberOfLeadingZeros_0f7a4_77 : decode cJ6_numberOfLeadingZeros_0f7a4 77 = .ok (.isub, 1) := by decide +kernel
theorem dJ6_numberOfLeadingZeros_0f7a4_78 : decode cJ6_numberOfLeadingZeros_0f7a4 78 = .ok (.ireturn, 1) := by decide +kernel
theorem dJ6_numberOfTrailingZeros_0f7a4_0 : decode cJ6_numberOfTrailingZeros_0f7a4 0 = .ok (.iload_n 0, 1) := by decide +kernel
theorem dJ6_numberOfTrailingZeros_0f7a4_1 : decode cJ6_numberOfTrailingZeros_0f7a4 1 = .ok (.iconst (-1), 1) := by decide +kernel
theorem dJ6_numberOfTrailingZeros_0f7a4_2 : decode cJ6_numberOfTrailingZeros_0f7a4 2 = .ok (.ixor, 1) := by decide +kernel
theorem dJ6_numberOfTrailingZeros_0f7a4_3 : decode cJ6_numberOfTrailingZeros_0f7a4 3 = .ok (.iload_n 0, 1) := by decide +kernel
theorem dJ6_numberOfTrailingZeros_0f7a4_4 : decode cJ6_numberOfTrailingZeros_0f7a4 4 = .ok (.iconst 1, 1) := by decide +kernel
theorem dJ6_numberOfTrailingZeros_0f7a4_5 : decode cJ6_numberOfTrailingZeros_0f7a4 5 = .ok (.isub, 1) := by decide +kernel
theorem dJ6_numberOfTrailingZeros_0f7a4_6 : decode cJ6_numberOfTrailingZeros_0f7a4 6 = .ok (.iand, 1) := by decide +kernel
theorem dJ6_numberOfTrailingZeros_0f7a4_7 : decode cJ6_numberOfTrailingZeros_0f7a4 7 = .ok (.istore_n 0, 1) := by decide +kernel
theorem dJ6_numberOfTrailingZeros_0f7a4_8 : decode cJ6_numberOfTrailingZeros_0f7a4 8 = .ok (.iload_n 0, 1) := by decide +kernel
theorem dJ6_numberOfTrailingZeros_0f7a4_9 : decode cJ6_numberOfTrailingZeros_0f7a4 9 = .ok (.ifCond .gt 8, 3) := by decide +kernel
theorem dJ6_numberOfTrailingZeros_0f7a4_12 : decode cJ6_numberOfTrailingZeros_0f7a4 12 = .ok (.iload_n 0, 1) := by decide +kernel
theorem dJ6_numberOfTrailingZeros_0f7a4_13 : decode cJ6_numberOfTrailingZeros_0f7a4 13 = .ok (.bipush 32, 2) := by decide +kernel
theorem dJ6_numberOfTrailingZeros_0f7a4_15 : decode cJ6_numberOfTrailingZeros_0f7a4 15 = .ok (.iand, 1) := by decide +kernel
theorem dJ6_numberOfTrailingZeros_0f7a4_16 : decode cJ6_numberOfTrailingZeros_0f7a4 16 = .ok (.ireturn, 1) := by decide +kernel
theorem dJ6_numberOfTrailingZeros_0f7a4_17 : decode cJ6_numberOfTrailingZeros_0f7a4 17 = .ok (.iconst 1, 1) := by decide +kernel
theorem dJ6_numberOfTrailingZeros_0f7a4_18 : decode cJ6_numberOfTrailingZeros_0f7a4 18 = .ok (.istore_n 1, 1) := by decide +kernel
theorem dJ6_numberOfTrailingZeros_0f7a4_19 : decode cJ6_numberOfTrailingZeros_0f7a4 19 = .ok (.iload_n 0, 1) := by decide +kernel
theorem dJ6_numberOfTrailingZeros_0f7a4_20 : decode cJ6_numberOfTrailingZeros_0f7a4 20 = .ok (.ldc_w 264, 3) := by decide +kernel
theorem dJ6_numberOfTrailingZeros_0f7a4_23 : decode cJ6_numberOfTrailingZeros_0f7a4 23 = .ok (.if_icmp .le 11, 3) := by decide +kernel
theorem dJ6_numberOfTrailingZeros_0f7a4_26 : decode cJ6_numberOfTrailingZeros_0f7a4 26 = .ok (.iinc 1 16, 3) := by decide +kernel
theorem dJ6_numberOfTrailingZeros_0f7a4_29 : decode cJ6_numberOfTrailingZeros_0f7a4 29 = .ok (.iload_n 0, 1) := by decide +kernel
theorem dJ6_numberOfTrailingZeros_0f7a4_30 : decode cJ6_numberOfTrailingZeros_0f7a4 30 = .ok (.bipush 16, 2) := by decide +kernel
theorem dJ6_numberOfTrailingZeros_0f7a4_32 : decode cJ6_numberOfTrailingZeros_0f7a4 32 = .ok (.iushr, 1) := by decide +kernel
theorem dJ6_numberOfTrailingZeros_0f7a4_33 : decode cJ6_numberOfTrailingZeros_0f7a4 33 = .ok (.istore_n 0, 1) := by decide +kernel
theorem dJ6_numberOfTrailingZeros_0f7a4_34 : decode cJ6_numberOfTrailingZeros_0f7a4 34 = .ok (.iload_n 0, 1) := by decide +kernel
theorem dJ6_numberOfTrailingZeros_0f7a4_35 : decode cJ6_numberOfTrailingZeros_0f7a4 35 = .ok (.sipush 256, 3) := by decide +kernel
theorem dJ6_numberOfTrailingZeros_0f7a4_38 : decode cJ6_numberOfTrailingZeros_0f7a4 38 = .ok (.if_icmp .le 11, 3) := by decide +kernel
theorem dJ6_numberOfTrailingZeros_0f7a4_41 : decode cJ6_numberOfTrailingZeros_0f7a4 41 = .ok (.iinc 1 8, 3) := by decide +kernel
theorem dJ6_numberOfTrailingZeros_0f7a4_44 : decode cJ6_numberOfTrailingZeros_0f7a4 44 = .ok (.iload_n 0, 1) := by decide +kernel
theorem dJ6_numberOfTrailingZeros_0f7a4_45 : decode cJ6_numberOfTrailingZeros_0f7a4 45 = .ok (.bipush 8, 2) := by decide +kernel
theorem dJ6_numberOfTrailingZeros_0f7a4_47 : decode cJ6_numberOfTrailingZeros_0f7a4 47 = .ok (.iushr, 1) := by decide +kernel
theorem dJ6_numberOfTrailingZeros_0f7a4_48 : decode cJ6_numberOfTrailingZeros_0f7a4 48 = .ok (.istore_n 0, 1) := by decide +kernel
theorem dJ6_numberOfTrailingZeros_0f7a4_49 : decode cJ6_numberOfTrailingZeros_0f7a4 49 = .ok (.iload_n 0, 1) := by decide +kernel
theorem dJ6_numberOfTrailingZeros_0f7a4_50 : decode cJ6_numberOfTrailingZeros_0f7a4 50 = .ok (.bipush 16, 2) := by decide +kernel
theorem dJ6_numberOfTrailingZeros_0f7a4_52 : decode cJ6_numberOfTrailingZeros_0f7a4 52 = .ok (.if_icmp .le 10, 3) := by decide +kernel
theorem dJ6_numberOfTrailingZeros_0f7a4_55 : decode cJ6_numberOfTrailingZeros_0f7a4 55 = .ok (.iinc 1 4, 3) := by decide +kernel
theorem dJ6_numberOfTrailingZeros_0f7a4_58 : decode cJ6_numberOfTrailingZeros_0f7a4 58 = .ok (.iload_n 0, 1) := by decide +kernel
theorem dJ6_numberOfTrailingZeros_0f7a4_59 : decode cJ6_numberOfTrailingZeros_0f7a4 59 = .ok (.iconst 4, 1) := by decide +kernel
theorem dJ6_numberOfTrailingZeros_0f7a4_60 : decode cJ6_numberOfTrailingZeros_0f7a4 60 = .ok (.iushr, 1) := by decide +kernel
theorem dJ6_numberOfTrailingZeros_0f7a4_61 : decode cJ6_numberOfTrailingZeros_0f7a4 61 = .ok (.istore_n 0, 1) := by decide +kernel
theorem dJ6_numberOfTrailingZeros_0f7a4_62 : decode cJ6_numberOfTrailingZeros_0f7a4 62 = .ok (.iload_n 0, 1) := by decide +kernel
theorem dJ6_numberOfTrailingZeros_0f7a4_63 : decode cJ6_numberOfTrailingZeros_0f7a4 63 = .ok (.iconst 4, 1) := by decide +kernel
theorem dJ6_numberOfTrailingZeros_0f7a4_64 : decode cJ6_numberOfTrailingZeros_0f7a4 64 = .ok (.if_icmp .le 10, 3) := by decide +kernel
theorem dJ6_numberOfTrailingZeros_0f7a4_67 : decode cJ6_numberOfTrailingZeros_0f7a4 67 = .ok (.iinc 1 2, 3) := by decide +kernel
theorem dJ6_numberOfTrailingZeros_0f7a4_70 : decode cJ6_numberOfTrailingZeros_0f7a4 70 = .ok (.iload_n 0, 1) := by decide +kernel
theorem dJ6_numberOfTrailingZeros_0f7a4_71 : decode cJ6_numberOfTrailingZeros_0f7a4 71 = .ok (.iconst 2, 1) := by decide +kernel
theorem dJ6_numberOfTrailingZeros_0f7a4_72 : decode cJ6_numberOfTrailingZeros_0f7a4 72 = .ok (.iushr, 1) := by decide +kernel
theorem dJ6_numberOfTrailingZeros_0f7a4_73 : decode cJ6_numberOfTrailingZeros_0f7a4 73 = .ok (.istore_n 0, 1) := by decide +kernel
theorem dJ6_numberOfTrailingZeros_0f7a4_74 : decode cJ6_numberOfTrailingZeros_0f7a4 74 = .ok (.iload_n 1, 1) := by decide +kernel
theorem dJ6_numberOfTrailingZeros_0f7a4_75 : decode cJ6_numberOfTrailingZeros_0f7a4 75 = .ok (.iload_n 0, 1) := by decide +kernel
theorem dJ6_numberOfTrailingZeros_0f7a4_76 : decode cJ6_numberOfTrailingZeros_0f7a4 76 = .ok (.iconst 1, 1) := by decide +kernel
theorem dJ6_numberOfTrailingZeros_0f7a4_77 : decode cJ6_numberOfTrailingZeros_0f7a4 77 = .ok (.iushr, 1) := by decide +kernel
theorem dJ6_numberOfTrailingZeros_0f7a4_78 : decode cJ6_numberOfTrailingZeros_0f7a4 78 = .ok (.iadd, 1) := by decide +kernel
theorem dJ6_numberOfTrailingZeros_0f7a4_79 : decode cJ6_numberOfTrailingZeros_0f7a4 79 = .ok (.ireturn, 1) := by decide +kernel
theorem dJ13_numberOfLeadingZeros_95d88_0 : decode cJ13_numberOfLeadingZeros_95d88 0 = .ok (.lload_n 0, 1) := by decide +kernel
theorem dJ13_numberOfLeadingZeros_95d88_1 : decode cJ13_numberOfLeadingZeros_95d88 1 = .ok (.bipush 32, 2) := by decide +kernel
theorem dJ13_numberOfLeadingZeros_95d88_3 : decode cJ13_numberOfLeadingZeros_95d88 3 = .ok (.lushr, 1) := by decide +kernel
theorem dJ13_numberOfLeadingZeros_95d88_4 : decode cJ13_numberOfLeadingZeros_95d88 4 = .ok (.l2i, 1) := by decide +kernel
theorem dJ13_numberOfLeadingZeros_95d88_5 : decode cJ13_numberOfLeadingZeros_95d88 5 = .ok (.istore_n 2, 1) := by decide +kernel
theorem dJ13_numberOfLeadingZeros_95d88_6 : decode cJ13_numberOfLeadingZeros_95d88 6 = .ok (.iload_n 2, 1) := by decide +kernel
theorem dJ13_numberOfLeadingZeros_95d88_7 : decode cJ13_numberOfLeadingZeros_95d88 7 = .ok (.ifCond .ne 14, 3) := by decide +kernel
theorem dJ13_numberOfLeadingZeros_95d88_10 : decode cJ13_numberOfLeadingZeros_95d88 10 = .ok (.bipush 32, 2) := by decide +kernel
theorem dJ13_numberOfLeadingZeros_95d88_12 : decode cJ13_numberOfLeadingZeros_95d88 12 = .ok (.lload_n 0, 1) := by decide +kernel
theorem dJ13_numberOfLeadingZeros_95d88_13 : decode cJ13_numberOfLeadingZeros_95d88 13 = .ok (.l2i, 1) := by decide +kernel
theorem dJ13_numberOfLeadingZeros_95d88_14 : decode cJ13_numberOfLeadingZeros_95d88 14 = .ok (.invokestatic 308, 3) := by decide +kernel
theorem dJ13_numberOfLeadingZeros_95d88_17 : decode cJ13_numberOfLeadingZeros_95d88 17 = .ok (.iadd, 1) := by decide +kernel
theorem dJ13_numberOfLeadingZeros_95d88_18 : decode cJ13_numberOfLeadingZeros_95d88 18 = .ok (.goto 7, 3) := by decide +kernel
theorem dJ13_numberOfLeadingZeros_95d88_21 : decode cJ13_numberOfLeadingZeros_95d88 21 = .ok (.iload_n 2, 1) := by decide +kernel
theorem dJ13_numberOfLeadingZeros_95d88_22 : decode cJ13_numberOfLeadingZeros_95d88 22 = .ok (.invokestatic 308, 3) := by decide +kernel
theorem dJ13_numberOfLeadingZeros_95d88_25 : decode cJ13_numberOfLeadingZeros_95d88 25 = .ok (.ireturn, 1) := by decide +kernel
theorem dJ13_numberOfTrailingZeros_95d88_0 : decode cJ13_numberOfTrailingZeros_95d88 0 = .ok (.lload_n 0, 1) := by decide +kernel
theorem dJ13_numberOfTrailingZeros_95d88_1 : decode cJ13_numberOfTrailingZeros_95d88 1 = .ok (.l2i, 1) := by decide +kernel
theorem dJ13_numberOfTrailingZeros_95d88_2 : decode cJ13_numberOfTrailingZeros_95d88 2 = .ok (.istore_n 2, 1) := by decide +kernel
theorem dJ13_numberOfTrailingZeros_95d88_3 : decode cJ13_numberOfTrailingZeros_95d88 3 = .ok (.iload_n 2, 1) := by decide +kernel
theorem dJ13_numberOfTrailingZeros_95d88_4 : decode cJ13_numberOfTrailingZeros_95d88 4 = .ok (.ifCond .ne 17, 3) := by decide +kernel
theorem dJ13_numberOfTrailingZeros_95d88_7 : decode cJ13_numberOfTrailingZeros_95d88 7 = .ok (.bipush 32, 2) := by decide +kernel
theorem dJ13_numberOfTrailingZeros_95d88_9 : decode cJ13_numberOfTrailingZeros_95d88 9 = .ok (.lload_n 0, 1) := by decide +kernel
theorem dJ13_numberOfTrailingZeros_95d88_10 : decode cJ13_numberOfTrailingZeros_95d88 10 = .ok (.bipush 32, 2) := by decide +kernel
theorem dJ13_numberOfTrailingZeros_95d88_12 : decode cJ13_numberOfTrailingZeros_95d88 12 = .ok (.lushr, 1) := by decide +kernel
theorem dJ13_numberOfTrailingZeros_95d88_13 : decode cJ13_numberOfTrailingZeros_95d88 13 = .ok (.l2i, 1) := by decide +kernel
theorem dJ13_numberOfTrailingZeros_95d88_14 : decode cJ13_numberOfTrailingZeros_95d88 14 = .ok (.invokestatic 311, 3) := by decide +kernel
theorem dJ13_numberOfTrailingZeros_95d88_17 : decode cJ13_numberOfTrailingZeros_95d88 17 = .ok (.iadd, 1) := by decide +kernel
theorem dJ13_numberOfTrailingZeros_95d88_18 : decode cJ13_numberOfTrailingZeros_95d88 18 = .ok (.goto 7, 3) := by decide +kernel
theorem dJ13_numberOfTrailingZeros_95d88_21 : decode cJ13_numberOfTrailingZeros_95d88 21 = .ok (.iload_n 2, 1) := by decide +kernel
theorem dJ13_numberOfTrailingZeros_95d88_22 : decode cJ13_numberOfTrailingZeros_95d88 22 = .ok (.invokestatic 311, 3) := by decide +kernel
theorem dJ13_numberOfTrailingZeros_95d88_25 : decode cJ13_numberOfTrailingZeros_95d88 25 = .ok (.ireturn, 1) := by decide +kernel
theorem dJ13_bitCount_95d88_0 : decode cJ13_bitCount_95d88 0 = .ok (.lload_n 0, 1) := by decide +kernel
theorem dJ13_bitCount_95d88_1 : decode cJ13_bitCount_95d88 1 = .ok (.lload_n 0, 1) := by decide +kernel
theorem dJ13_bitCount_95d88_2 : decode cJ13_bitCount_95d88 2 = .ok (.iconst 1, 1) := by decide +kernel
theorem dJ13_bitCount_95d88_3 : decode cJ13_bitCount_95d88 3 = .ok (.lushr, 1) := by decide +kernel
theorem dJ13_bitCount_95d88_4 : decode cJ13_bitCount_95d88 4 = .ok (.ldc2_w 314, 3) := by decide +kernel
theorem dJ13_bitCount_95d88_7 : decode cJ13_bitCount_95d88 7 = .ok (.land, 1) := by decide +kernel
theorem dJ13_bitCount_95d88_8 : decode cJ13_bitCount_95d88 8 = .ok (.lsub, 1) := by decide +kernel
theorem dJ13_bitCount_95d88_9 : decode cJ13_bitCount_95d88 9 = .ok (.lstore_n 0, 1) := by decide +kernel
theorem dJ13_bitCount_95d88_10 : decode cJ13_bitCount_95d88 10 = .ok (.lload_n 0, 1) := by decide +kernel
theorem dJ13_bitCount_95d88_11 : decode cJ13_bitCount_95d88 11 = .ok (.ldc2_w 316, 3) := by decide +kernel
theorem dJ13_bitCount_95d88_14 : decode cJ13_bitCount_95d88 14 = .ok (.land, 1) := by decide +kernel
theorem dJ13_bitCount_95d88_15 : decode cJ13_bitCount_95d88 15 = .ok (.lload_n 0, 1) := by decide +kernel
theorem dJ13_bitCount_95d88_16 : decode cJ13_bitCount_95d88 16 = .ok (.iconst 2, 1) := by decide +kernel
theorem dJ13_bitCount_95d88_17 : decode cJ13_bitCount_95d88 17 = .ok (.lushr, 1) := by decide +kernel
theorem dJ13_bitCount_95d88_18 : decode cJ13_bitCount_95d88 18 = .ok (.ldc2_w 316, 3) := by decide +kernel
theorem dJ13_bitCount_95d88_21 : decode cJ13_bitCount_95d88 21 = .ok (.land, 1) := by decide +kernel
theorem dJ13_bitCount_95d88_22 : decode cJ13_bitCount_95d88 22 = .ok (.ladd, 1) := by decide +kernel
theorem dJ13_bitCount_95d88_23 : decode cJ13_bitCount_95d88 23 = .ok (.lstore_n 0, 1) := by decide +kernel
theorem dJ13_bitCount_95d88_24 : decode cJ13_bitCount_95d88 24 = .ok (.lload_n 0, 1) := by decide +kernel
theorem dJ13_bitCount_95d88_25 : decode cJ13_bitCount_95d88 25 = .ok (.lload_n 0, 1) := by decide +kernel
theorem dJ13_bitCount_95d88_26 : decode cJ13_bitCount_95d88 26 = .ok (.iconst 4, 1) := by decide +kernel
theorem dJ13_bitCount_95d88_27 : decode cJ13_bitCount_95d88 27 = .ok (.lushr, 1) := by decide +kernel
theorem dJ13_bitCount_95d88_28 : decode cJ13_bitCount_95d88 28 = .ok (.ladd, 1) := by decide +kernel
theorem dJ13_bitCount_95d88_29 : decode cJ13_bitCount_95d88 29 = .ok (.ldc2_w 318, 3) := by decide +kernel
theorem dJ13_bitCount_95d88_32 : decode cJ13_bitCount_95d88 32 = .ok (.land, 1) := by decide +kernel
theorem dJ13_bitCount_95d88_33 : decode cJ13_bitCount_95d88 33 = .ok (.lstore_n 0, 1) := by decide +kernel
theorem dJ13_bitCount_95d88_34 : decode cJ13_bitCount_95d88 34 = .ok (.lload_n 0, 1) := by decide +kernel
theorem dJ13_bitCount_95d88_35 : decode cJ13_bitCount_95d88 35 = .ok (.lload_n 0, 1) := by decide +kernel
theorem dJ13_bitCount_95d88_36 : decode cJ13_bitCount_95d88 36 = .ok (.bipush 8, 2) := by decide +kernel
theorem dJ13_bitCount_95d88_38 : decode cJ13_bitCount_95d88 38 = .ok (.lushr, 1) := by decide +kernel
theorem dJ13_bitCount_95d88_39 : decode cJ13_bitCount_95d88 39 = .ok (.ladd, 1) := by decide +kernel
theorem dJ13_bitCount_95d88_40 : decode cJ13_bitCount_95d88 40 = .ok (.lstore_n 0, 1) := by decide +kernel
theorem dJ13_bitCount_95d88_41 : decode cJ13_bitCount_95d88 41 = .ok (.lload_n 0, 1) := by decide +kernel
theorem dJ13_bitCount_95d88_42 : decode cJ13_bitCount_95d88 42 = .ok (.lload_n 0, 1) := by decide +kernel
theorem dJ13_bitCount_95d88_43 : decode cJ13_bitCount_95d88 43 = .ok (.bipush 16, 2) := by decide +kernel
theorem dJ13_bitCount_95d88_45 : decode cJ13_bitCount_95d88 45 = .ok (.lushr, 1) := by decide +kernel
theorem dJ13_bitCount_95d88_46 : decode cJ13_bitCount_95d88 46 = .ok (.ladd, 1) := by decide +kernel
theorem dJ13_bitCount_95d88_47 : decode cJ13_bitCount_95d88 47 = .ok (.lstore_n 0, 1) := by decide +kernel
theorem dJ13_bitCount_95d88_48 : decode cJ13_bitCount_95d88 48 = .ok (.lload_n 0, 1) := by decide +kernel
theorem dJ13_bitCount_95d88_49 : decode cJ13_bitCount_95d88 49 = .ok (.lload_n 0, 1) := by decide +kernel
theorem dJ13_bitCount_95d88_50 : decode cJ13_bitCount_95d88 50 = .ok (.bipush 32, 2) := by decide +kernel
theorem dJ13_bitCount_95d88_52 : decode cJ13_bitCount_95d88 52 = .ok (.lushr, 1) := by decide +kernel
theorem dJ13_bitCount_95d88_53 : decode cJ13_bitCount_95d88 53 = .ok (.ladd, 1) := by decide +kernel
theorem dJ13_bitCount_95d88_54 : decode cJ13_bitCount_95d88 54 = .ok (.lstore_n 0, 1) := by decide +kernel
theorem dJ13_bitCount_95d88_55 : decode cJ13_bitCount_95d88 55 = .ok (.lload_n 0, 1) := by decide +kernel
theorem dJ13_bitCount_95d88_56 : decode cJ13_bitCount_95d88 56 = .ok (.l2i, 1) := by decide +kernel
theorem dJ13_bitCount_95d88_57 : decode cJ13_bitCount_95d88 57 = .ok (.bipush 127, 2) := by decide +kernel
theorem dJ13_bitCount_95d88_59 : decode cJ13_bitCount_95d88 59 = .ok (.iand, 1) := by decide +kernel
theorem dJ13_bitCount_95d88_60 : decode cJ13_bitCount_95d88 60 = .ok (.ireturn, 1) := by decide +kernel
theorem dJ9_max_7cf53_0 : decode cJ9_max_7cf53 0 = .ok (.iload_n 0, 1) := by decide +kernel
theorem dJ9_max_7cf53_1 : decode cJ9_max_7cf53 1 = .ok (.iload_n 1, 1) := by decide +kernel
theorem dJ9_max_7cf53_2 : decode cJ9_max_7cf53 2 = .ok (.if_icmp .lt 7, 3) := by decide +kernel
theorem dJ9_max_7cf53_5 : decode cJ9_max_7cf53 5 = .ok (.iload_n 0, 1) := by decide +kernel
theorem dJ9_max_7cf53_6 : decode cJ9_max_7cf53 6 = .ok (.goto 4, 3) := by decide +kernel
theorem dJ9_max_7cf53_9 : decode cJ9_max_7cf53 9 = .ok (.iload_n 1, 1) := by decide +kernel
theorem dJ9_max_7cf53_10 : decode cJ9_max_7cf53 10 = .ok (.ireturn, 1) := by decide +kernel
theorem dJ9_min_7cf53_0 : decode cJ9_min_7cf53 0 = .ok (.iload_n 0, 1) := by decide +kernel
theorem dJ9_min_7cf53_1 : decode cJ9_min_7cf53 1 = .ok (.iload_n 1, 1) := by decide +kernel
theorem dJ9_min_7cf53_2 : decode cJ9_min_7cf53 2 = .ok (.if_icmp .gt 7, 3) := by decide +kernel
theorem dJ9_min_7cf53_5 : decode cJ9_min_7cf53 5 = .ok (.iload_n 0, 1) := by decide +kernel
theorem dJ9_min_7cf53_6 : decode cJ9_min_7cf53 6 = .ok (.goto 4, 3) := by decide +kernel
theorem dJ9_min_7cf53_9 : decode cJ9_min_7cf53 9 = .ok (.iload_n 1, 1) := by decide +kernel
theorem dJ9_min_7cf53_10 : decode cJ9_min_7cf53 10 = .ok (.ireturn, 1) := by decide +kernel
theorem dJxa1e45_init_da8c8_0 : decode cJxa1e45_init_da8c8 0 = .ok (.aload_n 0, 1) := by decide +kernel
theorem dJxa1e45_init_da8c8_1 : decode cJxa1e45_init_da8c8 1 = .ok (.invokespecial 1, 3) := by decide +kernel
theorem dJxa1e45_init_da8c8_4 : decode cJxa1e45_init_da8c8 4 = .ok (.return_, 1) := by decide +kernel
theorem dJxc12de_init_da8c8_0 : decode cJxc12de_init_da8c8 0 = .ok (.aload_n 0, 1) := by decide +kernel
theorem dJxc12de_init_da8c8_1 : decode cJxc12de_init_da8c8 1 = .ok (.invokespecial 1, 3) := by decide +kernel
theorem dJxc12de_init_da8c8_4 : decode cJxc12de_init_da8c8 4 = .ok (.aload_n 0, 1) := by decide +kernel
theorem dJxc12de_init_da8c8_5 : decode cJxc12de_init_da8c8 5 = .ok (.iconst 0, 1) := by decide +kernel
theorem dJxc12de_init_da8c8_6 : decode cJxc12de_init_da8c8 6 = .ok (.putfield 7, 3) := by decide +kernel
theorem dJxc12de_init_da8c8_9 : decode cJxc12de_init_da8c8 9 = .ok (.return_, 1) := by decide +kernel
theorem dJx4a65c_init_da8c8_0 : decode cJx4a65c_init_da8c8 0 = .ok (.aload_n 0, 1) := by decide +kernel
theorem dJx4a65c_init_da8c8_1 : decode cJx4a65c_init_da8c8 1 = .ok (.invokespecial 1, 3) := by decide +kernel
theorem dJx4a65c_init_da8c8_4 : decode cJx4a65c_init_da8c8 4 = .ok (.aload_n 0, 1) := by decide +kernel
theorem dJx4a65c_init_da8c8_5 : decode cJx4a65c_init_da8c8 5 = .ok (.getstatic 39, 3) := by decide +kernel
theorem dJx4a65c_init_da8c8_8 : decode cJx4a65c_init_da8c8 8 = .ok (.putfield 9, 3) := by decide +kernel
theorem dJx4a65c_init_da8c8_11 : decode cJx4a65c_init_da8c8 11 = .ok (.return_, 1) := by decide +kernel
theorem dJx4a65c_grow_92f84_0 : decode cJx4a65c_grow_92f84 0 = .ok (.aload_n 0, 1) := by decide +kernel
theorem dJx4a65c_grow_92f84_1 : decode cJx4a65c_grow_92f84 1 = .ok (.getfield 9, 3) := by decide +kernel
theorem dJx4a65c_grow_92f84_4 : decode cJx4a65c_grow_92f84 4 = .ok (.arraylength, 1) := by decide +kernel
theorem dJx4a65c_grow_92f84_5 : decode cJx4a65c_grow_92f84 5 = .ok (.istore_n 2, 1) := by decide +kernel
theorem dJx4a65c_grow_92f84_6 : decode cJx4a65c_grow_92f84 6 = .ok (.iload_n 2, 1) := by decide +kernel
theorem dJx4a65c_grow_92f84_7 : decode cJx4a65c_grow_92f84 7 = .ok (.ifCond .gt 13, 3) := by decide +kernel
theorem dJx4a65c_grow_92f84_10 : decode cJx4a65c_grow_92f84 10 = .ok (.aload_n 0, 1) := by decide +kernel
theorem dJx4a65c_grow_92f84_11 : decode cJx4a65c_grow_92f84 11 = .ok (.getfield 9, 3) := by decide +kernel
theorem dJx4a65c_grow_92f84_14 : decode cJx4a65c_grow_92f84 14 = .ok (.getstatic 39, 3) := by decide +kernel
theorem dJx4a65c_grow_92f84_17 : decode cJx4a65c_grow_92f84 17 = .ok (.if_acmp .eq 28, 3) := by decide +kernel
theorem dJx4a65c_grow_92f84_20 : decode cJx4a65c_grow_92f84 20 = .ok (.iload_n 2, 1) := by decide +kernel
theorem dJx4a65c_grow_92f84_21 : decode cJx4a65c_grow_92f84 21 = .ok (.iload_n 1, 1) := by decide +kernel
theorem dJx4a65c_grow_92f84_22 : decode cJx4a65c_grow_92f84 22 = .ok (.iload_n 2, 1) := by decide +kernel
theorem dJx4a65c_grow_92f84_23 : decode cJx4a65c_grow_92f84 23 = .ok (.isub, 1) := by decide +kernel
theorem dJx4a65c_grow_92f84_24 : decode cJx4a65c_grow_92f84 24 = .ok (.iload_n 2, 1) := by decide +kernel
theorem dJx4a65c_grow_92f84_25 : decode cJx4a65c_grow_92f84 25 = .ok (.iconst 1, 1) := by decide +kernel
theorem dJx4a65c_grow_92f84_26 : decode cJx4a65c_grow_92f84 26 = .ok (.ishr, 1) := by decide +kernel
theorem dJx4a65c_grow_92f84_27 : decode cJx4a65c_grow_92f84 27 = .ok (.invokestatic 73, 3) := by decide +kernel
theorem dJx4a65c_grow_92f84_30 : decode cJx4a65c_grow_92f84 30 = .ok (.istore_n 3, 1) := by decide +kernel
theorem dJx4a65c_grow_92f84_31 : decode cJx4a65c_grow_92f84 31 = .ok (.aload_n 0, 1) := by decide +kernel
theorem dJx4a65c_grow_92f84_32 : decode cJx4a65c_grow_92f84 32 = .ok (.aload_n 0, 1) := by decide +kernel
theorem dJx4a65c_grow_92f84_33 : decode cJx4a65c_grow_92f84 33 = .ok (.getfield 9, 3) := by decide +kernel
theorem dJx4a65c_grow_92f84_36 : decode cJx4a65c_grow_92f84 36 = .ok (.iload_n 3, 1) := by decide +kernel
theorem dJx4a65c_grow_92f84_37 : decode cJx4a65c_grow_92f84 37 = .ok (.invokestatic 66, 3) := by decide +kernel
theorem dJx4a65c_grow_92f84_40 : decode cJx4a65c_grow_92f84 40 = .ok (.dup_x1, 1) := by decide +kernel
theorem dJx4a65c_grow_92f84_41 : decode cJx4a65c_grow_92f84 41 = .ok (.putfield 9, 3) := by decide +kernel
theorem dJx4a65c_grow_92f84_44 : decode cJx4a65c_grow_92f84 44 = .ok (.areturn, 1) := by decide +kernel
theorem dJx4a65c_grow_92f84_45 : decode cJx4a65c_grow_92f84 45 = .ok (.aload_n 0, 1) := by decide +kernel
theorem dJx4a65c_grow_92f84_46 : decode cJx4a65c_grow_92f84 46 = .ok (.bipush 10, 2) := by decide +kernel
theorem dJx4a65c_grow_92f84_48 : decode cJx4a65c_grow_92f84 48 = .ok (.iload_n 1, 1) := by decide +kernel
theorem dJx4a65c_grow_92f84_49 : decode cJx4a65c_grow_92f84 49 = .ok (.invokestatic 79, 3) := by decide +kernel
theorem dJx4a65c_grow_92f84_52 : decode cJx4a65c_grow_92f84 52 = .ok (.anewarray 7, 3) := by decide +kernel
theorem dJx4a65c_grow_92f84_55 : decode cJx4a65c_grow_92f84 55 = .ok (.dup_x1, 1) := by decide +kernel
theorem dJx4a65c_grow_92f84_56 : decode cJx4a65c_grow_92f84 56 = .ok (.putfield 9, 3) := by decide +kernel
theorem dJx4a65c_grow_92f84_59 : decode cJx4a65c_grow_92f84 59 = .ok (.areturn, 1) := by decide +kernel
theorem dJx4a65c_grow_d5877_0 : decode cJx4a65c_grow_d5877 0 = .ok (.aload_n 0, 1) := by decide +kernel
theorem dJx4a65c_grow_d5877_1 : decode cJx4a65c_grow_d5877 1 = .ok (.aload_n 0, 1) := by decide +kernel
theorem dJx4a65c_grow_d5877_2 : decode cJx4a65c_grow_d5877 2 = .ok (.getfield 48, 3) := by decide +kernel
theorem dJx4a65c_grow_d5877_5 : decode cJx4a65c_grow_d5877 5 = .ok (.iconst 1, 1) := by decide +kernel
theorem dJx4a65c_grow_d5877_6 : decode cJx4a65c_grow_d5877 6 = .ok (.iadd, 1) := by decide +kernel
theorem dJx4a65c_grow_d5877_7 : decode cJx4a65c_grow_d5877 7 = .ok (.invokevirtual 69, 3) := by decide +kernel
theorem dJx4a65c_grow_d5877_10 : decode cJx4a65c_grow_d5877 10 = .ok (.areturn, 1) := by decide +kernel
theorem dJx4a65c_size_8abf5_0 : decode cJx4a65c_size_8abf5 0 = .ok (.aload_n 0, 1) := by decide +kernel
theorem dJx4a65c_size_8abf5_1 : decode cJx4a65c_size_8abf5 1 = .ok (.getfield 48, 3) := by decide +kernel
theorem dJx4a65c_size_8abf5_4 : decode cJx4a65c_size_8abf5 4 = .ok (.ireturn, 1) := by decide +kernel
theorem dJx4a65c_elementData_915e3_0 : decode cJx4a65c_elementData_915e3 0 = .ok (.aload_n 0, 1) := by decide +kernel
theorem dJx4a65c_elementData_915e3_1 : decode cJx4a65c_elementData_915e3 1 = .ok (.getfield 9, 3) := by decide +kernel
theorem dJx4a65c_elementData_915e3_4 : decode cJx4a65c_elementData_915e3 4 = .ok (.iload_n 1, 1) := by decide +kernel
theorem dJx4a65c_elementData_915e3_5 : decode cJx4a65c_elementData_915e3 5 = .ok (.aaload, 1) := by decide +kernel
theorem dJx4a65c_elementData_915e3_6 : decode cJx4a65c_elementData_915e3 6 = .ok (.areturn, 1) := by decide +kernel
theorem dJx4a65c_get_915e3_0 : decode cJx4a65c_get_915e3 0 = .ok (.iload_n 1, 1) := by decide +kernel
theorem dJx4a65c_get_915e3_1 : decode cJx4a65c_get_915e3 1 = .ok (.aload_n 0, 1) := by decide +kernel
theorem dJx4a65c_get_915e3_2 : decode cJx4a65c_get_915e3 2 = .ok (.getfield 48, 3) := by decide +kernel
theorem dJx4a65c_get_915e3_5 : decode cJx4a65c_get_915e3 5 = .ok (.invokestatic 118, 3) := by decide +kernel
theorem dJx4a65c_get_915e3_8 : decode cJx4a65c_get_915e3 8 = .ok (.pop, 1) := by decide +kernel
theorem dJx4a65c_get_915e3_9 : decode cJx4a65c_get_915e3 9 = .ok (.aload_n 0, 1) := by decide +kernel
theorem dJx4a65c_get_915e3_10 : decode cJx4a65c_get_915e3 10 = .ok (.iload_n 1, 1) := by decide +kernel
theorem dJx4a65c_get_915e3_11 : decode cJx4a65c_get_915e3 11 = .ok (.invokevirtual 123, 3) := by decide +kernel
theorem dJx4a65c_get_915e3_14 : decode cJx4a65c_get_915e3 14 = .ok (.areturn, 1) := by decide +kernel
theorem dJx4a65c_add_72be8_0 : decode cJx4a65c_add_72be8 0 = .ok (.iload_n 3, 1) := by decide +kernel
theorem dJx4a65c_add_72be8_1 : decode cJx4a65c_add_72be8 1 = .ok (.aload_n 2, 1) := by decide +kernel
theorem dJx4a65c_add_72be8_2 : decode cJx4a65c_add_72be8 2 = .ok (.arraylength, 1) := by decide +kernel
theorem dJx4a65c_add_72be8_3 : decode cJx4a65c_add_72be8 3 = .ok (.if_icmp .ne 8, 3) := by decide +kernel
theorem dJx4a65c_add_72be8_6 : decode cJx4a65c_add_72be8 6 = .ok (.aload_n 0, 1) := by decide +kernel
theorem dJx4a65c_add_72be8_7 : decode cJx4a65c_add_72be8 7 = .ok (.invokevirtual 129, 3) := by decide +kernel
theorem dJx4a65c_add_72be8_10 : decode cJx4a65c_add_72be8 10 = .ok (.astore_n 2, 1) := by decide +kernel
theorem dJx4a65c_add_72be8_11 : decode cJx4a65c_add_72be8 11 = .ok (.aload_n 2, 1) := by decide +kernel
theorem dJx4a65c_add_72be8_12 : decode cJx4a65c_add_72be8 12 = .ok (.iload_n 3, 1) := by decide +kernel
theorem dJx4a65c_add_72be8_13 : decode cJx4a65c_add_72be8 13 = .ok (.aload_n 1, 1) := by decide +kernel
theorem dJx4a65c_add_72be8_14 : decode cJx4a65c_add_72be8 14 = .ok (.aastore, 1) := by decide +kernel
theorem dJx4a65c_add_72be8_15 : decode cJx4a65c_add_72be8 15 = .ok (.aload_n 0, 1) := by decide +kernel
theorem dJx4a65c_add_72be8_16 : decode cJx4a65c_add_72be8 16 = .ok (.iload_n 3, 1) := by decide +kernel
theorem dJx4a65c_add_72be8_17 : decode cJx4a65c_add_72be8 17 = .ok (.iconst 1, 1) := by decide +kernel
theorem dJx4a65c_add_72be8_18 : decode cJx4a65c_add_72be8 18 = .ok (.iadd, 1) := by decide +kernel
theorem dJx4a65c_add_72be8_19 : decode cJx4a65c_add_72be8 19 = .ok (.putfield 48, 3) := by decide +kernel
theorem dJx4a65c_add_72be8_22 : decode cJx4a65c_add_72be8 22 = .ok (.return_, 1) := by decide +kernel
theorem dJx4a65c_add_9ea2d_0 : decode cJx4a65c_add_9ea2d 0 = .ok (.aload_n 0, 1) := by decide +kernel
theorem dJx4a65c_add_9ea2d_1 : decode cJx4a65c_add_9ea2d 1 = .ok (.dup, 1) := by decide +kernel
theorem dJx4a65c_add_9ea2d_2 : decode cJx4a65c_add_9ea2d 2 = .ok (.getfield 63, 3) := by decide +kernel
theorem dJx4a65c_add_9ea2d_5 : decode cJx4a65c_add_9ea2d 5 = .ok (.iconst 1, 1) := by decide +kernel
theorem dJx4a65c_add_9ea2d_6 : decode cJx4a65c_add_9ea2d 6 = .ok (.iadd, 1) := by decide +kernel
theorem dJx4a65c_add_9ea2d_7 : decode cJx4a65c_add_9ea2d 7 = .ok (.putfield 63, 3) := by decide +kernel
theorem dJx4a65c_add_9ea2d_10 : decode cJx4a65c_add_9ea2d 10 = .ok (.aload_n 0, 1) := by decide +kernel
theorem dJx4a65c_add_9ea2d_11 : decode cJx4a65c_add_9ea2d 11 = .ok (.aload_n 1, 1) := by decide +kernel
theorem dJx4a65c_add_9ea2d_12 : decode cJx4a65c_add_9ea2d 12 = .ok (.aload_n 0, 1) := by decide +kernel
theorem dJx4a65c_add_9ea2d_13 : decode cJx4a65c_add_9ea2d 13 = .ok (.getfield 9, 3) := by decide +kernel
theorem dJx4a65c_add_9ea2d_16 : decode cJx4a65c_add_9ea2d 16 = .ok (.aload_n 0, 1) := by decide +kernel
theorem dJx4a65c_add_9ea2d_17 : decode cJx4a65c_add_9ea2d 17 = .ok (.getfield 48, 3) := by decide +kernel
theorem dJx4a65c_add_9ea2d_20 : decode cJx4a65c_add_9ea2d 20 = .ok (.invokevirtual 131, 3) := by decide +kernel
theorem dJx4a65c_add_9ea2d_23 : decode cJx4a65c_add_9ea2d 23 = .ok (.iconst 1, 1) := by decide +kernel
theorem dJx4a65c_add_9ea2d_24 : decode cJx4a65c_add_9ea2d 24 = .ok (.ireturn, 1) := by decide +kernel
theorem dJx4a65c_remove_915e3_0 : decode cJx4a65c_remove_915e3 0 = .ok (.iload_n 1, 1) := by decide +kernel
theorem dJx4a65c_remove_915e3_1 : decode cJx4a65c_remove_915e3 1 = .ok (.aload_n 0, 1) := by decide +kernel
theorem dJx4a65c_remove_915e3_2 : decode cJx4a65c_remove_915e3 2 = .ok (.getfield 48, 3) := by decide +kernel
theorem dJx4a65c_remove_915e3_5 : decode cJx4a65c_remove_915e3 5 = .ok (.invokestatic 118, 3) := by decide +kernel
theorem dJx4a65c_remove_915e3_8 : decode cJx4a65c_remove_915e3 8 = .ok (.pop, 1) := by decide +kernel
theorem dJx4a65c_remove_915e3_9 : decode cJx4a65c_remove_915e3 9 = .ok (.aload_n 0, 1) := by decide +kernel
theorem dJx4a65c_remove_915e3_10 : decode cJx4a65c_remove_915e3 10 = .ok (.getfield 9, 3) := by decide +kernel
theorem dJx4a65c_remove_915e3_13 : decode cJx4a65c_remove_915e3 13 = .ok (.astore_n 2, 1) := by decide +kernel
theorem dJx4a65c_remove_915e3_14 : decode cJx4a65c_remove_915e3 14 = .ok (.aload_n 2, 1) := by decide +kernel
theorem dJx4a65c_remove_915e3_15 : decode cJx4a65c_remove_915e3 15 = .ok (.iload_n 1, 1) := by decide +kernel
theorem dJx4a65c_remove_915e3_16 : decode cJx4a65c_remove_915e3 16 = .ok (.aaload, 1) := by decide +kernel
theorem dJx4a65c_remove_915e3_17 : decode cJx4a65c_remove_915e3 17 = .ok (.astore_n 3, 1) := by decide +kernel
theorem dJx4a65c_remove_915e3_18 : decode cJx4a65c_remove_915e3 18 = .ok (.aload_n 0, 1) := by decide +kernel
theorem dJx4a65c_remove_915e3_19 : decode cJx4a65c_remove_915e3 19 = .ok (.aload_n 2, 1) := by decide +kernel
theorem dJx4a65c_remove_915e3_20 : decode cJx4a65c_remove_915e3 20 = .ok (.iload_n 1, 1) := by decide +kernel
theorem dJx4a65c_remove_915e3_21 : decode cJx4a65c_remove_915e3 21 = .ok (.invokevirtual 144, 3) := by decide +kernel
theorem dJx4a65c_remove_915e3_24 : decode cJx4a65c_remove_915e3 24 = .ok (.aload_n 3, 1) := by decide +kernel
theorem dJx4a65c_remove_915e3_25 : decode cJx4a65c_remove_915e3 25 = .ok (.areturn, 1) := by decide +kernel
theorem dJx4a65c_fastRemove_b59b0_0 : decode cJx4a65c_fastRemove_b59b0 0 = .ok (.aload_n 0, 1) := by decide +kernel
theorem dJx4a65c_fastRemove_b59b0_1 : decode cJx4a65c_fastRemove_b59b0 1 = .ok (.dup, 1) := by decide +kernel
theorem dJx4a65c_fastRemove_b59b0_2 : decode cJx4a65c_fastRemove_b59b0 2 = .ok (.getfield 63, 3) := by decide +kernel
theorem dJx4a65c_fastRemove_b59b0_5 : decode cJx4a65c_fastRemove_b59b0 5 = .ok (.iconst 1, 1) := by decide +kernel
theorem dJx4a65c_fastRemove_b59b0_6 : decode cJx4a65c_fastRemove_b59b0 6 = .ok (.iadd, 1) := by decide +kernel
theorem dJx4a65c_fastRemove_b59b0_7 : decode cJx4a65c_fastRemove_b59b0 7 = .ok (.putfield 63, 3) := by decide +kernel
theorem dJx4a65c_fastRemove_b59b0_10 : decode cJx4a65c_fastRemove_b59b0 10 = .ok (.aload_n 0, 1) := by decide +kernel
theorem dJx4a65c_fastRemove_b59b0_11 : decode cJx4a65c_fastRemove_b59b0 11 = .ok (.getfield 48, 3) := by decide +kernel
theorem dJx4a65c_fastRemove_b59b0_14 : decode cJx4a65c_fastRemove_b59b0 14 = .ok (.iconst 1, 1) := by decide +kernel
theorem dJx4a65c_fastRemove_b59b0_15 : decode cJx4a65c_fastRemove_b59b0 15 = .ok (.isub, 1) := by decide +kernel
theorem dJx4a65c_fastRemove_b59b0_16 : decode cJx4a65c_fastRemove_b59b0 16 = .ok (.dup, 1) := by decide +kernel
theorem dJx4a65c_fastRemove_b59b0_17 : decode cJx4a65c_fastRemove_b59b0 17 = .ok (.istore_n 3, 1) := by decide +kernel
theorem dJx4a65c_fastRemove_b59b0_18 : decode cJx4a65c_fastRemove_b59b0 18 = .ok (.iload_n 2, 1) := by decide +kernel
theorem dJx4a65c_fastRemove_b59b0_19 : decode cJx4a65c_fastRemove_b59b0 19 = .ok (.if_icmp .le 15, 3) := by decide +kernel
theorem dJx4a65c_fastRemove_b59b0_22 : decode cJx4a65c_fastRemove_b59b0 22 = .ok (.aload_n 1, 1) := by decide +kernel
theorem dJx4a65c_fastRemove_b59b0_23 : decode cJx4a65c_fastRemove_b59b0 23 = .ok (.iload_n 2, 1) := by decide +kernel
theorem dJx4a65c_fastRemove_b59b0_24 : decode cJx4a65c_fastRemove_b59b0 24 = .ok (.iconst 1, 1) := by decide +kernel
theorem dJx4a65c_fastRemove_b59b0_25 : decode cJx4a65c_fastRemove_b59b0 25 = .ok (.iadd, 1) := by decide +kernel
theorem dJx4a65c_fastRemove_b59b0_26 : decode cJx4a65c_fastRemove_b59b0 26 = .ok (.aload_n 1, 1) := by decide +kernel
theorem dJx4a65c_fastRemove_b59b0_27 : decode cJx4a65c_fastRemove_b59b0 27 = .ok (.iload_n 2, 1) := by decide +kernel
theorem dJx4a65c_fastRemove_b59b0_28 : decode cJx4a65c_fastRemove_b59b0 28 = .ok (.iload_n 3, 1) := by decide +kernel
theorem dJx4a65c_fastRemove_b59b0_29 : decode cJx4a65c_fastRemove_b59b0 29 = .ok (.iload_n 2, 1) := by decide +kernel
theorem dJx4a65c_fastRemove_b59b0_30 : decode cJx4a65c_fastRemove_b59b0 30 = .ok (.isub, 1) := by decide +kernel
theorem dJx4a65c_fastRemove_b59b0_31 : decode cJx4a65c_fastRemove_b59b0 31 = .ok (.invokestatic 112, 3) := by decide +kernel
theorem dJx4a65c_fastRemove_b59b0_34 : decode cJx4a65c_fastRemove_b59b0 34 = .ok (.aload_n 1, 1) := by decide +kernel
theorem dJx4a65c_fastRemove_b59b0_35 : decode cJx4a65c_fastRemove_b59b0 35 = .ok (.aload_n 0, 1) := by decide +kernel
theorem dJx4a65c_fastRemove_b59b0_36 : decode cJx4a65c_fastRemove_b59b0 36 = .ok (.iload_n 3, 1) := by decide +kernel
theorem dJx4a65c_fastRemove_b59b0_37 : decode cJx4a65c_fastRemove_b59b0 37 = .ok (.dup_x1, 1) := by decide +kernel
theorem dJx4a65c_fastRemove_b59b0_38 : decode cJx4a65c_fastRemove_b59b0 38 = .ok (.putfield 48, 3) := by decide +kernel
theorem dJx4a65c_fastRemove_b59b0_41 : decode cJx4a65c_fastRemove_b59b0 41 = .ok (.aconst_null, 1) := by decide +kernel
theorem dJx4a65c_fastRemove_b59b0_42 : decode cJx4a65c_fastRemove_b59b0 42 = .ok (.aastore, 1) := by decide +kernel
theorem dJx4a65c_fastRemove_b59b0_43 : decode cJx4a65c_fastRemove_b59b0 43 = .ok (.return_, 1) := by decide +kernel
theorem dJ7_fill_53178_0 : decode cJ7_fill_53178 0 = .ok (.iconst 0, 1) := by decide +kernel
theorem dJ7_fill_53178_1 : decode cJ7_fill_53178 1 = .ok (.istore_n 2, 1) := by decide +kernel
theorem dJ7_fill_53178_2 : decode cJ7_fill_53178 2 = .ok (.aload_n 0, 1) := by decide +kernel
theorem dJ7_fill_53178_3 : decode cJ7_fill_53178 3 = .ok (.arraylength, 1) := by decide +kernel
theorem dJ7_fill_53178_4 : decode cJ7_fill_53178 4 = .ok (.istore_n 3, 1) := by decide +kernel
theorem dJ7_fill_53178_5 : decode cJ7_fill_53178 5 = .ok (.iload_n 2, 1) := by decide +kernel
theorem dJ7_fill_53178_6 : decode cJ7_fill_53178 6 = .ok (.iload_n 3, 1) := by decide +kernel
theorem dJ7_fill_53178_7 : decode cJ7_fill_53178 7 = .ok (.if_icmp .ge 13, 3) := by decide +kernel
theorem dJ7_fill_53178_10 : decode cJ7_fill_53178 10 = .ok (.aload_n 0, 1) := by decide +kernel
theorem dJ7_fill_53178_11 : decode cJ7_fill_53178 11 = .ok (.iload_n 2, 1) := by decide +kernel
theorem dJ7_fill_53178_12 : decode cJ7_fill_53178 12 = .ok (.iload_n 1, 1) := by decide +kernel
theorem dJ7_fill_53178_13 : decode cJ7_fill_53178 13 = .ok (.iastore, 1) := by decide +kernel
theorem dJ7_fill_53178_14 : decode cJ7_fill_53178 14 = .ok (.iinc 2 1, 3) := by decide +kernel
theorem dJ7_fill_53178_17 : decode cJ7_fill_53178 17 = .ok (.goto (-12), 3) := by decide +kernel
theorem dJ7_fill_53178_20 : decode cJ7_fill_53178 20 = .ok (.return_, 1) := by decide +kernel
theorem dJ7_copyOf_1904c_0 : decode cJ7_copyOf_1904c 0 = .ok (.aload_n 0, 1) := by decide +kernel
theorem dJ7_copyOf_1904c_1 : decode cJ7_copyOf_1904c 1 = .ok (.iload_n 1, 1) := by decide +kernel
theorem dJ7_copyOf_1904c_2 : decode cJ7_copyOf_1904c 2 = .ok (.aload_n 0, 1) := by decide +kernel
theorem dJ7_copyOf_1904c_3 : decode cJ7_copyOf_1904c 3 = .ok (.invokevirtual 86, 3) := by decide +kernel
theorem dJ7_copyOf_1904c_6 : decode cJ7_copyOf_1904c 6 = .ok (.invokestatic 300, 3) := by decide +kernel
theorem dJ7_copyOf_1904c_9 : decode cJ7_copyOf_1904c 9 = .ok (.areturn, 1) := by decide +kernel
theorem dJ7_copyOf_6403c_0 : decode cJ7_copyOf_6403c 0 = .ok (.aload_n 2, 1) := by decide +kernel
theorem dJ7_copyOf_6403c_1 : decode cJ7_copyOf_6403c 1 = .ok (.ldc 110, 2) := by decide +kernel
theorem dJ7_copyOf_6403c_3 : decode cJ7_copyOf_6403c 3 = .ok (.if_acmp .ne 10, 3) := by decide +kernel
theorem dJ7_copyOf_6403c_6 : decode cJ7_copyOf_6403c 6 = .ok (.iload_n 1, 1) := by decide +kernel
theorem dJ7_copyOf_6403c_7 : decode cJ7_copyOf_6403c 7 = .ok (.anewarray 2, 3) := by decide +kernel
theorem dJ7_copyOf_6403c_10 : decode cJ7_copyOf_6403c 10 = .ok (.goto 14, 3) := by decide +kernel
theorem dJ7_copyOf_6403c_13 : decode cJ7_copyOf_6403c 13 = .ok (.aload_n 2, 1) := by decide +kernel
theorem dJ7_copyOf_6403c_14 : decode cJ7_copyOf_6403c 14 = .ok (.invokevirtual 90, 3) := by decide +kernel
theorem dJ7_copyOf_6403c_17 : decode cJ7_copyOf_6403c 17 = .ok (.iload_n 1, 1) := by decide +kernel
theorem dJ7_copyOf_6403c_18 : decode cJ7_copyOf_6403c 18 = .ok (.invokestatic 95, 3) := by decide +kernel
theorem dJ7_copyOf_6403c_21 : decode cJ7_copyOf_6403c 21 = .ok (.checkcast 110, 3) := by decide +kernel
theorem dJ7_copyOf_6403c_24 : decode cJ7_copyOf_6403c 24 = .ok (.astore_n 3, 1) := by decide +kernel
theorem dJ7_copyOf_6403c_25 : decode cJ7_copyOf_6403c 25 = .ok (.aload_n 0, 1) := by decide +kernel
theorem dJ7_copyOf_6403c_26 : decode cJ7_copyOf_6403c 26 = .ok (.iconst 0, 1) := by decide +kernel
theorem dJ7_copyOf_6403c_27 : decode cJ7_copyOf_6403c 27 = .ok (.aload_n 3, 1) := by decide +kernel
theorem dJ7_copyOf_6403c_28 : decode cJ7_copyOf_6403c 28 = .ok (.iconst 0, 1) := by decide +kernel
theorem dJ7_copyOf_6403c_29 : decode cJ7_copyOf_6403c 29 = .ok (.aload_n 0, 1) := by decide +kernel
theorem dJ7_copyOf_6403c_30 : decode cJ7_copyOf_6403c 30 = .ok (.arraylength, 1) := by decide +kernel
theorem dJ7_copyOf_6403c_31 : decode cJ7_copyOf_6403c 31 = .ok (.iload_n 1, 1) := by decide +kernel
theorem dJ7_copyOf_6403c_32 : decode cJ7_copyOf_6403c 32 = .ok (.invokestatic 304, 3) := by decide +kernel
theorem dJ7_copyOf_6403c_35 : decode cJ7_copyOf_6403c 35 = .ok (.invokestatic 150, 3) := by decide +kernel
theorem dJ7_copyOf_6403c_38 : decode cJ7_copyOf_6403c 38 = .ok (.aload_n 3, 1) := by decide +kernel
theorem dJ7_copyOf_6403c_39 : decode cJ7_copyOf_6403c 39 = .ok (.areturn, 1) := by decide +kernel
theorem dJ15_checkIndex_7cf53_0 : decode cJ15_checkIndex_7cf53 0 = .ok (.iload_n 0, 1) := by decide +kernel
theorem dJ15_checkIndex_7cf53_1 : decode cJ15_checkIndex_7cf53 1 = .ok (.iload_n 1, 1) := by decide +kernel
theorem dJ15_checkIndex_7cf53_2 : decode cJ15_checkIndex_7cf53 2 = .ok (.aconst_null, 1) := by decide +kernel
theorem dJ15_checkIndex_7cf53_3 : decode cJ15_checkIndex_7cf53 3 = .ok (.invokestatic 105, 3) := by decide +kernel
theorem dJ15_checkIndex_7cf53_6 : decode cJ15_checkIndex_7cf53 6 = .ok (.ireturn, 1) := by decide +kernel
theorem dJ8_newLength_cabcc_0 : decode cJ8_newLength_cabcc 0 = .ok (.iload_n 0, 1) := by decide +kernel
theorem dJ8_newLength_cabcc_1 : decode cJ8_newLength_cabcc 1 = .ok (.iload_n 1, 1) := by decide +kernel
theorem dJ8_newLength_cabcc_2 : decode cJ8_newLength_cabcc 2 = .ok (.iload_n 2, 1) := by decide +kernel
theorem dJ8_newLength_cabcc_3 : decode cJ8_newLength_cabcc 3 = .ok (.invokestatic 194, 3) := by decide +kernel
theorem dJ8_newLength_cabcc_6 : decode cJ8_newLength_cabcc 6 = .ok (.iadd, 1) := by decide +kernel
theorem dJ8_newLength_cabcc_7 : decode cJ8_newLength_cabcc 7 = .ok (.istore_n 3, 1) := by decide +kernel
theorem dJ8_newLength_cabcc_8 : decode cJ8_newLength_cabcc 8 = .ok (.iconst 0, 1) := by decide +kernel
theorem dJ8_newLength_cabcc_9 : decode cJ8_newLength_cabcc 9 = .ok (.iload_n 3, 1) := by decide +kernel
theorem dJ8_newLength_cabcc_10 : decode cJ8_newLength_cabcc 10 = .ok (.if_icmp .ge 11, 3) := by decide +kernel
theorem dJ8_newLength_cabcc_13 : decode cJ8_newLength_cabcc 13 = .ok (.iload_n 3, 1) := by decide +kernel
theorem dJ8_newLength_cabcc_14 : decode cJ8_newLength_cabcc 14 = .ok (.ldc 200, 2) := by decide +kernel
theorem dJ8_newLength_cabcc_16 : decode cJ8_newLength_cabcc 16 = .ok (.if_icmp .gt 5, 3) := by decide +kernel
theorem dJ8_newLength_cabcc_19 : decode cJ8_newLength_cabcc 19 = .ok (.iload_n 3, 1) := by decide +kernel
theorem dJ8_newLength_cabcc_20 : decode cJ8_newLength_cabcc 20 = .ok (.ireturn, 1) := by decide +kernel
theorem dJ8_newLength_cabcc_21 : decode cJ8_newLength_cabcc 21 = .ok (.iload_n 0, 1) := by decide +kernel
theorem dJ8_newLength_cabcc_22 : decode cJ8_newLength_cabcc 22 = .ok (.iload_n 1, 1) := by decide +kernel
theorem dJ8_newLength_cabcc_23 : decode cJ8_newLength_cabcc 23 = .ok (.invokestatic 201, 3) := by decide +kernel
theorem dJ8_newLength_cabcc_26 : decode cJ8_newLength_cabcc 26 = .ok (.ireturn, 1) := by decide +kernel
theorem dJ8_hugeLength_7cf53_0 : decode cJ8_hugeLength_7cf53 0 = .ok (.iload_n 0, 1) := by decide +kernel
theorem dJ8_hugeLength_7cf53_1 : decode cJ8_hugeLength_7cf53 1 = .ok (.iload_n 1, 1) := by decide +kernel
theorem dJ8_hugeLength_7cf53_2 : decode cJ8_hugeLength_7cf53 2 = .ok (.iadd, 1) := by decide +kernel
theorem dJ8_hugeLength_7cf53_3 : decode cJ8_hugeLength_7cf53 3 = .ok (.istore_n 2, 1) := by decide +kernel
theorem dJ8_hugeLength_7cf53_4 : decode cJ8_hugeLength_7cf53 4 = .ok (.iload_n 2, 1) := by decide +kernel
theorem dJ8_hugeLength_7cf53_5 : decode cJ8_hugeLength_7cf53 5 = .ok (.ifCond .ge 44, 3) := by decide +kernel
theorem dJ8_hugeLength_7cf53_8 : decode cJ8_hugeLength_7cf53 8 = .ok (.new 204, 3) := by decide +kernel
theorem dJ8_hugeLength_7cf53_11 : decode cJ8_hugeLength_7cf53 11 = .ok (.dup, 1) := by decide +kernel
theorem dJ8_hugeLength_7cf53_12 : decode cJ8_hugeLength_7cf53 12 = .ok (.new 89, 3) := by decide +kernel
theorem dJ8_hugeLength_7cf53_15 : decode cJ8_hugeLength_7cf53 15 = .ok (.dup, 1) := by decide +kernel
theorem dJ8_hugeLength_7cf53_16 : decode cJ8_hugeLength_7cf53 16 = .ok (.invokespecial 91, 3) := by decide +kernel
theorem dJ8_hugeLength_7cf53_19 : decode cJ8_hugeLength_7cf53 19 = .ok (.ldc 206, 2) := by decide +kernel
theorem dJ8_hugeLength_7cf53_21 : decode cJ8_hugeLength_7cf53 21 = .ok (.invokevirtual 94, 3) := by decide +kernel
theorem dJ8_hugeLength_7cf53_24 : decode cJ8_hugeLength_7cf53 24 = .ok (.iload_n 0, 1) := by decide +kernel
theorem dJ8_hugeLength_7cf53_25 : decode cJ8_hugeLength_7cf53 25 = .ok (.invokevirtual 98, 3) := by decide +kernel
theorem dJ8_hugeLength_7cf53_28 : decode cJ8_hugeLength_7cf53 28 = .ok (.ldc 208, 2) := by decide +kernel
theorem dJ8_hugeLength_7cf53_30 : decode cJ8_hugeLength_7cf53 30 = .ok (.invokevirtual 94, 3) := by decide +kernel
theorem dJ8_hugeLength_7cf53_33 : decode cJ8_hugeLength_7cf53 33 = .ok (.iload_n 1, 1) := by decide +kernel
theorem dJ8_hugeLength_7cf53_34 : decode cJ8_hugeLength_7cf53 34 = .ok (.invokevirtual 98, 3) := by decide +kernel
theorem dJ8_hugeLength_7cf53_37 : decode cJ8_hugeLength_7cf53 37 = .ok (.ldc 210, 2) := by decide +kernel
theorem dJ8_hugeLength_7cf53_39 : decode cJ8_hugeLength_7cf53 39 = .ok (.invokevirtual 94, 3) := by decide +kernel
theorem dJ8_hugeLength_7cf53_42 : decode cJ8_hugeLength_7cf53 42 = .ok (.invokevirtual 101, 3) := by decide +kernel
theorem dJ8_hugeLength_7cf53_45 : decode cJ8_hugeLength_7cf53 45 = .ok (.invokespecial 212, 3) := by decide +kernel
theorem dJ8_hugeLength_7cf53_48 : decode cJ8_hugeLength_7cf53 48 = .ok (.athrow, 1) := by decide +kernel
theorem dJ8_hugeLength_7cf53_49 : decode cJ8_hugeLength_7cf53 49 = .ok (.iload_n 2, 1) := by decide +kernel
theorem dJ8_hugeLength_7cf53_50 : decode cJ8_hugeLength_7cf53 50 = .ok (.ldc 200, 2) := by decide +kernel
theorem dJ8_hugeLength_7cf53_52 : decode cJ8_hugeLength_7cf53 52 = .ok (.if_icmp .gt 6, 3) := by decide +kernel
theorem dJ8_hugeLength_7cf53_55 : decode cJ8_hugeLength_7cf53 55 = .ok (.ldc 200, 2) := by decide +kernel
theorem dJ8_hugeLength_7cf53_57 : decode cJ8_hugeLength_7cf53 57 = .ok (.ireturn, 1) := by decide +kernel
theorem dJ8_hugeLength_7cf53_58 : decode cJ8_hugeLength_7cf53 58 = .ok (.iload_n 2, 1) := by decide +kernel
theorem dJ8_hugeLength_7cf53_59 : decode cJ8_hugeLength_7cf53 59 = .ok (.ireturn, 1) := by decide +kernel
theorem dJ3_checkIndex_8e157_0 : decode cJ3_checkIndex_8e157 0 = .ok (.iload_n 0, 1) := by decide +kernel
theorem dJ3_checkIndex_8e157_1 : decode cJ3_checkIndex_8e157 1 = .ok (.ifCond .lt 8, 3) := by decide +kernel
theorem dJ3_checkIndex_8e157_4 : decode cJ3_checkIndex_8e157 4 = .ok (.iload_n 0, 1) := by decide +kernel
theorem dJ3_checkIndex_8e157_5 : decode cJ3_checkIndex_8e157 5 = .ok (.iload_n 1, 1) := by decide +kernel
theorem dJ3_checkIndex_8e157_6 : decode cJ3_checkIndex_8e157 6 = .ok (.if_icmp .lt 10, 3) := by decide +kernel
theorem dJ3_checkIndex_8e157_9 : decode cJ3_checkIndex_8e157 9 = .ok (.aload_n 2, 1) := by decide +kernel
theorem dJ3_checkIndex_8e157_10 : decode cJ3_checkIndex_8e157 10 = .ok (.iload_n 0, 1) := by decide +kernel
theorem dJ3_checkIndex_8e157_11 : decode cJ3_checkIndex_8e157 11 = .ok (.iload_n 1, 1) := by decide +kernel
theorem dJ3_checkIndex_8e157_12 : decode cJ3_checkIndex_8e157 12 = .ok (.invokestatic 95, 3) := by decide +kernel
theorem dJ3_checkIndex_8e157_15 : decode cJ3_checkIndex_8e157 15 = .ok (.athrow, 1) := by decide +kernel
theorem dJ3_checkIndex_8e157_16 : decode cJ3_checkIndex_8e157 16 = .ok (.iload_n 0, 1) := by decide +kernel
theorem dJ3_checkIndex_8e157_17 : decode cJ3_checkIndex_8e157 17 = .ok (.ireturn, 1) := by decide +kernel
theorem dL_garden_0 : decode cL_garden 0 = .ok (.aload_n 3, 1) := by decide +kernel
theorem dL_garden_1 : decode cL_garden 1 = .ok (.iconst 0, 1) := by decide +kernel
theorem dL_garden_2 : decode cL_garden 2 = .ok (.aload_n 0, 1) := by decide +kernel
theorem dL_garden_3 : decode cL_garden 3 = .ok (.iload_n 1, 1) := by decide +kernel
theorem dL_garden_4 : decode cL_garden 4 = .ok (.iload_n 2, 1) := by decide +kernel
theorem dL_garden_5 : decode cL_garden 5 = .ok (.invokevirtual 7, 3) := by decide +kernel
theorem dL_garden_8 : decode cL_garden 8 = .ok (.i2l, 1) := by decide +kernel
theorem dL_garden_9 : decode cL_garden 9 = .ok (.lastore, 1) := by decide +kernel
theorem dL_garden_10 : decode cL_garden 10 = .ok (.goto 7, 3) := by decide +kernel
theorem dL_garden_13 : decode cL_garden 13 = .ok (.astore 4, 2) := by decide +kernel
theorem dL_garden_15 : decode cL_garden 15 = .ok (.iconst 1, 1) := by decide +kernel
theorem dL_garden_16 : decode cL_garden 16 = .ok (.ireturn, 1) := by decide +kernel
theorem dL_garden_17 : decode cL_garden 17 = .ok (.iconst 0, 1) := by decide +kernel
theorem dL_garden_18 : decode cL_garden 18 = .ok (.ireturn, 1) := by decide +kernel
theorem dL_pond_0 : decode cL_pond 0 = .ok (.aload_n 3, 1) := by decide +kernel
theorem dL_pond_1 : decode cL_pond 1 = .ok (.iconst 0, 1) := by decide +kernel
theorem dL_pond_2 : decode cL_pond 2 = .ok (.aload_n 0, 1) := by decide +kernel
theorem dL_pond_3 : decode cL_pond 3 = .ok (.iload_n 1, 1) := by decide +kernel
theorem dL_pond_4 : decode cL_pond 4 = .ok (.iload_n 2, 1) := by decide +kernel
theorem dL_pond_5 : decode cL_pond 5 = .ok (.invokevirtual 15, 3) := by decide +kernel
theorem dL_pond_8 : decode cL_pond 8 = .ok (.i2l, 1) := by decide +kernel
theorem dL_pond_9 : decode cL_pond 9 = .ok (.lastore, 1) := by decide +kernel
theorem dL_pond_10 : decode cL_pond 10 = .ok (.goto 11, 3) := by decide +kernel
theorem dL_pond_13 : decode cL_pond 13 = .ok (.astore 4, 2) := by decide +kernel
theorem dL_pond_15 : decode cL_pond 15 = .ok (.iconst 1, 1) := by decide +kernel
theorem dL_pond_16 : decode cL_pond 16 = .ok (.ireturn, 1) := by decide +kernel
theorem dL_pond_17 : decode cL_pond 17 = .ok (.astore 4, 2) := by decide +kernel
theorem dL_pond_19 : decode cL_pond 19 = .ok (.iconst 2, 1) := by decide +kernel
theorem dL_pond_20 : decode cL_pond 20 = .ok (.ireturn, 1) := by decide +kernel
theorem dL_pond_21 : decode cL_pond 21 = .ok (.iconst 0, 1) := by decide +kernel
theorem dL_pond_22 : decode cL_pond 22 = .ok (.ireturn, 1) := by decide +kernel
theorem dL_wall_0 : decode cL_wall 0 = .ok (.aload_n 3, 1) := by decide +kernel
theorem dL_wall_1 : decode cL_wall 1 = .ok (.iconst 0, 1) := by decide +kernel
theorem dL_wall_2 : decode cL_wall 2 = .ok (.aload_n 0, 1) := by decide +kernel
theorem dL_wall_3 : decode cL_wall 3 = .ok (.iload_n 1, 1) := by decide +kernel
theorem dL_wall_4 : decode cL_wall 4 = .ok (.iload_n 2, 1) := by decide +kernel
theorem dL_wall_5 : decode cL_wall 5 = .ok (.invokevirtual 22, 3) := by decide +kernel
theorem dL_wall_8 : decode cL_wall 8 = .ok (.i2l, 1) := by decide +kernel
theorem dL_wall_9 : decode cL_wall 9 = .ok (.lastore, 1) := by decide +kernel
theorem dL_wall_10 : decode cL_wall 10 = .ok (.goto 11, 3) := by decide +kernel
theorem dL_wall_13 : decode cL_wall 13 = .ok (.astore 4, 2) := by decide +kernel
theorem dL_wall_15 : decode cL_wall 15 = .ok (.iconst 1, 1) := by decide +kernel
theorem dL_wall_16 : decode cL_wall 16 = .ok (.ireturn, 1) := by decide +kernel
theorem dL_wall_17 : decode cL_wall 17 = .ok (.astore 4, 2) := by decide +kernel
theorem dL_wall_19 : decode cL_wall 19 = .ok (.iconst 2, 1) := by decide +kernel
theorem dL_wall_20 : decode cL_wall 20 = .ok (.ireturn, 1) := by decide +kernel
theorem dL_wall_21 : decode cL_wall 21 = .ok (.iconst 0, 1) := by decide +kernel
theorem dL_wall_22 : decode cL_wall 22 = .ok (.ireturn, 1) := by decide +kernel
theorem dL_lay_0 : decode cL_lay 0 = .ok (.aload 4, 2) := by decide +kernel
theorem dL_lay_2 : decode cL_lay 2 = .ok (.iconst 0, 1) := by decide +kernel
theorem dL_lay_3 : decode cL_lay 3 = .ok (.aload_n 0, 1) := by decide +kernel
theorem dL_lay_4 : decode cL_lay 4 = .ok (.iload_n 1, 1) := by decide +kernel
theorem dL_lay_5 : decode cL_lay 5 = .ok (.iload_n 2, 1) := by decide +kernel
theorem dL_lay_6 : decode cL_lay 6 = .ok (.iload_n 3, 1) := by decide +kernel
theorem dL_lay_7 : decode cL_lay 7 = .ok (.invokevirtual 25, 3) := by decide +kernel
theorem dL_lay_10 : decode cL_lay 10 = .ok (.i2l, 1) := by decide +kernel
theorem dL_lay_11 : decode cL_lay 11 = .ok (.lastore, 1) := by decide +kernel
theorem dL_lay_12 : decode cL_lay 12 = .ok (.goto 7, 3) := by decide +kernel
theorem dL_lay_15 : decode cL_lay 15 = .ok (.astore 5, 2) := by decide +kernel
theorem dL_lay_17 : decode cL_lay 17 = .ok (.iconst 1, 1) := by decide +kernel
theorem dL_lay_18 : decode cL_lay 18 = .ok (.ireturn, 1) := by decide +kernel
theorem dL_lay_19 : decode cL_lay 19 = .ok (.iconst 0, 1) := by decide +kernel
theorem dL_lay_20 : decode cL_lay 20 = .ok (.ireturn, 1) := by decide +kernel
theorem dL_lift_0 : decode cL_lift 0 = .ok (.aload_n 3, 1) := by decide +kernel
theorem dL_lift_1 : decode cL_lift 1 = .ok (.iconst 0, 1) := by decide +kernel
theorem dL_lift_2 : decode cL_lift 2 = .ok (.aload_n 0, 1) := by decide +kernel
theorem dL_lift_3 : decode cL_lift 3 = .ok (.iload_n 1, 1) := by decide +kernel
theorem dL_lift_4 : decode cL_lift 4 = .ok (.iload_n 2, 1) := by decide +kernel
theorem dL_lift_5 : decode cL_lift 5 = .ok (.invokevirtual 29, 3) := by decide +kernel
theorem dL_lift_8 : decode cL_lift 8 = .ok (.i2l, 1) := by decide +kernel
theorem dL_lift_9 : decode cL_lift 9 = .ok (.lastore, 1) := by decide +kernel
theorem dL_lift_10 : decode cL_lift 10 = .ok (.goto 11, 3) := by decide +kernel
theorem dL_lift_13 : decode cL_lift 13 = .ok (.astore 4, 2) := by decide +kernel
theorem dL_lift_15 : decode cL_lift 15 = .ok (.iconst 1, 1) := by decide +kernel
theorem dL_lift_16 : decode cL_lift 16 = .ok (.ireturn, 1) := by decide +kernel
theorem dL_lift_17 : decode cL_lift 17 = .ok (.astore 4, 2) := by decide +kernel
theorem dL_lift_19 : decode cL_lift 19 = .ok (.iconst 2, 1) := by decide +kernel
theorem dL_lift_20 : decode cL_lift 20 = .ok (.ireturn, 1) := by decide +kernel
theorem dL_lift_21 : decode cL_lift 21 = .ok (.iconst 0, 1) := by decide +kernel
theorem dL_lift_22 : decode cL_lift 22 = .ok (.ireturn, 1) := by decide +kernel
theorem dL_flip_0 : decode cL_flip 0 = .ok (.aload 4, 2) := by decide +kernel
theorem dL_flip_2 : decode cL_flip 2 = .ok (.iconst 0, 1) := by decide +kernel
theorem dL_flip_3 : decode cL_flip 3 = .ok (.aload_n 0, 1) := by decide +kernel
theorem dL_flip_4 : decode cL_flip 4 = .ok (.iload_n 1, 1) := by decide +kernel
theorem dL_flip_5 : decode cL_flip 5 = .ok (.iload_n 2, 1) := by decide +kernel
theorem dL_flip_6 : decode cL_flip 6 = .ok (.iload_n 3, 1) := by decide +kernel
theorem dL_flip_7 : decode cL_flip 7 = .ok (.invokevirtual 32, 3) := by decide +kernel
theorem dL_flip_10 : decode cL_flip 10 = .ok (.i2l, 1) := by decide +kernel
theorem dL_flip_11 : decode cL_flip 11 = .ok (.lastore, 1) := by decide +kernel
theorem dL_flip_12 : decode cL_flip 12 = .ok (.goto 11, 3) := by decide +kernel
theorem dL_flip_15 : decode cL_flip 15 = .ok (.astore 5, 2) := by decide +kernel
theorem dL_flip_17 : decode cL_flip 17 = .ok (.iconst 1, 1) := by decide +kernel
theorem dL_flip_18 : decode cL_flip 18 = .ok (.ireturn, 1) := by decide +kernel
theorem dL_flip_19 : decode cL_flip 19 = .ok (.astore 5, 2) := by decide +kernel
theorem dL_flip_21 : decode cL_flip 21 = .ok (.iconst 2, 1) := by decide +kernel
theorem dL_flip_22 : decode cL_flip 22 = .ok (.ireturn, 1) := by decide +kernel
theorem dL_flip_23 : decode cL_flip 23 = .ok (.iconst 0, 1) := by decide +kernel
theorem dL_flip_24 : decode cL_flip 24 = .ok (.ireturn, 1) := by decide +kernel
theorem dL_fill_0 : decode cL_fill 0 = .ok (.aload_n 1, 1) := by decide +kernel
theorem dL_fill_1 : decode cL_fill 1 = .ok (.iconst 0, 1) := by decide +kernel
theorem dL_fill_2 : decode cL_fill 2 = .ok (.aload_n 0, 1) := by decide +kernel
theorem dL_fill_3 : decode cL_fill 3 = .ok (.invokevirtual 36, 3) := by decide +kernel
theorem dL_fill_6 : decode cL_fill 6 = .ok (.i2l, 1) := by decide +kernel
theorem dL_fill_7 : decode cL_fill 7 = .ok (.lastore, 1) := by decide +kernel
theorem dL_fill_8 : decode cL_fill 8 = .ok (.goto 6, 3) := by decide +kernel
theorem dL_fill_11 : decode cL_fill 11 = .ok (.astore_n 2, 1) := by decide +kernel
theorem dL_fill_12 : decode cL_fill 12 = .ok (.iconst 1, 1) := by decide +kernel
theorem dL_fill_13 : decode cL_fill 13 = .ok (.ireturn, 1) := by decide +kernel
theorem dL_fill_14 : decode cL_fill 14 = .ok (.iconst 0, 1) := by decide +kernel
theorem dL_fill_15 : decode cL_fill 15 = .ok (.ireturn, 1) := by decide +kernel
theorem dL_halve_0 : decode cL_halve 0 = .ok (.aload_n 1, 1) := by decide +kernel
theorem dL_halve_1 : decode cL_halve 1 = .ok (.iconst 0, 1) := by decide +kernel
theorem dL_halve_2 : decode cL_halve 2 = .ok (.aload_n 0, 1) := by decide +kernel
theorem dL_halve_3 : decode cL_halve 3 = .ok (.invokevirtual 40, 3) := by decide +kernel
theorem dL_halve_6 : decode cL_halve 6 = .ok (.i2l, 1) := by decide +kernel
theorem dL_halve_7 : decode cL_halve 7 = .ok (.lastore, 1) := by decide +kernel
theorem dL_halve_8 : decode cL_halve 8 = .ok (.goto 6, 3) := by decide +kernel
theorem dL_halve_11 : decode cL_halve 11 = .ok (.astore_n 2, 1) := by decide +kernel
theorem dL_halve_12 : decode cL_halve 12 = .ok (.iconst 1, 1) := by decide +kernel
theorem dL_halve_13 : decode cL_halve 13 = .ok (.ireturn, 1) := by decide +kernel
theorem dL_halve_14 : decode cL_halve 14 = .ok (.iconst 0, 1) := by decide +kernel
theorem dL_halve_15 : decode cL_halve 15 = .ok (.ireturn, 1) := by decide +kernel
theorem dL_append_0 : decode cL_append 0 = .ok (.aload_n 2, 1) := by decide +kernel
theorem dL_append_1 : decode cL_append 1 = .ok (.iconst 0, 1) := by decide +kernel
theorem dL_append_2 : decode cL_append 2 = .ok (.aload_n 0, 1) := by decide +kernel
theorem dL_append_3 : decode cL_append 3 = .ok (.iload_n 1, 1) := by decide +kernel
theorem dL_append_4 : decode cL_append 4 = .ok (.invokevirtual 43, 3) := by decide +kernel
theorem dL_append_7 : decode cL_append 7 = .ok (.i2l, 1) := by decide +kernel
theorem dL_append_8 : decode cL_append 8 = .ok (.lastore, 1) := by decide +kernel
theorem dL_append_9 : decode cL_append 9 = .ok (.goto 9, 3) := by decide +kernel
theorem dL_append_12 : decode cL_append 12 = .ok (.astore_n 3, 1) := by decide +kernel
theorem dL_append_13 : decode cL_append 13 = .ok (.iconst 1, 1) := by decide +kernel
theorem dL_append_14 : decode cL_append 14 = .ok (.ireturn, 1) := by decide +kernel
theorem dL_append_15 : decode cL_append 15 = .ok (.astore_n 3, 1) := by decide +kernel
theorem dL_append_16 : decode cL_append 16 = .ok (.iconst 2, 1) := by decide +kernel
theorem dL_append_17 : decode cL_append 17 = .ok (.ireturn, 1) := by decide +kernel
theorem dL_append_18 : decode cL_append 18 = .ok (.iconst 0, 1) := by decide +kernel
theorem dL_append_19 : decode cL_append 19 = .ok (.ireturn, 1) := by decide +kernel
theorem dL_load_0 : decode cL_load 0 = .ok (.aload_n 1, 1) := by decide +kernel
theorem dL_load_1 : decode cL_load 1 = .ok (.iconst 0, 1) := by decide +kernel
theorem dL_load_2 : decode cL_load 2 = .ok (.aload_n 0, 1) := by decide +kernel
theorem dL_load_3 : decode cL_load 3 = .ok (.invokevirtual 47, 3) := by decide +kernel
theorem dL_load_6 : decode cL_load 6 = .ok (.i2l, 1) := by decide +kernel
theorem dL_load_7 : decode cL_load 7 = .ok (.lastore, 1) := by decide +kernel
theorem dL_load_8 : decode cL_load 8 = .ok (.goto 6, 3) := by decide +kernel
theorem dL_load_11 : decode cL_load 11 = .ok (.astore_n 2, 1) := by decide +kernel
theorem dL_load_12 : decode cL_load 12 = .ok (.iconst 1, 1) := by decide +kernel
theorem dL_load_13 : decode cL_load 13 = .ok (.ireturn, 1) := by decide +kernel
theorem dL_load_14 : decode cL_load 14 = .ok (.iconst 0, 1) := by decide +kernel
theorem dL_load_15 : decode cL_load 15 = .ok (.ireturn, 1) := by decide +kernel
theorem dL_keep_0 : decode cL_keep 0 = .ok (.aload_n 2, 1) := by decide +kernel
theorem dL_keep_1 : decode cL_keep 1 = .ok (.iconst 0, 1) := by decide +kernel
theorem dL_keep_2 : decode cL_keep 2 = .ok (.aload_n 0, 1) := by decide +kernel
theorem dL_keep_3 : decode cL_keep 3 = .ok (.iload_n 1, 1) := by decide +kernel
theorem dL_keep_4 : decode cL_keep 4 = .ok (.invokevirtual 50, 3) := by decide +kernel
theorem dL_keep_7 : decode cL_keep 7 = .ok (.i2l, 1) := by decide +kernel
theorem dL_keep_8 : decode cL_keep 8 = .ok (.lastore, 1) := by decide +kernel
theorem dL_keep_9 : decode cL_keep 9 = .ok (.goto 6, 3) := by decide +kernel
theorem dL_keep_12 : decode cL_keep 12 = .ok (.astore_n 3, 1) := by decide +kernel
theorem dL_keep_13 : decode cL_keep 13 = .ok (.iconst 1, 1) := by decide +kernel
theorem dL_keep_14 : decode cL_keep 14 = .ok (.ireturn, 1) := by decide +kernel
theorem dL_keep_15 : decode cL_keep 15 = .ok (.iconst 0, 1) := by decide +kernel
theorem dL_keep_16 : decode cL_keep 16 = .ok (.ireturn, 1) := by decide +kernel
theorem dL_goBack_0 : decode cL_goBack 0 = .ok (.aload_n 2, 1) := by decide +kernel
theorem dL_goBack_1 : decode cL_goBack 1 = .ok (.iconst 0, 1) := by decide +kernel
theorem dL_goBack_2 : decode cL_goBack 2 = .ok (.aload_n 0, 1) := by decide +kernel
theorem dL_goBack_3 : decode cL_goBack 3 = .ok (.iload_n 1, 1) := by decide +kernel
theorem dL_goBack_4 : decode cL_goBack 4 = .ok (.invokevirtual 53, 3) := by decide +kernel
theorem dL_goBack_7 : decode cL_goBack 7 = .ok (.i2l, 1) := by decide +kernel
theorem dL_goBack_8 : decode cL_goBack 8 = .ok (.lastore, 1) := by decide +kernel
theorem dL_goBack_9 : decode cL_goBack 9 = .ok (.goto 9, 3) := by decide +kernel
theorem dL_goBack_12 : decode cL_goBack 12 = .ok (.astore_n 3, 1) := by decide +kernel
theorem dL_goBack_13 : decode cL_goBack 13 = .ok (.iconst 1, 1) := by decide +kernel
theorem dL_goBack_14 : decode cL_goBack 14 = .ok (.ireturn, 1) := by decide +kernel
theorem dL_goBack_15 : decode cL_goBack 15 = .ok (.astore_n 3, 1) := by decide +kernel
theorem dL_goBack_16 : decode cL_goBack 16 = .ok (.iconst 2, 1) := by decide +kernel
theorem dL_goBack_17 : decode cL_goBack 17 = .ok (.ireturn, 1) := by decide +kernel
theorem dL_goBack_18 : decode cL_goBack 18 = .ok (.iconst 0, 1) := by decide +kernel
theorem dL_goBack_19 : decode cL_goBack 19 = .ok (.ireturn, 1) := by decide +kernel
theorem dL_undo_0 : decode cL_undo 0 = .ok (.aload_n 1, 1) := by decide +kernel
theorem dL_undo_1 : decode cL_undo 1 = .ok (.iconst 0, 1) := by decide +kernel
theorem dL_undo_2 : decode cL_undo 2 = .ok (.aload_n 0, 1) := by decide +kernel
theorem dL_undo_3 : decode cL_undo 3 = .ok (.invokevirtual 56, 3) := by decide +kernel
theorem dL_undo_6 : decode cL_undo 6 = .ok (.i2l, 1) := by decide +kernel
theorem dL_undo_7 : decode cL_undo 7 = .ok (.lastore, 1) := by decide +kernel
theorem dL_undo_8 : decode cL_undo 8 = .ok (.goto 6, 3) := by decide +kernel
theorem dL_undo_11 : decode cL_undo 11 = .ok (.astore_n 2, 1) := by decide +kernel
theorem dL_undo_12 : decode cL_undo 12 = .ok (.iconst 1, 1) := by decide +kernel
theorem dL_undo_13 : decode cL_undo 13 = .ok (.ireturn, 1) := by decide +kernel
theorem dL_undo_14 : decode cL_undo 14 = .ok (.iconst 0, 1) := by decide +kernel
theorem dL_undo_15 : decode cL_undo 15 = .ok (.ireturn, 1) := by decide +kernel
theorem dL_cell_0 : decode cL_cell 0 = .ok (.aload 4, 2) := by decide +kernel
theorem dL_cell_2 : decode cL_cell 2 = .ok (.iconst 0, 1) := by decide +kernel
theorem dL_cell_3 : decode cL_cell 3 = .ok (.aload_n 0, 1) := by decide +kernel
theorem dL_cell_4 : decode cL_cell 4 = .ok (.iload_n 1, 1) := by decide +kernel
theorem dL_cell_5 : decode cL_cell 5 = .ok (.iload_n 2, 1) := by decide +kernel
theorem dL_cell_6 : decode cL_cell 6 = .ok (.iload_n 3, 1) := by decide +kernel
theorem dL_cell_7 : decode cL_cell 7 = .ok (.invokevirtual 59, 3) := by decide +kernel
theorem dL_cell_10 : decode cL_cell 10 = .ok (.i2l, 1) := by decide +kernel
theorem dL_cell_11 : decode cL_cell 11 = .ok (.lastore, 1) := by decide +kernel
theorem dL_cell_12 : decode cL_cell 12 = .ok (.goto 11, 3) := by decide +kernel
theorem dL_cell_15 : decode cL_cell 15 = .ok (.astore 5, 2) := by decide +kernel
theorem dL_cell_17 : decode cL_cell 17 = .ok (.iconst 1, 1) := by decide +kernel
theorem dL_cell_18 : decode cL_cell 18 = .ok (.ireturn, 1) := by decide +kernel
theorem dL_cell_19 : decode cL_cell 19 = .ok (.astore 5, 2) := by decide +kernel
theorem dL_cell_21 : decode cL_cell 21 = .ok (.iconst 2, 1) := by decide +kernel
theorem dL_cell_22 : decode cL_cell 22 = .ok (.ireturn, 1) := by decide +kernel
theorem dL_cell_23 : decode cL_cell 23 = .ok (.iconst 0, 1) := by decide +kernel
theorem dL_cell_24 : decode cL_cell 24 = .ok (.ireturn, 1) := by decide +kernel
theorem dL_triple_0 : decode cL_triple 0 = .ok (.aload_n 3, 1) := by decide +kernel
theorem dL_triple_1 : decode cL_triple 1 = .ok (.iconst 0, 1) := by decide +kernel
theorem dL_triple_2 : decode cL_triple 2 = .ok (.aload_n 0, 1) := by decide +kernel
theorem dL_triple_3 : decode cL_triple 3 = .ok (.iload_n 1, 1) := by decide +kernel
theorem dL_triple_4 : decode cL_triple 4 = .ok (.iload_n 2, 1) := by decide +kernel
theorem dL_triple_5 : decode cL_triple 5 = .ok (.invokevirtual 62, 3) := by decide +kernel
theorem dL_triple_8 : decode cL_triple 8 = .ok (.i2l, 1) := by decide +kernel
theorem dL_triple_9 : decode cL_triple 9 = .ok (.lastore, 1) := by decide +kernel
theorem dL_triple_10 : decode cL_triple 10 = .ok (.goto 11, 3) := by decide +kernel
theorem dL_triple_13 : decode cL_triple 13 = .ok (.astore 4, 2) := by decide +kernel
theorem dL_triple_15 : decode cL_triple 15 = .ok (.iconst 1, 1) := by decide +kernel
theorem dL_triple_16 : decode cL_triple 16 = .ok (.ireturn, 1) := by decide +kernel
theorem dL_triple_17 : decode cL_triple 17 = .ok (.astore 4, 2) := by decide +kernel
theorem dL_triple_19 : decode cL_triple 19 = .ok (.iconst 2, 1) := by decide +kernel
theorem dL_triple_20 : decode cL_triple 20 = .ok (.ireturn, 1) := by decide +kernel
theorem dL_triple_21 : decode cL_triple 21 = .ok (.iconst 0, 1) := by decide +kernel
theorem dL_triple_22 : decode cL_triple 22 = .ok (.ireturn, 1) := by decide +kernel
theorem dL_row_0 : decode cL_row 0 = .ok (.aload_n 3, 1) := by decide +kernel
theorem dL_row_1 : decode cL_row 1 = .ok (.iconst 0, 1) := by decide +kernel
theorem dL_row_2 : decode cL_row 2 = .ok (.aload_n 0, 1) := by decide +kernel
theorem dL_row_3 : decode cL_row 3 = .ok (.iload_n 1, 1) := by decide +kernel
theorem dL_row_4 : decode cL_row 4 = .ok (.iload_n 2, 1) := by decide +kernel
theorem dL_row_5 : decode cL_row 5 = .ok (.invokevirtual 65, 3) := by decide +kernel
theorem dL_row_8 : decode cL_row 8 = .ok (.i2l, 1) := by decide +kernel
theorem dL_row_9 : decode cL_row 9 = .ok (.lastore, 1) := by decide +kernel
theorem dL_row_10 : decode cL_row 10 = .ok (.goto 11, 3) := by decide +kernel
theorem dL_row_13 : decode cL_row 13 = .ok (.astore 4, 2) := by decide +kernel
theorem dL_row_15 : decode cL_row 15 = .ok (.iconst 1, 1) := by decide +kernel
theorem dL_row_16 : decode cL_row 16 = .ok (.ireturn, 1) := by decide +kernel
theorem dL_row_17 : decode cL_row 17 = .ok (.astore 4, 2) := by decide +kernel
theorem dL_row_19 : decode cL_row 19 = .ok (.iconst 2, 1) := by decide +kernel
theorem dL_row_20 : decode cL_row 20 = .ok (.ireturn, 1) := by decide +kernel
theorem dL_row_21 : decode cL_row 21 = .ok (.iconst 0, 1) := by decide +kernel
theorem dL_row_22 : decode cL_row 22 = .ok (.ireturn, 1) := by decide +kernel
theorem dL_count_0 : decode cL_count 0 = .ok (.aload_n 2, 1) := by decide +kernel
theorem dL_count_1 : decode cL_count 1 = .ok (.iconst 0, 1) := by decide +kernel
theorem dL_count_2 : decode cL_count 2 = .ok (.aload_n 0, 1) := by decide +kernel
theorem dL_count_3 : decode cL_count 3 = .ok (.iload_n 1, 1) := by decide +kernel
theorem dL_count_4 : decode cL_count 4 = .ok (.invokevirtual 68, 3) := by decide +kernel
theorem dL_count_7 : decode cL_count 7 = .ok (.i2l, 1) := by decide +kernel
theorem dL_count_8 : decode cL_count 8 = .ok (.lastore, 1) := by decide +kernel
theorem dL_count_9 : decode cL_count 9 = .ok (.goto 6, 3) := by decide +kernel
theorem dL_count_12 : decode cL_count 12 = .ok (.astore_n 3, 1) := by decide +kernel
theorem dL_count_13 : decode cL_count 13 = .ok (.iconst 1, 1) := by decide +kernel
theorem dL_count_14 : decode cL_count 14 = .ok (.ireturn, 1) := by decide +kernel
theorem dL_count_15 : decode cL_count 15 = .ok (.iconst 0, 1) := by decide +kernel
theorem dL_count_16 : decode cL_count 16 = .ok (.ireturn, 1) := by decide +kernel
theorem dL_whyNot_0 : decode cL_whyNot 0 = .ok (.aload 4, 2) := by decide +kernel
theorem dL_whyNot_2 : decode cL_whyNot 2 = .ok (.iconst 0, 1) := by decide +kernel
theorem dL_whyNot_3 : decode cL_whyNot 3 = .ok (.aload_n 0, 1) := by decide +kernel
theorem dL_whyNot_4 : decode cL_whyNot 4 = .ok (.iload_n 1, 1) := by decide +kernel
theorem dL_whyNot_5 : decode cL_whyNot 5 = .ok (.iload_n 2, 1) := by decide +kernel
theorem dL_whyNot_6 : decode cL_whyNot 6 = .ok (.iload_n 3, 1) := by decide +kernel
theorem dL_whyNot_7 : decode cL_whyNot 7 = .ok (.invokevirtual 71, 3) := by decide +kernel
theorem dL_whyNot_10 : decode cL_whyNot 10 = .ok (.i2l, 1) := by decide +kernel
theorem dL_whyNot_11 : decode cL_whyNot 11 = .ok (.lastore, 1) := by decide +kernel
theorem dL_whyNot_12 : decode cL_whyNot 12 = .ok (.goto 7, 3) := by decide +kernel
theorem dL_whyNot_15 : decode cL_whyNot 15 = .ok (.astore 5, 2) := by decide +kernel
theorem dL_whyNot_17 : decode cL_whyNot 17 = .ok (.iconst 1, 1) := by decide +kernel
theorem dL_whyNot_18 : decode cL_whyNot 18 = .ok (.ireturn, 1) := by decide +kernel
theorem dL_whyNot_19 : decode cL_whyNot 19 = .ok (.iconst 0, 1) := by decide +kernel
theorem dL_whyNot_20 : decode cL_whyNot 20 = .ok (.ireturn, 1) := by decide +kernel
theorem dL_waysWith_0 : decode cL_waysWith 0 = .ok (.aload 4, 2) := by decide +kernel
theorem dL_waysWith_2 : decode cL_waysWith 2 = .ok (.iconst 0, 1) := by decide +kernel
theorem dL_waysWith_3 : decode cL_waysWith 3 = .ok (.aload_n 0, 1) := by decide +kernel
theorem dL_waysWith_4 : decode cL_waysWith 4 = .ok (.iload_n 1, 1) := by decide +kernel
theorem dL_waysWith_5 : decode cL_waysWith 5 = .ok (.iload_n 2, 1) := by decide +kernel
theorem dL_waysWith_6 : decode cL_waysWith 6 = .ok (.iload_n 3, 1) := by decide +kernel
theorem dL_waysWith_7 : decode cL_waysWith 7 = .ok (.invokevirtual 74, 3) := by decide +kernel
theorem dL_waysWith_10 : decode cL_waysWith 10 = .ok (.i2l, 1) := by decide +kernel
theorem dL_waysWith_11 : decode cL_waysWith 11 = .ok (.lastore, 1) := by decide +kernel
theorem dL_waysWith_12 : decode cL_waysWith 12 = .ok (.goto 7, 3) := by decide +kernel
theorem dL_waysWith_15 : decode cL_waysWith 15 = .ok (.astore 5, 2) := by decide +kernel
theorem dL_waysWith_17 : decode cL_waysWith 17 = .ok (.iconst 1, 1) := by decide +kernel
theorem dL_waysWith_18 : decode cL_waysWith 18 = .ok (.ireturn, 1) := by decide +kernel
theorem dL_waysWith_19 : decode cL_waysWith 19 = .ok (.iconst 0, 1) := by decide +kernel
theorem dL_waysWith_20 : decode cL_waysWith 20 = .ok (.ireturn, 1) := by decide +kernel
theorem dL_forced_0 : decode cL_forced 0 = .ok (.aload_n 2, 1) := by decide +kernel
theorem dL_forced_1 : decode cL_forced 1 = .ok (.iconst 0, 1) := by decide +kernel
theorem dL_forced_2 : decode cL_forced 2 = .ok (.aload_n 0, 1) := by decide +kernel
theorem dL_forced_3 : decode cL_forced 3 = .ok (.iload_n 1, 1) := by decide +kernel
theorem dL_forced_4 : decode cL_forced 4 = .ok (.invokevirtual 77, 3) := by decide +kernel
theorem dL_forced_7 : decode cL_forced 7 = .ok (.i2l, 1) := by decide +kernel
theorem dL_forced_8 : decode cL_forced 8 = .ok (.lastore, 1) := by decide +kernel
theorem dL_forced_9 : decode cL_forced 9 = .ok (.goto 6, 3) := by decide +kernel
theorem dL_forced_12 : decode cL_forced 12 = .ok (.astore_n 3, 1) := by decide +kernel
theorem dL_forced_13 : decode cL_forced 13 = .ok (.iconst 1, 1) := by decide +kernel
theorem dL_forced_14 : decode cL_forced 14 = .ok (.ireturn, 1) := by decide +kernel
theorem dL_forced_15 : decode cL_forced 15 = .ok (.iconst 0, 1) := by decide +kernel
theorem dL_forced_16 : decode cL_forced 16 = .ok (.ireturn, 1) := by decide +kernel
