theorem d_K_init_0 : decode c_K_init 0 = .ok (.aload_n 0, 1) := by decide +kernel
theorem d_K_init_1 : decode c_K_init 1 = .ok (.invokespecial 3, 3) := by decide +kernel
theorem d_K_init_4 : decode c_K_init 4 = .ok (.iload_n 1, 1) := by decide +kernel
theorem d_K_init_5 : decode c_K_init 5 = .ok (.iconst 0, 1) := by decide +kernel
theorem d_K_init_6 : decode c_K_init 6 = .ok (.invokestatic 9, 3) := by decide +kernel
theorem d_K_init_9 : decode c_K_init 9 = .ok (.istore_n 2, 1) := by decide +kernel
theorem d_K_init_10 : decode c_K_init 10 = .ok (.aload_n 0, 1) := by decide +kernel
theorem d_K_init_11 : decode c_K_init 11 = .ok (.iload_n 2, 1) := by decide +kernel
theorem d_K_init_12 : decode c_K_init 12 = .ok (.bipush 6, 2) := by decide +kernel
theorem d_K_init_14 : decode c_K_init 14 = .ok (.imul, 1) := by decide +kernel
theorem d_K_init_15 : decode c_K_init 15 = .ok (.newarray .long, 2) := by decide +kernel
theorem d_K_init_17 : decode c_K_init 17 = .ok (.putfield 15, 3) := by decide +kernel
theorem d_K_init_20 : decode c_K_init 20 = .ok (.aload_n 0, 1) := by decide +kernel
theorem d_K_init_21 : decode c_K_init 21 = .ok (.iload_n 2, 1) := by decide +kernel
theorem d_K_init_22 : decode c_K_init 22 = .ok (.newarray .int, 2) := by decide +kernel
theorem d_K_init_24 : decode c_K_init 24 = .ok (.putfield 21, 3) := by decide +kernel
theorem d_K_init_27 : decode c_K_init 27 = .ok (.return_, 1) := by decide +kernel
theorem d_K_firstSlot_0 : decode c_K_firstSlot 0 = .ok (.iload_n 1, 1) := by decide +kernel
theorem d_K_firstSlot_1 : decode c_K_firstSlot 1 = .ok (.bipush 6, 2) := by decide +kernel
theorem d_K_firstSlot_3 : decode c_K_firstSlot 3 = .ok (.imul, 1) := by decide +kernel
theorem d_K_firstSlot_4 : decode c_K_firstSlot 4 = .ok (.ireturn, 1) := by decide +kernel
theorem d_K_endSlot_0 : decode c_K_endSlot 0 = .ok (.iload_n 1, 1) := by decide +kernel
theorem d_K_endSlot_1 : decode c_K_endSlot 1 = .ok (.bipush 6, 2) := by decide +kernel
theorem d_K_endSlot_3 : decode c_K_endSlot 3 = .ok (.imul, 1) := by decide +kernel
theorem d_K_endSlot_4 : decode c_K_endSlot 4 = .ok (.aload_n 0, 1) := by decide +kernel
theorem d_K_endSlot_5 : decode c_K_endSlot 5 = .ok (.getfield 21, 3) := by decide +kernel
theorem d_K_endSlot_8 : decode c_K_endSlot 8 = .ok (.iload_n 1, 1) := by decide +kernel
theorem d_K_endSlot_9 : decode c_K_endSlot 9 = .ok (.iaload, 1) := by decide +kernel
theorem d_K_endSlot_10 : decode c_K_endSlot 10 = .ok (.iadd, 1) := by decide +kernel
theorem d_K_endSlot_11 : decode c_K_endSlot 11 = .ok (.ireturn, 1) := by decide +kernel
theorem d_K_slotFor_0 : decode c_K_slotFor 0 = .ok (.aload_n 0, 1) := by decide +kernel
theorem d_K_slotFor_1 : decode c_K_slotFor 1 = .ok (.iload_n 1, 1) := by decide +kernel
theorem d_K_slotFor_2 : decode c_K_slotFor 2 = .ok (.invokevirtual 25, 3) := by decide +kernel
theorem d_K_slotFor_5 : decode c_K_slotFor 5 = .ok (.istore 4, 2) := by decide +kernel
theorem d_K_slotFor_7 : decode c_K_slotFor 7 = .ok (.aload_n 0, 1) := by decide +kernel
theorem d_K_slotFor_8 : decode c_K_slotFor 8 = .ok (.iload_n 1, 1) := by decide +kernel
theorem d_K_slotFor_9 : decode c_K_slotFor 9 = .ok (.invokevirtual 29, 3) := by decide +kernel
theorem d_K_slotFor_12 : decode c_K_slotFor 12 = .ok (.istore 5, 2) := by decide +kernel
theorem d_K_slotFor_14 : decode c_K_slotFor 14 = .ok (.iload 5, 2) := by decide +kernel
theorem d_K_slotFor_16 : decode c_K_slotFor 16 = .ok (.iload 4, 2) := by decide +kernel
theorem d_K_slotFor_18 : decode c_K_slotFor 18 = .ok (.if_icmp .ge 24, 3) := by decide +kernel
theorem d_K_slotFor_21 : decode c_K_slotFor 21 = .ok (.aload_n 0, 1) := by decide +kernel
theorem d_K_slotFor_22 : decode c_K_slotFor 22 = .ok (.getfield 15, 3) := by decide +kernel
theorem d_K_slotFor_25 : decode c_K_slotFor 25 = .ok (.iload 5, 2) := by decide +kernel
theorem d_K_slotFor_27 : decode c_K_slotFor 27 = .ok (.laload, 1) := by decide +kernel
theorem d_K_slotFor_28 : decode c_K_slotFor 28 = .ok (.lload_n 2, 1) := by decide +kernel
theorem d_K_slotFor_29 : decode c_K_slotFor 29 = .ok (.lcmp, 1) := by decide +kernel
theorem d_K_slotFor_30 : decode c_K_slotFor 30 = .ok (.ifCond .ne 6, 3) := by decide +kernel
theorem d_K_slotFor_33 : decode c_K_slotFor 33 = .ok (.iload 5, 2) := by decide +kernel
theorem d_K_slotFor_35 : decode c_K_slotFor 35 = .ok (.ireturn, 1) := by decide +kernel
theorem d_K_slotFor_36 : decode c_K_slotFor 36 = .ok (.iinc 5 1, 3) := by decide +kernel
theorem d_K_slotFor_39 : decode c_K_slotFor 39 = .ok (.goto (-25), 3) := by decide +kernel
theorem d_K_slotFor_42 : decode c_K_slotFor 42 = .ok (.aload_n 0, 1) := by decide +kernel
theorem d_K_slotFor_43 : decode c_K_slotFor 43 = .ok (.getfield 21, 3) := by decide +kernel
theorem d_K_slotFor_46 : decode c_K_slotFor 46 = .ok (.iload_n 1, 1) := by decide +kernel
theorem d_K_slotFor_47 : decode c_K_slotFor 47 = .ok (.iaload, 1) := by decide +kernel
theorem d_K_slotFor_48 : decode c_K_slotFor 48 = .ok (.bipush 6, 2) := by decide +kernel
theorem d_K_slotFor_50 : decode c_K_slotFor 50 = .ok (.if_icmp .lt 5, 3) := by decide +kernel
theorem d_K_slotFor_53 : decode c_K_slotFor 53 = .ok (.iconst (-1), 1) := by decide +kernel
theorem d_K_slotFor_54 : decode c_K_slotFor 54 = .ok (.ireturn, 1) := by decide +kernel
theorem d_K_slotFor_55 : decode c_K_slotFor 55 = .ok (.aload_n 0, 1) := by decide +kernel
theorem d_K_slotFor_56 : decode c_K_slotFor 56 = .ok (.getfield 15, 3) := by decide +kernel
theorem d_K_slotFor_59 : decode c_K_slotFor 59 = .ok (.iload 4, 2) := by decide +kernel
theorem d_K_slotFor_61 : decode c_K_slotFor 61 = .ok (.lload_n 2, 1) := by decide +kernel
theorem d_K_slotFor_62 : decode c_K_slotFor 62 = .ok (.lastore, 1) := by decide +kernel
theorem d_K_slotFor_63 : decode c_K_slotFor 63 = .ok (.aload_n 0, 1) := by decide +kernel
theorem d_K_slotFor_64 : decode c_K_slotFor 64 = .ok (.getfield 21, 3) := by decide +kernel
theorem d_K_slotFor_67 : decode c_K_slotFor 67 = .ok (.iload_n 1, 1) := by decide +kernel
theorem d_K_slotFor_68 : decode c_K_slotFor 68 = .ok (.dup2, 1) := by decide +kernel
theorem d_K_slotFor_69 : decode c_K_slotFor 69 = .ok (.iaload, 1) := by decide +kernel
theorem d_K_slotFor_70 : decode c_K_slotFor 70 = .ok (.iconst 1, 1) := by decide +kernel
theorem d_K_slotFor_71 : decode c_K_slotFor 71 = .ok (.iadd, 1) := by decide +kernel
theorem d_K_slotFor_72 : decode c_K_slotFor 72 = .ok (.iastore, 1) := by decide +kernel
theorem d_K_slotFor_73 : decode c_K_slotFor 73 = .ok (.iload 4, 2) := by decide +kernel
theorem d_K_slotFor_75 : decode c_K_slotFor 75 = .ok (.ireturn, 1) := by decide +kernel
theorem d_Q_init_0 : decode c_Q_init 0 = .ok (.aload_n 0, 1) := by decide +kernel
theorem d_Q_init_1 : decode c_Q_init 1 = .ok (.invokespecial 3, 3) := by decide +kernel
theorem d_Q_init_4 : decode c_Q_init 4 = .ok (.aload_n 0, 1) := by decide +kernel
theorem d_Q_init_5 : decode c_Q_init 5 = .ok (.bipush 33, 2) := by decide +kernel
theorem d_Q_init_7 : decode c_Q_init 7 = .ok (.newarray .long, 2) := by decide +kernel
theorem d_Q_init_9 : decode c_Q_init 9 = .ok (.putfield 9, 3) := by decide +kernel
theorem d_Q_init_12 : decode c_Q_init 12 = .ok (.aload_n 0, 1) := by decide +kernel
theorem d_Q_init_13 : decode c_Q_init 13 = .ok (.bipush 33, 2) := by decide +kernel
theorem d_Q_init_15 : decode c_Q_init 15 = .ok (.newarray .int, 2) := by decide +kernel
theorem d_Q_init_17 : decode c_Q_init 17 = .ok (.putfield 15, 3) := by decide +kernel
theorem d_Q_init_20 : decode c_Q_init 20 = .ok (.aload_n 0, 1) := by decide +kernel
theorem d_Q_init_21 : decode c_Q_init 21 = .ok (.bipush 33, 2) := by decide +kernel
theorem d_Q_init_23 : decode c_Q_init 23 = .ok (.newarray .int, 2) := by decide +kernel
theorem d_Q_init_25 : decode c_Q_init 25 = .ok (.putfield 19, 3) := by decide +kernel
theorem d_Q_init_28 : decode c_Q_init 28 = .ok (.aload_n 0, 1) := by decide +kernel
theorem d_Q_init_29 : decode c_Q_init 29 = .ok (.bipush 33, 2) := by decide +kernel
theorem d_Q_init_31 : decode c_Q_init 31 = .ok (.newarray .int, 2) := by decide +kernel
theorem d_Q_init_33 : decode c_Q_init 33 = .ok (.putfield 22, 3) := by decide +kernel
theorem d_Q_init_36 : decode c_Q_init 36 = .ok (.aload_n 0, 1) := by decide +kernel
theorem d_Q_init_37 : decode c_Q_init 37 = .ok (.iconst 0, 1) := by decide +kernel
theorem d_Q_init_38 : decode c_Q_init 38 = .ok (.putfield 25, 3) := by decide +kernel
theorem d_Q_init_41 : decode c_Q_init 41 = .ok (.return_, 1) := by decide +kernel
theorem d_Q_begin_0 : decode c_Q_begin 0 = .ok (.aload_n 0, 1) := by decide +kernel
theorem d_Q_begin_1 : decode c_Q_begin 1 = .ok (.iload_n 1, 1) := by decide +kernel
theorem d_Q_begin_2 : decode c_Q_begin 2 = .ok (.putfield 25, 3) := by decide +kernel
theorem d_Q_begin_5 : decode c_Q_begin 5 = .ok (.iconst 0, 1) := by decide +kernel
theorem d_Q_begin_6 : decode c_Q_begin 6 = .ok (.istore_n 2, 1) := by decide +kernel
theorem d_Q_begin_7 : decode c_Q_begin 7 = .ok (.iload_n 2, 1) := by decide +kernel
theorem d_Q_begin_8 : decode c_Q_begin 8 = .ok (.bipush 33, 2) := by decide +kernel
theorem d_Q_begin_10 : decode c_Q_begin 10 = .ok (.if_icmp .ge 14, 3) := by decide +kernel
theorem d_Q_begin_13 : decode c_Q_begin 13 = .ok (.aload_n 0, 1) := by decide +kernel
theorem d_Q_begin_14 : decode c_Q_begin 14 = .ok (.iload_n 2, 1) := by decide +kernel
theorem d_Q_begin_15 : decode c_Q_begin 15 = .ok (.invokevirtual 29, 3) := by decide +kernel
theorem d_Q_begin_18 : decode c_Q_begin 18 = .ok (.iinc 2 1, 3) := by decide +kernel
theorem d_Q_begin_21 : decode c_Q_begin 21 = .ok (.goto (-14), 3) := by decide +kernel
theorem d_Q_begin_24 : decode c_Q_begin 24 = .ok (.return_, 1) := by decide +kernel
theorem d_Q_clearRow_0 : decode c_Q_clearRow 0 = .ok (.aload_n 0, 1) := by decide +kernel
theorem d_Q_clearRow_1 : decode c_Q_clearRow 1 = .ok (.getfield 9, 3) := by decide +kernel
theorem d_Q_clearRow_4 : decode c_Q_clearRow 4 = .ok (.iload_n 1, 1) := by decide +kernel
theorem d_Q_clearRow_5 : decode c_Q_clearRow 5 = .ok (.lconst 0, 1) := by decide +kernel
theorem d_Q_clearRow_6 : decode c_Q_clearRow 6 = .ok (.lastore, 1) := by decide +kernel
theorem d_Q_clearRow_7 : decode c_Q_clearRow 7 = .ok (.aload_n 0, 1) := by decide +kernel
theorem d_Q_clearRow_8 : decode c_Q_clearRow 8 = .ok (.getfield 15, 3) := by decide +kernel
theorem d_Q_clearRow_11 : decode c_Q_clearRow 11 = .ok (.iload_n 1, 1) := by decide +kernel
theorem d_Q_clearRow_12 : decode c_Q_clearRow 12 = .ok (.iconst 0, 1) := by decide +kernel
theorem d_Q_clearRow_13 : decode c_Q_clearRow 13 = .ok (.iastore, 1) := by decide +kernel
theorem d_Q_clearRow_14 : decode c_Q_clearRow 14 = .ok (.aload_n 0, 1) := by decide +kernel
theorem d_Q_clearRow_15 : decode c_Q_clearRow 15 = .ok (.getfield 19, 3) := by decide +kernel
theorem d_Q_clearRow_18 : decode c_Q_clearRow 18 = .ok (.iload_n 1, 1) := by decide +kernel
theorem d_Q_clearRow_19 : decode c_Q_clearRow 19 = .ok (.iconst (-1), 1) := by decide +kernel
theorem d_Q_clearRow_20 : decode c_Q_clearRow 20 = .ok (.iastore, 1) := by decide +kernel
theorem d_Q_clearRow_21 : decode c_Q_clearRow 21 = .ok (.aload_n 0, 1) := by decide +kernel
theorem d_Q_clearRow_22 : decode c_Q_clearRow 22 = .ok (.getfield 22, 3) := by decide +kernel
theorem d_Q_clearRow_25 : decode c_Q_clearRow 25 = .ok (.iload_n 1, 1) := by decide +kernel
theorem d_Q_clearRow_26 : decode c_Q_clearRow 26 = .ok (.iconst (-1), 1) := by decide +kernel
theorem d_Q_clearRow_27 : decode c_Q_clearRow 27 = .ok (.iastore, 1) := by decide +kernel
theorem d_Q_clearRow_28 : decode c_Q_clearRow 28 = .ok (.return_, 1) := by decide +kernel
theorem d_Q_isBought_0 : decode c_Q_isBought 0 = .ok (.aload_n 0, 1) := by decide +kernel
theorem d_Q_isBought_1 : decode c_Q_isBought 1 = .ok (.getfield 19, 3) := by decide +kernel
theorem d_Q_isBought_4 : decode c_Q_isBought 4 = .ok (.iload_n 1, 1) := by decide +kernel
theorem d_Q_isBought_5 : decode c_Q_isBought 5 = .ok (.iaload, 1) := by decide +kernel
theorem d_Q_isBought_6 : decode c_Q_isBought 6 = .ok (.iconst (-1), 1) := by decide +kernel
theorem d_Q_isBought_7 : decode c_Q_isBought 7 = .ok (.if_icmp .eq 7, 3) := by decide +kernel
theorem d_Q_isBought_10 : decode c_Q_isBought 10 = .ok (.iconst 1, 1) := by decide +kernel
theorem d_Q_isBought_11 : decode c_Q_isBought 11 = .ok (.goto 4, 3) := by decide +kernel
theorem d_Q_isBought_14 : decode c_Q_isBought 14 = .ok (.iconst 0, 1) := by decide +kernel
theorem d_Q_isBought_15 : decode c_Q_isBought 15 = .ok (.ireturn, 1) := by decide +kernel
theorem d_Q_consider_0 : decode c_Q_consider 0 = .ok (.aload_n 0, 1) := by decide +kernel
theorem d_Q_consider_1 : decode c_Q_consider 1 = .ok (.iload_n 1, 1) := by decide +kernel
theorem d_Q_consider_2 : decode c_Q_consider 2 = .ok (.invokevirtual 33, 3) := by decide +kernel
theorem d_Q_consider_5 : decode c_Q_consider 5 = .ok (.ifCond .eq 19, 3) := by decide +kernel
theorem d_Q_consider_8 : decode c_Q_consider 8 = .ok (.aload_n 0, 1) := by decide +kernel
theorem d_Q_consider_9 : decode c_Q_consider 9 = .ok (.iload_n 1, 1) := by decide +kernel
theorem d_Q_consider_10 : decode c_Q_consider 10 = .ok (.lload_n 2, 1) := by decide +kernel
theorem d_Q_consider_11 : decode c_Q_consider 11 = .ok (.iload 4, 2) := by decide +kernel
theorem d_Q_consider_13 : decode c_Q_consider 13 = .ok (.iload 5, 2) := by decide +kernel
theorem d_Q_consider_15 : decode c_Q_consider 15 = .ok (.iload 6, 2) := by decide +kernel
theorem d_Q_consider_17 : decode c_Q_consider 17 = .ok (.invokevirtual 37, 3) := by decide +kernel
theorem d_Q_consider_20 : decode c_Q_consider 20 = .ok (.ifCond .ne 4, 3) := by decide +kernel
theorem d_Q_consider_23 : decode c_Q_consider 23 = .ok (.return_, 1) := by decide +kernel
theorem d_Q_consider_24 : decode c_Q_consider 24 = .ok (.aload_n 0, 1) := by decide +kernel
theorem d_Q_consider_25 : decode c_Q_consider 25 = .ok (.getfield 9, 3) := by decide +kernel
theorem d_Q_consider_28 : decode c_Q_consider 28 = .ok (.iload_n 1, 1) := by decide +kernel
theorem d_Q_consider_29 : decode c_Q_consider 29 = .ok (.lload_n 2, 1) := by decide +kernel
theorem d_Q_consider_30 : decode c_Q_consider 30 = .ok (.lastore, 1) := by decide +kernel
theorem d_Q_consider_31 : decode c_Q_consider 31 = .ok (.aload_n 0, 1) := by decide +kernel
theorem d_Q_consider_32 : decode c_Q_consider 32 = .ok (.getfield 15, 3) := by decide +kernel
theorem d_Q_consider_35 : decode c_Q_consider 35 = .ok (.iload_n 1, 1) := by decide +kernel
theorem d_Q_consider_36 : decode c_Q_consider 36 = .ok (.iload 6, 2) := by decide +kernel
theorem d_Q_consider_38 : decode c_Q_consider 38 = .ok (.iastore, 1) := by decide +kernel
theorem d_Q_consider_39 : decode c_Q_consider 39 = .ok (.aload_n 0, 1) := by decide +kernel
theorem d_Q_consider_40 : decode c_Q_consider 40 = .ok (.getfield 19, 3) := by decide +kernel
theorem d_Q_consider_43 : decode c_Q_consider 43 = .ok (.iload_n 1, 1) := by decide +kernel
theorem d_Q_consider_44 : decode c_Q_consider 44 = .ok (.iload 5, 2) := by decide +kernel
theorem d_Q_consider_46 : decode c_Q_consider 46 = .ok (.iastore, 1) := by decide +kernel
theorem d_Q_consider_47 : decode c_Q_consider 47 = .ok (.aload_n 0, 1) := by decide +kernel
theorem d_Q_consider_48 : decode c_Q_consider 48 = .ok (.getfield 22, 3) := by decide +kernel
theorem d_Q_consider_51 : decode c_Q_consider 51 = .ok (.iload_n 1, 1) := by decide +kernel
theorem d_Q_consider_52 : decode c_Q_consider 52 = .ok (.iload 4, 2) := by decide +kernel
theorem d_Q_consider_54 : decode c_Q_consider 54 = .ok (.iastore, 1) := by decide +kernel
theorem d_Q_consider_55 : decode c_Q_consider 55 = .ok (.return_, 1) := by decide +kernel
theorem d_Q_isBetter_0 : decode c_Q_isBetter 0 = .ok (.lload_n 2, 1) := by decide +kernel
theorem d_Q_isBetter_1 : decode c_Q_isBetter 1 = .ok (.aload_n 0, 1) := by decide +kernel
theorem d_Q_isBetter_2 : decode c_Q_isBetter 2 = .ok (.getfield 9, 3) := by decide +kernel
theorem d_Q_isBetter_5 : decode c_Q_isBetter 5 = .ok (.iload_n 1, 1) := by decide +kernel
theorem d_Q_isBetter_6 : decode c_Q_isBetter 6 = .ok (.laload, 1) := by decide +kernel
theorem d_Q_isBetter_7 : decode c_Q_isBetter 7 = .ok (.lcmp, 1) := by decide +kernel
theorem d_Q_isBetter_8 : decode c_Q_isBetter 8 = .ok (.ifCond .eq 20, 3) := by decide +kernel
theorem d_Q_isBetter_11 : decode c_Q_isBetter 11 = .ok (.lload_n 2, 1) := by decide +kernel
theorem d_Q_isBetter_12 : decode c_Q_isBetter 12 = .ok (.aload_n 0, 1) := by decide +kernel
theorem d_Q_isBetter_13 : decode c_Q_isBetter 13 = .ok (.getfield 9, 3) := by decide +kernel
theorem d_Q_isBetter_16 : decode c_Q_isBetter 16 = .ok (.iload_n 1, 1) := by decide +kernel
theorem d_Q_isBetter_17 : decode c_Q_isBetter 17 = .ok (.laload, 1) := by decide +kernel
theorem d_Q_isBetter_18 : decode c_Q_isBetter 18 = .ok (.lcmp, 1) := by decide +kernel
theorem d_Q_isBetter_19 : decode c_Q_isBetter 19 = .ok (.ifCond .ge 7, 3) := by decide +kernel
theorem d_Q_isBetter_22 : decode c_Q_isBetter 22 = .ok (.iconst 1, 1) := by decide +kernel
theorem d_Q_isBetter_23 : decode c_Q_isBetter 23 = .ok (.goto 4, 3) := by decide +kernel
theorem d_Q_isBetter_26 : decode c_Q_isBetter 26 = .ok (.iconst 0, 1) := by decide +kernel
theorem d_Q_isBetter_27 : decode c_Q_isBetter 27 = .ok (.ireturn, 1) := by decide +kernel
theorem d_Q_isBetter_28 : decode c_Q_isBetter 28 = .ok (.iload 4, 2) := by decide +kernel
theorem d_Q_isBetter_30 : decode c_Q_isBetter 30 = .ok (.aload_n 0, 1) := by decide +kernel
theorem d_Q_isBetter_31 : decode c_Q_isBetter 31 = .ok (.getfield 22, 3) := by decide +kernel
theorem d_Q_isBetter_34 : decode c_Q_isBetter 34 = .ok (.iload_n 1, 1) := by decide +kernel
theorem d_Q_isBetter_35 : decode c_Q_isBetter 35 = .ok (.iaload, 1) := by decide +kernel
theorem d_Q_isBetter_36 : decode c_Q_isBetter 36 = .ok (.if_icmp .eq 20, 3) := by decide +kernel
theorem d_Q_isBetter_39 : decode c_Q_isBetter 39 = .ok (.iload 4, 2) := by decide +kernel
theorem d_Q_isBetter_41 : decode c_Q_isBetter 41 = .ok (.aload_n 0, 1) := by decide +kernel
theorem d_Q_isBetter_42 : decode c_Q_isBetter 42 = .ok (.getfield 22, 3) := by decide +kernel
theorem d_Q_isBetter_45 : decode c_Q_isBetter 45 = .ok (.iload_n 1, 1) := by decide +kernel
theorem d_Q_isBetter_46 : decode c_Q_isBetter 46 = .ok (.iaload, 1) := by decide +kernel
theorem d_Q_isBetter_47 : decode c_Q_isBetter 47 = .ok (.if_icmp .ge 7, 3) := by decide +kernel
theorem d_Q_isBetter_50 : decode c_Q_isBetter 50 = .ok (.iconst 1, 1) := by decide +kernel
theorem d_Q_isBetter_51 : decode c_Q_isBetter 51 = .ok (.goto 4, 3) := by decide +kernel
theorem d_Q_isBetter_54 : decode c_Q_isBetter 54 = .ok (.iconst 0, 1) := by decide +kernel
theorem d_Q_isBetter_55 : decode c_Q_isBetter 55 = .ok (.ireturn, 1) := by decide +kernel
theorem d_Q_isBetter_56 : decode c_Q_isBetter 56 = .ok (.iload 5, 2) := by decide +kernel
theorem d_Q_isBetter_58 : decode c_Q_isBetter 58 = .ok (.aload_n 0, 1) := by decide +kernel
theorem d_Q_isBetter_59 : decode c_Q_isBetter 59 = .ok (.getfield 19, 3) := by decide +kernel
theorem d_Q_isBetter_62 : decode c_Q_isBetter 62 = .ok (.iload_n 1, 1) := by decide +kernel
theorem d_Q_isBetter_63 : decode c_Q_isBetter 63 = .ok (.iaload, 1) := by decide +kernel
theorem d_Q_isBetter_64 : decode c_Q_isBetter 64 = .ok (.if_icmp .eq 20, 3) := by decide +kernel
theorem d_Q_isBetter_67 : decode c_Q_isBetter 67 = .ok (.iload 5, 2) := by decide +kernel
theorem d_Q_isBetter_69 : decode c_Q_isBetter 69 = .ok (.aload_n 0, 1) := by decide +kernel
theorem d_Q_isBetter_70 : decode c_Q_isBetter 70 = .ok (.getfield 19, 3) := by decide +kernel
theorem d_Q_isBetter_73 : decode c_Q_isBetter 73 = .ok (.iload_n 1, 1) := by decide +kernel
theorem d_Q_isBetter_74 : decode c_Q_isBetter 74 = .ok (.iaload, 1) := by decide +kernel
theorem d_Q_isBetter_75 : decode c_Q_isBetter 75 = .ok (.if_icmp .ge 7, 3) := by decide +kernel
theorem d_Q_isBetter_78 : decode c_Q_isBetter 78 = .ok (.iconst 1, 1) := by decide +kernel
theorem d_Q_isBetter_79 : decode c_Q_isBetter 79 = .ok (.goto 4, 3) := by decide +kernel
theorem d_Q_isBetter_82 : decode c_Q_isBetter 82 = .ok (.iconst 0, 1) := by decide +kernel
theorem d_Q_isBetter_83 : decode c_Q_isBetter 83 = .ok (.ireturn, 1) := by decide +kernel
theorem d_Q_isBetter_84 : decode c_Q_isBetter 84 = .ok (.iload 6, 2) := by decide +kernel
theorem d_Q_isBetter_86 : decode c_Q_isBetter 86 = .ok (.aload_n 0, 1) := by decide +kernel
theorem d_Q_isBetter_87 : decode c_Q_isBetter 87 = .ok (.getfield 15, 3) := by decide +kernel
theorem d_Q_isBetter_90 : decode c_Q_isBetter 90 = .ok (.iload_n 1, 1) := by decide +kernel
theorem d_Q_isBetter_91 : decode c_Q_isBetter 91 = .ok (.iaload, 1) := by decide +kernel
theorem d_Q_isBetter_92 : decode c_Q_isBetter 92 = .ok (.if_icmp .ge 7, 3) := by decide +kernel
theorem d_Q_isBetter_95 : decode c_Q_isBetter 95 = .ok (.iconst 1, 1) := by decide +kernel
theorem d_Q_isBetter_96 : decode c_Q_isBetter 96 = .ok (.goto 4, 3) := by decide +kernel
theorem d_Q_isBetter_99 : decode c_Q_isBetter 99 = .ok (.iconst 0, 1) := by decide +kernel
theorem d_Q_isBetter_100 : decode c_Q_isBetter 100 = .ok (.ireturn, 1) := by decide +kernel
theorem d_Q_sum_0 : decode c_Q_sum 0 = .ok (.lconst 0, 1) := by decide +kernel
theorem d_Q_sum_1 : decode c_Q_sum 1 = .ok (.lstore_n 1, 1) := by decide +kernel
theorem d_Q_sum_2 : decode c_Q_sum 2 = .ok (.iconst 0, 1) := by decide +kernel
theorem d_Q_sum_3 : decode c_Q_sum 3 = .ok (.istore_n 3, 1) := by decide +kernel
theorem d_Q_sum_4 : decode c_Q_sum 4 = .ok (.iload_n 3, 1) := by decide +kernel
theorem d_Q_sum_5 : decode c_Q_sum 5 = .ok (.aload_n 0, 1) := by decide +kernel
theorem d_Q_sum_6 : decode c_Q_sum 6 = .ok (.getfield 25, 3) := by decide +kernel
theorem d_Q_sum_9 : decode c_Q_sum 9 = .ok (.if_icmp .ge 18, 3) := by decide +kernel
theorem d_Q_sum_12 : decode c_Q_sum 12 = .ok (.lload_n 1, 1) := by decide +kernel
theorem d_Q_sum_13 : decode c_Q_sum 13 = .ok (.aload_n 0, 1) := by decide +kernel
theorem d_Q_sum_14 : decode c_Q_sum 14 = .ok (.getfield 9, 3) := by decide +kernel
theorem d_Q_sum_17 : decode c_Q_sum 17 = .ok (.iload_n 3, 1) := by decide +kernel
theorem d_Q_sum_18 : decode c_Q_sum 18 = .ok (.laload, 1) := by decide +kernel
theorem d_Q_sum_19 : decode c_Q_sum 19 = .ok (.ladd, 1) := by decide +kernel
theorem d_Q_sum_20 : decode c_Q_sum 20 = .ok (.lstore_n 1, 1) := by decide +kernel
theorem d_Q_sum_21 : decode c_Q_sum 21 = .ok (.iinc 3 1, 3) := by decide +kernel
theorem d_Q_sum_24 : decode c_Q_sum 24 = .ok (.goto (-20), 3) := by decide +kernel
theorem d_Q_sum_27 : decode c_Q_sum 27 = .ok (.lload_n 1, 1) := by decide +kernel
theorem d_Q_sum_28 : decode c_Q_sum 28 = .ok (.lreturn, 1) := by decide +kernel
theorem d_Q_makersBoughtOf_0 : decode c_Q_makersBoughtOf 0 = .ok (.iconst 0, 1) := by decide +kernel
theorem d_Q_makersBoughtOf_1 : decode c_Q_makersBoughtOf 1 = .ok (.istore_n 1, 1) := by decide +kernel
theorem d_Q_makersBoughtOf_2 : decode c_Q_makersBoughtOf 2 = .ok (.iconst 0, 1) := by decide +kernel
theorem d_Q_makersBoughtOf_3 : decode c_Q_makersBoughtOf 3 = .ok (.istore_n 2, 1) := by decide +kernel
theorem d_Q_makersBoughtOf_4 : decode c_Q_makersBoughtOf 4 = .ok (.iload_n 2, 1) := by decide +kernel
theorem d_Q_makersBoughtOf_5 : decode c_Q_makersBoughtOf 5 = .ok (.aload_n 0, 1) := by decide +kernel
theorem d_Q_makersBoughtOf_6 : decode c_Q_makersBoughtOf 6 = .ok (.getfield 25, 3) := by decide +kernel
theorem d_Q_makersBoughtOf_9 : decode c_Q_makersBoughtOf 9 = .ok (.if_icmp .ge 28, 3) := by decide +kernel
theorem d_Q_makersBoughtOf_12 : decode c_Q_makersBoughtOf 12 = .ok (.aload_n 0, 1) := by decide +kernel
theorem d_Q_makersBoughtOf_13 : decode c_Q_makersBoughtOf 13 = .ok (.iload_n 2, 1) := by decide +kernel
theorem d_Q_makersBoughtOf_14 : decode c_Q_makersBoughtOf 14 = .ok (.invokevirtual 33, 3) := by decide +kernel
theorem d_Q_makersBoughtOf_17 : decode c_Q_makersBoughtOf 17 = .ok (.ifCond .eq 14, 3) := by decide +kernel
theorem d_Q_makersBoughtOf_20 : decode c_Q_makersBoughtOf 20 = .ok (.iload_n 1, 1) := by decide +kernel
theorem d_Q_makersBoughtOf_21 : decode c_Q_makersBoughtOf 21 = .ok (.iconst 1, 1) := by decide +kernel
theorem d_Q_makersBoughtOf_22 : decode c_Q_makersBoughtOf 22 = .ok (.aload_n 0, 1) := by decide +kernel
theorem d_Q_makersBoughtOf_23 : decode c_Q_makersBoughtOf 23 = .ok (.getfield 19, 3) := by decide +kernel
theorem d_Q_makersBoughtOf_26 : decode c_Q_makersBoughtOf 26 = .ok (.iload_n 2, 1) := by decide +kernel
theorem d_Q_makersBoughtOf_27 : decode c_Q_makersBoughtOf 27 = .ok (.iaload, 1) := by decide +kernel
theorem d_Q_makersBoughtOf_28 : decode c_Q_makersBoughtOf 28 = .ok (.ishl, 1) := by decide +kernel
theorem d_Q_makersBoughtOf_29 : decode c_Q_makersBoughtOf 29 = .ok (.ior, 1) := by decide +kernel
theorem d_Q_makersBoughtOf_30 : decode c_Q_makersBoughtOf 30 = .ok (.istore_n 1, 1) := by decide +kernel
theorem d_Q_makersBoughtOf_31 : decode c_Q_makersBoughtOf 31 = .ok (.iinc 2 1, 3) := by decide +kernel
theorem d_Q_makersBoughtOf_34 : decode c_Q_makersBoughtOf 34 = .ok (.goto (-30), 3) := by decide +kernel
theorem d_Q_makersBoughtOf_37 : decode c_Q_makersBoughtOf 37 = .ok (.iload_n 1, 1) := by decide +kernel
theorem d_Q_makersBoughtOf_38 : decode c_Q_makersBoughtOf 38 = .ok (.invokestatic 41, 3) := by decide +kernel
theorem d_Q_makersBoughtOf_41 : decode c_Q_makersBoughtOf 41 = .ok (.ireturn, 1) := by decide +kernel
theorem d_Ra_init_0 : decode c_Ra_init 0 = .ok (.aload_n 0, 1) := by decide +kernel
theorem d_Ra_init_1 : decode c_Ra_init 1 = .ok (.invokespecial 3, 3) := by decide +kernel
theorem d_Ra_init_4 : decode c_Ra_init 4 = .ok (.aload_n 0, 1) := by decide +kernel
theorem d_Ra_init_5 : decode c_Ra_init 5 = .ok (.new 9, 3) := by decide +kernel
theorem d_Ra_init_8 : decode c_Ra_init 8 = .ok (.dup, 1) := by decide +kernel
theorem d_Ra_init_9 : decode c_Ra_init 9 = .ok (.bipush 8, 2) := by decide +kernel
theorem d_Ra_init_11 : decode c_Ra_init 11 = .ok (.invokespecial 11, 3) := by decide +kernel
theorem d_Ra_init_14 : decode c_Ra_init 14 = .ok (.putfield 14, 3) := by decide +kernel
theorem d_Ra_init_17 : decode c_Ra_init 17 = .ok (.aload_n 0, 1) := by decide +kernel
theorem d_Ra_init_18 : decode c_Ra_init 18 = .ok (.bipush 48, 2) := by decide +kernel
theorem d_Ra_init_20 : decode c_Ra_init 20 = .ok (.newarray .long, 2) := by decide +kernel
theorem d_Ra_init_22 : decode c_Ra_init 22 = .ok (.putfield 20, 3) := by decide +kernel
theorem d_Ra_init_25 : decode c_Ra_init 25 = .ok (.aload_n 0, 1) := by decide +kernel
theorem d_Ra_init_26 : decode c_Ra_init 26 = .ok (.bipush 48, 2) := by decide +kernel
theorem d_Ra_init_28 : decode c_Ra_init 28 = .ok (.newarray .long, 2) := by decide +kernel
theorem d_Ra_init_30 : decode c_Ra_init 30 = .ok (.putfield 24, 3) := by decide +kernel
theorem d_Ra_init_33 : decode c_Ra_init 33 = .ok (.aload_n 0, 1) := by decide +kernel
theorem d_Ra_init_34 : decode c_Ra_init 34 = .ok (.bipush 8, 2) := by decide +kernel
theorem d_Ra_init_36 : decode c_Ra_init 36 = .ok (.newarray .long, 2) := by decide +kernel
theorem d_Ra_init_38 : decode c_Ra_init 38 = .ok (.putfield 27, 3) := by decide +kernel
theorem d_Ra_init_41 : decode c_Ra_init 41 = .ok (.aload_n 0, 1) := by decide +kernel
theorem d_Ra_init_42 : decode c_Ra_init 42 = .ok (.bipush 8, 2) := by decide +kernel
theorem d_Ra_init_44 : decode c_Ra_init 44 = .ok (.newarray .long, 2) := by decide +kernel
theorem d_Ra_init_46 : decode c_Ra_init 46 = .ok (.putfield 30, 3) := by decide +kernel
theorem d_Ra_init_49 : decode c_Ra_init 49 = .ok (.return_, 1) := by decide +kernel
theorem d_Ra_tell_0 : decode c_Ra_tell 0 = .ok (.aload_n 0, 1) := by decide +kernel
theorem d_Ra_tell_1 : decode c_Ra_tell 1 = .ok (.getfield 14, 3) := by decide +kernel
theorem d_Ra_tell_4 : decode c_Ra_tell 4 = .ok (.iload_n 1, 1) := by decide +kernel
theorem d_Ra_tell_5 : decode c_Ra_tell 5 = .ok (.lload_n 2, 1) := by decide +kernel
theorem d_Ra_tell_6 : decode c_Ra_tell 6 = .ok (.invokevirtual 33, 3) := by decide +kernel
theorem d_Ra_tell_9 : decode c_Ra_tell 9 = .ok (.istore 8, 2) := by decide +kernel
theorem d_Ra_tell_11 : decode c_Ra_tell 11 = .ok (.iload 8, 2) := by decide +kernel
theorem d_Ra_tell_13 : decode c_Ra_tell 13 = .ok (.iconst (-1), 1) := by decide +kernel
theorem d_Ra_tell_14 : decode c_Ra_tell 14 = .ok (.if_icmp .ne 5, 3) := by decide +kernel
theorem d_Ra_tell_17 : decode c_Ra_tell 17 = .ok (.iconst 0, 1) := by decide +kernel
theorem d_Ra_tell_18 : decode c_Ra_tell 18 = .ok (.ireturn, 1) := by decide +kernel
theorem d_Ra_tell_19 : decode c_Ra_tell 19 = .ok (.aload_n 0, 1) := by decide +kernel
theorem d_Ra_tell_20 : decode c_Ra_tell 20 = .ok (.getfield 20, 3) := by decide +kernel
theorem d_Ra_tell_23 : decode c_Ra_tell 23 = .ok (.iload 8, 2) := by decide +kernel
theorem d_Ra_tell_25 : decode c_Ra_tell 25 = .ok (.lload 4, 2) := by decide +kernel
theorem d_Ra_tell_27 : decode c_Ra_tell 27 = .ok (.invokestatic 37, 3) := by decide +kernel
theorem d_Ra_tell_30 : decode c_Ra_tell 30 = .ok (.istore 9, 2) := by decide +kernel
theorem d_Ra_tell_32 : decode c_Ra_tell 32 = .ok (.aload_n 0, 1) := by decide +kernel
theorem d_Ra_tell_33 : decode c_Ra_tell 33 = .ok (.getfield 24, 3) := by decide +kernel
theorem d_Ra_tell_36 : decode c_Ra_tell 36 = .ok (.iload 8, 2) := by decide +kernel
theorem d_Ra_tell_38 : decode c_Ra_tell 38 = .ok (.lload 6, 2) := by decide +kernel
theorem d_Ra_tell_40 : decode c_Ra_tell 40 = .ok (.invokestatic 37, 3) := by decide +kernel
theorem d_Ra_tell_43 : decode c_Ra_tell 43 = .ok (.istore 10, 2) := by decide +kernel
theorem d_Ra_tell_45 : decode c_Ra_tell 45 = .ok (.iload 9, 2) := by decide +kernel
theorem d_Ra_tell_47 : decode c_Ra_tell 47 = .ok (.ifCond .ne 8, 3) := by decide +kernel
theorem d_Ra_tell_50 : decode c_Ra_tell 50 = .ok (.iload 10, 2) := by decide +kernel
theorem d_Ra_tell_52 : decode c_Ra_tell 52 = .ok (.ifCond .eq 7, 3) := by decide +kernel
theorem d_Ra_tell_55 : decode c_Ra_tell 55 = .ok (.iconst 1, 1) := by decide +kernel
theorem d_Ra_tell_56 : decode c_Ra_tell 56 = .ok (.goto 4, 3) := by decide +kernel
theorem d_Ra_tell_59 : decode c_Ra_tell 59 = .ok (.iconst 0, 1) := by decide +kernel
theorem d_Ra_tell_60 : decode c_Ra_tell 60 = .ok (.ireturn, 1) := by decide +kernel
theorem d_Ra_turnTo_0 : decode c_Ra_turnTo 0 = .ok (.iconst 0, 1) := by decide +kernel
theorem d_Ra_turnTo_1 : decode c_Ra_turnTo 1 = .ok (.istore_n 3, 1) := by decide +kernel
theorem d_Ra_turnTo_2 : decode c_Ra_turnTo 2 = .ok (.iload_n 3, 1) := by decide +kernel
theorem d_Ra_turnTo_3 : decode c_Ra_turnTo 3 = .ok (.bipush 8, 2) := by decide +kernel
theorem d_Ra_turnTo_5 : decode c_Ra_turnTo 5 = .ok (.if_icmp .ge 63, 3) := by decide +kernel
theorem d_Ra_turnTo_8 : decode c_Ra_turnTo 8 = .ok (.aload_n 0, 1) := by decide +kernel
theorem d_Ra_turnTo_9 : decode c_Ra_turnTo 9 = .ok (.iload_n 3, 1) := by decide +kernel
theorem d_Ra_turnTo_10 : decode c_Ra_turnTo 10 = .ok (.lload_n 1, 1) := by decide +kernel
theorem d_Ra_turnTo_11 : decode c_Ra_turnTo 11 = .ok (.invokevirtual 41, 3) := by decide +kernel
theorem d_Ra_turnTo_14 : decode c_Ra_turnTo 14 = .ok (.istore 4, 2) := by decide +kernel
theorem d_Ra_turnTo_16 : decode c_Ra_turnTo 16 = .ok (.aload_n 0, 1) := by decide +kernel
theorem d_Ra_turnTo_17 : decode c_Ra_turnTo 17 = .ok (.getfield 27, 3) := by decide +kernel
theorem d_Ra_turnTo_20 : decode c_Ra_turnTo 20 = .ok (.iload_n 3, 1) := by decide +kernel
theorem d_Ra_turnTo_21 : decode c_Ra_turnTo 21 = .ok (.iload 4, 2) := by decide +kernel
theorem d_Ra_turnTo_23 : decode c_Ra_turnTo 23 = .ok (.iconst (-1), 1) := by decide +kernel
theorem d_Ra_turnTo_24 : decode c_Ra_turnTo 24 = .ok (.if_icmp .ne 7, 3) := by decide +kernel
theorem d_Ra_turnTo_27 : decode c_Ra_turnTo 27 = .ok (.lconst 1, 1) := by decide +kernel
theorem d_Ra_turnTo_28 : decode c_Ra_turnTo 28 = .ok (.goto 10, 3) := by decide +kernel
theorem d_Ra_turnTo_31 : decode c_Ra_turnTo 31 = .ok (.aload_n 0, 1) := by decide +kernel
theorem d_Ra_turnTo_32 : decode c_Ra_turnTo 32 = .ok (.getfield 20, 3) := by decide +kernel
theorem d_Ra_turnTo_35 : decode c_Ra_turnTo 35 = .ok (.iload 4, 2) := by decide +kernel
theorem d_Ra_turnTo_37 : decode c_Ra_turnTo 37 = .ok (.laload, 1) := by decide +kernel
theorem d_Ra_turnTo_38 : decode c_Ra_turnTo 38 = .ok (.lastore, 1) := by decide +kernel
theorem d_Ra_turnTo_39 : decode c_Ra_turnTo 39 = .ok (.aload_n 0, 1) := by decide +kernel
theorem d_Ra_turnTo_40 : decode c_Ra_turnTo 40 = .ok (.getfield 30, 3) := by decide +kernel
theorem d_Ra_turnTo_43 : decode c_Ra_turnTo 43 = .ok (.iload_n 3, 1) := by decide +kernel
theorem d_Ra_turnTo_44 : decode c_Ra_turnTo 44 = .ok (.iload 4, 2) := by decide +kernel
theorem d_Ra_turnTo_46 : decode c_Ra_turnTo 46 = .ok (.iconst (-1), 1) := by decide +kernel
theorem d_Ra_turnTo_47 : decode c_Ra_turnTo 47 = .ok (.if_icmp .ne 7, 3) := by decide +kernel
theorem d_Ra_turnTo_50 : decode c_Ra_turnTo 50 = .ok (.lconst 1, 1) := by decide +kernel
theorem d_Ra_turnTo_51 : decode c_Ra_turnTo 51 = .ok (.goto 10, 3) := by decide +kernel
theorem d_Ra_turnTo_54 : decode c_Ra_turnTo 54 = .ok (.aload_n 0, 1) := by decide +kernel
theorem d_Ra_turnTo_55 : decode c_Ra_turnTo 55 = .ok (.getfield 24, 3) := by decide +kernel
theorem d_Ra_turnTo_58 : decode c_Ra_turnTo 58 = .ok (.iload 4, 2) := by decide +kernel
theorem d_Ra_turnTo_60 : decode c_Ra_turnTo 60 = .ok (.laload, 1) := by decide +kernel
theorem d_Ra_turnTo_61 : decode c_Ra_turnTo 61 = .ok (.lastore, 1) := by decide +kernel
theorem d_Ra_turnTo_62 : decode c_Ra_turnTo 62 = .ok (.iinc 3 1, 3) := by decide +kernel
theorem d_Ra_turnTo_65 : decode c_Ra_turnTo 65 = .ok (.goto (-63), 3) := by decide +kernel
theorem d_Ra_turnTo_68 : decode c_Ra_turnTo 68 = .ok (.return_, 1) := by decide +kernel
theorem d_Ra_latestSlot_0 : decode c_Ra_latestSlot 0 = .ok (.iconst (-1), 1) := by decide +kernel
theorem d_Ra_latestSlot_1 : decode c_Ra_latestSlot 1 = .ok (.istore 4, 2) := by decide +kernel
theorem d_Ra_latestSlot_3 : decode c_Ra_latestSlot 3 = .ok (.aload_n 0, 1) := by decide +kernel
theorem d_Ra_latestSlot_4 : decode c_Ra_latestSlot 4 = .ok (.getfield 14, 3) := by decide +kernel
theorem d_Ra_latestSlot_7 : decode c_Ra_latestSlot 7 = .ok (.iload_n 1, 1) := by decide +kernel
theorem d_Ra_latestSlot_8 : decode c_Ra_latestSlot 8 = .ok (.invokevirtual 44, 3) := by decide +kernel
theorem d_Ra_latestSlot_11 : decode c_Ra_latestSlot 11 = .ok (.istore 5, 2) := by decide +kernel
theorem d_Ra_latestSlot_13 : decode c_Ra_latestSlot 13 = .ok (.aload_n 0, 1) := by decide +kernel
theorem d_Ra_latestSlot_14 : decode c_Ra_latestSlot 14 = .ok (.getfield 14, 3) := by decide +kernel
theorem d_Ra_latestSlot_17 : decode c_Ra_latestSlot 17 = .ok (.iload_n 1, 1) := by decide +kernel
theorem d_Ra_latestSlot_18 : decode c_Ra_latestSlot 18 = .ok (.invokevirtual 48, 3) := by decide +kernel
theorem d_Ra_latestSlot_21 : decode c_Ra_latestSlot 21 = .ok (.istore 6, 2) := by decide +kernel
theorem d_Ra_latestSlot_23 : decode c_Ra_latestSlot 23 = .ok (.iload 6, 2) := by decide +kernel
theorem d_Ra_latestSlot_25 : decode c_Ra_latestSlot 25 = .ok (.iload 5, 2) := by decide +kernel
theorem d_Ra_latestSlot_27 : decode c_Ra_latestSlot 27 = .ok (.if_icmp .ge 54, 3) := by decide +kernel
theorem d_Ra_latestSlot_30 : decode c_Ra_latestSlot 30 = .ok (.aload_n 0, 1) := by decide +kernel
theorem d_Ra_latestSlot_31 : decode c_Ra_latestSlot 31 = .ok (.getfield 14, 3) := by decide +kernel
theorem d_Ra_latestSlot_34 : decode c_Ra_latestSlot 34 = .ok (.getfield 51, 3) := by decide +kernel
theorem d_Ra_latestSlot_37 : decode c_Ra_latestSlot 37 = .ok (.iload 6, 2) := by decide +kernel
theorem d_Ra_latestSlot_39 : decode c_Ra_latestSlot 39 = .ok (.laload, 1) := by decide +kernel
theorem d_Ra_latestSlot_40 : decode c_Ra_latestSlot 40 = .ok (.lstore 7, 2) := by decide +kernel
theorem d_Ra_latestSlot_42 : decode c_Ra_latestSlot 42 = .ok (.lload 7, 2) := by decide +kernel
theorem d_Ra_latestSlot_44 : decode c_Ra_latestSlot 44 = .ok (.lload_n 2, 1) := by decide +kernel
theorem d_Ra_latestSlot_45 : decode c_Ra_latestSlot 45 = .ok (.lcmp, 1) := by decide +kernel
theorem d_Ra_latestSlot_46 : decode c_Ra_latestSlot 46 = .ok (.ifCond .gt 29, 3) := by decide +kernel
theorem d_Ra_latestSlot_49 : decode c_Ra_latestSlot 49 = .ok (.iload 4, 2) := by decide +kernel
theorem d_Ra_latestSlot_51 : decode c_Ra_latestSlot 51 = .ok (.iconst (-1), 1) := by decide +kernel
theorem d_Ra_latestSlot_52 : decode c_Ra_latestSlot 52 = .ok (.if_icmp .eq 19, 3) := by decide +kernel
theorem d_Ra_latestSlot_55 : decode c_Ra_latestSlot 55 = .ok (.lload 7, 2) := by decide +kernel
theorem d_Ra_latestSlot_57 : decode c_Ra_latestSlot 57 = .ok (.aload_n 0, 1) := by decide +kernel
theorem d_Ra_latestSlot_58 : decode c_Ra_latestSlot 58 = .ok (.getfield 14, 3) := by decide +kernel
theorem d_Ra_latestSlot_61 : decode c_Ra_latestSlot 61 = .ok (.getfield 51, 3) := by decide +kernel
theorem d_Ra_latestSlot_64 : decode c_Ra_latestSlot 64 = .ok (.iload 4, 2) := by decide +kernel
theorem d_Ra_latestSlot_66 : decode c_Ra_latestSlot 66 = .ok (.laload, 1) := by decide +kernel
theorem d_Ra_latestSlot_67 : decode c_Ra_latestSlot 67 = .ok (.lcmp, 1) := by decide +kernel
theorem d_Ra_latestSlot_68 : decode c_Ra_latestSlot 68 = .ok (.ifCond .le 7, 3) := by decide +kernel
theorem d_Ra_latestSlot_71 : decode c_Ra_latestSlot 71 = .ok (.iload 6, 2) := by decide +kernel
theorem d_Ra_latestSlot_73 : decode c_Ra_latestSlot 73 = .ok (.istore 4, 2) := by decide +kernel
theorem d_Ra_latestSlot_75 : decode c_Ra_latestSlot 75 = .ok (.iinc 6 1, 3) := by decide +kernel
theorem d_Ra_latestSlot_78 : decode c_Ra_latestSlot 78 = .ok (.goto (-55), 3) := by decide +kernel
theorem d_Ra_latestSlot_81 : decode c_Ra_latestSlot 81 = .ok (.iload 4, 2) := by decide +kernel
theorem d_Ra_latestSlot_83 : decode c_Ra_latestSlot 83 = .ok (.ireturn, 1) := by decide +kernel
theorem d_Ra_exchange_0 : decode c_Ra_exchange 0 = .ok (.lload_n 2, 1) := by decide +kernel
theorem d_Ra_exchange_1 : decode c_Ra_exchange 1 = .ok (.aload_n 0, 1) := by decide +kernel
theorem d_Ra_exchange_2 : decode c_Ra_exchange 2 = .ok (.getfield 27, 3) := by decide +kernel
theorem d_Ra_exchange_5 : decode c_Ra_exchange 5 = .ok (.iload_n 1, 1) := by decide +kernel
theorem d_Ra_exchange_6 : decode c_Ra_exchange 6 = .ok (.laload, 1) := by decide +kernel
theorem d_Ra_exchange_7 : decode c_Ra_exchange 7 = .ok (.lmul, 1) := by decide +kernel
theorem d_Ra_exchange_8 : decode c_Ra_exchange 8 = .ok (.aload_n 0, 1) := by decide +kernel
theorem d_Ra_exchange_9 : decode c_Ra_exchange 9 = .ok (.getfield 30, 3) := by decide +kernel
theorem d_Ra_exchange_12 : decode c_Ra_exchange 12 = .ok (.iload_n 1, 1) := by decide +kernel
theorem d_Ra_exchange_13 : decode c_Ra_exchange 13 = .ok (.laload, 1) := by decide +kernel
theorem d_Ra_exchange_14 : decode c_Ra_exchange 14 = .ok (.invokestatic 54, 3) := by decide +kernel
theorem d_Ra_exchange_17 : decode c_Ra_exchange 17 = .ok (.lreturn, 1) := by decide +kernel
theorem d_St_init_0 : decode c_St_init 0 = .ok (.aload_n 0, 1) := by decide +kernel
theorem d_St_init_1 : decode c_St_init 1 = .ok (.invokespecial 3, 3) := by decide +kernel
theorem d_St_init_4 : decode c_St_init 4 = .ok (.aload_n 0, 1) := by decide +kernel
theorem d_St_init_5 : decode c_St_init 5 = .ok (.new 9, 3) := by decide +kernel
theorem d_St_init_8 : decode c_St_init 8 = .ok (.dup, 1) := by decide +kernel
theorem d_St_init_9 : decode c_St_init 9 = .ok (.sipush 248, 3) := by decide +kernel
theorem d_St_init_12 : decode c_St_init 12 = .ok (.invokespecial 11, 3) := by decide +kernel
theorem d_St_init_15 : decode c_St_init 15 = .ok (.putfield 14, 3) := by decide +kernel
theorem d_St_init_18 : decode c_St_init 18 = .ok (.aload_n 0, 1) := by decide +kernel
theorem d_St_init_19 : decode c_St_init 19 = .ok (.sipush 1488, 3) := by decide +kernel
theorem d_St_init_22 : decode c_St_init 22 = .ok (.newarray .long, 2) := by decide +kernel
theorem d_St_init_24 : decode c_St_init 24 = .ok (.putfield 20, 3) := by decide +kernel
theorem d_St_init_27 : decode c_St_init 27 = .ok (.return_, 1) := by decide +kernel
theorem d_St_firstSlot_0 : decode c_St_firstSlot 0 = .ok (.aload_n 0, 1) := by decide +kernel
theorem d_St_firstSlot_1 : decode c_St_firstSlot 1 = .ok (.getfield 14, 3) := by decide +kernel
theorem d_St_firstSlot_4 : decode c_St_firstSlot 4 = .ok (.iload_n 1, 1) := by decide +kernel
theorem d_St_firstSlot_5 : decode c_St_firstSlot 5 = .ok (.bipush 8, 2) := by decide +kernel
theorem d_St_firstSlot_7 : decode c_St_firstSlot 7 = .ok (.imul, 1) := by decide +kernel
theorem d_St_firstSlot_8 : decode c_St_firstSlot 8 = .ok (.iload_n 2, 1) := by decide +kernel
theorem d_St_firstSlot_9 : decode c_St_firstSlot 9 = .ok (.iadd, 1) := by decide +kernel
theorem d_St_firstSlot_10 : decode c_St_firstSlot 10 = .ok (.invokevirtual 24, 3) := by decide +kernel
theorem d_St_firstSlot_13 : decode c_St_firstSlot 13 = .ok (.ireturn, 1) := by decide +kernel
theorem d_St_endSlot_0 : decode c_St_endSlot 0 = .ok (.aload_n 0, 1) := by decide +kernel
theorem d_St_endSlot_1 : decode c_St_endSlot 1 = .ok (.getfield 14, 3) := by decide +kernel
theorem d_St_endSlot_4 : decode c_St_endSlot 4 = .ok (.iload_n 1, 1) := by decide +kernel
theorem d_St_endSlot_5 : decode c_St_endSlot 5 = .ok (.bipush 8, 2) := by decide +kernel
theorem d_St_endSlot_7 : decode c_St_endSlot 7 = .ok (.imul, 1) := by decide +kernel
theorem d_St_endSlot_8 : decode c_St_endSlot 8 = .ok (.iload_n 2, 1) := by decide +kernel
theorem d_St_endSlot_9 : decode c_St_endSlot 9 = .ok (.iadd, 1) := by decide +kernel
theorem d_St_endSlot_10 : decode c_St_endSlot 10 = .ok (.invokevirtual 28, 3) := by decide +kernel
theorem d_St_endSlot_13 : decode c_St_endSlot 13 = .ok (.ireturn, 1) := by decide +kernel
theorem d_St_fromAt_0 : decode c_St_fromAt 0 = .ok (.aload_n 0, 1) := by decide +kernel
theorem d_St_fromAt_1 : decode c_St_fromAt 1 = .ok (.getfield 14, 3) := by decide +kernel
theorem d_St_fromAt_4 : decode c_St_fromAt 4 = .ok (.getfield 31, 3) := by decide +kernel
theorem d_St_fromAt_7 : decode c_St_fromAt 7 = .ok (.iload_n 1, 1) := by decide +kernel
theorem d_St_fromAt_8 : decode c_St_fromAt 8 = .ok (.laload, 1) := by decide +kernel
theorem d_St_fromAt_9 : decode c_St_fromAt 9 = .ok (.lreturn, 1) := by decide +kernel
theorem d_St_tell_0 : decode c_St_tell 0 = .ok (.aload_n 0, 1) := by decide +kernel
theorem d_St_tell_1 : decode c_St_tell 1 = .ok (.getfield 14, 3) := by decide +kernel
theorem d_St_tell_4 : decode c_St_tell 4 = .ok (.iload_n 1, 1) := by decide +kernel
theorem d_St_tell_5 : decode c_St_tell 5 = .ok (.bipush 8, 2) := by decide +kernel
theorem d_St_tell_7 : decode c_St_tell 7 = .ok (.imul, 1) := by decide +kernel
theorem d_St_tell_8 : decode c_St_tell 8 = .ok (.iload_n 2, 1) := by decide +kernel
theorem d_St_tell_9 : decode c_St_tell 9 = .ok (.iadd, 1) := by decide +kernel
theorem d_St_tell_10 : decode c_St_tell 10 = .ok (.lload_n 3, 1) := by decide +kernel
theorem d_St_tell_11 : decode c_St_tell 11 = .ok (.invokevirtual 34, 3) := by decide +kernel
theorem d_St_tell_14 : decode c_St_tell 14 = .ok (.istore 7, 2) := by decide +kernel
theorem d_St_tell_16 : decode c_St_tell 16 = .ok (.iload 7, 2) := by decide +kernel
theorem d_St_tell_18 : decode c_St_tell 18 = .ok (.iconst (-1), 1) := by decide +kernel
theorem d_St_tell_19 : decode c_St_tell 19 = .ok (.if_icmp .eq 21, 3) := by decide +kernel
theorem d_St_tell_22 : decode c_St_tell 22 = .ok (.aload_n 0, 1) := by decide +kernel
theorem d_St_tell_23 : decode c_St_tell 23 = .ok (.getfield 20, 3) := by decide +kernel
theorem d_St_tell_26 : decode c_St_tell 26 = .ok (.iload 7, 2) := by decide +kernel
theorem d_St_tell_28 : decode c_St_tell 28 = .ok (.lload 5, 2) := by decide +kernel
theorem d_St_tell_30 : decode c_St_tell 30 = .ok (.invokestatic 38, 3) := by decide +kernel
theorem d_St_tell_33 : decode c_St_tell 33 = .ok (.ifCond .eq 7, 3) := by decide +kernel
theorem d_St_tell_36 : decode c_St_tell 36 = .ok (.iconst 1, 1) := by decide +kernel
theorem d_St_tell_37 : decode c_St_tell 37 = .ok (.goto 4, 3) := by decide +kernel
theorem d_St_tell_40 : decode c_St_tell 40 = .ok (.iconst 0, 1) := by decide +kernel
theorem d_St_tell_41 : decode c_St_tell 41 = .ok (.ireturn, 1) := by decide +kernel
theorem d_Y_init_0 : decode c_Y_init 0 = .ok (.aload_n 0, 1) := by decide +kernel
theorem d_Y_init_1 : decode c_Y_init 1 = .ok (.invokespecial 3, 3) := by decide +kernel
theorem d_Y_init_4 : decode c_Y_init 4 = .ok (.aload_n 0, 1) := by decide +kernel
theorem d_Y_init_5 : decode c_Y_init 5 = .ok (.bipush 8, 2) := by decide +kernel
theorem d_Y_init_7 : decode c_Y_init 7 = .ok (.newarray .long, 2) := by decide +kernel
theorem d_Y_init_9 : decode c_Y_init 9 = .ok (.putfield 9, 3) := by decide +kernel
theorem d_Y_init_12 : decode c_Y_init 12 = .ok (.aload_n 0, 1) := by decide +kernel
theorem d_Y_init_13 : decode c_Y_init 13 = .ok (.bipush 8, 2) := by decide +kernel
theorem d_Y_init_15 : decode c_Y_init 15 = .ok (.newarray .long, 2) := by decide +kernel
theorem d_Y_init_17 : decode c_Y_init 17 = .ok (.putfield 15, 3) := by decide +kernel
theorem d_Y_init_20 : decode c_Y_init 20 = .ok (.aload_n 0, 1) := by decide +kernel
theorem d_Y_init_21 : decode c_Y_init 21 = .ok (.iconst 0, 1) := by decide +kernel
theorem d_Y_init_22 : decode c_Y_init 22 = .ok (.putfield 18, 3) := by decide +kernel
theorem d_Y_init_25 : decode c_Y_init 25 = .ok (.return_, 1) := by decide +kernel
theorem d_Y_add_0 : decode c_Y_add 0 = .ok (.aload_n 0, 1) := by decide +kernel
theorem d_Y_add_1 : decode c_Y_add 1 = .ok (.getfield 18, 3) := by decide +kernel
theorem d_Y_add_4 : decode c_Y_add 4 = .ok (.bipush 8, 2) := by decide +kernel
theorem d_Y_add_6 : decode c_Y_add 6 = .ok (.if_icmp .lt 5, 3) := by decide +kernel
theorem d_Y_add_9 : decode c_Y_add 9 = .ok (.iconst 0, 1) := by decide +kernel
theorem d_Y_add_10 : decode c_Y_add 10 = .ok (.ireturn, 1) := by decide +kernel
theorem d_Y_add_11 : decode c_Y_add 11 = .ok (.aload_n 0, 1) := by decide +kernel
theorem d_Y_add_12 : decode c_Y_add 12 = .ok (.getfield 9, 3) := by decide +kernel
theorem d_Y_add_15 : decode c_Y_add 15 = .ok (.aload_n 0, 1) := by decide +kernel
theorem d_Y_add_16 : decode c_Y_add 16 = .ok (.getfield 18, 3) := by decide +kernel
theorem d_Y_add_19 : decode c_Y_add 19 = .ok (.lload_n 1, 1) := by decide +kernel
theorem d_Y_add_20 : decode c_Y_add 20 = .ok (.lastore, 1) := by decide +kernel
theorem d_Y_add_21 : decode c_Y_add 21 = .ok (.aload_n 0, 1) := by decide +kernel
theorem d_Y_add_22 : decode c_Y_add 22 = .ok (.getfield 15, 3) := by decide +kernel
theorem d_Y_add_25 : decode c_Y_add 25 = .ok (.aload_n 0, 1) := by decide +kernel
theorem d_Y_add_26 : decode c_Y_add 26 = .ok (.getfield 18, 3) := by decide +kernel
theorem d_Y_add_29 : decode c_Y_add 29 = .ok (.lload_n 3, 1) := by decide +kernel
theorem d_Y_add_30 : decode c_Y_add 30 = .ok (.lastore, 1) := by decide +kernel
theorem d_Y_add_31 : decode c_Y_add 31 = .ok (.aload_n 0, 1) := by decide +kernel
theorem d_Y_add_32 : decode c_Y_add 32 = .ok (.dup, 1) := by decide +kernel
theorem d_Y_add_33 : decode c_Y_add 33 = .ok (.getfield 18, 3) := by decide +kernel
theorem d_Y_add_36 : decode c_Y_add 36 = .ok (.iconst 1, 1) := by decide +kernel
theorem d_Y_add_37 : decode c_Y_add 37 = .ok (.iadd, 1) := by decide +kernel
theorem d_Y_add_38 : decode c_Y_add 38 = .ok (.putfield 18, 3) := by decide +kernel
theorem d_Y_add_41 : decode c_Y_add 41 = .ok (.iconst 1, 1) := by decide +kernel
theorem d_Y_add_42 : decode c_Y_add 42 = .ok (.ireturn, 1) := by decide +kernel
theorem d_Y_startedFor_0 : decode c_Y_startedFor 0 = .ok (.lload_n 1, 1) := by decide +kernel
theorem d_Y_startedFor_1 : decode c_Y_startedFor 1 = .ok (.lstore_n 3, 1) := by decide +kernel
theorem d_Y_startedFor_2 : decode c_Y_startedFor 2 = .ok (.aload_n 0, 1) := by decide +kernel
theorem d_Y_startedFor_3 : decode c_Y_startedFor 3 = .ok (.getfield 18, 3) := by decide +kernel
theorem d_Y_startedFor_6 : decode c_Y_startedFor 6 = .ok (.iconst 1, 1) := by decide +kernel
theorem d_Y_startedFor_7 : decode c_Y_startedFor 7 = .ok (.isub, 1) := by decide +kernel
theorem d_Y_startedFor_8 : decode c_Y_startedFor 8 = .ok (.istore 5, 2) := by decide +kernel
theorem d_Y_startedFor_10 : decode c_Y_startedFor 10 = .ok (.iload 5, 2) := by decide +kernel
theorem d_Y_startedFor_12 : decode c_Y_startedFor 12 = .ok (.ifCond .lt 37, 3) := by decide +kernel
theorem d_Y_startedFor_15 : decode c_Y_startedFor 15 = .ok (.lload_n 3, 1) := by decide +kernel
theorem d_Y_startedFor_16 : decode c_Y_startedFor 16 = .ok (.ldc2_w 22, 3) := by decide +kernel
theorem d_Y_startedFor_19 : decode c_Y_startedFor 19 = .ok (.lcmp, 1) := by decide +kernel
theorem d_Y_startedFor_20 : decode c_Y_startedFor 20 = .ok (.ifCond .gt 29, 3) := by decide +kernel
theorem d_Y_startedFor_23 : decode c_Y_startedFor 23 = .ok (.lload_n 3, 1) := by decide +kernel
theorem d_Y_startedFor_24 : decode c_Y_startedFor 24 = .ok (.aload_n 0, 1) := by decide +kernel
theorem d_Y_startedFor_25 : decode c_Y_startedFor 25 = .ok (.getfield 15, 3) := by decide +kernel
theorem d_Y_startedFor_28 : decode c_Y_startedFor 28 = .ok (.iload 5, 2) := by decide +kernel
theorem d_Y_startedFor_30 : decode c_Y_startedFor 30 = .ok (.laload, 1) := by decide +kernel
theorem d_Y_startedFor_31 : decode c_Y_startedFor 31 = .ok (.lmul, 1) := by decide +kernel
theorem d_Y_startedFor_32 : decode c_Y_startedFor 32 = .ok (.aload_n 0, 1) := by decide +kernel
theorem d_Y_startedFor_33 : decode c_Y_startedFor 33 = .ok (.getfield 9, 3) := by decide +kernel
theorem d_Y_startedFor_36 : decode c_Y_startedFor 36 = .ok (.iload 5, 2) := by decide +kernel
theorem d_Y_startedFor_38 : decode c_Y_startedFor 38 = .ok (.laload, 1) := by decide +kernel
theorem d_Y_startedFor_39 : decode c_Y_startedFor 39 = .ok (.invokestatic 24, 3) := by decide +kernel
theorem d_Y_startedFor_42 : decode c_Y_startedFor 42 = .ok (.lstore_n 3, 1) := by decide +kernel
theorem d_Y_startedFor_43 : decode c_Y_startedFor 43 = .ok (.iinc 5 (-1), 3) := by decide +kernel
theorem d_Y_startedFor_46 : decode c_Y_startedFor 46 = .ok (.goto (-36), 3) := by decide +kernel
theorem d_Y_startedFor_49 : decode c_Y_startedFor 49 = .ok (.lload_n 3, 1) := by decide +kernel
theorem d_Y_startedFor_50 : decode c_Y_startedFor 50 = .ok (.lreturn, 1) := by decide +kernel
theorem d_C_init_0 : decode c_C_init 0 = .ok (.aload_n 0, 1) := by decide +kernel
theorem d_C_init_1 : decode c_C_init 1 = .ok (.invokespecial 5, 3) := by decide +kernel
theorem d_C_init_4 : decode c_C_init 4 = .ok (.aload_n 0, 1) := by decide +kernel
theorem d_C_init_5 : decode c_C_init 5 = .ok (.bipush 30, 2) := by decide +kernel
theorem d_C_init_7 : decode c_C_init 7 = .ok (.newarray .long, 2) := by decide +kernel
theorem d_C_init_9 : decode c_C_init 9 = .ok (.putfield 11, 3) := by decide +kernel
theorem d_C_init_12 : decode c_C_init 12 = .ok (.aload_n 0, 1) := by decide +kernel
theorem d_C_init_13 : decode c_C_init 13 = .ok (.bipush 30, 2) := by decide +kernel
theorem d_C_init_15 : decode c_C_init 15 = .ok (.newarray .long, 2) := by decide +kernel
theorem d_C_init_17 : decode c_C_init 17 = .ok (.putfield 15, 3) := by decide +kernel
theorem d_C_init_20 : decode c_C_init 20 = .ok (.aload_n 0, 1) := by decide +kernel
theorem d_C_init_21 : decode c_C_init 21 = .ok (.bipush 30, 2) := by decide +kernel
theorem d_C_init_23 : decode c_C_init 23 = .ok (.newarray .int, 2) := by decide +kernel
theorem d_C_init_25 : decode c_C_init 25 = .ok (.putfield 18, 3) := by decide +kernel
theorem d_C_init_28 : decode c_C_init 28 = .ok (.aload_n 0, 1) := by decide +kernel
theorem d_C_init_29 : decode c_C_init 29 = .ok (.bipush 8, 2) := by decide +kernel
theorem d_C_init_31 : decode c_C_init 31 = .ok (.newarray .long, 2) := by decide +kernel
theorem d_C_init_33 : decode c_C_init 33 = .ok (.putfield 22, 3) := by decide +kernel
theorem d_C_init_36 : decode c_C_init 36 = .ok (.aload_n 0, 1) := by decide +kernel
theorem d_C_init_37 : decode c_C_init 37 = .ok (.bipush 8, 2) := by decide +kernel
theorem d_C_init_39 : decode c_C_init 39 = .ok (.newarray .long, 2) := by decide +kernel
theorem d_C_init_41 : decode c_C_init 41 = .ok (.putfield 25, 3) := by decide +kernel
theorem d_C_init_44 : decode c_C_init 44 = .ok (.aload_n 0, 1) := by decide +kernel
theorem d_C_init_45 : decode c_C_init 45 = .ok (.new 28, 3) := by decide +kernel
theorem d_C_init_48 : decode c_C_init 48 = .ok (.dup, 1) := by decide +kernel
theorem d_C_init_49 : decode c_C_init 49 = .ok (.invokespecial 30, 3) := by decide +kernel
theorem d_C_init_52 : decode c_C_init 52 = .ok (.putfield 31, 3) := by decide +kernel
theorem d_C_init_55 : decode c_C_init 55 = .ok (.aload_n 0, 1) := by decide +kernel
theorem d_C_init_56 : decode c_C_init 56 = .ok (.new 35, 3) := by decide +kernel
theorem d_C_init_59 : decode c_C_init 59 = .ok (.dup, 1) := by decide +kernel
theorem d_C_init_60 : decode c_C_init 60 = .ok (.invokespecial 37, 3) := by decide +kernel
theorem d_C_init_63 : decode c_C_init 63 = .ok (.putfield 38, 3) := by decide +kernel
theorem d_C_init_66 : decode c_C_init 66 = .ok (.aload_n 0, 1) := by decide +kernel
theorem d_C_init_67 : decode c_C_init 67 = .ok (.new 42, 3) := by decide +kernel
theorem d_C_init_70 : decode c_C_init 70 = .ok (.dup, 1) := by decide +kernel
theorem d_C_init_71 : decode c_C_init 71 = .ok (.invokespecial 44, 3) := by decide +kernel
theorem d_C_init_74 : decode c_C_init 74 = .ok (.putfield 45, 3) := by decide +kernel
theorem d_C_init_77 : decode c_C_init 77 = .ok (.aload_n 0, 1) := by decide +kernel
theorem d_C_init_78 : decode c_C_init 78 = .ok (.iconst 0, 1) := by decide +kernel
theorem d_C_init_79 : decode c_C_init 79 = .ok (.putfield 49, 3) := by decide +kernel
theorem d_C_init_82 : decode c_C_init 82 = .ok (.aload_n 0, 1) := by decide +kernel
theorem d_C_init_83 : decode c_C_init 83 = .ok (.lconst 0, 1) := by decide +kernel
theorem d_C_init_84 : decode c_C_init 84 = .ok (.putfield 53, 3) := by decide +kernel
theorem d_C_init_87 : decode c_C_init 87 = .ok (.aload_n 0, 1) := by decide +kernel
theorem d_C_init_88 : decode c_C_init 88 = .ok (.new 57, 3) := by decide +kernel
theorem d_C_init_91 : decode c_C_init 91 = .ok (.dup, 1) := by decide +kernel
theorem d_C_init_92 : decode c_C_init 92 = .ok (.invokespecial 59, 3) := by decide +kernel
theorem d_C_init_95 : decode c_C_init 95 = .ok (.putfield 60, 3) := by decide +kernel
theorem d_C_init_98 : decode c_C_init 98 = .ok (.aload_n 0, 1) := by decide +kernel
theorem d_C_init_99 : decode c_C_init 99 = .ok (.new 57, 3) := by decide +kernel
theorem d_C_init_102 : decode c_C_init 102 = .ok (.dup, 1) := by decide +kernel
theorem d_C_init_103 : decode c_C_init 103 = .ok (.invokespecial 59, 3) := by decide +kernel
theorem d_C_init_106 : decode c_C_init 106 = .ok (.putfield 64, 3) := by decide +kernel
theorem d_C_init_109 : decode c_C_init 109 = .ok (.aload_n 0, 1) := by decide +kernel
theorem d_C_init_110 : decode c_C_init 110 = .ok (.new 57, 3) := by decide +kernel
theorem d_C_init_113 : decode c_C_init 113 = .ok (.dup, 1) := by decide +kernel
theorem d_C_init_114 : decode c_C_init 114 = .ok (.invokespecial 59, 3) := by decide +kernel
theorem d_C_init_117 : decode c_C_init 117 = .ok (.putfield 67, 3) := by decide +kernel
theorem d_C_init_120 : decode c_C_init 120 = .ok (.return_, 1) := by decide +kernel
theorem d_C_part_0 : decode c_C_part 0 = .ok (.aload_n 0, 1) := by decide +kernel
theorem d_C_part_1 : decode c_C_part 1 = .ok (.getfield 49, 3) := by decide +kernel
theorem d_C_part_4 : decode c_C_part 4 = .ok (.bipush 30, 2) := by decide +kernel
theorem d_C_part_6 : decode c_C_part 6 = .ok (.if_icmp .lt 5, 3) := by decide +kernel
theorem d_C_part_9 : decode c_C_part 9 = .ok (.iconst (-1), 1) := by decide +kernel
theorem d_C_part_10 : decode c_C_part 10 = .ok (.ireturn, 1) := by decide +kernel
theorem d_C_part_11 : decode c_C_part 11 = .ok (.aload_n 0, 1) := by decide +kernel
theorem d_C_part_12 : decode c_C_part 12 = .ok (.getfield 49, 3) := by decide +kernel
theorem d_C_part_15 : decode c_C_part 15 = .ok (.istore_n 1, 1) := by decide +kernel
theorem d_C_part_16 : decode c_C_part 16 = .ok (.aload_n 0, 1) := by decide +kernel
theorem d_C_part_17 : decode c_C_part 17 = .ok (.dup, 1) := by decide +kernel
theorem d_C_part_18 : decode c_C_part 18 = .ok (.getfield 49, 3) := by decide +kernel
theorem d_C_part_21 : decode c_C_part 21 = .ok (.iconst 1, 1) := by decide +kernel
theorem d_C_part_22 : decode c_C_part 22 = .ok (.iadd, 1) := by decide +kernel
theorem d_C_part_23 : decode c_C_part 23 = .ok (.putfield 49, 3) := by decide +kernel
theorem d_C_part_26 : decode c_C_part 26 = .ok (.iload_n 1, 1) := by decide +kernel
theorem d_C_part_27 : decode c_C_part 27 = .ok (.ireturn, 1) := by decide +kernel
theorem d_C_price_0 : decode c_C_price 0 = .ok (.iload_n 1, 1) := by decide +kernel
theorem d_C_price_1 : decode c_C_price 1 = .ok (.aload_n 0, 1) := by decide +kernel
theorem d_C_price_2 : decode c_C_price 2 = .ok (.getfield 49, 3) := by decide +kernel
theorem d_C_price_5 : decode c_C_price 5 = .ok (.invokestatic 70, 3) := by decide +kernel
theorem d_C_price_8 : decode c_C_price 8 = .ok (.iload_n 2, 1) := by decide +kernel
theorem d_C_price_9 : decode c_C_price 9 = .ok (.bipush 8, 2) := by decide +kernel
theorem d_C_price_11 : decode c_C_price 11 = .ok (.invokestatic 70, 3) := by decide +kernel
theorem d_C_price_14 : decode c_C_price 14 = .ok (.lload_n 3, 1) := by decide +kernel
theorem d_C_price_15 : decode c_C_price 15 = .ok (.lload 5, 2) := by decide +kernel
theorem d_C_price_17 : decode c_C_price 17 = .ok (.invokestatic 74, 3) := by decide +kernel
theorem d_C_price_20 : decode c_C_price 20 = .ok (.aload_n 0, 1) := by decide +kernel
theorem d_C_price_21 : decode c_C_price 21 = .ok (.getfield 31, 3) := by decide +kernel
theorem d_C_price_24 : decode c_C_price 24 = .ok (.iload_n 1, 1) := by decide +kernel
theorem d_C_price_25 : decode c_C_price 25 = .ok (.iload_n 2, 1) := by decide +kernel
theorem d_C_price_26 : decode c_C_price 26 = .ok (.lload_n 3, 1) := by decide +kernel
theorem d_C_price_27 : decode c_C_price 27 = .ok (.lload 5, 2) := by decide +kernel
theorem d_C_price_29 : decode c_C_price 29 = .ok (.invokevirtual 78, 3) := by decide +kernel
theorem d_C_price_32 : decode c_C_price 32 = .ok (.ireturn, 1) := by decide +kernel
theorem d_C_uses_0 : decode c_C_uses 0 = .ok (.iload_n 1, 1) := by decide +kernel
theorem d_C_uses_1 : decode c_C_uses 1 = .ok (.aload_n 0, 1) := by decide +kernel
theorem d_C_uses_2 : decode c_C_uses 2 = .ok (.getfield 49, 3) := by decide +kernel
theorem d_C_uses_5 : decode c_C_uses 5 = .ok (.invokestatic 70, 3) := by decide +kernel
theorem d_C_uses_8 : decode c_C_uses 8 = .ok (.lload_n 2, 1) := by decide +kernel
theorem d_C_uses_9 : decode c_C_uses 9 = .ok (.lconst 0, 1) := by decide +kernel
theorem d_C_uses_10 : decode c_C_uses 10 = .ok (.ldc2_w 82, 3) := by decide +kernel
theorem d_C_uses_13 : decode c_C_uses 13 = .ok (.invokestatic 84, 3) := by decide +kernel
theorem d_C_uses_16 : decode c_C_uses 16 = .ok (.aload_n 0, 1) := by decide +kernel
theorem d_C_uses_17 : decode c_C_uses 17 = .ok (.getfield 11, 3) := by decide +kernel
theorem d_C_uses_20 : decode c_C_uses 20 = .ok (.iload_n 1, 1) := by decide +kernel
theorem d_C_uses_21 : decode c_C_uses 21 = .ok (.lload_n 2, 1) := by decide +kernel
theorem d_C_uses_22 : decode c_C_uses 22 = .ok (.invokestatic 88, 3) := by decide +kernel
theorem d_C_uses_25 : decode c_C_uses 25 = .ok (.ireturn, 1) := by decide +kernel
theorem d_C_board_0 : decode c_C_board 0 = .ok (.iload_n 1, 1) := by decide +kernel
theorem d_C_board_1 : decode c_C_board 1 = .ok (.bipush 8, 2) := by decide +kernel
theorem d_C_board_3 : decode c_C_board 3 = .ok (.invokestatic 70, 3) := by decide +kernel
theorem d_C_board_6 : decode c_C_board 6 = .ok (.lload_n 2, 1) := by decide +kernel
theorem d_C_board_7 : decode c_C_board 7 = .ok (.lload 4, 2) := by decide +kernel
theorem d_C_board_9 : decode c_C_board 9 = .ok (.invokestatic 74, 3) := by decide +kernel
theorem d_C_board_12 : decode c_C_board 12 = .ok (.aload_n 0, 1) := by decide +kernel
theorem d_C_board_13 : decode c_C_board 13 = .ok (.getfield 31, 3) := by decide +kernel
theorem d_C_board_16 : decode c_C_board 16 = .ok (.bipush 30, 2) := by decide +kernel
theorem d_C_board_18 : decode c_C_board 18 = .ok (.iload_n 1, 1) := by decide +kernel
theorem d_C_board_19 : decode c_C_board 19 = .ok (.lload_n 2, 1) := by decide +kernel
theorem d_C_board_20 : decode c_C_board 20 = .ok (.lload 4, 2) := by decide +kernel
theorem d_C_board_22 : decode c_C_board 22 = .ok (.invokevirtual 78, 3) := by decide +kernel
theorem d_C_board_25 : decode c_C_board 25 = .ok (.ireturn, 1) := by decide +kernel
theorem d_C_assembly_0 : decode c_C_assembly 0 = .ok (.iload_n 1, 1) := by decide +kernel
theorem d_C_assembly_1 : decode c_C_assembly 1 = .ok (.bipush 8, 2) := by decide +kernel
theorem d_C_assembly_3 : decode c_C_assembly 3 = .ok (.invokestatic 70, 3) := by decide +kernel
theorem d_C_assembly_6 : decode c_C_assembly 6 = .ok (.lload_n 2, 1) := by decide +kernel
theorem d_C_assembly_7 : decode c_C_assembly 7 = .ok (.lconst 0, 1) := by decide +kernel
theorem d_C_assembly_8 : decode c_C_assembly 8 = .ok (.ldc2_w 92, 3) := by decide +kernel
theorem d_C_assembly_11 : decode c_C_assembly 11 = .ok (.invokestatic 84, 3) := by decide +kernel
theorem d_C_assembly_14 : decode c_C_assembly 14 = .ok (.aload_n 0, 1) := by decide +kernel
theorem d_C_assembly_15 : decode c_C_assembly 15 = .ok (.getfield 22, 3) := by decide +kernel
theorem d_C_assembly_18 : decode c_C_assembly 18 = .ok (.iload_n 1, 1) := by decide +kernel
theorem d_C_assembly_19 : decode c_C_assembly 19 = .ok (.lload_n 2, 1) := by decide +kernel
theorem d_C_assembly_20 : decode c_C_assembly 20 = .ok (.invokestatic 88, 3) := by decide +kernel
theorem d_C_assembly_23 : decode c_C_assembly 23 = .ok (.ireturn, 1) := by decide +kernel
theorem d_C_placed_0 : decode c_C_placed 0 = .ok (.iload_n 1, 1) := by decide +kernel
theorem d_C_placed_1 : decode c_C_placed 1 = .ok (.bipush 8, 2) := by decide +kernel
theorem d_C_placed_3 : decode c_C_placed 3 = .ok (.invokestatic 70, 3) := by decide +kernel
theorem d_C_placed_6 : decode c_C_placed 6 = .ok (.lload_n 2, 1) := by decide +kernel
theorem d_C_placed_7 : decode c_C_placed 7 = .ok (.lconst 0, 1) := by decide +kernel
theorem d_C_placed_8 : decode c_C_placed 8 = .ok (.ldc2_w 82, 3) := by decide +kernel
theorem d_C_placed_11 : decode c_C_placed 11 = .ok (.invokestatic 84, 3) := by decide +kernel
theorem d_C_placed_14 : decode c_C_placed 14 = .ok (.aload_n 0, 1) := by decide +kernel
theorem d_C_placed_15 : decode c_C_placed 15 = .ok (.getfield 25, 3) := by decide +kernel
theorem d_C_placed_18 : decode c_C_placed 18 = .ok (.iload_n 1, 1) := by decide +kernel
theorem d_C_placed_19 : decode c_C_placed 19 = .ok (.lload_n 2, 1) := by decide +kernel
theorem d_C_placed_20 : decode c_C_placed 20 = .ok (.invokestatic 88, 3) := by decide +kernel
theorem d_C_placed_23 : decode c_C_placed 23 = .ok (.ireturn, 1) := by decide +kernel
theorem d_C_yieldOf_0 : decode c_C_yieldOf 0 = .ok (.lload_n 1, 1) := by decide +kernel
theorem d_C_yieldOf_1 : decode c_C_yieldOf 1 = .ok (.lload_n 3, 1) := by decide +kernel
theorem d_C_yieldOf_2 : decode c_C_yieldOf 2 = .ok (.invokestatic 94, 3) := by decide +kernel
theorem d_C_yieldOf_5 : decode c_C_yieldOf 5 = .ok (.lload_n 1, 1) := by decide +kernel
theorem d_C_yieldOf_6 : decode c_C_yieldOf 6 = .ok (.lconst 1, 1) := by decide +kernel
theorem d_C_yieldOf_7 : decode c_C_yieldOf 7 = .ok (.lload_n 3, 1) := by decide +kernel
theorem d_C_yieldOf_8 : decode c_C_yieldOf 8 = .ok (.invokestatic 84, 3) := by decide +kernel
theorem d_C_yieldOf_11 : decode c_C_yieldOf 11 = .ok (.aload_n 0, 1) := by decide +kernel
theorem d_C_yieldOf_12 : decode c_C_yieldOf 12 = .ok (.getfield 45, 3) := by decide +kernel
theorem d_C_yieldOf_15 : decode c_C_yieldOf 15 = .ok (.lload_n 1, 1) := by decide +kernel
theorem d_C_yieldOf_16 : decode c_C_yieldOf 16 = .ok (.lload_n 3, 1) := by decide +kernel
theorem d_C_yieldOf_17 : decode c_C_yieldOf 17 = .ok (.invokevirtual 97, 3) := by decide +kernel
theorem d_C_yieldOf_20 : decode c_C_yieldOf 20 = .ok (.ireturn, 1) := by decide +kernel
theorem d_C_currency_0 : decode c_C_currency 0 = .ok (.iload_n 1, 1) := by decide +kernel
theorem d_C_currency_1 : decode c_C_currency 1 = .ok (.bipush 8, 2) := by decide +kernel
theorem d_C_currency_3 : decode c_C_currency 3 = .ok (.invokestatic 70, 3) := by decide +kernel
theorem d_C_currency_6 : decode c_C_currency 6 = .ok (.lload 4, 2) := by decide +kernel
theorem d_C_currency_8 : decode c_C_currency 8 = .ok (.lload 6, 2) := by decide +kernel
theorem d_C_currency_10 : decode c_C_currency 10 = .ok (.invokestatic 94, 3) := by decide +kernel
theorem d_C_currency_13 : decode c_C_currency 13 = .ok (.aload_n 0, 1) := by decide +kernel
theorem d_C_currency_14 : decode c_C_currency 14 = .ok (.getfield 38, 3) := by decide +kernel
theorem d_C_currency_17 : decode c_C_currency 17 = .ok (.iload_n 1, 1) := by decide +kernel
theorem d_C_currency_18 : decode c_C_currency 18 = .ok (.lload_n 2, 1) := by decide +kernel
theorem d_C_currency_19 : decode c_C_currency 19 = .ok (.lload 4, 2) := by decide +kernel
theorem d_C_currency_21 : decode c_C_currency 21 = .ok (.lload 6, 2) := by decide +kernel
theorem d_C_currency_23 : decode c_C_currency 23 = .ok (.invokevirtual 101, 3) := by decide +kernel
theorem d_C_currency_26 : decode c_C_currency 26 = .ok (.ireturn, 1) := by decide +kernel
theorem d_C_tooling_0 : decode c_C_tooling 0 = .ok (.lload_n 1, 1) := by decide +kernel
theorem d_C_tooling_1 : decode c_C_tooling 1 = .ok (.lconst 0, 1) := by decide +kernel
theorem d_C_tooling_2 : decode c_C_tooling 2 = .ok (.ldc2_w 104, 3) := by decide +kernel
theorem d_C_tooling_5 : decode c_C_tooling 5 = .ok (.invokestatic 84, 3) := by decide +kernel
theorem d_C_tooling_8 : decode c_C_tooling 8 = .ok (.aload_n 0, 1) := by decide +kernel
theorem d_C_tooling_9 : decode c_C_tooling 9 = .ok (.getfield 53, 3) := by decide +kernel
theorem d_C_tooling_12 : decode c_C_tooling 12 = .ok (.lload_n 1, 1) := by decide +kernel
theorem d_C_tooling_13 : decode c_C_tooling 13 = .ok (.lcmp, 1) := by decide +kernel
theorem d_C_tooling_14 : decode c_C_tooling 14 = .ok (.ifCond .eq 7, 3) := by decide +kernel
theorem d_C_tooling_17 : decode c_C_tooling 17 = .ok (.iconst 1, 1) := by decide +kernel
theorem d_C_tooling_18 : decode c_C_tooling 18 = .ok (.goto 4, 3) := by decide +kernel
theorem d_C_tooling_21 : decode c_C_tooling 21 = .ok (.iconst 0, 1) := by decide +kernel
theorem d_C_tooling_22 : decode c_C_tooling 22 = .ok (.istore_n 3, 1) := by decide +kernel
theorem d_C_tooling_23 : decode c_C_tooling 23 = .ok (.aload_n 0, 1) := by decide +kernel
theorem d_C_tooling_24 : decode c_C_tooling 24 = .ok (.lload_n 1, 1) := by decide +kernel
theorem d_C_tooling_25 : decode c_C_tooling 25 = .ok (.putfield 53, 3) := by decide +kernel
theorem d_C_tooling_28 : decode c_C_tooling 28 = .ok (.iload_n 3, 1) := by decide +kernel
theorem d_C_tooling_29 : decode c_C_tooling 29 = .ok (.ireturn, 1) := by decide +kernel
theorem d_C_stock_0 : decode c_C_stock 0 = .ok (.iload_n 1, 1) := by decide +kernel
theorem d_C_stock_1 : decode c_C_stock 1 = .ok (.aload_n 0, 1) := by decide +kernel
theorem d_C_stock_2 : decode c_C_stock 2 = .ok (.getfield 49, 3) := by decide +kernel
theorem d_C_stock_5 : decode c_C_stock 5 = .ok (.invokestatic 70, 3) := by decide +kernel
theorem d_C_stock_8 : decode c_C_stock 8 = .ok (.lload_n 2, 1) := by decide +kernel
theorem d_C_stock_9 : decode c_C_stock 9 = .ok (.lconst 0, 1) := by decide +kernel
theorem d_C_stock_10 : decode c_C_stock 10 = .ok (.ldc2_w 104, 3) := by decide +kernel
theorem d_C_stock_13 : decode c_C_stock 13 = .ok (.invokestatic 84, 3) := by decide +kernel
theorem d_C_stock_16 : decode c_C_stock 16 = .ok (.aload_n 0, 1) := by decide +kernel
theorem d_C_stock_17 : decode c_C_stock 17 = .ok (.getfield 15, 3) := by decide +kernel
theorem d_C_stock_20 : decode c_C_stock 20 = .ok (.iload_n 1, 1) := by decide +kernel
theorem d_C_stock_21 : decode c_C_stock 21 = .ok (.lload_n 2, 1) := by decide +kernel
theorem d_C_stock_22 : decode c_C_stock 22 = .ok (.invokestatic 88, 3) := by decide +kernel
theorem d_C_stock_25 : decode c_C_stock 25 = .ok (.ireturn, 1) := by decide +kernel
theorem d_C_total_0 : decode c_C_total 0 = .ok (.iload_n 3, 1) := by decide +kernel
theorem d_C_total_1 : decode c_C_total 1 = .ok (.bipush 8, 2) := by decide +kernel
theorem d_C_total_3 : decode c_C_total 3 = .ok (.invokestatic 70, 3) := by decide +kernel
theorem d_C_total_6 : decode c_C_total 6 = .ok (.lload_n 1, 1) := by decide +kernel
theorem d_C_total_7 : decode c_C_total 7 = .ok (.lconst 0, 1) := by decide +kernel
theorem d_C_total_8 : decode c_C_total 8 = .ok (.ldc2_w 92, 3) := by decide +kernel
theorem d_C_total_11 : decode c_C_total 11 = .ok (.invokestatic 84, 3) := by decide +kernel
theorem d_C_total_14 : decode c_C_total 14 = .ok (.aload_n 0, 1) := by decide +kernel
theorem d_C_total_15 : decode c_C_total 15 = .ok (.lload_n 1, 1) := by decide +kernel
theorem d_C_total_16 : decode c_C_total 16 = .ok (.iload_n 3, 1) := by decide +kernel
theorem d_C_total_17 : decode c_C_total 17 = .ok (.lload 4, 2) := by decide +kernel
theorem d_C_total_19 : decode c_C_total 19 = .ok (.invokevirtual 106, 3) := by decide +kernel
theorem d_C_total_22 : decode c_C_total 22 = .ok (.ifCond .ne 7, 3) := by decide +kernel
theorem d_C_total_25 : decode c_C_total 25 = .ok (.ldc2_w 110, 3) := by decide +kernel
theorem d_C_total_28 : decode c_C_total 28 = .ok (.lreturn, 1) := by decide +kernel
theorem d_C_total_29 : decode c_C_total 29 = .ok (.aload_n 0, 1) := by decide +kernel
theorem d_C_total_30 : decode c_C_total 30 = .ok (.invokevirtual 112, 3) := by decide +kernel
theorem d_C_total_33 : decode c_C_total 33 = .ok (.aload_n 0, 1) := by decide +kernel
theorem d_C_total_34 : decode c_C_total 34 = .ok (.getfield 64, 3) := by decide +kernel
theorem d_C_total_37 : decode c_C_total 37 = .ok (.invokevirtual 115, 3) := by decide +kernel
theorem d_C_total_40 : decode c_C_total 40 = .ok (.lreturn, 1) := by decide +kernel
theorem d_C_best_0 : decode c_C_best 0 = .ok (.lload_n 1, 1) := by decide +kernel
theorem d_C_best_1 : decode c_C_best 1 = .ok (.lconst 0, 1) := by decide +kernel
theorem d_C_best_2 : decode c_C_best 2 = .ok (.ldc2_w 92, 3) := by decide +kernel
theorem d_C_best_5 : decode c_C_best 5 = .ok (.invokestatic 84, 3) := by decide +kernel
theorem d_C_best_8 : decode c_C_best 8 = .ok (.aload_n 0, 1) := by decide +kernel
theorem d_C_best_9 : decode c_C_best 9 = .ok (.getfield 45, 3) := by decide +kernel
theorem d_C_best_12 : decode c_C_best 12 = .ok (.lload_n 1, 1) := by decide +kernel
theorem d_C_best_13 : decode c_C_best 13 = .ok (.invokevirtual 119, 3) := by decide +kernel
theorem d_C_best_16 : decode c_C_best 16 = .ok (.lstore 5, 2) := by decide +kernel
theorem d_C_best_18 : decode c_C_best 18 = .ok (.aload_n 0, 1) := by decide +kernel
theorem d_C_best_19 : decode c_C_best 19 = .ok (.lload 5, 2) := by decide +kernel
theorem d_C_best_21 : decode c_C_best 21 = .ok (.lload_n 3, 1) := by decide +kernel
theorem d_C_best_22 : decode c_C_best 22 = .ok (.invokevirtual 123, 3) := by decide +kernel
theorem d_C_best_25 : decode c_C_best 25 = .ok (.ifCond .ne 5, 3) := by decide +kernel
theorem d_C_best_28 : decode c_C_best 28 = .ok (.iconst (-1), 1) := by decide +kernel
theorem d_C_best_29 : decode c_C_best 29 = .ok (.ireturn, 1) := by decide +kernel
theorem d_C_best_30 : decode c_C_best 30 = .ok (.iconst (-1), 1) := by decide +kernel
theorem d_C_best_31 : decode c_C_best 31 = .ok (.istore 7, 2) := by decide +kernel
theorem d_C_best_33 : decode c_C_best 33 = .ok (.lconst 0, 1) := by decide +kernel
theorem d_C_best_34 : decode c_C_best 34 = .ok (.lstore 8, 2) := by decide +kernel
theorem d_C_best_36 : decode c_C_best 36 = .ok (.iconst 0, 1) := by decide +kernel
theorem d_C_best_37 : decode c_C_best 37 = .ok (.istore 10, 2) := by decide +kernel
theorem d_C_best_39 : decode c_C_best 39 = .ok (.iconst 0, 1) := by decide +kernel
theorem d_C_best_40 : decode c_C_best 40 = .ok (.istore 11, 2) := by decide +kernel
theorem d_C_best_42 : decode c_C_best 42 = .ok (.iload 11, 2) := by decide +kernel
theorem d_C_best_44 : decode c_C_best 44 = .ok (.bipush 8, 2) := by decide +kernel
theorem d_C_best_46 : decode c_C_best 46 = .ok (.if_icmp .ge 94, 3) := by decide +kernel
theorem d_C_best_49 : decode c_C_best 49 = .ok (.aload_n 0, 1) := by decide +kernel
theorem d_C_best_50 : decode c_C_best 50 = .ok (.lload 5, 2) := by decide +kernel
theorem d_C_best_52 : decode c_C_best 52 = .ok (.iload 11, 2) := by decide +kernel
theorem d_C_best_54 : decode c_C_best 54 = .ok (.invokevirtual 126, 3) := by decide +kernel
theorem d_C_best_57 : decode c_C_best 57 = .ok (.ifCond .ne 6, 3) := by decide +kernel
theorem d_C_best_60 : decode c_C_best 60 = .ok (.goto 74, 3) := by decide +kernel
theorem d_C_best_63 : decode c_C_best 63 = .ok (.aload_n 0, 1) := by decide +kernel
theorem d_C_best_64 : decode c_C_best 64 = .ok (.getfield 60, 3) := by decide +kernel
theorem d_C_best_67 : decode c_C_best 67 = .ok (.invokevirtual 115, 3) := by decide +kernel
theorem d_C_best_70 : decode c_C_best 70 = .ok (.lstore 12, 2) := by decide +kernel
theorem d_C_best_72 : decode c_C_best 72 = .ok (.aload_n 0, 1) := by decide +kernel
theorem d_C_best_73 : decode c_C_best 73 = .ok (.getfield 60, 3) := by decide +kernel
theorem d_C_best_76 : decode c_C_best 76 = .ok (.invokevirtual 130, 3) := by decide +kernel
theorem d_C_best_79 : decode c_C_best 79 = .ok (.istore 14, 2) := by decide +kernel
theorem d_C_best_81 : decode c_C_best 81 = .ok (.lload 12, 2) := by decide +kernel
theorem d_C_best_83 : decode c_C_best 83 = .ok (.lload 8, 2) := by decide +kernel
theorem d_C_best_85 : decode c_C_best 85 = .ok (.lcmp, 1) := by decide +kernel
theorem d_C_best_86 : decode c_C_best 86 = .ok (.ifCond .lt 18, 3) := by decide +kernel
theorem d_C_best_89 : decode c_C_best 89 = .ok (.lload 12, 2) := by decide +kernel
theorem d_C_best_91 : decode c_C_best 91 = .ok (.lload 8, 2) := by decide +kernel
theorem d_C_best_93 : decode c_C_best 93 = .ok (.lcmp, 1) := by decide +kernel
theorem d_C_best_94 : decode c_C_best 94 = .ok (.ifCond .ne 14, 3) := by decide +kernel
theorem d_C_best_97 : decode c_C_best 97 = .ok (.iload 14, 2) := by decide +kernel
theorem d_C_best_99 : decode c_C_best 99 = .ok (.iload 10, 2) := by decide +kernel
theorem d_C_best_101 : decode c_C_best 101 = .ok (.if_icmp .ge 7, 3) := by decide +kernel
theorem d_C_best_104 : decode c_C_best 104 = .ok (.iconst 1, 1) := by decide +kernel
theorem d_C_best_105 : decode c_C_best 105 = .ok (.goto 4, 3) := by decide +kernel
theorem d_C_best_108 : decode c_C_best 108 = .ok (.iconst 0, 1) := by decide +kernel
theorem d_C_best_109 : decode c_C_best 109 = .ok (.istore 15, 2) := by decide +kernel
theorem d_C_best_111 : decode c_C_best 111 = .ok (.iload 7, 2) := by decide +kernel
theorem d_C_best_113 : decode c_C_best 113 = .ok (.iconst (-1), 1) := by decide +kernel
theorem d_C_best_114 : decode c_C_best 114 = .ok (.if_icmp .eq 8, 3) := by decide +kernel
theorem d_C_best_117 : decode c_C_best 117 = .ok (.iload 15, 2) := by decide +kernel
theorem d_C_best_119 : decode c_C_best 119 = .ok (.ifCond .eq 15, 3) := by decide +kernel
theorem d_C_best_122 : decode c_C_best 122 = .ok (.iload 11, 2) := by decide +kernel
theorem d_C_best_124 : decode c_C_best 124 = .ok (.istore 7, 2) := by decide +kernel
theorem d_C_best_126 : decode c_C_best 126 = .ok (.lload 12, 2) := by decide +kernel
theorem d_C_best_128 : decode c_C_best 128 = .ok (.lstore 8, 2) := by decide +kernel
theorem d_C_best_130 : decode c_C_best 130 = .ok (.iload 14, 2) := by decide +kernel
theorem d_C_best_132 : decode c_C_best 132 = .ok (.istore 10, 2) := by decide +kernel
theorem d_C_best_134 : decode c_C_best 134 = .ok (.iinc 11 1, 3) := by decide +kernel
theorem d_C_best_137 : decode c_C_best 137 = .ok (.goto (-95), 3) := by decide +kernel
theorem d_C_best_140 : decode c_C_best 140 = .ok (.iload 7, 2) := by decide +kernel
theorem d_C_best_142 : decode c_C_best 142 = .ok (.ireturn, 1) := by decide +kernel
theorem d_C_each_0 : decode c_C_each 0 = .ok (.iload_n 3, 1) := by decide +kernel
theorem d_C_each_1 : decode c_C_each 1 = .ok (.bipush 8, 2) := by decide +kernel
theorem d_C_each_3 : decode c_C_each 3 = .ok (.invokestatic 70, 3) := by decide +kernel
theorem d_C_each_6 : decode c_C_each 6 = .ok (.iload 6, 2) := by decide +kernel
theorem d_C_each_8 : decode c_C_each 8 = .ok (.iconst 2, 1) := by decide +kernel
theorem d_C_each_9 : decode c_C_each 9 = .ok (.invokestatic 70, 3) := by decide +kernel
theorem d_C_each_12 : decode c_C_each 12 = .ok (.lload_n 1, 1) := by decide +kernel
theorem d_C_each_13 : decode c_C_each 13 = .ok (.lconst 1, 1) := by decide +kernel
theorem d_C_each_14 : decode c_C_each 14 = .ok (.ldc2_w 92, 3) := by decide +kernel
theorem d_C_each_17 : decode c_C_each 17 = .ok (.invokestatic 84, 3) := by decide +kernel
theorem d_C_each_20 : decode c_C_each 20 = .ok (.aload_n 0, 1) := by decide +kernel
theorem d_C_each_21 : decode c_C_each 21 = .ok (.lload_n 1, 1) := by decide +kernel
theorem d_C_each_22 : decode c_C_each 22 = .ok (.iload_n 3, 1) := by decide +kernel
theorem d_C_each_23 : decode c_C_each 23 = .ok (.lload 4, 2) := by decide +kernel
theorem d_C_each_25 : decode c_C_each 25 = .ok (.invokevirtual 106, 3) := by decide +kernel
theorem d_C_each_28 : decode c_C_each 28 = .ok (.ifCond .ne 7, 3) := by decide +kernel
theorem d_C_each_31 : decode c_C_each 31 = .ok (.ldc2_w 110, 3) := by decide +kernel
theorem d_C_each_34 : decode c_C_each 34 = .ok (.lreturn, 1) := by decide +kernel
theorem d_C_each_35 : decode c_C_each 35 = .ok (.iload 6, 2) := by decide +kernel
theorem d_C_each_37 : decode c_C_each 37 = .ok (.ifCond .ne 15, 3) := by decide +kernel
theorem d_C_each_40 : decode c_C_each 40 = .ok (.aload_n 0, 1) := by decide +kernel
theorem d_C_each_41 : decode c_C_each 41 = .ok (.getfield 60, 3) := by decide +kernel
theorem d_C_each_44 : decode c_C_each 44 = .ok (.invokevirtual 115, 3) := by decide +kernel
theorem d_C_each_47 : decode c_C_each 47 = .ok (.lload_n 1, 1) := by decide +kernel
theorem d_C_each_48 : decode c_C_each 48 = .ok (.ldiv, 1) := by decide +kernel
theorem d_C_each_49 : decode c_C_each 49 = .ok (.goto 12, 3) := by decide +kernel
theorem d_C_each_52 : decode c_C_each 52 = .ok (.aload_n 0, 1) := by decide +kernel
theorem d_C_each_53 : decode c_C_each 53 = .ok (.getfield 60, 3) := by decide +kernel
theorem d_C_each_56 : decode c_C_each 56 = .ok (.invokevirtual 115, 3) := by decide +kernel
theorem d_C_each_59 : decode c_C_each 59 = .ok (.lload_n 1, 1) := by decide +kernel
theorem d_C_each_60 : decode c_C_each 60 = .ok (.lrem, 1) := by decide +kernel
theorem d_C_each_61 : decode c_C_each 61 = .ok (.lreturn, 1) := by decide +kernel
theorem d_C_suppliers_0 : decode c_C_suppliers 0 = .ok (.iload_n 3, 1) := by decide +kernel
theorem d_C_suppliers_1 : decode c_C_suppliers 1 = .ok (.bipush 8, 2) := by decide +kernel
theorem d_C_suppliers_3 : decode c_C_suppliers 3 = .ok (.invokestatic 70, 3) := by decide +kernel
theorem d_C_suppliers_6 : decode c_C_suppliers 6 = .ok (.lload_n 1, 1) := by decide +kernel
theorem d_C_suppliers_7 : decode c_C_suppliers 7 = .ok (.lconst 0, 1) := by decide +kernel
theorem d_C_suppliers_8 : decode c_C_suppliers 8 = .ok (.ldc2_w 92, 3) := by decide +kernel
theorem d_C_suppliers_11 : decode c_C_suppliers 11 = .ok (.invokestatic 84, 3) := by decide +kernel
theorem d_C_suppliers_14 : decode c_C_suppliers 14 = .ok (.aload_n 0, 1) := by decide +kernel
theorem d_C_suppliers_15 : decode c_C_suppliers 15 = .ok (.lload_n 1, 1) := by decide +kernel
theorem d_C_suppliers_16 : decode c_C_suppliers 16 = .ok (.iload_n 3, 1) := by decide +kernel
theorem d_C_suppliers_17 : decode c_C_suppliers 17 = .ok (.ldc2_w 134, 3) := by decide +kernel
theorem d_C_suppliers_20 : decode c_C_suppliers 20 = .ok (.invokevirtual 106, 3) := by decide +kernel
theorem d_C_suppliers_23 : decode c_C_suppliers 23 = .ok (.ifCond .ne 5, 3) := by decide +kernel
theorem d_C_suppliers_26 : decode c_C_suppliers 26 = .ok (.iconst (-1), 1) := by decide +kernel
theorem d_C_suppliers_27 : decode c_C_suppliers 27 = .ok (.ireturn, 1) := by decide +kernel
theorem d_C_suppliers_28 : decode c_C_suppliers 28 = .ok (.aload_n 0, 1) := by decide +kernel
theorem d_C_suppliers_29 : decode c_C_suppliers 29 = .ok (.getfield 60, 3) := by decide +kernel
theorem d_C_suppliers_32 : decode c_C_suppliers 32 = .ok (.invokevirtual 130, 3) := by decide +kernel
theorem d_C_suppliers_35 : decode c_C_suppliers 35 = .ok (.ireturn, 1) := by decide +kernel
theorem d_C_alternate_0 : decode c_C_alternate 0 = .ok (.iload_n 1, 1) := by decide +kernel
theorem d_C_alternate_1 : decode c_C_alternate 1 = .ok (.aload_n 0, 1) := by decide +kernel
theorem d_C_alternate_2 : decode c_C_alternate 2 = .ok (.getfield 49, 3) := by decide +kernel
theorem d_C_alternate_5 : decode c_C_alternate 5 = .ok (.invokestatic 70, 3) := by decide +kernel
theorem d_C_alternate_8 : decode c_C_alternate 8 = .ok (.iload_n 2, 1) := by decide +kernel
theorem d_C_alternate_9 : decode c_C_alternate 9 = .ok (.aload_n 0, 1) := by decide +kernel
theorem d_C_alternate_10 : decode c_C_alternate 10 = .ok (.getfield 49, 3) := by decide +kernel
theorem d_C_alternate_13 : decode c_C_alternate 13 = .ok (.invokestatic 70, 3) := by decide +kernel
theorem d_C_alternate_16 : decode c_C_alternate 16 = .ok (.aload_n 0, 1) := by decide +kernel
theorem d_C_alternate_17 : decode c_C_alternate 17 = .ok (.iload_n 2, 1) := by decide +kernel
theorem d_C_alternate_18 : decode c_C_alternate 18 = .ok (.iload_n 1, 1) := by decide +kernel
theorem d_C_alternate_19 : decode c_C_alternate 19 = .ok (.invokevirtual 136, 3) := by decide +kernel
theorem d_C_alternate_22 : decode c_C_alternate 22 = .ok (.ifCond .eq 5, 3) := by decide +kernel
theorem d_C_alternate_25 : decode c_C_alternate 25 = .ok (.iconst 0, 1) := by decide +kernel
theorem d_C_alternate_26 : decode c_C_alternate 26 = .ok (.ireturn, 1) := by decide +kernel
theorem d_C_alternate_27 : decode c_C_alternate 27 = .ok (.aload_n 0, 1) := by decide +kernel
theorem d_C_alternate_28 : decode c_C_alternate 28 = .ok (.getfield 18, 3) := by decide +kernel
theorem d_C_alternate_31 : decode c_C_alternate 31 = .ok (.iload_n 1, 1) := by decide +kernel
theorem d_C_alternate_32 : decode c_C_alternate 32 = .ok (.dup2, 1) := by decide +kernel
theorem d_C_alternate_33 : decode c_C_alternate 33 = .ok (.iaload, 1) := by decide +kernel
theorem d_C_alternate_34 : decode c_C_alternate 34 = .ok (.iconst 1, 1) := by decide +kernel
theorem d_C_alternate_35 : decode c_C_alternate 35 = .ok (.iload_n 2, 1) := by decide +kernel
theorem d_C_alternate_36 : decode c_C_alternate 36 = .ok (.ishl, 1) := by decide +kernel
theorem d_C_alternate_37 : decode c_C_alternate 37 = .ok (.ior, 1) := by decide +kernel
theorem d_C_alternate_38 : decode c_C_alternate 38 = .ok (.iastore, 1) := by decide +kernel
theorem d_C_alternate_39 : decode c_C_alternate 39 = .ok (.iconst 1, 1) := by decide +kernel
theorem d_C_alternate_40 : decode c_C_alternate 40 = .ok (.ireturn, 1) := by decide +kernel
theorem d_C_changed_0 : decode c_C_changed 0 = .ok (.iload_n 1, 1) := by decide +kernel
theorem d_C_changed_1 : decode c_C_changed 1 = .ok (.ifCond .ge 5, 3) := by decide +kernel
theorem d_C_changed_4 : decode c_C_changed 4 = .ok (.iconst (-1), 1) := by decide +kernel
theorem d_C_changed_5 : decode c_C_changed 5 = .ok (.ireturn, 1) := by decide +kernel
theorem d_C_changed_6 : decode c_C_changed 6 = .ok (.iload_n 1, 1) := by decide +kernel
theorem d_C_changed_7 : decode c_C_changed 7 = .ok (.istore_n 2, 1) := by decide +kernel
theorem d_C_changed_8 : decode c_C_changed 8 = .ok (.iconst 0, 1) := by decide +kernel
theorem d_C_changed_9 : decode c_C_changed 9 = .ok (.istore_n 3, 1) := by decide +kernel
theorem d_C_changed_10 : decode c_C_changed 10 = .ok (.iload_n 3, 1) := by decide +kernel
theorem d_C_changed_11 : decode c_C_changed 11 = .ok (.aload_n 0, 1) := by decide +kernel
theorem d_C_changed_12 : decode c_C_changed 12 = .ok (.getfield 64, 3) := by decide +kernel
theorem d_C_changed_15 : decode c_C_changed 15 = .ok (.getfield 140, 3) := by decide +kernel
theorem d_C_changed_18 : decode c_C_changed 18 = .ok (.if_icmp .ge 43, 3) := by decide +kernel
theorem d_C_changed_21 : decode c_C_changed 21 = .ok (.aload_n 0, 1) := by decide +kernel
theorem d_C_changed_22 : decode c_C_changed 22 = .ok (.getfield 64, 3) := by decide +kernel
theorem d_C_changed_25 : decode c_C_changed 25 = .ok (.getfield 143, 3) := by decide +kernel
theorem d_C_changed_28 : decode c_C_changed 28 = .ok (.iload_n 3, 1) := by decide +kernel
theorem d_C_changed_29 : decode c_C_changed 29 = .ok (.laload, 1) := by decide +kernel
theorem d_C_changed_30 : decode c_C_changed 30 = .ok (.aload_n 0, 1) := by decide +kernel
theorem d_C_changed_31 : decode c_C_changed 31 = .ok (.getfield 67, 3) := by decide +kernel
theorem d_C_changed_34 : decode c_C_changed 34 = .ok (.getfield 143, 3) := by decide +kernel
theorem d_C_changed_37 : decode c_C_changed 37 = .ok (.iload_n 3, 1) := by decide +kernel
theorem d_C_changed_38 : decode c_C_changed 38 = .ok (.laload, 1) := by decide +kernel
theorem d_C_changed_39 : decode c_C_changed 39 = .ok (.lcmp, 1) := by decide +kernel
theorem d_C_changed_40 : decode c_C_changed 40 = .ok (.ifCond .ne 6, 3) := by decide +kernel
theorem d_C_changed_43 : decode c_C_changed 43 = .ok (.goto 12, 3) := by decide +kernel
theorem d_C_changed_46 : decode c_C_changed 46 = .ok (.iload_n 2, 1) := by decide +kernel
theorem d_C_changed_47 : decode c_C_changed 47 = .ok (.ifCond .ne 5, 3) := by decide +kernel
theorem d_C_changed_50 : decode c_C_changed 50 = .ok (.iload_n 3, 1) := by decide +kernel
theorem d_C_changed_51 : decode c_C_changed 51 = .ok (.ireturn, 1) := by decide +kernel
theorem d_C_changed_52 : decode c_C_changed 52 = .ok (.iinc 2 (-1), 3) := by decide +kernel
theorem d_C_changed_55 : decode c_C_changed 55 = .ok (.iinc 3 1, 3) := by decide +kernel
theorem d_C_changed_58 : decode c_C_changed 58 = .ok (.goto (-48), 3) := by decide +kernel
theorem d_C_changed_61 : decode c_C_changed 61 = .ok (.iconst (-1), 1) := by decide +kernel
theorem d_C_changed_62 : decode c_C_changed 62 = .ok (.ireturn, 1) := by decide +kernel
theorem d_C_row_0 : decode c_C_row 0 = .ok (.iload_n 1, 1) := by decide +kernel
theorem d_C_row_1 : decode c_C_row 1 = .ok (.aload_n 0, 1) := by decide +kernel
theorem d_C_row_2 : decode c_C_row 2 = .ok (.getfield 64, 3) := by decide +kernel
theorem d_C_row_5 : decode c_C_row 5 = .ok (.getfield 140, 3) := by decide +kernel
theorem d_C_row_8 : decode c_C_row 8 = .ok (.invokestatic 70, 3) := by decide +kernel
theorem d_C_row_11 : decode c_C_row 11 = .ok (.iload_n 2, 1) := by decide +kernel
theorem d_C_row_12 : decode c_C_row 12 = .ok (.iconst 3, 1) := by decide +kernel
theorem d_C_row_13 : decode c_C_row 13 = .ok (.invokestatic 70, 3) := by decide +kernel
theorem d_C_row_16 : decode c_C_row 16 = .ok (.iload_n 2, 1) := by decide +kernel
theorem d_C_row_17 : decode c_C_row 17 = .ok (.ifCond .ne 13, 3) := by decide +kernel
theorem d_C_row_20 : decode c_C_row 20 = .ok (.aload_n 0, 1) := by decide +kernel
theorem d_C_row_21 : decode c_C_row 21 = .ok (.getfield 64, 3) := by decide +kernel
theorem d_C_row_24 : decode c_C_row 24 = .ok (.getfield 146, 3) := by decide +kernel
theorem d_C_row_27 : decode c_C_row 27 = .ok (.iload_n 1, 1) := by decide +kernel
theorem d_C_row_28 : decode c_C_row 28 = .ok (.iaload, 1) := by decide +kernel
theorem d_C_row_29 : decode c_C_row 29 = .ok (.ireturn, 1) := by decide +kernel
theorem d_C_row_30 : decode c_C_row 30 = .ok (.iload_n 2, 1) := by decide +kernel
theorem d_C_row_31 : decode c_C_row 31 = .ok (.iconst 1, 1) := by decide +kernel
theorem d_C_row_32 : decode c_C_row 32 = .ok (.if_icmp .ne 15, 3) := by decide +kernel
theorem d_C_row_35 : decode c_C_row 35 = .ok (.aload_n 0, 1) := by decide +kernel
theorem d_C_row_36 : decode c_C_row 36 = .ok (.getfield 64, 3) := by decide +kernel
theorem d_C_row_39 : decode c_C_row 39 = .ok (.getfield 149, 3) := by decide +kernel
theorem d_C_row_42 : decode c_C_row 42 = .ok (.iload_n 1, 1) := by decide +kernel
theorem d_C_row_43 : decode c_C_row 43 = .ok (.iaload, 1) := by decide +kernel
theorem d_C_row_44 : decode c_C_row 44 = .ok (.goto 12, 3) := by decide +kernel
theorem d_C_row_47 : decode c_C_row 47 = .ok (.aload_n 0, 1) := by decide +kernel
theorem d_C_row_48 : decode c_C_row 48 = .ok (.getfield 64, 3) := by decide +kernel
theorem d_C_row_51 : decode c_C_row 51 = .ok (.getfield 152, 3) := by decide +kernel
theorem d_C_row_54 : decode c_C_row 54 = .ok (.iload_n 1, 1) := by decide +kernel
theorem d_C_row_55 : decode c_C_row 55 = .ok (.iaload, 1) := by decide +kernel
theorem d_C_row_56 : decode c_C_row 56 = .ok (.ireturn, 1) := by decide +kernel
theorem d_C_needIndex_0 : decode c_C_needIndex 0 = .ok (.iload_n 0, 1) := by decide +kernel
theorem d_C_needIndex_1 : decode c_C_needIndex 1 = .ok (.ifCond .lt 8, 3) := by decide +kernel
theorem d_C_needIndex_4 : decode c_C_needIndex 4 = .ok (.iload_n 0, 1) := by decide +kernel
theorem d_C_needIndex_5 : decode c_C_needIndex 5 = .ok (.iload_n 1, 1) := by decide +kernel
theorem d_C_needIndex_6 : decode c_C_needIndex 6 = .ok (.if_icmp .lt 13, 3) := by decide +kernel
theorem d_C_needIndex_9 : decode c_C_needIndex 9 = .ok (.new 155, 3) := by decide +kernel
theorem d_C_needIndex_12 : decode c_C_needIndex 12 = .ok (.dup, 1) := by decide +kernel
theorem d_C_needIndex_13 : decode c_C_needIndex 13 = .ok (.ldc 157, 2) := by decide +kernel
theorem d_C_needIndex_15 : decode c_C_needIndex 15 = .ok (.invokespecial 159, 3) := by decide +kernel
theorem d_C_needIndex_18 : decode c_C_needIndex 18 = .ok (.athrow, 1) := by decide +kernel
theorem d_C_needIndex_19 : decode c_C_needIndex 19 = .ok (.return_, 1) := by decide +kernel
theorem d_C_needNumber_0 : decode c_C_needNumber 0 = .ok (.lload_n 0, 1) := by decide +kernel
theorem d_C_needNumber_1 : decode c_C_needNumber 1 = .ok (.lload_n 2, 1) := by decide +kernel
theorem d_C_needNumber_2 : decode c_C_needNumber 2 = .ok (.lcmp, 1) := by decide +kernel
theorem d_C_needNumber_3 : decode c_C_needNumber 3 = .ok (.ifCond .lt 10, 3) := by decide +kernel
theorem d_C_needNumber_6 : decode c_C_needNumber 6 = .ok (.lload_n 0, 1) := by decide +kernel
theorem d_C_needNumber_7 : decode c_C_needNumber 7 = .ok (.lload 4, 2) := by decide +kernel
theorem d_C_needNumber_9 : decode c_C_needNumber 9 = .ok (.lcmp, 1) := by decide +kernel
theorem d_C_needNumber_10 : decode c_C_needNumber 10 = .ok (.ifCond .le 13, 3) := by decide +kernel
theorem d_C_needNumber_13 : decode c_C_needNumber 13 = .ok (.new 162, 3) := by decide +kernel
theorem d_C_needNumber_16 : decode c_C_needNumber 16 = .ok (.dup, 1) := by decide +kernel
theorem d_C_needNumber_17 : decode c_C_needNumber 17 = .ok (.ldc 164, 2) := by decide +kernel
theorem d_C_needNumber_19 : decode c_C_needNumber 19 = .ok (.invokespecial 166, 3) := by decide +kernel
theorem d_C_needNumber_22 : decode c_C_needNumber 22 = .ok (.athrow, 1) := by decide +kernel
theorem d_C_needNumber_23 : decode c_C_needNumber 23 = .ok (.return_, 1) := by decide +kernel
theorem d_C_needStep_0 : decode c_C_needStep 0 = .ok (.lload_n 0, 1) := by decide +kernel
theorem d_C_needStep_1 : decode c_C_needStep 1 = .ok (.lconst 1, 1) := by decide +kernel
theorem d_C_needStep_2 : decode c_C_needStep 2 = .ok (.ldc2_w 104, 3) := by decide +kernel
theorem d_C_needStep_5 : decode c_C_needStep 5 = .ok (.invokestatic 84, 3) := by decide +kernel
theorem d_C_needStep_8 : decode c_C_needStep 8 = .ok (.lload_n 2, 1) := by decide +kernel
theorem d_C_needStep_9 : decode c_C_needStep 9 = .ok (.lconst 1, 1) := by decide +kernel
theorem d_C_needStep_10 : decode c_C_needStep 10 = .ok (.ldc2_w 167, 3) := by decide +kernel
theorem d_C_needStep_13 : decode c_C_needStep 13 = .ok (.invokestatic 84, 3) := by decide +kernel
theorem d_C_needStep_16 : decode c_C_needStep 16 = .ok (.return_, 1) := by decide +kernel
theorem d_C_needRatio_0 : decode c_C_needRatio 0 = .ok (.lload_n 0, 1) := by decide +kernel
theorem d_C_needRatio_1 : decode c_C_needRatio 1 = .ok (.lconst 1, 1) := by decide +kernel
theorem d_C_needRatio_2 : decode c_C_needRatio 2 = .ok (.ldc2_w 82, 3) := by decide +kernel
theorem d_C_needRatio_5 : decode c_C_needRatio 5 = .ok (.invokestatic 84, 3) := by decide +kernel
theorem d_C_needRatio_8 : decode c_C_needRatio 8 = .ok (.lload_n 2, 1) := by decide +kernel
theorem d_C_needRatio_9 : decode c_C_needRatio 9 = .ok (.lconst 1, 1) := by decide +kernel
theorem d_C_needRatio_10 : decode c_C_needRatio 10 = .ok (.ldc2_w 82, 3) := by decide +kernel
theorem d_C_needRatio_13 : decode c_C_needRatio 13 = .ok (.invokestatic 84, 3) := by decide +kernel
theorem d_C_needRatio_16 : decode c_C_needRatio 16 = .ok (.return_, 1) := by decide +kernel
theorem d_C_tellNumber_0 : decode c_C_tellNumber 0 = .ok (.aload_n 0, 1) := by decide +kernel
theorem d_C_tellNumber_1 : decode c_C_tellNumber 1 = .ok (.iload_n 1, 1) := by decide +kernel
theorem d_C_tellNumber_2 : decode c_C_tellNumber 2 = .ok (.laload, 1) := by decide +kernel
theorem d_C_tellNumber_3 : decode c_C_tellNumber 3 = .ok (.lload_n 2, 1) := by decide +kernel
theorem d_C_tellNumber_4 : decode c_C_tellNumber 4 = .ok (.lcmp, 1) := by decide +kernel
theorem d_C_tellNumber_5 : decode c_C_tellNumber 5 = .ok (.ifCond .eq 7, 3) := by decide +kernel
theorem d_C_tellNumber_8 : decode c_C_tellNumber 8 = .ok (.iconst 1, 1) := by decide +kernel
theorem d_C_tellNumber_9 : decode c_C_tellNumber 9 = .ok (.goto 4, 3) := by decide +kernel
theorem d_C_tellNumber_12 : decode c_C_tellNumber 12 = .ok (.iconst 0, 1) := by decide +kernel
theorem d_C_tellNumber_13 : decode c_C_tellNumber 13 = .ok (.istore 4, 2) := by decide +kernel
theorem d_C_tellNumber_15 : decode c_C_tellNumber 15 = .ok (.aload_n 0, 1) := by decide +kernel
theorem d_C_tellNumber_16 : decode c_C_tellNumber 16 = .ok (.iload_n 1, 1) := by decide +kernel
theorem d_C_tellNumber_17 : decode c_C_tellNumber 17 = .ok (.lload_n 2, 1) := by decide +kernel
theorem d_C_tellNumber_18 : decode c_C_tellNumber 18 = .ok (.lastore, 1) := by decide +kernel
theorem d_C_tellNumber_19 : decode c_C_tellNumber 19 = .ok (.iload 4, 2) := by decide +kernel
theorem d_C_tellNumber_21 : decode c_C_tellNumber 21 = .ok (.ireturn, 1) := by decide +kernel
theorem d_C_divideUp_0 : decode c_C_divideUp 0 = .ok (.lload_n 2, 1) := by decide +kernel
theorem d_C_divideUp_1 : decode c_C_divideUp 1 = .ok (.lconst 0, 1) := by decide +kernel
theorem d_C_divideUp_2 : decode c_C_divideUp 2 = .ok (.lcmp, 1) := by decide +kernel
theorem d_C_divideUp_3 : decode c_C_divideUp 3 = .ok (.ifCond .gt 5, 3) := by decide +kernel
theorem d_C_divideUp_6 : decode c_C_divideUp 6 = .ok (.lconst 0, 1) := by decide +kernel
theorem d_C_divideUp_7 : decode c_C_divideUp 7 = .ok (.lreturn, 1) := by decide +kernel
theorem d_C_divideUp_8 : decode c_C_divideUp 8 = .ok (.lload_n 0, 1) := by decide +kernel
theorem d_C_divideUp_9 : decode c_C_divideUp 9 = .ok (.lload_n 2, 1) := by decide +kernel
theorem d_C_divideUp_10 : decode c_C_divideUp 10 = .ok (.ladd, 1) := by decide +kernel
theorem d_C_divideUp_11 : decode c_C_divideUp 11 = .ok (.lconst 1, 1) := by decide +kernel
theorem d_C_divideUp_12 : decode c_C_divideUp 12 = .ok (.lsub, 1) := by decide +kernel
theorem d_C_divideUp_13 : decode c_C_divideUp 13 = .ok (.lload_n 2, 1) := by decide +kernel
theorem d_C_divideUp_14 : decode c_C_divideUp 14 = .ok (.ldiv, 1) := by decide +kernel
theorem d_C_divideUp_15 : decode c_C_divideUp 15 = .ok (.lreturn, 1) := by decide +kernel
theorem d_C_mayStandIn_0 : decode c_C_mayStandIn 0 = .ok (.iload_n 1, 1) := by decide +kernel
theorem d_C_mayStandIn_1 : decode c_C_mayStandIn 1 = .ok (.iload_n 2, 1) := by decide +kernel
theorem d_C_mayStandIn_2 : decode c_C_mayStandIn 2 = .ok (.if_icmp .eq 16, 3) := by decide +kernel
theorem d_C_mayStandIn_5 : decode c_C_mayStandIn 5 = .ok (.aload_n 0, 1) := by decide +kernel
theorem d_C_mayStandIn_6 : decode c_C_mayStandIn 6 = .ok (.getfield 18, 3) := by decide +kernel
theorem d_C_mayStandIn_9 : decode c_C_mayStandIn 9 = .ok (.iload_n 2, 1) := by decide +kernel
theorem d_C_mayStandIn_10 : decode c_C_mayStandIn 10 = .ok (.iaload, 1) := by decide +kernel
theorem d_C_mayStandIn_11 : decode c_C_mayStandIn 11 = .ok (.iconst 1, 1) := by decide +kernel
theorem d_C_mayStandIn_12 : decode c_C_mayStandIn 12 = .ok (.iload_n 1, 1) := by decide +kernel
theorem d_C_mayStandIn_13 : decode c_C_mayStandIn 13 = .ok (.ishl, 1) := by decide +kernel
theorem d_C_mayStandIn_14 : decode c_C_mayStandIn 14 = .ok (.iand, 1) := by decide +kernel
theorem d_C_mayStandIn_15 : decode c_C_mayStandIn 15 = .ok (.ifCond .eq 7, 3) := by decide +kernel
theorem d_C_mayStandIn_18 : decode c_C_mayStandIn 18 = .ok (.iconst 1, 1) := by decide +kernel
theorem d_C_mayStandIn_19 : decode c_C_mayStandIn 19 = .ok (.goto 4, 3) := by decide +kernel
theorem d_C_mayStandIn_22 : decode c_C_mayStandIn 22 = .ok (.iconst 0, 1) := by decide +kernel
theorem d_C_mayStandIn_23 : decode c_C_mayStandIn 23 = .ok (.ireturn, 1) := by decide +kernel
theorem d_C_draw_0 : decode c_C_draw 0 = .ok (.aload_n 0, 1) := by decide +kernel
theorem d_C_draw_1 : decode c_C_draw 1 = .ok (.getfield 45, 3) := by decide +kernel
theorem d_C_draw_4 : decode c_C_draw 4 = .ok (.lload_n 1, 1) := by decide +kernel
theorem d_C_draw_5 : decode c_C_draw 5 = .ok (.invokevirtual 119, 3) := by decide +kernel
theorem d_C_draw_8 : decode c_C_draw 8 = .ok (.lstore 6, 2) := by decide +kernel
theorem d_C_draw_10 : decode c_C_draw 10 = .ok (.aload_n 0, 1) := by decide +kernel
theorem d_C_draw_11 : decode c_C_draw 11 = .ok (.lload 6, 2) := by decide +kernel
theorem d_C_draw_13 : decode c_C_draw 13 = .ok (.lload 4, 2) := by decide +kernel
theorem d_C_draw_15 : decode c_C_draw 15 = .ok (.invokevirtual 123, 3) := by decide +kernel
theorem d_C_draw_18 : decode c_C_draw 18 = .ok (.ifCond .eq 17, 3) := by decide +kernel
theorem d_C_draw_21 : decode c_C_draw 21 = .ok (.aload_n 0, 1) := by decide +kernel
theorem d_C_draw_22 : decode c_C_draw 22 = .ok (.lload 6, 2) := by decide +kernel
theorem d_C_draw_24 : decode c_C_draw 24 = .ok (.iload_n 3, 1) := by decide +kernel
theorem d_C_draw_25 : decode c_C_draw 25 = .ok (.invokevirtual 126, 3) := by decide +kernel
theorem d_C_draw_28 : decode c_C_draw 28 = .ok (.ifCond .eq 7, 3) := by decide +kernel
theorem d_C_draw_31 : decode c_C_draw 31 = .ok (.iconst 1, 1) := by decide +kernel
theorem d_C_draw_32 : decode c_C_draw 32 = .ok (.goto 4, 3) := by decide +kernel
theorem d_C_draw_35 : decode c_C_draw 35 = .ok (.iconst 0, 1) := by decide +kernel
theorem d_C_draw_36 : decode c_C_draw 36 = .ok (.ireturn, 1) := by decide +kernel
theorem d_C_drawAllButBoards_0 : decode c_C_drawAllButBoards 0 = .ok (.aload_n 0, 1) := by decide +kernel
theorem d_C_drawAllButBoards_1 : decode c_C_drawAllButBoards 1 = .ok (.getfield 60, 3) := by decide +kernel
theorem d_C_drawAllButBoards_4 : decode c_C_drawAllButBoards 4 = .ok (.iconst 3, 1) := by decide +kernel
theorem d_C_drawAllButBoards_5 : decode c_C_drawAllButBoards 5 = .ok (.aload_n 0, 1) := by decide +kernel
theorem d_C_drawAllButBoards_6 : decode c_C_drawAllButBoards 6 = .ok (.getfield 49, 3) := by decide +kernel
theorem d_C_drawAllButBoards_9 : decode c_C_drawAllButBoards 9 = .ok (.iadd, 1) := by decide +kernel
theorem d_C_drawAllButBoards_10 : decode c_C_drawAllButBoards 10 = .ok (.invokevirtual 169, 3) := by decide +kernel
theorem d_C_drawAllButBoards_13 : decode c_C_drawAllButBoards 13 = .ok (.lload_n 1, 1) := by decide +kernel
theorem d_C_drawAllButBoards_14 : decode c_C_drawAllButBoards 14 = .ok (.ldc2_w 104, 3) := by decide +kernel
theorem d_C_drawAllButBoards_17 : decode c_C_drawAllButBoards 17 = .ok (.lcmp, 1) := by decide +kernel
theorem d_C_drawAllButBoards_18 : decode c_C_drawAllButBoards 18 = .ok (.ifCond .le 5, 3) := by decide +kernel
theorem d_C_drawAllButBoards_21 : decode c_C_drawAllButBoards 21 = .ok (.iconst 0, 1) := by decide +kernel
theorem d_C_drawAllButBoards_22 : decode c_C_drawAllButBoards 22 = .ok (.ireturn, 1) := by decide +kernel
theorem d_C_drawAllButBoards_23 : decode c_C_drawAllButBoards 23 = .ok (.aload_n 0, 1) := by decide +kernel
theorem d_C_drawAllButBoards_24 : decode c_C_drawAllButBoards 24 = .ok (.getfield 38, 3) := by decide +kernel
theorem d_C_drawAllButBoards_27 : decode c_C_drawAllButBoards 27 = .ok (.lload_n 3, 1) := by decide +kernel
theorem d_C_drawAllButBoards_28 : decode c_C_drawAllButBoards 28 = .ok (.invokevirtual 173, 3) := by decide +kernel
theorem d_C_drawAllButBoards_31 : decode c_C_drawAllButBoards 31 = .ok (.aload_n 0, 1) := by decide +kernel
theorem d_C_drawAllButBoards_32 : decode c_C_drawAllButBoards 32 = .ok (.getfield 60, 3) := by decide +kernel
theorem d_C_drawAllButBoards_35 : decode c_C_drawAllButBoards 35 = .ok (.getfield 143, 3) := by decide +kernel
theorem d_C_drawAllButBoards_38 : decode c_C_drawAllButBoards 38 = .ok (.iconst 0, 1) := by decide +kernel
theorem d_C_drawAllButBoards_39 : decode c_C_drawAllButBoards 39 = .ok (.aload_n 0, 1) := by decide +kernel
theorem d_C_drawAllButBoards_40 : decode c_C_drawAllButBoards 40 = .ok (.getfield 53, 3) := by decide +kernel
theorem d_C_drawAllButBoards_43 : decode c_C_drawAllButBoards 43 = .ok (.lastore, 1) := by decide +kernel
theorem d_C_drawAllButBoards_44 : decode c_C_drawAllButBoards 44 = .ok (.aload_n 0, 1) := by decide +kernel
theorem d_C_drawAllButBoards_45 : decode c_C_drawAllButBoards 45 = .ok (.getfield 60, 3) := by decide +kernel
theorem d_C_drawAllButBoards_48 : decode c_C_drawAllButBoards 48 = .ok (.getfield 143, 3) := by decide +kernel
theorem d_C_drawAllButBoards_51 : decode c_C_drawAllButBoards 51 = .ok (.iconst 2, 1) := by decide +kernel
theorem d_C_drawAllButBoards_52 : decode c_C_drawAllButBoards 52 = .ok (.aload_n 0, 1) := by decide +kernel
theorem d_C_drawAllButBoards_53 : decode c_C_drawAllButBoards 53 = .ok (.lload_n 1, 1) := by decide +kernel
theorem d_C_drawAllButBoards_54 : decode c_C_drawAllButBoards 54 = .ok (.invokevirtual 177, 3) := by decide +kernel
theorem d_C_drawAllButBoards_57 : decode c_C_drawAllButBoards 57 = .ok (.lastore, 1) := by decide +kernel
theorem d_C_drawAllButBoards_58 : decode c_C_drawAllButBoards 58 = .ok (.iconst 0, 1) := by decide +kernel
theorem d_C_drawAllButBoards_59 : decode c_C_drawAllButBoards 59 = .ok (.istore 5, 2) := by decide +kernel
theorem d_C_drawAllButBoards_61 : decode c_C_drawAllButBoards 61 = .ok (.iload 5, 2) := by decide +kernel
theorem d_C_drawAllButBoards_63 : decode c_C_drawAllButBoards 63 = .ok (.aload_n 0, 1) := by decide +kernel
theorem d_C_drawAllButBoards_64 : decode c_C_drawAllButBoards 64 = .ok (.getfield 49, 3) := by decide +kernel
theorem d_C_drawAllButBoards_67 : decode c_C_drawAllButBoards 67 = .ok (.if_icmp .ge 21, 3) := by decide +kernel
theorem d_C_drawAllButBoards_70 : decode c_C_drawAllButBoards 70 = .ok (.aload_n 0, 1) := by decide +kernel
theorem d_C_drawAllButBoards_71 : decode c_C_drawAllButBoards 71 = .ok (.iload 5, 2) := by decide +kernel
theorem d_C_drawAllButBoards_73 : decode c_C_drawAllButBoards 73 = .ok (.lload_n 1, 1) := by decide +kernel
theorem d_C_drawAllButBoards_74 : decode c_C_drawAllButBoards 74 = .ok (.invokevirtual 180, 3) := by decide +kernel
theorem d_C_drawAllButBoards_77 : decode c_C_drawAllButBoards 77 = .ok (.ifCond .ne 5, 3) := by decide +kernel
theorem d_C_drawAllButBoards_80 : decode c_C_drawAllButBoards 80 = .ok (.iconst 0, 1) := by decide +kernel
theorem d_C_drawAllButBoards_81 : decode c_C_drawAllButBoards 81 = .ok (.ireturn, 1) := by decide +kernel
theorem d_C_drawAllButBoards_82 : decode c_C_drawAllButBoards 82 = .ok (.iinc 5 1, 3) := by decide +kernel
theorem d_C_drawAllButBoards_85 : decode c_C_drawAllButBoards 85 = .ok (.goto (-24), 3) := by decide +kernel
theorem d_C_drawAllButBoards_88 : decode c_C_drawAllButBoards 88 = .ok (.iconst 1, 1) := by decide +kernel
theorem d_C_drawAllButBoards_89 : decode c_C_drawAllButBoards 89 = .ok (.ireturn, 1) := by decide +kernel
theorem d_C_drawBoards_0 : decode c_C_drawBoards 0 = .ok (.aload_n 0, 1) := by decide +kernel
theorem d_C_drawBoards_1 : decode c_C_drawBoards 1 = .ok (.getfield 60, 3) := by decide +kernel
theorem d_C_drawBoards_4 : decode c_C_drawBoards 4 = .ok (.iconst 1, 1) := by decide +kernel
theorem d_C_drawBoards_5 : decode c_C_drawBoards 5 = .ok (.invokevirtual 184, 3) := by decide +kernel
theorem d_C_drawBoards_8 : decode c_C_drawBoards 8 = .ok (.lload_n 1, 1) := by decide +kernel
theorem d_C_drawBoards_9 : decode c_C_drawBoards 9 = .ok (.lconst 0, 1) := by decide +kernel
theorem d_C_drawBoards_10 : decode c_C_drawBoards 10 = .ok (.lcmp, 1) := by decide +kernel
theorem d_C_drawBoards_11 : decode c_C_drawBoards 11 = .ok (.ifCond .gt 5, 3) := by decide +kernel
theorem d_C_drawBoards_14 : decode c_C_drawBoards 14 = .ok (.iconst 1, 1) := by decide +kernel
theorem d_C_drawBoards_15 : decode c_C_drawBoards 15 = .ok (.ireturn, 1) := by decide +kernel
theorem d_C_drawBoards_16 : decode c_C_drawBoards 16 = .ok (.aload_n 0, 1) := by decide +kernel
theorem d_C_drawBoards_17 : decode c_C_drawBoards 17 = .ok (.iconst 1, 1) := by decide +kernel
theorem d_C_drawBoards_18 : decode c_C_drawBoards 18 = .ok (.lload_n 1, 1) := by decide +kernel
theorem d_C_drawBoards_19 : decode c_C_drawBoards 19 = .ok (.bipush 30, 2) := by decide +kernel
theorem d_C_drawBoards_21 : decode c_C_drawBoards 21 = .ok (.iload_n 3, 1) := by decide +kernel
theorem d_C_drawBoards_22 : decode c_C_drawBoards 22 = .ok (.invokevirtual 187, 3) := by decide +kernel
theorem d_C_drawBoards_25 : decode c_C_drawBoards 25 = .ok (.aload_n 0, 1) := by decide +kernel
theorem d_C_drawBoards_26 : decode c_C_drawBoards 26 = .ok (.getfield 60, 3) := by decide +kernel
theorem d_C_drawBoards_29 : decode c_C_drawBoards 29 = .ok (.iconst 1, 1) := by decide +kernel
theorem d_C_drawBoards_30 : decode c_C_drawBoards 30 = .ok (.invokevirtual 191, 3) := by decide +kernel
theorem d_C_drawBoards_33 : decode c_C_drawBoards 33 = .ok (.ireturn, 1) := by decide +kernel
theorem d_C_drawPart_0 : decode c_C_drawPart 0 = .ok (.lload_n 2, 1) := by decide +kernel
theorem d_C_drawPart_1 : decode c_C_drawPart 1 = .ok (.aload_n 0, 1) := by decide +kernel
theorem d_C_drawPart_2 : decode c_C_drawPart 2 = .ok (.getfield 11, 3) := by decide +kernel
theorem d_C_drawPart_5 : decode c_C_drawPart 5 = .ok (.iload_n 1, 1) := by decide +kernel
theorem d_C_drawPart_6 : decode c_C_drawPart 6 = .ok (.laload, 1) := by decide +kernel
theorem d_C_drawPart_7 : decode c_C_drawPart 7 = .ok (.lmul, 1) := by decide +kernel
theorem d_C_drawPart_8 : decode c_C_drawPart 8 = .ok (.aload_n 0, 1) := by decide +kernel
theorem d_C_drawPart_9 : decode c_C_drawPart 9 = .ok (.getfield 15, 3) := by decide +kernel
theorem d_C_drawPart_12 : decode c_C_drawPart 12 = .ok (.iload_n 1, 1) := by decide +kernel
theorem d_C_drawPart_13 : decode c_C_drawPart 13 = .ok (.laload, 1) := by decide +kernel
theorem d_C_drawPart_14 : decode c_C_drawPart 14 = .ok (.lsub, 1) := by decide +kernel
theorem d_C_drawPart_15 : decode c_C_drawPart 15 = .ok (.lstore 4, 2) := by decide +kernel
theorem d_C_drawPart_17 : decode c_C_drawPart 17 = .ok (.lload 4, 2) := by decide +kernel
theorem d_C_drawPart_19 : decode c_C_drawPart 19 = .ok (.lconst 0, 1) := by decide +kernel
theorem d_C_drawPart_20 : decode c_C_drawPart 20 = .ok (.lcmp, 1) := by decide +kernel
theorem d_C_drawPart_21 : decode c_C_drawPart 21 = .ok (.ifCond .gt 5, 3) := by decide +kernel
theorem d_C_drawPart_24 : decode c_C_drawPart 24 = .ok (.iconst 1, 1) := by decide +kernel
theorem d_C_drawPart_25 : decode c_C_drawPart 25 = .ok (.ireturn, 1) := by decide +kernel
theorem d_C_drawPart_26 : decode c_C_drawPart 26 = .ok (.lload 4, 2) := by decide +kernel
theorem d_C_drawPart_28 : decode c_C_drawPart 28 = .ok (.ldc2_w 104, 3) := by decide +kernel
theorem d_C_drawPart_31 : decode c_C_drawPart 31 = .ok (.lcmp, 1) := by decide +kernel
theorem d_C_drawPart_32 : decode c_C_drawPart 32 = .ok (.ifCond .le 5, 3) := by decide +kernel
theorem d_C_drawPart_35 : decode c_C_drawPart 35 = .ok (.iconst 0, 1) := by decide +kernel
theorem d_C_drawPart_36 : decode c_C_drawPart 36 = .ok (.ireturn, 1) := by decide +kernel
theorem d_C_drawPart_37 : decode c_C_drawPart 37 = .ok (.iconst 3, 1) := by decide +kernel
theorem d_C_drawPart_38 : decode c_C_drawPart 38 = .ok (.iload_n 1, 1) := by decide +kernel
theorem d_C_drawPart_39 : decode c_C_drawPart 39 = .ok (.iadd, 1) := by decide +kernel
theorem d_C_drawPart_40 : decode c_C_drawPart 40 = .ok (.istore 6, 2) := by decide +kernel
theorem d_C_drawPart_42 : decode c_C_drawPart 42 = .ok (.iconst 0, 1) := by decide +kernel
theorem d_C_drawPart_43 : decode c_C_drawPart 43 = .ok (.istore 7, 2) := by decide +kernel
theorem d_C_drawPart_45 : decode c_C_drawPart 45 = .ok (.iload 7, 2) := by decide +kernel
theorem d_C_drawPart_47 : decode c_C_drawPart 47 = .ok (.aload_n 0, 1) := by decide +kernel
theorem d_C_drawPart_48 : decode c_C_drawPart 48 = .ok (.getfield 49, 3) := by decide +kernel
theorem d_C_drawPart_51 : decode c_C_drawPart 51 = .ok (.if_icmp .ge 50, 3) := by decide +kernel
theorem d_C_drawPart_54 : decode c_C_drawPart 54 = .ok (.aload_n 0, 1) := by decide +kernel
theorem d_C_drawPart_55 : decode c_C_drawPart 55 = .ok (.iload 7, 2) := by decide +kernel
theorem d_C_drawPart_57 : decode c_C_drawPart 57 = .ok (.iload_n 1, 1) := by decide +kernel
theorem d_C_drawPart_58 : decode c_C_drawPart 58 = .ok (.invokevirtual 136, 3) := by decide +kernel
theorem d_C_drawPart_61 : decode c_C_drawPart 61 = .ok (.ifCond .ne 6, 3) := by decide +kernel
theorem d_C_drawPart_64 : decode c_C_drawPart 64 = .ok (.goto 31, 3) := by decide +kernel
theorem d_C_drawPart_67 : decode c_C_drawPart 67 = .ok (.iconst 0, 1) := by decide +kernel
theorem d_C_drawPart_68 : decode c_C_drawPart 68 = .ok (.istore 8, 2) := by decide +kernel
theorem d_C_drawPart_70 : decode c_C_drawPart 70 = .ok (.iload 8, 2) := by decide +kernel
theorem d_C_drawPart_72 : decode c_C_drawPart 72 = .ok (.bipush 8, 2) := by decide +kernel
theorem d_C_drawPart_74 : decode c_C_drawPart 74 = .ok (.if_icmp .ge 21, 3) := by decide +kernel
theorem d_C_drawPart_77 : decode c_C_drawPart 77 = .ok (.aload_n 0, 1) := by decide +kernel
theorem d_C_drawPart_78 : decode c_C_drawPart 78 = .ok (.iload 6, 2) := by decide +kernel
theorem d_C_drawPart_80 : decode c_C_drawPart 80 = .ok (.lload 4, 2) := by decide +kernel
theorem d_C_drawPart_82 : decode c_C_drawPart 82 = .ok (.iload 7, 2) := by decide +kernel
theorem d_C_drawPart_84 : decode c_C_drawPart 84 = .ok (.iload 8, 2) := by decide +kernel
theorem d_C_drawPart_86 : decode c_C_drawPart 86 = .ok (.invokevirtual 187, 3) := by decide +kernel
theorem d_C_drawPart_89 : decode c_C_drawPart 89 = .ok (.iinc 8 1, 3) := by decide +kernel
theorem d_C_drawPart_92 : decode c_C_drawPart 92 = .ok (.goto (-22), 3) := by decide +kernel
theorem d_C_drawPart_95 : decode c_C_drawPart 95 = .ok (.iinc 7 1, 3) := by decide +kernel
theorem d_C_drawPart_98 : decode c_C_drawPart 98 = .ok (.goto (-53), 3) := by decide +kernel
theorem d_C_drawPart_101 : decode c_C_drawPart 101 = .ok (.aload_n 0, 1) := by decide +kernel
theorem d_C_drawPart_102 : decode c_C_drawPart 102 = .ok (.getfield 60, 3) := by decide +kernel
theorem d_C_drawPart_105 : decode c_C_drawPart 105 = .ok (.iload 6, 2) := by decide +kernel
theorem d_C_drawPart_107 : decode c_C_drawPart 107 = .ok (.invokevirtual 191, 3) := by decide +kernel
theorem d_C_drawPart_110 : decode c_C_drawPart 110 = .ok (.ireturn, 1) := by decide +kernel
theorem d_C_offerSteps_0 : decode c_C_offerSteps 0 = .ok (.iload 4, 2) := by decide +kernel
theorem d_C_offerSteps_2 : decode c_C_offerSteps 2 = .ok (.bipush 30, 2) := by decide +kernel
theorem d_C_offerSteps_4 : decode c_C_offerSteps 4 = .ok (.if_icmp .ne 7, 3) := by decide +kernel
theorem d_C_offerSteps_7 : decode c_C_offerSteps 7 = .ok (.iconst (-1), 1) := by decide +kernel
theorem d_C_offerSteps_8 : decode c_C_offerSteps 8 = .ok (.goto 5, 3) := by decide +kernel
theorem d_C_offerSteps_11 : decode c_C_offerSteps 11 = .ok (.iload 4, 2) := by decide +kernel
theorem d_C_offerSteps_13 : decode c_C_offerSteps 13 = .ok (.istore 6, 2) := by decide +kernel
theorem d_C_offerSteps_15 : decode c_C_offerSteps 15 = .ok (.aload_n 0, 1) := by decide +kernel
theorem d_C_offerSteps_16 : decode c_C_offerSteps 16 = .ok (.getfield 31, 3) := by decide +kernel
theorem d_C_offerSteps_19 : decode c_C_offerSteps 19 = .ok (.iload 4, 2) := by decide +kernel
theorem d_C_offerSteps_21 : decode c_C_offerSteps 21 = .ok (.iload 5, 2) := by decide +kernel
theorem d_C_offerSteps_23 : decode c_C_offerSteps 23 = .ok (.invokevirtual 195, 3) := by decide +kernel
theorem d_C_offerSteps_26 : decode c_C_offerSteps 26 = .ok (.istore 7, 2) := by decide +kernel
theorem d_C_offerSteps_28 : decode c_C_offerSteps 28 = .ok (.aload_n 0, 1) := by decide +kernel
theorem d_C_offerSteps_29 : decode c_C_offerSteps 29 = .ok (.getfield 31, 3) := by decide +kernel
theorem d_C_offerSteps_32 : decode c_C_offerSteps 32 = .ok (.iload 4, 2) := by decide +kernel
theorem d_C_offerSteps_34 : decode c_C_offerSteps 34 = .ok (.iload 5, 2) := by decide +kernel
theorem d_C_offerSteps_36 : decode c_C_offerSteps 36 = .ok (.invokevirtual 199, 3) := by decide +kernel
theorem d_C_offerSteps_39 : decode c_C_offerSteps 39 = .ok (.istore 8, 2) := by decide +kernel
theorem d_C_offerSteps_41 : decode c_C_offerSteps 41 = .ok (.iload 8, 2) := by decide +kernel
theorem d_C_offerSteps_43 : decode c_C_offerSteps 43 = .ok (.iload 7, 2) := by decide +kernel
theorem d_C_offerSteps_45 : decode c_C_offerSteps 45 = .ok (.if_icmp .ge 65, 3) := by decide +kernel
theorem d_C_offerSteps_48 : decode c_C_offerSteps 48 = .ok (.lload_n 2, 1) := by decide +kernel
theorem d_C_offerSteps_49 : decode c_C_offerSteps 49 = .ok (.aload_n 0, 1) := by decide +kernel
theorem d_C_offerSteps_50 : decode c_C_offerSteps 50 = .ok (.getfield 31, 3) := by decide +kernel
theorem d_C_offerSteps_53 : decode c_C_offerSteps 53 = .ok (.iload 8, 2) := by decide +kernel
theorem d_C_offerSteps_55 : decode c_C_offerSteps 55 = .ok (.invokevirtual 202, 3) := by decide +kernel
theorem d_C_offerSteps_58 : decode c_C_offerSteps 58 = .ok (.invokestatic 206, 3) := by decide +kernel
theorem d_C_offerSteps_61 : decode c_C_offerSteps 61 = .ok (.lstore 9, 2) := by decide +kernel
theorem d_C_offerSteps_63 : decode c_C_offerSteps 63 = .ok (.aload_n 0, 1) := by decide +kernel
theorem d_C_offerSteps_64 : decode c_C_offerSteps 64 = .ok (.getfield 38, 3) := by decide +kernel
theorem d_C_offerSteps_67 : decode c_C_offerSteps 67 = .ok (.iload 5, 2) := by decide +kernel
theorem d_C_offerSteps_69 : decode c_C_offerSteps 69 = .ok (.lload 9, 2) := by decide +kernel
theorem d_C_offerSteps_71 : decode c_C_offerSteps 71 = .ok (.aload_n 0, 1) := by decide +kernel
theorem d_C_offerSteps_72 : decode c_C_offerSteps 72 = .ok (.getfield 31, 3) := by decide +kernel
theorem d_C_offerSteps_75 : decode c_C_offerSteps 75 = .ok (.getfield 212, 3) := by decide +kernel
theorem d_C_offerSteps_78 : decode c_C_offerSteps 78 = .ok (.iload 8, 2) := by decide +kernel
theorem d_C_offerSteps_80 : decode c_C_offerSteps 80 = .ok (.laload, 1) := by decide +kernel
theorem d_C_offerSteps_81 : decode c_C_offerSteps 81 = .ok (.lmul, 1) := by decide +kernel
theorem d_C_offerSteps_82 : decode c_C_offerSteps 82 = .ok (.invokevirtual 215, 3) := by decide +kernel
theorem d_C_offerSteps_85 : decode c_C_offerSteps 85 = .ok (.lstore 11, 2) := by decide +kernel
theorem d_C_offerSteps_87 : decode c_C_offerSteps 87 = .ok (.aload_n 0, 1) := by decide +kernel
theorem d_C_offerSteps_88 : decode c_C_offerSteps 88 = .ok (.getfield 60, 3) := by decide +kernel
theorem d_C_offerSteps_91 : decode c_C_offerSteps 91 = .ok (.iload_n 1, 1) := by decide +kernel
theorem d_C_offerSteps_92 : decode c_C_offerSteps 92 = .ok (.lload 11, 2) := by decide +kernel
theorem d_C_offerSteps_94 : decode c_C_offerSteps 94 = .ok (.iload 6, 2) := by decide +kernel
theorem d_C_offerSteps_96 : decode c_C_offerSteps 96 = .ok (.iload 5, 2) := by decide +kernel
theorem d_C_offerSteps_98 : decode c_C_offerSteps 98 = .ok (.lload 9, 2) := by decide +kernel
theorem d_C_offerSteps_100 : decode c_C_offerSteps 100 = .ok (.l2i, 1) := by decide +kernel
theorem d_C_offerSteps_101 : decode c_C_offerSteps 101 = .ok (.invokevirtual 219, 3) := by decide +kernel
theorem d_C_offerSteps_104 : decode c_C_offerSteps 104 = .ok (.iinc 8 1, 3) := by decide +kernel
theorem d_C_offerSteps_107 : decode c_C_offerSteps 107 = .ok (.goto (-66), 3) := by decide +kernel
theorem d_C_offerSteps_110 : decode c_C_offerSteps 110 = .ok (.return_, 1) := by decide +kernel
theorem d_C_assemblyCost_0 : decode c_C_assemblyCost 0 = .ok (.lconst 0, 1) := by decide +kernel
theorem d_C_assemblyCost_1 : decode c_C_assemblyCost 1 = .ok (.lstore_n 3, 1) := by decide +kernel
theorem d_C_assemblyCost_2 : decode c_C_assemblyCost 2 = .ok (.iconst 0, 1) := by decide +kernel
theorem d_C_assemblyCost_3 : decode c_C_assemblyCost 3 = .ok (.istore 5, 2) := by decide +kernel
theorem d_C_assemblyCost_5 : decode c_C_assemblyCost 5 = .ok (.iload 5, 2) := by decide +kernel
theorem d_C_assemblyCost_7 : decode c_C_assemblyCost 7 = .ok (.bipush 8, 2) := by decide +kernel
theorem d_C_assemblyCost_9 : decode c_C_assemblyCost 9 = .ok (.if_icmp .ge 35, 3) := by decide +kernel
theorem d_C_assemblyCost_12 : decode c_C_assemblyCost 12 = .ok (.lload_n 3, 1) := by decide +kernel
theorem d_C_assemblyCost_13 : decode c_C_assemblyCost 13 = .ok (.lload_n 1, 1) := by decide +kernel
theorem d_C_assemblyCost_14 : decode c_C_assemblyCost 14 = .ok (.aload_n 0, 1) := by decide +kernel
theorem d_C_assemblyCost_15 : decode c_C_assemblyCost 15 = .ok (.getfield 25, 3) := by decide +kernel
theorem d_C_assemblyCost_18 : decode c_C_assemblyCost 18 = .ok (.iload 5, 2) := by decide +kernel
theorem d_C_assemblyCost_20 : decode c_C_assemblyCost 20 = .ok (.laload, 1) := by decide +kernel
theorem d_C_assemblyCost_21 : decode c_C_assemblyCost 21 = .ok (.lmul, 1) := by decide +kernel
theorem d_C_assemblyCost_22 : decode c_C_assemblyCost 22 = .ok (.aload_n 0, 1) := by decide +kernel
theorem d_C_assemblyCost_23 : decode c_C_assemblyCost 23 = .ok (.getfield 22, 3) := by decide +kernel
theorem d_C_assemblyCost_26 : decode c_C_assemblyCost 26 = .ok (.iload 5, 2) := by decide +kernel
theorem d_C_assemblyCost_28 : decode c_C_assemblyCost 28 = .ok (.laload, 1) := by decide +kernel
theorem d_C_assemblyCost_29 : decode c_C_assemblyCost 29 = .ok (.lmul, 1) := by decide +kernel
theorem d_C_assemblyCost_30 : decode c_C_assemblyCost 30 = .ok (.ldc2_w 82, 3) := by decide +kernel
theorem d_C_assemblyCost_33 : decode c_C_assemblyCost 33 = .ok (.invokestatic 223, 3) := by decide +kernel
theorem d_C_assemblyCost_36 : decode c_C_assemblyCost 36 = .ok (.ladd, 1) := by decide +kernel
theorem d_C_assemblyCost_37 : decode c_C_assemblyCost 37 = .ok (.lstore_n 3, 1) := by decide +kernel
theorem d_C_assemblyCost_38 : decode c_C_assemblyCost 38 = .ok (.iinc 5 1, 3) := by decide +kernel
theorem d_C_assemblyCost_41 : decode c_C_assemblyCost 41 = .ok (.goto (-36), 3) := by decide +kernel
theorem d_C_assemblyCost_44 : decode c_C_assemblyCost 44 = .ok (.lload_n 3, 1) := by decide +kernel
theorem d_C_assemblyCost_45 : decode c_C_assemblyCost 45 = .ok (.lreturn, 1) := by decide +kernel
theorem d_C_keepDraft_0 : decode c_C_keepDraft 0 = .ok (.aload_n 0, 1) := by decide +kernel
theorem d_C_keepDraft_1 : decode c_C_keepDraft 1 = .ok (.getfield 67, 3) := by decide +kernel
theorem d_C_keepDraft_4 : decode c_C_keepDraft 4 = .ok (.astore_n 1, 1) := by decide +kernel
theorem d_C_keepDraft_5 : decode c_C_keepDraft 5 = .ok (.aload_n 0, 1) := by decide +kernel
theorem d_C_keepDraft_6 : decode c_C_keepDraft 6 = .ok (.aload_n 0, 1) := by decide +kernel
theorem d_C_keepDraft_7 : decode c_C_keepDraft 7 = .ok (.getfield 64, 3) := by decide +kernel
theorem d_C_keepDraft_10 : decode c_C_keepDraft 10 = .ok (.putfield 67, 3) := by decide +kernel
theorem d_C_keepDraft_13 : decode c_C_keepDraft 13 = .ok (.aload_n 0, 1) := by decide +kernel
theorem d_C_keepDraft_14 : decode c_C_keepDraft 14 = .ok (.aload_n 0, 1) := by decide +kernel
theorem d_C_keepDraft_15 : decode c_C_keepDraft 15 = .ok (.getfield 60, 3) := by decide +kernel
theorem d_C_keepDraft_18 : decode c_C_keepDraft 18 = .ok (.putfield 64, 3) := by decide +kernel
theorem d_C_keepDraft_21 : decode c_C_keepDraft 21 = .ok (.aload_n 0, 1) := by decide +kernel
theorem d_C_keepDraft_22 : decode c_C_keepDraft 22 = .ok (.aload_n 1, 1) := by decide +kernel
theorem d_C_keepDraft_23 : decode c_C_keepDraft 23 = .ok (.putfield 60, 3) := by decide +kernel
theorem d_C_keepDraft_26 : decode c_C_keepDraft 26 = .ok (.return_, 1) := by decide +kernel
theorem d_L_price_0 : decode c_L_price 0 = .ok (.aload 7, 2) := by decide +kernel
theorem d_L_price_2 : decode c_L_price 2 = .ok (.iconst 0, 1) := by decide +kernel
theorem d_L_price_3 : decode c_L_price 3 = .ok (.aload_n 0, 1) := by decide +kernel
theorem d_L_price_4 : decode c_L_price 4 = .ok (.iload_n 1, 1) := by decide +kernel
theorem d_L_price_5 : decode c_L_price 5 = .ok (.iload_n 2, 1) := by decide +kernel
theorem d_L_price_6 : decode c_L_price 6 = .ok (.lload_n 3, 1) := by decide +kernel
theorem d_L_price_7 : decode c_L_price 7 = .ok (.lload 5, 2) := by decide +kernel
theorem d_L_price_9 : decode c_L_price 9 = .ok (.invokevirtual 7, 3) := by decide +kernel
theorem d_L_price_12 : decode c_L_price 12 = .ok (.ifCond .eq 7, 3) := by decide +kernel
theorem d_L_price_15 : decode c_L_price 15 = .ok (.lconst 1, 1) := by decide +kernel
theorem d_L_price_16 : decode c_L_price 16 = .ok (.goto 4, 3) := by decide +kernel
theorem d_L_price_19 : decode c_L_price 19 = .ok (.lconst 0, 1) := by decide +kernel
theorem d_L_price_20 : decode c_L_price 20 = .ok (.lastore, 1) := by decide +kernel
theorem d_L_price_21 : decode c_L_price 21 = .ok (.goto 11, 3) := by decide +kernel
theorem d_L_price_24 : decode c_L_price 24 = .ok (.astore 8, 2) := by decide +kernel
theorem d_L_price_26 : decode c_L_price 26 = .ok (.iconst 1, 1) := by decide +kernel
theorem d_L_price_27 : decode c_L_price 27 = .ok (.ireturn, 1) := by decide +kernel
theorem d_L_price_28 : decode c_L_price 28 = .ok (.astore 8, 2) := by decide +kernel
theorem d_L_price_30 : decode c_L_price 30 = .ok (.iconst 2, 1) := by decide +kernel
theorem d_L_price_31 : decode c_L_price 31 = .ok (.ireturn, 1) := by decide +kernel
theorem d_L_price_32 : decode c_L_price 32 = .ok (.iconst 0, 1) := by decide +kernel
theorem d_L_price_33 : decode c_L_price 33 = .ok (.ireturn, 1) := by decide +kernel
theorem d_L_uses_0 : decode c_L_uses 0 = .ok (.aload 4, 2) := by decide +kernel
theorem d_L_uses_2 : decode c_L_uses 2 = .ok (.iconst 0, 1) := by decide +kernel
theorem d_L_uses_3 : decode c_L_uses 3 = .ok (.aload_n 0, 1) := by decide +kernel
theorem d_L_uses_4 : decode c_L_uses 4 = .ok (.iload_n 1, 1) := by decide +kernel
theorem d_L_uses_5 : decode c_L_uses 5 = .ok (.lload_n 2, 1) := by decide +kernel
theorem d_L_uses_6 : decode c_L_uses 6 = .ok (.invokevirtual 17, 3) := by decide +kernel
theorem d_L_uses_9 : decode c_L_uses 9 = .ok (.ifCond .eq 7, 3) := by decide +kernel
theorem d_L_uses_12 : decode c_L_uses 12 = .ok (.lconst 1, 1) := by decide +kernel
theorem d_L_uses_13 : decode c_L_uses 13 = .ok (.goto 4, 3) := by decide +kernel
theorem d_L_uses_16 : decode c_L_uses 16 = .ok (.lconst 0, 1) := by decide +kernel
theorem d_L_uses_17 : decode c_L_uses 17 = .ok (.lastore, 1) := by decide +kernel
theorem d_L_uses_18 : decode c_L_uses 18 = .ok (.goto 11, 3) := by decide +kernel
theorem d_L_uses_21 : decode c_L_uses 21 = .ok (.astore 5, 2) := by decide +kernel
theorem d_L_uses_23 : decode c_L_uses 23 = .ok (.iconst 1, 1) := by decide +kernel
theorem d_L_uses_24 : decode c_L_uses 24 = .ok (.ireturn, 1) := by decide +kernel
theorem d_L_uses_25 : decode c_L_uses 25 = .ok (.astore 5, 2) := by decide +kernel
theorem d_L_uses_27 : decode c_L_uses 27 = .ok (.iconst 2, 1) := by decide +kernel
theorem d_L_uses_28 : decode c_L_uses 28 = .ok (.ireturn, 1) := by decide +kernel
theorem d_L_uses_29 : decode c_L_uses 29 = .ok (.iconst 0, 1) := by decide +kernel
theorem d_L_uses_30 : decode c_L_uses 30 = .ok (.ireturn, 1) := by decide +kernel
theorem d_L_board_0 : decode c_L_board 0 = .ok (.aload 6, 2) := by decide +kernel
theorem d_L_board_2 : decode c_L_board 2 = .ok (.iconst 0, 1) := by decide +kernel
theorem d_L_board_3 : decode c_L_board 3 = .ok (.aload_n 0, 1) := by decide +kernel
theorem d_L_board_4 : decode c_L_board 4 = .ok (.iload_n 1, 1) := by decide +kernel
theorem d_L_board_5 : decode c_L_board 5 = .ok (.lload_n 2, 1) := by decide +kernel
theorem d_L_board_6 : decode c_L_board 6 = .ok (.lload 4, 2) := by decide +kernel
theorem d_L_board_8 : decode c_L_board 8 = .ok (.invokevirtual 21, 3) := by decide +kernel
theorem d_L_board_11 : decode c_L_board 11 = .ok (.ifCond .eq 7, 3) := by decide +kernel
theorem d_L_board_14 : decode c_L_board 14 = .ok (.lconst 1, 1) := by decide +kernel
theorem d_L_board_15 : decode c_L_board 15 = .ok (.goto 4, 3) := by decide +kernel
theorem d_L_board_18 : decode c_L_board 18 = .ok (.lconst 0, 1) := by decide +kernel
theorem d_L_board_19 : decode c_L_board 19 = .ok (.lastore, 1) := by decide +kernel
theorem d_L_board_20 : decode c_L_board 20 = .ok (.goto 11, 3) := by decide +kernel
theorem d_L_board_23 : decode c_L_board 23 = .ok (.astore 7, 2) := by decide +kernel
theorem d_L_board_25 : decode c_L_board 25 = .ok (.iconst 1, 1) := by decide +kernel
theorem d_L_board_26 : decode c_L_board 26 = .ok (.ireturn, 1) := by decide +kernel
theorem d_L_board_27 : decode c_L_board 27 = .ok (.astore 7, 2) := by decide +kernel
theorem d_L_board_29 : decode c_L_board 29 = .ok (.iconst 2, 1) := by decide +kernel
theorem d_L_board_30 : decode c_L_board 30 = .ok (.ireturn, 1) := by decide +kernel
theorem d_L_board_31 : decode c_L_board 31 = .ok (.iconst 0, 1) := by decide +kernel
theorem d_L_board_32 : decode c_L_board 32 = .ok (.ireturn, 1) := by decide +kernel
theorem d_L_assembly_0 : decode c_L_assembly 0 = .ok (.aload 4, 2) := by decide +kernel
theorem d_L_assembly_2 : decode c_L_assembly 2 = .ok (.iconst 0, 1) := by decide +kernel
theorem d_L_assembly_3 : decode c_L_assembly 3 = .ok (.aload_n 0, 1) := by decide +kernel
theorem d_L_assembly_4 : decode c_L_assembly 4 = .ok (.iload_n 1, 1) := by decide +kernel
theorem d_L_assembly_5 : decode c_L_assembly 5 = .ok (.lload_n 2, 1) := by decide +kernel
theorem d_L_assembly_6 : decode c_L_assembly 6 = .ok (.invokevirtual 25, 3) := by decide +kernel
theorem d_L_assembly_9 : decode c_L_assembly 9 = .ok (.ifCond .eq 7, 3) := by decide +kernel
theorem d_L_assembly_12 : decode c_L_assembly 12 = .ok (.lconst 1, 1) := by decide +kernel
theorem d_L_assembly_13 : decode c_L_assembly 13 = .ok (.goto 4, 3) := by decide +kernel
theorem d_L_assembly_16 : decode c_L_assembly 16 = .ok (.lconst 0, 1) := by decide +kernel
theorem d_L_assembly_17 : decode c_L_assembly 17 = .ok (.lastore, 1) := by decide +kernel
theorem d_L_assembly_18 : decode c_L_assembly 18 = .ok (.goto 11, 3) := by decide +kernel
theorem d_L_assembly_21 : decode c_L_assembly 21 = .ok (.astore 5, 2) := by decide +kernel
theorem d_L_assembly_23 : decode c_L_assembly 23 = .ok (.iconst 1, 1) := by decide +kernel
theorem d_L_assembly_24 : decode c_L_assembly 24 = .ok (.ireturn, 1) := by decide +kernel
theorem d_L_assembly_25 : decode c_L_assembly 25 = .ok (.astore 5, 2) := by decide +kernel
theorem d_L_assembly_27 : decode c_L_assembly 27 = .ok (.iconst 2, 1) := by decide +kernel
theorem d_L_assembly_28 : decode c_L_assembly 28 = .ok (.ireturn, 1) := by decide +kernel
theorem d_L_assembly_29 : decode c_L_assembly 29 = .ok (.iconst 0, 1) := by decide +kernel
theorem d_L_assembly_30 : decode c_L_assembly 30 = .ok (.ireturn, 1) := by decide +kernel
theorem d_L_placed_0 : decode c_L_placed 0 = .ok (.aload 4, 2) := by decide +kernel
theorem d_L_placed_2 : decode c_L_placed 2 = .ok (.iconst 0, 1) := by decide +kernel
theorem d_L_placed_3 : decode c_L_placed 3 = .ok (.aload_n 0, 1) := by decide +kernel
theorem d_L_placed_4 : decode c_L_placed 4 = .ok (.iload_n 1, 1) := by decide +kernel
theorem d_L_placed_5 : decode c_L_placed 5 = .ok (.lload_n 2, 1) := by decide +kernel
theorem d_L_placed_6 : decode c_L_placed 6 = .ok (.invokevirtual 28, 3) := by decide +kernel
theorem d_L_placed_9 : decode c_L_placed 9 = .ok (.ifCond .eq 7, 3) := by decide +kernel
theorem d_L_placed_12 : decode c_L_placed 12 = .ok (.lconst 1, 1) := by decide +kernel
theorem d_L_placed_13 : decode c_L_placed 13 = .ok (.goto 4, 3) := by decide +kernel
theorem d_L_placed_16 : decode c_L_placed 16 = .ok (.lconst 0, 1) := by decide +kernel
theorem d_L_placed_17 : decode c_L_placed 17 = .ok (.lastore, 1) := by decide +kernel
theorem d_L_placed_18 : decode c_L_placed 18 = .ok (.goto 11, 3) := by decide +kernel
theorem d_L_placed_21 : decode c_L_placed 21 = .ok (.astore 5, 2) := by decide +kernel
theorem d_L_placed_23 : decode c_L_placed 23 = .ok (.iconst 1, 1) := by decide +kernel
theorem d_L_placed_24 : decode c_L_placed 24 = .ok (.ireturn, 1) := by decide +kernel
theorem d_L_placed_25 : decode c_L_placed 25 = .ok (.astore 5, 2) := by decide +kernel
theorem d_L_placed_27 : decode c_L_placed 27 = .ok (.iconst 2, 1) := by decide +kernel
theorem d_L_placed_28 : decode c_L_placed 28 = .ok (.ireturn, 1) := by decide +kernel
theorem d_L_placed_29 : decode c_L_placed 29 = .ok (.iconst 0, 1) := by decide +kernel
theorem d_L_placed_30 : decode c_L_placed 30 = .ok (.ireturn, 1) := by decide +kernel
theorem d_L_yieldOf_0 : decode c_L_yieldOf 0 = .ok (.aload 5, 2) := by decide +kernel
theorem d_L_yieldOf_2 : decode c_L_yieldOf 2 = .ok (.iconst 0, 1) := by decide +kernel
theorem d_L_yieldOf_3 : decode c_L_yieldOf 3 = .ok (.aload_n 0, 1) := by decide +kernel
theorem d_L_yieldOf_4 : decode c_L_yieldOf 4 = .ok (.lload_n 1, 1) := by decide +kernel
theorem d_L_yieldOf_5 : decode c_L_yieldOf 5 = .ok (.lload_n 3, 1) := by decide +kernel
theorem d_L_yieldOf_6 : decode c_L_yieldOf 6 = .ok (.invokevirtual 31, 3) := by decide +kernel
theorem d_L_yieldOf_9 : decode c_L_yieldOf 9 = .ok (.ifCond .eq 7, 3) := by decide +kernel
theorem d_L_yieldOf_12 : decode c_L_yieldOf 12 = .ok (.lconst 1, 1) := by decide +kernel
theorem d_L_yieldOf_13 : decode c_L_yieldOf 13 = .ok (.goto 4, 3) := by decide +kernel
theorem d_L_yieldOf_16 : decode c_L_yieldOf 16 = .ok (.lconst 0, 1) := by decide +kernel
theorem d_L_yieldOf_17 : decode c_L_yieldOf 17 = .ok (.lastore, 1) := by decide +kernel
theorem d_L_yieldOf_18 : decode c_L_yieldOf 18 = .ok (.goto 7, 3) := by decide +kernel
theorem d_L_yieldOf_21 : decode c_L_yieldOf 21 = .ok (.astore 6, 2) := by decide +kernel
theorem d_L_yieldOf_23 : decode c_L_yieldOf 23 = .ok (.iconst 1, 1) := by decide +kernel
theorem d_L_yieldOf_24 : decode c_L_yieldOf 24 = .ok (.ireturn, 1) := by decide +kernel
theorem d_L_yieldOf_25 : decode c_L_yieldOf 25 = .ok (.iconst 0, 1) := by decide +kernel
theorem d_L_yieldOf_26 : decode c_L_yieldOf 26 = .ok (.ireturn, 1) := by decide +kernel
theorem d_L_currency_0 : decode c_L_currency 0 = .ok (.aload 8, 2) := by decide +kernel
theorem d_L_currency_2 : decode c_L_currency 2 = .ok (.iconst 0, 1) := by decide +kernel
theorem d_L_currency_3 : decode c_L_currency 3 = .ok (.aload_n 0, 1) := by decide +kernel
theorem d_L_currency_4 : decode c_L_currency 4 = .ok (.iload_n 1, 1) := by decide +kernel
theorem d_L_currency_5 : decode c_L_currency 5 = .ok (.lload_n 2, 1) := by decide +kernel
theorem d_L_currency_6 : decode c_L_currency 6 = .ok (.lload 4, 2) := by decide +kernel
theorem d_L_currency_8 : decode c_L_currency 8 = .ok (.lload 6, 2) := by decide +kernel
theorem d_L_currency_10 : decode c_L_currency 10 = .ok (.invokevirtual 35, 3) := by decide +kernel
theorem d_L_currency_13 : decode c_L_currency 13 = .ok (.ifCond .eq 7, 3) := by decide +kernel
theorem d_L_currency_16 : decode c_L_currency 16 = .ok (.lconst 1, 1) := by decide +kernel
theorem d_L_currency_17 : decode c_L_currency 17 = .ok (.goto 4, 3) := by decide +kernel
theorem d_L_currency_20 : decode c_L_currency 20 = .ok (.lconst 0, 1) := by decide +kernel
theorem d_L_currency_21 : decode c_L_currency 21 = .ok (.lastore, 1) := by decide +kernel
theorem d_L_currency_22 : decode c_L_currency 22 = .ok (.goto 11, 3) := by decide +kernel
theorem d_L_currency_25 : decode c_L_currency 25 = .ok (.astore 9, 2) := by decide +kernel
theorem d_L_currency_27 : decode c_L_currency 27 = .ok (.iconst 1, 1) := by decide +kernel
theorem d_L_currency_28 : decode c_L_currency 28 = .ok (.ireturn, 1) := by decide +kernel
theorem d_L_currency_29 : decode c_L_currency 29 = .ok (.astore 9, 2) := by decide +kernel
theorem d_L_currency_31 : decode c_L_currency 31 = .ok (.iconst 2, 1) := by decide +kernel
theorem d_L_currency_32 : decode c_L_currency 32 = .ok (.ireturn, 1) := by decide +kernel
theorem d_L_currency_33 : decode c_L_currency 33 = .ok (.iconst 0, 1) := by decide +kernel
theorem d_L_currency_34 : decode c_L_currency 34 = .ok (.ireturn, 1) := by decide +kernel
theorem d_L_tooling_0 : decode c_L_tooling 0 = .ok (.aload_n 3, 1) := by decide +kernel
theorem d_L_tooling_1 : decode c_L_tooling 1 = .ok (.iconst 0, 1) := by decide +kernel
theorem d_L_tooling_2 : decode c_L_tooling 2 = .ok (.aload_n 0, 1) := by decide +kernel
theorem d_L_tooling_3 : decode c_L_tooling 3 = .ok (.lload_n 1, 1) := by decide +kernel
theorem d_L_tooling_4 : decode c_L_tooling 4 = .ok (.invokevirtual 39, 3) := by decide +kernel
theorem d_L_tooling_7 : decode c_L_tooling 7 = .ok (.ifCond .eq 7, 3) := by decide +kernel
theorem d_L_tooling_10 : decode c_L_tooling 10 = .ok (.lconst 1, 1) := by decide +kernel
theorem d_L_tooling_11 : decode c_L_tooling 11 = .ok (.goto 4, 3) := by decide +kernel
theorem d_L_tooling_14 : decode c_L_tooling 14 = .ok (.lconst 0, 1) := by decide +kernel
theorem d_L_tooling_15 : decode c_L_tooling 15 = .ok (.lastore, 1) := by decide +kernel
theorem d_L_tooling_16 : decode c_L_tooling 16 = .ok (.goto 7, 3) := by decide +kernel
theorem d_L_tooling_19 : decode c_L_tooling 19 = .ok (.astore 4, 2) := by decide +kernel
theorem d_L_tooling_21 : decode c_L_tooling 21 = .ok (.iconst 1, 1) := by decide +kernel
theorem d_L_tooling_22 : decode c_L_tooling 22 = .ok (.ireturn, 1) := by decide +kernel
theorem d_L_tooling_23 : decode c_L_tooling 23 = .ok (.iconst 0, 1) := by decide +kernel
theorem d_L_tooling_24 : decode c_L_tooling 24 = .ok (.ireturn, 1) := by decide +kernel
theorem d_L_stock_0 : decode c_L_stock 0 = .ok (.aload 4, 2) := by decide +kernel
theorem d_L_stock_2 : decode c_L_stock 2 = .ok (.iconst 0, 1) := by decide +kernel
theorem d_L_stock_3 : decode c_L_stock 3 = .ok (.aload_n 0, 1) := by decide +kernel
theorem d_L_stock_4 : decode c_L_stock 4 = .ok (.iload_n 1, 1) := by decide +kernel
theorem d_L_stock_5 : decode c_L_stock 5 = .ok (.lload_n 2, 1) := by decide +kernel
theorem d_L_stock_6 : decode c_L_stock 6 = .ok (.invokevirtual 43, 3) := by decide +kernel
theorem d_L_stock_9 : decode c_L_stock 9 = .ok (.ifCond .eq 7, 3) := by decide +kernel
theorem d_L_stock_12 : decode c_L_stock 12 = .ok (.lconst 1, 1) := by decide +kernel
theorem d_L_stock_13 : decode c_L_stock 13 = .ok (.goto 4, 3) := by decide +kernel
theorem d_L_stock_16 : decode c_L_stock 16 = .ok (.lconst 0, 1) := by decide +kernel
theorem d_L_stock_17 : decode c_L_stock 17 = .ok (.lastore, 1) := by decide +kernel
theorem d_L_stock_18 : decode c_L_stock 18 = .ok (.goto 11, 3) := by decide +kernel
theorem d_L_stock_21 : decode c_L_stock 21 = .ok (.astore 5, 2) := by decide +kernel
theorem d_L_stock_23 : decode c_L_stock 23 = .ok (.iconst 1, 1) := by decide +kernel
theorem d_L_stock_24 : decode c_L_stock 24 = .ok (.ireturn, 1) := by decide +kernel
theorem d_L_stock_25 : decode c_L_stock 25 = .ok (.astore 5, 2) := by decide +kernel
theorem d_L_stock_27 : decode c_L_stock 27 = .ok (.iconst 2, 1) := by decide +kernel
theorem d_L_stock_28 : decode c_L_stock 28 = .ok (.ireturn, 1) := by decide +kernel
theorem d_L_stock_29 : decode c_L_stock 29 = .ok (.iconst 0, 1) := by decide +kernel
theorem d_L_stock_30 : decode c_L_stock 30 = .ok (.ireturn, 1) := by decide +kernel
theorem d_L_total_0 : decode c_L_total 0 = .ok (.aload 6, 2) := by decide +kernel
theorem d_L_total_2 : decode c_L_total 2 = .ok (.iconst 0, 1) := by decide +kernel
theorem d_L_total_3 : decode c_L_total 3 = .ok (.aload_n 0, 1) := by decide +kernel
theorem d_L_total_4 : decode c_L_total 4 = .ok (.lload_n 1, 1) := by decide +kernel
theorem d_L_total_5 : decode c_L_total 5 = .ok (.iload_n 3, 1) := by decide +kernel
theorem d_L_total_6 : decode c_L_total 6 = .ok (.lload 4, 2) := by decide +kernel
theorem d_L_total_8 : decode c_L_total 8 = .ok (.invokevirtual 46, 3) := by decide +kernel
theorem d_L_total_11 : decode c_L_total 11 = .ok (.lastore, 1) := by decide +kernel
theorem d_L_total_12 : decode c_L_total 12 = .ok (.goto 11, 3) := by decide +kernel
theorem d_L_total_15 : decode c_L_total 15 = .ok (.astore 7, 2) := by decide +kernel
theorem d_L_total_17 : decode c_L_total 17 = .ok (.iconst 1, 1) := by decide +kernel
theorem d_L_total_18 : decode c_L_total 18 = .ok (.ireturn, 1) := by decide +kernel
theorem d_L_total_19 : decode c_L_total 19 = .ok (.astore 7, 2) := by decide +kernel
theorem d_L_total_21 : decode c_L_total 21 = .ok (.iconst 2, 1) := by decide +kernel
theorem d_L_total_22 : decode c_L_total 22 = .ok (.ireturn, 1) := by decide +kernel
theorem d_L_total_23 : decode c_L_total 23 = .ok (.iconst 0, 1) := by decide +kernel
theorem d_L_total_24 : decode c_L_total 24 = .ok (.ireturn, 1) := by decide +kernel
theorem d_L_best_0 : decode c_L_best 0 = .ok (.aload 5, 2) := by decide +kernel
theorem d_L_best_2 : decode c_L_best 2 = .ok (.iconst 0, 1) := by decide +kernel
theorem d_L_best_3 : decode c_L_best 3 = .ok (.aload_n 0, 1) := by decide +kernel
theorem d_L_best_4 : decode c_L_best 4 = .ok (.lload_n 1, 1) := by decide +kernel
theorem d_L_best_5 : decode c_L_best 5 = .ok (.lload_n 3, 1) := by decide +kernel
theorem d_L_best_6 : decode c_L_best 6 = .ok (.invokevirtual 50, 3) := by decide +kernel
theorem d_L_best_9 : decode c_L_best 9 = .ok (.i2l, 1) := by decide +kernel
theorem d_L_best_10 : decode c_L_best 10 = .ok (.lastore, 1) := by decide +kernel
theorem d_L_best_11 : decode c_L_best 11 = .ok (.goto 7, 3) := by decide +kernel
theorem d_L_best_14 : decode c_L_best 14 = .ok (.astore 6, 2) := by decide +kernel
theorem d_L_best_16 : decode c_L_best 16 = .ok (.iconst 1, 1) := by decide +kernel
theorem d_L_best_17 : decode c_L_best 17 = .ok (.ireturn, 1) := by decide +kernel
theorem d_L_best_18 : decode c_L_best 18 = .ok (.iconst 0, 1) := by decide +kernel
theorem d_L_best_19 : decode c_L_best 19 = .ok (.ireturn, 1) := by decide +kernel
theorem d_L_each_0 : decode c_L_each 0 = .ok (.aload 7, 2) := by decide +kernel
theorem d_L_each_2 : decode c_L_each 2 = .ok (.iconst 0, 1) := by decide +kernel
theorem d_L_each_3 : decode c_L_each 3 = .ok (.aload_n 0, 1) := by decide +kernel
theorem d_L_each_4 : decode c_L_each 4 = .ok (.lload_n 1, 1) := by decide +kernel
theorem d_L_each_5 : decode c_L_each 5 = .ok (.iload_n 3, 1) := by decide +kernel
theorem d_L_each_6 : decode c_L_each 6 = .ok (.lload 4, 2) := by decide +kernel
theorem d_L_each_8 : decode c_L_each 8 = .ok (.iload 6, 2) := by decide +kernel
theorem d_L_each_10 : decode c_L_each 10 = .ok (.invokevirtual 54, 3) := by decide +kernel
theorem d_L_each_13 : decode c_L_each 13 = .ok (.lastore, 1) := by decide +kernel
theorem d_L_each_14 : decode c_L_each 14 = .ok (.goto 11, 3) := by decide +kernel
theorem d_L_each_17 : decode c_L_each 17 = .ok (.astore 8, 2) := by decide +kernel
theorem d_L_each_19 : decode c_L_each 19 = .ok (.iconst 1, 1) := by decide +kernel
theorem d_L_each_20 : decode c_L_each 20 = .ok (.ireturn, 1) := by decide +kernel
theorem d_L_each_21 : decode c_L_each 21 = .ok (.astore 8, 2) := by decide +kernel
theorem d_L_each_23 : decode c_L_each 23 = .ok (.iconst 2, 1) := by decide +kernel
theorem d_L_each_24 : decode c_L_each 24 = .ok (.ireturn, 1) := by decide +kernel
theorem d_L_each_25 : decode c_L_each 25 = .ok (.iconst 0, 1) := by decide +kernel
theorem d_L_each_26 : decode c_L_each 26 = .ok (.ireturn, 1) := by decide +kernel
theorem d_L_suppliers_0 : decode c_L_suppliers 0 = .ok (.aload 4, 2) := by decide +kernel
theorem d_L_suppliers_2 : decode c_L_suppliers 2 = .ok (.iconst 0, 1) := by decide +kernel
theorem d_L_suppliers_3 : decode c_L_suppliers 3 = .ok (.aload_n 0, 1) := by decide +kernel
theorem d_L_suppliers_4 : decode c_L_suppliers 4 = .ok (.lload_n 1, 1) := by decide +kernel
theorem d_L_suppliers_5 : decode c_L_suppliers 5 = .ok (.iload_n 3, 1) := by decide +kernel
theorem d_L_suppliers_6 : decode c_L_suppliers 6 = .ok (.invokevirtual 58, 3) := by decide +kernel
theorem d_L_suppliers_9 : decode c_L_suppliers 9 = .ok (.i2l, 1) := by decide +kernel
theorem d_L_suppliers_10 : decode c_L_suppliers 10 = .ok (.lastore, 1) := by decide +kernel
theorem d_L_suppliers_11 : decode c_L_suppliers 11 = .ok (.goto 11, 3) := by decide +kernel
theorem d_L_suppliers_14 : decode c_L_suppliers 14 = .ok (.astore 5, 2) := by decide +kernel
theorem d_L_suppliers_16 : decode c_L_suppliers 16 = .ok (.iconst 1, 1) := by decide +kernel
theorem d_L_suppliers_17 : decode c_L_suppliers 17 = .ok (.ireturn, 1) := by decide +kernel
theorem d_L_suppliers_18 : decode c_L_suppliers 18 = .ok (.astore 5, 2) := by decide +kernel
theorem d_L_suppliers_20 : decode c_L_suppliers 20 = .ok (.iconst 2, 1) := by decide +kernel
theorem d_L_suppliers_21 : decode c_L_suppliers 21 = .ok (.ireturn, 1) := by decide +kernel
theorem d_L_suppliers_22 : decode c_L_suppliers 22 = .ok (.iconst 0, 1) := by decide +kernel
theorem d_L_suppliers_23 : decode c_L_suppliers 23 = .ok (.ireturn, 1) := by decide +kernel
theorem d_L_alternate_0 : decode c_L_alternate 0 = .ok (.aload_n 3, 1) := by decide +kernel
theorem d_L_alternate_1 : decode c_L_alternate 1 = .ok (.iconst 0, 1) := by decide +kernel
theorem d_L_alternate_2 : decode c_L_alternate 2 = .ok (.aload_n 0, 1) := by decide +kernel
theorem d_L_alternate_3 : decode c_L_alternate 3 = .ok (.iload_n 1, 1) := by decide +kernel
theorem d_L_alternate_4 : decode c_L_alternate 4 = .ok (.iload_n 2, 1) := by decide +kernel
theorem d_L_alternate_5 : decode c_L_alternate 5 = .ok (.invokevirtual 62, 3) := by decide +kernel
theorem d_L_alternate_8 : decode c_L_alternate 8 = .ok (.ifCond .eq 7, 3) := by decide +kernel
theorem d_L_alternate_11 : decode c_L_alternate 11 = .ok (.lconst 1, 1) := by decide +kernel
theorem d_L_alternate_12 : decode c_L_alternate 12 = .ok (.goto 4, 3) := by decide +kernel
theorem d_L_alternate_15 : decode c_L_alternate 15 = .ok (.lconst 0, 1) := by decide +kernel
theorem d_L_alternate_16 : decode c_L_alternate 16 = .ok (.lastore, 1) := by decide +kernel
theorem d_L_alternate_17 : decode c_L_alternate 17 = .ok (.goto 7, 3) := by decide +kernel
theorem d_L_alternate_20 : decode c_L_alternate 20 = .ok (.astore 4, 2) := by decide +kernel
theorem d_L_alternate_22 : decode c_L_alternate 22 = .ok (.iconst 1, 1) := by decide +kernel
theorem d_L_alternate_23 : decode c_L_alternate 23 = .ok (.ireturn, 1) := by decide +kernel
theorem d_L_alternate_24 : decode c_L_alternate 24 = .ok (.iconst 0, 1) := by decide +kernel
theorem d_L_alternate_25 : decode c_L_alternate 25 = .ok (.ireturn, 1) := by decide +kernel
theorem d_L_row_0 : decode c_L_row 0 = .ok (.aload_n 3, 1) := by decide +kernel
theorem d_L_row_1 : decode c_L_row 1 = .ok (.iconst 0, 1) := by decide +kernel
theorem d_L_row_2 : decode c_L_row 2 = .ok (.aload_n 0, 1) := by decide +kernel
theorem d_L_row_3 : decode c_L_row 3 = .ok (.iload_n 1, 1) := by decide +kernel
theorem d_L_row_4 : decode c_L_row 4 = .ok (.iload_n 2, 1) := by decide +kernel
theorem d_L_row_5 : decode c_L_row 5 = .ok (.invokevirtual 66, 3) := by decide +kernel
theorem d_L_row_8 : decode c_L_row 8 = .ok (.i2l, 1) := by decide +kernel
theorem d_L_row_9 : decode c_L_row 9 = .ok (.lastore, 1) := by decide +kernel
theorem d_L_row_10 : decode c_L_row 10 = .ok (.goto 7, 3) := by decide +kernel
theorem d_L_row_13 : decode c_L_row 13 = .ok (.astore 4, 2) := by decide +kernel
theorem d_L_row_15 : decode c_L_row 15 = .ok (.iconst 1, 1) := by decide +kernel
theorem d_L_row_16 : decode c_L_row 16 = .ok (.ireturn, 1) := by decide +kernel
theorem d_L_row_17 : decode c_L_row 17 = .ok (.iconst 0, 1) := by decide +kernel
theorem d_L_row_18 : decode c_L_row 18 = .ok (.ireturn, 1) := by decide +kernel
theorem d_JI_bitCount_0 : decode c_JI_bitCount 0 = .ok (.iload_n 0, 1) := by decide +kernel
theorem d_JI_bitCount_1 : decode c_JI_bitCount 1 = .ok (.iload_n 0, 1) := by decide +kernel
theorem d_JI_bitCount_2 : decode c_JI_bitCount 2 = .ok (.iconst 1, 1) := by decide +kernel
theorem d_JI_bitCount_3 : decode c_JI_bitCount 3 = .ok (.iushr, 1) := by decide +kernel
theorem d_JI_bitCount_4 : decode c_JI_bitCount 4 = .ok (.ldc_w 265, 3) := by decide +kernel
theorem d_JI_bitCount_7 : decode c_JI_bitCount 7 = .ok (.iand, 1) := by decide +kernel
theorem d_JI_bitCount_8 : decode c_JI_bitCount 8 = .ok (.isub, 1) := by decide +kernel
theorem d_JI_bitCount_9 : decode c_JI_bitCount 9 = .ok (.istore_n 0, 1) := by decide +kernel
theorem d_JI_bitCount_10 : decode c_JI_bitCount 10 = .ok (.iload_n 0, 1) := by decide +kernel
theorem d_JI_bitCount_11 : decode c_JI_bitCount 11 = .ok (.ldc_w 266, 3) := by decide +kernel
theorem d_JI_bitCount_14 : decode c_JI_bitCount 14 = .ok (.iand, 1) := by decide +kernel
theorem d_JI_bitCount_15 : decode c_JI_bitCount 15 = .ok (.iload_n 0, 1) := by decide +kernel
theorem d_JI_bitCount_16 : decode c_JI_bitCount 16 = .ok (.iconst 2, 1) := by decide +kernel
theorem d_JI_bitCount_17 : decode c_JI_bitCount 17 = .ok (.iushr, 1) := by decide +kernel
theorem d_JI_bitCount_18 : decode c_JI_bitCount 18 = .ok (.ldc_w 266, 3) := by decide +kernel
theorem d_JI_bitCount_21 : decode c_JI_bitCount 21 = .ok (.iand, 1) := by decide +kernel
theorem d_JI_bitCount_22 : decode c_JI_bitCount 22 = .ok (.iadd, 1) := by decide +kernel
theorem d_JI_bitCount_23 : decode c_JI_bitCount 23 = .ok (.istore_n 0, 1) := by decide +kernel
theorem d_JI_bitCount_24 : decode c_JI_bitCount 24 = .ok (.iload_n 0, 1) := by decide +kernel
theorem d_JI_bitCount_25 : decode c_JI_bitCount 25 = .ok (.iload_n 0, 1) := by decide +kernel
theorem d_JI_bitCount_26 : decode c_JI_bitCount 26 = .ok (.iconst 4, 1) := by decide +kernel
theorem d_JI_bitCount_27 : decode c_JI_bitCount 27 = .ok (.iushr, 1) := by decide +kernel
theorem d_JI_bitCount_28 : decode c_JI_bitCount 28 = .ok (.iadd, 1) := by decide +kernel
theorem d_JI_bitCount_29 : decode c_JI_bitCount 29 = .ok (.ldc_w 267, 3) := by decide +kernel
theorem d_JI_bitCount_32 : decode c_JI_bitCount 32 = .ok (.iand, 1) := by decide +kernel
theorem d_JI_bitCount_33 : decode c_JI_bitCount 33 = .ok (.istore_n 0, 1) := by decide +kernel
theorem d_JI_bitCount_34 : decode c_JI_bitCount 34 = .ok (.iload_n 0, 1) := by decide +kernel
theorem d_JI_bitCount_35 : decode c_JI_bitCount 35 = .ok (.iload_n 0, 1) := by decide +kernel
theorem d_JI_bitCount_36 : decode c_JI_bitCount 36 = .ok (.bipush 8, 2) := by decide +kernel
theorem d_JI_bitCount_38 : decode c_JI_bitCount 38 = .ok (.iushr, 1) := by decide +kernel
theorem d_JI_bitCount_39 : decode c_JI_bitCount 39 = .ok (.iadd, 1) := by decide +kernel
theorem d_JI_bitCount_40 : decode c_JI_bitCount 40 = .ok (.istore_n 0, 1) := by decide +kernel
theorem d_JI_bitCount_41 : decode c_JI_bitCount 41 = .ok (.iload_n 0, 1) := by decide +kernel
theorem d_JI_bitCount_42 : decode c_JI_bitCount 42 = .ok (.iload_n 0, 1) := by decide +kernel
theorem d_JI_bitCount_43 : decode c_JI_bitCount 43 = .ok (.bipush 16, 2) := by decide +kernel
theorem d_JI_bitCount_45 : decode c_JI_bitCount 45 = .ok (.iushr, 1) := by decide +kernel
theorem d_JI_bitCount_46 : decode c_JI_bitCount 46 = .ok (.iadd, 1) := by decide +kernel
theorem d_JI_bitCount_47 : decode c_JI_bitCount 47 = .ok (.istore_n 0, 1) := by decide +kernel
theorem d_JI_bitCount_48 : decode c_JI_bitCount 48 = .ok (.iload_n 0, 1) := by decide +kernel
theorem d_JI_bitCount_49 : decode c_JI_bitCount 49 = .ok (.bipush 63, 2) := by decide +kernel
theorem d_JI_bitCount_51 : decode c_JI_bitCount 51 = .ok (.iand, 1) := by decide +kernel
theorem d_JI_bitCount_52 : decode c_JI_bitCount 52 = .ok (.ireturn, 1) := by decide +kernel
