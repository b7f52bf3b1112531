theorem b_X11_in_0 : dkM m_X11_in 0 [(.iload_n 0, 1, 0, 0, none, 0), (.iload_n 1, 1, 1, 0, none, 0), (.if_icmp .lt 12, 3, 14, 5, none, 0)] 5 = true := by decide +kernel
theorem b_X11_in_5 : dkM m_X11_in 5 [(.iload_n 0, 1, 0, 0, none, 0), (.iload_n 2, 1, 2, 0, none, 0), (.if_icmp .gt 7, 3, 14, 10, none, 0)] 10 = true := by decide +kernel
theorem b_X11_in_10 : dkM m_X11_in 10 [(.iconst 1, 1, 0, 0, none, 1), (.goto 4, 3, 15, 0, none, 0)] 14 = true := by decide +kernel
theorem b_X11_in_14 : dkM m_X11_in 14 [(.iconst 0, 1, 0, 0, none, 0)] 15 = true := by decide +kernel
theorem b_X11_in_15 : dkM m_X11_in 15 [(.ireturn, 1, 1, 0, none, 0)] 16 = true := by decide +kernel
theorem b_X11_has_0 : dkM m_X11_has 0 [(.iload_n 0, 1, 0, 0, none, 0), (.iload_n 1, 1, 1, 0, none, 0), (.ishr, 1, 0, 0, none, 0), (.iconst 1, 1, 0, 0, none, 1), (.iand, 1, 0, 0, none, 0), (.iconst 1, 1, 0, 0, none, 1), (.if_icmp .ne 7, 3, 13, 9, none, 0)] 9 = true := by decide +kernel
theorem b_X11_has_9 : dkM m_X11_has 9 [(.iconst 1, 1, 0, 0, none, 1), (.goto 4, 3, 14, 0, none, 0)] 13 = true := by decide +kernel
theorem b_X11_has_13 : dkM m_X11_has 13 [(.iconst 0, 1, 0, 0, none, 0)] 14 = true := by decide +kernel
theorem b_X11_has_14 : dkM m_X11_has 14 [(.ireturn, 1, 1, 0, none, 0)] 15 = true := by decide +kernel
theorem b_X11_bits_0 : dkM m_X11_bits 0 [(.iconst 0, 1, 0, 0, none, 0), (.istore_n 1, 1, 1, 0, none, 0), (.iload_n 0, 1, 0, 0, none, 0), (.istore_n 2, 1, 2, 0, none, 0)] 4 = true := by decide +kernel
theorem b_X11_bits_4 : dkM m_X11_bits 4 [(.iload_n 2, 1, 2, 0, none, 0), (.ifCond .le 15, 3, 20, 8, none, 0)] 8 = true := by decide +kernel
theorem b_X11_bits_8 : dkM m_X11_bits 8 [(.iinc 1 1, 3, 1, 0, none, 1), (.iload_n 2, 1, 2, 0, none, 0), (.iload_n 2, 1, 2, 0, none, 0), (.iconst 1, 1, 0, 0, none, 1), (.isub, 1, 0, 0, none, 0), (.iand, 1, 0, 0, none, 0), (.istore_n 2, 1, 2, 0, none, 0), (.goto (-13), 3, 4, 0, none, 0)] 20 = true := by decide +kernel
theorem b_X11_bits_20 : dkM m_X11_bits 20 [(.iload_n 1, 1, 1, 0, none, 0), (.ireturn, 1, 0, 0, none, 0)] 22 = true := by decide +kernel
theorem b_X11_isDuke_0 : dkM m_X11_isDuke 0 [(.iload_n 0, 1, 0, 0, none, 0), (.iconst 0, 1, 0, 0, none, 0), (.iconst 1, 1, 0, 0, none, 1)] 3 = true := by decide +kernel
theorem b_X11_isDuke_6 : dkM m_X11_isDuke 6 [(.ireturn, 1, 1, 0, none, 0)] 7 = true := by decide +kernel
theorem k_X11_isDuke_3 : csB m_X11_isDuke m_X11_in 3 51 3 833 68 831 832 = true := by decide +kernel
theorem b_X11_isField_0 : dkM m_X11_isField 0 [(.iload_n 1, 1, 1, 0, none, 0), (.iconst 0, 1, 0, 0, none, 0), (.aload_n 0, 1, 0, 0, none, 0), (.getfield 7, 3, 9, 0, none, 0), (.iconst 1, 1, 0, 0, none, 1), (.isub, 1, 0, 0, none, 0)] 8 = true := by decide +kernel
theorem b_X11_isField_11 : dkM m_X11_isField 11 [(.ireturn, 1, 1, 0, none, 0)] 12 = true := by decide +kernel
theorem k_X11_isField_8 : csB m_X11_isField m_X11_in 8 51 3 833 68 831 832 = true := by decide +kernel
theorem b_X11_isArmy_0 : dkM m_X11_isArmy 0 [(.iload_n 1, 1, 1, 0, none, 0), (.iconst 0, 1, 0, 0, none, 0), (.aload_n 0, 1, 0, 0, none, 0), (.getfield 55, 3, 9, 2, none, 0), (.iconst 1, 1, 0, 0, none, 1), (.isub, 1, 0, 0, none, 0)] 8 = true := by decide +kernel
theorem b_X11_isArmy_11 : dkM m_X11_isArmy 11 [(.ireturn, 1, 1, 0, none, 0)] 12 = true := by decide +kernel
theorem k_X11_isArmy_8 : csB m_X11_isArmy m_X11_in 8 51 3 833 68 831 832 = true := by decide +kernel
theorem b_X11_isPage_0 : dkM m_X11_isPage 0 [(.iload_n 1, 1, 1, 0, none, 0), (.iconst 0, 1, 0, 0, none, 0), (.aload_n 0, 1, 0, 0, none, 0), (.getfield 20, 3, 9, 4, some (some 3), 0), (.bipush 15, 2, 0, 0, none, 15), (.iaload, 1, 0, 0, none, 0), (.iconst 1, 1, 0, 0, none, 1), (.isub, 1, 0, 0, none, 0)] 11 = true := by decide +kernel
theorem b_X11_isPage_14 : dkM m_X11_isPage 14 [(.ireturn, 1, 1, 0, none, 0)] 15 = true := by decide +kernel
theorem k_X11_isPage_11 : csB m_X11_isPage m_X11_in 11 51 3 833 68 831 832 = true := by decide +kernel
theorem b_X11_isOver_0 : dkM m_X11_isOver 0 [(.aload_n 0, 1, 0, 0, none, 0), (.getfield 20, 3, 9, 4, some (some 3), 0), (.iconst 0, 1, 0, 0, none, 0), (.iaload, 1, 0, 0, none, 0), (.bipush 9, 2, 0, 0, none, 9), (.if_icmp .le 7, 3, 15, 11, none, 0)] 11 = true := by decide +kernel
theorem b_X11_isOver_11 : dkM m_X11_isOver 11 [(.iconst 1, 1, 0, 0, none, 1), (.goto 4, 3, 16, 0, none, 0)] 15 = true := by decide +kernel
theorem b_X11_isOver_15 : dkM m_X11_isOver 15 [(.iconst 0, 1, 0, 0, none, 0)] 16 = true := by decide +kernel
theorem b_X11_isOver_16 : dkM m_X11_isOver 16 [(.ireturn, 1, 1, 0, none, 0)] 17 = true := by decide +kernel
theorem b_X11_type_0 : dkM m_X11_type 0 [(.iload_n 1, 1, 1, 0, none, 0), (.iconst 0, 1, 0, 0, none, 0), (.sipush 255, 3, 0, 0, none, 255)] 5 = true := by decide +kernel
theorem b_X11_type_8 : dkM m_X11_type 8 [(.ifCond .ne 5, 3, 13, 11, none, 0)] 11 = true := by decide +kernel
theorem b_X11_type_11 : dkM m_X11_type 11 [(.iconst (-1), 1, 0, 0, none, -1), (.ireturn, 1, 0, 0, none, 0)] 13 = true := by decide +kernel
theorem b_X11_type_13 : dkM m_X11_type 13 [(.aload_n 0, 1, 0, 0, none, 0), (.getfield 58, 3, 9, 11, none, 0), (.sipush 200, 3, 0, 0, none, 200), (.if_icmp .ne 6, 3, 26, 23, none, 0)] 23 = true := by decide +kernel
theorem b_X11_type_23 : dkM m_X11_type 23 [(.bipush (-3), 2, 0, 0, none, -3), (.ireturn, 1, 0, 0, none, 0)] 26 = true := by decide +kernel
theorem b_X11_type_26 : dkM m_X11_type 26 [(.aload_n 0, 1, 0, 0, none, 0), (.getfield 33, 3, 9, 10, some (some 7), 0), (.aload_n 0, 1, 0, 0, none, 0), (.getfield 58, 3, 9, 11, none, 0), (.iload_n 1, 1, 1, 0, none, 0), (.iastore, 1, 0, 0, none, 0), (.aload_n 0, 1, 0, 0, none, 0), (.dup, 1, 0, 0, none, 0), (.getfield 58, 3, 9, 11, none, 0), (.iconst 1, 1, 0, 0, none, 1), (.iadd, 1, 0, 0, none, 0), (.putfield 58, 3, 9, 11, none, 0), (.aload_n 0, 1, 0, 0, none, 0), (.getfield 58, 3, 9, 11, none, 0), (.ireturn, 1, 0, 0, none, 0)] 51 = true := by decide +kernel
theorem k_X11_type_5 : csB m_X11_type m_X11_in 5 51 3 833 68 831 832 = true := by decide +kernel
theorem b_X11_clear_0 : dkM m_X11_clear 0 [(.aload_n 0, 1, 0, 0, none, 0), (.getfield 58, 3, 9, 11, none, 0), (.istore_n 1, 1, 1, 0, none, 0), (.aload_n 0, 1, 0, 0, none, 0), (.iconst 0, 1, 0, 0, none, 0), (.putfield 58, 3, 9, 11, none, 0), (.iload_n 1, 1, 1, 0, none, 0), (.ireturn, 1, 0, 0, none, 0)] 12 = true := by decide +kernel
theorem b_X11_letterAt_0 : dkM m_X11_letterAt 0 [(.iload_n 1, 1, 1, 0, none, 0), (.aload_n 0, 1, 0, 0, none, 0), (.getfield 58, 3, 9, 11, none, 0), (.if_icmp .ge 12, 3, 17, 8, none, 0)] 8 = true := by decide +kernel
theorem b_X11_letterAt_8 : dkM m_X11_letterAt 8 [(.aload_n 0, 1, 0, 0, none, 0), (.getfield 33, 3, 9, 10, some (some 7), 0), (.iload_n 1, 1, 1, 0, none, 0), (.iaload, 1, 0, 0, none, 0), (.goto 4, 3, 18, 0, none, 0)] 17 = true := by decide +kernel
theorem b_X11_letterAt_17 : dkM m_X11_letterAt 17 [(.iconst (-1), 1, 0, 0, none, -1)] 18 = true := by decide +kernel
theorem b_X11_letterAt_18 : dkM m_X11_letterAt 18 [(.ireturn, 1, 0, 0, none, 0)] 19 = true := by decide +kernel
theorem b_X11_next_0 : dkM m_X11_next 0 [(.aload_n 0, 1, 0, 0, none, 0), (.aload_n 0, 1, 0, 0, none, 0), (.getfield 61, 3, 9, 12, none, 0)] 5 = true := by decide +kernel
theorem b_X11_next_8 : dkM m_X11_next 8 [(.bipush 32, 2, 0, 0, none, 32), (.if_icmp .ne 16, 3, 26, 13, none, 0)] 13 = true := by decide +kernel
theorem b_X11_next_13 : dkM m_X11_next 13 [(.aload_n 0, 1, 0, 0, none, 0), (.dup, 1, 0, 0, none, 0), (.getfield 61, 3, 9, 12, none, 0), (.iconst 1, 1, 0, 0, none, 1), (.iadd, 1, 0, 0, none, 0), (.putfield 61, 3, 9, 12, none, 0), (.goto (-23), 3, 0, 0, none, 0)] 26 = true := by decide +kernel
theorem b_X11_next_26 : dkM m_X11_next 26 [(.aload_n 0, 1, 0, 0, none, 0), (.aload_n 0, 1, 0, 0, none, 0), (.getfield 61, 3, 9, 12, none, 0), (.putfield 68, 3, 9, 13, none, 0), (.aload_n 0, 1, 0, 0, none, 0), (.aload_n 0, 1, 0, 0, none, 0), (.getfield 61, 3, 9, 12, none, 0)] 39 = true := by decide +kernel
theorem b_X11_next_42 : dkM m_X11_next 42 [(.istore_n 1, 1, 1, 0, none, 0), (.iload_n 1, 1, 1, 0, none, 0), (.ifCond .ge 9, 3, 53, 47, none, 0)] 47 = true := by decide +kernel
theorem b_X11_next_47 : dkM m_X11_next 47 [(.aload_n 0, 1, 0, 0, none, 0), (.iconst 0, 1, 0, 0, none, 0), (.putfield 71, 3, 9, 14, none, 0), (.return_, 1, 0, 0, none, 0)] 53 = true := by decide +kernel
theorem b_X11_next_53 : dkM m_X11_next 53 [(.aload_n 0, 1, 0, 0, none, 0), (.dup, 1, 0, 0, none, 0), (.getfield 61, 3, 9, 12, none, 0), (.iconst 1, 1, 0, 0, none, 1), (.iadd, 1, 0, 0, none, 0), (.putfield 61, 3, 9, 12, none, 0), (.aload_n 0, 1, 0, 0, none, 0), (.iload_n 1, 1, 1, 0, none, 0), (.putfield 74, 3, 9, 15, none, 0), (.aload_n 0, 1, 0, 0, none, 0), (.iload_n 1, 1, 1, 0, none, 0), (.bipush 102, 2, 0, 0, none, 102), (.if_icmp .eq 21, 3, 93, 75, none, 0)] 75 = true := by decide +kernel
theorem b_X11_next_75 : dkM m_X11_next 75 [(.iload_n 1, 1, 1, 0, none, 0), (.bipush 114, 2, 0, 0, none, 114), (.if_icmp .eq 15, 3, 93, 81, none, 0)] 81 = true := by decide +kernel
theorem b_X11_next_81 : dkM m_X11_next 81 [(.iload_n 1, 1, 1, 0, none, 0), (.bipush 97, 2, 0, 0, none, 97), (.if_icmp .eq 9, 3, 93, 87, none, 0)] 87 = true := by decide +kernel
theorem b_X11_next_87 : dkM m_X11_next 87 [(.iload_n 1, 1, 1, 0, none, 0), (.bipush 112, 2, 0, 0, none, 112), (.if_icmp .ne 7, 3, 97, 93, none, 0)] 93 = true := by decide +kernel
theorem b_X11_next_93 : dkM m_X11_next 93 [(.iconst 1, 1, 0, 0, none, 1), (.goto 14, 3, 108, 0, none, 0)] 97 = true := by decide +kernel
theorem b_X11_next_97 : dkM m_X11_next 97 [(.iload_n 1, 1, 1, 0, none, 0), (.bipush 59, 2, 0, 0, none, 59), (.if_icmp .ne 7, 3, 107, 103, none, 0)] 103 = true := by decide +kernel
theorem b_X11_next_103 : dkM m_X11_next 103 [(.iconst 3, 1, 0, 0, none, 3), (.goto 4, 3, 108, 0, none, 0)] 107 = true := by decide +kernel
theorem b_X11_next_107 : dkM m_X11_next 107 [(.iconst 4, 1, 0, 0, none, 4)] 108 = true := by decide +kernel
theorem b_X11_next_108 : dkM m_X11_next 108 [(.putfield 71, 3, 9, 14, none, 0), (.iload_n 1, 1, 1, 0, none, 0), (.bipush 48, 2, 0, 0, none, 48), (.bipush 57, 2, 0, 0, none, 57)] 116 = true := by decide +kernel
theorem b_X11_next_119 : dkM m_X11_next 119 [(.ifCond .eq 126, 3, 245, 122, none, 0)] 122 = true := by decide +kernel
theorem b_X11_next_122 : dkM m_X11_next 122 [(.aload_n 0, 1, 0, 0, none, 0), (.iload_n 1, 1, 1, 0, none, 0), (.bipush 48, 2, 0, 0, none, 48), (.isub, 1, 0, 0, none, 0), (.putfield 74, 3, 9, 15, none, 0)] 130 = true := by decide +kernel
theorem b_X11_next_130 : dkM m_X11_next 130 [(.aload_n 0, 1, 0, 0, none, 0), (.aload_n 0, 1, 0, 0, none, 0), (.getfield 61, 3, 9, 12, none, 0)] 135 = true := by decide +kernel
theorem b_X11_next_138 : dkM m_X11_next 138 [(.bipush 48, 2, 0, 0, none, 48), (.bipush 57, 2, 0, 0, none, 57)] 142 = true := by decide +kernel
theorem b_X11_next_145 : dkM m_X11_next 145 [(.ifCond .eq 59, 3, 204, 148, none, 0)] 148 = true := by decide +kernel
theorem b_X11_next_148 : dkM m_X11_next 148 [(.aload_n 0, 1, 0, 0, none, 0), (.aload_n 0, 1, 0, 0, none, 0), (.getfield 61, 3, 9, 12, none, 0), (.aload_n 0, 1, 0, 0, none, 0), (.getfield 68, 3, 9, 13, none, 0), (.isub, 1, 0, 0, none, 0), (.iconst 2, 1, 0, 0, none, 2), (.if_icmp .ge 25, 3, 184, 162, none, 0)] 162 = true := by decide +kernel
theorem b_X11_next_162 : dkM m_X11_next 162 [(.bipush 10, 2, 0, 0, none, 10), (.aload_n 0, 1, 0, 0, none, 0), (.getfield 74, 3, 9, 15, none, 0), (.imul, 1, 0, 0, none, 0), (.aload_n 0, 1, 0, 0, none, 0), (.aload_n 0, 1, 0, 0, none, 0), (.getfield 61, 3, 9, 12, none, 0)] 174 = true := by decide +kernel
theorem b_X11_next_177 : dkM m_X11_next 177 [(.iadd, 1, 0, 0, none, 0), (.bipush 48, 2, 0, 0, none, 48), (.isub, 1, 0, 0, none, 0), (.goto 7, 3, 188, 0, none, 0)] 184 = true := by decide +kernel
theorem b_X11_next_184 : dkM m_X11_next 184 [(.aload_n 0, 1, 0, 0, none, 0), (.getfield 74, 3, 9, 15, none, 0)] 188 = true := by decide +kernel
theorem b_X11_next_188 : dkM m_X11_next 188 [(.putfield 74, 3, 9, 15, none, 0), (.aload_n 0, 1, 0, 0, none, 0), (.dup, 1, 0, 0, none, 0), (.getfield 61, 3, 9, 12, none, 0), (.iconst 1, 1, 0, 0, none, 1), (.iadd, 1, 0, 0, none, 0), (.putfield 61, 3, 9, 12, none, 0), (.goto (-71), 3, 130, 0, none, 0)] 204 = true := by decide +kernel
theorem b_X11_next_204 : dkM m_X11_next 204 [(.aload_n 0, 1, 0, 0, none, 0), (.aload_n 0, 1, 0, 0, none, 0), (.getfield 61, 3, 9, 12, none, 0), (.aload_n 0, 1, 0, 0, none, 0), (.getfield 68, 3, 9, 13, none, 0), (.isub, 1, 0, 0, none, 0), (.iconst 3, 1, 0, 0, none, 3), (.if_icmp .ge 26, 3, 241, 218, none, 0)] 218 = true := by decide +kernel
theorem b_X11_next_218 : dkM m_X11_next 218 [(.iload_n 1, 1, 1, 0, none, 0), (.bipush 48, 2, 0, 0, none, 48), (.if_icmp .ne 16, 3, 237, 224, none, 0)] 224 = true := by decide +kernel
theorem b_X11_next_224 : dkM m_X11_next 224 [(.aload_n 0, 1, 0, 0, none, 0), (.getfield 61, 3, 9, 12, none, 0), (.aload_n 0, 1, 0, 0, none, 0), (.getfield 68, 3, 9, 13, none, 0), (.isub, 1, 0, 0, none, 0), (.iconst 1, 1, 0, 0, none, 1), (.if_icmp .ne 7, 3, 241, 237, none, 0)] 237 = true := by decide +kernel
theorem b_X11_next_237 : dkM m_X11_next 237 [(.iconst 2, 1, 0, 0, none, 2), (.goto 4, 3, 242, 0, none, 0)] 241 = true := by decide +kernel
theorem b_X11_next_241 : dkM m_X11_next 241 [(.iconst 4, 1, 0, 0, none, 4)] 242 = true := by decide +kernel
theorem b_X11_next_242 : dkM m_X11_next 242 [(.putfield 71, 3, 9, 14, none, 0)] 245 = true := by decide +kernel
theorem b_X11_next_245 : dkM m_X11_next 245 [(.return_, 1, 0, 0, none, 0)] 246 = true := by decide +kernel
theorem k_X11_next_5 : cvB m_X11_next m_X11_letterAt 5 64 9 1 849 68 846 848 21 = true := by decide +kernel
theorem k_X11_next_39 : cvB m_X11_next m_X11_letterAt 39 64 9 1 849 68 846 848 21 = true := by decide +kernel
theorem k_X11_next_116 : csB m_X11_next m_X11_in 116 51 3 833 68 831 832 = true := by decide +kernel
theorem k_X11_next_135 : cvB m_X11_next m_X11_letterAt 135 64 9 1 849 68 846 848 21 = true := by decide +kernel
theorem k_X11_next_142 : csB m_X11_next m_X11_in 142 51 3 833 68 831 832 = true := by decide +kernel
theorem k_X11_next_174 : cvB m_X11_next m_X11_letterAt 174 64 9 1 849 68 846 848 21 = true := by decide +kernel
theorem b_X11_must_0 : dkM m_X11_must 0 [(.aload_n 0, 1, 0, 0, none, 0), (.aload_n 0, 1, 0, 0, none, 0), (.getfield 77, 3, 9, 16, some (some 0), 0), (.ifCond .ne 7, 3, 12, 8, none, 0)] 8 = true := by decide +kernel
theorem b_X11_must_8 : dkM m_X11_must 8 [(.iload_n 1, 1, 1, 0, none, 0), (.ifCond .ne 7, 3, 16, 12, none, 0)] 12 = true := by decide +kernel
theorem b_X11_must_12 : dkM m_X11_must 12 [(.iconst 1, 1, 0, 0, none, 1), (.goto 4, 3, 17, 0, none, 0)] 16 = true := by decide +kernel
theorem b_X11_must_16 : dkM m_X11_must 16 [(.iconst 0, 1, 0, 0, none, 0)] 17 = true := by decide +kernel
theorem b_X11_must_17 : dkM m_X11_must 17 [(.putfield 77, 3, 9, 16, some (some 0), 0), (.aload_n 0, 1, 0, 0, none, 0), (.getfield 77, 3, 9, 16, some (some 0), 0), (.ifCond .ne 7, 3, 31, 27, none, 0)] 27 = true := by decide +kernel
theorem b_X11_must_27 : dkM m_X11_must 27 [(.aload_n 0, 1, 0, 0, none, 0)] 28 = true := by decide +kernel
theorem b_X11_must_31 : dkM m_X11_must 31 [(.return_, 1, 0, 0, none, 0)] 32 = true := by decide +kernel
theorem k_X11_must_28 : cvB m_X11_must m_X11_next 28 81 9 0 845 68 842 844 20 = true := by decide +kernel
theorem b_X11_readInto_0 : dkM m_X11_readInto 0 [(.aload_n 0, 1, 0, 0, none, 0), (.getfield 74, 3, 9, 15, none, 0), (.istore 5, 2, 5, 0, none, 0), (.aload_n 0, 1, 0, 0, none, 0), (.aload_n 0, 1, 0, 0, none, 0), (.getfield 71, 3, 9, 14, none, 0), (.iconst 2, 1, 0, 0, none, 2), (.if_icmp .ne 18, 3, 30, 15, none, 0)] 15 = true := by decide +kernel
theorem b_X11_readInto_15 : dkM m_X11_readInto 15 [(.iload 5, 2, 5, 0, none, 0), (.iload_n 3, 1, 3, 0, none, 0), (.iload 4, 2, 4, 0, none, 0)] 20 = true := by decide +kernel
theorem b_X11_readInto_23 : dkM m_X11_readInto 23 [(.ifCond .eq 7, 3, 30, 26, none, 0)] 26 = true := by decide +kernel
theorem b_X11_readInto_26 : dkM m_X11_readInto 26 [(.iconst 1, 1, 0, 0, none, 1), (.goto 4, 3, 31, 0, none, 0)] 30 = true := by decide +kernel
theorem b_X11_readInto_30 : dkM m_X11_readInto 30 [(.iconst 0, 1, 0, 0, none, 0)] 31 = true := by decide +kernel
theorem b_X11_readInto_34 : dkM m_X11_readInto 34 [(.aload_n 0, 1, 0, 0, none, 0), (.getfield 77, 3, 9, 16, some (some 0), 0), (.ifCond .ne 8, 3, 46, 41, none, 0)] 41 = true := by decide +kernel
theorem b_X11_readInto_41 : dkM m_X11_readInto 41 [(.aload_n 1, 1, 1, 0, none, 0), (.iload_n 2, 1, 2, 0, none, 0), (.iload 5, 2, 5, 0, none, 0), (.iastore, 1, 0, 0, none, 0)] 46 = true := by decide +kernel
theorem b_X11_readInto_46 : dkM m_X11_readInto 46 [(.iload 5, 2, 5, 0, none, 0), (.ireturn, 1, 0, 0, none, 0)] 49 = true := by decide +kernel
theorem k_X11_readInto_20 : csB m_X11_readInto m_X11_in 20 51 3 833 68 831 832 = true := by decide +kernel
theorem k_X11_readInto_31 : cvB m_X11_readInto m_X11_must 31 84 9 1 861 68 858 860 24 = true := by decide +kernel
theorem b_X11_readFields_0 : dkM m_X11_readFields 0 [(.aload_n 0, 1, 0, 0, none, 0), (.iload_n 1, 1, 1, 0, none, 0)] 2 = true := by decide +kernel
theorem b_X11_readFields_5 : dkM m_X11_readFields 5 [(.aload_n 0, 1, 0, 0, none, 0), (.getfield 77, 3, 9, 16, some (some 0), 0), (.ifCond .eq 4, 3, 13, 12, none, 0)] 12 = true := by decide +kernel
theorem b_X11_readFields_12 : dkM m_X11_readFields 12 [(.return_, 1, 0, 0, none, 0)] 13 = true := by decide +kernel
theorem b_X11_readFields_13 : dkM m_X11_readFields 13 [(.aload_n 0, 1, 0, 0, none, 0), (.aload_n 0, 1, 0, 0, none, 0), (.getfield 45, 3, 9, 23, some (some 11), 0), (.iconst 0, 1, 0, 0, none, 0), (.iconst 2, 1, 0, 0, none, 2), (.bipush 8, 2, 0, 0, none, 8)] 22 = true := by decide +kernel
theorem b_X11_readFields_25 : dkM m_X11_readFields 25 [(.pop, 1, 0, 0, none, 0), (.aload_n 0, 1, 0, 0, none, 0), (.aload_n 0, 1, 0, 0, none, 0), (.getfield 71, 3, 9, 14, none, 0), (.iconst 3, 1, 0, 0, none, 3), (.if_icmp .ne 7, 3, 39, 35, none, 0)] 35 = true := by decide +kernel
theorem b_X11_readFields_35 : dkM m_X11_readFields 35 [(.iconst 1, 1, 0, 0, none, 1), (.goto 4, 3, 40, 0, none, 0)] 39 = true := by decide +kernel
theorem b_X11_readFields_39 : dkM m_X11_readFields 39 [(.iconst 0, 1, 0, 0, none, 0)] 40 = true := by decide +kernel
theorem b_X11_readFields_43 : dkM m_X11_readFields 43 [(.aload_n 0, 1, 0, 0, none, 0), (.aload_n 0, 1, 0, 0, none, 0), (.getfield 45, 3, 9, 23, some (some 11), 0), (.iconst 0, 1, 0, 0, none, 0), (.iaload, 1, 0, 0, none, 0), (.putfield 92, 3, 9, 17, none, 0), (.return_, 1, 0, 0, none, 0)] 54 = true := by decide +kernel
theorem k_X11_readFields_2 : cvB m_X11_readFields m_X11_must 2 84 9 1 861 68 858 860 24 = true := by decide +kernel
theorem k_X11_readFields_22 : cvB m_X11_readFields m_X11_readInto 22 88 9 4 865 68 862 864 25 = true := by decide +kernel
theorem k_X11_readFields_40 : cvB m_X11_readFields m_X11_must 40 84 9 1 861 68 858 860 24 = true := by decide +kernel
theorem b_X11_readRoad_0 : dkM m_X11_readRoad 0 [(.aload_n 0, 1, 0, 0, none, 0), (.iconst 1, 1, 0, 0, none, 1)] 2 = true := by decide +kernel
theorem b_X11_readRoad_5 : dkM m_X11_readRoad 5 [(.aload_n 0, 1, 0, 0, none, 0), (.aload_n 0, 1, 0, 0, none, 0), (.getfield 45, 3, 9, 23, some (some 11), 0), (.iconst 0, 1, 0, 0, none, 0), (.iconst 0, 1, 0, 0, none, 0), (.aload_n 0, 1, 0, 0, none, 0), (.getfield 92, 3, 9, 17, none, 0), (.iconst 1, 1, 0, 0, none, 1), (.isub, 1, 0, 0, none, 0)] 18 = true := by decide +kernel
theorem b_X11_readRoad_21 : dkM m_X11_readRoad 21 [(.istore_n 1, 1, 1, 0, none, 0), (.aload_n 0, 1, 0, 0, none, 0), (.getfield 74, 3, 9, 15, none, 0), (.istore_n 2, 1, 2, 0, none, 0), (.aload_n 0, 1, 0, 0, none, 0), (.aload_n 0, 1, 0, 0, none, 0), (.getfield 71, 3, 9, 14, none, 0), (.iconst 2, 1, 0, 0, none, 2), (.if_icmp .ne 26, 3, 59, 36, none, 0)] 36 = true := by decide +kernel
theorem b_X11_readRoad_36 : dkM m_X11_readRoad 36 [(.iload_n 2, 1, 2, 0, none, 0), (.iconst 0, 1, 0, 0, none, 0), (.aload_n 0, 1, 0, 0, none, 0), (.getfield 92, 3, 9, 17, none, 0), (.iconst 1, 1, 0, 0, none, 1), (.isub, 1, 0, 0, none, 0)] 44 = true := by decide +kernel
theorem b_X11_readRoad_47 : dkM m_X11_readRoad 47 [(.ifCond .eq 12, 3, 59, 50, none, 0)] 50 = true := by decide +kernel
theorem b_X11_readRoad_50 : dkM m_X11_readRoad 50 [(.iload_n 2, 1, 2, 0, none, 0), (.iload_n 1, 1, 1, 0, none, 0), (.if_icmp .eq 7, 3, 59, 55, none, 0)] 55 = true := by decide +kernel
theorem b_X11_readRoad_55 : dkM m_X11_readRoad 55 [(.iconst 1, 1, 0, 0, none, 1), (.goto 4, 3, 60, 0, none, 0)] 59 = true := by decide +kernel
theorem b_X11_readRoad_59 : dkM m_X11_readRoad 59 [(.iconst 0, 1, 0, 0, none, 0)] 60 = true := by decide +kernel
theorem b_X11_readRoad_63 : dkM m_X11_readRoad 63 [(.aload_n 0, 1, 0, 0, none, 0), (.aload_n 0, 1, 0, 0, none, 0), (.getfield 71, 3, 9, 14, none, 0), (.iconst 3, 1, 0, 0, none, 3), (.if_icmp .ne 7, 3, 76, 72, none, 0)] 72 = true := by decide +kernel
theorem b_X11_readRoad_72 : dkM m_X11_readRoad 72 [(.iconst 1, 1, 0, 0, none, 1), (.goto 4, 3, 77, 0, none, 0)] 76 = true := by decide +kernel
theorem b_X11_readRoad_76 : dkM m_X11_readRoad 76 [(.iconst 0, 1, 0, 0, none, 0)] 77 = true := by decide +kernel
theorem b_X11_readRoad_80 : dkM m_X11_readRoad 80 [(.aload_n 0, 1, 0, 0, none, 0), (.getfield 77, 3, 9, 16, some (some 0), 0), (.ifCond .ne 27, 3, 111, 87, none, 0)] 87 = true := by decide +kernel
theorem b_X11_readRoad_87 : dkM m_X11_readRoad 87 [(.aload_n 0, 1, 0, 0, none, 0), (.getfield 36, 3, 9, 18, some (some 8), 0), (.iload_n 1, 1, 1, 0, none, 0), (.dup2, 1, 0, 0, none, 0), (.iaload, 1, 0, 0, none, 0), (.iconst 1, 1, 0, 0, none, 1), (.iload_n 2, 1, 2, 0, none, 0), (.ishl, 1, 0, 0, none, 0), (.ior, 1, 0, 0, none, 0), (.iastore, 1, 0, 0, none, 0), (.aload_n 0, 1, 0, 0, none, 0), (.getfield 36, 3, 9, 18, some (some 8), 0), (.iload_n 2, 1, 2, 0, none, 0), (.dup2, 1, 0, 0, none, 0), (.iaload, 1, 0, 0, none, 0), (.iconst 1, 1, 0, 0, none, 1), (.iload_n 1, 1, 1, 0, none, 0), (.ishl, 1, 0, 0, none, 0), (.ior, 1, 0, 0, none, 0), (.iastore, 1, 0, 0, none, 0)] 111 = true := by decide +kernel
theorem b_X11_readRoad_111 : dkM m_X11_readRoad 111 [(.return_, 1, 0, 0, none, 0)] 112 = true := by decide +kernel
theorem k_X11_readRoad_2 : cvB m_X11_readRoad m_X11_must 2 84 9 1 861 68 858 860 24 = true := by decide +kernel
theorem k_X11_readRoad_18 : cvB m_X11_readRoad m_X11_readInto 18 88 9 4 865 68 862 864 25 = true := by decide +kernel
theorem k_X11_readRoad_44 : csB m_X11_readRoad m_X11_in 44 51 3 833 68 831 832 = true := by decide +kernel
theorem k_X11_readRoad_60 : cvB m_X11_readRoad m_X11_must 60 84 9 1 861 68 858 860 24 = true := by decide +kernel
theorem k_X11_readRoad_77 : cvB m_X11_readRoad m_X11_must 77 84 9 1 861 68 858 860 24 = true := by decide +kernel
theorem b_X11_readItem_0 : dkM m_X11_readItem 0 [(.aload_n 0, 1, 0, 0, none, 0), (.getfield 71, 3, 9, 14, none, 0), (.iconst 1, 1, 0, 0, none, 1), (.if_icmp .ne 10, 3, 15, 8, none, 0)] 8 = true := by decide +kernel
theorem b_X11_readItem_8 : dkM m_X11_readItem 8 [(.aload_n 0, 1, 0, 0, none, 0), (.getfield 74, 3, 9, 15, none, 0), (.goto 4, 3, 16, 0, none, 0)] 15 = true := by decide +kernel
theorem b_X11_readItem_15 : dkM m_X11_readItem 15 [(.iconst 0, 1, 0, 0, none, 0)] 16 = true := by decide +kernel
theorem b_X11_readItem_16 : dkM m_X11_readItem 16 [(.istore_n 2, 1, 2, 0, none, 0), (.iload_n 2, 1, 2, 0, none, 0), (.bipush 102, 2, 0, 0, none, 102), (.if_icmp .ne 11, 3, 31, 23, none, 0)] 23 = true := by decide +kernel
theorem b_X11_readItem_23 : dkM m_X11_readItem 23 [(.aload_n 0, 1, 0, 0, none, 0), (.iload_n 1, 1, 1, 0, none, 0)] 25 = true := by decide +kernel
theorem b_X11_readItem_28 : dkM m_X11_readItem 28 [(.goto 47, 3, 75, 0, none, 0)] 31 = true := by decide +kernel
theorem b_X11_readItem_31 : dkM m_X11_readItem 31 [(.iload_n 2, 1, 2, 0, none, 0), (.bipush 114, 2, 0, 0, none, 114), (.if_icmp .ne 10, 3, 44, 37, none, 0)] 37 = true := by decide +kernel
theorem b_X11_readItem_37 : dkM m_X11_readItem 37 [(.aload_n 0, 1, 0, 0, none, 0)] 38 = true := by decide +kernel
theorem b_X11_readItem_41 : dkM m_X11_readItem 41 [(.goto 34, 3, 75, 0, none, 0)] 44 = true := by decide +kernel
theorem b_X11_readItem_44 : dkM m_X11_readItem 44 [(.iload_n 2, 1, 2, 0, none, 0), (.bipush 97, 2, 0, 0, none, 97), (.if_icmp .ne 10, 3, 57, 50, none, 0)] 50 = true := by decide +kernel
theorem b_X11_readItem_50 : dkM m_X11_readItem 50 [(.aload_n 0, 1, 0, 0, none, 0)] 51 = true := by decide +kernel
theorem b_X11_readItem_54 : dkM m_X11_readItem 54 [(.goto 21, 3, 75, 0, none, 0)] 57 = true := by decide +kernel
theorem b_X11_readItem_57 : dkM m_X11_readItem 57 [(.iload_n 2, 1, 2, 0, none, 0), (.bipush 112, 2, 0, 0, none, 112), (.if_icmp .ne 10, 3, 70, 63, none, 0)] 63 = true := by decide +kernel
theorem b_X11_readItem_63 : dkM m_X11_readItem 63 [(.aload_n 0, 1, 0, 0, none, 0)] 64 = true := by decide +kernel
theorem b_X11_readItem_67 : dkM m_X11_readItem 67 [(.goto 8, 3, 75, 0, none, 0)] 70 = true := by decide +kernel
theorem b_X11_readItem_70 : dkM m_X11_readItem 70 [(.aload_n 0, 1, 0, 0, none, 0), (.iconst 1, 1, 0, 0, none, 1), (.putfield 77, 3, 9, 16, some (some 0), 0)] 75 = true := by decide +kernel
theorem b_X11_readItem_75 : dkM m_X11_readItem 75 [(.return_, 1, 0, 0, none, 0)] 76 = true := by decide +kernel
theorem k_X11_readItem_25 : cvB m_X11_readItem m_X11_readFields 25 95 9 1 857 68 854 856 23 = true := by decide +kernel
theorem k_X11_readItem_38 : cvB m_X11_readItem m_X11_readRoad 38 98 9 0 869 68 866 868 26 = true := by decide +kernel
theorem k_X11_readItem_51 : cvB m_X11_readItem m_X11_readArmy 51 101 9 0 873 68 870 872 27 = true := by decide +kernel
theorem k_X11_readItem_64 : cvB m_X11_readItem m_X11_readPage 64 104 9 0 877 68 874 876 28 = true := by decide +kernel
theorem b_X11_readArmy_0 : dkM m_X11_readArmy 0 [(.aload_n 0, 1, 0, 0, none, 0), (.aload_n 0, 1, 0, 0, none, 0), (.getfield 107, 3, 9, 19, none, 0), (.bipush 6, 2, 0, 0, none, 6), (.if_icmp .ge 7, 3, 14, 10, none, 0)] 10 = true := by decide +kernel
theorem b_X11_readArmy_10 : dkM m_X11_readArmy 10 [(.iconst 1, 1, 0, 0, none, 1), (.goto 4, 3, 15, 0, none, 0)] 14 = true := by decide +kernel
theorem b_X11_readArmy_14 : dkM m_X11_readArmy 14 [(.iconst 0, 1, 0, 0, none, 0)] 15 = true := by decide +kernel
theorem b_X11_readArmy_18 : dkM m_X11_readArmy 18 [(.aload_n 0, 1, 0, 0, none, 0), (.getfield 77, 3, 9, 16, some (some 0), 0), (.ifCond .eq 4, 3, 26, 25, none, 0)] 25 = true := by decide +kernel
theorem b_X11_readArmy_25 : dkM m_X11_readArmy 25 [(.return_, 1, 0, 0, none, 0)] 26 = true := by decide +kernel
theorem b_X11_readArmy_26 : dkM m_X11_readArmy 26 [(.iconst 3, 1, 0, 0, none, 3), (.aload_n 0, 1, 0, 0, none, 0), (.getfield 107, 3, 9, 19, none, 0), (.imul, 1, 0, 0, none, 0), (.istore_n 1, 1, 1, 0, none, 0), (.aload_n 0, 1, 0, 0, none, 0), (.aload_n 0, 1, 0, 0, none, 0), (.getfield 39, 3, 9, 20, some (some 9), 0), (.iload_n 1, 1, 1, 0, none, 0), (.iconst 0, 1, 0, 0, none, 0), (.iconst 1, 1, 0, 0, none, 1)] 41 = true := by decide +kernel
theorem b_X11_readArmy_44 : dkM m_X11_readArmy 44 [(.pop, 1, 0, 0, none, 0), (.aload_n 0, 1, 0, 0, none, 0), (.aload_n 0, 1, 0, 0, none, 0), (.getfield 39, 3, 9, 20, some (some 9), 0), (.iload_n 1, 1, 1, 0, none, 0), (.iconst 1, 1, 0, 0, none, 1), (.iadd, 1, 0, 0, none, 0), (.iconst 0, 1, 0, 0, none, 0), (.aload_n 0, 1, 0, 0, none, 0), (.getfield 92, 3, 9, 17, none, 0), (.iconst 1, 1, 0, 0, none, 1), (.isub, 1, 0, 0, none, 0)] 60 = true := by decide +kernel
theorem b_X11_readArmy_63 : dkM m_X11_readArmy 63 [(.pop, 1, 0, 0, none, 0), (.aload_n 0, 1, 0, 0, none, 0), (.aload_n 0, 1, 0, 0, none, 0), (.getfield 39, 3, 9, 20, some (some 9), 0), (.iload_n 1, 1, 1, 0, none, 0), (.iconst 2, 1, 0, 0, none, 2), (.iadd, 1, 0, 0, none, 0), (.iconst 1, 1, 0, 0, none, 1), (.bipush 9, 2, 0, 0, none, 9)] 75 = true := by decide +kernel
theorem b_X11_readArmy_78 : dkM m_X11_readArmy 78 [(.pop, 1, 0, 0, none, 0), (.aload_n 0, 1, 0, 0, none, 0), (.aload_n 0, 1, 0, 0, none, 0), (.getfield 71, 3, 9, 14, none, 0), (.iconst 3, 1, 0, 0, none, 3), (.if_icmp .ne 7, 3, 92, 88, none, 0)] 88 = true := by decide +kernel
theorem b_X11_readArmy_88 : dkM m_X11_readArmy 88 [(.iconst 1, 1, 0, 0, none, 1), (.goto 4, 3, 93, 0, none, 0)] 92 = true := by decide +kernel
theorem b_X11_readArmy_92 : dkM m_X11_readArmy 92 [(.iconst 0, 1, 0, 0, none, 0)] 93 = true := by decide +kernel
theorem b_X11_readArmy_96 : dkM m_X11_readArmy 96 [(.aload_n 0, 1, 0, 0, none, 0), (.dup, 1, 0, 0, none, 0), (.getfield 107, 3, 9, 19, none, 0), (.iconst 1, 1, 0, 0, none, 1), (.iadd, 1, 0, 0, none, 0), (.putfield 107, 3, 9, 19, none, 0), (.return_, 1, 0, 0, none, 0)] 107 = true := by decide +kernel
theorem k_X11_readArmy_15 : cvB m_X11_readArmy m_X11_must 15 84 9 1 861 68 858 860 24 = true := by decide +kernel
theorem k_X11_readArmy_41 : cvB m_X11_readArmy m_X11_readInto 41 88 9 4 865 68 862 864 25 = true := by decide +kernel
theorem k_X11_readArmy_60 : cvB m_X11_readArmy m_X11_readInto 60 88 9 4 865 68 862 864 25 = true := by decide +kernel
theorem k_X11_readArmy_75 : cvB m_X11_readArmy m_X11_readInto 75 88 9 4 865 68 862 864 25 = true := by decide +kernel
theorem k_X11_readArmy_93 : cvB m_X11_readArmy m_X11_must 93 84 9 1 861 68 858 860 24 = true := by decide +kernel
theorem b_X11_readPage_0 : dkM m_X11_readPage 0 [(.aload_n 0, 1, 0, 0, none, 0), (.aload_n 0, 1, 0, 0, none, 0), (.getfield 110, 3, 9, 21, none, 0), (.bipush 6, 2, 0, 0, none, 6), (.if_icmp .ge 7, 3, 14, 10, none, 0)] 10 = true := by decide +kernel
theorem b_X11_readPage_10 : dkM m_X11_readPage 10 [(.iconst 1, 1, 0, 0, none, 1), (.goto 4, 3, 15, 0, none, 0)] 14 = true := by decide +kernel
theorem b_X11_readPage_14 : dkM m_X11_readPage 14 [(.iconst 0, 1, 0, 0, none, 0)] 15 = true := by decide +kernel
theorem b_X11_readPage_18 : dkM m_X11_readPage 18 [(.aload_n 0, 1, 0, 0, none, 0), (.getfield 77, 3, 9, 16, some (some 0), 0), (.ifCond .eq 4, 3, 26, 25, none, 0)] 25 = true := by decide +kernel
theorem b_X11_readPage_25 : dkM m_X11_readPage 25 [(.return_, 1, 0, 0, none, 0)] 26 = true := by decide +kernel
theorem b_X11_readPage_26 : dkM m_X11_readPage 26 [(.iconst 4, 1, 0, 0, none, 4), (.aload_n 0, 1, 0, 0, none, 0), (.getfield 110, 3, 9, 21, none, 0), (.imul, 1, 0, 0, none, 0), (.istore_n 1, 1, 1, 0, none, 0), (.aload_n 0, 1, 0, 0, none, 0), (.aload_n 0, 1, 0, 0, none, 0), (.getfield 42, 3, 9, 22, some (some 10), 0), (.iload_n 1, 1, 1, 0, none, 0), (.iconst 1, 1, 0, 0, none, 1), (.bipush 9, 2, 0, 0, none, 9)] 42 = true := by decide +kernel
theorem b_X11_readPage_45 : dkM m_X11_readPage 45 [(.pop, 1, 0, 0, none, 0), (.aload_n 0, 1, 0, 0, none, 0), (.aload_n 0, 1, 0, 0, none, 0), (.getfield 42, 3, 9, 22, some (some 10), 0), (.iload_n 1, 1, 1, 0, none, 0), (.iconst 1, 1, 0, 0, none, 1), (.iadd, 1, 0, 0, none, 0), (.iconst 0, 1, 0, 0, none, 0), (.iconst 2, 1, 0, 0, none, 2)] 56 = true := by decide +kernel
theorem b_X11_readPage_59 : dkM m_X11_readPage 59 [(.pop, 1, 0, 0, none, 0), (.aload_n 0, 1, 0, 0, none, 0), (.aload_n 0, 1, 0, 0, none, 0), (.getfield 42, 3, 9, 22, some (some 10), 0), (.iload_n 1, 1, 1, 0, none, 0), (.iconst 2, 1, 0, 0, none, 2), (.iadd, 1, 0, 0, none, 0), (.iconst 0, 1, 0, 0, none, 0), (.iconst 2, 1, 0, 0, none, 2)] 70 = true := by decide +kernel
theorem b_X11_readPage_73 : dkM m_X11_readPage 73 [(.pop, 1, 0, 0, none, 0), (.aload_n 0, 1, 0, 0, none, 0), (.aload_n 0, 1, 0, 0, none, 0), (.getfield 42, 3, 9, 22, some (some 10), 0), (.iload_n 1, 1, 1, 0, none, 0), (.iconst 3, 1, 0, 0, none, 3), (.iadd, 1, 0, 0, none, 0), (.iconst 0, 1, 0, 0, none, 0), (.aload_n 0, 1, 0, 0, none, 0), (.getfield 92, 3, 9, 17, none, 0), (.iconst 1, 1, 0, 0, none, 1), (.isub, 1, 0, 0, none, 0)] 89 = true := by decide +kernel
theorem b_X11_readPage_92 : dkM m_X11_readPage 92 [(.pop, 1, 0, 0, none, 0), (.aload_n 0, 1, 0, 0, none, 0), (.aload_n 0, 1, 0, 0, none, 0), (.getfield 71, 3, 9, 14, none, 0), (.iconst 3, 1, 0, 0, none, 3), (.if_icmp .ne 7, 3, 106, 102, none, 0)] 102 = true := by decide +kernel
theorem b_X11_readPage_102 : dkM m_X11_readPage 102 [(.iconst 1, 1, 0, 0, none, 1), (.goto 4, 3, 107, 0, none, 0)] 106 = true := by decide +kernel
theorem b_X11_readPage_106 : dkM m_X11_readPage 106 [(.iconst 0, 1, 0, 0, none, 0)] 107 = true := by decide +kernel
theorem b_X11_readPage_110 : dkM m_X11_readPage 110 [(.aload_n 0, 1, 0, 0, none, 0), (.dup, 1, 0, 0, none, 0), (.getfield 110, 3, 9, 21, none, 0), (.iconst 1, 1, 0, 0, none, 1), (.iadd, 1, 0, 0, none, 0), (.putfield 110, 3, 9, 21, none, 0), (.return_, 1, 0, 0, none, 0)] 121 = true := by decide +kernel
theorem k_X11_readPage_15 : cvB m_X11_readPage m_X11_must 15 84 9 1 861 68 858 860 24 = true := by decide +kernel
theorem k_X11_readPage_42 : cvB m_X11_readPage m_X11_readInto 42 88 9 4 865 68 862 864 25 = true := by decide +kernel
theorem k_X11_readPage_56 : cvB m_X11_readPage m_X11_readInto 56 88 9 4 865 68 862 864 25 = true := by decide +kernel
theorem k_X11_readPage_70 : cvB m_X11_readPage m_X11_readInto 70 88 9 4 865 68 862 864 25 = true := by decide +kernel
theorem k_X11_readPage_89 : cvB m_X11_readPage m_X11_readInto 89 88 9 4 865 68 862 864 25 = true := by decide +kernel
theorem k_X11_readPage_107 : cvB m_X11_readPage m_X11_must 107 84 9 1 861 68 858 860 24 = true := by decide +kernel
theorem b_X11_land_0 : dkM m_X11_land 0 [(.aload_n 0, 1, 0, 0, none, 0), (.iconst 0, 1, 0, 0, none, 0), (.putfield 61, 3, 9, 12, none, 0), (.aload_n 0, 1, 0, 0, none, 0), (.iconst 0, 1, 0, 0, none, 0), (.putfield 77, 3, 9, 16, some (some 0), 0), (.aload_n 0, 1, 0, 0, none, 0), (.iconst 4, 1, 0, 0, none, 4), (.putfield 92, 3, 9, 17, none, 0), (.aload_n 0, 1, 0, 0, none, 0), (.iconst 0, 1, 0, 0, none, 0), (.putfield 107, 3, 9, 19, none, 0), (.aload_n 0, 1, 0, 0, none, 0), (.iconst 0, 1, 0, 0, none, 0), (.putfield 110, 3, 9, 21, none, 0), (.iconst 0, 1, 0, 0, none, 0), (.istore_n 1, 1, 1, 0, none, 0)] 27 = true := by decide +kernel
theorem b_X11_land_27 : dkM m_X11_land 27 [(.iload_n 1, 1, 1, 0, none, 0), (.bipush 8, 2, 0, 0, none, 8), (.if_icmp .ge 16, 3, 46, 33, none, 0)] 33 = true := by decide +kernel
theorem b_X11_land_33 : dkM m_X11_land 33 [(.aload_n 0, 1, 0, 0, none, 0), (.getfield 36, 3, 9, 18, some (some 8), 0), (.iload_n 1, 1, 1, 0, none, 0), (.iconst 0, 1, 0, 0, none, 0), (.iastore, 1, 0, 0, none, 0), (.iinc 1 1, 3, 1, 0, none, 1), (.goto (-16), 3, 27, 0, none, 0)] 46 = true := by decide +kernel
theorem b_X11_land_46 : dkM m_X11_land 46 [(.iconst 0, 1, 0, 0, none, 0), (.istore_n 1, 1, 1, 0, none, 0), (.aload_n 0, 1, 0, 0, none, 0)] 49 = true := by decide +kernel
theorem b_X11_land_52 : dkM m_X11_land 52 [(.aload_n 0, 1, 0, 0, none, 0), (.getfield 71, 3, 9, 14, none, 0), (.ifCond .eq 29, 3, 85, 59, none, 0)] 59 = true := by decide +kernel
theorem b_X11_land_59 : dkM m_X11_land 59 [(.aload_n 0, 1, 0, 0, none, 0), (.getfield 77, 3, 9, 16, some (some 0), 0), (.ifCond .ne 22, 3, 85, 66, none, 0)] 66 = true := by decide +kernel
theorem b_X11_land_66 : dkM m_X11_land 66 [(.aload_n 0, 1, 0, 0, none, 0), (.iload_n 1, 1, 1, 0, none, 0), (.ifCond .ne 7, 3, 75, 71, none, 0)] 71 = true := by decide +kernel
theorem b_X11_land_71 : dkM m_X11_land 71 [(.iconst 1, 1, 0, 0, none, 1), (.goto 4, 3, 76, 0, none, 0)] 75 = true := by decide +kernel
theorem b_X11_land_75 : dkM m_X11_land 75 [(.iconst 0, 1, 0, 0, none, 0)] 76 = true := by decide +kernel
theorem b_X11_land_79 : dkM m_X11_land 79 [(.iinc 1 1, 3, 1, 0, none, 1), (.goto (-30), 3, 52, 0, none, 0)] 85 = true := by decide +kernel
theorem b_X11_land_85 : dkM m_X11_land 85 [(.aload_n 0, 1, 0, 0, none, 0), (.getfield 77, 3, 9, 16, some (some 0), 0), (.ifCond .eq 11, 3, 100, 92, none, 0)] 92 = true := by decide +kernel
theorem b_X11_land_92 : dkM m_X11_land 92 [(.bipush (-10), 2, 0, 0, none, -10), (.aload_n 0, 1, 0, 0, none, 0), (.getfield 68, 3, 9, 13, none, 0), (.isub, 1, 0, 0, none, 0), (.ireturn, 1, 0, 0, none, 0)] 100 = true := by decide +kernel
theorem b_X11_land_100 : dkM m_X11_land 100 [(.aload_n 0, 1, 0, 0, none, 0), (.aload_n 0, 1, 0, 0, none, 0), (.getfield 92, 3, 9, 17, none, 0), (.putfield 7, 3, 9, 0, none, 0), (.aload_n 0, 1, 0, 0, none, 0), (.aload_n 0, 1, 0, 0, none, 0), (.getfield 107, 3, 9, 19, none, 0), (.putfield 55, 3, 9, 2, none, 0), (.iconst 0, 1, 0, 0, none, 0), (.istore_n 2, 1, 2, 0, none, 0)] 118 = true := by decide +kernel
theorem b_X11_land_118 : dkM m_X11_land 118 [(.iload_n 2, 1, 2, 0, none, 0), (.bipush 67, 2, 0, 0, none, 67), (.if_icmp .ge 16, 3, 137, 124, none, 0)] 124 = true := by decide +kernel
theorem b_X11_land_124 : dkM m_X11_land 124 [(.aload_n 0, 1, 0, 0, none, 0), (.getfield 20, 3, 9, 4, some (some 3), 0), (.iload_n 2, 1, 2, 0, none, 0), (.iconst 0, 1, 0, 0, none, 0), (.iastore, 1, 0, 0, none, 0), (.iinc 2 1, 3, 2, 0, none, 1), (.goto (-16), 3, 118, 0, none, 0)] 137 = true := by decide +kernel
theorem b_X11_land_137 : dkM m_X11_land 137 [(.aload_n 0, 1, 0, 0, none, 0), (.getfield 20, 3, 9, 4, some (some 3), 0), (.iconst 0, 1, 0, 0, none, 0), (.iconst 1, 1, 0, 0, none, 1), (.iastore, 1, 0, 0, none, 0), (.iconst 0, 1, 0, 0, none, 0), (.istore_n 2, 1, 2, 0, none, 0)] 146 = true := by decide +kernel
theorem b_X11_land_146 : dkM m_X11_land 146 [(.iload_n 2, 1, 2, 0, none, 0), (.bipush 8, 2, 0, 0, none, 8), (.if_icmp .ge 21, 3, 170, 152, none, 0)] 152 = true := by decide +kernel
theorem b_X11_land_152 : dkM m_X11_land 152 [(.aload_n 0, 1, 0, 0, none, 0), (.getfield 13, 3, 9, 1, some (some 1), 0), (.iload_n 2, 1, 2, 0, none, 0), (.aload_n 0, 1, 0, 0, none, 0), (.getfield 36, 3, 9, 18, some (some 8), 0), (.iload_n 2, 1, 2, 0, none, 0), (.iaload, 1, 0, 0, none, 0), (.iastore, 1, 0, 0, none, 0), (.iinc 2 1, 3, 2, 0, none, 1), (.goto (-21), 3, 146, 0, none, 0)] 170 = true := by decide +kernel
theorem b_X11_land_170 : dkM m_X11_land 170 [(.iconst 0, 1, 0, 0, none, 0), (.istore_n 2, 1, 2, 0, none, 0)] 172 = true := by decide +kernel
theorem b_X11_land_172 : dkM m_X11_land 172 [(.iload_n 2, 1, 2, 0, none, 0), (.aload_n 0, 1, 0, 0, none, 0), (.getfield 55, 3, 9, 2, none, 0), (.if_icmp .ge 60, 3, 237, 180, none, 0)] 180 = true := by decide +kernel
theorem b_X11_land_180 : dkM m_X11_land 180 [(.aload_n 0, 1, 0, 0, none, 0), (.getfield 17, 3, 9, 3, some (some 2), 0), (.iload_n 2, 1, 2, 0, none, 0), (.aload_n 0, 1, 0, 0, none, 0), (.getfield 39, 3, 9, 20, some (some 9), 0), (.iconst 3, 1, 0, 0, none, 3), (.iload_n 2, 1, 2, 0, none, 0), (.imul, 1, 0, 0, none, 0), (.iaload, 1, 0, 0, none, 0), (.iastore, 1, 0, 0, none, 0), (.aload_n 0, 1, 0, 0, none, 0), (.getfield 20, 3, 9, 4, some (some 3), 0), (.iconst 3, 1, 0, 0, none, 3), (.iload_n 2, 1, 2, 0, none, 0), (.iadd, 1, 0, 0, none, 0), (.aload_n 0, 1, 0, 0, none, 0), (.getfield 39, 3, 9, 20, some (some 9), 0), (.iconst 3, 1, 0, 0, none, 3), (.iload_n 2, 1, 2, 0, none, 0), (.imul, 1, 0, 0, none, 0), (.iconst 1, 1, 0, 0, none, 1), (.iadd, 1, 0, 0, none, 0), (.iaload, 1, 0, 0, none, 0), (.iastore, 1, 0, 0, none, 0), (.aload_n 0, 1, 0, 0, none, 0), (.getfield 20, 3, 9, 4, some (some 3), 0), (.bipush 9, 2, 0, 0, none, 9), (.iload_n 2, 1, 2, 0, none, 0), (.iadd, 1, 0, 0, none, 0), (.aload_n 0, 1, 0, 0, none, 0), (.getfield 39, 3, 9, 20, some (some 9), 0), (.iconst 3, 1, 0, 0, none, 3), (.iload_n 2, 1, 2, 0, none, 0), (.imul, 1, 0, 0, none, 0), (.iconst 2, 1, 0, 0, none, 2), (.iadd, 1, 0, 0, none, 0), (.iaload, 1, 0, 0, none, 0), (.iastore, 1, 0, 0, none, 0), (.iinc 2 1, 3, 2, 0, none, 1), (.goto (-62), 3, 172, 0, none, 0)] 237 = true := by decide +kernel
theorem b_X11_land_237 : dkM m_X11_land 237 [(.aload_n 0, 1, 0, 0, none, 0), (.getfield 20, 3, 9, 4, some (some 3), 0), (.bipush 15, 2, 0, 0, none, 15), (.aload_n 0, 1, 0, 0, none, 0), (.getfield 110, 3, 9, 21, none, 0), (.iastore, 1, 0, 0, none, 0), (.iconst 0, 1, 0, 0, none, 0), (.istore_n 2, 1, 2, 0, none, 0)] 250 = true := by decide +kernel
theorem b_X11_land_250 : dkM m_X11_land 250 [(.iload_n 2, 1, 2, 0, none, 0), (.iconst 4, 1, 0, 0, none, 4), (.aload_n 0, 1, 0, 0, none, 0), (.getfield 110, 3, 9, 21, none, 0), (.imul, 1, 0, 0, none, 0), (.if_icmp .ge 24, 3, 281, 260, none, 0)] 260 = true := by decide +kernel
theorem b_X11_land_260 : dkM m_X11_land 260 [(.aload_n 0, 1, 0, 0, none, 0), (.getfield 20, 3, 9, 4, some (some 3), 0), (.bipush 16, 2, 0, 0, none, 16), (.iload_n 2, 1, 2, 0, none, 0), (.iadd, 1, 0, 0, none, 0), (.aload_n 0, 1, 0, 0, none, 0), (.getfield 42, 3, 9, 22, some (some 10), 0), (.iload_n 2, 1, 2, 0, none, 0), (.iaload, 1, 0, 0, none, 0), (.iastore, 1, 0, 0, none, 0), (.iinc 2 1, 3, 2, 0, none, 1), (.goto (-28), 3, 250, 0, none, 0)] 281 = true := by decide +kernel
theorem b_X11_land_281 : dkM m_X11_land 281 [(.aload_n 0, 1, 0, 0, none, 0), (.iconst 0, 1, 0, 0, none, 0), (.putfield 116, 3, 9, 6, none, 0), (.aload_n 0, 1, 0, 0, none, 0), (.getfield 29, 3, 9, 8, some (some 6), 0), (.iconst 0, 1, 0, 0, none, 0), (.iconst 0, 1, 0, 0, none, 0), (.bastore, 1, 0, 0, none, 0), (.aload_n 0, 1, 0, 0, none, 0), (.getfield 29, 3, 9, 8, some (some 6), 0), (.iconst 1, 1, 0, 0, none, 1), (.iconst 0, 1, 0, 0, none, 0), (.bastore, 1, 0, 0, none, 0), (.aload_n 0, 1, 0, 0, none, 0), (.iconst 0, 1, 0, 0, none, 0), (.putfield 58, 3, 9, 11, none, 0), (.iload_n 1, 1, 1, 0, none, 0), (.ireturn, 1, 0, 0, none, 0)] 307 = true := by decide +kernel
theorem k_X11_land_49 : cvB m_X11_land m_X11_next 49 81 9 0 845 68 842 844 20 = true := by decide +kernel
theorem k_X11_land_76 : cvB m_X11_land m_X11_readItem 76 113 9 1 853 68 850 852 22 = true := by decide +kernel
theorem b_X11_roads_0 : dkM m_X11_roads 0 [(.aload_n 0, 1, 0, 0, none, 0), (.iload_n 1, 1, 1, 0, none, 0)] 2 = true := by decide +kernel
theorem b_X11_roads_5 : dkM m_X11_roads 5 [(.ifCond .eq 12, 3, 17, 8, none, 0)] 8 = true := by decide +kernel
theorem b_X11_roads_8 : dkM m_X11_roads 8 [(.aload_n 0, 1, 0, 0, none, 0), (.getfield 13, 3, 9, 1, some (some 1), 0), (.iload_n 1, 1, 1, 0, none, 0), (.iaload, 1, 0, 0, none, 0), (.goto 4, 3, 18, 0, none, 0)] 17 = true := by decide +kernel
theorem b_X11_roads_17 : dkM m_X11_roads 17 [(.iconst (-1), 1, 0, 0, none, -1)] 18 = true := by decide +kernel
theorem b_X11_roads_18 : dkM m_X11_roads 18 [(.ireturn, 1, 0, 0, none, 0)] 19 = true := by decide +kernel
theorem k_X11_roads_2 : cvB m_X11_roads m_X11_isField 2 119 9 1 885 68 882 884 29 = true := by decide +kernel
theorem b_X11_army_0 : dkM m_X11_army 0 [(.aload_n 0, 1, 0, 0, none, 0), (.iload_n 1, 1, 1, 0, none, 0)] 2 = true := by decide +kernel
theorem b_X11_army_5 : dkM m_X11_army 5 [(.ifCond .eq 12, 3, 17, 8, none, 0)] 8 = true := by decide +kernel
theorem b_X11_army_8 : dkM m_X11_army 8 [(.iload_n 2, 1, 2, 0, none, 0), (.iconst 0, 1, 0, 0, none, 0), (.iconst 2, 1, 0, 0, none, 2)] 11 = true := by decide +kernel
theorem b_X11_army_14 : dkM m_X11_army 14 [(.ifCond .ne 5, 3, 19, 17, none, 0)] 17 = true := by decide +kernel
theorem b_X11_army_17 : dkM m_X11_army 17 [(.iconst (-1), 1, 0, 0, none, -1), (.ireturn, 1, 0, 0, none, 0)] 19 = true := by decide +kernel
theorem b_X11_army_19 : dkM m_X11_army 19 [(.iload_n 2, 1, 2, 0, none, 0), (.ifCond .ne 12, 3, 32, 23, none, 0)] 23 = true := by decide +kernel
theorem b_X11_army_23 : dkM m_X11_army 23 [(.aload_n 0, 1, 0, 0, none, 0), (.getfield 17, 3, 9, 3, some (some 2), 0), (.iload_n 1, 1, 1, 0, none, 0), (.iaload, 1, 0, 0, none, 0), (.goto 28, 3, 57, 0, none, 0)] 32 = true := by decide +kernel
theorem b_X11_army_32 : dkM m_X11_army 32 [(.iload_n 2, 1, 2, 0, none, 0), (.iconst 1, 1, 0, 0, none, 1), (.if_icmp .ne 14, 3, 48, 37, none, 0)] 37 = true := by decide +kernel
theorem b_X11_army_37 : dkM m_X11_army 37 [(.aload_n 0, 1, 0, 0, none, 0), (.getfield 20, 3, 9, 4, some (some 3), 0), (.iconst 3, 1, 0, 0, none, 3), (.iload_n 1, 1, 1, 0, none, 0), (.iadd, 1, 0, 0, none, 0), (.iaload, 1, 0, 0, none, 0), (.goto 12, 3, 57, 0, none, 0)] 48 = true := by decide +kernel
theorem b_X11_army_48 : dkM m_X11_army 48 [(.aload_n 0, 1, 0, 0, none, 0), (.getfield 20, 3, 9, 4, some (some 3), 0), (.bipush 9, 2, 0, 0, none, 9), (.iload_n 1, 1, 1, 0, none, 0), (.iadd, 1, 0, 0, none, 0), (.iaload, 1, 0, 0, none, 0)] 57 = true := by decide +kernel
theorem b_X11_army_57 : dkM m_X11_army 57 [(.ireturn, 1, 0, 0, none, 0)] 58 = true := by decide +kernel
theorem k_X11_army_2 : cvB m_X11_army m_X11_isArmy 2 123 9 1 893 68 890 892 30 = true := by decide +kernel
theorem k_X11_army_11 : csB m_X11_army m_X11_in 11 51 3 833 68 831 832 = true := by decide +kernel
theorem b_X11_isSo_0 : dkM m_X11_isSo 0 [(.bipush 40, 2, 0, 0, none, 40), (.iconst 3, 1, 0, 0, none, 3), (.iload_n 1, 1, 1, 0, none, 0), (.iconst 1, 1, 0, 0, none, 1), (.isub, 1, 0, 0, none, 0), (.imul, 1, 0, 0, none, 0), (.iadd, 1, 0, 0, none, 0), (.istore 5, 2, 5, 0, none, 0), (.iload_n 3, 1, 3, 0, none, 0), (.ifCond .ne 25, 3, 36, 14, none, 0)] 14 = true := by decide +kernel
theorem b_X11_isSo_14 : dkM m_X11_isSo 14 [(.aload_n 0, 1, 0, 0, none, 0), (.getfield 20, 3, 9, 4, some (some 3), 0), (.iload 5, 2, 5, 0, none, 0), (.iload_n 2, 1, 2, 0, none, 0), (.iadd, 1, 0, 0, none, 0), (.iaload, 1, 0, 0, none, 0), (.iload 4, 2, 4, 0, none, 0), (.if_icmp .ne 7, 3, 32, 28, none, 0)] 28 = true := by decide +kernel
theorem b_X11_isSo_28 : dkM m_X11_isSo 28 [(.iconst 1, 1, 0, 0, none, 1), (.goto 48, 3, 77, 0, none, 0)] 32 = true := by decide +kernel
theorem b_X11_isSo_32 : dkM m_X11_isSo 32 [(.iconst 0, 1, 0, 0, none, 0), (.goto 44, 3, 77, 0, none, 0)] 36 = true := by decide +kernel
theorem b_X11_isSo_36 : dkM m_X11_isSo 36 [(.iload_n 3, 1, 3, 0, none, 0), (.iconst 1, 1, 0, 0, none, 1), (.if_icmp .ne 20, 3, 58, 41, none, 0)] 41 = true := by decide +kernel
theorem b_X11_isSo_41 : dkM m_X11_isSo 41 [(.aload_n 0, 1, 0, 0, none, 0), (.getfield 20, 3, 9, 4, some (some 3), 0), (.iload 5, 2, 5, 0, none, 0), (.iconst 2, 1, 0, 0, none, 2), (.iadd, 1, 0, 0, none, 0), (.iaload, 1, 0, 0, none, 0), (.iload 4, 2, 4, 0, none, 0)] 52 = true := by decide +kernel
theorem b_X11_isSo_55 : dkM m_X11_isSo 55 [(.goto 22, 3, 77, 0, none, 0)] 58 = true := by decide +kernel
theorem b_X11_isSo_58 : dkM m_X11_isSo 58 [(.aload_n 0, 1, 0, 0, none, 0), (.getfield 20, 3, 9, 4, some (some 3), 0), (.iload 5, 2, 5, 0, none, 0), (.iload_n 2, 1, 2, 0, none, 0), (.iadd, 1, 0, 0, none, 0), (.iaload, 1, 0, 0, none, 0), (.bipush (-9), 2, 0, 0, none, -9), (.if_icmp .ne 7, 3, 76, 72, none, 0)] 72 = true := by decide +kernel
theorem b_X11_isSo_72 : dkM m_X11_isSo 72 [(.iconst 1, 1, 0, 0, none, 1), (.goto 4, 3, 77, 0, none, 0)] 76 = true := by decide +kernel
theorem b_X11_isSo_76 : dkM m_X11_isSo 76 [(.iconst 0, 1, 0, 0, none, 0)] 77 = true := by decide +kernel
theorem b_X11_isSo_77 : dkM m_X11_isSo 77 [(.ireturn, 1, 1, 0, none, 0)] 78 = true := by decide +kernel
theorem k_X11_isSo_52 : csB m_X11_isSo m_X11_has 52 126 2 920 68 918 919 = true := by decide +kernel
theorem b_X11_isGone_0 : dkM m_X11_isGone 0 [(.aload_n 0, 1, 0, 0, none, 0), (.getfield 20, 3, 9, 4, some (some 3), 0), (.bipush 16, 2, 0, 0, none, 16), (.iconst 4, 1, 0, 0, none, 4), (.iload_n 1, 1, 1, 0, none, 0), (.imul, 1, 0, 0, none, 0), (.iadd, 1, 0, 0, none, 0), (.iaload, 1, 0, 0, none, 0), (.aload_n 0, 1, 0, 0, none, 0), (.getfield 20, 3, 9, 4, some (some 3), 0), (.iconst 0, 1, 0, 0, none, 0), (.iaload, 1, 0, 0, none, 0), (.if_icmp .ge 7, 3, 24, 20, none, 0)] 20 = true := by decide +kernel
theorem b_X11_isGone_20 : dkM m_X11_isGone 20 [(.iconst 1, 1, 0, 0, none, 1), (.goto 4, 3, 25, 0, none, 0)] 24 = true := by decide +kernel
theorem b_X11_isGone_24 : dkM m_X11_isGone 24 [(.iconst 0, 1, 0, 0, none, 0)] 25 = true := by decide +kernel
theorem b_X11_isGone_25 : dkM m_X11_isGone 25 [(.ireturn, 1, 1, 0, none, 0)] 26 = true := by decide +kernel
theorem b_X11_isFulfilledBy_0 : dkM m_X11_isFulfilledBy 0 [(.bipush 16, 2, 0, 0, none, 16), (.iconst 4, 1, 0, 0, none, 4), (.iload_n 1, 1, 1, 0, none, 0), (.imul, 1, 0, 0, none, 0), (.iadd, 1, 0, 0, none, 0), (.istore_n 3, 1, 3, 0, none, 0), (.aload_n 0, 1, 0, 0, none, 0), (.aload_n 0, 1, 0, 0, none, 0), (.getfield 20, 3, 9, 4, some (some 3), 0), (.iload_n 3, 1, 3, 0, none, 0), (.iaload, 1, 0, 0, none, 0), (.iload_n 2, 1, 2, 0, none, 0), (.aload_n 0, 1, 0, 0, none, 0), (.getfield 20, 3, 9, 4, some (some 3), 0), (.iload_n 3, 1, 3, 0, none, 0), (.iconst 2, 1, 0, 0, none, 2), (.iadd, 1, 0, 0, none, 0), (.iaload, 1, 0, 0, none, 0), (.aload_n 0, 1, 0, 0, none, 0), (.getfield 20, 3, 9, 4, some (some 3), 0), (.iload_n 3, 1, 3, 0, none, 0), (.iconst 3, 1, 0, 0, none, 3), (.iadd, 1, 0, 0, none, 0), (.iaload, 1, 0, 0, none, 0)] 31 = true := by decide +kernel
theorem b_X11_isFulfilledBy_34 : dkM m_X11_isFulfilledBy 34 [(.ireturn, 1, 1, 0, none, 0)] 35 = true := by decide +kernel
theorem k_X11_isFulfilledBy_31 : cvB m_X11_isFulfilledBy m_X11_isSo 31 130 9 4 917 68 914 916 35 = true := by decide +kernel
theorem b_X11_isBroken_0 : dkM m_X11_isBroken 0 [(.aload_n 0, 1, 0, 0, none, 0), (.getfield 20, 3, 9, 4, some (some 3), 0), (.bipush 16, 2, 0, 0, none, 16), (.iconst 4, 1, 0, 0, none, 4), (.iload_n 1, 1, 1, 0, none, 0), (.imul, 1, 0, 0, none, 0), (.iadd, 1, 0, 0, none, 0), (.iconst 1, 1, 0, 0, none, 1), (.iadd, 1, 0, 0, none, 0), (.iaload, 1, 0, 0, none, 0), (.istore_n 2, 1, 2, 0, none, 0), (.aload_n 0, 1, 0, 0, none, 0), (.iload_n 1, 1, 1, 0, none, 0)] 16 = true := by decide +kernel
theorem b_X11_isBroken_19 : dkM m_X11_isBroken 19 [(.ifCond .eq 42, 3, 61, 22, none, 0)] 22 = true := by decide +kernel
theorem b_X11_isBroken_22 : dkM m_X11_isBroken 22 [(.iload_n 2, 1, 2, 0, none, 0), (.iconst 2, 1, 0, 0, none, 2), (.if_icmp .ne 24, 3, 48, 27, none, 0)] 27 = true := by decide +kernel
theorem b_X11_isBroken_27 : dkM m_X11_isBroken 27 [(.aload_n 0, 1, 0, 0, none, 0), (.iload_n 1, 1, 1, 0, none, 0), (.iconst 0, 1, 0, 0, none, 0)] 30 = true := by decide +kernel
theorem b_X11_isBroken_33 : dkM m_X11_isBroken 33 [(.ifCond .ne 28, 3, 61, 36, none, 0)] 36 = true := by decide +kernel
theorem b_X11_isBroken_36 : dkM m_X11_isBroken 36 [(.aload_n 0, 1, 0, 0, none, 0), (.iload_n 1, 1, 1, 0, none, 0), (.iconst 1, 1, 0, 0, none, 1)] 39 = true := by decide +kernel
theorem b_X11_isBroken_42 : dkM m_X11_isBroken 42 [(.ifCond .eq 15, 3, 57, 45, none, 0)] 45 = true := by decide +kernel
theorem b_X11_isBroken_45 : dkM m_X11_isBroken 45 [(.goto 16, 3, 61, 0, none, 0)] 48 = true := by decide +kernel
theorem b_X11_isBroken_48 : dkM m_X11_isBroken 48 [(.aload_n 0, 1, 0, 0, none, 0), (.iload_n 1, 1, 1, 0, none, 0), (.iload_n 2, 1, 2, 0, none, 0)] 51 = true := by decide +kernel
theorem b_X11_isBroken_54 : dkM m_X11_isBroken 54 [(.ifCond .ne 7, 3, 61, 57, none, 0)] 57 = true := by decide +kernel
theorem b_X11_isBroken_57 : dkM m_X11_isBroken 57 [(.iconst 1, 1, 0, 0, none, 1), (.goto 4, 3, 62, 0, none, 0)] 61 = true := by decide +kernel
theorem b_X11_isBroken_61 : dkM m_X11_isBroken 61 [(.iconst 0, 1, 0, 0, none, 0)] 62 = true := by decide +kernel
theorem b_X11_isBroken_62 : dkM m_X11_isBroken 62 [(.ireturn, 1, 1, 0, none, 0)] 63 = true := by decide +kernel
theorem k_X11_isBroken_16 : cvB m_X11_isBroken m_X11_isGone 16 134 9 1 905 68 902 904 32 = true := by decide +kernel
theorem k_X11_isBroken_30 : cvB m_X11_isBroken m_X11_isFulfilledBy 30 137 9 2 913 68 910 912 34 = true := by decide +kernel
theorem k_X11_isBroken_39 : cvB m_X11_isBroken m_X11_isFulfilledBy 39 137 9 2 913 68 910 912 34 = true := by decide +kernel
theorem k_X11_isBroken_51 : cvB m_X11_isBroken m_X11_isFulfilledBy 51 137 9 2 913 68 910 912 34 = true := by decide +kernel
theorem b_X11_page_0 : dkM m_X11_page 0 [(.aload_n 0, 1, 0, 0, none, 0), (.iload_n 1, 1, 1, 0, none, 0)] 2 = true := by decide +kernel
theorem b_X11_page_5 : dkM m_X11_page 5 [(.ifCond .eq 12, 3, 17, 8, none, 0)] 8 = true := by decide +kernel
theorem b_X11_page_8 : dkM m_X11_page 8 [(.iload_n 2, 1, 2, 0, none, 0), (.iconst 0, 1, 0, 0, none, 0), (.iconst 4, 1, 0, 0, none, 4)] 11 = true := by decide +kernel
theorem b_X11_page_14 : dkM m_X11_page 14 [(.ifCond .ne 5, 3, 19, 17, none, 0)] 17 = true := by decide +kernel
theorem b_X11_page_17 : dkM m_X11_page 17 [(.iconst (-1), 1, 0, 0, none, -1), (.ireturn, 1, 0, 0, none, 0)] 19 = true := by decide +kernel
theorem b_X11_page_19 : dkM m_X11_page 19 [(.iload_n 2, 1, 2, 0, none, 0), (.iconst 4, 1, 0, 0, none, 4), (.if_icmp .ge 19, 3, 40, 24, none, 0)] 24 = true := by decide +kernel
theorem b_X11_page_24 : dkM m_X11_page 24 [(.aload_n 0, 1, 0, 0, none, 0), (.getfield 20, 3, 9, 4, some (some 3), 0), (.bipush 16, 2, 0, 0, none, 16), (.iconst 4, 1, 0, 0, none, 4), (.iload_n 1, 1, 1, 0, none, 0), (.imul, 1, 0, 0, none, 0), (.iadd, 1, 0, 0, none, 0), (.iload_n 2, 1, 2, 0, none, 0), (.iadd, 1, 0, 0, none, 0), (.iaload, 1, 0, 0, none, 0), (.goto 28, 3, 65, 0, none, 0)] 40 = true := by decide +kernel
theorem b_X11_page_40 : dkM m_X11_page 40 [(.aload_n 0, 1, 0, 0, none, 0), (.iload_n 1, 1, 1, 0, none, 0)] 42 = true := by decide +kernel
theorem b_X11_page_45 : dkM m_X11_page 45 [(.ifCond .ne 7, 3, 52, 48, none, 0)] 48 = true := by decide +kernel
theorem b_X11_page_48 : dkM m_X11_page 48 [(.iconst 0, 1, 0, 0, none, 0), (.goto 16, 3, 65, 0, none, 0)] 52 = true := by decide +kernel
theorem b_X11_page_52 : dkM m_X11_page 52 [(.aload_n 0, 1, 0, 0, none, 0), (.iload_n 1, 1, 1, 0, none, 0)] 54 = true := by decide +kernel
theorem b_X11_page_57 : dkM m_X11_page 57 [(.ifCond .eq 7, 3, 64, 60, none, 0)] 60 = true := by decide +kernel
theorem b_X11_page_60 : dkM m_X11_page 60 [(.iconst 2, 1, 0, 0, none, 2), (.goto 4, 3, 65, 0, none, 0)] 64 = true := by decide +kernel
theorem b_X11_page_64 : dkM m_X11_page 64 [(.iconst 1, 1, 0, 0, none, 1)] 65 = true := by decide +kernel
theorem b_X11_page_65 : dkM m_X11_page 65 [(.ireturn, 1, 0, 0, none, 0)] 66 = true := by decide +kernel
theorem k_X11_page_2 : cvB m_X11_page m_X11_isPage 2 140 9 1 901 68 898 900 31 = true := by decide +kernel
theorem k_X11_page_11 : csB m_X11_page m_X11_in 11 51 3 833 68 831 832 = true := by decide +kernel
theorem k_X11_page_42 : cvB m_X11_page m_X11_isGone 42 134 9 1 905 68 902 904 32 = true := by decide +kernel
theorem k_X11_page_54 : cvB m_X11_page m_X11_isBroken 54 143 9 1 909 68 906 908 33 = true := by decide +kernel
theorem b_X11_troopsOf_0 : dkM m_X11_troopsOf 0 [(.iconst 0, 1, 0, 0, none, 0), (.istore_n 2, 1, 2, 0, none, 0), (.iconst 0, 1, 0, 0, none, 0), (.istore_n 3, 1, 3, 0, none, 0)] 4 = true := by decide +kernel
theorem b_X11_troopsOf_4 : dkM m_X11_troopsOf 4 [(.iload_n 3, 1, 3, 0, none, 0), (.aload_n 0, 1, 0, 0, none, 0), (.getfield 55, 3, 9, 2, none, 0), (.if_icmp .ge 35, 3, 44, 12, none, 0)] 12 = true := by decide +kernel
theorem b_X11_troopsOf_12 : dkM m_X11_troopsOf 12 [(.iload_n 2, 1, 2, 0, none, 0), (.aload_n 0, 1, 0, 0, none, 0), (.getfield 17, 3, 9, 3, some (some 2), 0), (.iload_n 3, 1, 3, 0, none, 0), (.iaload, 1, 0, 0, none, 0), (.iload_n 1, 1, 1, 0, none, 0), (.if_icmp .ne 15, 3, 35, 23, none, 0)] 23 = true := by decide +kernel
theorem b_X11_troopsOf_23 : dkM m_X11_troopsOf 23 [(.aload_n 0, 1, 0, 0, none, 0), (.getfield 20, 3, 9, 4, some (some 3), 0), (.bipush 9, 2, 0, 0, none, 9), (.iload_n 3, 1, 3, 0, none, 0), (.iadd, 1, 0, 0, none, 0), (.iaload, 1, 0, 0, none, 0), (.goto 4, 3, 36, 0, none, 0)] 35 = true := by decide +kernel
theorem b_X11_troopsOf_35 : dkM m_X11_troopsOf 35 [(.iconst 0, 1, 0, 0, none, 0)] 36 = true := by decide +kernel
theorem b_X11_troopsOf_36 : dkM m_X11_troopsOf 36 [(.iadd, 1, 0, 0, none, 0), (.istore_n 2, 1, 2, 0, none, 0), (.iinc 3 1, 3, 3, 0, none, 1), (.goto (-37), 3, 4, 0, none, 0)] 44 = true := by decide +kernel
theorem b_X11_troopsOf_44 : dkM m_X11_troopsOf 44 [(.iload_n 2, 1, 2, 0, none, 0), (.ireturn, 1, 0, 0, none, 0)] 46 = true := by decide +kernel
theorem b_X11_now_0 : dkM m_X11_now 0 [(.iload_n 1, 1, 1, 0, none, 0), (.iconst 0, 1, 0, 0, none, 0), (.iconst 5, 1, 0, 0, none, 5)] 3 = true := by decide +kernel
theorem b_X11_now_6 : dkM m_X11_now 6 [(.ifCond .ne 5, 3, 11, 9, none, 0)] 9 = true := by decide +kernel
theorem b_X11_now_9 : dkM m_X11_now 9 [(.iconst (-1), 1, 0, 0, none, -1), (.ireturn, 1, 0, 0, none, 0)] 11 = true := by decide +kernel
theorem b_X11_now_11 : dkM m_X11_now 11 [(.iload_n 1, 1, 1, 0, none, 0), (.iconst 3, 1, 0, 0, none, 3), (.if_icmp .ge 12, 3, 25, 16, none, 0)] 16 = true := by decide +kernel
theorem b_X11_now_16 : dkM m_X11_now 16 [(.aload_n 0, 1, 0, 0, none, 0), (.getfield 20, 3, 9, 4, some (some 3), 0), (.iload_n 1, 1, 1, 0, none, 0), (.iaload, 1, 0, 0, none, 0), (.goto 22, 3, 44, 0, none, 0)] 25 = true := by decide +kernel
theorem b_X11_now_25 : dkM m_X11_now 25 [(.iload_n 1, 1, 1, 0, none, 0), (.iconst 5, 1, 0, 0, none, 5), (.if_icmp .ge 13, 3, 40, 30, none, 0)] 30 = true := by decide +kernel
theorem b_X11_now_30 : dkM m_X11_now 30 [(.aload_n 0, 1, 0, 0, none, 0), (.iload_n 1, 1, 1, 0, none, 0), (.iconst 3, 1, 0, 0, none, 3), (.isub, 1, 0, 0, none, 0)] 34 = true := by decide +kernel
theorem b_X11_now_37 : dkM m_X11_now 37 [(.goto 7, 3, 44, 0, none, 0)] 40 = true := by decide +kernel
theorem b_X11_now_40 : dkM m_X11_now 40 [(.aload_n 0, 1, 0, 0, none, 0), (.getfield 116, 3, 9, 6, none, 0)] 44 = true := by decide +kernel
theorem b_X11_now_44 : dkM m_X11_now 44 [(.ireturn, 1, 0, 0, none, 0)] 45 = true := by decide +kernel
theorem k_X11_now_3 : csB m_X11_now m_X11_in 3 51 3 833 68 831 832 = true := by decide +kernel
theorem k_X11_now_34 : cvB m_X11_now m_X11_troopsOf 34 146 9 1 928 68 925 927 36 = true := by decide +kernel
theorem b_X11_written_0 : dkM m_X11_written 0 [(.iload_n 1, 1, 1, 0, none, 0), (.iconst 1, 1, 0, 0, none, 1), (.bipush 9, 2, 0, 0, none, 9)] 4 = true := by decide +kernel
theorem b_X11_written_7 : dkM m_X11_written 7 [(.ifCond .eq 40, 3, 47, 10, none, 0)] 10 = true := by decide +kernel
theorem b_X11_written_10 : dkM m_X11_written 10 [(.iload_n 1, 1, 1, 0, none, 0), (.aload_n 0, 1, 0, 0, none, 0), (.getfield 20, 3, 9, 4, some (some 3), 0), (.iconst 0, 1, 0, 0, none, 0), (.iaload, 1, 0, 0, none, 0), (.if_icmp .ge 30, 3, 47, 20, none, 0)] 20 = true := by decide +kernel
theorem b_X11_written_20 : dkM m_X11_written 20 [(.iload_n 2, 1, 2, 0, none, 0), (.iconst 0, 1, 0, 0, none, 0), (.iconst 2, 1, 0, 0, none, 2)] 23 = true := by decide +kernel
theorem b_X11_written_26 : dkM m_X11_written 26 [(.ifCond .eq 21, 3, 47, 29, none, 0)] 29 = true := by decide +kernel
theorem b_X11_written_29 : dkM m_X11_written 29 [(.aload_n 0, 1, 0, 0, none, 0), (.getfield 20, 3, 9, 4, some (some 3), 0), (.bipush 40, 2, 0, 0, none, 40), (.iconst 3, 1, 0, 0, none, 3), (.iload_n 1, 1, 1, 0, none, 0), (.iconst 1, 1, 0, 0, none, 1), (.isub, 1, 0, 0, none, 0), (.imul, 1, 0, 0, none, 0), (.iadd, 1, 0, 0, none, 0), (.iload_n 2, 1, 2, 0, none, 0), (.iadd, 1, 0, 0, none, 0), (.iaload, 1, 0, 0, none, 0), (.goto 5, 3, 49, 0, none, 0)] 47 = true := by decide +kernel
theorem b_X11_written_47 : dkM m_X11_written 47 [(.ldc 149, 2, 0, 0, none, -1000000)] 49 = true := by decide +kernel
theorem b_X11_written_49 : dkM m_X11_written 49 [(.ireturn, 1, 0, 0, none, 0)] 50 = true := by decide +kernel
theorem k_X11_written_4 : csB m_X11_written m_X11_in 4 51 3 833 68 831 832 = true := by decide +kernel
theorem k_X11_written_23 : csB m_X11_written m_X11_in 23 51 3 833 68 831 832 = true := by decide +kernel
theorem b_X11_isOrder_0 : dkM m_X11_isOrder 0 [(.iload_n 3, 1, 3, 0, none, 0), (.ifCond .ne 5, 3, 6, 4, none, 0)] 4 = true := by decide +kernel
theorem b_X11_isOrder_4 : dkM m_X11_isOrder 4 [(.iconst 1, 1, 0, 0, none, 1), (.ireturn, 1, 1, 0, none, 0)] 6 = true := by decide +kernel
theorem b_X11_isOrder_6 : dkM m_X11_isOrder 6 [(.iload_n 3, 1, 3, 0, none, 0), (.iconst 1, 1, 0, 0, none, 1), (.isub, 1, 0, 0, none, 0), (.bipush 8, 2, 0, 0, none, 8), (.idiv, 1, 0, 0, none, 0), (.istore 4, 2, 4, 0, none, 0), (.iload_n 3, 1, 3, 0, none, 0), (.iconst 1, 1, 0, 0, none, 1), (.isub, 1, 0, 0, none, 0), (.bipush 8, 2, 0, 0, none, 8), (.irem, 1, 0, 0, none, 0), (.istore 5, 2, 5, 0, none, 0), (.bipush 13, 2, 0, 0, none, 13), (.iload_n 1, 1, 1, 0, none, 0), (.imul, 1, 0, 0, none, 0), (.istore 6, 2, 6, 0, none, 0), (.iload_n 3, 1, 3, 0, none, 0), (.ifCond .le 77, 3, 106, 32, none, 0)] 32 = true := by decide +kernel
theorem b_X11_isOrder_32 : dkM m_X11_isOrder 32 [(.aload_n 0, 1, 0, 0, none, 0), (.iload 4, 2, 4, 0, none, 0)] 35 = true := by decide +kernel
theorem b_X11_isOrder_38 : dkM m_X11_isOrder 38 [(.ifCond .eq 68, 3, 106, 41, none, 0)] 41 = true := by decide +kernel
theorem b_X11_isOrder_41 : dkM m_X11_isOrder 41 [(.aload_n 0, 1, 0, 0, none, 0), (.getfield 17, 3, 9, 3, some (some 2), 0), (.iload 4, 2, 4, 0, none, 0), (.iaload, 1, 0, 0, none, 0), (.iload_n 2, 1, 2, 0, none, 0), (.if_icmp .ne 57, 3, 106, 52, none, 0)] 52 = true := by decide +kernel
theorem b_X11_isOrder_52 : dkM m_X11_isOrder 52 [(.aload_n 0, 1, 0, 0, none, 0), (.getfield 48, 3, 9, 24, some (some 12), 0), (.iload 6, 2, 6, 0, none, 0), (.bipush 7, 2, 0, 0, none, 7), (.iadd, 1, 0, 0, none, 0), (.iload 4, 2, 4, 0, none, 0), (.iadd, 1, 0, 0, none, 0), (.iaload, 1, 0, 0, none, 0), (.ifCond .le 41, 3, 106, 68, none, 0)] 68 = true := by decide +kernel
theorem b_X11_isOrder_68 : dkM m_X11_isOrder 68 [(.aload_n 0, 1, 0, 0, none, 0), (.iload 5, 2, 5, 0, none, 0)] 71 = true := by decide +kernel
theorem b_X11_isOrder_74 : dkM m_X11_isOrder 74 [(.ifCond .eq 32, 3, 106, 77, none, 0)] 77 = true := by decide +kernel
theorem b_X11_isOrder_77 : dkM m_X11_isOrder 77 [(.aload_n 0, 1, 0, 0, none, 0), (.getfield 13, 3, 9, 1, some (some 1), 0), (.aload_n 0, 1, 0, 0, none, 0), (.getfield 48, 3, 9, 24, some (some 12), 0), (.iload 6, 2, 6, 0, none, 0), (.iconst 1, 1, 0, 0, none, 1), (.iadd, 1, 0, 0, none, 0), (.iload 4, 2, 4, 0, none, 0), (.iadd, 1, 0, 0, none, 0), (.iaload, 1, 0, 0, none, 0), (.iaload, 1, 0, 0, none, 0), (.iload 5, 2, 5, 0, none, 0)] 96 = true := by decide +kernel
theorem b_X11_isOrder_99 : dkM m_X11_isOrder 99 [(.ifCond .eq 7, 3, 106, 102, none, 0)] 102 = true := by decide +kernel
theorem b_X11_isOrder_102 : dkM m_X11_isOrder 102 [(.iconst 1, 1, 0, 0, none, 1), (.goto 4, 3, 107, 0, none, 0)] 106 = true := by decide +kernel
theorem b_X11_isOrder_106 : dkM m_X11_isOrder 106 [(.iconst 0, 1, 0, 0, none, 0)] 107 = true := by decide +kernel
theorem b_X11_isOrder_107 : dkM m_X11_isOrder 107 [(.ireturn, 1, 1, 0, none, 0)] 108 = true := by decide +kernel
theorem k_X11_isOrder_35 : cvB m_X11_isOrder m_X11_isArmy 35 123 9 1 893 68 890 892 30 = true := by decide +kernel
theorem k_X11_isOrder_71 : cvB m_X11_isOrder m_X11_isField 71 119 9 1 885 68 882 884 29 = true := by decide +kernel
theorem k_X11_isOrder_96 : csB m_X11_isOrder m_X11_has 96 126 2 920 68 918 919 = true := by decide +kernel
theorem b_X11_layNow_0 : dkM m_X11_layNow 0 [(.aload_n 0, 1, 0, 0, none, 0), (.getfield 48, 3, 9, 24, some (some 12), 0), (.iconst 0, 1, 0, 0, none, 0), (.aload_n 0, 1, 0, 0, none, 0), (.getfield 20, 3, 9, 4, some (some 3), 0), (.iconst 0, 1, 0, 0, none, 0), (.iaload, 1, 0, 0, none, 0), (.iastore, 1, 0, 0, none, 0), (.iconst 0, 1, 0, 0, none, 0), (.istore_n 1, 1, 1, 0, none, 0)] 14 = true := by decide +kernel
theorem b_X11_layNow_14 : dkM m_X11_layNow 14 [(.iload_n 1, 1, 1, 0, none, 0), (.bipush 6, 2, 0, 0, none, 6), (.if_icmp .ge 43, 3, 60, 20, none, 0)] 20 = true := by decide +kernel
theorem b_X11_layNow_20 : dkM m_X11_layNow 20 [(.aload_n 0, 1, 0, 0, none, 0), (.getfield 48, 3, 9, 24, some (some 12), 0), (.iconst 1, 1, 0, 0, none, 1), (.iload_n 1, 1, 1, 0, none, 0), (.iadd, 1, 0, 0, none, 0), (.aload_n 0, 1, 0, 0, none, 0), (.getfield 20, 3, 9, 4, some (some 3), 0), (.iconst 3, 1, 0, 0, none, 3), (.iload_n 1, 1, 1, 0, none, 0), (.iadd, 1, 0, 0, none, 0), (.iaload, 1, 0, 0, none, 0), (.iastore, 1, 0, 0, none, 0), (.aload_n 0, 1, 0, 0, none, 0), (.getfield 48, 3, 9, 24, some (some 12), 0), (.bipush 7, 2, 0, 0, none, 7), (.iload_n 1, 1, 1, 0, none, 0), (.iadd, 1, 0, 0, none, 0), (.aload_n 0, 1, 0, 0, none, 0), (.getfield 20, 3, 9, 4, some (some 3), 0), (.bipush 9, 2, 0, 0, none, 9), (.iload_n 1, 1, 1, 0, none, 0), (.iadd, 1, 0, 0, none, 0), (.iaload, 1, 0, 0, none, 0), (.iastore, 1, 0, 0, none, 0), (.iinc 1 1, 3, 1, 0, none, 1), (.goto (-43), 3, 14, 0, none, 0)] 60 = true := by decide +kernel
theorem b_X11_layNow_60 : dkM m_X11_layNow 60 [(.return_, 1, 0, 0, none, 0)] 61 = true := by decide +kernel
theorem b_X11_strength_0 : dkM m_X11_strength 0 [(.iconst 0, 1, 0, 0, none, 0), (.istore 4, 2, 4, 0, none, 0), (.iconst 0, 1, 0, 0, none, 0), (.istore 5, 2, 5, 0, none, 0)] 6 = true := by decide +kernel
theorem b_X11_strength_6 : dkM m_X11_strength 6 [(.iload 5, 2, 5, 0, none, 0), (.aload_n 0, 1, 0, 0, none, 0), (.getfield 55, 3, 9, 2, none, 0), (.if_icmp .ge 62, 3, 74, 15, none, 0)] 15 = true := by decide +kernel
theorem b_X11_strength_15 : dkM m_X11_strength 15 [(.iload 4, 2, 4, 0, none, 0), (.aload_n 0, 1, 0, 0, none, 0), (.getfield 17, 3, 9, 3, some (some 2), 0), (.iload 5, 2, 5, 0, none, 0), (.iaload, 1, 0, 0, none, 0), (.iload_n 2, 1, 2, 0, none, 0), (.if_icmp .ne 39, 3, 64, 28, none, 0)] 28 = true := by decide +kernel
theorem b_X11_strength_28 : dkM m_X11_strength 28 [(.aload_n 0, 1, 0, 0, none, 0), (.getfield 48, 3, 9, 24, some (some 12), 0), (.bipush 13, 2, 0, 0, none, 13), (.iload_n 1, 1, 1, 0, none, 0), (.imul, 1, 0, 0, none, 0), (.iconst 1, 1, 0, 0, none, 1), (.iadd, 1, 0, 0, none, 0), (.iload 5, 2, 5, 0, none, 0), (.iadd, 1, 0, 0, none, 0), (.iaload, 1, 0, 0, none, 0), (.iload_n 3, 1, 3, 0, none, 0), (.if_icmp .ne 21, 3, 64, 46, none, 0)] 46 = true := by decide +kernel
theorem b_X11_strength_46 : dkM m_X11_strength 46 [(.aload_n 0, 1, 0, 0, none, 0), (.getfield 48, 3, 9, 24, some (some 12), 0), (.bipush 13, 2, 0, 0, none, 13), (.iload_n 1, 1, 1, 0, none, 0), (.imul, 1, 0, 0, none, 0), (.bipush 7, 2, 0, 0, none, 7), (.iadd, 1, 0, 0, none, 0), (.iload 5, 2, 5, 0, none, 0), (.iadd, 1, 0, 0, none, 0), (.iaload, 1, 0, 0, none, 0), (.goto 4, 3, 65, 0, none, 0)] 64 = true := by decide +kernel
theorem b_X11_strength_64 : dkM m_X11_strength 64 [(.iconst 0, 1, 0, 0, none, 0)] 65 = true := by decide +kernel
theorem b_X11_strength_65 : dkM m_X11_strength 65 [(.iadd, 1, 0, 0, none, 0), (.istore 4, 2, 4, 0, none, 0), (.iinc 5 1, 3, 5, 0, none, 1), (.goto (-65), 3, 6, 0, none, 0)] 74 = true := by decide +kernel
theorem b_X11_strength_74 : dkM m_X11_strength 74 [(.iload 4, 2, 4, 0, none, 0), (.ireturn, 1, 0, 0, none, 0)] 77 = true := by decide +kernel
