theorem b_X11_loses_0 : dkM m_X11_loses 0 [(.iload 4, 2, 4, 0, none, 0), (.istore 5, 2, 5, 0, none, 0), (.iconst 0, 1, 0, 0, none, 0), (.istore 6, 2, 6, 0, none, 0)] 7 = true := by decide +kernel
theorem b_X11_loses_7 : dkM m_X11_loses 7 [(.iload 6, 2, 6, 0, none, 0), (.aload_n 0, 1, 0, 0, none, 0), (.getfield 55, 3, 9, 2, none, 0), (.if_icmp .ge 111, 3, 124, 16, none, 0)] 16 = true := by decide +kernel
theorem b_X11_loses_16 : dkM m_X11_loses 16 [(.bipush 13, 2, 0, 0, none, 13), (.iload_n 1, 1, 1, 0, none, 0), (.imul, 1, 0, 0, none, 0), (.bipush 7, 2, 0, 0, none, 7), (.iadd, 1, 0, 0, none, 0), (.iload 6, 2, 6, 0, none, 0), (.iadd, 1, 0, 0, none, 0), (.istore 7, 2, 7, 0, none, 0), (.aload_n 0, 1, 0, 0, none, 0), (.getfield 17, 3, 9, 3, some (some 2), 0), (.iload 6, 2, 6, 0, none, 0), (.iaload, 1, 0, 0, none, 0), (.iload_n 2, 1, 2, 0, none, 0), (.if_icmp .ne 25, 3, 61, 39, none, 0)] 39 = true := by decide +kernel
theorem b_X11_loses_39 : dkM m_X11_loses 39 [(.aload_n 0, 1, 0, 0, none, 0), (.getfield 48, 3, 9, 24, some (some 12), 0), (.bipush 13, 2, 0, 0, none, 13), (.iload_n 1, 1, 1, 0, none, 0), (.imul, 1, 0, 0, none, 0), (.iconst 1, 1, 0, 0, none, 1), (.iadd, 1, 0, 0, none, 0), (.iload 6, 2, 6, 0, none, 0), (.iadd, 1, 0, 0, none, 0), (.iaload, 1, 0, 0, none, 0), (.iload_n 3, 1, 3, 0, none, 0), (.if_icmp .ne 7, 3, 61, 57, none, 0)] 57 = true := by decide +kernel
theorem b_X11_loses_57 : dkM m_X11_loses 57 [(.iconst 1, 1, 0, 0, none, 1), (.goto 4, 3, 62, 0, none, 0)] 61 = true := by decide +kernel
theorem b_X11_loses_61 : dkM m_X11_loses 61 [(.iconst 0, 1, 0, 0, none, 0)] 62 = true := by decide +kernel
theorem b_X11_loses_62 : dkM m_X11_loses 62 [(.istore 8, 2, 8, 0, none, 0), (.iload 8, 2, 8, 0, none, 0), (.ifCond .ne 7, 3, 73, 69, none, 0)] 69 = true := by decide +kernel
theorem b_X11_loses_69 : dkM m_X11_loses 69 [(.iconst 0, 1, 0, 0, none, 0), (.goto 27, 3, 97, 0, none, 0)] 73 = true := by decide +kernel
theorem b_X11_loses_73 : dkM m_X11_loses 73 [(.aload_n 0, 1, 0, 0, none, 0), (.getfield 48, 3, 9, 24, some (some 12), 0), (.iload 7, 2, 7, 0, none, 0), (.iaload, 1, 0, 0, none, 0), (.iload 5, 2, 5, 0, none, 0), (.if_icmp .ge 13, 3, 95, 85, none, 0)] 85 = true := by decide +kernel
theorem b_X11_loses_85 : dkM m_X11_loses 85 [(.aload_n 0, 1, 0, 0, none, 0), (.getfield 48, 3, 9, 24, some (some 12), 0), (.iload 7, 2, 7, 0, none, 0), (.iaload, 1, 0, 0, none, 0), (.goto 5, 3, 97, 0, none, 0)] 95 = true := by decide +kernel
theorem b_X11_loses_95 : dkM m_X11_loses 95 [(.iload 5, 2, 5, 0, none, 0)] 97 = true := by decide +kernel
theorem b_X11_loses_97 : dkM m_X11_loses 97 [(.istore 9, 2, 9, 0, none, 0), (.aload_n 0, 1, 0, 0, none, 0), (.getfield 48, 3, 9, 24, some (some 12), 0), (.iload 7, 2, 7, 0, none, 0), (.dup2, 1, 0, 0, none, 0), (.iaload, 1, 0, 0, none, 0), (.iload 9, 2, 9, 0, none, 0), (.isub, 1, 0, 0, none, 0), (.iastore, 1, 0, 0, none, 0), (.iload 5, 2, 5, 0, none, 0), (.iload 9, 2, 9, 0, none, 0), (.isub, 1, 0, 0, none, 0), (.istore 5, 2, 5, 0, none, 0), (.iinc 6 1, 3, 6, 0, none, 1), (.goto (-114), 3, 7, 0, none, 0)] 124 = true := by decide +kernel
theorem b_X11_loses_124 : dkM m_X11_loses 124 [(.return_, 1, 0, 0, none, 0)] 125 = true := by decide +kernel
theorem b_X11_marches_0 : dkM m_X11_marches 0 [(.iload_n 2, 1, 2, 0, none, 0), (.ifCond .le 27, 3, 28, 4, none, 0)] 4 = true := by decide +kernel
theorem b_X11_marches_4 : dkM m_X11_marches 4 [(.aload_n 0, 1, 0, 0, none, 0), (.getfield 48, 3, 9, 24, some (some 12), 0), (.bipush 13, 2, 0, 0, none, 13), (.iload_n 1, 1, 1, 0, none, 0), (.imul, 1, 0, 0, none, 0), (.iconst 1, 1, 0, 0, none, 1), (.iadd, 1, 0, 0, none, 0), (.iload_n 2, 1, 2, 0, none, 0), (.iconst 1, 1, 0, 0, none, 1), (.isub, 1, 0, 0, none, 0), (.bipush 8, 2, 0, 0, none, 8), (.idiv, 1, 0, 0, none, 0), (.iadd, 1, 0, 0, none, 0), (.iload_n 2, 1, 2, 0, none, 0), (.iconst 1, 1, 0, 0, none, 1), (.isub, 1, 0, 0, none, 0), (.bipush 8, 2, 0, 0, none, 8), (.irem, 1, 0, 0, none, 0), (.iastore, 1, 0, 0, none, 0)] 28 = true := by decide +kernel
theorem b_X11_marches_28 : dkM m_X11_marches 28 [(.return_, 1, 0, 0, none, 0)] 29 = true := by decide +kernel
theorem b_X11_goes_0 : dkM m_X11_goes 0 [(.iload_n 1, 1, 1, 0, none, 0), (.iconst 1, 1, 0, 0, none, 1), (.iadd, 1, 0, 0, none, 0), (.istore 4, 2, 4, 0, none, 0), (.iconst 0, 1, 0, 0, none, 0), (.istore 5, 2, 5, 0, none, 0)] 8 = true := by decide +kernel
theorem b_X11_goes_8 : dkM m_X11_goes 8 [(.iload 5, 2, 5, 0, none, 0), (.bipush 13, 2, 0, 0, none, 13), (.if_icmp .ge 34, 3, 46, 15, none, 0)] 15 = true := by decide +kernel
theorem b_X11_goes_15 : dkM m_X11_goes 15 [(.aload_n 0, 1, 0, 0, none, 0), (.getfield 48, 3, 9, 24, some (some 12), 0), (.bipush 13, 2, 0, 0, none, 13), (.iload 4, 2, 4, 0, none, 0), (.imul, 1, 0, 0, none, 0), (.iload 5, 2, 5, 0, none, 0), (.iadd, 1, 0, 0, none, 0), (.aload_n 0, 1, 0, 0, none, 0), (.getfield 48, 3, 9, 24, some (some 12), 0), (.bipush 13, 2, 0, 0, none, 13), (.iload_n 1, 1, 1, 0, none, 0), (.imul, 1, 0, 0, none, 0), (.iload 5, 2, 5, 0, none, 0), (.iadd, 1, 0, 0, none, 0), (.iaload, 1, 0, 0, none, 0), (.iastore, 1, 0, 0, none, 0), (.iinc 5 1, 3, 5, 0, none, 1), (.goto (-35), 3, 8, 0, none, 0)] 46 = true := by decide +kernel
theorem b_X11_goes_46 : dkM m_X11_goes 46 [(.aload_n 0, 1, 0, 0, none, 0), (.getfield 48, 3, 9, 24, some (some 12), 0), (.bipush 13, 2, 0, 0, none, 13), (.iload 4, 2, 4, 0, none, 0), (.imul, 1, 0, 0, none, 0), (.dup2, 1, 0, 0, none, 0), (.iaload, 1, 0, 0, none, 0), (.iconst 1, 1, 0, 0, none, 1), (.iadd, 1, 0, 0, none, 0), (.iastore, 1, 0, 0, none, 0), (.aload_n 0, 1, 0, 0, none, 0), (.iload 4, 2, 4, 0, none, 0), (.iload_n 2, 1, 2, 0, none, 0)] 64 = true := by decide +kernel
theorem b_X11_goes_67 : dkM m_X11_goes 67 [(.aload_n 0, 1, 0, 0, none, 0), (.iload 4, 2, 4, 0, none, 0), (.iload_n 3, 1, 3, 0, none, 0)] 71 = true := by decide +kernel
theorem b_X11_goes_74 : dkM m_X11_goes 74 [(.iconst 0, 1, 0, 0, none, 0), (.istore 5, 2, 5, 0, none, 0), (.iconst 0, 1, 0, 0, none, 0), (.istore 6, 2, 6, 0, none, 0)] 80 = true := by decide +kernel
theorem b_X11_goes_80 : dkM m_X11_goes 80 [(.iload 6, 2, 6, 0, none, 0), (.aload_n 0, 1, 0, 0, none, 0), (.getfield 7, 3, 9, 0, none, 0), (.if_icmp .ge 72, 3, 158, 89, none, 0)] 89 = true := by decide +kernel
theorem b_X11_goes_89 : dkM m_X11_goes 89 [(.aload_n 0, 1, 0, 0, none, 0), (.iload 4, 2, 4, 0, none, 0), (.iconst 0, 1, 0, 0, none, 0), (.iload 6, 2, 6, 0, none, 0)] 95 = true := by decide +kernel
theorem b_X11_goes_98 : dkM m_X11_goes 98 [(.istore 7, 2, 7, 0, none, 0), (.aload_n 0, 1, 0, 0, none, 0), (.iload 4, 2, 4, 0, none, 0), (.iconst 1, 1, 0, 0, none, 1), (.iload 6, 2, 6, 0, none, 0)] 106 = true := by decide +kernel
theorem b_X11_goes_109 : dkM m_X11_goes 109 [(.istore 8, 2, 8, 0, none, 0), (.iload 7, 2, 7, 0, none, 0), (.ifCond .le 39, 3, 152, 116, none, 0)] 116 = true := by decide +kernel
theorem b_X11_goes_116 : dkM m_X11_goes 116 [(.iload 8, 2, 8, 0, none, 0), (.ifCond .le 34, 3, 152, 121, none, 0)] 121 = true := by decide +kernel
theorem b_X11_goes_121 : dkM m_X11_goes 121 [(.iload 5, 2, 5, 0, none, 0), (.iconst 1, 1, 0, 0, none, 1), (.iload 6, 2, 6, 0, none, 0), (.ishl, 1, 0, 0, none, 0), (.ior, 1, 0, 0, none, 0), (.istore 5, 2, 5, 0, none, 0), (.aload_n 0, 1, 0, 0, none, 0), (.iload 4, 2, 4, 0, none, 0), (.iconst 0, 1, 0, 0, none, 0), (.iload 6, 2, 6, 0, none, 0), (.iload 8, 2, 8, 0, none, 0)] 138 = true := by decide +kernel
theorem b_X11_goes_141 : dkM m_X11_goes 141 [(.aload_n 0, 1, 0, 0, none, 0), (.iload 4, 2, 4, 0, none, 0), (.iconst 1, 1, 0, 0, none, 1), (.iload 6, 2, 6, 0, none, 0), (.iload 7, 2, 7, 0, none, 0)] 149 = true := by decide +kernel
theorem b_X11_goes_152 : dkM m_X11_goes 152 [(.iinc 6 1, 3, 6, 0, none, 1), (.goto (-75), 3, 80, 0, none, 0)] 158 = true := by decide +kernel
theorem b_X11_goes_158 : dkM m_X11_goes 158 [(.iload 5, 2, 5, 0, none, 0), (.ireturn, 1, 0, 0, none, 0)] 161 = true := by decide +kernel
theorem k_X11_goes_64 : cvB m_X11_goes m_X11_marches 64 150 9 2 972 68 969 971 43 = true := by decide +kernel
theorem k_X11_goes_71 : cvB m_X11_goes m_X11_marches 71 150 9 2 972 68 969 971 43 = true := by decide +kernel
theorem k_X11_goes_95 : cvB m_X11_goes m_X11_strength 95 154 9 3 976 68 973 975 44 = true := by decide +kernel
theorem k_X11_goes_106 : cvB m_X11_goes m_X11_strength 106 154 9 3 976 68 973 975 44 = true := by decide +kernel
theorem k_X11_goes_138 : cvB m_X11_goes m_X11_loses 138 158 9 4 980 68 977 979 45 = true := by decide +kernel
theorem k_X11_goes_149 : cvB m_X11_goes m_X11_loses 149 158 9 4 980 68 977 979 45 = true := by decide +kernel
theorem b_X11_isOrderNow_0 : dkM m_X11_isOrderNow 0 [(.aload_n 0, 1, 0, 0, none, 0)] 1 = true := by decide +kernel
theorem b_X11_isOrderNow_4 : dkM m_X11_isOrderNow 4 [(.aload_n 0, 1, 0, 0, none, 0), (.iconst 0, 1, 0, 0, none, 0), (.iload_n 1, 1, 1, 0, none, 0), (.iload_n 2, 1, 2, 0, none, 0)] 8 = true := by decide +kernel
theorem b_X11_isOrderNow_11 : dkM m_X11_isOrderNow 11 [(.ireturn, 1, 1, 0, none, 0)] 12 = true := by decide +kernel
theorem k_X11_isOrderNow_1 : cvB m_X11_isOrderNow m_X11_layNow 1 162 9 0 948 68 945 947 38 = true := by decide +kernel
theorem k_X11_isOrderNow_8 : cvB m_X11_isOrderNow m_X11_isOrder 8 165 9 3 952 68 949 951 39 = true := by decide +kernel
theorem b_X11_remembers_0 : dkM m_X11_remembers 0 [(.aload_n 0, 1, 0, 0, none, 0), (.getfield 116, 3, 9, 6, none, 0), (.bipush 10, 2, 0, 0, none, 10), (.if_icmp .ne 43, 3, 49, 9, none, 0)] 9 = true := by decide +kernel
theorem b_X11_remembers_9 : dkM m_X11_remembers 9 [(.iconst 0, 1, 0, 0, none, 0), (.istore_n 1, 1, 1, 0, none, 0)] 11 = true := by decide +kernel
theorem b_X11_remembers_11 : dkM m_X11_remembers 11 [(.iload_n 1, 1, 1, 0, none, 0), (.sipush 603, 3, 0, 0, none, 603), (.if_icmp .ge 24, 3, 39, 18, none, 0)] 18 = true := by decide +kernel
theorem b_X11_remembers_18 : dkM m_X11_remembers 18 [(.aload_n 0, 1, 0, 0, none, 0), (.getfield 23, 3, 9, 5, some (some 4), 0), (.iload_n 1, 1, 1, 0, none, 0), (.aload_n 0, 1, 0, 0, none, 0), (.getfield 23, 3, 9, 5, some (some 4), 0), (.iload_n 1, 1, 1, 0, none, 0), (.bipush 67, 2, 0, 0, none, 67), (.iadd, 1, 0, 0, none, 0), (.iaload, 1, 0, 0, none, 0), (.iastore, 1, 0, 0, none, 0), (.iinc 1 1, 3, 1, 0, none, 1), (.goto (-25), 3, 11, 0, none, 0)] 39 = true := by decide +kernel
theorem b_X11_remembers_39 : dkM m_X11_remembers 39 [(.aload_n 0, 1, 0, 0, none, 0), (.dup, 1, 0, 0, none, 0), (.getfield 116, 3, 9, 6, none, 0), (.iconst 1, 1, 0, 0, none, 1), (.isub, 1, 0, 0, none, 0), (.putfield 116, 3, 9, 6, none, 0)] 49 = true := by decide +kernel
theorem b_X11_remembers_49 : dkM m_X11_remembers 49 [(.iconst 0, 1, 0, 0, none, 0), (.istore_n 1, 1, 1, 0, none, 0)] 51 = true := by decide +kernel
theorem b_X11_remembers_51 : dkM m_X11_remembers 51 [(.iload_n 1, 1, 1, 0, none, 0), (.bipush 67, 2, 0, 0, none, 67), (.if_icmp .ge 29, 3, 83, 57, none, 0)] 57 = true := by decide +kernel
theorem b_X11_remembers_57 : dkM m_X11_remembers 57 [(.aload_n 0, 1, 0, 0, none, 0), (.getfield 23, 3, 9, 5, some (some 4), 0), (.bipush 67, 2, 0, 0, none, 67), (.aload_n 0, 1, 0, 0, none, 0), (.getfield 116, 3, 9, 6, none, 0), (.imul, 1, 0, 0, none, 0), (.iload_n 1, 1, 1, 0, none, 0), (.iadd, 1, 0, 0, none, 0), (.aload_n 0, 1, 0, 0, none, 0), (.getfield 20, 3, 9, 4, some (some 3), 0), (.iload_n 1, 1, 1, 0, none, 0), (.iaload, 1, 0, 0, none, 0), (.iastore, 1, 0, 0, none, 0), (.iinc 1 1, 3, 1, 0, none, 1), (.goto (-29), 3, 51, 0, none, 0)] 83 = true := by decide +kernel
theorem b_X11_remembers_83 : dkM m_X11_remembers 83 [(.aload_n 0, 1, 0, 0, none, 0), (.dup, 1, 0, 0, none, 0), (.getfield 116, 3, 9, 6, none, 0), (.iconst 1, 1, 0, 0, none, 1), (.iadd, 1, 0, 0, none, 0), (.putfield 116, 3, 9, 6, none, 0), (.return_, 1, 0, 0, none, 0)] 94 = true := by decide +kernel
theorem b_X11_orders_0 : dkM m_X11_orders 0 [(.iload_n 1, 1, 1, 0, none, 0)] 1 = true := by decide +kernel
theorem b_X11_orders_4 : dkM m_X11_orders 4 [(.ifCond .eq 12, 3, 16, 7, none, 0)] 7 = true := by decide +kernel
theorem b_X11_orders_7 : dkM m_X11_orders 7 [(.aload_n 0, 1, 0, 0, none, 0), (.iload_n 1, 1, 1, 0, none, 0), (.iload_n 2, 1, 2, 0, none, 0)] 10 = true := by decide +kernel
theorem b_X11_orders_13 : dkM m_X11_orders 13 [(.ifCond .ne 5, 3, 18, 16, none, 0)] 16 = true := by decide +kernel
theorem b_X11_orders_16 : dkM m_X11_orders 16 [(.iconst (-1), 1, 0, 0, none, -1), (.ireturn, 1, 0, 0, none, 0)] 18 = true := by decide +kernel
theorem b_X11_orders_18 : dkM m_X11_orders 18 [(.aload_n 0, 1, 0, 0, none, 0)] 19 = true := by decide +kernel
theorem b_X11_orders_22 : dkM m_X11_orders 22 [(.ifCond .eq 6, 3, 28, 25, none, 0)] 25 = true := by decide +kernel
theorem b_X11_orders_25 : dkM m_X11_orders 25 [(.bipush (-2), 2, 0, 0, none, -2), (.ireturn, 1, 0, 0, none, 0)] 28 = true := by decide +kernel
theorem b_X11_orders_28 : dkM m_X11_orders 28 [(.aload_n 0, 1, 0, 0, none, 0)] 29 = true := by decide +kernel
theorem b_X11_orders_32 : dkM m_X11_orders 32 [(.aload_n 0, 1, 0, 0, none, 0), (.getfield 20, 3, 9, 4, some (some 3), 0), (.iconst 1, 1, 0, 0, none, 1), (.iload_n 1, 1, 1, 0, none, 0), (.iadd, 1, 0, 0, none, 0), (.iload_n 2, 1, 2, 0, none, 0), (.iastore, 1, 0, 0, none, 0), (.iconst 1, 1, 0, 0, none, 1), (.ireturn, 1, 0, 0, none, 0)] 43 = true := by decide +kernel
theorem k_X11_orders_1 : csB m_X11_orders m_X11_isDuke 1 168 1 940 68 938 939 = true := by decide +kernel
theorem k_X11_orders_10 : cvB m_X11_orders m_X11_isOrderNow 10 171 9 2 944 68 941 943 37 = true := by decide +kernel
theorem k_X11_orders_19 : cvB m_X11_orders m_X11_isOver 19 174 9 0 956 68 953 955 40 = true := by decide +kernel
theorem k_X11_orders_29 : cvB m_X11_orders m_X11_remembers 29 178 9 0 960 68 957 959 41 = true := by decide +kernel
theorem b_X11_day_0 : dkM m_X11_day 0 [(.aload_n 0, 1, 0, 0, none, 0)] 1 = true := by decide +kernel
theorem b_X11_day_4 : dkM m_X11_day 4 [(.ifCond .eq 6, 3, 10, 7, none, 0)] 7 = true := by decide +kernel
theorem b_X11_day_7 : dkM m_X11_day 7 [(.bipush (-2), 2, 0, 0, none, -2), (.ireturn, 1, 0, 0, none, 0)] 10 = true := by decide +kernel
theorem b_X11_day_10 : dkM m_X11_day 10 [(.aload_n 0, 1, 0, 0, none, 0)] 11 = true := by decide +kernel
theorem b_X11_day_14 : dkM m_X11_day 14 [(.aload_n 0, 1, 0, 0, none, 0)] 15 = true := by decide +kernel
theorem b_X11_day_18 : dkM m_X11_day 18 [(.aload_n 0, 1, 0, 0, none, 0), (.iconst 0, 1, 0, 0, none, 0), (.aload_n 0, 1, 0, 0, none, 0), (.getfield 20, 3, 9, 4, some (some 3), 0), (.iconst 1, 1, 0, 0, none, 1), (.iaload, 1, 0, 0, none, 0), (.aload_n 0, 1, 0, 0, none, 0), (.getfield 20, 3, 9, 4, some (some 3), 0), (.iconst 2, 1, 0, 0, none, 2), (.iaload, 1, 0, 0, none, 0)] 32 = true := by decide +kernel
theorem b_X11_day_35 : dkM m_X11_day 35 [(.istore_n 1, 1, 1, 0, none, 0), (.bipush 40, 2, 0, 0, none, 40), (.iconst 3, 1, 0, 0, none, 3), (.aload_n 0, 1, 0, 0, none, 0), (.getfield 20, 3, 9, 4, some (some 3), 0), (.iconst 0, 1, 0, 0, none, 0), (.iaload, 1, 0, 0, none, 0), (.iconst 1, 1, 0, 0, none, 1), (.isub, 1, 0, 0, none, 0), (.imul, 1, 0, 0, none, 0), (.iadd, 1, 0, 0, none, 0), (.istore_n 2, 1, 2, 0, none, 0), (.iconst 0, 1, 0, 0, none, 0), (.istore_n 3, 1, 3, 0, none, 0)] 52 = true := by decide +kernel
theorem b_X11_day_52 : dkM m_X11_day 52 [(.iload_n 3, 1, 3, 0, none, 0), (.iconst 2, 1, 0, 0, none, 2), (.if_icmp .ge 55, 3, 109, 57, none, 0)] 57 = true := by decide +kernel
theorem b_X11_day_57 : dkM m_X11_day 57 [(.aload_n 0, 1, 0, 0, none, 0), (.getfield 20, 3, 9, 4, some (some 3), 0), (.iload_n 2, 1, 2, 0, none, 0), (.iload_n 3, 1, 3, 0, none, 0), (.iadd, 1, 0, 0, none, 0), (.aload_n 0, 1, 0, 0, none, 0), (.getfield 20, 3, 9, 4, some (some 3), 0), (.iconst 1, 1, 0, 0, none, 1), (.iload_n 3, 1, 3, 0, none, 0), (.iadd, 1, 0, 0, none, 0), (.iaload, 1, 0, 0, none, 0), (.ifCond .ne 8, 3, 80, 75, none, 0)] 75 = true := by decide +kernel
theorem b_X11_day_75 : dkM m_X11_day 75 [(.bipush (-9), 2, 0, 0, none, -9), (.goto 16, 3, 93, 0, none, 0)] 80 = true := by decide +kernel
theorem b_X11_day_80 : dkM m_X11_day 80 [(.aload_n 0, 1, 0, 0, none, 0), (.getfield 20, 3, 9, 4, some (some 3), 0), (.iconst 1, 1, 0, 0, none, 1), (.iload_n 3, 1, 3, 0, none, 0), (.iadd, 1, 0, 0, none, 0), (.iaload, 1, 0, 0, none, 0), (.iconst 1, 1, 0, 0, none, 1), (.isub, 1, 0, 0, none, 0), (.bipush 8, 2, 0, 0, none, 8), (.irem, 1, 0, 0, none, 0)] 93 = true := by decide +kernel
theorem b_X11_day_93 : dkM m_X11_day 93 [(.iastore, 1, 0, 0, none, 0), (.aload_n 0, 1, 0, 0, none, 0), (.getfield 20, 3, 9, 4, some (some 3), 0), (.iconst 1, 1, 0, 0, none, 1), (.iload_n 3, 1, 3, 0, none, 0), (.iadd, 1, 0, 0, none, 0), (.iconst 0, 1, 0, 0, none, 0), (.iastore, 1, 0, 0, none, 0), (.iinc 3 1, 3, 3, 0, none, 1), (.goto (-54), 3, 52, 0, none, 0)] 109 = true := by decide +kernel
theorem b_X11_day_109 : dkM m_X11_day 109 [(.aload_n 0, 1, 0, 0, none, 0), (.getfield 20, 3, 9, 4, some (some 3), 0), (.iload_n 2, 1, 2, 0, none, 0), (.iconst 2, 1, 0, 0, none, 2), (.iadd, 1, 0, 0, none, 0), (.iload_n 1, 1, 1, 0, none, 0), (.iastore, 1, 0, 0, none, 0), (.iconst 0, 1, 0, 0, none, 0), (.istore_n 3, 1, 3, 0, none, 0)] 120 = true := by decide +kernel
theorem b_X11_day_120 : dkM m_X11_day 120 [(.iload_n 3, 1, 3, 0, none, 0), (.aload_n 0, 1, 0, 0, none, 0), (.getfield 55, 3, 9, 2, none, 0), (.if_icmp .ge 44, 3, 169, 128, none, 0)] 128 = true := by decide +kernel
theorem b_X11_day_128 : dkM m_X11_day 128 [(.aload_n 0, 1, 0, 0, none, 0), (.getfield 20, 3, 9, 4, some (some 3), 0), (.iconst 3, 1, 0, 0, none, 3), (.iload_n 3, 1, 3, 0, none, 0), (.iadd, 1, 0, 0, none, 0), (.aload_n 0, 1, 0, 0, none, 0), (.getfield 48, 3, 9, 24, some (some 12), 0), (.bipush 14, 2, 0, 0, none, 14), (.iload_n 3, 1, 3, 0, none, 0), (.iadd, 1, 0, 0, none, 0), (.iaload, 1, 0, 0, none, 0), (.iastore, 1, 0, 0, none, 0), (.aload_n 0, 1, 0, 0, none, 0), (.getfield 20, 3, 9, 4, some (some 3), 0), (.bipush 9, 2, 0, 0, none, 9), (.iload_n 3, 1, 3, 0, none, 0), (.iadd, 1, 0, 0, none, 0), (.aload_n 0, 1, 0, 0, none, 0), (.getfield 48, 3, 9, 24, some (some 12), 0), (.bipush 20, 2, 0, 0, none, 20), (.iload_n 3, 1, 3, 0, none, 0), (.iadd, 1, 0, 0, none, 0), (.iaload, 1, 0, 0, none, 0), (.iastore, 1, 0, 0, none, 0), (.iinc 3 1, 3, 3, 0, none, 1), (.goto (-46), 3, 120, 0, none, 0)] 169 = true := by decide +kernel
theorem b_X11_day_169 : dkM m_X11_day 169 [(.aload_n 0, 1, 0, 0, none, 0), (.getfield 20, 3, 9, 4, some (some 3), 0), (.iconst 0, 1, 0, 0, none, 0), (.dup2, 1, 0, 0, none, 0), (.iaload, 1, 0, 0, none, 0), (.iconst 1, 1, 0, 0, none, 1), (.iadd, 1, 0, 0, none, 0), (.iastore, 1, 0, 0, none, 0), (.iload_n 1, 1, 1, 0, none, 0)] 180 = true := by decide +kernel
theorem b_X11_day_183 : dkM m_X11_day 183 [(.ireturn, 1, 0, 0, none, 0)] 184 = true := by decide +kernel
theorem k_X11_day_1 : cvB m_X11_day m_X11_isOver 1 174 9 0 956 68 953 955 40 = true := by decide +kernel
theorem k_X11_day_11 : cvB m_X11_day m_X11_remembers 11 178 9 0 960 68 957 959 41 = true := by decide +kernel
theorem k_X11_day_15 : cvB m_X11_day m_X11_layNow 15 162 9 0 948 68 945 947 38 = true := by decide +kernel
theorem k_X11_day_32 : cvB m_X11_day m_X11_goes 32 181 9 3 968 68 965 967 42 = true := by decide +kernel
theorem k_X11_day_180 : csB m_X11_day m_X11_bits 180 184 1 983 68 981 982 = true := by decide +kernel
theorem b_X11_writes_0 : dkM m_X11_writes 0 [(.iload_n 1, 1, 1, 0, none, 0), (.iconst 1, 1, 0, 0, none, 1), (.bipush 9, 2, 0, 0, none, 9)] 4 = true := by decide +kernel
theorem b_X11_writes_7 : dkM m_X11_writes 7 [(.ifCond .eq 30, 3, 37, 10, none, 0)] 10 = true := by decide +kernel
theorem b_X11_writes_10 : dkM m_X11_writes 10 [(.iload_n 2, 1, 2, 0, none, 0), (.iconst 0, 1, 0, 0, none, 0), (.iconst 2, 1, 0, 0, none, 2)] 13 = true := by decide +kernel
theorem b_X11_writes_16 : dkM m_X11_writes 16 [(.ifCond .eq 21, 3, 37, 19, none, 0)] 19 = true := by decide +kernel
theorem b_X11_writes_19 : dkM m_X11_writes 19 [(.iload_n 3, 1, 3, 0, none, 0), (.iconst 0, 1, 0, 0, none, 0), (.iconst 2, 1, 0, 0, none, 2)] 22 = true := by decide +kernel
theorem b_X11_writes_25 : dkM m_X11_writes 25 [(.ifCond .eq 12, 3, 37, 28, none, 0)] 28 = true := by decide +kernel
theorem b_X11_writes_28 : dkM m_X11_writes 28 [(.aload_n 0, 1, 0, 0, none, 0), (.iload 4, 2, 4, 0, none, 0)] 31 = true := by decide +kernel
theorem b_X11_writes_34 : dkM m_X11_writes 34 [(.ifCond .ne 5, 3, 39, 37, none, 0)] 37 = true := by decide +kernel
theorem b_X11_writes_37 : dkM m_X11_writes 37 [(.iconst (-1), 1, 0, 0, none, -1), (.ireturn, 1, 0, 0, none, 0)] 39 = true := by decide +kernel
theorem b_X11_writes_39 : dkM m_X11_writes 39 [(.iload_n 1, 1, 1, 0, none, 0), (.aload_n 0, 1, 0, 0, none, 0), (.getfield 20, 3, 9, 4, some (some 3), 0), (.iconst 0, 1, 0, 0, none, 0), (.iaload, 1, 0, 0, none, 0), (.if_icmp .ge 6, 3, 52, 49, none, 0)] 49 = true := by decide +kernel
theorem b_X11_writes_49 : dkM m_X11_writes 49 [(.bipush (-2), 2, 0, 0, none, -2), (.ireturn, 1, 0, 0, none, 0)] 52 = true := by decide +kernel
theorem b_X11_writes_52 : dkM m_X11_writes 52 [(.aload_n 0, 1, 0, 0, none, 0), (.getfield 20, 3, 9, 4, some (some 3), 0), (.bipush 15, 2, 0, 0, none, 15), (.iaload, 1, 0, 0, none, 0), (.bipush 6, 2, 0, 0, none, 6), (.if_icmp .ne 6, 3, 67, 64, none, 0)] 64 = true := by decide +kernel
theorem b_X11_writes_64 : dkM m_X11_writes 64 [(.bipush (-3), 2, 0, 0, none, -3), (.ireturn, 1, 0, 0, none, 0)] 67 = true := by decide +kernel
theorem b_X11_writes_67 : dkM m_X11_writes 67 [(.aload_n 0, 1, 0, 0, none, 0)] 68 = true := by decide +kernel
theorem b_X11_writes_71 : dkM m_X11_writes 71 [(.bipush 16, 2, 0, 0, none, 16), (.iconst 4, 1, 0, 0, none, 4), (.aload_n 0, 1, 0, 0, none, 0), (.getfield 20, 3, 9, 4, some (some 3), 0), (.bipush 15, 2, 0, 0, none, 15), (.iaload, 1, 0, 0, none, 0), (.imul, 1, 0, 0, none, 0), (.iadd, 1, 0, 0, none, 0), (.istore 5, 2, 5, 0, none, 0), (.aload_n 0, 1, 0, 0, none, 0), (.getfield 20, 3, 9, 4, some (some 3), 0), (.iload 5, 2, 5, 0, none, 0), (.iload_n 1, 1, 1, 0, none, 0), (.iastore, 1, 0, 0, none, 0), (.aload_n 0, 1, 0, 0, none, 0), (.getfield 20, 3, 9, 4, some (some 3), 0), (.iload 5, 2, 5, 0, none, 0), (.iconst 1, 1, 0, 0, none, 1), (.iadd, 1, 0, 0, none, 0), (.iload_n 2, 1, 2, 0, none, 0), (.iastore, 1, 0, 0, none, 0), (.aload_n 0, 1, 0, 0, none, 0), (.getfield 20, 3, 9, 4, some (some 3), 0), (.iload 5, 2, 5, 0, none, 0), (.iconst 2, 1, 0, 0, none, 2), (.iadd, 1, 0, 0, none, 0), (.iload_n 3, 1, 3, 0, none, 0), (.iastore, 1, 0, 0, none, 0), (.aload_n 0, 1, 0, 0, none, 0), (.getfield 20, 3, 9, 4, some (some 3), 0), (.iload 5, 2, 5, 0, none, 0), (.iconst 3, 1, 0, 0, none, 3), (.iadd, 1, 0, 0, none, 0), (.iload 4, 2, 4, 0, none, 0), (.iastore, 1, 0, 0, none, 0), (.aload_n 0, 1, 0, 0, none, 0), (.getfield 20, 3, 9, 4, some (some 3), 0), (.bipush 15, 2, 0, 0, none, 15), (.dup2, 1, 0, 0, none, 0), (.iaload, 1, 0, 0, none, 0), (.iconst 1, 1, 0, 0, none, 1), (.iadd, 1, 0, 0, none, 0), (.iastore, 1, 0, 0, none, 0), (.aload_n 0, 1, 0, 0, none, 0), (.getfield 20, 3, 9, 4, some (some 3), 0), (.bipush 15, 2, 0, 0, none, 15), (.iaload, 1, 0, 0, none, 0), (.ireturn, 1, 0, 0, none, 0)] 143 = true := by decide +kernel
theorem k_X11_writes_4 : csB m_X11_writes m_X11_in 4 51 3 833 68 831 832 = true := by decide +kernel
theorem k_X11_writes_13 : csB m_X11_writes m_X11_in 13 51 3 833 68 831 832 = true := by decide +kernel
theorem k_X11_writes_22 : csB m_X11_writes m_X11_in 22 51 3 833 68 831 832 = true := by decide +kernel
theorem k_X11_writes_31 : cvB m_X11_writes m_X11_isField 31 119 9 1 885 68 882 884 29 = true := by decide +kernel
theorem k_X11_writes_68 : cvB m_X11_writes m_X11_remembers 68 178 9 0 960 68 957 959 41 = true := by decide +kernel
theorem b_X11_strikes_0 : dkM m_X11_strikes 0 [(.aload_n 0, 1, 0, 0, none, 0), (.iload_n 1, 1, 1, 0, none, 0)] 2 = true := by decide +kernel
theorem b_X11_strikes_5 : dkM m_X11_strikes 5 [(.ifCond .ne 5, 3, 10, 8, none, 0)] 8 = true := by decide +kernel
theorem b_X11_strikes_8 : dkM m_X11_strikes 8 [(.iconst (-1), 1, 0, 0, none, -1), (.ireturn, 1, 0, 0, none, 0)] 10 = true := by decide +kernel
theorem b_X11_strikes_10 : dkM m_X11_strikes 10 [(.aload_n 0, 1, 0, 0, none, 0)] 11 = true := by decide +kernel
theorem b_X11_strikes_14 : dkM m_X11_strikes 14 [(.aload_n 0, 1, 0, 0, none, 0), (.getfield 20, 3, 9, 4, some (some 3), 0), (.bipush 15, 2, 0, 0, none, 15), (.dup2, 1, 0, 0, none, 0), (.iaload, 1, 0, 0, none, 0), (.iconst 1, 1, 0, 0, none, 1), (.isub, 1, 0, 0, none, 0), (.iastore, 1, 0, 0, none, 0), (.iconst 4, 1, 0, 0, none, 4), (.iload_n 1, 1, 1, 0, none, 0), (.imul, 1, 0, 0, none, 0), (.istore_n 2, 1, 2, 0, none, 0)] 29 = true := by decide +kernel
theorem b_X11_strikes_29 : dkM m_X11_strikes 29 [(.iload_n 2, 1, 2, 0, none, 0), (.iconst 4, 1, 0, 0, none, 4), (.aload_n 0, 1, 0, 0, none, 0), (.getfield 20, 3, 9, 4, some (some 3), 0), (.bipush 15, 2, 0, 0, none, 15), (.iaload, 1, 0, 0, none, 0), (.imul, 1, 0, 0, none, 0), (.if_icmp .ge 29, 3, 68, 42, none, 0)] 42 = true := by decide +kernel
theorem b_X11_strikes_42 : dkM m_X11_strikes 42 [(.aload_n 0, 1, 0, 0, none, 0), (.getfield 20, 3, 9, 4, some (some 3), 0), (.bipush 16, 2, 0, 0, none, 16), (.iload_n 2, 1, 2, 0, none, 0), (.iadd, 1, 0, 0, none, 0), (.aload_n 0, 1, 0, 0, none, 0), (.getfield 20, 3, 9, 4, some (some 3), 0), (.bipush 16, 2, 0, 0, none, 16), (.iload_n 2, 1, 2, 0, none, 0), (.iadd, 1, 0, 0, none, 0), (.iconst 4, 1, 0, 0, none, 4), (.iadd, 1, 0, 0, none, 0), (.iaload, 1, 0, 0, none, 0), (.iastore, 1, 0, 0, none, 0), (.iinc 2 1, 3, 2, 0, none, 1), (.goto (-36), 3, 29, 0, none, 0)] 68 = true := by decide +kernel
theorem b_X11_strikes_68 : dkM m_X11_strikes 68 [(.aload_n 0, 1, 0, 0, none, 0), (.getfield 20, 3, 9, 4, some (some 3), 0), (.bipush 15, 2, 0, 0, none, 15), (.iaload, 1, 0, 0, none, 0), (.ireturn, 1, 0, 0, none, 0)] 76 = true := by decide +kernel
theorem k_X11_strikes_2 : cvB m_X11_strikes m_X11_isPage 2 140 9 1 901 68 898 900 31 = true := by decide +kernel
theorem k_X11_strikes_11 : cvB m_X11_strikes m_X11_remembers 11 178 9 0 960 68 957 959 41 = true := by decide +kernel
theorem b_X11_undo_0 : dkM m_X11_undo 0 [(.aload_n 0, 1, 0, 0, none, 0), (.getfield 116, 3, 9, 6, none, 0), (.ifCond .ne 6, 3, 10, 7, none, 0)] 7 = true := by decide +kernel
theorem b_X11_undo_7 : dkM m_X11_undo 7 [(.bipush (-2), 2, 0, 0, none, -2), (.ireturn, 1, 0, 0, none, 0)] 10 = true := by decide +kernel
theorem b_X11_undo_10 : dkM m_X11_undo 10 [(.aload_n 0, 1, 0, 0, none, 0), (.dup, 1, 0, 0, none, 0), (.getfield 116, 3, 9, 6, none, 0), (.iconst 1, 1, 0, 0, none, 1), (.isub, 1, 0, 0, none, 0), (.putfield 116, 3, 9, 6, none, 0), (.iconst 0, 1, 0, 0, none, 0), (.istore_n 1, 1, 1, 0, none, 0)] 22 = true := by decide +kernel
theorem b_X11_undo_22 : dkM m_X11_undo 22 [(.iload_n 1, 1, 1, 0, none, 0), (.bipush 67, 2, 0, 0, none, 67), (.if_icmp .ge 29, 3, 54, 28, none, 0)] 28 = true := by decide +kernel
theorem b_X11_undo_28 : dkM m_X11_undo 28 [(.aload_n 0, 1, 0, 0, none, 0), (.getfield 20, 3, 9, 4, some (some 3), 0), (.iload_n 1, 1, 1, 0, none, 0), (.aload_n 0, 1, 0, 0, none, 0), (.getfield 23, 3, 9, 5, some (some 4), 0), (.bipush 67, 2, 0, 0, none, 67), (.aload_n 0, 1, 0, 0, none, 0), (.getfield 116, 3, 9, 6, none, 0), (.imul, 1, 0, 0, none, 0), (.iload_n 1, 1, 1, 0, none, 0), (.iadd, 1, 0, 0, none, 0), (.iaload, 1, 0, 0, none, 0), (.iastore, 1, 0, 0, none, 0), (.iinc 1 1, 3, 1, 0, none, 1), (.goto (-29), 3, 22, 0, none, 0)] 54 = true := by decide +kernel
theorem b_X11_undo_54 : dkM m_X11_undo 54 [(.aload_n 0, 1, 0, 0, none, 0), (.getfield 116, 3, 9, 6, none, 0), (.ireturn, 1, 0, 0, none, 0)] 59 = true := by decide +kernel
theorem b_X11_isDutiful_0 : dkM m_X11_isDutiful 0 [(.iconst 1, 1, 0, 0, none, 1), (.istore 4, 2, 4, 0, none, 0), (.iconst 0, 1, 0, 0, none, 0), (.istore 5, 2, 5, 0, none, 0)] 6 = true := by decide +kernel
theorem b_X11_isDutiful_6 : dkM m_X11_isDutiful 6 [(.iload 5, 2, 5, 0, none, 0), (.aload_n 0, 1, 0, 0, none, 0), (.getfield 20, 3, 9, 4, some (some 3), 0), (.bipush 15, 2, 0, 0, none, 15), (.iaload, 1, 0, 0, none, 0), (.if_icmp .ge 149, 3, 164, 18, none, 0)] 18 = true := by decide +kernel
theorem b_X11_isDutiful_18 : dkM m_X11_isDutiful 18 [(.bipush 16, 2, 0, 0, none, 16), (.iconst 4, 1, 0, 0, none, 4), (.iload 5, 2, 5, 0, none, 0), (.imul, 1, 0, 0, none, 0), (.iadd, 1, 0, 0, none, 0), (.istore 6, 2, 6, 0, none, 0), (.aload_n 0, 1, 0, 0, none, 0), (.getfield 20, 3, 9, 4, some (some 3), 0), (.iload 6, 2, 6, 0, none, 0), (.iaload, 1, 0, 0, none, 0), (.aload_n 0, 1, 0, 0, none, 0), (.getfield 48, 3, 9, 24, some (some 12), 0), (.bipush 13, 2, 0, 0, none, 13), (.iload_n 1, 1, 1, 0, none, 0), (.imul, 1, 0, 0, none, 0), (.iaload, 1, 0, 0, none, 0), (.if_icmp .ne 20, 3, 63, 46, none, 0)] 46 = true := by decide +kernel
theorem b_X11_isDutiful_46 : dkM m_X11_isDutiful 46 [(.aload_n 0, 1, 0, 0, none, 0), (.getfield 20, 3, 9, 4, some (some 3), 0), (.iload 6, 2, 6, 0, none, 0), (.iconst 1, 1, 0, 0, none, 1), (.iadd, 1, 0, 0, none, 0), (.iaload, 1, 0, 0, none, 0), (.iload_n 2, 1, 2, 0, none, 0), (.if_icmp .ne 7, 3, 63, 59, none, 0)] 59 = true := by decide +kernel
theorem b_X11_isDutiful_59 : dkM m_X11_isDutiful 59 [(.iconst 1, 1, 0, 0, none, 1), (.goto 4, 3, 64, 0, none, 0)] 63 = true := by decide +kernel
theorem b_X11_isDutiful_63 : dkM m_X11_isDutiful 63 [(.iconst 0, 1, 0, 0, none, 0)] 64 = true := by decide +kernel
theorem b_X11_isDutiful_64 : dkM m_X11_isDutiful 64 [(.istore 7, 2, 7, 0, none, 0), (.iload_n 3, 1, 3, 0, none, 0), (.ifCond .le 25, 3, 92, 70, none, 0)] 70 = true := by decide +kernel
theorem b_X11_isDutiful_70 : dkM m_X11_isDutiful 70 [(.iload_n 3, 1, 3, 0, none, 0), (.iconst 1, 1, 0, 0, none, 1), (.isub, 1, 0, 0, none, 0), (.bipush 8, 2, 0, 0, none, 8), (.irem, 1, 0, 0, none, 0), (.aload_n 0, 1, 0, 0, none, 0), (.getfield 20, 3, 9, 4, some (some 3), 0), (.iload 6, 2, 6, 0, none, 0), (.iconst 3, 1, 0, 0, none, 3), (.iadd, 1, 0, 0, none, 0), (.iaload, 1, 0, 0, none, 0), (.if_icmp .ne 7, 3, 92, 88, none, 0)] 88 = true := by decide +kernel
theorem b_X11_isDutiful_88 : dkM m_X11_isDutiful 88 [(.iconst 1, 1, 0, 0, none, 1), (.goto 4, 3, 93, 0, none, 0)] 92 = true := by decide +kernel
theorem b_X11_isDutiful_92 : dkM m_X11_isDutiful 92 [(.iconst 0, 1, 0, 0, none, 0)] 93 = true := by decide +kernel
theorem b_X11_isDutiful_93 : dkM m_X11_isDutiful 93 [(.istore 8, 2, 8, 0, none, 0), (.aload_n 0, 1, 0, 0, none, 0), (.getfield 20, 3, 9, 4, some (some 3), 0), (.iload 6, 2, 6, 0, none, 0), (.iconst 2, 1, 0, 0, none, 2), (.iadd, 1, 0, 0, none, 0), (.iaload, 1, 0, 0, none, 0), (.ifCond .ne 8, 3, 112, 107, none, 0)] 107 = true := by decide +kernel
theorem b_X11_isDutiful_107 : dkM m_X11_isDutiful 107 [(.iload 8, 2, 8, 0, none, 0), (.ifCond .eq 20, 3, 129, 112, none, 0)] 112 = true := by decide +kernel
theorem b_X11_isDutiful_112 : dkM m_X11_isDutiful 112 [(.aload_n 0, 1, 0, 0, none, 0), (.getfield 20, 3, 9, 4, some (some 3), 0), (.iload 6, 2, 6, 0, none, 0), (.iconst 2, 1, 0, 0, none, 2), (.iadd, 1, 0, 0, none, 0), (.iaload, 1, 0, 0, none, 0), (.iconst 2, 1, 0, 0, none, 2), (.if_icmp .ne 11, 3, 133, 125, none, 0)] 125 = true := by decide +kernel
theorem b_X11_isDutiful_125 : dkM m_X11_isDutiful 125 [(.iload_n 3, 1, 3, 0, none, 0), (.ifCond .le 7, 3, 133, 129, none, 0)] 129 = true := by decide +kernel
theorem b_X11_isDutiful_129 : dkM m_X11_isDutiful 129 [(.iconst 1, 1, 0, 0, none, 1), (.goto 4, 3, 134, 0, none, 0)] 133 = true := by decide +kernel
theorem b_X11_isDutiful_133 : dkM m_X11_isDutiful 133 [(.iconst 0, 1, 0, 0, none, 0)] 134 = true := by decide +kernel
theorem b_X11_isDutiful_134 : dkM m_X11_isDutiful 134 [(.istore 9, 2, 9, 0, none, 0), (.iload 4, 2, 4, 0, none, 0), (.ifCond .eq 17, 3, 155, 141, none, 0)] 141 = true := by decide +kernel
theorem b_X11_isDutiful_141 : dkM m_X11_isDutiful 141 [(.iload 7, 2, 7, 0, none, 0), (.ifCond .eq 8, 3, 151, 146, none, 0)] 146 = true := by decide +kernel
theorem b_X11_isDutiful_146 : dkM m_X11_isDutiful 146 [(.iload 9, 2, 9, 0, none, 0), (.ifCond .ne 7, 3, 155, 151, none, 0)] 151 = true := by decide +kernel
theorem b_X11_isDutiful_151 : dkM m_X11_isDutiful 151 [(.iconst 1, 1, 0, 0, none, 1), (.goto 4, 3, 156, 0, none, 0)] 155 = true := by decide +kernel
theorem b_X11_isDutiful_155 : dkM m_X11_isDutiful 155 [(.iconst 0, 1, 0, 0, none, 0)] 156 = true := by decide +kernel
theorem b_X11_isDutiful_156 : dkM m_X11_isDutiful 156 [(.istore 4, 2, 4, 0, none, 0), (.iinc 5 1, 3, 5, 0, none, 1), (.goto (-155), 3, 6, 0, none, 0)] 164 = true := by decide +kernel
theorem b_X11_isDutiful_164 : dkM m_X11_isDutiful 164 [(.iload 4, 2, 4, 0, none, 0), (.ireturn, 1, 1, 0, none, 0)] 167 = true := by decide +kernel
theorem b_X11_nextOrder_0 : dkM m_X11_nextOrder 0 [(.iload_n 3, 1, 3, 0, none, 0), (.istore 4, 2, 4, 0, none, 0)] 3 = true := by decide +kernel
theorem b_X11_nextOrder_3 : dkM m_X11_nextOrder 3 [(.iload 4, 2, 4, 0, none, 0), (.bipush 48, 2, 0, 0, none, 48), (.if_icmp .gt 34, 3, 41, 10, none, 0)] 10 = true := by decide +kernel
theorem b_X11_nextOrder_10 : dkM m_X11_nextOrder 10 [(.aload_n 0, 1, 0, 0, none, 0), (.iload_n 1, 1, 1, 0, none, 0), (.iload_n 2, 1, 2, 0, none, 0), (.iload 4, 2, 4, 0, none, 0)] 15 = true := by decide +kernel
theorem b_X11_nextOrder_18 : dkM m_X11_nextOrder 18 [(.ifCond .eq 17, 3, 35, 21, none, 0)] 21 = true := by decide +kernel
theorem b_X11_nextOrder_21 : dkM m_X11_nextOrder 21 [(.aload_n 0, 1, 0, 0, none, 0), (.iload_n 1, 1, 1, 0, none, 0), (.iload_n 2, 1, 2, 0, none, 0), (.iload 4, 2, 4, 0, none, 0)] 26 = true := by decide +kernel
theorem b_X11_nextOrder_29 : dkM m_X11_nextOrder 29 [(.ifCond .eq 6, 3, 35, 32, none, 0)] 32 = true := by decide +kernel
theorem b_X11_nextOrder_32 : dkM m_X11_nextOrder 32 [(.iload 4, 2, 4, 0, none, 0), (.ireturn, 1, 0, 0, none, 0)] 35 = true := by decide +kernel
theorem b_X11_nextOrder_35 : dkM m_X11_nextOrder 35 [(.iinc 4 1, 3, 4, 0, none, 1), (.goto (-35), 3, 3, 0, none, 0)] 41 = true := by decide +kernel
theorem b_X11_nextOrder_41 : dkM m_X11_nextOrder 41 [(.iconst (-1), 1, 0, 0, none, -1), (.ireturn, 1, 0, 0, none, 0)] 43 = true := by decide +kernel
theorem k_X11_nextOrder_15 : cvB m_X11_nextOrder m_X11_isOrder 15 165 9 3 952 68 949 951 39 = true := by decide +kernel
theorem k_X11_nextOrder_26 : cvB m_X11_nextOrder m_X11_isDutiful 26 187 9 3 1007 68 1004 1006 47 = true := by decide +kernel
theorem b_X11_firstOrder_0 : dkM m_X11_firstOrder 0 [(.aload_n 0, 1, 0, 0, none, 0), (.iload_n 1, 1, 1, 0, none, 0), (.iload_n 2, 1, 2, 0, none, 0), (.iconst 0, 1, 0, 0, none, 0)] 4 = true := by decide +kernel
theorem b_X11_firstOrder_7 : dkM m_X11_firstOrder 7 [(.istore_n 3, 1, 3, 0, none, 0), (.iload_n 3, 1, 3, 0, none, 0), (.ifCond .ge 7, 3, 16, 12, none, 0)] 12 = true := by decide +kernel
theorem b_X11_firstOrder_12 : dkM m_X11_firstOrder 12 [(.iconst 0, 1, 0, 0, none, 0), (.goto 4, 3, 17, 0, none, 0)] 16 = true := by decide +kernel
theorem b_X11_firstOrder_16 : dkM m_X11_firstOrder 16 [(.iload_n 3, 1, 3, 0, none, 0)] 17 = true := by decide +kernel
theorem b_X11_firstOrder_17 : dkM m_X11_firstOrder 17 [(.ireturn, 1, 0, 0, none, 0)] 18 = true := by decide +kernel
theorem k_X11_firstOrder_4 : cvB m_X11_firstOrder m_X11_nextOrder 4 190 9 3 1003 68 1000 1002 46 = true := by decide +kernel
theorem b_X11_dutiful_0 : dkM m_X11_dutiful 0 [(.iload_n 1, 1, 1, 0, none, 0)] 1 = true := by decide +kernel
theorem b_X11_dutiful_4 : dkM m_X11_dutiful 4 [(.ifCond .eq 8, 3, 12, 7, none, 0)] 7 = true := by decide +kernel
theorem b_X11_dutiful_7 : dkM m_X11_dutiful 7 [(.iload_n 2, 1, 2, 0, none, 0), (.iconst (-1), 1, 0, 0, none, -1), (.if_icmp .ge 5, 3, 14, 12, none, 0)] 12 = true := by decide +kernel
theorem b_X11_dutiful_12 : dkM m_X11_dutiful 12 [(.iconst (-1), 1, 0, 0, none, -1), (.ireturn, 1, 0, 0, none, 0)] 14 = true := by decide +kernel
theorem b_X11_dutiful_14 : dkM m_X11_dutiful 14 [(.aload_n 0, 1, 0, 0, none, 0)] 15 = true := by decide +kernel
theorem b_X11_dutiful_18 : dkM m_X11_dutiful 18 [(.ifCond .eq 6, 3, 24, 21, none, 0)] 21 = true := by decide +kernel
theorem b_X11_dutiful_21 : dkM m_X11_dutiful 21 [(.bipush (-2), 2, 0, 0, none, -2), (.ireturn, 1, 0, 0, none, 0)] 24 = true := by decide +kernel
theorem b_X11_dutiful_24 : dkM m_X11_dutiful 24 [(.aload_n 0, 1, 0, 0, none, 0)] 25 = true := by decide +kernel
theorem b_X11_dutiful_28 : dkM m_X11_dutiful 28 [(.iconst 0, 1, 0, 0, none, 0), (.istore_n 3, 1, 3, 0, none, 0), (.aload_n 0, 1, 0, 0, none, 0), (.iconst 0, 1, 0, 0, none, 0), (.iload_n 1, 1, 1, 0, none, 0), (.iconst 0, 1, 0, 0, none, 0)] 34 = true := by decide +kernel
theorem b_X11_dutiful_37 : dkM m_X11_dutiful 37 [(.istore 4, 2, 4, 0, none, 0)] 39 = true := by decide +kernel
theorem b_X11_dutiful_39 : dkM m_X11_dutiful 39 [(.iload 4, 2, 4, 0, none, 0), (.ifCond .lt 26, 3, 67, 44, none, 0)] 44 = true := by decide +kernel
theorem b_X11_dutiful_44 : dkM m_X11_dutiful 44 [(.iload_n 3, 1, 3, 0, none, 0), (.iload_n 2, 1, 2, 0, none, 0), (.if_icmp .eq 21, 3, 67, 49, none, 0)] 49 = true := by decide +kernel
theorem b_X11_dutiful_49 : dkM m_X11_dutiful 49 [(.iinc 3 1, 3, 3, 0, none, 1), (.aload_n 0, 1, 0, 0, none, 0), (.iconst 0, 1, 0, 0, none, 0), (.iload_n 1, 1, 1, 0, none, 0), (.iload 4, 2, 4, 0, none, 0), (.iconst 1, 1, 0, 0, none, 1), (.iadd, 1, 0, 0, none, 0)] 59 = true := by decide +kernel
theorem b_X11_dutiful_62 : dkM m_X11_dutiful 62 [(.istore 4, 2, 4, 0, none, 0), (.goto (-25), 3, 39, 0, none, 0)] 67 = true := by decide +kernel
theorem b_X11_dutiful_67 : dkM m_X11_dutiful 67 [(.iload_n 2, 1, 2, 0, none, 0), (.ifCond .ge 7, 3, 75, 71, none, 0)] 71 = true := by decide +kernel
theorem b_X11_dutiful_71 : dkM m_X11_dutiful 71 [(.iload_n 3, 1, 3, 0, none, 0), (.goto 15, 3, 87, 0, none, 0)] 75 = true := by decide +kernel
theorem b_X11_dutiful_75 : dkM m_X11_dutiful 75 [(.iload 4, 2, 4, 0, none, 0), (.ifCond .ge 8, 3, 85, 80, none, 0)] 80 = true := by decide +kernel
theorem b_X11_dutiful_80 : dkM m_X11_dutiful 80 [(.bipush (-5), 2, 0, 0, none, -5), (.goto 5, 3, 87, 0, none, 0)] 85 = true := by decide +kernel
theorem b_X11_dutiful_85 : dkM m_X11_dutiful 85 [(.iload 4, 2, 4, 0, none, 0)] 87 = true := by decide +kernel
theorem b_X11_dutiful_87 : dkM m_X11_dutiful 87 [(.ireturn, 1, 0, 0, none, 0)] 88 = true := by decide +kernel
theorem k_X11_dutiful_1 : csB m_X11_dutiful m_X11_isDuke 1 168 1 940 68 938 939 = true := by decide +kernel
theorem k_X11_dutiful_15 : cvB m_X11_dutiful m_X11_isOver 15 174 9 0 956 68 953 955 40 = true := by decide +kernel
theorem k_X11_dutiful_25 : cvB m_X11_dutiful m_X11_layNow 25 162 9 0 948 68 945 947 38 = true := by decide +kernel
theorem k_X11_dutiful_34 : cvB m_X11_dutiful m_X11_nextOrder 34 190 9 3 1003 68 1000 1002 46 = true := by decide +kernel
theorem k_X11_dutiful_59 : cvB m_X11_dutiful m_X11_nextOrder 59 190 9 3 1003 68 1000 1002 46 = true := by decide +kernel
theorem b_X11_more_0 : dkM m_X11_more 0 [(.iconst 0, 1, 0, 0, none, 0), (.istore_n 3, 1, 3, 0, none, 0), (.iconst 0, 1, 0, 0, none, 0), (.istore 4, 2, 4, 0, none, 0)] 5 = true := by decide +kernel
theorem b_X11_more_5 : dkM m_X11_more 5 [(.iload 4, 2, 4, 0, none, 0), (.aload_n 0, 1, 0, 0, none, 0), (.getfield 55, 3, 9, 2, none, 0), (.if_icmp .ge 57, 3, 68, 14, none, 0)] 14 = true := by decide +kernel
theorem b_X11_more_14 : dkM m_X11_more 14 [(.iload_n 3, 1, 3, 0, none, 0), (.aload_n 0, 1, 0, 0, none, 0), (.getfield 17, 3, 9, 3, some (some 2), 0), (.iload 4, 2, 4, 0, none, 0), (.iaload, 1, 0, 0, none, 0), (.iload_n 2, 1, 2, 0, none, 0), (.if_icmp .ne 21, 3, 44, 26, none, 0)] 26 = true := by decide +kernel
theorem b_X11_more_26 : dkM m_X11_more 26 [(.aload_n 0, 1, 0, 0, none, 0), (.getfield 48, 3, 9, 24, some (some 12), 0), (.bipush 13, 2, 0, 0, none, 13), (.iload_n 1, 1, 1, 0, none, 0), (.imul, 1, 0, 0, none, 0), (.bipush 7, 2, 0, 0, none, 7), (.iadd, 1, 0, 0, none, 0), (.iload 4, 2, 4, 0, none, 0), (.iadd, 1, 0, 0, none, 0), (.iaload, 1, 0, 0, none, 0), (.goto 19, 3, 60, 0, none, 0)] 44 = true := by decide +kernel
theorem b_X11_more_44 : dkM m_X11_more 44 [(.aload_n 0, 1, 0, 0, none, 0), (.getfield 48, 3, 9, 24, some (some 12), 0), (.bipush 13, 2, 0, 0, none, 13), (.iload_n 1, 1, 1, 0, none, 0), (.imul, 1, 0, 0, none, 0), (.bipush 7, 2, 0, 0, none, 7), (.iadd, 1, 0, 0, none, 0), (.iload 4, 2, 4, 0, none, 0), (.iadd, 1, 0, 0, none, 0), (.iaload, 1, 0, 0, none, 0), (.ineg, 1, 0, 0, none, 0)] 60 = true := by decide +kernel
theorem b_X11_more_60 : dkM m_X11_more 60 [(.iadd, 1, 0, 0, none, 0), (.istore_n 3, 1, 3, 0, none, 0), (.iinc 4 1, 3, 4, 0, none, 1), (.goto (-60), 3, 5, 0, none, 0)] 68 = true := by decide +kernel
theorem b_X11_more_68 : dkM m_X11_more 68 [(.iload_n 3, 1, 3, 0, none, 0), (.ireturn, 1, 0, 0, none, 0)] 70 = true := by decide +kernel
theorem b_X11_dayOf_0 : dkM m_X11_dayOf 0 [(.aload_n 0, 1, 0, 0, none, 0), (.iload_n 1, 1, 1, 0, none, 0), (.iload_n 2, 1, 2, 0, none, 0), (.ifCond .ne 7, 3, 10, 6, none, 0)] 6 = true := by decide +kernel
theorem b_X11_dayOf_6 : dkM m_X11_dayOf 6 [(.iload_n 3, 1, 3, 0, none, 0), (.goto 5, 3, 12, 0, none, 0)] 10 = true := by decide +kernel
theorem b_X11_dayOf_10 : dkM m_X11_dayOf 10 [(.iload 4, 2, 4, 0, none, 0)] 12 = true := by decide +kernel
theorem b_X11_dayOf_12 : dkM m_X11_dayOf 12 [(.iload_n 2, 1, 2, 0, none, 0), (.ifCond .ne 8, 3, 21, 16, none, 0)] 16 = true := by decide +kernel
theorem b_X11_dayOf_16 : dkM m_X11_dayOf 16 [(.iload 4, 2, 4, 0, none, 0), (.goto 4, 3, 22, 0, none, 0)] 21 = true := by decide +kernel
theorem b_X11_dayOf_21 : dkM m_X11_dayOf 21 [(.iload_n 3, 1, 3, 0, none, 0)] 22 = true := by decide +kernel
theorem b_X11_dayOf_25 : dkM m_X11_dayOf 25 [(.ireturn, 1, 0, 0, none, 0)] 26 = true := by decide +kernel
theorem k_X11_dayOf_22 : cvB m_X11_dayOf m_X11_goes 22 181 9 3 968 68 965 967 42 = true := by decide +kernel
theorem b_X11_sureOne_0 : dkM m_X11_sureOne 0 [(.aload_n 0, 1, 0, 0, none, 0), (.getfield 48, 3, 9, 24, some (some 12), 0), (.bipush 13, 2, 0, 0, none, 13), (.iload_n 1, 1, 1, 0, none, 0), (.imul, 1, 0, 0, none, 0), (.iaload, 1, 0, 0, none, 0), (.bipush 9, 2, 0, 0, none, 9), (.if_icmp .le 10, 3, 21, 14, none, 0)] 14 = true := by decide +kernel
theorem b_X11_sureOne_14 : dkM m_X11_sureOne 14 [(.aload_n 0, 1, 0, 0, none, 0), (.iload_n 1, 1, 1, 0, none, 0), (.iload_n 2, 1, 2, 0, none, 0)] 17 = true := by decide +kernel
theorem b_X11_sureOne_20 : dkM m_X11_sureOne 20 [(.ireturn, 1, 0, 0, none, 0)] 21 = true := by decide +kernel
theorem b_X11_sureOne_21 : dkM m_X11_sureOne 21 [(.ldc 149, 2, 0, 0, none, -1000000), (.istore_n 3, 1, 3, 0, none, 0), (.aload_n 0, 1, 0, 0, none, 0), (.iload_n 1, 1, 1, 0, none, 0), (.iload_n 2, 1, 2, 0, none, 0)] 27 = true := by decide +kernel
theorem b_X11_sureOne_30 : dkM m_X11_sureOne 30 [(.istore 4, 2, 4, 0, none, 0)] 32 = true := by decide +kernel
theorem b_X11_sureOne_32 : dkM m_X11_sureOne 32 [(.iload 4, 2, 4, 0, none, 0), (.ifCond .lt 123, 3, 157, 37, none, 0)] 37 = true := by decide +kernel
theorem b_X11_sureOne_37 : dkM m_X11_sureOne 37 [(.ldc 200, 2, 0, 0, none, 1000000), (.istore 5, 2, 5, 0, none, 0), (.aload_n 0, 1, 0, 0, none, 0), (.iload_n 1, 1, 1, 0, none, 0), (.iconst 1, 1, 0, 0, none, 1), (.iload_n 2, 1, 2, 0, none, 0), (.isub, 1, 0, 0, none, 0)] 46 = true := by decide +kernel
theorem b_X11_sureOne_49 : dkM m_X11_sureOne 49 [(.istore 6, 2, 6, 0, none, 0)] 51 = true := by decide +kernel
theorem b_X11_sureOne_51 : dkM m_X11_sureOne 51 [(.iload 6, 2, 6, 0, none, 0), (.ifCond .lt 57, 3, 110, 56, none, 0)] 56 = true := by decide +kernel
theorem b_X11_sureOne_56 : dkM m_X11_sureOne 56 [(.aload_n 0, 1, 0, 0, none, 0), (.iload_n 1, 1, 1, 0, none, 0), (.iload_n 2, 1, 2, 0, none, 0), (.iload 4, 2, 4, 0, none, 0), (.iload 6, 2, 6, 0, none, 0)] 63 = true := by decide +kernel
theorem b_X11_sureOne_66 : dkM m_X11_sureOne 66 [(.pop, 1, 0, 0, none, 0), (.aload_n 0, 1, 0, 0, none, 0), (.iload_n 1, 1, 1, 0, none, 0), (.iconst 1, 1, 0, 0, none, 1), (.iadd, 1, 0, 0, none, 0), (.iload_n 2, 1, 2, 0, none, 0)] 72 = true := by decide +kernel
theorem b_X11_sureOne_75 : dkM m_X11_sureOne 75 [(.istore 7, 2, 7, 0, none, 0), (.iload 7, 2, 7, 0, none, 0), (.iload 5, 2, 5, 0, none, 0), (.if_icmp .ge 8, 3, 89, 84, none, 0)] 84 = true := by decide +kernel
theorem b_X11_sureOne_84 : dkM m_X11_sureOne 84 [(.iload 7, 2, 7, 0, none, 0), (.goto 5, 3, 91, 0, none, 0)] 89 = true := by decide +kernel
theorem b_X11_sureOne_89 : dkM m_X11_sureOne 89 [(.iload 5, 2, 5, 0, none, 0)] 91 = true := by decide +kernel
theorem b_X11_sureOne_91 : dkM m_X11_sureOne 91 [(.istore 5, 2, 5, 0, none, 0), (.aload_n 0, 1, 0, 0, none, 0), (.iload_n 1, 1, 1, 0, none, 0), (.iconst 1, 1, 0, 0, none, 1), (.iload_n 2, 1, 2, 0, none, 0), (.isub, 1, 0, 0, none, 0), (.iload 6, 2, 6, 0, none, 0), (.iconst 1, 1, 0, 0, none, 1), (.iadd, 1, 0, 0, none, 0)] 102 = true := by decide +kernel
theorem b_X11_sureOne_105 : dkM m_X11_sureOne 105 [(.istore 6, 2, 6, 0, none, 0), (.goto (-56), 3, 51, 0, none, 0)] 110 = true := by decide +kernel
theorem b_X11_sureOne_110 : dkM m_X11_sureOne 110 [(.aload_n 0, 1, 0, 0, none, 0), (.iload 5, 2, 5, 0, none, 0), (.iload_n 3, 1, 3, 0, none, 0), (.if_icmp .le 8, 3, 122, 117, none, 0)] 117 = true := by decide +kernel
theorem b_X11_sureOne_117 : dkM m_X11_sureOne 117 [(.iload 4, 2, 4, 0, none, 0), (.goto 7, 3, 126, 0, none, 0)] 122 = true := by decide +kernel
theorem b_X11_sureOne_122 : dkM m_X11_sureOne 122 [(.aload_n 0, 1, 0, 0, none, 0), (.getfield 205, 3, 9, 25, none, 0)] 126 = true := by decide +kernel
theorem b_X11_sureOne_126 : dkM m_X11_sureOne 126 [(.putfield 205, 3, 9, 25, none, 0), (.iload 5, 2, 5, 0, none, 0), (.iload_n 3, 1, 3, 0, none, 0), (.if_icmp .le 8, 3, 140, 135, none, 0)] 135 = true := by decide +kernel
theorem b_X11_sureOne_135 : dkM m_X11_sureOne 135 [(.iload 5, 2, 5, 0, none, 0), (.goto 4, 3, 141, 0, none, 0)] 140 = true := by decide +kernel
theorem b_X11_sureOne_140 : dkM m_X11_sureOne 140 [(.iload_n 3, 1, 3, 0, none, 0)] 141 = true := by decide +kernel
theorem b_X11_sureOne_141 : dkM m_X11_sureOne 141 [(.istore_n 3, 1, 3, 0, none, 0), (.aload_n 0, 1, 0, 0, none, 0), (.iload_n 1, 1, 1, 0, none, 0), (.iload_n 2, 1, 2, 0, none, 0), (.iload 4, 2, 4, 0, none, 0), (.iconst 1, 1, 0, 0, none, 1), (.iadd, 1, 0, 0, none, 0)] 149 = true := by decide +kernel
theorem b_X11_sureOne_152 : dkM m_X11_sureOne 152 [(.istore 4, 2, 4, 0, none, 0), (.goto (-122), 3, 32, 0, none, 0)] 157 = true := by decide +kernel
theorem b_X11_sureOne_157 : dkM m_X11_sureOne 157 [(.iload_n 3, 1, 3, 0, none, 0), (.ireturn, 1, 0, 0, none, 0)] 159 = true := by decide +kernel
theorem k_X11_sureOne_17 : cvB m_X11_sureOne m_X11_more 17 193 9 2 1015 68 1012 1014 48 = true := by decide +kernel
theorem k_X11_sureOne_27 : cvB m_X11_sureOne m_X11_firstOrder 27 197 9 2 1023 68 1020 1022 50 = true := by decide +kernel
theorem k_X11_sureOne_46 : cvB m_X11_sureOne m_X11_firstOrder 46 197 9 2 1023 68 1020 1022 50 = true := by decide +kernel
theorem k_X11_sureOne_63 : cvB m_X11_sureOne m_X11_dayOf 63 201 9 4 1028 68 1025 1027 51 = true := by decide +kernel
theorem k_X11_sureOne_72 : cvB m_X11_sureOne m_X11_more 72 193 9 2 1015 68 1012 1014 48 = true := by decide +kernel
theorem k_X11_sureOne_102 : cvB m_X11_sureOne m_X11_nextOrder 102 190 9 3 1003 68 1000 1002 46 = true := by decide +kernel
theorem k_X11_sureOne_149 : cvB m_X11_sureOne m_X11_nextOrder 149 190 9 3 1003 68 1000 1002 46 = true := by decide +kernel
theorem b_X11_sureTwo_0 : dkM m_X11_sureTwo 0 [(.ldc 149, 2, 0, 0, none, -1000000), (.istore_n 2, 1, 2, 0, none, 0), (.bipush (-9), 2, 0, 0, none, -9), (.istore_n 3, 1, 3, 0, none, 0), (.aload_n 0, 1, 0, 0, none, 0), (.iconst 0, 1, 0, 0, none, 0), (.iload_n 1, 1, 1, 0, none, 0)] 9 = true := by decide +kernel
theorem b_X11_sureTwo_12 : dkM m_X11_sureTwo 12 [(.istore 4, 2, 4, 0, none, 0)] 14 = true := by decide +kernel
theorem b_X11_sureTwo_14 : dkM m_X11_sureTwo 14 [(.iload 4, 2, 4, 0, none, 0), (.ifCond .lt 115, 3, 131, 19, none, 0)] 19 = true := by decide +kernel
theorem b_X11_sureTwo_19 : dkM m_X11_sureTwo 19 [(.ldc 200, 2, 0, 0, none, 1000000), (.istore 5, 2, 5, 0, none, 0), (.aload_n 0, 1, 0, 0, none, 0), (.iconst 0, 1, 0, 0, none, 0), (.iconst 1, 1, 0, 0, none, 1), (.iload_n 1, 1, 1, 0, none, 0), (.isub, 1, 0, 0, none, 0)] 28 = true := by decide +kernel
theorem b_X11_sureTwo_31 : dkM m_X11_sureTwo 31 [(.istore 6, 2, 6, 0, none, 0)] 33 = true := by decide +kernel
theorem b_X11_sureTwo_33 : dkM m_X11_sureTwo 33 [(.iload 6, 2, 6, 0, none, 0), (.ifCond .lt 55, 3, 90, 38, none, 0)] 38 = true := by decide +kernel
theorem b_X11_sureTwo_38 : dkM m_X11_sureTwo 38 [(.aload_n 0, 1, 0, 0, none, 0), (.iconst 0, 1, 0, 0, none, 0), (.iload_n 1, 1, 1, 0, none, 0), (.iload 4, 2, 4, 0, none, 0), (.iload 6, 2, 6, 0, none, 0)] 45 = true := by decide +kernel
theorem b_X11_sureTwo_48 : dkM m_X11_sureTwo 48 [(.pop, 1, 0, 0, none, 0), (.aload_n 0, 1, 0, 0, none, 0), (.iconst 1, 1, 0, 0, none, 1), (.iload_n 1, 1, 1, 0, none, 0)] 52 = true := by decide +kernel
theorem b_X11_sureTwo_55 : dkM m_X11_sureTwo 55 [(.istore 7, 2, 7, 0, none, 0), (.iload 7, 2, 7, 0, none, 0), (.iload 5, 2, 5, 0, none, 0), (.if_icmp .ge 8, 3, 69, 64, none, 0)] 64 = true := by decide +kernel
theorem b_X11_sureTwo_64 : dkM m_X11_sureTwo 64 [(.iload 7, 2, 7, 0, none, 0), (.goto 5, 3, 71, 0, none, 0)] 69 = true := by decide +kernel
theorem b_X11_sureTwo_69 : dkM m_X11_sureTwo 69 [(.iload 5, 2, 5, 0, none, 0)] 71 = true := by decide +kernel
theorem b_X11_sureTwo_71 : dkM m_X11_sureTwo 71 [(.istore 5, 2, 5, 0, none, 0), (.aload_n 0, 1, 0, 0, none, 0), (.iconst 0, 1, 0, 0, none, 0), (.iconst 1, 1, 0, 0, none, 1), (.iload_n 1, 1, 1, 0, none, 0), (.isub, 1, 0, 0, none, 0), (.iload 6, 2, 6, 0, none, 0), (.iconst 1, 1, 0, 0, none, 1), (.iadd, 1, 0, 0, none, 0)] 82 = true := by decide +kernel
theorem b_X11_sureTwo_85 : dkM m_X11_sureTwo 85 [(.istore 6, 2, 6, 0, none, 0), (.goto (-54), 3, 33, 0, none, 0)] 90 = true := by decide +kernel
theorem b_X11_sureTwo_90 : dkM m_X11_sureTwo 90 [(.iload 5, 2, 5, 0, none, 0), (.iload_n 2, 1, 2, 0, none, 0), (.if_icmp .le 8, 3, 101, 96, none, 0)] 96 = true := by decide +kernel
theorem b_X11_sureTwo_96 : dkM m_X11_sureTwo 96 [(.iload 4, 2, 4, 0, none, 0), (.goto 4, 3, 102, 0, none, 0)] 101 = true := by decide +kernel
theorem b_X11_sureTwo_101 : dkM m_X11_sureTwo 101 [(.iload_n 3, 1, 3, 0, none, 0)] 102 = true := by decide +kernel
theorem b_X11_sureTwo_102 : dkM m_X11_sureTwo 102 [(.istore_n 3, 1, 3, 0, none, 0), (.iload 5, 2, 5, 0, none, 0), (.iload_n 2, 1, 2, 0, none, 0), (.if_icmp .le 8, 3, 114, 109, none, 0)] 109 = true := by decide +kernel
theorem b_X11_sureTwo_109 : dkM m_X11_sureTwo 109 [(.iload 5, 2, 5, 0, none, 0), (.goto 4, 3, 115, 0, none, 0)] 114 = true := by decide +kernel
theorem b_X11_sureTwo_114 : dkM m_X11_sureTwo 114 [(.iload_n 2, 1, 2, 0, none, 0)] 115 = true := by decide +kernel
theorem b_X11_sureTwo_115 : dkM m_X11_sureTwo 115 [(.istore_n 2, 1, 2, 0, none, 0), (.aload_n 0, 1, 0, 0, none, 0), (.iconst 0, 1, 0, 0, none, 0), (.iload_n 1, 1, 1, 0, none, 0), (.iload 4, 2, 4, 0, none, 0), (.iconst 1, 1, 0, 0, none, 1), (.iadd, 1, 0, 0, none, 0)] 123 = true := by decide +kernel
theorem b_X11_sureTwo_126 : dkM m_X11_sureTwo 126 [(.istore 4, 2, 4, 0, none, 0), (.goto (-114), 3, 14, 0, none, 0)] 131 = true := by decide +kernel
theorem b_X11_sureTwo_131 : dkM m_X11_sureTwo 131 [(.aload_n 0, 1, 0, 0, none, 0), (.iload_n 3, 1, 3, 0, none, 0), (.putfield 205, 3, 9, 25, none, 0), (.iload_n 2, 1, 2, 0, none, 0), (.ireturn, 1, 0, 0, none, 0)] 138 = true := by decide +kernel
theorem k_X11_sureTwo_9 : cvB m_X11_sureTwo m_X11_firstOrder 9 197 9 2 1023 68 1020 1022 50 = true := by decide +kernel
theorem k_X11_sureTwo_28 : cvB m_X11_sureTwo m_X11_firstOrder 28 197 9 2 1023 68 1020 1022 50 = true := by decide +kernel
theorem k_X11_sureTwo_45 : cvB m_X11_sureTwo m_X11_dayOf 45 201 9 4 1028 68 1025 1027 51 = true := by decide +kernel
theorem k_X11_sureTwo_52 : cvB m_X11_sureTwo m_X11_sureOne 52 208 9 2 1019 68 1016 1018 49 = true := by decide +kernel
theorem k_X11_sureTwo_82 : cvB m_X11_sureTwo m_X11_nextOrder 82 190 9 3 1003 68 1000 1002 46 = true := by decide +kernel
theorem k_X11_sureTwo_123 : cvB m_X11_sureTwo m_X11_nextOrder 123 190 9 3 1003 68 1000 1002 46 = true := by decide +kernel
theorem b_X11_best_0 : dkM m_X11_best 0 [(.iload_n 1, 1, 1, 0, none, 0)] 1 = true := by decide +kernel
theorem b_X11_best_4 : dkM m_X11_best 4 [(.ifCond .eq 21, 3, 25, 7, none, 0)] 7 = true := by decide +kernel
theorem b_X11_best_7 : dkM m_X11_best 7 [(.iload_n 2, 1, 2, 0, none, 0), (.iconst 0, 1, 0, 0, none, 0), (.iconst 2, 1, 0, 0, none, 2)] 10 = true := by decide +kernel
theorem b_X11_best_13 : dkM m_X11_best 13 [(.ifCond .eq 12, 3, 25, 16, none, 0)] 16 = true := by decide +kernel
theorem b_X11_best_16 : dkM m_X11_best 16 [(.iload_n 3, 1, 3, 0, none, 0), (.iconst 0, 1, 0, 0, none, 0), (.iconst 1, 1, 0, 0, none, 1)] 19 = true := by decide +kernel
theorem b_X11_best_22 : dkM m_X11_best 22 [(.ifCond .ne 6, 3, 28, 25, none, 0)] 25 = true := by decide +kernel
theorem b_X11_best_25 : dkM m_X11_best 25 [(.ldc 149, 2, 0, 0, none, -1000000), (.ireturn, 1, 0, 0, none, 0)] 28 = true := by decide +kernel
theorem b_X11_best_28 : dkM m_X11_best 28 [(.aload_n 0, 1, 0, 0, none, 0)] 29 = true := by decide +kernel
theorem b_X11_best_32 : dkM m_X11_best 32 [(.aload_n 0, 1, 0, 0, none, 0), (.iconst (-1), 1, 0, 0, none, -1), (.putfield 205, 3, 9, 25, none, 0), (.iload_n 2, 1, 2, 0, none, 0), (.ifCond .eq 10, 3, 48, 41, none, 0)] 41 = true := by decide +kernel
theorem b_X11_best_41 : dkM m_X11_best 41 [(.aload_n 0, 1, 0, 0, none, 0)] 42 = true := by decide +kernel
theorem b_X11_best_45 : dkM m_X11_best 45 [(.ifCond .eq 12, 3, 57, 48, none, 0)] 48 = true := by decide +kernel
theorem b_X11_best_48 : dkM m_X11_best 48 [(.aload_n 0, 1, 0, 0, none, 0), (.iconst 0, 1, 0, 0, none, 0), (.iload_n 1, 1, 1, 0, none, 0)] 51 = true := by decide +kernel
theorem b_X11_best_54 : dkM m_X11_best 54 [(.goto 22, 3, 76, 0, none, 0)] 57 = true := by decide +kernel
theorem b_X11_best_57 : dkM m_X11_best 57 [(.iload_n 2, 1, 2, 0, none, 0), (.iconst 1, 1, 0, 0, none, 1), (.if_icmp .ne 12, 3, 71, 62, none, 0)] 62 = true := by decide +kernel
theorem b_X11_best_62 : dkM m_X11_best 62 [(.aload_n 0, 1, 0, 0, none, 0), (.iconst 0, 1, 0, 0, none, 0), (.iload_n 1, 1, 1, 0, none, 0)] 65 = true := by decide +kernel
theorem b_X11_best_68 : dkM m_X11_best 68 [(.goto 8, 3, 76, 0, none, 0)] 71 = true := by decide +kernel
theorem b_X11_best_71 : dkM m_X11_best 71 [(.aload_n 0, 1, 0, 0, none, 0), (.iload_n 1, 1, 1, 0, none, 0)] 73 = true := by decide +kernel
theorem b_X11_best_76 : dkM m_X11_best 76 [(.istore 4, 2, 4, 0, none, 0), (.iload_n 3, 1, 3, 0, none, 0), (.ifCond .ne 8, 3, 87, 82, none, 0)] 82 = true := by decide +kernel
theorem b_X11_best_82 : dkM m_X11_best 82 [(.iload 4, 2, 4, 0, none, 0), (.goto 7, 3, 91, 0, none, 0)] 87 = true := by decide +kernel
theorem b_X11_best_87 : dkM m_X11_best 87 [(.aload_n 0, 1, 0, 0, none, 0), (.getfield 205, 3, 9, 25, none, 0)] 91 = true := by decide +kernel
theorem b_X11_best_91 : dkM m_X11_best 91 [(.ireturn, 1, 0, 0, none, 0)] 92 = true := by decide +kernel
theorem k_X11_best_1 : csB m_X11_best m_X11_isDuke 1 168 1 940 68 938 939 = true := by decide +kernel
theorem k_X11_best_10 : csB m_X11_best m_X11_in 10 51 3 833 68 831 832 = true := by decide +kernel
theorem k_X11_best_19 : csB m_X11_best m_X11_in 19 51 3 833 68 831 832 = true := by decide +kernel
theorem k_X11_best_29 : cvB m_X11_best m_X11_layNow 29 162 9 0 948 68 945 947 38 = true := by decide +kernel
theorem k_X11_best_42 : cvB m_X11_best m_X11_isOver 42 174 9 0 956 68 953 955 40 = true := by decide +kernel
theorem k_X11_best_51 : cvB m_X11_best m_X11_more 51 193 9 2 1015 68 1012 1014 48 = true := by decide +kernel
theorem k_X11_best_65 : cvB m_X11_best m_X11_sureOne 65 208 9 2 1019 68 1016 1018 49 = true := by decide +kernel
theorem k_X11_best_73 : cvB m_X11_best m_X11_sureTwo 73 211 9 1 1032 68 1029 1031 52 = true := by decide +kernel
theorem b_X11_readings_0 : dkM m_X11_readings 0 [(.iconst 1, 1, 0, 0, none, 1), (.istore_n 1, 1, 1, 0, none, 0), (.iconst 0, 1, 0, 0, none, 0), (.istore_n 2, 1, 2, 0, none, 0)] 4 = true := by decide +kernel
theorem b_X11_readings_4 : dkM m_X11_readings 4 [(.iload_n 2, 1, 2, 0, none, 0), (.aload_n 0, 1, 0, 0, none, 0), (.getfield 20, 3, 9, 4, some (some 3), 0), (.bipush 15, 2, 0, 0, none, 15), (.iaload, 1, 0, 0, none, 0), (.if_icmp .ge 89, 3, 101, 15, none, 0)] 15 = true := by decide +kernel
theorem b_X11_readings_15 : dkM m_X11_readings 15 [(.iconst 0, 1, 0, 0, none, 0), (.istore_n 3, 1, 3, 0, none, 0), (.iconst 0, 1, 0, 0, none, 0), (.istore 4, 2, 4, 0, none, 0)] 20 = true := by decide +kernel
theorem b_X11_readings_20 : dkM m_X11_readings 20 [(.iload 4, 2, 4, 0, none, 0), (.iconst 2, 1, 0, 0, none, 2), (.if_icmp .ge 35, 3, 58, 26, none, 0)] 26 = true := by decide +kernel
theorem b_X11_readings_26 : dkM m_X11_readings 26 [(.iload_n 3, 1, 3, 0, none, 0), (.aload_n 0, 1, 0, 0, none, 0), (.iload_n 2, 1, 2, 0, none, 0)] 29 = true := by decide +kernel
theorem b_X11_readings_32 : dkM m_X11_readings 32 [(.ifCond .eq 13, 3, 45, 35, none, 0)] 35 = true := by decide +kernel
theorem b_X11_readings_35 : dkM m_X11_readings 35 [(.aload_n 0, 1, 0, 0, none, 0), (.iload_n 2, 1, 2, 0, none, 0), (.iload 4, 2, 4, 0, none, 0)] 39 = true := by decide +kernel
theorem b_X11_readings_42 : dkM m_X11_readings 42 [(.ifCond .eq 7, 3, 49, 45, none, 0)] 45 = true := by decide +kernel
theorem b_X11_readings_45 : dkM m_X11_readings 45 [(.iconst 1, 1, 0, 0, none, 1), (.goto 4, 3, 50, 0, none, 0)] 49 = true := by decide +kernel
theorem b_X11_readings_49 : dkM m_X11_readings 49 [(.iconst 0, 1, 0, 0, none, 0)] 50 = true := by decide +kernel
theorem b_X11_readings_50 : dkM m_X11_readings 50 [(.iadd, 1, 0, 0, none, 0), (.istore_n 3, 1, 3, 0, none, 0), (.iinc 4 1, 3, 4, 0, none, 1), (.goto (-35), 3, 20, 0, none, 0)] 58 = true := by decide +kernel
theorem b_X11_readings_58 : dkM m_X11_readings 58 [(.iload_n 1, 1, 1, 0, none, 0), (.aload_n 0, 1, 0, 0, none, 0), (.getfield 20, 3, 9, 4, some (some 3), 0), (.bipush 16, 2, 0, 0, none, 16), (.iconst 4, 1, 0, 0, none, 4), (.iload_n 2, 1, 2, 0, none, 0), (.imul, 1, 0, 0, none, 0), (.iadd, 1, 0, 0, none, 0), (.iconst 1, 1, 0, 0, none, 1), (.iadd, 1, 0, 0, none, 0), (.iaload, 1, 0, 0, none, 0), (.iconst 2, 1, 0, 0, none, 2), (.if_icmp .ne 7, 3, 80, 76, none, 0)] 76 = true := by decide +kernel
theorem b_X11_readings_76 : dkM m_X11_readings 76 [(.iload_n 3, 1, 3, 0, none, 0), (.goto 16, 3, 93, 0, none, 0)] 80 = true := by decide +kernel
theorem b_X11_readings_80 : dkM m_X11_readings 80 [(.aload_n 0, 1, 0, 0, none, 0), (.iload_n 2, 1, 2, 0, none, 0)] 82 = true := by decide +kernel
theorem b_X11_readings_85 : dkM m_X11_readings 85 [(.ifCond .eq 7, 3, 92, 88, none, 0)] 88 = true := by decide +kernel
theorem b_X11_readings_88 : dkM m_X11_readings 88 [(.iconst 0, 1, 0, 0, none, 0), (.goto 4, 3, 93, 0, none, 0)] 92 = true := by decide +kernel
theorem b_X11_readings_92 : dkM m_X11_readings 92 [(.iconst 1, 1, 0, 0, none, 1)] 93 = true := by decide +kernel
theorem b_X11_readings_93 : dkM m_X11_readings 93 [(.imul, 1, 0, 0, none, 0), (.istore_n 1, 1, 1, 0, none, 0), (.iinc 2 1, 3, 2, 0, none, 1), (.goto (-94), 3, 4, 0, none, 0)] 101 = true := by decide +kernel
theorem b_X11_readings_101 : dkM m_X11_readings 101 [(.iload_n 1, 1, 1, 0, none, 0), (.ireturn, 1, 0, 0, none, 0)] 103 = true := by decide +kernel
theorem k_X11_readings_29 : cvB m_X11_readings m_X11_isGone 29 134 9 1 905 68 902 904 32 = true := by decide +kernel
theorem k_X11_readings_39 : cvB m_X11_readings m_X11_isFulfilledBy 39 137 9 2 913 68 910 912 34 = true := by decide +kernel
theorem k_X11_readings_82 : cvB m_X11_readings m_X11_isBroken 82 143 9 1 909 68 906 908 33 = true := by decide +kernel
theorem b_X11_lost_0 : dkM m_X11_lost 0 [(.iload_n 1, 1, 1, 0, none, 0), (.iconst 1, 1, 0, 0, none, 1), (.bipush 9, 2, 0, 0, none, 9)] 4 = true := by decide +kernel
theorem b_X11_lost_7 : dkM m_X11_lost 7 [(.ifCond .eq 13, 3, 20, 10, none, 0)] 10 = true := by decide +kernel
theorem b_X11_lost_10 : dkM m_X11_lost 10 [(.iload_n 1, 1, 1, 0, none, 0), (.aload_n 0, 1, 0, 0, none, 0), (.getfield 20, 3, 9, 4, some (some 3), 0), (.iconst 0, 1, 0, 0, none, 0), (.iaload, 1, 0, 0, none, 0), (.if_icmp .lt 5, 3, 22, 20, none, 0)] 20 = true := by decide +kernel
theorem b_X11_lost_20 : dkM m_X11_lost 20 [(.iconst (-1), 1, 0, 0, none, -1), (.ireturn, 1, 0, 0, none, 0)] 22 = true := by decide +kernel
theorem b_X11_lost_22 : dkM m_X11_lost 22 [(.iconst 0, 1, 0, 0, none, 0), (.istore_n 2, 1, 2, 0, none, 0), (.iconst 0, 1, 0, 0, none, 0), (.istore_n 3, 1, 3, 0, none, 0)] 26 = true := by decide +kernel
theorem b_X11_lost_26 : dkM m_X11_lost 26 [(.iload_n 3, 1, 3, 0, none, 0), (.iconst 2, 1, 0, 0, none, 2), (.if_icmp .ge 86, 3, 114, 31, none, 0)] 31 = true := by decide +kernel
theorem b_X11_lost_31 : dkM m_X11_lost 31 [(.iconst 0, 1, 0, 0, none, 0), (.istore 4, 2, 4, 0, none, 0)] 34 = true := by decide +kernel
theorem b_X11_lost_34 : dkM m_X11_lost 34 [(.iload 4, 2, 4, 0, none, 0), (.aload_n 0, 1, 0, 0, none, 0), (.getfield 7, 3, 9, 0, none, 0), (.if_icmp .ge 49, 3, 89, 43, none, 0)] 43 = true := by decide +kernel
theorem b_X11_lost_43 : dkM m_X11_lost 43 [(.iload_n 2, 1, 2, 0, none, 0), (.aload_n 0, 1, 0, 0, none, 0), (.iload_n 1, 1, 1, 0, none, 0), (.iload_n 3, 1, 3, 0, none, 0), (.iconst 0, 1, 0, 0, none, 0), (.iload 4, 2, 4, 0, none, 0)] 50 = true := by decide +kernel
theorem b_X11_lost_53 : dkM m_X11_lost 53 [(.ifCond .eq 7, 3, 60, 56, none, 0)] 56 = true := by decide +kernel
theorem b_X11_lost_56 : dkM m_X11_lost 56 [(.iconst 1, 1, 0, 0, none, 1), (.goto 4, 3, 61, 0, none, 0)] 60 = true := by decide +kernel
theorem b_X11_lost_60 : dkM m_X11_lost 60 [(.iconst 0, 1, 0, 0, none, 0)] 61 = true := by decide +kernel
theorem b_X11_lost_61 : dkM m_X11_lost 61 [(.iadd, 1, 0, 0, none, 0), (.istore_n 2, 1, 2, 0, none, 0), (.iload_n 2, 1, 2, 0, none, 0), (.aload_n 0, 1, 0, 0, none, 0), (.iload_n 1, 1, 1, 0, none, 0), (.iload_n 3, 1, 3, 0, none, 0), (.iconst 1, 1, 0, 0, none, 1), (.iload 4, 2, 4, 0, none, 0)] 70 = true := by decide +kernel
theorem b_X11_lost_73 : dkM m_X11_lost 73 [(.ifCond .eq 7, 3, 80, 76, none, 0)] 76 = true := by decide +kernel
theorem b_X11_lost_76 : dkM m_X11_lost 76 [(.iconst 1, 1, 0, 0, none, 1), (.goto 4, 3, 81, 0, none, 0)] 80 = true := by decide +kernel
theorem b_X11_lost_80 : dkM m_X11_lost 80 [(.iconst 0, 1, 0, 0, none, 0)] 81 = true := by decide +kernel
theorem b_X11_lost_81 : dkM m_X11_lost 81 [(.iadd, 1, 0, 0, none, 0), (.istore_n 2, 1, 2, 0, none, 0), (.iinc 4 1, 3, 4, 0, none, 1), (.goto (-52), 3, 34, 0, none, 0)] 89 = true := by decide +kernel
theorem b_X11_lost_89 : dkM m_X11_lost 89 [(.iload_n 2, 1, 2, 0, none, 0), (.aload_n 0, 1, 0, 0, none, 0), (.iload_n 1, 1, 1, 0, none, 0), (.iload_n 3, 1, 3, 0, none, 0), (.iconst 2, 1, 0, 0, none, 2), (.iconst 0, 1, 0, 0, none, 0)] 95 = true := by decide +kernel
theorem b_X11_lost_98 : dkM m_X11_lost 98 [(.ifCond .eq 7, 3, 105, 101, none, 0)] 101 = true := by decide +kernel
theorem b_X11_lost_101 : dkM m_X11_lost 101 [(.iconst 1, 1, 0, 0, none, 1), (.goto 4, 3, 106, 0, none, 0)] 105 = true := by decide +kernel
theorem b_X11_lost_105 : dkM m_X11_lost 105 [(.iconst 0, 1, 0, 0, none, 0)] 106 = true := by decide +kernel
theorem b_X11_lost_106 : dkM m_X11_lost 106 [(.iadd, 1, 0, 0, none, 0), (.istore_n 2, 1, 2, 0, none, 0), (.iinc 3 1, 3, 3, 0, none, 1), (.goto (-85), 3, 26, 0, none, 0)] 114 = true := by decide +kernel
theorem b_X11_lost_114 : dkM m_X11_lost 114 [(.iload_n 2, 1, 2, 0, none, 0), (.ireturn, 1, 0, 0, none, 0)] 116 = true := by decide +kernel
theorem k_X11_lost_4 : csB m_X11_lost m_X11_in 4 51 3 833 68 831 832 = true := by decide +kernel
theorem k_X11_lost_50 : cvB m_X11_lost m_X11_isSo 50 130 9 4 917 68 914 916 35 = true := by decide +kernel
theorem k_X11_lost_70 : cvB m_X11_lost m_X11_isSo 70 130 9 4 917 68 914 916 35 = true := by decide +kernel
theorem k_X11_lost_95 : cvB m_X11_lost m_X11_isSo 95 130 9 4 917 68 914 916 35 = true := by decide +kernel
theorem b_X11_doClash_0 : dkM m_X11_doClash 0 [(.bipush 16, 2, 0, 0, none, 16), (.iconst 4, 1, 0, 0, none, 4), (.iload_n 1, 1, 1, 0, none, 0), (.imul, 1, 0, 0, none, 0), (.iadd, 1, 0, 0, none, 0), (.istore_n 3, 1, 3, 0, none, 0), (.bipush 16, 2, 0, 0, none, 16), (.iconst 4, 1, 0, 0, none, 4), (.iload_n 2, 1, 2, 0, none, 0), (.imul, 1, 0, 0, none, 0), (.iadd, 1, 0, 0, none, 0), (.istore 4, 2, 4, 0, none, 0), (.aload_n 0, 1, 0, 0, none, 0), (.getfield 20, 3, 9, 4, some (some 3), 0), (.iload_n 3, 1, 3, 0, none, 0), (.iaload, 1, 0, 0, none, 0), (.aload_n 0, 1, 0, 0, none, 0), (.getfield 20, 3, 9, 4, some (some 3), 0), (.iload 4, 2, 4, 0, none, 0), (.iaload, 1, 0, 0, none, 0), (.if_icmp .ne 39, 3, 67, 31, none, 0)] 31 = true := by decide +kernel
theorem b_X11_doClash_31 : dkM m_X11_doClash 31 [(.aload_n 0, 1, 0, 0, none, 0), (.getfield 20, 3, 9, 4, some (some 3), 0), (.iload_n 3, 1, 3, 0, none, 0), (.iconst 1, 1, 0, 0, none, 1), (.iadd, 1, 0, 0, none, 0), (.iaload, 1, 0, 0, none, 0), (.aload_n 0, 1, 0, 0, none, 0), (.getfield 20, 3, 9, 4, some (some 3), 0), (.iload 4, 2, 4, 0, none, 0), (.iconst 1, 1, 0, 0, none, 1), (.iadd, 1, 0, 0, none, 0), (.iaload, 1, 0, 0, none, 0), (.if_icmp .ne 19, 3, 67, 51, none, 0)] 51 = true := by decide +kernel
theorem b_X11_doClash_51 : dkM m_X11_doClash 51 [(.aload_n 0, 1, 0, 0, none, 0), (.getfield 20, 3, 9, 4, some (some 3), 0), (.iload_n 3, 1, 3, 0, none, 0), (.iconst 1, 1, 0, 0, none, 1), (.iadd, 1, 0, 0, none, 0), (.iaload, 1, 0, 0, none, 0), (.iconst 2, 1, 0, 0, none, 2), (.if_icmp .eq 7, 3, 67, 63, none, 0)] 63 = true := by decide +kernel
theorem b_X11_doClash_63 : dkM m_X11_doClash 63 [(.iconst 1, 1, 0, 0, none, 1), (.goto 4, 3, 68, 0, none, 0)] 67 = true := by decide +kernel
theorem b_X11_doClash_67 : dkM m_X11_doClash 67 [(.iconst 0, 1, 0, 0, none, 0)] 68 = true := by decide +kernel
theorem b_X11_doClash_68 : dkM m_X11_doClash 68 [(.istore 5, 2, 5, 0, none, 0), (.aload_n 0, 1, 0, 0, none, 0), (.getfield 20, 3, 9, 4, some (some 3), 0), (.iload_n 3, 1, 3, 0, none, 0), (.iconst 2, 1, 0, 0, none, 2), (.iadd, 1, 0, 0, none, 0), (.iaload, 1, 0, 0, none, 0), (.iconst 2, 1, 0, 0, none, 2), (.if_icmp .ne 15, 3, 94, 82, none, 0)] 82 = true := by decide +kernel
theorem b_X11_doClash_82 : dkM m_X11_doClash 82 [(.aload_n 0, 1, 0, 0, none, 0), (.getfield 20, 3, 9, 4, some (some 3), 0), (.iload 4, 2, 4, 0, none, 0), (.iconst 2, 1, 0, 0, none, 2), (.iadd, 1, 0, 0, none, 0), (.iaload, 1, 0, 0, none, 0), (.ifCond .eq 27, 3, 118, 94, none, 0)] 94 = true := by decide +kernel
theorem b_X11_doClash_94 : dkM m_X11_doClash 94 [(.aload_n 0, 1, 0, 0, none, 0), (.getfield 20, 3, 9, 4, some (some 3), 0), (.iload_n 3, 1, 3, 0, none, 0), (.iconst 2, 1, 0, 0, none, 2), (.iadd, 1, 0, 0, none, 0), (.iaload, 1, 0, 0, none, 0), (.ifCond .ne 20, 3, 122, 105, none, 0)] 105 = true := by decide +kernel
theorem b_X11_doClash_105 : dkM m_X11_doClash 105 [(.aload_n 0, 1, 0, 0, none, 0), (.getfield 20, 3, 9, 4, some (some 3), 0), (.iload 4, 2, 4, 0, none, 0), (.iconst 2, 1, 0, 0, none, 2), (.iadd, 1, 0, 0, none, 0), (.iaload, 1, 0, 0, none, 0), (.iconst 2, 1, 0, 0, none, 2), (.if_icmp .ne 7, 3, 122, 118, none, 0)] 118 = true := by decide +kernel
theorem b_X11_doClash_118 : dkM m_X11_doClash 118 [(.iconst 1, 1, 0, 0, none, 1), (.goto 4, 3, 123, 0, none, 0)] 122 = true := by decide +kernel
theorem b_X11_doClash_122 : dkM m_X11_doClash 122 [(.iconst 0, 1, 0, 0, none, 0)] 123 = true := by decide +kernel
theorem b_X11_doClash_123 : dkM m_X11_doClash 123 [(.istore 6, 2, 6, 0, none, 0), (.aload_n 0, 1, 0, 0, none, 0), (.getfield 20, 3, 9, 4, some (some 3), 0), (.iload_n 3, 1, 3, 0, none, 0), (.iconst 2, 1, 0, 0, none, 2), (.iadd, 1, 0, 0, none, 0), (.iaload, 1, 0, 0, none, 0), (.ifCond .ne 39, 3, 172, 136, none, 0)] 136 = true := by decide +kernel
theorem b_X11_doClash_136 : dkM m_X11_doClash 136 [(.aload_n 0, 1, 0, 0, none, 0), (.getfield 20, 3, 9, 4, some (some 3), 0), (.iload 4, 2, 4, 0, none, 0), (.iconst 2, 1, 0, 0, none, 2), (.iadd, 1, 0, 0, none, 0), (.iaload, 1, 0, 0, none, 0), (.ifCond .ne 27, 3, 172, 148, none, 0)] 148 = true := by decide +kernel
theorem b_X11_doClash_148 : dkM m_X11_doClash 148 [(.aload_n 0, 1, 0, 0, none, 0), (.getfield 20, 3, 9, 4, some (some 3), 0), (.iload_n 3, 1, 3, 0, none, 0), (.iconst 3, 1, 0, 0, none, 3), (.iadd, 1, 0, 0, none, 0), (.iaload, 1, 0, 0, none, 0), (.aload_n 0, 1, 0, 0, none, 0), (.getfield 20, 3, 9, 4, some (some 3), 0), (.iload 4, 2, 4, 0, none, 0), (.iconst 3, 1, 0, 0, none, 3), (.iadd, 1, 0, 0, none, 0), (.iaload, 1, 0, 0, none, 0), (.if_icmp .eq 7, 3, 172, 168, none, 0)] 168 = true := by decide +kernel
theorem b_X11_doClash_168 : dkM m_X11_doClash 168 [(.iconst 1, 1, 0, 0, none, 1), (.goto 4, 3, 173, 0, none, 0)] 172 = true := by decide +kernel
theorem b_X11_doClash_172 : dkM m_X11_doClash 172 [(.iconst 0, 1, 0, 0, none, 0)] 173 = true := by decide +kernel
theorem b_X11_doClash_173 : dkM m_X11_doClash 173 [(.istore 7, 2, 7, 0, none, 0), (.iload 5, 2, 5, 0, none, 0), (.ifCond .eq 17, 3, 194, 180, none, 0)] 180 = true := by decide +kernel
theorem b_X11_doClash_180 : dkM m_X11_doClash 180 [(.iload 6, 2, 6, 0, none, 0), (.ifCond .ne 8, 3, 190, 185, none, 0)] 185 = true := by decide +kernel
theorem b_X11_doClash_185 : dkM m_X11_doClash 185 [(.iload 7, 2, 7, 0, none, 0), (.ifCond .eq 7, 3, 194, 190, none, 0)] 190 = true := by decide +kernel
theorem b_X11_doClash_190 : dkM m_X11_doClash 190 [(.iconst 1, 1, 0, 0, none, 1), (.goto 4, 3, 195, 0, none, 0)] 194 = true := by decide +kernel
theorem b_X11_doClash_194 : dkM m_X11_doClash 194 [(.iconst 0, 1, 0, 0, none, 0)] 195 = true := by decide +kernel
theorem b_X11_doClash_195 : dkM m_X11_doClash 195 [(.ireturn, 1, 1, 0, none, 0)] 196 = true := by decide +kernel
theorem b_X11_clash_0 : dkM m_X11_clash 0 [(.iconst 0, 1, 0, 0, none, 0), (.istore_n 1, 1, 1, 0, none, 0)] 2 = true := by decide +kernel
theorem b_X11_clash_2 : dkM m_X11_clash 2 [(.iload_n 1, 1, 1, 0, none, 0), (.aload_n 0, 1, 0, 0, none, 0), (.getfield 20, 3, 9, 4, some (some 3), 0), (.bipush 15, 2, 0, 0, none, 15), (.iaload, 1, 0, 0, none, 0), (.if_icmp .ge 46, 3, 56, 13, none, 0)] 13 = true := by decide +kernel
theorem b_X11_clash_13 : dkM m_X11_clash 13 [(.iload_n 1, 1, 1, 0, none, 0), (.iconst 1, 1, 0, 0, none, 1), (.iadd, 1, 0, 0, none, 0), (.istore_n 2, 1, 2, 0, none, 0)] 17 = true := by decide +kernel
theorem b_X11_clash_17 : dkM m_X11_clash 17 [(.iload_n 2, 1, 2, 0, none, 0), (.aload_n 0, 1, 0, 0, none, 0), (.getfield 20, 3, 9, 4, some (some 3), 0), (.bipush 15, 2, 0, 0, none, 15), (.iaload, 1, 0, 0, none, 0), (.if_icmp .ge 25, 3, 50, 28, none, 0)] 28 = true := by decide +kernel
theorem b_X11_clash_28 : dkM m_X11_clash 28 [(.aload_n 0, 1, 0, 0, none, 0), (.iload_n 1, 1, 1, 0, none, 0), (.iload_n 2, 1, 2, 0, none, 0)] 31 = true := by decide +kernel
theorem b_X11_clash_34 : dkM m_X11_clash 34 [(.ifCond .eq 10, 3, 44, 37, none, 0)] 37 = true := by decide +kernel
theorem b_X11_clash_37 : dkM m_X11_clash 37 [(.bipush 10, 2, 0, 0, none, 10), (.iload_n 1, 1, 1, 0, none, 0), (.imul, 1, 0, 0, none, 0), (.iload_n 2, 1, 2, 0, none, 0), (.iadd, 1, 0, 0, none, 0), (.ireturn, 1, 0, 0, none, 0)] 44 = true := by decide +kernel
theorem b_X11_clash_44 : dkM m_X11_clash 44 [(.iinc 2 1, 3, 2, 0, none, 1), (.goto (-30), 3, 17, 0, none, 0)] 50 = true := by decide +kernel
theorem b_X11_clash_50 : dkM m_X11_clash 50 [(.iinc 1 1, 3, 1, 0, none, 1), (.goto (-51), 3, 2, 0, none, 0)] 56 = true := by decide +kernel
theorem b_X11_clash_56 : dkM m_X11_clash 56 [(.bipush (-9), 2, 0, 0, none, -9), (.ireturn, 1, 0, 0, none, 0)] 59 = true := by decide +kernel
theorem k_X11_clash_31 : cvB m_X11_clash m_X11_doClash 31 214 9 2 1048 68 1045 1047 53 = true := by decide +kernel
theorem b_X11_isWellWithout_0 : dkM m_X11_isWellWithout 0 [(.iconst 1, 1, 0, 0, none, 1), (.istore_n 2, 1, 2, 0, none, 0), (.iconst 0, 1, 0, 0, none, 0), (.istore_n 3, 1, 3, 0, none, 0)] 4 = true := by decide +kernel
theorem b_X11_isWellWithout_4 : dkM m_X11_isWellWithout 4 [(.iload_n 3, 1, 3, 0, none, 0), (.aload_n 0, 1, 0, 0, none, 0), (.getfield 20, 3, 9, 4, some (some 3), 0), (.bipush 15, 2, 0, 0, none, 15), (.iaload, 1, 0, 0, none, 0), (.if_icmp .ge 95, 3, 107, 15, none, 0)] 15 = true := by decide +kernel
theorem b_X11_isWellWithout_15 : dkM m_X11_isWellWithout 15 [(.iload_n 2, 1, 2, 0, none, 0), (.ifCond .eq 23, 3, 39, 19, none, 0)] 19 = true := by decide +kernel
theorem b_X11_isWellWithout_19 : dkM m_X11_isWellWithout 19 [(.iload_n 1, 1, 1, 0, none, 0), (.iload_n 3, 1, 3, 0, none, 0)] 21 = true := by decide +kernel
theorem b_X11_isWellWithout_24 : dkM m_X11_isWellWithout 24 [(.ifCond .ne 11, 3, 35, 27, none, 0)] 27 = true := by decide +kernel
theorem b_X11_isWellWithout_27 : dkM m_X11_isWellWithout 27 [(.aload_n 0, 1, 0, 0, none, 0), (.iload_n 3, 1, 3, 0, none, 0)] 29 = true := by decide +kernel
theorem b_X11_isWellWithout_32 : dkM m_X11_isWellWithout 32 [(.ifCond .ne 7, 3, 39, 35, none, 0)] 35 = true := by decide +kernel
theorem b_X11_isWellWithout_35 : dkM m_X11_isWellWithout 35 [(.iconst 1, 1, 0, 0, none, 1), (.goto 4, 3, 40, 0, none, 0)] 39 = true := by decide +kernel
theorem b_X11_isWellWithout_39 : dkM m_X11_isWellWithout 39 [(.iconst 0, 1, 0, 0, none, 0)] 40 = true := by decide +kernel
theorem b_X11_isWellWithout_40 : dkM m_X11_isWellWithout 40 [(.istore_n 2, 1, 2, 0, none, 0), (.iload_n 3, 1, 3, 0, none, 0), (.iconst 1, 1, 0, 0, none, 1), (.iadd, 1, 0, 0, none, 0), (.istore 4, 2, 4, 0, none, 0)] 46 = true := by decide +kernel
theorem b_X11_isWellWithout_46 : dkM m_X11_isWellWithout 46 [(.iload 4, 2, 4, 0, none, 0), (.aload_n 0, 1, 0, 0, none, 0), (.getfield 20, 3, 9, 4, some (some 3), 0), (.bipush 15, 2, 0, 0, none, 15), (.iaload, 1, 0, 0, none, 0), (.if_icmp .ge 46, 3, 101, 58, none, 0)] 58 = true := by decide +kernel
theorem b_X11_isWellWithout_58 : dkM m_X11_isWellWithout 58 [(.iload_n 2, 1, 2, 0, none, 0), (.ifCond .eq 34, 3, 93, 62, none, 0)] 62 = true := by decide +kernel
theorem b_X11_isWellWithout_62 : dkM m_X11_isWellWithout 62 [(.iload_n 1, 1, 1, 0, none, 0), (.iload_n 3, 1, 3, 0, none, 0)] 64 = true := by decide +kernel
theorem b_X11_isWellWithout_67 : dkM m_X11_isWellWithout 67 [(.ifCond .ne 22, 3, 89, 70, none, 0)] 70 = true := by decide +kernel
theorem b_X11_isWellWithout_70 : dkM m_X11_isWellWithout 70 [(.iload_n 1, 1, 1, 0, none, 0), (.iload 4, 2, 4, 0, none, 0)] 73 = true := by decide +kernel
theorem b_X11_isWellWithout_76 : dkM m_X11_isWellWithout 76 [(.ifCond .ne 13, 3, 89, 79, none, 0)] 79 = true := by decide +kernel
theorem b_X11_isWellWithout_79 : dkM m_X11_isWellWithout 79 [(.aload_n 0, 1, 0, 0, none, 0), (.iload_n 3, 1, 3, 0, none, 0), (.iload 4, 2, 4, 0, none, 0)] 83 = true := by decide +kernel
theorem b_X11_isWellWithout_86 : dkM m_X11_isWellWithout 86 [(.ifCond .ne 7, 3, 93, 89, none, 0)] 89 = true := by decide +kernel
theorem b_X11_isWellWithout_89 : dkM m_X11_isWellWithout 89 [(.iconst 1, 1, 0, 0, none, 1), (.goto 4, 3, 94, 0, none, 0)] 93 = true := by decide +kernel
theorem b_X11_isWellWithout_93 : dkM m_X11_isWellWithout 93 [(.iconst 0, 1, 0, 0, none, 0)] 94 = true := by decide +kernel
theorem b_X11_isWellWithout_94 : dkM m_X11_isWellWithout 94 [(.istore_n 2, 1, 2, 0, none, 0), (.iinc 4 1, 3, 4, 0, none, 1), (.goto (-52), 3, 46, 0, none, 0)] 101 = true := by decide +kernel
theorem b_X11_isWellWithout_101 : dkM m_X11_isWellWithout 101 [(.iinc 3 1, 3, 3, 0, none, 1), (.goto (-100), 3, 4, 0, none, 0)] 107 = true := by decide +kernel
theorem b_X11_isWellWithout_107 : dkM m_X11_isWellWithout 107 [(.iload_n 2, 1, 2, 0, none, 0), (.ireturn, 1, 1, 0, none, 0)] 109 = true := by decide +kernel
theorem k_X11_isWellWithout_21 : csB m_X11_isWellWithout m_X11_has 21 126 2 920 68 918 919 = true := by decide +kernel
theorem k_X11_isWellWithout_29 : cvB m_X11_isWellWithout m_X11_isBroken 29 143 9 1 909 68 906 908 33 = true := by decide +kernel
theorem k_X11_isWellWithout_64 : csB m_X11_isWellWithout m_X11_has 64 126 2 920 68 918 919 = true := by decide +kernel
theorem k_X11_isWellWithout_73 : csB m_X11_isWellWithout m_X11_has 73 126 2 920 68 918 919 = true := by decide +kernel
theorem k_X11_isWellWithout_83 : cvB m_X11_isWellWithout m_X11_doClash 83 214 9 2 1048 68 1045 1047 53 = true := by decide +kernel
theorem b_X11_least_0 : dkM m_X11_least 0 [(.iload_n 1, 1, 1, 0, none, 0), (.iconst 0, 1, 0, 0, none, 0), (.iconst 1, 1, 0, 0, none, 1)] 3 = true := by decide +kernel
theorem b_X11_least_6 : dkM m_X11_least 6 [(.ifCond .ne 5, 3, 11, 9, none, 0)] 9 = true := by decide +kernel
theorem b_X11_least_9 : dkM m_X11_least 9 [(.iconst (-1), 1, 0, 0, none, -1), (.ireturn, 1, 0, 0, none, 0)] 11 = true := by decide +kernel
theorem b_X11_least_11 : dkM m_X11_least 11 [(.iconst (-1), 1, 0, 0, none, -1), (.istore_n 2, 1, 2, 0, none, 0), (.iconst 0, 1, 0, 0, none, 0), (.istore_n 3, 1, 3, 0, none, 0)] 15 = true := by decide +kernel
theorem b_X11_least_15 : dkM m_X11_least 15 [(.iload_n 3, 1, 3, 0, none, 0), (.iconst 1, 1, 0, 0, none, 1), (.aload_n 0, 1, 0, 0, none, 0), (.getfield 20, 3, 9, 4, some (some 3), 0), (.bipush 15, 2, 0, 0, none, 15), (.iaload, 1, 0, 0, none, 0), (.ishl, 1, 0, 0, none, 0), (.if_icmp .ge 38, 3, 63, 28, none, 0)] 28 = true := by decide +kernel
theorem b_X11_least_28 : dkM m_X11_least 28 [(.aload_n 0, 1, 0, 0, none, 0), (.iload_n 3, 1, 3, 0, none, 0)] 30 = true := by decide +kernel
theorem b_X11_least_33 : dkM m_X11_least 33 [(.ifCond .eq 22, 3, 55, 36, none, 0)] 36 = true := by decide +kernel
theorem b_X11_least_36 : dkM m_X11_least 36 [(.iload_n 2, 1, 2, 0, none, 0), (.ifCond .lt 14, 3, 51, 40, none, 0)] 40 = true := by decide +kernel
theorem b_X11_least_40 : dkM m_X11_least 40 [(.iload_n 3, 1, 3, 0, none, 0)] 41 = true := by decide +kernel
theorem b_X11_least_44 : dkM m_X11_least 44 [(.iload_n 2, 1, 2, 0, none, 0)] 45 = true := by decide +kernel
theorem b_X11_least_48 : dkM m_X11_least 48 [(.if_icmp .ge 7, 3, 55, 51, none, 0)] 51 = true := by decide +kernel
theorem b_X11_least_51 : dkM m_X11_least 51 [(.iload_n 3, 1, 3, 0, none, 0), (.goto 4, 3, 56, 0, none, 0)] 55 = true := by decide +kernel
theorem b_X11_least_55 : dkM m_X11_least 55 [(.iload_n 2, 1, 2, 0, none, 0)] 56 = true := by decide +kernel
theorem b_X11_least_56 : dkM m_X11_least 56 [(.istore_n 2, 1, 2, 0, none, 0), (.iinc 3 1, 3, 3, 0, none, 1), (.goto (-45), 3, 15, 0, none, 0)] 63 = true := by decide +kernel
theorem b_X11_least_63 : dkM m_X11_least 63 [(.iload_n 1, 1, 1, 0, none, 0), (.ifCond .ne 10, 3, 74, 67, none, 0)] 67 = true := by decide +kernel
theorem b_X11_least_67 : dkM m_X11_least 67 [(.iload_n 2, 1, 2, 0, none, 0)] 68 = true := by decide +kernel
theorem b_X11_least_71 : dkM m_X11_least 71 [(.goto 4, 3, 75, 0, none, 0)] 74 = true := by decide +kernel
theorem b_X11_least_74 : dkM m_X11_least 74 [(.iload_n 2, 1, 2, 0, none, 0)] 75 = true := by decide +kernel
theorem b_X11_least_75 : dkM m_X11_least 75 [(.ireturn, 1, 0, 0, none, 0)] 76 = true := by decide +kernel
theorem k_X11_least_3 : csB m_X11_least m_X11_in 3 51 3 833 68 831 832 = true := by decide +kernel
theorem k_X11_least_30 : cvB m_X11_least m_X11_isWellWithout 30 217 9 1 1056 68 1053 1055 54 = true := by decide +kernel
theorem k_X11_least_41 : csB m_X11_least m_X11_bits 41 184 1 983 68 981 982 = true := by decide +kernel
theorem k_X11_least_45 : csB m_X11_least m_X11_bits 45 184 1 983 68 981 982 = true := by decide +kernel
theorem k_X11_least_68 : csB m_X11_least m_X11_bits 68 184 1 983 68 981 982 = true := by decide +kernel
theorem b_X11_march_0 : dkM m_X11_march 0 [(.aload_n 0, 1, 0, 0, none, 0), (.iload_n 1, 1, 1, 0, none, 0)] 2 = true := by decide +kernel
theorem b_X11_march_5 : dkM m_X11_march 5 [(.ifCond .eq 11, 3, 16, 8, none, 0)] 8 = true := by decide +kernel
theorem b_X11_march_8 : dkM m_X11_march 8 [(.aload_n 0, 1, 0, 0, none, 0), (.iload_n 2, 1, 2, 0, none, 0)] 10 = true := by decide +kernel
theorem b_X11_march_13 : dkM m_X11_march 13 [(.ifCond .ne 5, 3, 18, 16, none, 0)] 16 = true := by decide +kernel
theorem b_X11_march_16 : dkM m_X11_march 16 [(.iconst (-1), 1, 0, 0, none, -1), (.ireturn, 1, 0, 0, none, 0)] 18 = true := by decide +kernel
theorem b_X11_march_18 : dkM m_X11_march 18 [(.iconst 1, 1, 0, 0, none, 1), (.aload_n 0, 1, 0, 0, none, 0), (.getfield 20, 3, 9, 4, some (some 3), 0), (.iconst 3, 1, 0, 0, none, 3), (.iload_n 1, 1, 1, 0, none, 0), (.iadd, 1, 0, 0, none, 0), (.iaload, 1, 0, 0, none, 0), (.ishl, 1, 0, 0, none, 0), (.istore_n 3, 1, 3, 0, none, 0), (.iconst 0, 1, 0, 0, none, 0), (.istore 4, 2, 4, 0, none, 0)] 32 = true := by decide +kernel
theorem b_X11_march_32 : dkM m_X11_march 32 [(.iload 4, 2, 4, 0, none, 0), (.bipush 8, 2, 0, 0, none, 8), (.if_icmp .ge 69, 3, 105, 39, none, 0)] 39 = true := by decide +kernel
theorem b_X11_march_39 : dkM m_X11_march 39 [(.iload_n 3, 1, 3, 0, none, 0), (.iload_n 2, 1, 2, 0, none, 0)] 41 = true := by decide +kernel
theorem b_X11_march_44 : dkM m_X11_march 44 [(.ifCond .eq 6, 3, 50, 47, none, 0)] 47 = true := by decide +kernel
theorem b_X11_march_47 : dkM m_X11_march 47 [(.iload 4, 2, 4, 0, none, 0), (.ireturn, 1, 0, 0, none, 0)] 50 = true := by decide +kernel
theorem b_X11_march_50 : dkM m_X11_march 50 [(.iload_n 3, 1, 3, 0, none, 0), (.istore 5, 2, 5, 0, none, 0), (.iconst 0, 1, 0, 0, none, 0), (.istore 6, 2, 6, 0, none, 0)] 56 = true := by decide +kernel
theorem b_X11_march_56 : dkM m_X11_march 56 [(.iload 6, 2, 6, 0, none, 0), (.aload_n 0, 1, 0, 0, none, 0), (.getfield 7, 3, 9, 0, none, 0), (.if_icmp .ge 34, 3, 96, 65, none, 0)] 65 = true := by decide +kernel
theorem b_X11_march_65 : dkM m_X11_march 65 [(.iload 5, 2, 5, 0, none, 0), (.iload_n 3, 1, 3, 0, none, 0), (.iload 6, 2, 6, 0, none, 0)] 70 = true := by decide +kernel
theorem b_X11_march_73 : dkM m_X11_march 73 [(.ifCond .eq 13, 3, 86, 76, none, 0)] 76 = true := by decide +kernel
theorem b_X11_march_76 : dkM m_X11_march 76 [(.aload_n 0, 1, 0, 0, none, 0), (.getfield 13, 3, 9, 1, some (some 1), 0), (.iload 6, 2, 6, 0, none, 0), (.iaload, 1, 0, 0, none, 0), (.goto 4, 3, 87, 0, none, 0)] 86 = true := by decide +kernel
theorem b_X11_march_86 : dkM m_X11_march 86 [(.iconst 0, 1, 0, 0, none, 0)] 87 = true := by decide +kernel
theorem b_X11_march_87 : dkM m_X11_march 87 [(.ior, 1, 0, 0, none, 0), (.istore 5, 2, 5, 0, none, 0), (.iinc 6 1, 3, 6, 0, none, 1), (.goto (-37), 3, 56, 0, none, 0)] 96 = true := by decide +kernel
theorem b_X11_march_96 : dkM m_X11_march 96 [(.iload 5, 2, 5, 0, none, 0), (.istore_n 3, 1, 3, 0, none, 0), (.iinc 4 1, 3, 4, 0, none, 1), (.goto (-70), 3, 32, 0, none, 0)] 105 = true := by decide +kernel
theorem b_X11_march_105 : dkM m_X11_march 105 [(.bipush (-9), 2, 0, 0, none, -9), (.ireturn, 1, 0, 0, none, 0)] 108 = true := by decide +kernel
theorem k_X11_march_2 : cvB m_X11_march m_X11_isArmy 2 123 9 1 893 68 890 892 30 = true := by decide +kernel
theorem k_X11_march_10 : cvB m_X11_march m_X11_isField 10 119 9 1 885 68 882 884 29 = true := by decide +kernel
theorem k_X11_march_41 : csB m_X11_march m_X11_has 41 126 2 920 68 918 919 = true := by decide +kernel
theorem k_X11_march_70 : csB m_X11_march m_X11_has 70 126 2 920 68 918 919 = true := by decide +kernel
theorem b_X11_troopRate_0 : dkM m_X11_troopRate 0 [(.aload_n 0, 1, 0, 0, none, 0), (.dup, 1, 0, 0, none, 0), (.getfield 220, 3, 9, 9, some none, 0), (.lconst 1, 1, 1, 0, none, 0), (.ladd, 1, 0, 0, none, 0), (.putfield 220, 3, 9, 9, some none, 0), (.aload_n 0, 1, 0, 0, none, 0), (.getfield 20, 3, 9, 4, some (some 3), 0), (.bipush 9, 2, 0, 0, none, 9), (.iload_n 1, 1, 1, 0, none, 0), (.iadd, 1, 0, 0, none, 0), (.iaload, 1, 0, 0, none, 0), (.ireturn, 1, 0, 0, none, 0)] 20 = true := by decide +kernel
theorem b_X11_archersRate_0 : dkM m_X11_archersRate 0 [(.aload_n 0, 1, 0, 0, none, 0), (.dup, 1, 0, 0, none, 0), (.getfield 220, 3, 9, 9, some none, 0), (.ldc2_w 224, 3, 10, 0, none, 0), (.ladd, 1, 0, 0, none, 0), (.putfield 220, 3, 9, 9, some none, 0), (.aload_n 0, 1, 0, 0, none, 0), (.iload_n 1, 1, 1, 0, none, 0)] 14 = true := by decide +kernel
theorem b_X11_archersRate_17 : dkM m_X11_archersRate 17 [(.aload_n 0, 1, 0, 0, none, 0), (.getfield 20, 3, 9, 4, some (some 3), 0), (.iconst 3, 1, 0, 0, none, 3), (.iload_n 1, 1, 1, 0, none, 0), (.iadd, 1, 0, 0, none, 0), (.iaload, 1, 0, 0, none, 0), (.iadd, 1, 0, 0, none, 0), (.ireturn, 1, 0, 0, none, 0)] 27 = true := by decide +kernel
theorem k_X11_archersRate_14 : cvB m_X11_archersRate m_X11_troopRate 14 226 9 1 1068 68 1065 1067 55 = true := by decide +kernel
theorem b_X11_siegeRate_0 : dkM m_X11_siegeRate 0 [(.aload_n 0, 1, 0, 0, none, 0), (.dup, 1, 0, 0, none, 0), (.getfield 220, 3, 9, 9, some none, 0), (.ldc2_w 229, 3, 100, 0, none, 0), (.ladd, 1, 0, 0, none, 0), (.putfield 220, 3, 9, 9, some none, 0), (.aload_n 0, 1, 0, 0, none, 0), (.iload_n 1, 1, 1, 0, none, 0)] 14 = true := by decide +kernel
theorem b_X11_siegeRate_17 : dkM m_X11_siegeRate 17 [(.aload_n 0, 1, 0, 0, none, 0), (.getfield 13, 3, 9, 1, some (some 1), 0), (.aload_n 0, 1, 0, 0, none, 0), (.getfield 20, 3, 9, 4, some (some 3), 0), (.iconst 3, 1, 0, 0, none, 3), (.iload_n 1, 1, 1, 0, none, 0), (.iadd, 1, 0, 0, none, 0), (.iaload, 1, 0, 0, none, 0), (.iaload, 1, 0, 0, none, 0)] 30 = true := by decide +kernel
theorem b_X11_siegeRate_33 : dkM m_X11_siegeRate 33 [(.isub, 1, 0, 0, none, 0), (.ireturn, 1, 0, 0, none, 0)] 35 = true := by decide +kernel
theorem k_X11_siegeRate_14 : cvB m_X11_siegeRate m_X11_troopRate 14 226 9 1 1068 68 1065 1067 55 = true := by decide +kernel
theorem k_X11_siegeRate_30 : csB m_X11_siegeRate m_X11_bits 30 184 1 983 68 981 982 = true := by decide +kernel
theorem b_X11_rate_0 : dkM m_X11_rate 0 [(.iload_n 1, 1, 1, 0, none, 0), (.iconst 0, 1, 0, 0, none, 0), (.iconst 5, 1, 0, 0, none, 5)] 3 = true := by decide +kernel
theorem b_X11_rate_6 : dkM m_X11_rate 6 [(.ifCond .eq 11, 3, 17, 9, none, 0)] 9 = true := by decide +kernel
theorem b_X11_rate_9 : dkM m_X11_rate 9 [(.aload_n 0, 1, 0, 0, none, 0), (.iload_n 2, 1, 2, 0, none, 0)] 11 = true := by decide +kernel
theorem b_X11_rate_14 : dkM m_X11_rate 14 [(.ifCond .ne 6, 3, 20, 17, none, 0)] 17 = true := by decide +kernel
theorem b_X11_rate_17 : dkM m_X11_rate 17 [(.ldc 149, 2, 0, 0, none, -1000000), (.ireturn, 1, 0, 0, none, 0)] 20 = true := by decide +kernel
theorem b_X11_rate_20 : dkM m_X11_rate 20 [(.iload_n 1, 1, 1, 0, none, 0)] 21 = true := by decide +kernel
theorem b_X11_rate_56 : dkM m_X11_rate 56 [(.aload_n 0, 1, 0, 0, none, 0), (.iload_n 2, 1, 2, 0, none, 0)] 58 = true := by decide +kernel
theorem b_X11_rate_61 : dkM m_X11_rate 61 [(.ireturn, 1, 0, 0, none, 0)] 62 = true := by decide +kernel
theorem b_X11_rate_62 : dkM m_X11_rate 62 [(.aload_n 0, 1, 0, 0, none, 0), (.iload_n 2, 1, 2, 0, none, 0)] 64 = true := by decide +kernel
theorem b_X11_rate_67 : dkM m_X11_rate 67 [(.ireturn, 1, 0, 0, none, 0)] 68 = true := by decide +kernel
theorem b_X11_rate_68 : dkM m_X11_rate 68 [(.aload_n 0, 1, 0, 0, none, 0), (.iload_n 2, 1, 2, 0, none, 0)] 70 = true := by decide +kernel
theorem b_X11_rate_73 : dkM m_X11_rate 73 [(.ireturn, 1, 0, 0, none, 0)] 74 = true := by decide +kernel
theorem b_X11_rate_74 : dkM m_X11_rate 74 [(.aload_n 0, 1, 0, 0, none, 0), (.dup, 1, 0, 0, none, 0), (.getfield 220, 3, 9, 9, some none, 0), (.ldc2_w 237, 3, 1000, 0, none, 0), (.ladd, 1, 0, 0, none, 0), (.putfield 220, 3, 9, 9, some none, 0), (.iconst 2, 1, 0, 0, none, 2), (.aload_n 0, 1, 0, 0, none, 0), (.iload_n 2, 1, 2, 0, none, 0)] 89 = true := by decide +kernel
theorem b_X11_rate_92 : dkM m_X11_rate 92 [(.imul, 1, 0, 0, none, 0), (.ireturn, 1, 0, 0, none, 0)] 94 = true := by decide +kernel
theorem b_X11_rate_94 : dkM m_X11_rate 94 [(.aload_n 0, 1, 0, 0, none, 0), (.dup, 1, 0, 0, none, 0), (.getfield 220, 3, 9, 9, some none, 0), (.ldc2_w 239, 3, 10000, 0, none, 0), (.ladd, 1, 0, 0, none, 0), (.putfield 220, 3, 9, 9, some none, 0), (.aload_n 0, 1, 0, 0, none, 0), (.iload_n 2, 1, 2, 0, none, 0)] 108 = true := by decide +kernel
theorem b_X11_rate_111 : dkM m_X11_rate 111 [(.iload_n 2, 1, 2, 0, none, 0), (.iadd, 1, 0, 0, none, 0), (.ireturn, 1, 0, 0, none, 0)] 114 = true := by decide +kernel
theorem b_X11_rate_114 : dkM m_X11_rate 114 [(.aload_n 0, 1, 0, 0, none, 0), (.dup, 1, 0, 0, none, 0), (.getfield 220, 3, 9, 9, some none, 0), (.ldc2_w 241, 3, 100000, 0, none, 0), (.ladd, 1, 0, 0, none, 0), (.putfield 220, 3, 9, 9, some none, 0), (.aload_n 0, 1, 0, 0, none, 0), (.iload_n 2, 1, 2, 0, none, 0)] 128 = true := by decide +kernel
theorem b_X11_rate_131 : dkM m_X11_rate 131 [(.aload_n 0, 1, 0, 0, none, 0), (.getfield 20, 3, 9, 4, some (some 3), 0), (.iconst 0, 1, 0, 0, none, 0), (.iaload, 1, 0, 0, none, 0), (.iadd, 1, 0, 0, none, 0), (.ireturn, 1, 0, 0, none, 0)] 139 = true := by decide +kernel
theorem k_X11_rate_3 : csB m_X11_rate m_X11_in 3 51 3 833 68 831 832 = true := by decide +kernel
theorem k_X11_rate_11 : cvB m_X11_rate m_X11_isArmy 11 123 9 1 893 68 890 892 30 = true := by decide +kernel
theorem k_X11_rate_58 : cvB m_X11_rate m_X11_troopRate 58 226 9 1 1068 68 1065 1067 55 = true := by decide +kernel
theorem k_X11_rate_64 : cvB m_X11_rate m_X11_archersRate 64 231 9 1 1072 68 1069 1071 56 = true := by decide +kernel
theorem k_X11_rate_70 : cvB m_X11_rate m_X11_siegeRate 70 234 9 1 1077 68 1074 1076 57 = true := by decide +kernel
theorem k_X11_rate_89 : cvB m_X11_rate m_X11_archersRate 89 231 9 1 1072 68 1069 1071 56 = true := by decide +kernel
theorem k_X11_rate_108 : cvB m_X11_rate m_X11_siegeRate 108 234 9 1 1077 68 1074 1076 57 = true := by decide +kernel
theorem k_X11_rate_128 : cvB m_X11_rate m_X11_troopRate 128 226 9 1 1068 68 1065 1067 55 = true := by decide +kernel
theorem s_X11_rate_21 : tswB cX11_rate 21 93 0 4 #[35, 41, 47, 53, 73] 35 [(0, 56), (1, 62), (2, 68), (3, 74), (4, 94)] 114 = true := by decide +kernel
theorem b_X11_keep_0 : dkM m_X11_keep 0 [(.iload_n 1, 1, 1, 0, none, 0), (.iconst 0, 1, 0, 0, none, 0), (.iconst 1, 1, 0, 0, none, 1)] 3 = true := by decide +kernel
theorem b_X11_keep_6 : dkM m_X11_keep 6 [(.ifCond .ne 5, 3, 11, 9, none, 0)] 9 = true := by decide +kernel
theorem b_X11_keep_9 : dkM m_X11_keep 9 [(.iconst (-1), 1, 0, 0, none, -1), (.ireturn, 1, 0, 0, none, 0)] 11 = true := by decide +kernel
theorem b_X11_keep_11 : dkM m_X11_keep 11 [(.iconst 0, 1, 0, 0, none, 0), (.istore_n 2, 1, 2, 0, none, 0)] 13 = true := by decide +kernel
theorem b_X11_keep_13 : dkM m_X11_keep 13 [(.iload_n 2, 1, 2, 0, none, 0), (.bipush 67, 2, 0, 0, none, 67), (.if_icmp .ge 26, 3, 42, 19, none, 0)] 19 = true := by decide +kernel
theorem b_X11_keep_19 : dkM m_X11_keep 19 [(.aload_n 0, 1, 0, 0, none, 0), (.getfield 26, 3, 9, 7, some (some 5), 0), (.bipush 67, 2, 0, 0, none, 67), (.iload_n 1, 1, 1, 0, none, 0), (.imul, 1, 0, 0, none, 0), (.iload_n 2, 1, 2, 0, none, 0), (.iadd, 1, 0, 0, none, 0), (.aload_n 0, 1, 0, 0, none, 0), (.getfield 20, 3, 9, 4, some (some 3), 0), (.iload_n 2, 1, 2, 0, none, 0), (.iaload, 1, 0, 0, none, 0), (.iastore, 1, 0, 0, none, 0), (.iinc 2 1, 3, 2, 0, none, 1), (.goto (-26), 3, 13, 0, none, 0)] 42 = true := by decide +kernel
theorem b_X11_keep_42 : dkM m_X11_keep 42 [(.aload_n 0, 1, 0, 0, none, 0), (.getfield 29, 3, 9, 8, some (some 6), 0), (.iload_n 1, 1, 1, 0, none, 0), (.iconst 1, 1, 0, 0, none, 1), (.bastore, 1, 0, 0, none, 0), (.aload_n 0, 1, 0, 0, none, 0), (.getfield 20, 3, 9, 4, some (some 3), 0), (.iconst 0, 1, 0, 0, none, 0), (.iaload, 1, 0, 0, none, 0), (.ireturn, 1, 0, 0, none, 0)] 56 = true := by decide +kernel
theorem k_X11_keep_3 : csB m_X11_keep m_X11_in 3 51 3 833 68 831 832 = true := by decide +kernel
theorem b_X11_back_0 : dkM m_X11_back 0 [(.iload_n 1, 1, 1, 0, none, 0), (.iconst 0, 1, 0, 0, none, 0), (.iconst 1, 1, 0, 0, none, 1)] 3 = true := by decide +kernel
theorem b_X11_back_6 : dkM m_X11_back 6 [(.ifCond .ne 5, 3, 11, 9, none, 0)] 9 = true := by decide +kernel
theorem b_X11_back_9 : dkM m_X11_back 9 [(.iconst (-1), 1, 0, 0, none, -1), (.ireturn, 1, 0, 0, none, 0)] 11 = true := by decide +kernel
theorem b_X11_back_11 : dkM m_X11_back 11 [(.aload_n 0, 1, 0, 0, none, 0), (.getfield 29, 3, 9, 8, some (some 6), 0), (.iload_n 1, 1, 1, 0, none, 0), (.baload, 1, 0, 0, none, 0), (.ifCond .ne 6, 3, 23, 20, none, 0)] 20 = true := by decide +kernel
theorem b_X11_back_20 : dkM m_X11_back 20 [(.bipush (-2), 2, 0, 0, none, -2), (.ireturn, 1, 0, 0, none, 0)] 23 = true := by decide +kernel
theorem b_X11_back_23 : dkM m_X11_back 23 [(.iconst 0, 1, 0, 0, none, 0), (.istore_n 2, 1, 2, 0, none, 0)] 25 = true := by decide +kernel
theorem b_X11_back_25 : dkM m_X11_back 25 [(.iload_n 2, 1, 2, 0, none, 0), (.bipush 67, 2, 0, 0, none, 67), (.if_icmp .ge 26, 3, 54, 31, none, 0)] 31 = true := by decide +kernel
theorem b_X11_back_31 : dkM m_X11_back 31 [(.aload_n 0, 1, 0, 0, none, 0), (.getfield 20, 3, 9, 4, some (some 3), 0), (.iload_n 2, 1, 2, 0, none, 0), (.aload_n 0, 1, 0, 0, none, 0), (.getfield 26, 3, 9, 7, some (some 5), 0), (.bipush 67, 2, 0, 0, none, 67), (.iload_n 1, 1, 1, 0, none, 0), (.imul, 1, 0, 0, none, 0), (.iload_n 2, 1, 2, 0, none, 0), (.iadd, 1, 0, 0, none, 0), (.iaload, 1, 0, 0, none, 0), (.iastore, 1, 0, 0, none, 0), (.iinc 2 1, 3, 2, 0, none, 1), (.goto (-26), 3, 25, 0, none, 0)] 54 = true := by decide +kernel
theorem b_X11_back_54 : dkM m_X11_back 54 [(.aload_n 0, 1, 0, 0, none, 0), (.iconst 0, 1, 0, 0, none, 0), (.putfield 116, 3, 9, 6, none, 0), (.aload_n 0, 1, 0, 0, none, 0), (.getfield 20, 3, 9, 4, some (some 3), 0), (.iconst 0, 1, 0, 0, none, 0), (.iaload, 1, 0, 0, none, 0), (.ireturn, 1, 0, 0, none, 0)] 66 = true := by decide +kernel
theorem k_X11_back_3 : csB m_X11_back m_X11_in 3 51 3 833 68 831 832 = true := by decide +kernel
theorem b_X11_count_0 : dkM m_X11_count 0 [(.iload_n 1, 1, 1, 0, none, 0)] 1 = true := by decide +kernel
theorem b_X11_count_32 : dkM m_X11_count 32 [(.aload_n 0, 1, 0, 0, none, 0), (.getfield 7, 3, 9, 0, none, 0), (.ireturn, 1, 0, 0, none, 0)] 37 = true := by decide +kernel
theorem b_X11_count_37 : dkM m_X11_count 37 [(.aload_n 0, 1, 0, 0, none, 0), (.getfield 55, 3, 9, 2, none, 0), (.ireturn, 1, 0, 0, none, 0)] 42 = true := by decide +kernel
theorem b_X11_count_42 : dkM m_X11_count 42 [(.aload_n 0, 1, 0, 0, none, 0), (.getfield 20, 3, 9, 4, some (some 3), 0), (.bipush 15, 2, 0, 0, none, 15), (.iaload, 1, 0, 0, none, 0), (.ireturn, 1, 0, 0, none, 0)] 50 = true := by decide +kernel
theorem b_X11_count_50 : dkM m_X11_count 50 [(.aload_n 0, 1, 0, 0, none, 0), (.getfield 58, 3, 9, 11, none, 0), (.ireturn, 1, 0, 0, none, 0)] 55 = true := by decide +kernel
theorem b_X11_count_55 : dkM m_X11_count 55 [(.iconst (-1), 1, 0, 0, none, -1), (.ireturn, 1, 0, 0, none, 0)] 57 = true := by decide +kernel
theorem s_X11_count_1 : tswB cX11_count 1 54 0 3 #[31, 36, 41, 49] 31 [(0, 32), (1, 37), (2, 42), (3, 50)] 55 = true := by decide +kernel
theorem b_X11_trace_0 : dkM m_X11_trace 0 [(.aload_n 0, 1, 0, 0, none, 0), (.getfield 220, 3, 9, 9, some none, 0), (.lreturn, 1, 0, 0, none, 0)] 5 = true := by decide +kernel
