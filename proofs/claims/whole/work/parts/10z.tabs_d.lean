def minI (x y : Int32) : Int32 := if y < x then y else x
def mnB (M : MD) (pc idx p1 p2 p3 p4 : Nat) : Bool := decide (decode M.2.2.1 pc = .ok (.invokestatic idx, 3)) && (decide (1 ≤ M.2.2.2.2.2.1) && (decide (8 + 13 ≤ M.2.2.2.2.2.2) && (atB p1 (Cond.methodLink (ownS M.1) idx Lib.Math.min.name) && (atB p2 (Cond.static Lib.Math.min.name) && (atB p3 (Cond.initialized "java/lang/Math") && atB p4 (Cond.code Lib.Math.min.name Lib.Math.min.code 2 (some .int)))))))
theorem P_min {M : MD} {Q : Option Value → St → Prop} {pc idx p1 p2 p3 p4 : Nat} (hB : mnB M pc idx p1 p2 p3 p4 = true) {x y : Int32} {L st : List Value} {σ : St} (hroom : roomB st = true)
    (k : PW M Q (pc + 3) L (.int (minI x y) :: st) σ) : PW M Q pc L (.int y :: .int x :: st) σ := by
  intro p l e s m args below meth c D B hC hr hlk H locs ls hP hS hl
  simp only [mnB, Bool.and_eq_true, decide_eq_true_eq] at hB
  obtain ⟨h1, h2, h3, h4, h5, h6, h7⟩ := hB
  obtain ⟨⟨hx0, hb, hml, hown, hts⟩, hKK⟩ := id hC
  exact va_mmin hx0 hb (by rw [hl.1.1]) hown (hts _ (atB_ok h4 rfl)) (hts _ (atB_ok h5 rfl)) (hts _ (atB_ok h6 rfl)) (hts _ (atB_ok h7 rfl)) h2 (Nat.le_trans (Nat.add_le_add_right (room_cv hroom) _) h3) (Nat.zero_le _) (Nat.zero_le _) h1 (k p l e s m args below meth c D B hC hr hlk H locs ls hP hS hl)
theorem n_X1_fightAt_12 : mnB m_X1_fightAt 12 39 562 533 72 534 = true := by decide +kernel
theorem n_X1_loseAt_46 : mnB m_X1_loseAt 46 39 562 533 72 534 = true := by decide +kernel
theorem n_X8_remember_47 : mnB m_X8_remember 47 29 532 533 72 534 = true := by decide +kernel
theorem r_X0_confirm_1 : lswB m_X0_confirm.2.2.1 1 64 #[(0, 27), (1, 44)] 27 [(0, 28), (1, 45)] 65 = true := by decide +kernel
theorem r_X6_obeys_1 : lswB m_X6_obeys.2.2.1 1 51 #[(0, 27), (2, 41)] 27 [(0, 28), (2, 42)] 52 = true := by decide +kernel
theorem r_X9_readItem_4 : lswB m_X9_readItem.2.2.1 4 122 #[(97, 66), (102, 44), (112, 94), (114, 61)] 44 [(97, 70), (102, 48), (112, 98), (114, 65)] 126 = true := by decide +kernel
theorem r_X10_army_17 : tswB m_X10_army.2.2.1 17 66 0 2 #[27, 40, 53] 27 [(0, 44), (1, 57), (2, 70)] 83 = true := by decide +kernel
theorem r_X10_page_17 : tswB m_X10_page.2.2.1 17 96 0 4 #[35, 48, 61, 74, 87] 35 [(0, 52), (1, 65), (2, 78), (3, 91), (4, 104)] 113 = true := by decide +kernel
theorem r_X10_now_1 : tswB m_X10_now.2.2.1 1 99 0 5 #[39, 47, 57, 67, 79, 91] 39 [(0, 40), (1, 48), (2, 58), (3, 68), (4, 80), (5, 92)] 100 = true := by decide +kernel
theorem r_X10_written_15 : tswB m_X10_written.2.2.1 15 63 0 2 #[25, 38, 51] 25 [(0, 40), (1, 53), (2, 66)] 78 = true := by decide +kernel
theorem r_X10_rate_18 : tswB m_X10_rate.2.2.1 18 74 0 5 #[38, 44, 50, 56, 62, 68] 38 [(0, 56), (1, 62), (2, 68), (3, 74), (4, 80), (5, 86)] 92 = true := by decide +kernel
theorem r_X10_count_1 : tswB m_X10_count.2.2.1 1 69 0 3 #[31, 39, 50, 61] 31 [(0, 32), (1, 40), (2, 51), (3, 62)] 70 = true := by decide +kernel
theorem r_X11_rate_21 : tswB m_X11_rate.2.2.1 21 93 0 4 #[35, 41, 47, 53, 73] 35 [(0, 56), (1, 62), (2, 68), (3, 74), (4, 94)] 114 = true := by decide +kernel
theorem r_X11_count_1 : tswB m_X11_count.2.2.1 1 54 0 3 #[31, 36, 41, 49] 31 [(0, 32), (1, 37), (2, 42), (3, 50)] 55 = true := by decide +kernel
