section LAW
variable {p : Program} {l : Launch} {e : Env} {s : State} {m : MethodId} {below : List Frame} {meth : Method} {c : Code} {D : DD} {B : Nat × Nat} {Ls : Nat} {xs : Nat → Int32} {i : Nat} {σ : St}
theorem law_type (hC : LC p s m meth c D B Ls xs) (hi : i + 5 ≤ Ls) (hI : Inv σ) (K : ∀ τ, Inv τ → PL p l e s m below meth c D B 774 (LL i) [] τ) : PL p l e s m below meth c D B 148 (LL i) [] σ := by
  refine L_aload hC (i := 1) (a := 0) (by decide +kernel) rfl ?_
  refine L_arg hC 1 (by decide +kernel) (by omega) ?_
  refine L_callI hC (show cvB m_law m_X10_type 154 13 8 1 309 59 306 307 308 = true by decide +kernel) (a := 0) [.int (xs (i + 1))] (by decide +kernel) (both_type σ hI) rfl rfl rfl (fun r t hq => ?_)
  refine L_aload hC (i := 2) (a := 208) (by decide +kernel) rfl ?_
  refine L_arg hC 1 (by decide +kernel) (by omega) ?_
  refine L_callI hC (show cvB m_law m_X11_type 163 17 9 1 830 68 827 828 829 = true by decide +kernel) (a := 208) [.int (xs (i + 1))] (by decide +kernel) hq rfl rfl rfl (fun r2 u hq2 => ?_)
  obtain ⟨rfl, hJ⟩ := hq2
  exact L_same (off := 608) hC 774 (by decide +kernel) (by decide) (K _ hJ)
theorem law_clear (hC : LC p s m meth c D B Ls xs) (hi : i + 5 ≤ Ls) (hI : Inv σ) (K : ∀ τ, Inv τ → PL p l e s m below meth c D B 774 (LL i) [] τ) : PL p l e s m below meth c D B 171 (LL i) [] σ := by
  refine L_aload hC (i := 1) (a := 0) (by decide +kernel) rfl ?_
  refine L_callI hC (show cvB m_law m_X10_clear 172 18 8 0 317 59 314 315 316 = true by decide +kernel) (a := 0) [] (by decide +kernel) (both_clear σ hI) rfl rfl rfl (fun r t hq => ?_)
  refine L_aload hC (i := 2) (a := 208) (by decide +kernel) rfl ?_
  refine L_callI hC (show cvB m_law m_X11_clear 176 22 9 0 837 68 834 835 836 = true by decide +kernel) (a := 208) [] (by decide +kernel) hq rfl rfl rfl (fun r2 u hq2 => ?_)
  obtain ⟨rfl, hJ⟩ := hq2
  exact L_same (off := 595) hC 774 (by decide +kernel) (by decide) (K _ hJ)
theorem law_land (hC : LC p s m meth c D B Ls xs) (hi : i + 5 ≤ Ls) (hI : Inv σ) (K : ∀ τ, Inv τ → PL p l e s m below meth c D B 774 (LL i) [] τ) : PL p l e s m below meth c D B 184 (LL i) [] σ := by
  refine L_aload hC (i := 1) (a := 0) (by decide +kernel) rfl ?_
  refine L_callI hC (show cvB m_law m_X10_land 185 23 8 0 321 59 318 319 320 = true by decide +kernel) (a := 0) [] (by decide +kernel) (both_land σ hI) rfl rfl rfl (fun r t hq => ?_)
  refine L_aload hC (i := 2) (a := 208) (by decide +kernel) rfl ?_
  refine L_callI hC (show cvB m_law m_X11_land 189 26 9 0 841 68 838 839 840 = true by decide +kernel) (a := 208) [] (by decide +kernel) hq rfl rfl rfl (fun r2 u hq2 => ?_)
  obtain ⟨rfl, hJ⟩ := hq2
  exact L_same (off := 582) hC 774 (by decide +kernel) (by decide) (K _ hJ)
theorem law_roads (hC : LC p s m meth c D B Ls xs) (hi : i + 5 ≤ Ls) (hI : Inv σ) (K : ∀ τ, Inv τ → PL p l e s m below meth c D B 774 (LL i) [] τ) : PL p l e s m below meth c D B 197 (LL i) [] σ := by
  refine L_aload hC (i := 1) (a := 0) (by decide +kernel) rfl ?_
  refine L_arg hC 1 (by decide +kernel) (by omega) ?_
  refine L_callI hC (show cvB m_law m_X10_roads 203 27 8 1 435 59 432 433 434 = true by decide +kernel) (a := 0) [.int (xs (i + 1))] (by decide +kernel) (both_roads σ hI) rfl rfl rfl (fun r t hq => ?_)
  refine L_aload hC (i := 2) (a := 208) (by decide +kernel) rfl ?_
  refine L_arg hC 1 (by decide +kernel) (by omega) ?_
  refine L_callI hC (show cvB m_law m_X11_roads 212 30 9 1 881 68 878 879 880 = true by decide +kernel) (a := 208) [.int (xs (i + 1))] (by decide +kernel) hq rfl rfl rfl (fun r2 u hq2 => ?_)
  obtain ⟨rfl, hJ⟩ := hq2
  exact L_same (off := 559) hC 774 (by decide +kernel) (by decide) (K _ hJ)
theorem law_army (hC : LC p s m meth c D B Ls xs) (hi : i + 5 ≤ Ls) (hI : Inv σ) (K : ∀ τ, Inv τ → PL p l e s m below meth c D B 774 (LL i) [] τ) : PL p l e s m below meth c D B 220 (LL i) [] σ := by
  refine L_aload hC (i := 1) (a := 0) (by decide +kernel) rfl ?_
  refine L_arg hC 1 (by decide +kernel) (by omega) ?_
  refine L_arg hC 2 (by decide +kernel) (by omega) ?_
  refine L_callI hC (show cvB m_law m_X10_army 231 31 8 2 444 59 441 442 443 = true by decide +kernel) (a := 0) [.int (xs (i + 1)), .int (xs (i + 2))] (by decide +kernel) (both_army σ hI) rfl rfl rfl (fun r t hq => ?_)
  refine L_aload hC (i := 2) (a := 208) (by decide +kernel) rfl ?_
  refine L_arg hC 1 (by decide +kernel) (by omega) ?_
  refine L_arg hC 2 (by decide +kernel) (by omega) ?_
  refine L_callI hC (show cvB m_law m_X11_army 245 35 9 2 889 68 886 887 888 = true by decide +kernel) (a := 208) [.int (xs (i + 1)), .int (xs (i + 2))] (by decide +kernel) hq rfl rfl rfl (fun r2 u hq2 => ?_)
  obtain ⟨rfl, hJ⟩ := hq2
  exact L_same (off := 526) hC 774 (by decide +kernel) (by decide) (K _ hJ)
theorem law_page (hC : LC p s m meth c D B Ls xs) (hi : i + 5 ≤ Ls) (hI : Inv σ) (K : ∀ τ, Inv τ → PL p l e s m below meth c D B 774 (LL i) [] τ) : PL p l e s m below meth c D B 253 (LL i) [] σ := by
  refine L_aload hC (i := 1) (a := 0) (by decide +kernel) rfl ?_
  refine L_arg hC 1 (by decide +kernel) (by omega) ?_
  refine L_arg hC 2 (by decide +kernel) (by omega) ?_
  refine L_callI hC (show cvB m_law m_X10_page 264 36 8 2 452 59 449 450 451 = true by decide +kernel) (a := 0) [.int (xs (i + 1)), .int (xs (i + 2))] (by decide +kernel) (both_page σ hI) rfl rfl rfl (fun r t hq => ?_)
  refine L_aload hC (i := 2) (a := 208) (by decide +kernel) rfl ?_
  refine L_arg hC 1 (by decide +kernel) (by omega) ?_
  refine L_arg hC 2 (by decide +kernel) (by omega) ?_
  refine L_callI hC (show cvB m_law m_X11_page 278 39 9 2 897 68 894 895 896 = true by decide +kernel) (a := 208) [.int (xs (i + 1)), .int (xs (i + 2))] (by decide +kernel) hq rfl rfl rfl (fun r2 u hq2 => ?_)
  obtain ⟨rfl, hJ⟩ := hq2
  exact L_same (off := 493) hC 774 (by decide +kernel) (by decide) (K _ hJ)
theorem law_now (hC : LC p s m meth c D B Ls xs) (hi : i + 5 ≤ Ls) (hI : Inv σ) (K : ∀ τ, Inv τ → PL p l e s m below meth c D B 774 (LL i) [] τ) : PL p l e s m below meth c D B 286 (LL i) [] σ := by
  refine L_aload hC (i := 1) (a := 0) (by decide +kernel) rfl ?_
  refine L_arg hC 1 (by decide +kernel) (by omega) ?_
  refine L_callI hC (show cvB m_law m_X10_now 292 40 8 1 490 59 487 488 489 = true by decide +kernel) (a := 0) [.int (xs (i + 1))] (by decide +kernel) (both_now σ hI) rfl rfl rfl (fun r t hq => ?_)
  refine L_aload hC (i := 2) (a := 208) (by decide +kernel) rfl ?_
  refine L_arg hC 1 (by decide +kernel) (by omega) ?_
  refine L_callI hC (show cvB m_law m_X11_now 301 43 9 1 924 68 921 922 923 = true by decide +kernel) (a := 208) [.int (xs (i + 1))] (by decide +kernel) hq rfl rfl rfl (fun r2 u hq2 => ?_)
  obtain ⟨rfl, hJ⟩ := hq2
  exact L_same (off := 470) hC 774 (by decide +kernel) (by decide) (K _ hJ)
theorem law_written (hC : LC p s m meth c D B Ls xs) (hi : i + 5 ≤ Ls) (hI : Inv σ) (K : ∀ τ, Inv τ → PL p l e s m below meth c D B 774 (LL i) [] τ) : PL p l e s m below meth c D B 309 (LL i) [] σ := by
  refine L_aload hC (i := 1) (a := 0) (by decide +kernel) rfl ?_
  refine L_arg hC 1 (by decide +kernel) (by omega) ?_
  refine L_arg hC 2 (by decide +kernel) (by omega) ?_
  refine L_callI hC (show cvB m_law m_X10_written 320 44 8 2 498 59 495 496 497 = true by decide +kernel) (a := 0) [.int (xs (i + 1)), .int (xs (i + 2))] (by decide +kernel) (both_written σ hI) rfl rfl rfl (fun r t hq => ?_)
  refine L_aload hC (i := 2) (a := 208) (by decide +kernel) rfl ?_
  refine L_arg hC 1 (by decide +kernel) (by omega) ?_
  refine L_arg hC 2 (by decide +kernel) (by omega) ?_
  refine L_callI hC (show cvB m_law m_X11_written 334 47 9 2 932 68 929 930 931 = true by decide +kernel) (a := 208) [.int (xs (i + 1)), .int (xs (i + 2))] (by decide +kernel) hq rfl rfl rfl (fun r2 u hq2 => ?_)
  obtain ⟨rfl, hJ⟩ := hq2
  exact L_same (off := 437) hC 774 (by decide +kernel) (by decide) (K _ hJ)
theorem law_orders (hC : LC p s m meth c D B Ls xs) (hi : i + 5 ≤ Ls) (hI : Inv σ) (K : ∀ τ, Inv τ → PL p l e s m below meth c D B 774 (LL i) [] τ) : PL p l e s m below meth c D B 342 (LL i) [] σ := by
  refine L_aload hC (i := 1) (a := 0) (by decide +kernel) rfl ?_
  refine L_arg hC 1 (by decide +kernel) (by omega) ?_
  refine L_arg hC 2 (by decide +kernel) (by omega) ?_
  refine L_callI hC (show cvB m_law m_X10_orders 353 48 8 2 506 59 503 504 505 = true by decide +kernel) (a := 0) [.int (xs (i + 1)), .int (xs (i + 2))] (by decide +kernel) (both_orders σ hI) rfl rfl rfl (fun r t hq => ?_)
  refine L_aload hC (i := 2) (a := 208) (by decide +kernel) rfl ?_
  refine L_arg hC 1 (by decide +kernel) (by omega) ?_
  refine L_arg hC 2 (by decide +kernel) (by omega) ?_
  refine L_callI hC (show cvB m_law m_X11_orders 367 51 9 2 937 68 934 935 936 = true by decide +kernel) (a := 208) [.int (xs (i + 1)), .int (xs (i + 2))] (by decide +kernel) hq rfl rfl rfl (fun r2 u hq2 => ?_)
  obtain ⟨rfl, hJ⟩ := hq2
  exact L_same (off := 404) hC 774 (by decide +kernel) (by decide) (K _ hJ)
theorem law_day (hC : LC p s m meth c D B Ls xs) (hi : i + 5 ≤ Ls) (hI : Inv σ) (K : ∀ τ, Inv τ → PL p l e s m below meth c D B 774 (LL i) [] τ) : PL p l e s m below meth c D B 375 (LL i) [] σ := by
  refine L_aload hC (i := 1) (a := 0) (by decide +kernel) rfl ?_
  refine L_callI hC (show cvB m_law m_X10_day 376 52 8 0 538 59 535 536 537 = true by decide +kernel) (a := 0) [] (by decide +kernel) (both_day σ hI) rfl rfl rfl (fun r t hq => ?_)
  refine L_aload hC (i := 2) (a := 208) (by decide +kernel) rfl ?_
  refine L_callI hC (show cvB m_law m_X11_day 380 55 9 0 964 68 961 962 963 = true by decide +kernel) (a := 208) [] (by decide +kernel) hq rfl rfl rfl (fun r2 u hq2 => ?_)
  obtain ⟨rfl, hJ⟩ := hq2
  exact L_same (off := 391) hC 774 (by decide +kernel) (by decide) (K _ hJ)
theorem law_writes (hC : LC p s m meth c D B Ls xs) (hi : i + 5 ≤ Ls) (hI : Inv σ) (K : ∀ τ, Inv τ → PL p l e s m below meth c D B 774 (LL i) [] τ) : PL p l e s m below meth c D B 388 (LL i) [] σ := by
  refine L_aload hC (i := 1) (a := 0) (by decide +kernel) rfl ?_
  refine L_arg hC 1 (by decide +kernel) (by omega) ?_
  refine L_arg hC 2 (by decide +kernel) (by omega) ?_
  refine L_arg hC 3 (by decide +kernel) (by omega) ?_
  refine L_arg hC 4 (by decide +kernel) (by omega) ?_
  refine L_callI hC (show cvB m_law m_X10_writes 409 56 8 4 585 59 582 583 584 = true by decide +kernel) (a := 0) [.int (xs (i + 1)), .int (xs (i + 2)), .int (xs (i + 3)), .int (xs (i + 4))] (by decide +kernel) (both_writes σ hI) rfl rfl rfl (fun r t hq => ?_)
  refine L_aload hC (i := 2) (a := 208) (by decide +kernel) rfl ?_
  refine L_arg hC 1 (by decide +kernel) (by omega) ?_
  refine L_arg hC 2 (by decide +kernel) (by omega) ?_
  refine L_arg hC 3 (by decide +kernel) (by omega) ?_
  refine L_arg hC 4 (by decide +kernel) (by omega) ?_
  refine L_callI hC (show cvB m_law m_X11_writes 433 60 9 4 987 68 984 985 986 = true by decide +kernel) (a := 208) [.int (xs (i + 1)), .int (xs (i + 2)), .int (xs (i + 3)), .int (xs (i + 4))] (by decide +kernel) hq rfl rfl rfl (fun r2 u hq2 => ?_)
  obtain ⟨rfl, hJ⟩ := hq2
  exact L_same (off := 338) hC 774 (by decide +kernel) (by decide) (K _ hJ)
theorem law_strikes (hC : LC p s m meth c D B Ls xs) (hi : i + 5 ≤ Ls) (hI : Inv σ) (K : ∀ τ, Inv τ → PL p l e s m below meth c D B 774 (LL i) [] τ) : PL p l e s m below meth c D B 441 (LL i) [] σ := by
  refine L_aload hC (i := 1) (a := 0) (by decide +kernel) rfl ?_
  refine L_arg hC 1 (by decide +kernel) (by omega) ?_
  refine L_callI hC (show cvB m_law m_X10_strikes 447 61 8 1 590 59 587 588 589 = true by decide +kernel) (a := 0) [.int (xs (i + 1))] (by decide +kernel) (both_strikes σ hI) rfl rfl rfl (fun r t hq => ?_)
  refine L_aload hC (i := 2) (a := 208) (by decide +kernel) rfl ?_
  refine L_arg hC 1 (by decide +kernel) (by omega) ?_
  refine L_callI hC (show cvB m_law m_X11_strikes 456 64 9 1 991 68 988 989 990 = true by decide +kernel) (a := 208) [.int (xs (i + 1))] (by decide +kernel) hq rfl rfl rfl (fun r2 u hq2 => ?_)
  obtain ⟨rfl, hJ⟩ := hq2
  exact L_same (off := 315) hC 774 (by decide +kernel) (by decide) (K _ hJ)
theorem law_undo (hC : LC p s m meth c D B Ls xs) (hi : i + 5 ≤ Ls) (hI : Inv σ) (K : ∀ τ, Inv τ → PL p l e s m below meth c D B 774 (LL i) [] τ) : PL p l e s m below meth c D B 464 (LL i) [] σ := by
  refine L_aload hC (i := 1) (a := 0) (by decide +kernel) rfl ?_
  refine L_callI hC (show cvB m_law m_X10_undo 465 65 8 0 599 59 596 597 598 = true by decide +kernel) (a := 0) [] (by decide +kernel) (both_undo σ hI) rfl rfl rfl (fun r t hq => ?_)
  refine L_aload hC (i := 2) (a := 208) (by decide +kernel) rfl ?_
  refine L_callI hC (show cvB m_law m_X11_undo 469 68 9 0 995 68 992 993 994 = true by decide +kernel) (a := 208) [] (by decide +kernel) hq rfl rfl rfl (fun r2 u hq2 => ?_)
  obtain ⟨rfl, hJ⟩ := hq2
  exact L_same (off := 302) hC 774 (by decide +kernel) (by decide) (K _ hJ)
theorem law_dutiful (hC : LC p s m meth c D B Ls xs) (hi : i + 5 ≤ Ls) (hI : Inv σ) (K : ∀ τ, Inv τ → PL p l e s m below meth c D B 774 (LL i) [] τ) : PL p l e s m below meth c D B 477 (LL i) [] σ := by
  refine L_aload hC (i := 1) (a := 0) (by decide +kernel) rfl ?_
  refine L_arg hC 1 (by decide +kernel) (by omega) ?_
  refine L_arg hC 2 (by decide +kernel) (by omega) ?_
  refine L_callI hC (show cvB m_law m_X10_dutiful 488 69 8 2 607 59 604 605 606 = true by decide +kernel) (a := 0) [.int (xs (i + 1)), .int (xs (i + 2))] (by decide +kernel) (both_dutiful σ hI) rfl rfl rfl (fun r t hq => ?_)
  refine L_aload hC (i := 2) (a := 208) (by decide +kernel) rfl ?_
  refine L_arg hC 1 (by decide +kernel) (by omega) ?_
  refine L_arg hC 2 (by decide +kernel) (by omega) ?_
  refine L_callI hC (show cvB m_law m_X11_dutiful 502 72 9 2 999 68 996 997 998 = true by decide +kernel) (a := 208) [.int (xs (i + 1)), .int (xs (i + 2))] (by decide +kernel) hq rfl rfl rfl (fun r2 u hq2 => ?_)
  obtain ⟨rfl, hJ⟩ := hq2
  exact L_same (off := 269) hC 774 (by decide +kernel) (by decide) (K _ hJ)
theorem law_best (hC : LC p s m meth c D B Ls xs) (hi : i + 5 ≤ Ls) (hI : Inv σ) (K : ∀ τ, Inv τ → PL p l e s m below meth c D B 774 (LL i) [] τ) : PL p l e s m below meth c D B 510 (LL i) [] σ := by
  refine L_aload hC (i := 1) (a := 0) (by decide +kernel) rfl ?_
  refine L_arg hC 1 (by decide +kernel) (by omega) ?_
  refine L_arg hC 2 (by decide +kernel) (by omega) ?_
  refine L_arg hC 3 (by decide +kernel) (by omega) ?_
  refine L_callI hC (show cvB m_law m_X10_best 526 73 8 3 624 59 621 622 623 = true by decide +kernel) (a := 0) [.int (xs (i + 1)), .int (xs (i + 2)), .int (xs (i + 3))] (by decide +kernel) (both_best σ hI) rfl rfl rfl (fun r t hq => ?_)
  refine L_aload hC (i := 2) (a := 208) (by decide +kernel) rfl ?_
  refine L_arg hC 1 (by decide +kernel) (by omega) ?_
  refine L_arg hC 2 (by decide +kernel) (by omega) ?_
  refine L_arg hC 3 (by decide +kernel) (by omega) ?_
  refine L_callI hC (show cvB m_law m_X11_best 545 77 9 3 1011 68 1008 1009 1010 = true by decide +kernel) (a := 208) [.int (xs (i + 1)), .int (xs (i + 2)), .int (xs (i + 3))] (by decide +kernel) hq rfl rfl rfl (fun r2 u hq2 => ?_)
  obtain ⟨rfl, hJ⟩ := hq2
  exact L_same (off := 226) hC 774 (by decide +kernel) (by decide) (K _ hJ)
theorem law_readings (hC : LC p s m meth c D B Ls xs) (hi : i + 5 ≤ Ls) (hI : Inv σ) (K : ∀ τ, Inv τ → PL p l e s m below meth c D B 774 (LL i) [] τ) : PL p l e s m below meth c D B 553 (LL i) [] σ := by
  refine L_aload hC (i := 1) (a := 0) (by decide +kernel) rfl ?_
  refine L_callI hC (show cvB m_law m_X10_readings 554 78 8 0 628 59 625 626 627 = true by decide +kernel) (a := 0) [] (by decide +kernel) (both_readings σ hI) rfl rfl rfl (fun r t hq => ?_)
  refine L_aload hC (i := 2) (a := 208) (by decide +kernel) rfl ?_
  refine L_callI hC (show cvB m_law m_X11_readings 558 81 9 0 1036 68 1033 1034 1035 = true by decide +kernel) (a := 208) [] (by decide +kernel) hq rfl rfl rfl (fun r2 u hq2 => ?_)
  obtain ⟨rfl, hJ⟩ := hq2
  exact L_same (off := 213) hC 774 (by decide +kernel) (by decide) (K _ hJ)
theorem law_lost (hC : LC p s m meth c D B Ls xs) (hi : i + 5 ≤ Ls) (hI : Inv σ) (K : ∀ τ, Inv τ → PL p l e s m below meth c D B 774 (LL i) [] τ) : PL p l e s m below meth c D B 566 (LL i) [] σ := by
  refine L_aload hC (i := 1) (a := 0) (by decide +kernel) rfl ?_
  refine L_arg hC 1 (by decide +kernel) (by omega) ?_
  refine L_callI hC (show cvB m_law m_X10_lost 572 82 8 1 639 59 636 637 638 = true by decide +kernel) (a := 0) [.int (xs (i + 1))] (by decide +kernel) (both_lost σ hI) rfl rfl rfl (fun r t hq => ?_)
  refine L_aload hC (i := 2) (a := 208) (by decide +kernel) rfl ?_
  refine L_arg hC 1 (by decide +kernel) (by omega) ?_
  refine L_callI hC (show cvB m_law m_X11_lost 581 85 9 1 1040 68 1037 1038 1039 = true by decide +kernel) (a := 208) [.int (xs (i + 1))] (by decide +kernel) hq rfl rfl rfl (fun r2 u hq2 => ?_)
  obtain ⟨rfl, hJ⟩ := hq2
  exact L_same (off := 190) hC 774 (by decide +kernel) (by decide) (K _ hJ)
theorem law_clash (hC : LC p s m meth c D B Ls xs) (hi : i + 5 ≤ Ls) (hI : Inv σ) (K : ∀ τ, Inv τ → PL p l e s m below meth c D B 774 (LL i) [] τ) : PL p l e s m below meth c D B 589 (LL i) [] σ := by
  refine L_aload hC (i := 1) (a := 0) (by decide +kernel) rfl ?_
  refine L_callI hC (show cvB m_law m_X10_clash 590 86 8 0 647 59 644 645 646 = true by decide +kernel) (a := 0) [] (by decide +kernel) (both_clash σ hI) rfl rfl rfl (fun r t hq => ?_)
  refine L_aload hC (i := 2) (a := 208) (by decide +kernel) rfl ?_
  refine L_callI hC (show cvB m_law m_X11_clash 594 89 9 0 1044 68 1041 1042 1043 = true by decide +kernel) (a := 208) [] (by decide +kernel) hq rfl rfl rfl (fun r2 u hq2 => ?_)
  obtain ⟨rfl, hJ⟩ := hq2
  exact L_same (off := 177) hC 774 (by decide +kernel) (by decide) (K _ hJ)
theorem law_least (hC : LC p s m meth c D B Ls xs) (hi : i + 5 ≤ Ls) (hI : Inv σ) (K : ∀ τ, Inv τ → PL p l e s m below meth c D B 774 (LL i) [] τ) : PL p l e s m below meth c D B 602 (LL i) [] σ := by
  refine L_aload hC (i := 1) (a := 0) (by decide +kernel) rfl ?_
  refine L_arg hC 1 (by decide +kernel) (by omega) ?_
  refine L_callI hC (show cvB m_law m_X10_least 608 90 8 1 658 59 655 656 657 = true by decide +kernel) (a := 0) [.int (xs (i + 1))] (by decide +kernel) (both_least σ hI) rfl rfl rfl (fun r t hq => ?_)
  refine L_aload hC (i := 2) (a := 208) (by decide +kernel) rfl ?_
  refine L_arg hC 1 (by decide +kernel) (by omega) ?_
  refine L_callI hC (show cvB m_law m_X11_least 617 93 9 1 1052 68 1049 1050 1051 = true by decide +kernel) (a := 208) [.int (xs (i + 1))] (by decide +kernel) hq rfl rfl rfl (fun r2 u hq2 => ?_)
  obtain ⟨rfl, hJ⟩ := hq2
  exact L_same (off := 154) hC 774 (by decide +kernel) (by decide) (K _ hJ)
theorem law_march (hC : LC p s m meth c D B Ls xs) (hi : i + 5 ≤ Ls) (hI : Inv σ) (K : ∀ τ, Inv τ → PL p l e s m below meth c D B 774 (LL i) [] τ) : PL p l e s m below meth c D B 625 (LL i) [] σ := by
  refine L_aload hC (i := 1) (a := 0) (by decide +kernel) rfl ?_
  refine L_arg hC 1 (by decide +kernel) (by omega) ?_
  refine L_arg hC 2 (by decide +kernel) (by omega) ?_
  refine L_callI hC (show cvB m_law m_X10_march 636 94 8 2 674 59 671 672 673 = true by decide +kernel) (a := 0) [.int (xs (i + 1)), .int (xs (i + 2))] (by decide +kernel) (both_march' σ hI) rfl rfl rfl (fun r t hq => ?_)
  refine L_aload hC (i := 2) (a := 208) (by decide +kernel) rfl ?_
  refine L_arg hC 1 (by decide +kernel) (by omega) ?_
  refine L_arg hC 2 (by decide +kernel) (by omega) ?_
  refine L_callI hC (show cvB m_law m_X11_march 650 97 9 2 1060 68 1057 1058 1059 = true by decide +kernel) (a := 208) [.int (xs (i + 1)), .int (xs (i + 2))] (by decide +kernel) hq rfl rfl rfl (fun r2 u hq2 => ?_)
  obtain ⟨rfl, hJ⟩ := hq2
  exact L_same (off := 121) hC 774 (by decide +kernel) (by decide) (K _ hJ)
theorem law_rate (hC : LC p s m meth c D B Ls xs) (hi : i + 5 ≤ Ls) (hI : Inv σ) (K : ∀ τ, Inv τ → PL p l e s m below meth c D B 774 (LL i) [] τ) : PL p l e s m below meth c D B 658 (LL i) [] σ := by
  refine L_aload hC (i := 1) (a := 0) (by decide +kernel) rfl ?_
  refine L_arg hC 1 (by decide +kernel) (by omega) ?_
  refine L_arg hC 2 (by decide +kernel) (by omega) ?_
  refine L_callI hC (show cvB m_law m_X10_rate 669 98 8 2 686 59 683 684 685 = true by decide +kernel) (a := 0) [.int (xs (i + 1)), .int (xs (i + 2))] (by decide +kernel) (both_rate σ hI) rfl rfl rfl (fun r t hq => ?_)
  refine L_aload hC (i := 2) (a := 208) (by decide +kernel) rfl ?_
  refine L_arg hC 1 (by decide +kernel) (by omega) ?_
  refine L_arg hC 2 (by decide +kernel) (by omega) ?_
  refine L_callI hC (show cvB m_law m_X11_rate 683 101 9 2 1064 68 1061 1062 1063 = true by decide +kernel) (a := 208) [.int (xs (i + 1)), .int (xs (i + 2))] (by decide +kernel) hq rfl rfl rfl (fun r2 u hq2 => ?_)
  obtain ⟨rfl, hJ⟩ := hq2
  exact L_same (off := 88) hC 774 (by decide +kernel) (by decide) (K _ hJ)
theorem law_keep (hC : LC p s m meth c D B Ls xs) (hi : i + 5 ≤ Ls) (hI : Inv σ) (K : ∀ τ, Inv τ → PL p l e s m below meth c D B 774 (LL i) [] τ) : PL p l e s m below meth c D B 691 (LL i) [] σ := by
  refine L_aload hC (i := 1) (a := 0) (by decide +kernel) rfl ?_
  refine L_arg hC 1 (by decide +kernel) (by omega) ?_
  refine L_callI hC (show cvB m_law m_X10_keep 697 102 8 1 719 59 716 717 718 = true by decide +kernel) (a := 0) [.int (xs (i + 1))] (by decide +kernel) (both_keep σ hI) rfl rfl rfl (fun r t hq => ?_)
  refine L_aload hC (i := 2) (a := 208) (by decide +kernel) rfl ?_
  refine L_arg hC 1 (by decide +kernel) (by omega) ?_
  refine L_callI hC (show cvB m_law m_X11_keep 706 105 9 1 1085 68 1082 1083 1084 = true by decide +kernel) (a := 208) [.int (xs (i + 1))] (by decide +kernel) hq rfl rfl rfl (fun r2 u hq2 => ?_)
  obtain ⟨rfl, hJ⟩ := hq2
  exact L_same (off := 65) hC 774 (by decide +kernel) (by decide) (K _ hJ)
theorem law_back (hC : LC p s m meth c D B Ls xs) (hi : i + 5 ≤ Ls) (hI : Inv σ) (K : ∀ τ, Inv τ → PL p l e s m below meth c D B 774 (LL i) [] τ) : PL p l e s m below meth c D B 714 (LL i) [] σ := by
  refine L_aload hC (i := 1) (a := 0) (by decide +kernel) rfl ?_
  refine L_arg hC 1 (by decide +kernel) (by omega) ?_
  refine L_callI hC (show cvB m_law m_X10_back 720 106 8 1 733 59 730 731 732 = true by decide +kernel) (a := 0) [.int (xs (i + 1))] (by decide +kernel) (both_back σ hI) rfl rfl rfl (fun r t hq => ?_)
  refine L_aload hC (i := 2) (a := 208) (by decide +kernel) rfl ?_
  refine L_arg hC 1 (by decide +kernel) (by omega) ?_
  refine L_callI hC (show cvB m_law m_X11_back 729 109 9 1 1089 68 1086 1087 1088 = true by decide +kernel) (a := 208) [.int (xs (i + 1))] (by decide +kernel) hq rfl rfl rfl (fun r2 u hq2 => ?_)
  obtain ⟨rfl, hJ⟩ := hq2
  exact L_same (off := 42) hC 774 (by decide +kernel) (by decide) (K _ hJ)
theorem law_count (hC : LC p s m meth c D B Ls xs) (hi : i + 5 ≤ Ls) (hI : Inv σ) (K : ∀ τ, Inv τ → PL p l e s m below meth c D B 774 (LL i) [] τ) : PL p l e s m below meth c D B 737 (LL i) [] σ := by
  refine L_aload hC (i := 1) (a := 0) (by decide +kernel) rfl ?_
  refine L_arg hC 1 (by decide +kernel) (by omega) ?_
  refine L_callI hC (show cvB m_law m_X10_count 743 110 8 1 737 59 734 735 736 = true by decide +kernel) (a := 0) [.int (xs (i + 1))] (by decide +kernel) (both_count σ hI) rfl rfl rfl (fun r t hq => ?_)
  refine L_aload hC (i := 2) (a := 208) (by decide +kernel) rfl ?_
  refine L_arg hC 1 (by decide +kernel) (by omega) ?_
  refine L_callI hC (show cvB m_law m_X11_count 752 113 9 1 1093 68 1090 1091 1092 = true by decide +kernel) (a := 208) [.int (xs (i + 1))] (by decide +kernel) hq rfl rfl rfl (fun r2 u hq2 => ?_)
  obtain ⟨rfl, hJ⟩ := hq2
  exact L_same (off := 19) hC 774 (by decide +kernel) (by decide) (K _ hJ)
theorem law_trace (hC : LC p s m meth c D B Ls xs) (hi : i + 5 ≤ Ls) (hI : Inv σ) (K : ∀ τ, Inv τ → PL p l e s m below meth c D B 774 (LL i) [] τ) : PL p l e s m below meth c D B 760 (LL i) [] σ := by
  refine L_aload hC (i := 1) (a := 0) (by decide +kernel) rfl ?_
  refine L_call (as := []) hC (show cvB m_law m_X10_trace 761 114 8 0 741 59 738 739 740 = true by decide +kernel) (a := 0) (by decide +kernel) (Ret.toP t_X10_trace) rfl rfl rfl (fun v t hq => ?_)
  obtain ⟨rfl, rfl⟩ := hq
  refine L_aload hC (i := 2) (a := 208) (by decide +kernel) rfl ?_
  refine L_call (as := []) hC (show cvB m_law m_X11_trace 765 118 9 0 1097 68 1094 1095 1096 = true by decide +kernel) (a := 208) (by decide +kernel) (Ret.toP t_X11_trace) rfl rfl rfl (fun v u hq => ?_)
  obtain ⟨rfl, rfl⟩ := hq
  rw [← inv_trace hI]
  exact L_trace (off := 5) hC 774 (by decide +kernel) (by decide +kernel) (by decide) (K _ hI)
theorem law_tab : tswB code 32 742 0 24 #[116, 139, 152, 165, 188, 221, 254, 277, 310, 343, 356, 409, 432, 445, 478, 521, 534, 557, 570, 593, 626, 659, 682, 705, 728] 116 [(0, 148), (1, 171), (2, 184), (3, 197), (4, 220), (5, 253), (6, 286), (7, 309), (8, 342), (9, 375), (10, 388), (11, 441), (12, 464), (13, 477), (14, 510), (15, 553), (16, 566), (17, 589), (18, 602), (19, 625), (20, 658), (21, 691), (22, 714), (23, 737), (24, 760)] 774 = true := by decide +kernel
theorem law_body (hC : LC p s m meth c D B Ls xs) (hi : i + 5 ≤ Ls) (hI : Inv σ) (K : ∀ τ, Inv τ → PL p l e s m below meth c D B 774 (LL i) [] τ) : PL p l e s m below meth c D B 26 (LL i) [] σ := by
  have hL := hC.2.2.2.2.1
  refine L_script hC (by decide +kernel) rfl (L_iload hC (i := 3) (x := nI i) (by decide +kernel) rfl (L_sld hC (by omega) (by decide +kernel) (L_bipush (n := 31) hC 31 (by decide +kernel) (by decide +kernel) (L_iand hC (by decide +kernel) (L_tsw hC law_tab (tsw_all (K _ hI) _ ?_))))))
  exact List.forall_mem_cons.mpr ⟨law_type hC hi hI K, List.forall_mem_cons.mpr ⟨law_clear hC hi hI K, List.forall_mem_cons.mpr ⟨law_land hC hi hI K, List.forall_mem_cons.mpr ⟨law_roads hC hi hI K, List.forall_mem_cons.mpr ⟨law_army hC hi hI K, List.forall_mem_cons.mpr ⟨law_page hC hi hI K, List.forall_mem_cons.mpr ⟨law_now hC hi hI K, List.forall_mem_cons.mpr ⟨law_written hC hi hI K, List.forall_mem_cons.mpr ⟨law_orders hC hi hI K, List.forall_mem_cons.mpr ⟨law_day hC hi hI K, List.forall_mem_cons.mpr ⟨law_writes hC hi hI K, List.forall_mem_cons.mpr ⟨law_strikes hC hi hI K, List.forall_mem_cons.mpr ⟨law_undo hC hi hI K, List.forall_mem_cons.mpr ⟨law_dutiful hC hi hI K, List.forall_mem_cons.mpr ⟨law_best hC hi hI K, List.forall_mem_cons.mpr ⟨law_readings hC hi hI K, List.forall_mem_cons.mpr ⟨law_lost hC hi hI K, List.forall_mem_cons.mpr ⟨law_clash hC hi hI K, List.forall_mem_cons.mpr ⟨law_least hC hi hI K, List.forall_mem_cons.mpr ⟨law_march hC hi hI K, List.forall_mem_cons.mpr ⟨law_rate hC hi hI K, List.forall_mem_cons.mpr ⟨law_keep hC hi hI K, List.forall_mem_cons.mpr ⟨law_back hC hi hI K, List.forall_mem_cons.mpr ⟨law_count hC hi hI K, List.forall_mem_cons.mpr ⟨law_trace hC hi hI K, fun _ h => absurd h List.not_mem_nil⟩⟩⟩⟩⟩⟩⟩⟩⟩⟩⟩⟩⟩⟩⟩⟩⟩⟩⟩⟩⟩⟩⟩⟩⟩
theorem law_loop (hC : LC p s m meth c D B Ls xs) : ∀ (n i : Nat) (σ : St), Ls ≤ n + i → i ≤ 400 → Inv σ → PL p l e s m below meth c D B 18 (LL i) [] σ
  | 0, i, σ, hn, hi, hI => by
    have hL := hC.2.2.2.2.1
    refine L_iload hC (i := 3) (x := nI i) (by decide +kernel) rfl (L_script hC (by decide +kernel) rfl (L_alen hC (by decide +kernel) (L_iconst (n := 5) hC 5 (by decide +kernel) (by decide +kernel) (L_isub hC (by decide +kernel) (L_gt (off := 757) hC 780 (by decide +kernel) (by decide) (fun _ => ?_) (fun h => ?_))))))
    · exact L_iconst (n := 1) hC 1 (by decide +kernel) (by decide +kernel) (L_ret hC (by decide +kernel))
    · have := law_out hL h hi
      omega
  | n + 1, i, σ, hn, hi, hI => by
    have hL := hC.2.2.2.2.1
    refine L_iload hC (i := 3) (x := nI i) (by decide +kernel) rfl (L_script hC (by decide +kernel) rfl (L_alen hC (by decide +kernel) (L_iconst (n := 5) hC 5 (by decide +kernel) (by decide +kernel) (L_isub hC (by decide +kernel) (L_gt (off := 757) hC 780 (by decide +kernel) (by decide) (fun _ => ?_) (fun h => ?_))))))
    · exact L_iconst (n := 1) hC 1 (by decide +kernel) (by decide +kernel) (L_ret hC (by decide +kernel))
    · have h5 := law_out hL h hi
      refine law_body hC h5 hI (fun τ hJ => L_iinc (q := 5) hC (i := 3) (x := nI i) 5 (by decide +kernel) (by decide) (by decide +kernel) rfl (L_goto (off := -759) hC 18 (by decide +kernel) (by decide) ?_))
      have : PL p l e s m below meth c D B 18 [.float 0, .ref 0, .ref 208, .int (nI (i + 5))] [] τ := law_loop hC n (i + 5) τ (by omega) (by omega) hJ
      rw [show (nI (i + 5)) = nI i + 5 from (nI_add i 5).symm] at this
      exact this
end LAW
