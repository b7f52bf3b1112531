theorem wr_eq {σ : St} {nf : Nat} {d x w f : Int32} (hL : LandOK σ nf) : wrB σ d x w f = (inB d 1 9 && (inB x 0 2 && (inB w 0 2 && inB f 0 (σ.1 208 0 - 1)))) := by
  unfold wrB
  rw [hasL_inB hL.1 hL.2.1 hL.2.2.2.1]
  simp only [inB]
  cases decide (d < 1) <;> cases decide (9 < d) <;> cases decide (x < 0) <;> cases decide (2 < x) <;> cases decide (w < 0) <;> cases decide (2 < w) <;> rfl
theorem both_writes {d x w f : Int32} : Both m_X10_writes m_X11_writes [.int d, .int x, .int w, .int f] := by
  intro σ hI
  obtain ⟨nf, m, p, q, hL, hD, ⟨np, dd, hN⟩, hT, hP, hG, hU, hW⟩ := id hI
  obtain ⟨⟨d1, d2, d3, d4⟩, ⟨n1, n2, n3, n4⟩, ⟨n5, n6⟩, ⟨n7, n7b, n7c⟩, n8, n9⟩ := hN.n3
  obtain ⟨p1, p2, p3, p4, p5, p6⟩ := id hP
  have e1 := t_X10_writes (d := d) (x := x) (w := w) (f := f) p4 p2 p3 p1 n7 n7c
  have key : ∀ t : St, (∀ a, 208 ≤ a → t.1 a = σ.1 a) → Ret m_X11_writes t [.ref 208, .int d, .int x, .int w, .int f] (some (.int (wrM t p np d x w f).1)) (wrM t p np d x w f).2 := fun t ht =>
    t_X11_writes (by rw [ht 211 (by decide)]; exact n7b) n7c (by rw [ht 208 (by decide)]; exact p5) p1
  have hB : ∀ t : St, (∀ a, 208 ≤ a → t.1 a = σ.1 a) → ((inB d 1 9 = true ∧ inB x 0 2 = true ∧ inB w 0 2 = true ∧ inB f 0 (t.1 208 0 - 1) = true) ↔ wrB σ d x w f = true) := fun t ht => by
    rw [wr_eq hL, ht 208 (by decide)]; simp only [Bool.and_eq_true]
  have e2 := key σ (fun _ _ => rfl)
  unfold wrR at e1
  by_cases hb : wrB σ d x w f = true
  · rw [if_pos hb] at e1
    by_cases h1 : σ.1 3 0 ≤ d
    · rw [if_pos h1] at e1
      rcases Nat.lt_or_ge np 6 with h6 | h6
      · rw [if_pos (show nI np < (6 : Int32) from nI_lt (b := 6) h6 (by decide))] at e1
        have hh : ∀ a, 208 ≤ a → (wrS (remS σ q p) np d x w f).1 a = σ.1 a := fun a ha => by
          unfold wrS; rw [pi_o (by omega), pi_o (by omega), pi_o (by omega), pi_o (by omega), pi_o (by omega), remS_hi p2 (by omega)]
        have e3 := key (wrS (remS σ q p) np d x w f) hh
        unfold wrM at e3
        rw [if_pos ((hB _ hh).mpr hb), if_pos (show (wrS (remS σ q p) np d x w f).1 211 0 ≤ d by rw [hh 211 (by decide), d2, ← d1]; exact h1), if_neg (fun z => by have := (nI_eq (b := 6) (by omega) (by decide)).mp z; omega)] at e3
        have cw : ∀ a, ¬ (3 ≤ a ∧ a < 17) → (wrS (remS σ q p) np d x w f).1 a = (remS σ q p).1 a := fun a ha => by
          unfold wrS; rw [pi_o (by omega), pi_o (by omega), pi_o (by omega), pi_o (by omega), pi_o (by omega)]
        have cM : ∀ (ρ : St) a, a ≠ 211 → (wrMS ρ np d x w f).1 a = ρ.1 a := fun ρ a ha => by
          unfold wrMS; rw [pi_o ha, pi_o ha, pi_o ha, pi_o ha, pi_o ha]
        have hM : Mut σ (wrMS (remM (wrS (remS σ q p) np d x w f) p) np d x w f) p q := by
          refine Mut.of (t := wrS (remS σ q p) np d x w f) p2 rfl cw ?_ (fun a a1 a2 a3 a4 => ?_) (fun j hj => ?_) ?_ ?_
          · show (remM (wrS (remS σ q p) np d x w f) p).2 = _
            rw [remM_2]
          · rw [cM _ a a2, remM_o a3 a1]
          · rw [cM _ 208 (by decide), remM_8 hj]
          · rw [cM _ 208 (by decide), rem_6 p1]
          · rw [cM _ 212 (by decide)]
        generalize hu : wrMS (remM (wrS (remS σ q p) np d x w f) p) np d x w f = u at e3 hM
        have c3 : ∀ a, 3 ≤ a → a < 17 → u.1 a = (wrS (remS σ q p) np d x w f).1 a := fun a a1 a2 => by
          rw [← hu, cM _ a (by omega), remM_o (by omega) (by omega)]
        have c0 : ∀ a, 3 ≤ a → a < 17 → ¬ (9 ≤ a ∧ a ≤ 13) → u.1 a = σ.1 a := fun a a1 a2 a3 => by
          rw [c3 a a1 a2]; unfold wrS; rw [pi_o (by omega), pi_o (by omega), pi_o (by omega), pi_o (by omega), pi_o (by omega), remS_o (by omega)]
        have c9 : u.1 9 0 = nI (np + 1) := by rw [c3 9 (by decide) (by decide)]; unfold wrS; rw [pi_ss]
        have c10 : u.1 10 = upd (σ.1 10) np d := by rw [c3 10 (by decide) (by decide)]; unfold wrS; rw [pi_o (by decide), pi_o (by decide), pi_o (by decide), pi_o (by decide), pi_as, pr_s, remS_o (by decide)]
        have c11 : u.1 11 = upd (σ.1 11) np x := by rw [c3 11 (by decide) (by decide)]; unfold wrS; rw [pi_o (by decide), pi_o (by decide), pi_o (by decide), pi_as, pr_s, pi_o (by decide), remS_o (by decide)]
        have c12 : u.1 12 = upd (σ.1 12) np w := by rw [c3 12 (by decide) (by decide)]; unfold wrS; rw [pi_o (by decide), pi_o (by decide), pi_as, pr_s, pi_o (by decide), pi_o (by decide), remS_o (by decide)]
        have c13 : u.1 13 = upd (σ.1 13) np f := by rw [c3 13 (by decide) (by decide)]; unfold wrS; rw [pi_o (by decide), pi_as, pr_s, pi_o (by decide), pi_o (by decide), pi_o (by decide), remS_o (by decide)]
        have c211 : u.1 211 = upd (upd (upd (upd (upd (σ.1 211) (16 + 4 * np) d) (16 + 4 * np + 1) x) (16 + 4 * np + 2) w) (16 + 4 * np + 3) f) 15 (nI (np + 1)) := by
          rw [← hu]; unfold wrMS; simp only [pi_as, pr_s, pr_pr]; rw [remM_o (by decide) (by decide), hh 211 (by decide)]
        have u1 : ∀ j, ¬ (16 + 4 * np ≤ j ∧ j ≤ 16 + 4 * np + 3) → j ≠ 15 → u.1 211 j = σ.1 211 j := fun j g1 g2 => by
          rw [c211]; simp only [upd]
          rw [if_neg g2, if_neg (show ¬ j = 16 + 4 * np + 3 by omega), if_neg (show ¬ j = 16 + 4 * np + 2 by omega), if_neg (show ¬ j = 16 + 4 * np + 1 by omega), if_neg (show ¬ j = 16 + 4 * np by omega)]
        have v0 : u.1 211 (16 + 4 * np) = d := by
          rw [c211]; simp only [upd]
          rw [if_neg (show ¬ 16 + 4 * np = 15 by omega), if_neg (show ¬ 16 + 4 * np = 16 + 4 * np + 3 by omega), if_neg (show ¬ 16 + 4 * np = 16 + 4 * np + 2 by omega), if_neg (show ¬ 16 + 4 * np = 16 + 4 * np + 1 by omega), if_pos trivial]
        have v1 : u.1 211 (16 + 4 * np + 1) = x := by
          rw [c211]; simp only [upd]
          rw [if_neg (show ¬ 16 + 4 * np + 1 = 15 by omega), if_neg (show ¬ 16 + 4 * np + 1 = 16 + 4 * np + 3 by omega), if_neg (show ¬ 16 + 4 * np + 1 = 16 + 4 * np + 2 by omega), if_pos trivial]
        have v2 : u.1 211 (16 + 4 * np + 2) = w := by
          rw [c211]; simp only [upd]
          rw [if_neg (show ¬ 16 + 4 * np + 2 = 15 by omega), if_neg (show ¬ 16 + 4 * np + 2 = 16 + 4 * np + 3 by omega), if_pos trivial]
        have v3 : u.1 211 (16 + 4 * np + 3) = f := by
          rw [c211]; simp only [upd]
          rw [if_neg (show ¬ 16 + 4 * np + 3 = 15 by omega), if_pos trivial]
        have v15 : u.1 211 15 = nI (np + 1) := by rw [c211, upd_at]
        refine bothE e1 e3 rfl (hM.inv hL hD ⟨np, dd, hN⟩ hT hP hG hU hW ⟨np + 1, dd, ?_⟩)
        have hbs := (hB σ (fun _ _ => rfl)).mpr hb
        refine ⟨?_, ?_, ⟨?_, fun a ha => ?_⟩, ⟨c9, v15, h6⟩, fun k hk => ?_, fun e g1 g2 => ?_⟩
        · rw [c0 3 (by decide) (by decide) (by decide), u1 0 (by omega) (by decide)]; exact ⟨d1, d2, d3, d4⟩
        · show u.1 4 0 = _ ∧ u.1 4 1 = _ ∧ _
          rw [c0 4 (by decide) (by decide) (by decide), u1 1 (by omega) (by decide), u1 2 (by omega) (by decide)]; exact ⟨n1, n2, n3, n4⟩
        · exact (congrFun (c0 5 (by decide) (by decide) (by decide)) 0).trans n5
        · have := hD.1
          show u.1 6 a = _ ∧ u.1 7 a = _ ∧ u.1 8 a = _ ∧ _
          rw [c0 6 (by decide) (by decide) (by decide), c0 7 (by decide) (by decide) (by decide), c0 8 (by decide) (by decide) (by decide), hM.2.1 210 (by omega), u1 _ (by omega) (by omega), u1 _ (by omega) (by omega)]
          exact n6 a ha
        · show ((u.1 10 k = _ ∧ u.1 11 k = _ ∧ u.1 12 k = _ ∧ u.1 13 k = _) ∧ _)
          rw [c10, c11, c12, c13]
          rcases Nat.eq_or_lt_of_le (Nat.lt_succ_iff.mp hk) with z | z
          · subst z
            rw [v0, v1, v2, v3, upd_at, upd_at, upd_at, upd_at]
            obtain ⟨y1, y2, y3, y4⟩ := hbs
            refine ⟨⟨rfl, rfl, rfl, rfl⟩, ?_, ?_, ?_⟩
            · obtain ⟨e, g1, g2, g3⟩ := inB19 y1; exact ⟨e, g3, g1, g2⟩
            · obtain ⟨e, g1, g2⟩ := inB02 y2; exact ⟨e, g2, by omega⟩
            · obtain ⟨e, g1, g2⟩ := inB_ex hL.2.1 (by have := hL.2.2.2.1; omega) y4; exact ⟨e, g2, g1⟩
          · rw [u1 _ (by omega) (by omega), u1 _ (by omega) (by omega), u1 _ (by omega) (by omega), u1 _ (by omega) (by omega)]
            simp only [upd]
            rw [if_neg (show ¬ k = np by omega), if_neg (show ¬ k = np by omega), if_neg (show ¬ k = np by omega), if_neg (show ¬ k = np by omega)]
            exact n8 k z
        · show u.1 15 (2 * e + 0) = _ ∧ u.1 15 (2 * e + 1) = _ ∧ u.1 16 e = _
          rw [c0 15 (by decide) (by decide) (by decide), c0 16 (by decide) (by decide) (by decide), u1 _ (by omega) (by omega), u1 _ (by omega) (by omega), u1 _ (by omega) (by omega)]
          exact n9 e g1 g2
      · rw [if_neg (show ¬ nI np < (6 : Int32) from nI_nlt (b := 6) h6 (by omega))] at e1
        unfold wrM at e2
        rw [if_pos ((hB σ (fun _ _ => rfl)).mpr hb), if_pos (show σ.1 211 0 ≤ d by rw [d2, ← d1]; exact h1), if_pos (show nI np = 6 by rw [show np = 6 by omega]; rfl)] at e2
        exact bothE e1 e2 rfl hI
    · rw [if_neg h1] at e1
      unfold wrM at e2
      rw [if_pos ((hB σ (fun _ _ => rfl)).mpr hb), if_neg (show ¬ σ.1 211 0 ≤ d by rw [d2, ← d1]; exact h1)] at e2
      exact bothE e1 e2 rfl hI
  · rw [if_neg hb] at e1
    unfold wrM at e2
    rw [if_neg (fun z => hb ((hB σ (fun _ _ => rfl)).mp z))] at e2
    exact bothE e1 e2 rfl hI
theorem both_strikes {k : Int32} : Both m_X10_strikes m_X11_strikes [.int k] := by
  intro σ hI
  obtain ⟨nf, m, p, q, hL, hD, ⟨np, dd, hN⟩, hT, hP, hG, hU, hW⟩ := id hI
  obtain ⟨⟨d1, d2, d3, d4⟩, ⟨n1, n2, n3, n4⟩, ⟨n5, n6⟩, ⟨n7, n7b, n7c⟩, n8, n9⟩ := hN.n3
  obtain ⟨p1, p2, p3, p4, p5, p6⟩ := id hP
  have e1 := t_X10_strikes (k := k) p4 p2 p3 p1 n7 n7c
  have key : ∀ t : St, (∀ a, 208 ≤ a → t.1 a = σ.1 a) → Ret m_X11_strikes t [.ref 208, .int k] (some (.int (stkM t p np k).1)) (stkM t p np k).2 := fun t ht =>
    t_X11_strikes (by rw [ht 211 (by decide)]; exact n7b) n7c (by rw [ht 208 (by decide)]; exact p5) p1
  have e2 := key σ (fun _ _ => rfl)
  unfold stkR at e1
  rw [hasP_inB n7 n7b n7c] at e1
  by_cases hb : inB k 0 (σ.1 211 15 - 1) = true
  · rw [if_pos hb] at e1
    obtain ⟨kk, hkk, rfl⟩ := inB_ex n7b (by omega) hb
    have ck : (nI kk).toNatClampNeg = kk := nI_clamp (by omega)
    rw [ck] at e1
    have hh : ∀ a, 208 ≤ a → (rmS (remS σ q p) np kk).1 a = σ.1 a := fun a ha => by
      unfold rmS; rw [pi_o (by omega), pr_o (by omega), pr_o (by omega), pr_o (by omega), pr_o (by omega), remS_hi p2 (by omega)]
    have e3 := key (rmS (remS σ q p) np kk) hh
    unfold stkM at e3
    rw [if_pos (show inB (nI kk) 0 ((rmS (remS σ q p) np kk).1 211 15 - 1) = true by rw [hh 211 (by decide)]; exact hb), ck] at e3
    have cw : ∀ a, ¬ (3 ≤ a ∧ a < 17) → (rmS (remS σ q p) np kk).1 a = (remS σ q p).1 a := fun a ha => by
      unfold rmS; rw [pi_o (by omega), pr_o (by omega), pr_o (by omega), pr_o (by omega), pr_o (by omega)]
    have cM : ∀ (ρ : St) a, a ≠ 211 → (skMS ρ np kk).1 a = ρ.1 a := fun ρ a ha => by
      unfold skMS; rw [pr_o ha]
    have hM : Mut σ (skMS (remM (rmS (remS σ q p) np kk) p) np kk) p q := by
      refine Mut.of (t := rmS (remS σ q p) np kk) p2 rfl cw ?_ (fun a a1 a2 a3 a4 => ?_) (fun j hj => ?_) ?_ ?_
      · show (remM (rmS (remS σ q p) np kk) p).2 = _
        rw [remM_2]
      · rw [cM _ a a2, remM_o a3 a1]
      · rw [cM _ 208 (by decide), remM_8 hj]
      · rw [cM _ 208 (by decide), rem_6 p1]
      · rw [cM _ 212 (by decide)]
    generalize hu : skMS (remM (rmS (remS σ q p) np kk) p) np kk = u at e3 hM
    have c3 : ∀ a, 3 ≤ a → a < 17 → u.1 a = (rmS (remS σ q p) np kk).1 a := fun a a1 a2 => by
      rw [← hu, cM _ a (by omega), remM_o (by omega) (by omega)]
    have c0 : ∀ a, 3 ≤ a → a < 17 → ¬ (9 ≤ a ∧ a ≤ 13) → u.1 a = σ.1 a := fun a a1 a2 a3 => by
      rw [c3 a a1 a2]; unfold rmS; rw [pi_o (by omega), pr_o (by omega), pr_o (by omega), pr_o (by omega), pr_o (by omega), remS_o (by omega)]
    have c9 : u.1 9 0 = nI (np - 1) := by rw [c3 9 (by decide) (by decide)]; unfold rmS; rw [pi_ss]
    have c10 : u.1 10 = shf kk (np - 1) (σ.1 10) := by rw [c3 10 (by decide) (by decide)]; unfold rmS; rw [pi_o (by decide), pr_o (by decide), pr_o (by decide), pr_o (by decide), pr_s, remS_o (by decide)]
    have c11 : u.1 11 = shf kk (np - 1) (σ.1 11) := by rw [c3 11 (by decide) (by decide)]; unfold rmS; rw [pi_o (by decide), pr_o (by decide), pr_o (by decide), pr_s, remS_o (by decide)]
    have c12 : u.1 12 = shf kk (np - 1) (σ.1 12) := by rw [c3 12 (by decide) (by decide)]; unfold rmS; rw [pi_o (by decide), pr_o (by decide), pr_s, remS_o (by decide)]
    have c13 : u.1 13 = shf kk (np - 1) (σ.1 13) := by rw [c3 13 (by decide) (by decide)]; unfold rmS; rw [pi_o (by decide), pr_s, remS_o (by decide)]
    have c211 : u.1 211 = shq (4 * kk) (4 * (np - 1)) (upd (σ.1 211) 15 (nI (np - 1))) := by
      rw [← hu]; unfold skMS; rw [pr_s, remM_o (by decide) (by decide), hh 211 (by decide)]
    have u1 : ∀ j, ¬ (16 + 4 * kk ≤ j ∧ j < 16 + 4 * (np - 1)) → j ≠ 15 → u.1 211 j = σ.1 211 j := fun j g1 g2 => by
      rw [c211]; simp only [shq]; rw [if_neg g1]; simp only [upd]; rw [if_neg g2]
    have u2 : ∀ j, (16 + 4 * kk ≤ j ∧ j < 16 + 4 * (np - 1)) → u.1 211 j = σ.1 211 (j + 4) := fun j g1 => by
      rw [c211]; simp only [shq]; rw [if_pos g1]; simp only [upd]; rw [if_neg (by omega)]
    have v15 : u.1 211 15 = nI (np - 1) := by rw [c211, shq_15, upd_at]
    refine bothE e1 e3 rfl (hM.inv hL hD ⟨np, dd, hN⟩ hT hP hG hU hW ⟨np - 1, dd, ?_⟩)
    refine ⟨?_, ?_, ⟨?_, fun a ha => ?_⟩, ⟨c9, v15, by omega⟩, fun i hi => ?_, fun e g1 g2 => ?_⟩
    · rw [c0 3 (by decide) (by decide) (by decide), u1 0 (by omega) (by decide)]; exact ⟨d1, d2, d3, d4⟩
    · show u.1 4 0 = _ ∧ u.1 4 1 = _ ∧ _
      rw [c0 4 (by decide) (by decide) (by decide), u1 1 (by omega) (by decide), u1 2 (by omega) (by decide)]; exact ⟨n1, n2, n3, n4⟩
    · exact (congrFun (c0 5 (by decide) (by decide) (by decide)) 0).trans n5
    · have := hD.1
      show u.1 6 a = _ ∧ u.1 7 a = _ ∧ u.1 8 a = _ ∧ _
      rw [c0 6 (by decide) (by decide) (by decide), c0 7 (by decide) (by decide) (by decide), c0 8 (by decide) (by decide) (by decide), hM.2.1 210 (by omega), u1 _ (by omega) (by omega), u1 _ (by omega) (by omega)]
      exact n6 a ha
    · show ((u.1 10 i = _ ∧ u.1 11 i = _ ∧ u.1 12 i = _ ∧ u.1 13 i = _) ∧ _)
      rw [c10, c11, c12, c13]
      simp only [shf]
      by_cases hki : kk ≤ i
      · have hc : kk ≤ i ∧ i < np - 1 := ⟨hki, hi⟩
        simp only [if_pos hc]
        rw [u2 (16 + 4 * i) (by omega), u2 (16 + 4 * i + 1) (by omega), u2 (16 + 4 * i + 2) (by omega), u2 (16 + 4 * i + 3) (by omega)]
        exact n8 (i + 1) (by omega)
      · have hc : ¬ (kk ≤ i ∧ i < np - 1) := fun z => hki z.1
        simp only [if_neg hc]
        rw [u1 (16 + 4 * i) (by omega) (by omega), u1 (16 + 4 * i + 1) (by omega) (by omega), u1 (16 + 4 * i + 2) (by omega) (by omega), u1 (16 + 4 * i + 3) (by omega) (by omega)]
        exact n8 i (by omega)
    · show u.1 15 (2 * e + 0) = _ ∧ u.1 15 (2 * e + 1) = _ ∧ u.1 16 e = _
      rw [c0 15 (by decide) (by decide) (by decide), c0 16 (by decide) (by decide) (by decide), u1 _ (by omega) (by omega), u1 _ (by omega) (by omega), u1 _ (by omega) (by omega)]
      exact n9 e g1 g2
  · rw [if_neg hb] at e1
    unfold stkM at e2
    rw [if_neg hb] at e2
    exact bothE e1 e2 rfl hI
theorem both_undo : Both m_X10_undo m_X11_undo [] := by
  intro σ hI
  obtain ⟨nf, m, p, q, hL, hD, hN, hT, hP, hG, hU, hW⟩ := id hI
  obtain ⟨p1, p2, p3, p4, p5, p6⟩ := id hP
  have e1 := t_X10_undo p4 p2 p3 p1
  have key : ∀ t : St, t.1 208 = σ.1 208 → Ret m_X11_undo t [.ref 208] (some (.int (undM t p).1)) (undM t p).2 := fun t ht => t_X11_undo (by rw [ht]; exact p5) p1
  unfold undR at e1
  by_cases h0 : p = 0
  · rw [if_pos h0] at e1
    have e2 := key σ rfl
    unfold undM at e2
    rw [if_pos h0] at e2
    exact bothE e1 e2 rfl hI
  · rw [if_neg h0] at e1
    have tb : ∀ a, a ≠ 35 → ¬ (3 ≤ a ∧ a < 17) → (tbS σ q p).1 a = σ.1 a := fun a h1 h2 => by
      unfold tbS; rw [pi_o h1, cpR_out (by omega), pi_o h1]
    have e3 := key (tbS σ q p) (tb 208 (by decide) (by decide))
    unfold undM at e3
    rw [if_neg h0] at e3
    generalize hu : pr (pi (tbS σ q p) 208 6 (nI (p - 1))) 211 (va_cpy ((tbS σ q p).1 212) ((tbS σ q p).1 211) (67 * (p - 1)) 0 67) = u at e3
    have c0 : ∀ a, a ≠ 35 → ¬ (3 ≤ a ∧ a < 17) → a ≠ 208 → a ≠ 211 → u.1 a = σ.1 a := fun a h1 h2 h3 h4 => by
      rw [← hu, pr_o h4, pi_o h3]; exact tb a h1 h2
    have c8 : ∀ j, j ≠ 6 → u.1 208 j = σ.1 208 j := fun j hj => by
      rw [← hu, pr_o (by decide), pi_so hj, tb 208 (by decide) (by decide)]
    have c86 : u.1 208 6 = nI (p - 1) := by rw [← hu, pr_o (by decide), pi_ss]
    have hb : (q + 9) % 10 < 10 := Nat.mod_lt _ (by decide)
    have c3 : ∀ i, i < 14 → u.1 (3 + i) = σ.1 (37 + 14 * ((q + 9) % 10) + i) := fun i hi => by
      rw [← hu, pr_o (by omega), pi_o (by omega)]; unfold tbS
      rw [pi_o (by omega), cpR_in (by omega) (by omega), pi_o (by omega)]; exact congrArg σ.1 (by omega)
    have c350 : u.1 35 0 = nI (p - 1) := by rw [← hu, pr_o (by decide), pi_o (by decide)]; unfold tbS; rw [pi_ss]
    have c351 : u.1 35 1 = nI ((q + 9) % 10) := by rw [← hu, pr_o (by decide), pi_o (by decide)]; unfold tbS; rw [pi_so (by decide), cpR_out (by omega), pi_ss]
    have c211 : ∀ j, j < 67 → u.1 211 j = σ.1 212 (67 * (p - 1) + j) := fun j hj => by
      rw [← hu, pr_s, cpy_at hj, tb 212 (by decide) (by decide)]
    have c2 : u.2 = σ.2 := by rw [← hu]; rfl
    refine bothE e1 e3 rfl ⟨nf, m, p - 1, (q + 9) % 10, ?_, ?_, ?_, ?_, ?_, ?_, ?_, ?_⟩
    · exact hL.cg (c0 1 (by decide) (by decide) (by decide) (by decide)) (c0 2 (by decide) (by decide) (by decide) (by decide)) (c8 0 (by decide)) (c0 209 (by decide) (by decide) (by decide) (by decide))
    · exact hD.cg (c8 2 (by decide)) (c0 210 (by decide) (by decide) (by decide) (by decide))
    · have h := p6 (p - 1) (by omega)
      rw [show (q + 10 - p + (p - 1)) % 10 = (q + 9) % 10 by omega] at h
      exact h.cg c3 (c0 210 (by decide) (by decide) (by decide) (by decide)) c211 hD.1
    · exact hT.cg (by rw [c0 17 (by decide) (by decide) (by decide) (by decide)]) (c8 11 (by decide)) (c0 34 (by decide) (by decide) (by decide) (by decide)) (c0 215 (by decide) (by decide) (by decide) (by decide))
    · refine ⟨by omega, hb, c350, c351, c86, fun i hi => ?_⟩
      rw [c0 212 (by decide) (by decide) (by decide) (by decide), show ((q + 9) % 10 + 10 - (p - 1) + i) % 10 = (q + 10 - p + i) % 10 by omega]
      exact (p6 i (by omega)).cg (fun j hj => c0 _ (by omega) (by omega) (by omega) (by omega)) (c0 210 (by decide) (by decide) (by decide) (by decide)) (fun _ _ => rfl) hD.1
    · exact hG.cg hD.1 (c0 178 (by decide) (by decide) (by decide) (by decide)) (c0 214 (by decide) (by decide) (by decide) (by decide)) (c0 213 (by decide) (by decide) (by decide) (by decide)) (c0 210 (by decide) (by decide) (by decide) (by decide)) (fun a g1 g2 => c0 a (by omega) (by omega) (by omega) (by omega))
    · exact hU.cg (c0 20 (by decide) (by decide) (by decide) (by decide)) (c0 21 (by decide) (by decide) (by decide) (by decide))
    · rw [c2]; exact hW
theorem hasI_inB {x : Int32} : hasI x = inB x 0 1 := duke_inB
theorem both_keep {i : Int32} : Both m_X10_keep m_X11_keep [.int i] := by
  intro σ hI
  obtain ⟨nf, m, p, q, hL, hD, hN, hT, hP, hG, hU, hW⟩ := id hI
  have e1 := t_X10_keep (σ := σ) (i := i)
  unfold keeR at e1
  rw [hasI_inB] at e1
  by_cases hb : inB i 0 1 = true
  · rw [if_pos hb] at e1
    obtain ⟨ii, hii, rfl⟩ := inB01 hb
    have ci : (nI ii).toNatClampNeg = ii := nI_clamp (by omega)
    rw [ci] at e1
    have e3 := t_X11_keep (σ := pi (cpR σ (180 + 14 * ii) 3 14) 178 ii 1) (i := nI ii)
    unfold keeM at e3
    rw [if_pos hb, ci] at e3
    have tb : ∀ a, a ≠ 178 → ¬ (180 + 14 * ii ≤ a ∧ a < 180 + 14 * ii + 14) → (pi (cpR σ (180 + 14 * ii) 3 14) 178 ii 1).1 a = σ.1 a := fun a h1 h2 => by
      rw [pi_o h1, cpR_out (by omega)]
    generalize hu : pi (pr (pi (cpR σ (180 + 14 * ii) 3 14) 178 ii 1) 213 (va_cpy ((pi (cpR σ (180 + 14 * ii) 3 14) 178 ii 1).1 211) ((pi (cpR σ (180 + 14 * ii) 3 14) 178 ii 1).1 213) 0 (67 * ii) 67)) 214 ii 1 = u at e3
    have c0 : ∀ a, a ≠ 178 → ¬ (180 + 14 * ii ≤ a ∧ a < 180 + 14 * ii + 14) → a ≠ 213 → a ≠ 214 → u.1 a = σ.1 a := fun a h1 h2 h3 h4 => by
      rw [← hu, pi_o h4, pr_o h3]; exact tb a h1 h2
    have c210 : u.1 210 = σ.1 210 := c0 210 (by decide) (by omega) (by decide) (by decide)
    have c178 : u.1 178 = upd (σ.1 178) ii 1 := by rw [← hu, pi_o (by decide), pr_o (by decide), pi_as, pr_s, cpR_out (by omega)]
    have c214 : u.1 214 = upd (σ.1 214) ii 1 := by rw [← hu, pi_as, pr_s, pr_o (by decide), tb 214 (by decide) (by omega)]
    have c213 : u.1 213 = va_cpy (σ.1 211) (σ.1 213) 0 (67 * ii) 67 := by rw [← hu, pi_o (by decide), pr_s, tb 211 (by decide) (by omega), tb 213 (by decide) (by omega)]
    have cN : ∀ j, j < 14 → u.1 (180 + 14 * ii + j) = σ.1 (3 + j) := fun j hj => by
      rw [← hu, pi_o (by omega), pr_o (by omega), pi_o (by omega), cpR_in (by omega) (by omega)]; exact congrArg σ.1 (by omega)
    have c2 : u.2 = σ.2 := by rw [← hu]; rfl
    refine bothE e1 e3 ?_ ⟨nf, m, p, q, ?_, ?_, ?_, ?_, ?_, ?_, ?_, ?_⟩
    · simp only
      rw [tb 211 (by decide) (by omega)]
      obtain ⟨np, d, hN⟩ := hN
      exact (hN.n3.1.2.1).trans (hN.n3.1.1).symm
    · exact hL.cg (c0 1 (by decide) (by omega) (by decide) (by decide)) (c0 2 (by decide) (by omega) (by decide) (by decide)) (by rw [c0 208 (by decide) (by omega) (by decide) (by decide)]) (c0 209 (by decide) (by omega) (by decide) (by decide))
    · exact hD.cg (by rw [c0 208 (by decide) (by omega) (by decide) (by decide)]) c210
    · exact hN.cg3 hD.1 (fun a g1 g2 => c0 a (by omega) (by omega) (by omega) (by omega)) c210 (c0 211 (by decide) (by omega) (by decide) (by decide))
    · exact hT.cg (by rw [c0 17 (by decide) (by omega) (by decide) (by decide)]) (by rw [c0 208 (by decide) (by omega) (by decide) (by decide)]) (c0 34 (by decide) (by omega) (by decide) (by decide)) (c0 215 (by decide) (by omega) (by decide) (by decide))
    · exact hP.cg hD.1 (c0 35 (by decide) (by omega) (by decide) (by decide)) (by rw [c0 208 (by decide) (by omega) (by decide) (by decide)]) (c0 212 (by decide) (by omega) (by decide) (by decide)) c210 (fun a g1 g2 => c0 a (by omega) (by omega) (by omega) (by omega))
    · intro j hj
      rw [c178, c214, c213]
      simp only [upd]
      by_cases e : j = ii
      · subst e
        rw [if_pos rfl, if_pos rfl]
        refine ⟨rfl, fun _ => hN.cg cN c210 (fun k hk => ?_) hD.1⟩
        simp only [va_cpy]; rw [if_pos (by omega)]; exact congrArg (σ.1 211) (by omega)
      · rw [if_neg e, if_neg e]
        refine ⟨(hG j hj).1, fun z => ((hG j hj).2 z).cg (fun k hk => c0 _ (by omega) (by omega) (by omega) (by omega)) c210 (fun k hk => ?_) hD.1⟩
        simp only [va_cpy]; rw [if_neg (by omega)]
    · exact hU.cg (c0 20 (by decide) (by omega) (by decide) (by decide)) (c0 21 (by decide) (by omega) (by decide) (by decide))
    · rw [c2]; exact hW
  · rw [if_neg hb] at e1
    have e2 := t_X11_keep (σ := σ) (i := i)
    unfold keeM at e2
    rw [if_neg hb] at e2
    exact bothE e1 e2 rfl hI
theorem both_back {i : Int32} : Both m_X10_back m_X11_back [.int i] := by
  intro σ hI
  obtain ⟨nf, m, p, q, hL, hD, hN, hT, hP, hG, hU, hW⟩ := id hI
  have e1 := t_X10_back (σ := σ) (i := i)
  unfold bacR at e1
  rw [hasI_inB] at e1
  by_cases hb : inB i 0 1 = true
  · rw [if_pos hb] at e1
    obtain ⟨ii, hii, rfl⟩ := inB01 hb
    have ci : (nI ii).toNatClampNeg = ii := nI_clamp (by omega)
    rw [ci] at e1
    obtain ⟨g1, g2⟩ := hG ii hii
    by_cases hz : σ.1 178 ii = 0
    · rw [if_pos hz] at e1
      have e2 := t_X11_back (σ := σ) (i := nI ii)
      unfold bacM at e2
      rw [if_pos hb, ci, if_pos (by rw [← g1]; exact hz)] at e2
      exact bothE e1 e2 rfl hI
    · rw [if_neg hz] at e1
      have tb : ∀ a, a ≠ 35 → ¬ (3 ≤ a ∧ a < 17) → (pi (cpR σ 3 (180 + 14 * ii) 14) 35 0 0).1 a = σ.1 a := fun a h1 h2 => by
        rw [pi_o h1, cpR_out (by omega)]
      have e3 := t_X11_back (σ := pi (cpR σ 3 (180 + 14 * ii) 14) 35 0 0) (i := nI ii)
      unfold bacM at e3
      rw [if_pos hb, ci, if_neg (show ¬ (pi (cpR σ 3 (180 + 14 * ii) 14) 35 0 0).1 214 ii = 0 by rw [tb 214 (by decide) (by decide), ← g1]; exact hz)] at e3
      generalize hu : pi (pr (pi (cpR σ 3 (180 + 14 * ii) 14) 35 0 0) 211 (va_cpy ((pi (cpR σ 3 (180 + 14 * ii) 14) 35 0 0).1 213) ((pi (cpR σ 3 (180 + 14 * ii) 14) 35 0 0).1 211) (67 * ii) 0 67)) 208 6 0 = u at e3
      have c0 : ∀ a, a ≠ 35 → ¬ (3 ≤ a ∧ a < 17) → a ≠ 208 → a ≠ 211 → u.1 a = σ.1 a := fun a h1 h2 h3 h4 => by
        rw [← hu, pi_o h3, pr_o h4]; exact tb a h1 h2
      have c8 : ∀ j, j ≠ 6 → u.1 208 j = σ.1 208 j := fun j hj => by
        rw [← hu, pi_so hj, pr_o (by decide), tb 208 (by decide) (by decide)]
      have c86 : u.1 208 6 = 0 := by rw [← hu, pi_ss]
      have c210 : u.1 210 = σ.1 210 := c0 210 (by decide) (by decide) (by decide) (by decide)
      have c3 : ∀ j, j < 14 → u.1 (3 + j) = σ.1 (180 + 14 * ii + j) := fun j hj => by
        rw [← hu, pi_o (by omega), pr_o (by omega), pi_o (by omega), cpR_in (by omega) (by omega)]; exact congrArg σ.1 (by omega)
      have c350 : u.1 35 0 = 0 := by rw [← hu, pi_o (by decide), pr_o (by decide), pi_ss]
      have c351 : u.1 35 1 = σ.1 35 1 := by rw [← hu, pi_o (by decide), pr_o (by decide), pi_so (by decide), cpR_out (by omega)]
      have c211 : ∀ j, j < 67 → u.1 211 j = σ.1 213 (67 * ii + j) := fun j hj => by
        rw [← hu, pi_o (by decide), pr_s, cpy_at hj, tb 213 (by decide) (by decide)]
      have c2 : u.2 = σ.2 := by rw [← hu]; rfl
      have hi := g2 hz
      refine bothE e1 e3 ?_ ⟨nf, m, 0, q, ?_, ?_, ?_, ?_, ?_, ?_, ?_, ?_⟩
      · simp only
        rw [tb 213 (by decide) (by decide)]
        obtain ⟨np, d, hN2⟩ := hi
        exact (hN2.1.2.1).trans (hN2.1.1).symm
      · exact hL.cg (c0 1 (by decide) (by decide) (by decide) (by decide)) (c0 2 (by decide) (by decide) (by decide) (by decide)) (c8 0 (by decide)) (c0 209 (by decide) (by decide) (by decide) (by decide))
      · exact hD.cg (c8 2 (by decide)) c210
      · exact hi.cg c3 c210 c211 hD.1
      · exact hT.cg (by rw [c0 17 (by decide) (by decide) (by decide) (by decide)]) (c8 11 (by decide)) (c0 34 (by decide) (by decide) (by decide) (by decide)) (c0 215 (by decide) (by decide) (by decide) (by decide))
      · exact ⟨by decide, hP.2.1, c350, c351.trans hP.2.2.2.1, c86, fun i hi => absurd hi (Nat.not_lt_zero _)⟩
      · exact hG.cg hD.1 (c0 178 (by decide) (by decide) (by decide) (by decide)) (c0 214 (by decide) (by decide) (by decide) (by decide)) (c0 213 (by decide) (by decide) (by decide) (by decide)) c210 (fun a g1 g2 => c0 a (by omega) (by omega) (by omega) (by omega))
      · exact hU.cg (c0 20 (by decide) (by decide) (by decide) (by decide)) (c0 21 (by decide) (by decide) (by decide) (by decide))
      · rw [c2]; exact hW
  · rw [if_neg hb] at e1
    have e2 := t_X11_back (σ := σ) (i := i)
    unfold bacM at e2
    rw [if_neg hb] at e2
    exact bothE e1 e2 rfl hI
