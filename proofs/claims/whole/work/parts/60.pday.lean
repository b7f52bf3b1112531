theorem sumA_cg3 {du du' fi tr fi' tr' : Nat → Int32} {x f : Int32} : ∀ m, (∀ a, a < m → du a = du' a ∧ fi a = fi' a ∧ tr a = tr' a) → sumA du fi tr x f m = sumA du' fi' tr' x f m
  | 0, _ => rfl
  | m + 1, h => by
    simp only [sumA]
    rw [sumA_cg3 m (fun a ha => h a (by omega)), (h m (by omega)).1, (h m (by omega)).2.1, (h m (by omega)).2.2]
theorem los_cg3 {du du' fi fi' tr tr' : Nat → Int32} {x f l : Int32} {M : Nat} (ht : ∀ a, a < M → tr a = tr' a) : ∀ m, m ≤ M → (∀ a, a < m → du a = du' a ∧ fi a = fi' a) →
    (los du fi x f tr l m).2 = (los du' fi' x f tr' l m).2 ∧ ∀ a, a < M → (los du fi x f tr l m).1 a = (los du' fi' x f tr' l m).1 a
  | 0, _, _ => ⟨rfl, ht⟩
  | m + 1, hm, hf => by
    obtain ⟨h1, h2⟩ := los_cg3 (x := x) (f := f) (l := l) ht m (by omega) (fun a ha => hf a (by omega))
    simp only [los]
    rw [(hf m (by omega)).1, (hf m (by omega)).2]
    by_cases hc : du' m = x ∧ fi' m = f
    · rw [if_pos hc, if_pos hc]
      refine ⟨by simp only; rw [h1, h2 m (by omega)], fun a ha => ?_⟩
      simp only [upd]; rw [h1, h2 m (by omega)]
      by_cases e : a = m
      · rw [if_pos e, if_pos e]
      · rw [if_neg e, if_neg e]; exact h2 a ha
    · rw [if_neg hc, if_neg hc]
      exact ⟨h1, h2⟩
theorem fgs_cg {du du' fi fi' tr tr' : Nat → Int32} {m : Nat} (hd : ∀ a, a < m → du a = du' a) (hf : ∀ a, a < m → fi a = fi' a) (ht : ∀ a, a < m → tr a = tr' a) : ∀ f, (fgs du fi m tr f).2 = (fgs du' fi' m tr' f).2 ∧ ∀ a, a < m → (fgs du fi m tr f).1 a = (fgs du' fi' m tr' f).1 a
  | 0 => ⟨rfl, ht⟩
  | f + 1 => by
    obtain ⟨h1, h2⟩ := fgs_cg hd hf ht f
    simp only [fgs]
    have k : ∀ x, sumA du fi (fgs du fi m tr f).1 x (nI f) m = sumA du' fi' (fgs du' fi' m tr' f).1 x (nI f) m := fun x => sumA_cg3 m (fun a ha => ⟨hd a ha, hf a ha, h2 a ha⟩)
    unfold fgt
    rw [k 0, k 1, h1]
    by_cases hz : minI (sumA du' fi' (fgs du' fi' m tr' f).1 0 (nI f) m) (sumA du' fi' (fgs du' fi' m tr' f).1 1 (nI f) m) = 0
    · simp only [if_pos hz]
      exact ⟨trivial, h2⟩
    · simp only [if_neg hz]
      refine ⟨trivial, fun a ha => ?_⟩
      exact (los_cg3 (M := m) (fun b hb => (los_cg3 (M := m) h2 m (Nat.le_refl _) (fun c hc => ⟨hd c hc, hf c hc⟩)).2 b hb) m (Nat.le_refl _) (fun c hc => ⟨hd c hc, hf c hc⟩)).2 a ha
theorem sumA_0 {du fi tr : Nat → Int32} {x : Int32} {nf f : Nat} : ∀ m, (∀ a, a < m → ∃ g, fi a = nI g ∧ g < nf) → nf ≤ f → f < 8 → sumA du fi tr x (nI f) m = 0
  | 0, _, _, _ => rfl
  | m + 1, h, h1, h2 => by
    obtain ⟨g, g1, g2⟩ := h m (by omega)
    simp only [sumA]
    rw [if_neg (fun z => by have z2 := z.2; rw [g1] at z2; have := (nI_eq (by omega) (by omega)).mp z2; omega)]
    exact sumA_0 m (fun a ha => h a (by omega)) h1 h2
theorem fgs_nf {du fi tr : Nat → Int32} {nf m : Nat} (h : ∀ a, a < m → ∃ g, fi a = nI g ∧ g < nf) : ∀ f, nf ≤ f → f ≤ 8 → fgs du fi m tr f = fgs du fi m tr nf
  | 0, h1, _ => by rw [show nf = 0 by omega]
  | f + 1, h1, h2 => by
    rcases Nat.eq_or_lt_of_le h1 with e | e
    · rw [e]
    · have ih := fgs_nf (du := du) (tr := tr) h f (by omega) (by omega)
      simp only [fgs]
      have hz : fgt du fi (fgs du fi m tr f).1 m (nI f) = ((fgs du fi m tr f).1, false) := by
        unfold fgt; rw [sumA_0 m h (by omega) (by omega), sumA_0 m h (by omega) (by omega)]; rfl
      rw [hz]
      simp only [Bool.false_eq_true, if_false]
      rw [ih]
theorem mv_nf {fi : Nat → Int32} {o : Int32} {a nf m : Nat} (ho : ordOK o nf m) (h : ∃ f, fi a = nI f ∧ f < nf) : ∃ f, mv fi o a = nI f ∧ f < nf := by
  obtain ⟨q, rfl, q48, hq⟩ := ho
  unfold mv
  split
  · exact h
  · rename_i h0
    have e : 0 < q := by
      rcases Nat.eq_zero_or_pos q with e | e
      · subst e; exact absurd rfl h0
      · exact e
    obtain ⟨e1, e2, e3⟩ := aO_nI e q48
    rw [e1, e2]
    simp only [upd]
    split
    · exact ⟨_, rfl, (hq e).2⟩
    · exact h
theorem mv_cg {fi fi' : Nat → Int32} {o : Int32} {a m : Nat} (h : ∀ a, a < m → fi a = fi' a) (ha : a < m) : mv fi o a = mv fi' o a := by
  unfold mv
  split
  · exact h a ha
  · simp only [upd]; split
    · rfl
    · exact h a ha
theorem ordOK_A {σ : St} {o : Int32} {nf m : Nat} (ho : ordOK o nf m) (h5 : σ.1 5 0 = nI m) (h6 : m ≤ 6) : ¬ o = 0 → hasA σ 5 (aO o) = true := by
  intro h0
  obtain ⟨q, rfl, q48, hq⟩ := ho
  have e : 0 < q := by
    rcases Nat.eq_zero_or_pos q with e | e
    · subst e; exact absurd rfl h0
    · exact e
  obtain ⟨e1, e2, e3⟩ := aO_nI e q48
  rw [e1, hasA_nI h5 h6 (by omega), decide_eq_true (hq e).1]
theorem pd_c {τ : St} {m d : Nat} : (∀ a, a ≠ 3 → a ≠ 4 → a ≠ 8 → a ≠ 16 → (pdF τ 3 m d).1 a = τ.1 a) ∧ (pdF τ 3 m d).1 3 0 = nI (d + 1) ∧ (pdF τ 3 m d).1 4 = (fun _ => 0) ∧ (pdF τ 3 m d).1 8 = (fgs (τ.1 6) (τ.1 7) m (τ.1 8) 8).1 ∧ (pdF τ 3 m d).1 16 = upd (τ.1 16) d (fgs (τ.1 6) (τ.1 7) m (τ.1 8) 8).2 ∧ (pdF τ 3 m d).2 = τ.2 := by
  unfold pdF
  refine ⟨fun a h1 h2 h3 h4 => ?_, ?_, ?_, ?_, ?_, rfl⟩
  · rw [pi_o h1, pr_o h2, pi_o h4, pr_o h3]
  · rw [pi_ss]
  · rw [pi_o (by decide), pr_s]
  · rw [pi_o (by decide), pr_o (by decide), pi_o (by decide), pr_s]
  · rw [pi_o (by decide), pr_o (by decide), pi_as, pr_s, pr_o (by decide)]
theorem dt_c {ρ : St} {d : Nat} : (∀ a, a ≠ 7 → a ≠ 15 → (dayT ρ d).1 a = ρ.1 a) ∧ (dayT ρ d).1 7 = mv (mv (ρ.1 7) (ρ.1 4 0)) (ρ.1 4 1) ∧ (dayT ρ d).1 15 = upd (upd (ρ.1 15) (2 * d + 0) (gO (ρ.1 4 0))) (2 * d + 1) (gO (ρ.1 4 1)) ∧ (dayT ρ d).2 = ρ.2 := by
  unfold dayT mvS
  refine ⟨fun a h1 h2 => ?_, ?_, ?_, rfl⟩
  · rw [pr_o h1, pr_o h1, pi_o h2, pi_o h2]
  · rw [pr_s, pr_s, pi_o (by decide), pi_o (by decide)]
  · rw [pr_o (by decide), pr_o (by decide), pi_as, pr_s, pi_as, pr_s]
theorem both_day : Both m_X10_day m_X11_day [] := by
  intro σ hI
  obtain ⟨nf, m, p, q, hL, hD, ⟨np, d, hN⟩, hT, hP, hG, hU, hW⟩ := id hI
  have ho := hN.oh hL hD
  obtain ⟨⟨d1, d2, d3, d4⟩, ⟨n1, n2, n3, n4⟩, ⟨n5, n6⟩, ⟨n7, n7b, n7c⟩, n8, n9⟩ := hN.n3
  obtain ⟨p1, p2, p3, p4, p5, p6⟩ := id hP
  obtain ⟨o1, w1, y1, -⟩ := id n3
  obtain ⟨o2, w2, y2, -⟩ := id n4
  have h6 := hD.1
  have e1 := t_X10_day p4 p2 p3 p1 n5 h6 d1 d3 d4 (by rw [n1]; exact ordOK_A n3 n5 h6) (by rw [n2]; exact ordOK_A n4 n5 h6)
  have key : ∀ t : St, (∀ a, 208 ≤ a → t.1 a = σ.1 a) → Ret m_X11_day t [.ref 208] (some (.int (dyM t p m nf d o1 o2).1)) (dyM t p m nf d o1 o2).2 := fun t ht =>
    t_X11_day (by rw [ht 208 (by decide)]; exact hD.2.1) h6 (by rw [ht 208 (by decide)]; exact hL.2.1) hL.2.2.2.1 (by rw [ht 211 (by decide)]; exact har_of ho) (by rw [ht 208 (by decide)]; exact p5) p1 (by rw [ht 211 (by decide)]; exact d2) d3 d4 (by rw [ht 211 (by decide)]; exact w1) y1 (by rw [ht 211 (by decide)]; exact w2) y2
  unfold dayR at e1
  by_cases h9 : 9 < σ.1 3 0
  · rw [if_pos h9] at e1
    have e2 := key σ (fun _ _ => rfl)
    unfold dyM at e2
    rw [if_pos (show 9 < σ.1 211 0 by rw [d2, ← d1]; exact h9)] at e2
    exact bothE e1 e2 rfl hI
  · rw [if_neg h9] at e1
    have hd9 : d ≤ 9 := by
      rcases Nat.lt_or_ge 9 d with z | z
      · exact absurd (by rw [d1]; exact nI_lt (a := 9) z (by omega)) h9
      · exact z
    have ρo : ∀ a, a < 35 → (remS σ q p).1 a = σ.1 a := fun a ha => remS_o ha
    obtain ⟨t1, t7, t15, t2⟩ := dt_c (ρ := remS σ q p) (d := d)
    obtain ⟨f1, f3, f4, f8, f16, f2⟩ := pd_c (τ := dayT (remS σ q p) d) (m := m) (d := d)
    have hh : ∀ a, 177 ≤ a → (pdF (dayT (remS σ q p) d) 3 m d).1 a = σ.1 a := fun a ha => by
      rw [f1 a (by omega) (by omega) (by omega) (by omega), t1 a (by omega) (by omega), remS_hi p2 ha]
    have e3 := key (pdF (dayT (remS σ q p) d) 3 m d) (fun a ha => hh a (by omega))
    unfold dyM at e3
    rw [if_neg (show ¬ 9 < (pdF (dayT (remS σ q p) d) 3 m d).1 211 0 by rw [hh 211 (by decide), d2, ← d1]; exact h9), hh 210 (by decide), hh 211 (by decide), hh 220 (by decide)] at e3
    have hT0 : trOK (fun a => lyR (σ.1 220) (σ.1 211) 6 (13 * 0 + 7 + a)) m := fun a ha => by
      obtain ⟨-, -, -, -, ⟨t, t1, t2⟩⟩ := n6 a ha
      refine ⟨t, ?_, t2⟩
      simp only [lyR]; rw [if_neg (by omega), if_pos (by omega), show 13 * 0 + 7 + a + 2 = 9 + a by omega]; exact t1
    have hs := gsR_spec (du := σ.1 210) (row := lyR (σ.1 220) (σ.1 211) 6) (w := 0) (m := m) (nf := nf) h6 y1 y2 hT0
    have rF : ∀ a, a < m → lyR (σ.1 220) (σ.1 211) 6 (13 * 0 + 1 + a) = σ.1 7 a := fun a ha => by
      rw [(n6 a ha).2.1]; simp only [lyR]; rw [if_neg (by omega), if_pos (by omega)]; exact congrArg (σ.1 211) (by omega)
    have rT : ∀ a, a < m → lyR (σ.1 220) (σ.1 211) 6 (13 * 0 + 7 + a) = σ.1 8 a := fun a ha => by
      rw [(n6 a ha).2.2.1]; simp only [lyR]; rw [if_neg (by omega), if_pos (by omega)]; exact congrArg (σ.1 211) (by omega)
    have rV : ∀ a, a < m → mv (mv (fun a => lyR (σ.1 220) (σ.1 211) 6 (13 * 0 + 1 + a)) (nI o1)) (nI o2) a = mv (mv (σ.1 7) (nI o1)) (nI o2) a := fun a ha => mv_cg (fun b hb => mv_cg (fun c hc => rF c hc) hb) ha
    have hmv : ∀ a, a < m → ∃ g, mv (mv (σ.1 7) (nI o1)) (nI o2) a = nI g ∧ g < nf := fun a ha => by
      rw [← w1, ← w2]
      exact mv_nf n4 (mv_nf n3 (by rw [(n6 a ha).2.1]; exact (n6 a ha).2.2.2.1))
    obtain ⟨g1, g2⟩ := fgs_cg (du := σ.1 210) (du' := σ.1 6) (fun a ha => ((n6 a ha).1).symm) rV rT nf
    have g8 := fgs_nf (du := σ.1 6) (tr := σ.1 8) hmv 8 hL.2.2.2.1 (Nat.le_refl _)
    have c7 : (dayT (remS σ q p) d).1 7 = mv (mv (σ.1 7) (nI o1)) (nI o2) := by rw [t7, ρo 7 (by decide), ρo 4 (by decide), n1, n2, w1, w2]
    have c6 : (dayT (remS σ q p) d).1 6 = σ.1 6 := by rw [t1 6 (by decide) (by decide), ρo 6 (by decide)]
    have c8 : (dayT (remS σ q p) d).1 8 = σ.1 8 := by rw [t1 8 (by decide) (by decide), ρo 8 (by decide)]
    rw [c6, c7, c8, g8] at f8 f16
    have hv : pdV (dayT (remS σ q p) d) 3 m = (gsR (σ.1 210) m nf 0 (lyR (σ.1 220) (σ.1 211) 6) o1 o2).2 := by
      show (fgs ((dayT (remS σ q p) d).1 6) ((dayT (remS σ q p) d).1 7) m ((dayT (remS σ q p) d).1 8) 8).2 = _
      rw [c6, c7, c8, g8, hs.1]; exact g1.symm
    generalize hG2 : gsR (σ.1 210) m nf 0 (lyR (σ.1 220) (σ.1 211) 6) o1 o2 = G at e3 hs hv
    generalize ht : pdF (dayT (remS σ q p) d) 3 m d = t at e1 e3 f1 f3 f4 f8 f16 f2 hh
    have rm : (layS (remM t p)).1 211 = σ.1 211 := by rw [lay_o (by decide), remM_o (by decide) (by decide), hh 211 (by decide)]
    have hM : Mut σ (dyF (pr (layS (remM t p)) 220 G.1) m d G.2) p q := by
      refine Mut.of (t := t) p2 ?_ (fun a ha => ?_) ?_ (fun a a1 a2 a3 a4 => ?_) (fun j hj => ?_) ?_ ?_
      · rw [f2, t2]; rfl
      · rw [f1 a (by omega) (by omega) (by omega) (by omega), t1 a (by omega) (by omega)]
      · show (remM t p).2 = _
        rw [remM_2]
      · unfold dyF; rw [pr_o a2, pr_o a4, lay_o a4, remM_o a3 a1]
      · unfold dyF; rw [pr_o (by decide), pr_o (by decide), lay_o (by decide), remM_8 hj]
      · unfold dyF; rw [pr_o (by decide), pr_o (by decide), lay_o (by decide), rem_6 p1]
      · unfold dyF; rw [pr_o (by decide), pr_o (by decide), lay_o (by decide)]
    have c211 : (dyF (pr (layS (remM t p)) 220 G.1) m d G.2).1 211 = upd (stA G.1 (dyR (σ.1 211) d G.2) m) 0 (nI (d + 1)) := by
      unfold dyF; rw [pr_s, pr_s, pr_o (by decide), rm]
    have ct : ∀ a, 3 ≤ a → a < 17 → (dyF (pr (layS (remM t p)) 220 G.1) m d G.2).1 a = t.1 a := fun a a1 a2 => by
      unfold dyF; rw [pr_o (by omega), pr_o (by omega), lay_o (by omega), remM_o (by omega) (by omega)]
    generalize hu : dyF (pr (layS (remM t p)) 220 G.1) m d G.2 = u at e3 hM c211 ct
    have cs : ∀ a, 3 ≤ a → a < 17 → a ≠ 3 → a ≠ 4 → a ≠ 7 → a ≠ 8 → a ≠ 15 → a ≠ 16 → u.1 a = σ.1 a := fun a a1 a2 b1 b2 b3 b4 b5 b6 => by
      rw [ct a a1 a2, f1 a b1 b2 b4 b6, t1 a b3 b5, ρo a (by omega)]
    have hdy : ∀ j, j ≠ 1 → j ≠ 2 → ¬ (40 + 3 * (d - 1) ≤ j ∧ j ≤ 40 + 3 * (d - 1) + 2) → dyR (σ.1 211) d G.2 j = σ.1 211 j := fun j b1 b2 b3 => by
      simp only [dyR, upd]
      rw [if_neg (show ¬ j = 40 + 3 * (d - 1) + 2 by omega), if_neg b2, if_neg (show ¬ j = 40 + 3 * (d - 1) + 1 by omega), if_neg b1, if_neg (show ¬ j = 40 + 3 * (d - 1) + 0 by omega)]
    have hup : ∀ j, j ≠ 0 → 15 ≤ j ∨ (1 ≤ j ∧ j ≤ 2) → u.1 211 j = dyR (σ.1 211) d G.2 j := fun j b1 b2 => by
      rw [c211]; simp only [upd]; rw [if_neg b1]; simp only [stA]; rw [if_neg (by omega)]
    have hup2 : ∀ j, 15 ≤ j → ¬ (40 + 3 * (d - 1) ≤ j ∧ j ≤ 40 + 3 * (d - 1) + 2) → u.1 211 j = σ.1 211 j := fun j b1 b2 => by
      rw [hup j (by omega) (by omega)]; exact hdy j (by omega) (by omega) b2
    have v1 : u.1 211 1 = 0 := by
      rw [hup 1 (by decide) (by omega)]; simp only [dyR, upd]
      rw [if_neg (show ¬ 1 = 40 + 3 * (d - 1) + 2 by omega), if_neg (show ¬ 1 = 2 by decide), if_neg (show ¬ 1 = 40 + 3 * (d - 1) + 1 by omega), if_pos trivial]
    have v2 : u.1 211 2 = 0 := by
      rw [hup 2 (by decide) (by omega)]; simp only [dyR, upd]
      rw [if_neg (show ¬ 2 = 40 + 3 * (d - 1) + 2 by omega), if_pos trivial]
    have v0 : u.1 211 0 = nI (d + 1) := by rw [c211, upd_at]
    have va : ∀ a, a < m → u.1 211 (3 + a) = G.1 (13 * (0 + 1) + 1 + a) := fun a ha => by
      rw [c211]; simp only [upd]; rw [if_neg (by omega)]; simp only [stA]; rw [if_pos (by omega)]; exact congrArg G.1 (by omega)
    have vt : ∀ a, a < m → u.1 211 (9 + a) = G.1 (13 * (0 + 1) + 7 + a) := fun a ha => by
      rw [c211]; simp only [upd]; rw [if_neg (by omega)]; simp only [stA]; rw [if_pos (by omega)]; exact congrArg G.1 (by omega)
    have z0 : ordOK (0 : Int32) nf m := ⟨0, rfl, by decide, fun z => absurd z (by decide)⟩
    refine bothE e1 e3 (by rw [hv]) (hM.inv hL hD ⟨np, d, hN⟩ hT hP hG hU hW ⟨np, d + 1, ?_⟩)
    refine ⟨⟨?_, v0, by omega, by omega⟩, ?_, ⟨?_, fun a ha => ⟨?_, ?_, ?_, ?_, ?_⟩⟩, ?_, fun k hk => ?_, fun e b1 b2 => ?_⟩
    · rw [ct 3 (by decide) (by decide)]; exact f3
    · show u.1 4 0 = _ ∧ u.1 4 1 = _ ∧ _
      rw [ct 4 (by decide) (by decide), f4, v1, v2]
      exact ⟨rfl, rfl, z0, z0⟩
    · exact (congrFun (cs 5 (by decide) (by decide) (by decide) (by decide) (by decide) (by decide) (by decide) (by decide)) 0).trans n5
    · show u.1 6 a = _
      rw [cs 6 (by decide) (by decide) (by decide) (by decide) (by decide) (by decide) (by decide) (by decide), hM.2.1 210 (by omega)]; exact (n6 a ha).1
    · show u.1 7 a = _
      rw [ct 7 (by decide) (by decide), f1 7 (by decide) (by decide) (by decide) (by decide), c7, va a ha, hs.2.2.1 a (by omega)]; exact (rV a ha).symm
    · show u.1 8 a = _
      rw [ct 8 (by decide) (by decide), f8, vt a ha, hs.2.1 a (by omega)]; exact (g2 a ha).symm
    · rw [va a ha, hs.2.2.1 a (by omega), rV a ha]; exact hmv a ha
    · rw [vt a ha]; exact hs.2.2.2.2.2.1 a ha
    · show u.1 9 0 = _ ∧ _
      rw [cs 9 (by decide) (by decide) (by decide) (by decide) (by decide) (by decide) (by decide) (by decide), hup2 15 (by decide) (by omega)]; exact ⟨n7, n7b, n7c⟩
    · show ((u.1 10 k = _ ∧ u.1 11 k = _ ∧ u.1 12 k = _ ∧ u.1 13 k = _) ∧ _)
      rw [cs 10 (by decide) (by decide) (by decide) (by decide) (by decide) (by decide) (by decide) (by decide), cs 11 (by decide) (by decide) (by decide) (by decide) (by decide) (by decide) (by decide) (by decide), cs 12 (by decide) (by decide) (by decide) (by decide) (by decide) (by decide) (by decide) (by decide), cs 13 (by decide) (by decide) (by decide) (by decide) (by decide) (by decide) (by decide) (by decide), hup2 _ (by omega) (by omega), hup2 _ (by omega) (by omega), hup2 _ (by omega) (by omega), hup2 _ (by omega) (by omega)]
      exact n8 k hk
    · show u.1 15 (2 * e + 0) = _ ∧ u.1 15 (2 * e + 1) = _ ∧ u.1 16 e = _
      rw [ct 15 (by decide) (by decide), f1 15 (by decide) (by decide) (by decide) (by decide), t15, ct 16 (by decide) (by decide), f16, ρo 15 (by decide), t1 16 (by decide) (by decide), ρo 16 (by decide), ρo 4 (by decide), n1, n2]
      rcases Nat.eq_or_lt_of_le (Nat.lt_succ_iff.mp b2) with z | z
      · subst z
        rw [hup _ (by omega) (by omega), hup _ (by omega) (by omega), hup _ (by omega) (by omega)]
        simp only [dyR, upd]
        refine ⟨?_, ?_, ?_⟩
        · rw [if_neg (show ¬ 2 * e + 0 = 2 * e + 1 by omega), if_pos trivial, if_neg (show ¬ 40 + 3 * (e - 1) + 0 = 40 + 3 * (e - 1) + 2 by omega), if_neg (show ¬ 40 + 3 * (e - 1) + 0 = 2 by omega), if_neg (show ¬ 40 + 3 * (e - 1) + 0 = 40 + 3 * (e - 1) + 1 by omega), if_neg (show ¬ 40 + 3 * (e - 1) + 0 = 1 by omega), if_pos trivial]
        · rw [if_pos trivial, if_neg (show ¬ 40 + 3 * (e - 1) + 1 = 40 + 3 * (e - 1) + 2 by omega), if_neg (show ¬ 40 + 3 * (e - 1) + 1 = 2 by omega), if_pos trivial]
        · rw [if_pos trivial, if_pos trivial, hs.1]; exact g1.symm
      · rw [hup2 _ (by omega) (by omega), hup2 _ (by omega) (by omega), hup2 _ (by omega) (by omega)]
        simp only [upd]
        rw [if_neg (show ¬ 2 * e + 0 = 2 * d + 1 by omega), if_neg (show ¬ 2 * e + 0 = 2 * d + 0 by omega), if_neg (show ¬ 2 * e + 1 = 2 * d + 1 by omega), if_neg (show ¬ 2 * e + 1 = 2 * d + 0 by omega), if_neg (show ¬ e = d by omega)]
        exact n9 e b1 z
