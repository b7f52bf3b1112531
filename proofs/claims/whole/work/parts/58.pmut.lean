theorem remM_212 {σ : St} {p : Nat} : (remM σ p).1 212 = if p = 10 then va_cpy (σ.1 211) (va_cpy (σ.1 212) (σ.1 212) 67 0 603) 0 (67 * 9) 67 else va_cpy (σ.1 211) (σ.1 212) 0 (67 * p) 67 := by
  unfold remM
  split
  · unfold rm2 rm1
    rw [pi_o (by decide), pr_s, pi_o (by decide), pr_o (by decide), pi_o (by decide), pr_s]
  · unfold rm2
    rw [pi_o (by decide), pr_s]
theorem rem_hi {σ : St} {p j : Nat} (hp : p ≤ 10) (hj : j < 67) : (remM σ p).1 212 (67 * min p 9 + j) = σ.1 211 j := by
  rw [remM_212]
  split
  · rename_i h; subst h
    simp only [va_cpy]; rw [if_pos (by omega)]; exact congrArg (σ.1 211) (by omega)
  · simp only [va_cpy]; rw [if_pos (by omega)]; exact congrArg (σ.1 211) (by omega)
theorem rem_lo {σ : St} {p j : Nat} (hp : p < 10) (hj : j < 67 * p) : (remM σ p).1 212 j = σ.1 212 j := by
  rw [remM_212, if_neg (by omega)]
  simp only [va_cpy]; rw [if_neg (by omega)]
theorem rem_lo10 {σ : St} {j : Nat} (hj : j < 603) : (remM σ 10).1 212 j = σ.1 212 (j + 67) := by
  rw [remM_212, if_pos rfl]
  simp only [va_cpy]; rw [if_neg (show ¬ (67 * 9 ≤ j ∧ j < 67 * 9 + 67) by omega), if_pos (show 0 ≤ j ∧ j < 0 + 603 by omega)]; exact congrArg (σ.1 212) (by omega)
theorem rem_6 {σ : St} {p : Nat} (hp : p ≤ 10) : (remM σ p).1 208 6 = nI (min (p + 1) 10) := by
  unfold remM rm2
  split
  · rename_i h; subst h; rw [pi_ss]; rfl
  · rw [pi_ss]; congr 1; omega
theorem rem_cg {σ τ : St} {p : Nat} (h1 : τ.1 211 = σ.1 211) (h2 : τ.1 212 = σ.1 212) : (remM τ p).1 212 = (remM σ p).1 212 := by rw [remM_212, remM_212, h1, h2]
def Mut (σ u : St) (p q : Nat) : Prop := u.2 = σ.2 ∧
  (∀ a, (1 ≤ a ∧ a ≤ 2) ∨ (17 ≤ a ∧ a ≤ 34) ∨ (177 ≤ a ∧ a < 208) ∨ a = 209 ∨ a = 210 ∨ (213 ≤ a ∧ a ≤ 215) → u.1 a = σ.1 a) ∧
  (u.1 208 0 = σ.1 208 0 ∧ u.1 208 2 = σ.1 208 2 ∧ u.1 208 11 = σ.1 208 11) ∧
  (u.1 35 0 = nI (min (p + 1) 10) ∧ u.1 35 1 = nI ((q + 1) % 10) ∧ u.1 208 6 = nI (min (p + 1) 10)) ∧
  (∀ i, i < 14 → u.1 (37 + 14 * q + i) = σ.1 (3 + i)) ∧
  (∀ a, 37 ≤ a → a < 177 → ¬ (37 + 14 * q ≤ a ∧ a < 37 + 14 * q + 14) → u.1 a = σ.1 a) ∧
  u.1 212 = (remM σ p).1 212
theorem Mut.inv {σ u : St} {nf m p q : Nat} (h : Mut σ u p q) (hL : LandOK σ nf) (hD : DukOK σ m) (hN : NRx σ 3 (σ.1 211) nf m) (hT : TxtOK σ) (hP : PstOK σ nf m p q) (hG : ImgOK σ nf m) (hU : TolOK σ) (hW : σ.2 0 = σ.2 208) (hu : NRx u 3 (u.1 211) nf m) : Inv u := by
  obtain ⟨h1, h2, ⟨h3, h4, h5⟩, ⟨h6, h7, h8⟩, h9, h10, h11⟩ := h
  obtain ⟨p1, p2, p3, p4, p5, p6⟩ := hP
  have e210 : u.1 210 = σ.1 210 := h2 210 (by omega)
  refine ⟨nf, m, min (p + 1) 10, (q + 1) % 10, ?_, ?_, hu, ?_, ?_, ?_, ?_, ?_⟩
  · exact hL.cg (h2 1 (by omega)) (h2 2 (by omega)) h3 (h2 209 (by omega))
  · exact hD.cg h4 e210
  · exact hT.cg (by rw [h2 17 (by omega)]) h5 (h2 34 (by omega)) (h2 215 (by omega))
  · refine ⟨by omega, by omega, h6, h7, h8, fun i hi => ?_⟩
    rw [h11]
    rcases Nat.lt_or_ge p 10 with hp | hp
    · rcases Nat.lt_or_ge i p with hi2 | hi2
      · rw [show ((q + 1) % 10 + 10 - min (p + 1) 10 + i) % 10 = (q + 10 - p + i) % 10 by omega]
        exact (p6 i hi2).cg (fun j hj => h10 _ (by omega) (by omega) (by omega)) e210 (fun j hj => rem_lo hp (by omega)) hD.1
      · rw [show ((q + 1) % 10 + 10 - min (p + 1) 10 + i) % 10 = q by omega]
        have hip : i = p := by omega
        subst hip
        refine hN.cg (fun j hj => h9 j hj) e210 (fun j hj => ?_) hD.1
        have := rem_hi (σ := σ) (p := i) (j := j) p1 hj
        rw [Nat.min_eq_left (by omega)] at this; exact this
    · have hp10 : p = 10 := by omega
      subst hp10
      rcases Nat.lt_or_ge i 9 with hi2 | hi2
      · rw [show ((q + 1) % 10 + 10 - min (10 + 1) 10 + i) % 10 = (q + 10 - 10 + (i + 1)) % 10 by omega]
        refine (p6 (i + 1) (by omega)).cg (fun j hj => h10 _ (by omega) (by omega) (by omega)) e210 (fun j hj => ?_) hD.1
        rw [rem_lo10 (by omega)]; exact congrArg (σ.1 212) (by omega)
      · rw [show ((q + 1) % 10 + 10 - min (10 + 1) 10 + i) % 10 = q by omega]
        have hip : i = 9 := by omega
        subst hip
        refine hN.cg (fun j hj => h9 j hj) e210 (fun j hj => ?_) hD.1
        exact rem_hi (σ := σ) (p := 10) (j := j) p1 hj
  · exact hG.cg hD.1 (h2 178 (by omega)) (h2 214 (by omega)) (h2 213 (by omega)) e210 (fun a g1 g2 => h2 a (by omega))
  · exact hU.cg (h2 20 (by omega)) (h2 21 (by omega))
  · rw [h1]; exact hW
theorem remS_hi {σ : St} {q p a : Nat} (hq : q < 10) (h : 177 ≤ a) : (remS σ q p).1 a = σ.1 a := by
  unfold remS; rw [pi_o (by omega), pi_o (by omega), cpR_out (by omega)]
theorem Mut.of {σ t u : St} {p q : Nat} (q10 : q < 10) (c1 : t.2 = σ.2) (c2 : ∀ a, ¬ (3 ≤ a ∧ a < 17) → t.1 a = (remS σ q p).1 a) (m1 : u.2 = t.2) (m2 : ∀ a, a ≠ 208 → a ≠ 211 → a ≠ 212 → a ≠ 220 → u.1 a = t.1 a) (m3 : ∀ j, j ≠ 6 → u.1 208 j = t.1 208 j) (m4 : u.1 208 6 = nI (min (p + 1) 10)) (m5 : u.1 212 = (remM t p).1 212) : Mut σ u p q := by
  have e8 : t.1 208 = σ.1 208 := by rw [c2 208 (by omega), remS_hi q10 (by omega)]
  have e11 : t.1 211 = σ.1 211 := by rw [c2 211 (by omega), remS_hi q10 (by omega)]
  have e12 : t.1 212 = σ.1 212 := by rw [c2 212 (by omega), remS_hi q10 (by omega)]
  refine ⟨m1.trans c1, fun a ha => ?_, ⟨?_, ?_, ?_⟩, ⟨?_, ?_, m4⟩, fun i hi => ?_, fun a g1 g2 g3 => ?_, ?_⟩
  · rw [m2 a (by omega) (by omega) (by omega) (by omega), c2 a (by omega)]
    unfold remS; rw [pi_o (by omega), pi_o (by omega), cpR_out (by omega)]
  · rw [m3 0 (by decide), e8]
  · rw [m3 2 (by decide), e8]
  · rw [m3 11 (by decide), e8]
  · rw [m2 35 (by decide) (by decide) (by decide) (by decide), c2 35 (by omega)]; unfold remS; rw [pi_ss]
  · rw [m2 35 (by decide) (by decide) (by decide) (by decide), c2 35 (by omega)]; unfold remS; rw [pi_so (by decide), pi_ss]
  · rw [m2 _ (by omega) (by omega) (by omega) (by omega), c2 _ (by omega)]
    unfold remS; rw [pi_o (by omega), pi_o (by omega), cpR_in (by omega) (by omega)]; exact congrArg σ.1 (by omega)
  · rw [m2 _ (by omega) (by omega) (by omega) (by omega), c2 _ (by omega)]
    unfold remS; rw [pi_o (by omega), pi_o (by omega), cpR_out (by omega)]
  · rw [m5, rem_cg e11 e12]
theorem ordB_cg {σ τ : St} {w : Nat} {x o : Int32} (h8 : τ.1 208 = σ.1 208) (h9 : τ.1 209 = σ.1 209) (h10 : τ.1 210 = σ.1 210) (h20 : τ.1 220 = σ.1 220) : ordB τ w x o = ordB σ w x o := by
  unfold ordB; rw [h8, h9, h10, h20]
theorem lay_cg {σ τ : St} (h11 : τ.1 211 = σ.1 211) (h20 : τ.1 220 = σ.1 220) : (layS τ).1 220 = (layS σ).1 220 := by
  unfold layS; rw [pr_s, pr_s, h11, h20]
theorem ord_ok {σ : St} {nf m : Nat} {x o : Int32} (h : OH σ nf m) (ho : ordB (layS σ) 0 x o = true) : ordOK o nf m := by
  obtain ⟨⟨l1, l2, l3, l4, l5, l6⟩, ⟨d1, d2, d3⟩, h5, hA⟩ := h
  unfold ordB at ho
  by_cases h0 : o = 0
  · exact ⟨0, h0, by decide, fun z => absurd z (by decide)⟩
  rw [if_neg h0] at ho
  by_cases hn : o ≤ 0
  · rw [if_pos hn] at ho; exact absurd ho (by decide)
  rw [if_neg hn] at ho
  obtain ⟨q, hq, rfl⟩ := nI_of (fun z => hn (Int32.le_of_lt z))
  have q0 : 0 < q := by
    rcases Nat.eq_zero_or_pos q with e | e
    · subst e; exact absurd rfl h0
    · exact e
  have hp : nI q - 1 = nI (q - 1) := by rw [show q = (q - 1) + 1 by omega]; exact nI_pred _
  simp only [Bool.and_eq_true] at ho
  obtain ⟨o1, -, -, o4, -⟩ := ho
  rw [hp, div_nI (by omega), inB_nI (y := (layS σ).1 208 2) (by rw [lay_o (by decide)]; exact d2) (by omega) (by omega), decide_eq_true_eq] at o1
  have h48 : q ≤ 48 := by omega
  obtain ⟨m1, m2⟩ := md8 (q - 1) (by omega)
  rw [hp, m1, m2, inB_nI (y := (layS σ).1 208 0) (by rw [lay_o (by decide)]; exact l2) (by omega) (by omega), decide_eq_true_eq] at o4
  exact ⟨q, rfl, h48, fun _ => ⟨o1, o4⟩⟩
theorem both_orders {x o : Int32} : Both m_X10_orders m_X11_orders [.int x, .int o] := by
  intro σ hI
  obtain ⟨nf, m, p, q, hL, hD, ⟨np, d, hN⟩, hT, hP, hG, hU, hW⟩ := id hI
  have ho := hN.oh hL hD
  obtain ⟨⟨d1, d2, d3, d4⟩, ⟨n1, n2, n3, n4⟩, ⟨n5, n6⟩, n7, n8, n9⟩ := hN.n3
  obtain ⟨p1, p2, p3, p4, p5, p6⟩ := id hP
  have e1 := t_X10_orders (x := x) (o := o) p4 p2 p3 p1
  have key : ∀ t : St, (∀ a, 208 ≤ a → t.1 a = σ.1 a) → Ret m_X11_orders t [.ref 208, .int x, .int o] (some (.int (ordM t p x o).1)) (ordM t p x o).2 := fun t ht =>
    t_X11_orders (by rw [ht 208 (by decide)]; exact hD.2.1) hD.1 (by rw [ht 208 (by decide)]; exact hL.2.1) hL.2.2.2.1 (by rw [ht 211 (by decide)]; exact har_of ho) (by rw [ht 208 (by decide)]; exact p5) p1
  unfold ordR at e1
  rw [duke_inB, one_eq ho] at e1
  have e2 := key σ (fun _ _ => rfl)
  by_cases hx : inB x 0 1 = true
  · by_cases hb : ordB (layS σ) 0 x o = true
    · rw [if_pos ⟨hx, hb⟩] at e1
      by_cases h9 : 9 < σ.1 3 0
      · rw [if_pos h9] at e1
        unfold ordM at e2
        rw [if_pos hx, if_pos hb, if_pos (show 9 < σ.1 211 0 by rw [d2, ← d1]; exact h9)] at e2
        exact bothE e1 e2 rfl (lay_agr.inv hI)
      · rw [if_neg h9] at e1
        obtain ⟨xx, hxx, rfl⟩ := inB01 hx
        have cx : (nI xx).toNatClampNeg = xx := nI_clamp (by omega)
        rw [cx] at e1
        have hh : ∀ a, 208 ≤ a → (pi (remS σ q p) 4 xx o).1 a = σ.1 a := fun a ha => by rw [pi_o (by omega), remS_hi p2 (by omega)]
        have e3 := key (pi (remS σ q p) 4 xx o) hh
        have hb2 : ordB (layS (pi (remS σ q p) 4 xx o)) 0 (nI xx) o = true := by
          rw [ordB_cg (σ := layS σ)]
          · exact hb
          · rw [lay_o (by decide), lay_o (by decide), hh 208 (by decide)]
          · rw [lay_o (by decide), lay_o (by decide), hh 209 (by decide)]
          · rw [lay_o (by decide), lay_o (by decide), hh 210 (by decide)]
          · exact lay_cg (hh 211 (by decide)) (hh 220 (by decide))
        unfold ordM at e3
        rw [if_pos hx, if_pos hb2, if_neg (show ¬ 9 < (pi (remS σ q p) 4 xx o).1 211 0 by rw [hh 211 (by decide), d2, ← d1]; exact h9), cx] at e3
        have hM : Mut σ (pi (remM (layS (pi (remS σ q p) 4 xx o)) p) 211 (1 + xx) o) p q := by
          refine Mut.of (t := pi (remS σ q p) 4 xx o) p2 rfl (fun a ha => pi_o (by omega)) ?_ (fun a a1 a2 a3 a4 => ?_) (fun j hj => ?_) ?_ ?_
          · show (remM (layS (pi (remS σ q p) 4 xx o)) p).2 = _
            rw [remM_2]; rfl
          · rw [pi_o a2, remM_o a3 a1, lay_o a4]
          · rw [pi_o (by decide), remM_8 hj, lay_o (by decide)]
          · rw [pi_o (by decide), rem_6 p1]
          · rw [pi_o (by decide)]; exact rem_cg (lay_o (by decide)) (lay_o (by decide))
        have c3 : ∀ a, 3 ≤ a → a < 17 → a ≠ 4 → (pi (remM (layS (pi (remS σ q p) 4 xx o)) p) 211 (1 + xx) o).1 a = σ.1 a := fun a a1 a2 a3 => by
          rw [pi_o (by omega), remM_o (by omega) (by omega), lay_o (by omega), pi_o a3, remS_o (by omega)]
        have c4 : (pi (remM (layS (pi (remS σ q p) 4 xx o)) p) 211 (1 + xx) o).1 4 = upd (σ.1 4) xx o := by
          rw [pi_o (by decide), remM_o (by decide) (by decide), lay_o (by decide), pi_as, pr_s, remS_o (by decide)]
        have c211 : (pi (remM (layS (pi (remS σ q p) 4 xx o)) p) 211 (1 + xx) o).1 211 = upd (σ.1 211) (1 + xx) o := by
          rw [pi_as, pr_s, remM_o (by decide) (by decide), lay_o (by decide), hh 211 (by decide)]
        have c210 : (pi (remM (layS (pi (remS σ q p) 4 xx o)) p) 211 (1 + xx) o).1 210 = σ.1 210 := hM.2.1 210 (by omega)
        refine bothE e1 e3 rfl (hM.inv hL hD ⟨np, d, hN⟩ hT hP hG hU hW ⟨np, d, ?_⟩)
        have hok := ord_ok ho hb
        have u1 : ∀ j, j ≠ 1 + xx → upd (σ.1 211) (1 + xx) o j = σ.1 211 j := fun j hj => by simp only [upd]; rw [if_neg hj]
        rw [c211]
        refine ⟨?_, ?_, ⟨?_, fun a ha => ?_⟩, ?_, fun k hk => ?_, fun e g1 g2 => ?_⟩
        · rw [c3 3 (by decide) (by decide) (by decide), u1 0 (by omega)]; exact ⟨d1, d2, d3, d4⟩
        · show (pi (remM (layS (pi (remS σ q p) 4 xx o)) p) 211 (1 + xx) o).1 4 0 = _ ∧ (pi (remM (layS (pi (remS σ q p) 4 xx o)) p) 211 (1 + xx) o).1 4 1 = _ ∧ _
          rw [c4]
          rcases (by omega : xx = 0 ∨ xx = 1) with rfl | rfl
          · exact ⟨rfl, n2, hok, n4⟩
          · exact ⟨n1, rfl, n3, hok⟩
        · exact (congrFun (c3 5 (by decide) (by decide) (by decide)) 0).trans n5
        · show (pi (remM (layS (pi (remS σ q p) 4 xx o)) p) 211 (1 + xx) o).1 6 a = _ ∧ (pi (remM (layS (pi (remS σ q p) 4 xx o)) p) 211 (1 + xx) o).1 7 a = _ ∧ (pi (remM (layS (pi (remS σ q p) 4 xx o)) p) 211 (1 + xx) o).1 8 a = _ ∧ _
          rw [c3 6 (by decide) (by decide) (by decide), c3 7 (by decide) (by decide) (by decide), c3 8 (by decide) (by decide) (by decide), c210, u1 _ (by omega), u1 _ (by omega)]
          exact n6 a ha
        · show (pi (remM (layS (pi (remS σ q p) 4 xx o)) p) 211 (1 + xx) o).1 9 0 = _ ∧ _
          rw [c3 9 (by decide) (by decide) (by decide), u1 _ (by omega)]; exact n7
        · show (((pi (remM (layS (pi (remS σ q p) 4 xx o)) p) 211 (1 + xx) o).1 10 k = _ ∧ (pi (remM (layS (pi (remS σ q p) 4 xx o)) p) 211 (1 + xx) o).1 11 k = _ ∧ (pi (remM (layS (pi (remS σ q p) 4 xx o)) p) 211 (1 + xx) o).1 12 k = _ ∧ (pi (remM (layS (pi (remS σ q p) 4 xx o)) p) 211 (1 + xx) o).1 13 k = _) ∧ _)
          rw [c3 10 (by decide) (by decide) (by decide), c3 11 (by decide) (by decide) (by decide), c3 12 (by decide) (by decide) (by decide), c3 13 (by decide) (by decide) (by decide), u1 _ (by omega), u1 _ (by omega), u1 _ (by omega), u1 _ (by omega)]
          exact n8 k hk
        · show (pi (remM (layS (pi (remS σ q p) 4 xx o)) p) 211 (1 + xx) o).1 15 (2 * e + 0) = _ ∧ (pi (remM (layS (pi (remS σ q p) 4 xx o)) p) 211 (1 + xx) o).1 15 (2 * e + 1) = _ ∧ (pi (remM (layS (pi (remS σ q p) 4 xx o)) p) 211 (1 + xx) o).1 16 e = _
          rw [c3 15 (by decide) (by decide) (by decide), c3 16 (by decide) (by decide) (by decide), u1 _ (by omega), u1 _ (by omega), u1 _ (by omega)]
          exact n9 e g1 g2
    · rw [if_neg (fun z => hb z.2)] at e1
      unfold ordM at e2
      rw [if_pos hx, if_neg hb] at e2
      exact bothE e1 e2 rfl (lay_agr.inv hI)
  · rw [if_neg (fun z => hx z.1)] at e1
    unfold ordM at e2
    rw [if_neg hx] at e2
    exact bothE e1 e2 rfl hI
