def OH (σ : St) (nf m : Nat) : Prop := LandOK σ nf ∧ DukOK σ m ∧ σ.1 5 0 = nI m ∧ ∀ a, a < m → σ.1 6 a = σ.1 210 a ∧ σ.1 7 a = σ.1 211 (3 + a) ∧ σ.1 8 a = σ.1 211 (9 + a) ∧ (∃ f, σ.1 211 (3 + a) = nI f ∧ f < nf) ∧ (∃ t, σ.1 211 (9 + a) = nI t ∧ t ≤ 9)
theorem NR.oh {σ : St} {nf m np d : Nat} (h : NR σ 3 (σ.1 211) nf m np d) (hL : LandOK σ nf) (hD : DukOK σ m) : OH σ nf m := by
  obtain ⟨-, -, ⟨a, b⟩, -⟩ := h.n3
  exact ⟨hL, hD, a, b⟩
theorem one_eq {σ : St} {nf m : Nat} {x o : Int32} (h : OH σ nf m) : oneB σ 1 3 x o = ordB (layS σ) 0 x o := by
  obtain ⟨⟨l1, l2, l3, l4, l5, l6⟩, ⟨d1, d2, d3⟩, h5, hA⟩ := h
  unfold oneB ordB
  by_cases h0 : o = 0
  · rw [if_pos h0, if_pos h0]
  rw [if_neg h0, if_neg h0]
  by_cases hn : o < 0
  · rw [if_pos hn, if_pos (Int32.le_of_lt hn)]
  rw [if_neg hn]
  obtain ⟨q, hq, rfl⟩ := nI_of hn
  have q0 : 0 < q := by
    rcases Nat.eq_zero_or_pos q with e | e
    · subst e; exact absurd rfl h0
    · exact e
  rw [if_neg (nI_nle q0 hq)]
  have hp : nI q - 1 = nI (q - 1) := by rw [show q = (q - 1) + 1 by omega]; exact nI_pred _
  by_cases h48 : q ≤ 48
  · have hl : ¬ (48 : Int32) < nI q := nI_nlt (a := 48) h48 (by decide)
    rw [if_neg hl]
    obtain ⟨e1, e2, e3⟩ := aO_nI q0 h48
    obtain ⟨m1, m2⟩ := md8 (q - 1) (by omega)
    simp only [Nat.reduceAdd]
    rw [e1, e2, hp, m1, m2, hasA_nI h5 d1 (by omega), inB_nI (y := (layS σ).1 208 2) (by rw [lay_o (by decide)]; exact d2) (by omega) (by omega)]
    by_cases ha : (q - 1) / 8 < m
    · obtain ⟨k1, k2, k3, ⟨f, f1, f2⟩, -⟩ := hA _ ha
      rw [decide_eq_true ha, nI_clamp (by omega), show 13 * 0 + 7 + (q - 1) / 8 = 7 + (q - 1) / 8 by omega, show 13 * 0 + 1 + (q - 1) / 8 = 1 + (q - 1) / 8 by omega, lay_7 e3, lay_1 e3, lay_o (by decide), lay_o (show (209 : Nat) ≠ 220 by decide), k1, k2, k3, f1, nI_clamp (by omega)]
      rw [hasL_nI l1 l4 (by omega), inB_nI (y := (layS σ).1 208 0) (by rw [lay_o (by decide)]; exact l2) (by omega) (by omega), waysF_nI l1 f2 l4, l5 f (by omega)]
    · rw [decide_eq_false ha, Bool.false_and, Bool.false_and]
  · have hl : (48 : Int32) < nI q := nI_lt (a := 48) (by omega) hq
    rw [if_pos hl, hp, div_nI (by omega), inB_nI (y := (layS σ).1 208 2) (by rw [lay_o (by decide)]; exact d2) (by omega) (by omega), decide_eq_false (by omega), Bool.false_and]
theorem obB_brk {q e : Nat} {de : Int32} (hq : q ≤ 48) (he : e < 8) : (!obB (nI q) de (nI e)) = brk (nI q) de (nI e) := by
  unfold obB brk
  rcases Nat.eq_zero_or_pos q with z | z
  · subst z
    have h9 : ¬ gO (nI 0) = nI e := by
      intro h
      rcases (by omega : e = 0 ∨ e = 1 ∨ e = 2 ∨ e = 3 ∨ e = 4 ∨ e = 5 ∨ e = 6 ∨ e = 7) with rfl | rfl | rfl | rfl | rfl | rfl | rfl | rfl <;> exact absurd h (by decide)
    rw [decide_eq_true (show nI 0 ≤ 0 by decide), decide_eq_false h9, decide_eq_true (show nI 0 = 0 by decide)]
    by_cases h0 : de = 0
    · subst h0; rfl
    · rw [if_neg h0, decide_eq_false h0]
      by_cases h2 : de = 2
      · subst h2; rfl
      · rw [if_neg h2, decide_eq_false h2]; rfl
  · have hg : gO (nI q) = (nI q - 1) - (nI q - 1) / 8 * 8 := by unfold gO; rw [if_neg (nI_ne0 z (by omega))]
    rw [decide_eq_false (nI_nle z (show q < 2 ^ 31 by omega)), hg, decide_eq_false (nI_ne0 z (show q < 2 ^ 31 by omega))]
    by_cases h0 : de = 0
    · subst h0
      rw [if_pos rfl]
      cases decide (nI q - 1 - (nI q - 1) / 8 * 8 = nI e) <;> rfl
    · rw [if_neg h0, decide_eq_false h0]
      by_cases h2 : de = 2
      · subst h2; rfl
      · rw [if_neg h2, decide_eq_false h2]; rfl
theorem okP_okQ {σ : St} {nf np d q : Nat} {x : Int32} (h : PgH σ nf np d) (h8 : nf ≤ 8) (hq : q ≤ 48) : ∀ n, n ≤ np → okP (σ.1 3 0) x (nI q) (σ.1 10) (σ.1 11) (σ.1 12) (σ.1 13) n = okQ (σ.1 211) (σ.1 211 0) x (nI q) n
  | 0, _ => rfl
  | n + 1, hn => by
    obtain ⟨⟨a1, a2, a3, a4⟩, -, -, ⟨e, e1, e2⟩⟩ := h.2.2.1 n (by omega)
    have hb := obB_brk (q := q) (e := e) (de := σ.1 211 (16 + 4 * n + 2)) hq (by omega)
    simp only [okP, okQ]
    rw [okP_okQ h h8 hq n (by omega), a1, a2, a3, a4, e1, hb, h.1.1, h.1.2.1, Bool.and_assoc]
theorem du_eq {σ : St} {nf m np d q : Nat} {x : Int32} (h : OH σ nf m) (hp : PgH σ nf np d) (hq : q < 49) : duB σ 1 3 np x (nI q) = duM (layS σ) 0 np x (nI q) := by
  unfold duB duM
  rw [one_eq h]
  simp only [Nat.reduceAdd]
  rw [okP_okQ hp h.1.2.2.2.1 (by omega) np (Nat.le_refl _), lay_o (show (211 : Nat) ≠ 220 by decide), show 13 * 0 = 0 from rfl, lay_0]
theorem dAt_cg {p p' : Nat → Bool} {i : Int32} (h : ∀ k, k < 49 → p k = p' k) : ∀ n q, q + n = 49 → dAt p i n q = dAt p' i n q
  | 0, _, _ => rfl
  | n + 1, q, hq => by
    simp only [dAt]
    rw [h q (by omega), dAt_cg h n (q + 1) (by omega), cnt_cg q (fun a ha => h a (by omega))]
theorem lay_agr {σ : St} : Agr σ (layS σ) := ⟨rfl, fun a _ h _ _ => lay_o (by omega), by rw [lay_o (by decide)], by rw [lay_o (by decide)], by rw [lay_o (by decide)], by rw [lay_o (by decide)], by rw [lay_o (by decide)]⟩
theorem har_of {σ : St} {nf m : Nat} (h : OH σ nf m) : ∀ a, a < m → ∃ f, σ.1 211 (3 + a) = nI f ∧ f < 8 := fun a ha => by
  obtain ⟨-, -, -, ⟨f, f1, f2⟩, -⟩ := h.2.2.2 a ha
  exact ⟨f, f1, by have := h.1.2.2.2.1; omega⟩
theorem both_dutiful {x i : Int32} : Both m_X10_dutiful m_X11_dutiful [.int x, .int i] := by
  intro σ hI
  obtain ⟨nf, m, p, q, hL, hD, ⟨np, d, hN⟩, hT, hP, hG, hU, hW⟩ := id hI
  have hpg := hN.pg
  have ho := hN.oh hL hD
  obtain ⟨⟨e1, e2, -, -⟩, ⟨b1, b2, b3⟩, b4, -⟩ := id hpg
  have hc := cnt_cg (p := fun q => duB σ 1 3 np x (nI q)) (q := fun q => duM (layS σ) 0 np x (nI q)) 49 (fun a ha => du_eq ho hpg ha)
  have hd := fun j => dAt_cg (p := fun q => duB σ 1 3 np x (nI q)) (p' := fun q => duM (layS σ) 0 np x (nI q)) (i := j) (fun a ha => du_eq ho hpg ha) 49 0 rfl
  refine bothE (t_X10_dutiful b1 b3) (t_X11_dutiful b2 b3 hD.2.1 hD.1 hL.2.1 hL.2.2.2.1 (har_of ho)) ?_ ?_
  · unfold dutMR dutV dutM
    rw [duke_inB, hc, hd, e1, e2]
    by_cases h1 : inB x 0 1 = true ∧ -1 ≤ i
    · rw [if_pos h1, if_pos h1]
      by_cases h2 : 9 < nI d
      · rw [if_pos h2, if_pos h2]
      · rw [if_neg h2, if_neg h2]
        by_cases h3 : i = -1
        · subst h3; rfl
        · rw [if_neg h3]
          have : ¬ i < 0 := fun z => h3 (by
            have z1 := Int32.le_iff_toInt_le.mp h1.2
            have z2 := Int32.lt_iff_toInt_lt.mp z
            exact Int32.toInt_inj.mp (by simp at *; omega))
          simp only
          rw [if_neg this]
    · rw [if_neg h1, if_neg h1]
  · unfold dutMR
    split
    · split
      · exact hI
      · exact lay_agr.inv hI
    · exact hI
theorem moF_sum {du tr : Nat → Int32} {x : Int32} (hx : x = 0 ∨ x = 1) : ∀ m, (∀ a, a < m → ∃ y, du a = nI y ∧ y < 2) → moF du tr x m = sumT du tr x m - sumT du tr (1 - x) m
  | 0, _ => by simp only [moF, sumT]; grind
  | m + 1, h => by
    have ih := moF_sum (tr := tr) hx m (fun a ha => h a (by omega))
    obtain ⟨y, y1, y2⟩ := h m (by omega)
    simp only [moF, sumT]
    rw [ih, y1]
    rcases hx with rfl | rfl <;> rcases (by omega : y = 0 ∨ y = 1) with rfl | rfl
    · rw [if_pos (by decide), if_pos (by decide), if_neg (by decide)]; grind
    · rw [if_neg (by decide), if_neg (by decide), if_pos (by decide)]; grind
    · rw [if_neg (by decide), if_neg (by decide), if_pos (by decide)]; grind
    · rw [if_pos (by decide), if_pos (by decide), if_neg (by decide)]; grind
theorem fo_eq {p : Nat → Bool} : foV p = if dAt p 0 49 0 = -5 then 0 else dAt p 0 49 0 := by
  unfold foV
  rcases nx_spec p 49 0 rfl with ⟨h1, -, h3, -⟩ | ⟨o, -, h2, h3, h4, h5, h6, -⟩
  · rw [h1, h3, if_neg (by decide), if_pos rfl]
  · have e : dAt p 0 49 0 = nI o := by
      rw [h6, show 49 - o = (48 - o) + 1 by omega]
      simp only [dAt]
      rw [h3, if_pos rfl, h5]
      exact if_pos rfl
    have hn : ¬ nI o = -5 := fun z => absurd (nI_pos' (n := o) (by omega)) (by rw [z]; decide)
    rw [h4, e, if_pos (nI_pos' (by omega)), if_neg hn]
theorem OH.bh {σ : St} {nf m np d : Nat} (h : OH σ nf m) (hp : PgH σ nf np d) : BH (layS σ) np m nf 0 := by
  have h6 := h.2.1.1
  refine ⟨by rw [lay_o (by decide)]; exact hp.2.1.2.1, hp.2.1.2.2, by rw [lay_o (by decide)]; exact h.2.1.2.1, h6, by rw [lay_o (by decide)]; exact h.1.2.1, h.1.2.2.2.1, lay_wf h6 (har_of h), fun a ha => ?_⟩
  obtain ⟨-, -, -, -, ⟨t, t1, t2⟩⟩ := h.2.2.2 a ha
  refine ⟨t, ?_, t2⟩
  show (layS σ).1 220 (13 * 0 + 7 + a) = _
  rw [show 13 * 0 + 7 + a = 7 + a by omega, lay_7 (by omega)]; exact t1
theorem SB.agr {σ t : St} (h : SB σ t) : Agr σ t := ⟨h.1, fun a h1 h2 _ _ => h.2.1 a h1 (by omega), by rw [h.2.1 17 (by decide) (by decide)], h.2.2 0 (by decide), h.2.2 2 (by decide), h.2.2 6 (by decide), h.2.2 11 (by decide)⟩
theorem both_best {x n w : Int32} : Both m_X10_best m_X11_best [.int x, .int n, .int w] := by
  intro σ hI
  obtain ⟨nf, m, p, q, hL, hD, ⟨np, d, hN⟩, hT, hP, hG, hU, hW⟩ := id hI
  have hpg := hN.pg
  have ho := hN.oh hL hD
  obtain ⟨⟨e1, e2, -, -⟩, ⟨b1, b2, b3⟩, b4, -⟩ := id hpg
  have hd := dAt_cg (p := fun q => duB σ 1 3 np x (nI q)) (p' := fun q => duM (layS σ) 0 np x (nI q)) (i := 0) (fun a ha => du_eq ho hpg ha) 49 0 rfl
  refine (t_X10_best ho.2.2.1 hD.1 b1 b3).toPi.mono (fun v s hv => ?_)
  obtain ⟨rfl, rfl⟩ := hv
  refine (u_X11_best (ho.bh hpg)).mono (fun v2 s2 hv2 => ?_)
  obtain ⟨rfl, hs⟩ := hv2
  refine ⟨?_, hs.agr.inv hI⟩
  unfold besM besV
  rw [duke_inB, hd, e1, e2]
  by_cases hx : inB x 0 1 = true
  · have hsum : moR (s.1 210) ((layS s).1 220) 0 x m = sumT (s.1 6) (s.1 8) x m - sumT (s.1 6) (s.1 8) (1 - x) m := by
      rw [moR_F, ← moF_sum (x01 hx) m (fun a ha => by rw [(ho.2.2.2 a ha).1]; exact hD.2.2 a ha)]
      refine moF_cg m (fun a ha => ⟨((ho.2.2.2 a ha).1).symm, ?_⟩)
      have := hD.1
      rw [show 13 * 0 + 7 + a = 7 + a by omega, lay_7 (by omega)]; exact ((ho.2.2.2 a ha).2.2.1).symm
    have hn : (¬ n < 0 ∧ ¬ 2 < n) ↔ inB n 0 2 = true := by
      simp only [inB, Bool.and_eq_true, Bool.not_eq_true', decide_eq_false_iff_not]
    have hw : (¬ w < 0 ∧ w ≤ 1) ↔ inB w 0 1 = true := by
      simp only [inB, Bool.and_eq_true, Bool.not_eq_true', decide_eq_false_iff_not, Int32.not_lt]
    by_cases hh : inB n 0 2 = true ∧ inB w 0 1 = true
    · have c1 : (inB x 0 1 = true ∧ inB n 0 2 = true ∧ inB w 0 1 = true) := ⟨hx, hh⟩
      have c2 : (inB x 0 1 = true ∧ ¬ n < 0 ∧ ¬ 2 < n ∧ ¬ w < 0 ∧ w ≤ 1) := ⟨hx, (hn.mpr hh.1).1, (hn.mpr hh.1).2, hw.mpr hh.2⟩
      rw [if_pos c1, if_pos c2, hsum, fo_eq]
    · have c1 : ¬ (inB x 0 1 = true ∧ inB n 0 2 = true ∧ inB w 0 1 = true) := fun z => hh z.2
      have c2 : ¬ (inB x 0 1 = true ∧ ¬ n < 0 ∧ ¬ 2 < n ∧ ¬ w < 0 ∧ w ≤ 1) := fun z => hh ⟨hn.mp ⟨z.2.1, z.2.2.1⟩, hw.mp z.2.2.2⟩
      rw [if_neg c1, if_neg c2]
  · have c1 : ¬ (inB x 0 1 = true ∧ inB n 0 2 = true ∧ inB w 0 1 = true) := fun z => hx z.1
    have c2 : ¬ (inB x 0 1 = true ∧ ¬ n < 0 ∧ ¬ 2 < n ∧ ¬ w < 0 ∧ w ≤ 1) := fun z => hx z.1
    rw [if_neg c1, if_neg c2]
