theorem NR.n3 {σ : St} {R : Nat → Int32} {nf m np d : Nat} (h : NR σ 3 R nf m np d) :
  (σ.1 3 0 = nI d ∧ R 0 = nI d ∧ 1 ≤ d ∧ d ≤ 10) ∧
  (σ.1 4 0 = R 1 ∧ σ.1 4 1 = R 2 ∧ ordOK (R 1) nf m ∧ ordOK (R 2) nf m) ∧
  (σ.1 5 0 = nI m ∧ ∀ a, a < m → σ.1 6 a = σ.1 210 a ∧ σ.1 7 a = R (3 + a) ∧ σ.1 8 a = R (9 + a) ∧ (∃ f, R (3 + a) = nI f ∧ f < nf) ∧ (∃ t, R (9 + a) = nI t ∧ t ≤ 9)) ∧
  (σ.1 9 0 = nI np ∧ R 15 = nI np ∧ np ≤ 6) ∧
  (∀ k, k < np → (σ.1 10 k = R (16 + 4 * k) ∧ σ.1 11 k = R (16 + 4 * k + 1) ∧ σ.1 12 k = R (16 + 4 * k + 2) ∧ σ.1 13 k = R (16 + 4 * k + 3)) ∧ (∃ e, R (16 + 4 * k) = nI e ∧ 1 ≤ e ∧ e ≤ 9) ∧ (∃ e, R (16 + 4 * k + 1) = nI e ∧ e ≤ 2) ∧ (∃ e, R (16 + 4 * k + 3) = nI e ∧ e < nf)) ∧
  (∀ e, 1 ≤ e → e < d → σ.1 15 (2 * e + 0) = R (40 + 3 * (e - 1) + 0) ∧ σ.1 15 (2 * e + 1) = R (40 + 3 * (e - 1) + 1) ∧ σ.1 16 e = R (40 + 3 * (e - 1) + 2)) := h
theorem LandOK.cg {σ τ : St} {nf : Nat} (h : LandOK σ nf) (h1 : τ.1 1 = σ.1 1) (h2 : τ.1 2 = σ.1 2) (h3 : τ.1 208 0 = σ.1 208 0) (h4 : τ.1 209 = σ.1 209) : LandOK τ nf := by
  unfold LandOK at h ⊢; rw [h1, h2, h3, h4]; exact h
theorem DukOK.cg {σ τ : St} {m : Nat} (h : DukOK σ m) (h1 : τ.1 208 2 = σ.1 208 2) (h2 : τ.1 210 = σ.1 210) : DukOK τ m := by
  unfold DukOK at h ⊢; rw [h1, h2]; exact h
theorem TxtOK.cg {σ τ : St} (h : TxtOK σ) (h1 : τ.1 17 0 = σ.1 17 0) (h2 : τ.1 208 11 = σ.1 208 11) (h3 : τ.1 34 = σ.1 34) (h4 : τ.1 215 = σ.1 215) : TxtOK τ := by
  unfold TxtOK at h ⊢; rw [h1, h2, h3, h4]; exact h
theorem PstOK.cg {σ τ : St} {nf m p q : Nat} (h : PstOK σ nf m p q) (hm : m ≤ 6) (h1 : τ.1 35 = σ.1 35) (h2 : τ.1 208 6 = σ.1 208 6) (h3 : τ.1 212 = σ.1 212) (h4 : τ.1 210 = σ.1 210) (h5 : ∀ a, 37 ≤ a → a < 177 → τ.1 a = σ.1 a) : PstOK τ nf m p q := by
  unfold PstOK at h ⊢; rw [h1, h2, h3]
  obtain ⟨p1, p2, p3, p4, p5, p6⟩ := h
  exact ⟨p1, p2, p3, p4, p5, fun i hi => (p6 i hi).cg (fun j hj => h5 _ (by omega) (by have := Nat.mod_lt (q + 10 - p + i) (show 0 < 10 by decide); omega)) h4 (fun _ _ => rfl) hm⟩
theorem ImgOK.cg {σ τ : St} {nf m : Nat} (h : ImgOK σ nf m) (hm : m ≤ 6) (h1 : τ.1 178 = σ.1 178) (h2 : τ.1 214 = σ.1 214) (h3 : τ.1 213 = σ.1 213) (h4 : τ.1 210 = σ.1 210) (h5 : ∀ a, 180 ≤ a → a < 208 → τ.1 a = σ.1 a) : ImgOK τ nf m := by
  unfold ImgOK at h ⊢; rw [h1, h2, h3]
  exact fun i hi => ⟨(h i hi).1, fun z => ((h i hi).2 z).cg (fun j hj => h5 _ (by omega) (by omega)) h4 (fun _ _ => rfl) hm⟩
theorem TolOK.cg {σ τ : St} (h : TolOK σ) (h1 : τ.1 20 = σ.1 20) (h2 : τ.1 21 = σ.1 21) : TolOK τ := by
  unfold TolOK at h ⊢; rw [h1, h2]; exact h
theorem NRx.cg3 {σ τ : St} {nf m : Nat} (h : NRx σ 3 (σ.1 211) nf m) (hm : m ≤ 6) (h1 : ∀ a, 3 ≤ a → a < 17 → τ.1 a = σ.1 a) (h2 : τ.1 210 = σ.1 210) (h3 : τ.1 211 = σ.1 211) : NRx τ 3 (τ.1 211) nf m :=
  h.cg (fun i hi => h1 _ (by omega) (by omega)) h2 (fun j _ => by rw [h3]) hm
theorem c255 {c : Int32} : inB c 0 255 = (!decide (c < 0) && !decide (255 < c)) := rfl
theorem both_type {c : Int32} : Both m_X10_type m_X11_type [.int c] := by
  intro σ hI
  obtain ⟨nf, m, p, q, hL, hD, hN, ⟨len, t1, t2, t3, t4, t5⟩, hP, hG, hU, hW⟩ := id hI
  have e1 := t_X10_type (c := c) t2 t1
  have key : ∀ t : St, t.1 208 11 = nI len → Ret m_X11_type t [.ref 208, .int c] (some (.int (typM t len c).1)) (typM t len c).2 := fun t ht => t_X11_type ht t1
  by_cases h0 : c < 0
  · have a1 : typR σ len c = (-1, σ) := by unfold typR; rw [if_pos h0]
    have a2 : typM σ len c = (-1, σ) := by unfold typM; rw [if_neg (by rw [inB_neg h0]; decide)]
    have e2 := key σ t3
    rw [a1] at e1; rw [a2] at e2
    exact bothE e1 e2 rfl hI
  · by_cases h2 : c ≤ 255
    · have hin : inB c 0 255 = true := by rw [c255, decide_eq_false h0, decide_eq_false (by simpa using h2)]; rfl
      rcases Nat.lt_or_ge len 200 with hl | hl
      · have a1 : typR σ len c = (nI (len + 1), pi (pi σ 34 len c) 17 0 (nI (len + 1))) := by unfold typR; rw [if_neg h0, if_pos h2, if_pos (show nI len < (200 : Int32) from nI_lt (b := 200) hl (by decide))]
        rw [a1] at e1
        have e2 := key (pi (pi σ 34 len c) 17 0 (nI (len + 1))) (by rw [pi_o (by decide), pi_o (by decide)]; exact t3)
        have a2 : ∀ t : St, typM t len c = (nI (len + 1), pi (pi t 215 len c) 208 11 (nI (len + 1))) := fun t => by unfold typM; rw [if_pos hin, if_neg (fun z => by have := (nI_eq (b := 200) (by omega) (by decide)).mp z; omega)]
        rw [a2] at e2
        refine bothE e1 e2 rfl ⟨nf, m, p, q, ?_, ?_, ?_, ?_, ?_, ?_, ?_, ?_⟩
        · exact hL.cg (by simp (disch := decide) only [pi_o]) (by simp (disch := decide) only [pi_o]) (by simp (disch := decide) only [pi_o, pi_so]) (by simp (disch := decide) only [pi_o])
        · exact hD.cg (by simp (disch := decide) only [pi_o, pi_so]) (by simp (disch := decide) only [pi_o])
        · exact hN.cg3 hD.1 (fun a h1 h2 => by simp (disch := omega) only [pi_o]) (by simp (disch := decide) only [pi_o]) (by simp (disch := decide) only [pi_o])
        · refine ⟨len + 1, hl, ?_, pi_ss, ?_, fun i hi => ?_⟩
          · simp (disch := decide) only [pi_o, pi_ss]
          · simp (disch := decide) only [pi_o, pi_as, pr_s, pr_o]; rw [t4]
          · simp (disch := decide) only [pi_o, pi_as, pr_s, pr_o, upd]
            split
            · simpa using h0
            · exact t5 i (by omega)
        · exact hP.cg hD.1 (by simp (disch := decide) only [pi_o]) (by simp (disch := decide) only [pi_o, pi_so]) (by simp (disch := decide) only [pi_o]) (by simp (disch := decide) only [pi_o]) (fun a h1 h2 => by simp (disch := omega) only [pi_o])
        · exact hG.cg hD.1 (by simp (disch := decide) only [pi_o]) (by simp (disch := decide) only [pi_o]) (by simp (disch := decide) only [pi_o]) (by simp (disch := decide) only [pi_o]) (fun a h1 h2 => by simp (disch := omega) only [pi_o])
        · exact hU.cg (by simp (disch := decide) only [pi_o]) (by simp (disch := decide) only [pi_o])
        · exact hW
      · have hlen : len = 200 := by omega
        have a1 : typR σ len c = (-3, σ) := by unfold typR; rw [if_neg h0, if_pos h2, if_neg (show ¬ nI len < (200 : Int32) from nI_nlt (b := 200) hl (by omega))]
        have a2 : typM σ len c = (-3, σ) := by unfold typM; rw [if_pos hin, if_pos (by rw [hlen]; rfl)]
        have e2 := key σ t3
        rw [a1] at e1; rw [a2] at e2
        exact bothE e1 e2 rfl hI
    · have a1 : typR σ len c = (-1, σ) := by unfold typR; rw [if_neg h0, if_neg h2]
      have a2 : typM σ len c = (-1, σ) := by unfold typM; rw [if_neg (by rw [c255, decide_eq_true (show 255 < c by simpa using h2)]; simp)]
      have e2 := key σ t3
      rw [a1] at e1; rw [a2] at e2
      exact bothE e1 e2 rfl hI
theorem both_clear : Both m_X10_clear m_X11_clear [] := by
  intro σ hI
  obtain ⟨nf, m, p, q, hL, hD, hN, ⟨len, t1, t2, t3, t4, t5⟩, hP, hG, hU, hW⟩ := id hI
  refine bothE t_X10_clear t_X11_clear (by rw [pi_o (by decide), t2, t3]) ⟨nf, m, p, q, ?_, ?_, ?_, ?_, ?_, ?_, ?_, ?_⟩
  · exact hL.cg (by simp (disch := decide) only [pi_o]) (by simp (disch := decide) only [pi_o]) (by simp (disch := decide) only [pi_o, pi_so]) (by simp (disch := decide) only [pi_o])
  · exact hD.cg (by simp (disch := decide) only [pi_o, pi_so]) (by simp (disch := decide) only [pi_o])
  · exact hN.cg3 hD.1 (fun a h1 h2 => by simp (disch := omega) only [pi_o]) (by simp (disch := decide) only [pi_o]) (by simp (disch := decide) only [pi_o])
  · refine ⟨0, by decide, ?_, pi_ss, ?_, fun i hi => absurd hi (Nat.not_lt_zero _)⟩
    · simp (disch := decide) only [pi_o, pi_ss]; rfl
    · simp (disch := decide) only [pi_o]; exact t4
  · exact hP.cg hD.1 (by simp (disch := decide) only [pi_o]) (by simp (disch := decide) only [pi_o, pi_so]) (by simp (disch := decide) only [pi_o]) (by simp (disch := decide) only [pi_o]) (fun a h1 h2 => by simp (disch := omega) only [pi_o])
  · exact hG.cg hD.1 (by simp (disch := decide) only [pi_o]) (by simp (disch := decide) only [pi_o]) (by simp (disch := decide) only [pi_o]) (by simp (disch := decide) only [pi_o]) (fun a h1 h2 => by simp (disch := omega) only [pi_o])
  · exact hU.cg (by simp (disch := decide) only [pi_o]) (by simp (disch := decide) only [pi_o])
  · exact hW
theorem both_roads {f : Int32} : Both m_X10_roads m_X11_roads [.int f] := by
  intro σ hI
  obtain ⟨nf, m, p, q, ⟨l1, l2, l3, l4, l5, l6⟩, hD, hN, hT, hP, hG, hU, hW⟩ := id hI
  refine bothE t_X10_roads (t_X11_roads l2 l4) ?_ hI
  rw [hasL_inB l1 l2 l4]
  cases hb : inB f 0 (σ.1 208 0 - 1) with
  | false => rfl
  | true =>
    obtain ⟨n, hn, rfl⟩ := inB_ex l2 (by omega) hb
    rw [if_pos rfl, if_pos rfl, waysF_nI l1 hn l4, nI_clamp (by omega), l5 n (by omega)]
theorem both_army {a w : Int32} : Both m_X10_army m_X11_army [.int a, .int w] := by
  intro σ hI
  obtain ⟨nf, m, p, q, hL, ⟨d1, d2, d3⟩, ⟨np, d, hN⟩, hT, hP, hG, hU, hW⟩ := id hI
  obtain ⟨n1, n2, ⟨n3, n4⟩, -⟩ := hN.n3
  refine bothE t_X10_army (t_X11_army d2 d1) ?_ hI
  unfold armM armV
  rw [hasA_inB n3 d2 d1]
  cases hb : inB a 0 (σ.1 208 2 - 1) with
  | false => simp
  | true =>
    obtain ⟨n, hn, rfl⟩ := inB_ex d2 (by omega) hb
    obtain ⟨k1, k2, k3, -⟩ := n4 n hn
    rw [nI_clamp (by omega), k1, k2, k3, if_pos rfl]
    by_cases w0 : w = 0
    · subst w0; rfl
    · by_cases w1 : w = 1
      · subst w1; rfl
      · by_cases w2 : w = 2
        · subst w2; rfl
        · have hz : ¬ (true = true ∧ inB w 0 2 = true) := by
            rintro ⟨-, hw⟩
            obtain ⟨j, hj, rfl⟩ := inB02 hw
            rcases (by omega : j = 0 ∨ j = 1 ∨ j = 2) with rfl | rfl | rfl
            · exact w0 rfl
            · exact w1 rfl
            · exact w2 rfl
          rw [if_neg hz, if_neg w0, if_neg w1, if_neg w2]
theorem both_count {w : Int32} : Both m_X10_count m_X11_count [.int w] := by
  intro σ hI
  obtain ⟨nf, m, p, q, hL, ⟨d1, d2, d3⟩, ⟨np, d, hN⟩, ⟨len, t1, t2, t3, -⟩, hP, hG, hU, hW⟩ := id hI
  obtain ⟨n1, n2, ⟨n3, n4⟩, ⟨n5, n6, -⟩, -⟩ := hN.n3
  refine bothE t_X10_count t_X11_count ?_ hI
  rw [hL.1, hL.2.1, d2, n3, n5, n6, t2, t3]
theorem sumT_cg {du du' tr tr' : Nat → Int32} {x : Int32} : ∀ m, (∀ a, a < m → du a = du' a ∧ tr a = tr' a) → sumT du tr x m = sumT du' tr' x m
  | 0, _ => rfl
  | m + 1, h => by
    simp only [sumT]
    rw [sumT_cg m (fun a ha => h a (by omega)), (h m (by omega)).1, (h m (by omega)).2]
theorem both_now {w : Int32} : Both m_X10_now m_X11_now [.int w] := by
  intro σ hI
  obtain ⟨nf, m, p, q, hL, ⟨d1, d2, d3⟩, ⟨np, d, hN⟩, hT, hP, hG, hU, hW⟩ := id hI
  obtain ⟨n1, n2, ⟨n3, n4⟩, -⟩ := hN.n3
  refine bothE (t_X10_now n3 d1) (t_X11_now d2 d1) ?_ hI
  unfold nowM nowV
  have hs : ∀ x, sumT (σ.1 6) (σ.1 8) x m = sumT (σ.1 210) (fun a => σ.1 211 (9 + a)) x m := fun x => sumT_cg m (fun a ha => ⟨(n4 a ha).1, (n4 a ha).2.2.1⟩)
  by_cases hw : inB w 0 5 = true
  · obtain ⟨j, hj, rfl⟩ := inB05 hw
    rw [if_pos hw, hs, hs]
    rcases (by omega : j = 0 ∨ j = 1 ∨ j = 2 ∨ j = 3 ∨ j = 4 ∨ j = 5) with rfl | rfl | rfl | rfl | rfl | rfl
    · exact n1.2.1.trans n1.1.symm
    · exact n2.1.symm
    · exact n2.2.1.symm
    · rfl
    · rfl
    · exact hP.2.2.2.2.1.trans hP.2.2.1.symm
  · rw [if_neg hw, if_neg, if_neg, if_neg, if_neg, if_neg, if_neg]
    all_goals (intro z; subst z; exact hw (by decide))
theorem both_march {a f : Int32} (hs : ∀ (w : Nat → Int32) (nf g t : Nat), 2 ≤ nf → nf ≤ 8 → g < nf → t < nf → (∀ k, k < nf → ∃ r, w k = nI r ∧ r < 2 ^ nf) → dbt w nf (nI t) 8 0 (1 <<< (nI g &&& 31)) = dbt w nf (nI t) nf 0 (1 <<< (nI g &&& 31))) (hc : ∀ (w w' : Nat → Int32) (nf : Nat) (t : Int32) (q d : Nat) (r : Int32), (∀ k, k < nf → w k = w' k) → dbt w nf t q d r = dbt w' nf t q d r) : Both m_X10_march m_X11_march [.int a, .int f] := by
  intro σ hI
  obtain ⟨nf, m, p, q, ⟨l1, l2, l3, l4, l5, l6⟩, ⟨d1, d2, d3⟩, ⟨np, d, hN⟩, hT, hP, hG, hU, hW⟩ := id hI
  obtain ⟨n1, n2, ⟨n3, n4⟩, -⟩ := hN.n3
  refine bothE (t_X10_march l1 l4) (t_X11_march d2 d1 l2 l4) ?_ hI
  rw [hasA_inB n3 d2 d1, hasL_inB l1 l2 l4]
  by_cases h : inB a 0 (σ.1 208 2 - 1) = true ∧ inB f 0 (σ.1 208 0 - 1) = true
  · rw [if_pos h, if_pos h]
    obtain ⟨n, hn, rfl⟩ := inB_ex d2 (by omega) h.1
    obtain ⟨t, ht, rfl⟩ := inB_ex l2 (by omega) h.2
    obtain ⟨k1, k2, k3, ⟨g, g1, g2⟩, -⟩ := n4 n hn
    rw [nI_clamp (by omega), k2, g1, hc (σ.1 2) (σ.1 209) nf _ _ _ _ (fun k hk => l5 k (by omega))]
    exact hs _ nf g t l3 l4 g2 ht l6
  · rw [if_neg h, if_neg h]
theorem both_rate {k a : Int32} : Both m_X10_rate m_X11_rate [.int k, .int a] := by
  intro σ hI
  obtain ⟨nf, m, p, q, ⟨l1, l2, l3, l4, l5, l6⟩, ⟨d1, d2, d3⟩, ⟨np, d, hN⟩, hT, hP, hG, hU, hW⟩ := id hI
  obtain ⟨n1, n2, ⟨n3, n4⟩, -⟩ := hN.n3
  have hrd : ∀ f, f < nf → ∃ r, σ.1 209 f = nI r ∧ r < 256 := fun f hf => by
    obtain ⟨r, r1, r2⟩ := l6 f hf
    exact ⟨r, r1, Nat.lt_of_lt_of_le r2 (Nat.pow_le_pow_right (by decide) l4)⟩
  have agr : ∀ v w : Int64, v = w → Inv (pl (pl σ 0 v) 208 w) := fun v w hv => by
    refine ⟨nf, m, p, q, ⟨l1, l2, l3, l4, l5, l6⟩, ⟨d1, d2, d3⟩, ⟨np, d, hN⟩, hT, hP, hG, hU, ?_⟩
    rw [pl_o (by decide), pl_s, pl_s]; exact hv
  have e1 := t_X10_rate (σ := σ) (k := k) (a := a)
  have key : ∀ t : St, t.1 = σ.1 → Ret m_X11_rate t [.ref 208, .int k, .int a] (some (.int (ratM t k a).1)) (ratM t k a).2 := fun t ht =>
    t_X11_rate (by rw [ht]; exact d2) d1 l4 (by rw [ht]; exact fun b hb => (n4 b hb).2.2.2.1) (by rw [ht]; exact hrd)
  by_cases h : inB a 0 (σ.1 208 2 - 1) = true
  · obtain ⟨n, hn, rfl⟩ := inB_ex d2 (by omega) h
    obtain ⟨k1, k2, k3, ⟨g, g1, g2⟩, ⟨t, t1, t2⟩⟩ := n4 n hn
    have hA : hasA σ 5 (nI n) = true := by rw [hasA_inB n3 d2 d1]; exact h
    have cn : (nI n).toNatClampNeg = n := nI_clamp (by omega)
    have cg : (nI g).toNatClampNeg = g := nI_clamp (by omega)
    have hw : waysF σ 1 (nI g) = σ.1 209 g := by rw [waysF_nI l1 g2 l4]; exact l5 g (by omega)
    unfold ratR at e1
    rw [if_pos hA, cn, k2, k3, g1, hw] at e1
    have fin : ∀ (i : Nat) (v : Int32) (w1 w2 : Int64), k = nI i → i < 6 → Ret m_X10_rate σ [.ref 0, .int k, .int (nI n)] (some (.int v)) (pl σ 0 w1) → (ratM (pl σ 0 w1) k (nI n)) = (v, pl (pl σ 0 w1) 208 w2) → w1 = w2 → RetPi m_X10_rate σ [.ref 0, .int k, .int (nI n)] (fun r t => RetPi m_X11_rate t [.ref 208, .int k, .int (nI n)] (fun r' u => r' = r ∧ Inv u)) := by
      intro i v w1 w2 hk hi r1 r2 hw
      have e2 := key (pl σ 0 w1) rfl
      rw [r2] at e2
      exact bothE r1 e2 rfl (agr _ _ hw)
    have inK : ∀ i, i < 6 → k = nI i → inB k 0 5 = true := fun i hi hk => by rw [hk]; exact (inB_nI (N := 6) (y := 6) rfl (by omega) (by decide)).trans (decide_eq_true hi)
    have mm : ∀ w1 : Int64, inB k 0 5 = true ∧ inB (nI n) 0 ((pl σ 0 w1).1 208 2 - 1) = true ↔ inB k 0 5 = true := fun w1 => ⟨fun z => z.1, fun z => ⟨z, h⟩⟩
    by_cases h0 : k = 0
    · rw [if_pos h0] at e1
      refine fin 0 _ _ (σ.2 0 + lN 1) h0 (by decide) e1 ?_ rfl
      unfold ratM; rw [if_pos ((mm _).mpr (inK 0 (by decide) h0)), if_pos h0, cn]
      simp only [pl_1, pl_o (show (208 : Nat) ≠ 0 by decide), t1, ← hW]
    rw [if_neg h0] at e1
    by_cases h1 : k = 1
    · rw [if_pos h1] at e1
      refine fin 1 _ _ (σ.2 0 + lN 10 + lN 1) h1 (by decide) e1 ?_ rfl
      unfold ratM; rw [if_pos ((mm _).mpr (inK 1 (by decide) h1)), if_neg h0, if_pos h1, cn]
      simp only [pl_1, pl_o (show (208 : Nat) ≠ 0 by decide), t1, g1, ← hW]
    rw [if_neg h1] at e1
    by_cases h2 : k = 2
    · rw [if_pos h2] at e1
      refine fin 2 _ _ (σ.2 0 + lN 100 + lN 1) h2 (by decide) e1 ?_ rfl
      unfold ratM; rw [if_pos ((mm _).mpr (inK 2 (by decide) h2)), if_neg h0, if_neg h1, if_pos h2, cn]
      simp only [pl_1, pl_o (show (208 : Nat) ≠ 0 by decide), t1, g1, cg, ← hW]
    rw [if_neg h2] at e1
    by_cases h3 : k = 3
    · rw [if_pos h3] at e1
      refine fin 3 _ _ (σ.2 0 + lN 1000 + lN 10 + lN 1) h3 (by decide) e1 ?_ rfl
      unfold ratM; rw [if_pos ((mm _).mpr (inK 3 (by decide) h3)), if_neg h0, if_neg h1, if_neg h2, if_pos h3, cn]
      simp only [pl_1, pl_o (show (208 : Nat) ≠ 0 by decide), t1, g1, ← hW]
    rw [if_neg h3] at e1
    by_cases h4 : k = 4
    · rw [if_pos h4] at e1
      refine fin 4 _ _ (σ.2 0 + lN 10000 + lN 100 + lN 1) h4 (by decide) e1 ?_ rfl
      unfold ratM; rw [if_pos ((mm _).mpr (inK 4 (by decide) h4)), if_neg h0, if_neg h1, if_neg h2, if_neg h3, if_pos h4, cn]
      simp only [pl_1, pl_o (show (208 : Nat) ≠ 0 by decide), t1, g1, cg, ← hW]
    rw [if_neg h4] at e1
    by_cases h5 : k = 5
    · rw [if_pos h5] at e1
      refine fin 5 _ _ (σ.2 0 + lN 100000 + lN 1) h5 (by decide) e1 ?_ rfl
      unfold ratM; rw [if_pos ((mm _).mpr (inK 5 (by decide) h5)), if_neg h0, if_neg h1, if_neg h2, if_neg h3, if_neg h4, cn]
      simp only [pl_1, pl_o (show (208 : Nat) ≠ 0 by decide), t1, ← hW, n1.1, n1.2.1]
    rw [if_neg h5] at e1
    have e2 := key σ rfl
    have a2 : ratM σ k (nI n) = (-1000000, σ) := by
      unfold ratM; rw [if_neg]
      rintro ⟨z, -⟩
      obtain ⟨i, hi, e⟩ := inB05 z
      rcases (by omega : i = 0 ∨ i = 1 ∨ i = 2 ∨ i = 3 ∨ i = 4 ∨ i = 5) with rfl | rfl | rfl | rfl | rfl | rfl
      · exact h0 e
      · exact h1 e
      · exact h2 e
      · exact h3 e
      · exact h4 e
      · exact h5 e
    rw [a2] at e2
    exact bothE e1 e2 rfl hI
  · have a1 : ratR σ k a = (-1000000, σ) := by unfold ratR; rw [if_neg (by rw [hasA_inB n3 d2 d1]; exact h)]
    have a2 : ratM σ k a = (-1000000, σ) := by unfold ratM; rw [if_neg (fun z => h z.2)]
    have e2 := key σ rfl
    rw [a1] at e1; rw [a2] at e2
    exact bothE e1 e2 rfl hI
