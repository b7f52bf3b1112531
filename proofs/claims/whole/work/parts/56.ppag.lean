def PgH (σ : St) (nf np d : Nat) : Prop := (σ.1 3 0 = nI d ∧ σ.1 211 0 = nI d ∧ 1 ≤ d ∧ d ≤ 10) ∧ (σ.1 9 0 = nI np ∧ σ.1 211 15 = nI np ∧ np ≤ 6) ∧
  (∀ k, k < np → (σ.1 10 k = σ.1 211 (16 + 4 * k) ∧ σ.1 11 k = σ.1 211 (16 + 4 * k + 1) ∧ σ.1 12 k = σ.1 211 (16 + 4 * k + 2) ∧ σ.1 13 k = σ.1 211 (16 + 4 * k + 3)) ∧ (∃ e, σ.1 211 (16 + 4 * k) = nI e ∧ 1 ≤ e ∧ e ≤ 9) ∧ (∃ e, σ.1 211 (16 + 4 * k + 1) = nI e ∧ e ≤ 2) ∧ (∃ e, σ.1 211 (16 + 4 * k + 3) = nI e ∧ e < nf)) ∧
  (∀ e, 1 ≤ e → e < d → σ.1 15 (2 * e + 0) = σ.1 211 (40 + 3 * (e - 1) + 0) ∧ σ.1 15 (2 * e + 1) = σ.1 211 (40 + 3 * (e - 1) + 1) ∧ σ.1 16 e = σ.1 211 (40 + 3 * (e - 1) + 2))
theorem NR.pg {σ : St} {nf m np d : Nat} (h : NR σ 3 (σ.1 211) nf m np d) : PgH σ nf np d := by
  obtain ⟨a, -, -, b, c, e⟩ := h.n3
  exact ⟨a, b, c, e⟩
theorem PgH.ok {σ : St} {nf np d : Nat} (h : PgH σ nf np d) : pgOK σ 3 np := fun k hk => by
  obtain ⟨a, b, c, -⟩ := h.2.2.1 k hk
  refine ⟨?_, ?_⟩
  · show ∃ d, σ.1 10 k = nI d ∧ 1 ≤ d ∧ d ≤ 9
    rw [a.1]; exact b
  · show ∃ w, σ.1 11 k = nI w ∧ w ≤ 2
    rw [a.2.1]; exact c
theorem PgH.mok {σ : St} {nf np d : Nat} (h : PgH σ nf np d) : mpgOK σ np := fun k hk => by
  obtain ⟨a, b, c, -⟩ := h.2.2.1 k hk
  exact ⟨b, c⟩
theorem pg_cfm {σ : St} {nf np d e x : Nat} {de f : Int32} (h : PgH σ nf np d) (h1 : 1 ≤ e) (h2 : e < d) (hx : x < 2) : cfm (σ.1 15) (σ.1 16) e x de f = msF (σ.1 211) e x de f := by
  obtain ⟨a, b, c⟩ := h.2.2.2 e h1 h2
  unfold cfm msF
  rcases (by omega : x = 0 ∨ x = 1) with rfl | rfl
  · rw [a, c]
  · rw [b, c]
theorem gone_eq {d e : Nat} (hd : d ≤ 10) (h1 : 1 ≤ e) (h9 : e ≤ 9) : gone (nI d) (nI e) = decide (e < d) := by
  unfold gone
  rw [decide_eq_false (show ¬ nI e < 1 from nI_nlt (b := 1) h1 (by omega)), decide_eq_false (show ¬ (9 : Int32) < nI e from nI_nlt (a := 9) h9 (by decide))]
  by_cases h : e < d
  · rw [decide_eq_true h, decide_eq_false (nI_ge h (by omega))]; rfl
  · rw [decide_eq_false h, decide_eq_true (nI_le (show d ≤ e by omega) (by omega))]; rfl
theorem pg_stR {σ : St} {nf np d k x : Nat} (h : PgH σ nf np d) (hk : k < np) (hx : x < 2) : stR (σ.1 3 0) (σ.1 10) (σ.1 12) (σ.1 13) (σ.1 15) (σ.1 16) k x = if σ.1 211 0 ≤ σ.1 211 (16 + 4 * k) then 0 else if msF (σ.1 211) (dOf (σ.1 211) k) x (σ.1 211 (16 + 4 * k + 2)) (σ.1 211 (16 + 4 * k + 3)) = true then 1 else 2 := by
  obtain ⟨⟨a1, a2, a3, a4⟩, ⟨e, e1, e2, e3⟩, -⟩ := h.2.2.1 k hk
  obtain ⟨d1, d2, d3, d4⟩ := h.1
  have ce : dOf (σ.1 211) k = e := by unfold dOf; rw [e1]; exact nI_clamp (by omega)
  unfold stR
  rw [a1, a3, a4, ce, e1, d1, d2, gone_eq d4 e2 e3, nI_clamp (by omega)]
  by_cases hg : e < d
  · rw [decide_eq_true hg, if_pos rfl, if_neg (nI_ge hg (by omega)), pg_cfm h e2 hg hx]
  · rw [decide_eq_false hg, if_neg (by decide), if_pos (nI_le (show d ≤ e by omega) (by omega))]
theorem pg_stO {σ : St} {nf np d k : Nat} (h : PgH σ nf np d) (hk : k < np) : stO (σ.1 3 0) (σ.1 10) (σ.1 11) (σ.1 12) (σ.1 13) (σ.1 15) (σ.1 16) k = if σ.1 211 0 ≤ σ.1 211 (16 + 4 * k) then 0 else if mbr (σ.1 211) k (dOf (σ.1 211) k) = true then 2 else 1 := by
  obtain ⟨⟨a1, a2, a3, a4⟩, -, ⟨w, w1, w2⟩, -⟩ := h.2.2.1 k hk
  have s0 := pg_stR (x := 0) h hk (by decide)
  have s1 := pg_stR (x := 1) h hk (by decide)
  unfold stO mbr
  rw [a2, s0, s1, w1]
  by_cases hg : σ.1 211 0 ≤ σ.1 211 (16 + 4 * k)
  · simp only [if_pos hg]
    by_cases hw : w = 2
    · subst hw; rw [if_pos (by decide)]; rfl
    · have hn : ¬ nI w = 2 := fun z => hw ((nI_eq (b := 2) (by omega) (by decide)).mp z)
      rw [if_neg hn, nI_clamp (by omega), pg_stR h hk (show w < 2 by omega), if_pos hg]
  · simp only [if_neg hg, decide_eq_false hg, Bool.not_false, Bool.true_and]
    by_cases hw : w = 2
    · subst hw
      rw [if_pos (show nI 2 = 2 by decide), if_pos (show nI 2 = 2 by decide)]
      cases msF (σ.1 211) (dOf (σ.1 211) k) 0 (σ.1 211 (16 + 4 * k + 2)) (σ.1 211 (16 + 4 * k + 3)) <;> cases msF (σ.1 211) (dOf (σ.1 211) k) 1 (σ.1 211 (16 + 4 * k + 2)) (σ.1 211 (16 + 4 * k + 3)) <;> rfl
    · have hn : ¬ nI w = 2 := fun z => hw ((nI_eq (b := 2) (by omega) (by decide)).mp z)
      rw [if_neg hn, if_neg hn, nI_clamp (by omega), pg_stR h hk (show w < 2 by omega), if_neg hg]
      cases msF (σ.1 211) (dOf (σ.1 211) k) w (σ.1 211 (16 + 4 * k + 2)) (σ.1 211 (16 + 4 * k + 3)) <;> rfl
theorem both_page {k w : Int32} : Both m_X10_page m_X11_page [.int k, .int w] := by
  intro σ hI
  obtain ⟨nf, m, p, q, hL, hD, ⟨np, d, hN⟩, hT, hP, hG, hU, hW⟩ := id hI
  have hpg := hN.pg
  obtain ⟨-, ⟨b1, b2, b3⟩, b4, -⟩ := id hpg
  refine bothE (t_X10_page b1 b3 hpg.ok) (t_X11_page b2 b3 hpg.mok) ?_ hI
  unfold pagM pagV
  rw [hasP_inB b1 b2 b3]
  cases hb : inB k 0 (σ.1 211 15 - 1) with
  | false => simp
  | true =>
    obtain ⟨n, hn, rfl⟩ := inB_ex b2 (by omega) hb
    obtain ⟨⟨k1, k2, k3, k4⟩, -⟩ := b4 n hn
    have ho := pg_stO hpg hn
    rw [nI_clamp (by omega), k1, k2, k3, k4, if_pos rfl, ho]
    by_cases w0 : w = 0
    · subst w0; rfl
    by_cases w1 : w = 1
    · subst w1; rfl
    by_cases w2 : w = 2
    · subst w2; rfl
    by_cases w3 : w = 3
    · subst w3; rfl
    by_cases w4 : w = 4
    · subst w4; rfl
    have hz : ¬ (true = true ∧ inB w 0 4 = true) := by
      rintro ⟨-, hw⟩
      obtain ⟨j, hj, rfl⟩ := inB04 hw
      rcases (by omega : j = 0 ∨ j = 1 ∨ j = 2 ∨ j = 3 ∨ j = 4) with rfl | rfl | rfl | rfl | rfl
      · exact w0 rfl
      · exact w1 rfl
      · exact w2 rfl
      · exact w3 rfl
      · exact w4 rfl
    rw [if_neg hz, if_neg w0, if_neg w1, if_neg w2, if_neg w3, if_neg w4]
theorem gone_inB {x : Int32} {d : Nat} (hd : d ≤ 10) : gone (nI d) x = (inB x 1 9 && !decide (nI d ≤ x)) := by
  unfold gone inB
  cases decide (x < 1) <;> cases decide (9 < x) <;> cases decide (nI d ≤ x) <;> rfl
theorem both_written {x w : Int32} : Both m_X10_written m_X11_written [.int x, .int w] := by
  intro σ hI
  obtain ⟨nf, m, p, q, hL, hD, ⟨np, d, hN⟩, hT, hP, hG, hU, hW⟩ := id hI
  obtain ⟨⟨d1, d2, d3, d4⟩, -, -, hA⟩ := hN.pg
  refine bothE t_X10_written t_X11_written ?_ hI
  unfold wriM wriV
  rw [d1, d2, gone_inB d4]
  cases hb : inB x 1 9 with
  | false => simp
  | true =>
    obtain ⟨n, h1, h9, rfl⟩ := inB19 hb
    by_cases hg : n < d
    · rw [decide_eq_false (nI_ge hg (by omega))]
      obtain ⟨k1, k2, k3⟩ := hA n h1 hg
      have hnl : ¬ nI d ≤ nI n := nI_ge hg (by omega)
      rw [nI_clamp (by omega), k1, k2, k3, if_pos (show (true && !false) = true from rfl)]
      by_cases w0 : w = 0
      · subst w0
        have hz : (true = true ∧ ¬ nI d ≤ nI n ∧ inB 0 0 2 = true) := ⟨rfl, hnl, by decide⟩
        rw [if_pos hz]; rfl
      by_cases w1 : w = 1
      · subst w1
        have hz : (true = true ∧ ¬ nI d ≤ nI n ∧ inB 1 0 2 = true) := ⟨rfl, hnl, by decide⟩
        rw [if_pos hz]; rfl
      by_cases w2 : w = 2
      · subst w2
        have hz : (true = true ∧ ¬ nI d ≤ nI n ∧ inB 2 0 2 = true) := ⟨rfl, hnl, by decide⟩
        rw [if_pos hz]; rfl
      have hz : ¬ (true = true ∧ ¬ nI d ≤ nI n ∧ inB w 0 2 = true) := by
        rintro ⟨-, -, hw⟩
        obtain ⟨j, hj, rfl⟩ := inB02 hw
        rcases (by omega : j = 0 ∨ j = 1 ∨ j = 2) with rfl | rfl | rfl
        · exact w0 rfl
        · exact w1 rfl
        · exact w2 rfl
      rw [if_neg hz, if_neg w0, if_neg w1, if_neg w2]
    · have hle : nI d ≤ nI n := nI_le (by omega) (by omega)
      have hz : ¬ (true = true ∧ ¬ nI d ≤ nI n ∧ inB w 0 2 = true) := fun z => z.2.1 hle
      rw [decide_eq_true hle, if_neg (show ¬ (true && !true) = true by decide), if_neg hz]
theorem rdP_cg {f g : Nat → Int32} : ∀ n, (∀ k, k < n → f k = g k) → rdP f n = rdP g n
  | 0, _ => rfl
  | n + 1, h => by simp only [rdP]; rw [rdP_cg n (fun k hk => h k (by omega)), h n (by omega)]
theorem both_readings : Both m_X10_readings m_X11_readings [] := by
  intro σ hI
  obtain ⟨nf, m, p, q, hL, hD, ⟨np, d, hN⟩, hT, hP, hG, hU, hW⟩ := id hI
  have hpg := hN.pg
  obtain ⟨-, ⟨b1, b2, b3⟩, b4, -⟩ := id hpg
  refine bothE (t_X10_readings b1 b3 hpg.ok) (t_X11_readings b2 b3 hpg.mok) (rdP_cg np (fun k hk => ?_)) hI
  obtain ⟨⟨a1, a2, a3, a4⟩, -, ⟨w, w1, w2⟩, -⟩ := b4 k hk
  have s0 := pg_stR (x := 0) hpg hk (by decide)
  have s1 := pg_stR (x := 1) hpg hk (by decide)
  unfold wtr wyM mbr rdN
  rw [a2, s0, s1, w1, nI_clamp (show w < 2 ^ 31 by omega)]
  rcases (by omega : w = 0 ∨ w = 1 ∨ w = 2) with rfl | rfl | rfl
  all_goals
    by_cases hg : σ.1 211 0 ≤ σ.1 211 (16 + 4 * k)
    · simp only [if_pos hg, decide_eq_true hg]; rfl
    · simp only [if_neg hg, decide_eq_false hg]
      cases msF (σ.1 211) (dOf (σ.1 211) k) 0 (σ.1 211 (16 + 4 * k + 2)) (σ.1 211 (16 + 4 * k + 3)) <;> cases msF (σ.1 211) (dOf (σ.1 211) k) 1 (σ.1 211 (16 + 4 * k + 2)) (σ.1 211 (16 + 4 * k + 3)) <;> rfl
theorem both_lost {x : Int32} : Both m_X10_lost m_X11_lost [.int x] := by
  intro σ hI
  obtain ⟨nf, m, p, q, hL, hD, ⟨np, d, hN⟩, hT, hP, hG, hU, hW⟩ := id hI
  have hpg := hN.pg
  obtain ⟨⟨d1, d2, d3, d4⟩, -, -, hA⟩ := id hpg
  refine bothE (t_X10_lost hL.1 hL.2.2.2.1) (t_X11_lost hL.2.1 hL.2.2.2.1) ?_ hI
  rw [d1, d2, gone_inB d4]
  cases hb : inB x 1 9 with
  | false => simp
  | true =>
    obtain ⟨n, h1, h9, rfl⟩ := inB19 hb
    by_cases hg : n < d
    · rw [decide_eq_false (nI_ge hg (by omega)), if_pos ⟨rfl, nI_lt hg (by omega)⟩, if_pos (by decide), nI_clamp (by omega)]
      have hI2 : ∀ y acc, y < 2 → ∀ f, msI (σ.1 211) n y acc f = csI (σ.1 15) (σ.1 16) n y acc f := by
        intro y acc hy f
        induction f with
        | zero => rfl
        | succ f ih => simp only [msI, csI]; rw [ih, pg_cfm hpg h1 hg hy, pg_cfm hpg h1 hg hy]
      have hO : ∀ y, y ≤ 2 → msO (σ.1 211) n nf y = csO (σ.1 15) (σ.1 16) n nf y := by
        intro y hy
        induction y with
        | zero => rfl
        | succ y ih => simp only [msO, csO]; rw [ih (by omega), hI2 y _ (by omega), pg_cfm hpg h1 hg (by omega)]
      exact hO 2 (Nat.le_refl _)
    · have hle : nI d ≤ nI n := nI_le (by omega) (by omega)
      rw [decide_eq_true hle, if_neg (fun z => nI_nlt (show d ≤ n by omega) (by omega) z.2), if_neg (by decide)]
theorem clP_dcl {σ : St} {nf np d i j : Nat} (h : PgH σ nf np d) (hi : i < np) (hj : j < np) : clP (σ.1 10) (σ.1 11) (σ.1 12) (σ.1 13) i j = dcl (σ.1 211) i j := by
  obtain ⟨⟨a1, a2, a3, a4⟩, -⟩ := h.2.2.1 i hi
  obtain ⟨⟨b1, b2, b3, b4⟩, -⟩ := h.2.2.1 j hj
  unfold clP dcl
  rw [a1, a2, a3, a4, b1, b2, b3, b4]
  by_cases h1 : σ.1 211 (16 + 4 * i) = σ.1 211 (16 + 4 * j)
  · rw [if_pos h1, decide_eq_true h1]
    by_cases h2 : σ.1 211 (16 + 4 * i + 1) = σ.1 211 (16 + 4 * j + 1)
    · rw [if_pos h2, decide_eq_true h2]
      by_cases h3 : σ.1 211 (16 + 4 * i + 1) = 2
      · rw [if_pos h3, decide_eq_true h3]; rfl
      · rw [if_neg h3, decide_eq_false h3]
        by_cases h4 : σ.1 211 (16 + 4 * i + 2) = 0
        · rw [if_pos h4, h4]
          by_cases h5 : σ.1 211 (16 + 4 * j + 2) = 0
          · rw [if_pos h5, h5]
            by_cases h6 : σ.1 211 (16 + 4 * i + 3) = σ.1 211 (16 + 4 * j + 3)
            · rw [decide_eq_true h6, decide_eq_false (not_not_intro h6)]; rfl
            · rw [decide_eq_false h6, decide_eq_true h6]; rfl
          · rw [if_neg h5, decide_eq_false h5]
            cases decide (σ.1 211 (16 + 4 * j + 2) = 2) <;> rfl
        · rw [if_neg h4, decide_eq_false h4]
          cases decide (σ.1 211 (16 + 4 * i + 2) = 2) <;> cases decide (σ.1 211 (16 + 4 * j + 2) = 0) <;> rfl
    · rw [if_neg h2, decide_eq_false h2]; rfl
  · rw [if_neg h1, decide_eq_false h1]; rfl
theorem fcJ_cg {p p' : Nat → Nat → Bool} {i m : Nat} : ∀ q j, j + q = m → (∀ k, j ≤ k → k < m → p i k = p' i k) → fcJ p i q j = fcJ p' i q j
  | 0, _, _, _ => rfl
  | q + 1, j, h, hp => by simp only [fcJ]; rw [hp j (Nat.le_refl _) (by omega), fcJ_cg q (j + 1) (by omega) (fun k h1 h2 => hp k (by omega) h2)]
theorem fcO_cg {p p' : Nat → Nat → Bool} {m : Nat} : ∀ q i, i + q = m → (∀ a b, a < m → b < m → p a b = p' a b) → fcO p m q i = fcO p' m q i
  | 0, _, _, _ => rfl
  | q + 1, i, h, hp => by simp only [fcO]; rw [fcJ_cg (m := m) (m - (i + 1)) (i + 1) (by omega) (fun k h1 h2 => hp i k (by omega) h2), fcO_cg q (i + 1) (by omega) hp]
theorem both_clash : Both m_X10_clash m_X11_clash [] := by
  intro σ hI
  obtain ⟨nf, m, p, q, hL, hD, ⟨np, d, hN⟩, hT, hP, hG, hU, hW⟩ := id hI
  have hpg := hN.pg
  obtain ⟨-, ⟨b1, b2, b3⟩, b4, -⟩ := id hpg
  exact bothE (t_X10_clash b1 b3) (t_X11_clash b2 b3) (fcO_cg np 0 (by omega) (fun a b ha hb => (clP_dcl hpg ha hb).symm)) hI
theorem or_at : ∀ k, k < 6 → ∀ v, v < 2 ^ k → nI v ||| ((1 : Int32) <<< (nI k &&& 31)) = nI (v + 2 ^ k) := by decide +kernel
theorem and_at : ∀ k, k < 6 → ∀ v, v < 2 ^ k → ∀ i, i < 64 → (nI (v + 2 ^ k) &&& (nI i ^^^ -1) = 0 ↔ nI v &&& (nI i ^^^ -1) = 0 ∧ bitAt (nI i) (nI k) = true) := by decide +kernel
theorem and_0 : ∀ i, i < 64 → nI 0 &&& (nI i ^^^ -1) = 0 := by decide +kernel
theorem all_at : ∀ n, n ≤ 6 → ∀ i, i < 64 → nI (2 ^ n - 1) &&& (nI i ^^^ -1) = nI ((2 ^ n - 1) &&& (63 - i)) ∧ (2 ^ n - 1) &&& (63 - i) < 64 := by decide +kernel
theorem bit2_at : ∀ v, v < 64 → ∀ j, j < 6 → ∀ k, k < 6 → bit2 (nI v) j k = (bitAt (nI v) (nI j) && bitAt (nI v) (nI k)) := by decide +kernel
theorem bitn_at : ∀ n, n ≤ 6 → ∀ i, i < 64 → ∀ k, k < n → bitAt (nI ((2 ^ n - 1) &&& (63 - i))) (nI k) = !bitAt (nI i) (nI k) := by decide +kernel
theorem bit2_eq {n i j k : Nat} (hn : n ≤ 6) (hi : i < 64) (hj : j < n) (hk : k < n) : bit2 (nI (2 ^ n - 1) &&& (nI i ^^^ -1)) j k = (!bitAt (nI i) (nI j) && !bitAt (nI i) (nI k)) := by
  obtain ⟨h1, h2⟩ := all_at n hn i hi
  rw [h1, bit2_at _ h2 j (by omega) k (by omega), bitn_at n hn i hi j hj, bitn_at n hn i hi k hk]
theorem brq_rel {p : Nat → Bool} : ∀ n, n ≤ 6 → ∃ v, v < 2 ^ n ∧ brq p n = nI v ∧ ∀ i, i < 64 → (nI v &&& (nI i ^^^ -1) = 0 ↔ ∀ k, k < n → p k = true → bitAt (nI i) (nI k) = true)
  | 0, _ => ⟨0, by decide, rfl, fun i hi => ⟨fun _ k hk => by omega, fun _ => and_0 i hi⟩⟩
  | n + 1, hn => by
    obtain ⟨v, hv, h1, h2⟩ := brq_rel (p := p) n (by omega)
    have hp2 : 2 ^ (n + 1) = 2 ^ n + 2 ^ n := by rw [Nat.pow_succ]; omega
    cases hp : p n with
    | true =>
      refine ⟨v + 2 ^ n, by omega, by rw [brq_t hp, h1]; exact or_at n (by omega) v hv, fun i hi => ?_⟩
      rw [and_at n (by omega) v hv i hi, h2 i hi]
      constructor
      · rintro ⟨g1, g2⟩ k hk hpk
        rcases Nat.eq_or_lt_of_le (Nat.lt_succ_iff.mp hk) with e | e
        · rw [e]; exact g2
        · exact g1 k e hpk
      · intro g
        exact ⟨fun k hk hpk => g k (by omega) hpk, g n (by omega) hp⟩
    | false =>
      refine ⟨v, by omega, by rw [brq_f hp, h1], fun i hi => ?_⟩
      rw [h2 i hi]
      constructor
      · intro g k hk hpk
        rcases Nat.eq_or_lt_of_le (Nat.lt_succ_iff.mp hk) with e | e
        · rw [e, hp] at hpk; exact absurd hpk (by decide)
        · exact g k e hpk
      · intro g k hk hpk
        exact g k (by omega) hpk
theorem brq_iff {p : Nat → Bool} {n i : Nat} (hn : n ≤ 6) (hi : i < 64) : brq p n &&& (nI i ^^^ -1) = 0 ↔ ∀ k, k < n → p k = true → bitAt (nI i) (nI k) = true := by
  obtain ⟨v, -, h1, h2⟩ := brq_rel (p := p) n hn
  rw [h1]; exact h2 i hi
theorem pcJ_iff {p : Nat → Nat → Bool} {s : Int32} {j : Nat} : ∀ n, pcJ p s j n = true ↔ ∀ k, k < n → j + 1 ≤ k → ¬ (bit2 s j k = true ∧ p j k = true)
  | 0 => ⟨fun _ k hk => by omega, fun _ => rfl⟩
  | n + 1 => by
    simp only [pcJ, Bool.and_eq_true, pcJ_iff n, Bool.not_eq_true']
    constructor
    · rintro ⟨h1, h2⟩ k hk hj
      rcases Nat.eq_or_lt_of_le (Nat.lt_succ_iff.mp hk) with e | e
      · subst e
        rw [decide_eq_true hj, Bool.true_and] at h2
        intro z
        rw [z.1, z.2] at h2
        exact absurd h2 (by decide)
      · exact h1 k e hj
    · intro h
      refine ⟨fun k hk hj => h k (by omega) hj, ?_⟩
      by_cases hj : j + 1 ≤ n
      · have := h n (by omega) hj
        rw [decide_eq_true hj, Bool.true_and]
        cases h1 : bit2 s j n <;> cases h2 : p j n <;> first | rfl | exact absurd ⟨h1, h2⟩ this
      · rw [decide_eq_false hj]; rfl
theorem pcO_iff {p : Nat → Nat → Bool} {s : Int32} {m : Nat} : ∀ n, pcO p s m n = true ↔ ∀ j, j < n → pcJ p s j m = true
  | 0 => ⟨fun _ k hk => by omega, fun _ => rfl⟩
  | n + 1 => by
    simp only [pcO, Bool.and_eq_true, pcO_iff n]
    constructor
    · rintro ⟨h1, h2⟩ k hk
      rcases Nat.eq_or_lt_of_le (Nat.lt_succ_iff.mp hk) with e | e
      · rw [e]; exact h2
      · exact h1 k e
    · intro h
      exact ⟨fun k hk => h k (by omega), h n (by omega)⟩
theorem wwJ_iff {st : Nat → Int32} {s : Int32} {i : Nat} {b : Bool} : ∀ n, wwJ st s i b n = true ↔ b = true ∧ ∀ k, k < n → i + 1 ≤ k → (bitAt s (nI i) = true ∨ bitAt s (nI k) = true ∨ dcl st i k = false)
  | 0 => ⟨fun h => ⟨h, fun k hk => by omega⟩, fun h => h.1⟩
  | n + 1 => by
    simp only [wwJ]
    by_cases hj : i + 1 ≤ n
    · rw [if_pos hj, Bool.and_eq_true, wwJ_iff n, Bool.or_eq_true, Bool.or_eq_true, Bool.not_eq_true']
      constructor
      · rintro ⟨⟨h0, h1⟩, h2⟩
        refine ⟨h0, fun k hk hk2 => ?_⟩
        rcases Nat.eq_or_lt_of_le (Nat.lt_succ_iff.mp hk) with e | e
        · subst e; exact h2
        · exact h1 k e hk2
      · rintro ⟨h0, h1⟩
        exact ⟨⟨h0, fun k hk hk2 => h1 k (by omega) hk2⟩, h1 n (by omega) hj⟩
    · rw [if_neg hj, wwJ_iff n]
      constructor
      · rintro ⟨h0, h1⟩
        exact ⟨h0, fun k hk hk2 => h1 k (by omega) hk2⟩
      · rintro ⟨h0, h1⟩
        exact ⟨h0, fun k hk hk2 => h1 k (by omega) hk2⟩
theorem wwO_iff {st : Nat → Int32} {s : Int32} {np : Nat} : ∀ n, wwO st s np n = true ↔ ∀ i, i < n → (bitAt s (nI i) = true ∨ mbr st i (dOf st i) = false) ∧ ∀ k, k < np → i + 1 ≤ k → (bitAt s (nI i) = true ∨ bitAt s (nI k) = true ∨ dcl st i k = false)
  | 0 => ⟨fun _ i hi => by omega, fun _ => rfl⟩
  | n + 1 => by
    simp only [wwO]
    rw [wwJ_iff, Bool.and_eq_true, wwO_iff n, Bool.or_eq_true, Bool.not_eq_true']
    constructor
    · rintro ⟨⟨h1, h2⟩, h3⟩ i hi
      rcases Nat.eq_or_lt_of_le (Nat.lt_succ_iff.mp hi) with e | e
      · subst e; exact ⟨h2, h3⟩
      · exact h1 i e
    · intro h
      exact ⟨⟨fun i hi => h i (by omega), (h n (by omega)).1⟩, (h n (by omega)).2⟩
theorem sound_eq {σ : St} {nf np d i : Nat} (h : PgH σ nf np d) (hi : i < 64) : lsP (stO (σ.1 3 0) (σ.1 10) (σ.1 11) (σ.1 12) (σ.1 13) (σ.1 15) (σ.1 16)) (clP (σ.1 10) (σ.1 11) (σ.1 12) (σ.1 13)) np (nI i) = wwO (σ.1 211) (nI i) np np := by
  have h6 := h.2.1.2.2
  refine Bool.eq_iff_iff.mpr ?_
  rw [lsP, Bool.and_eq_true, decide_eq_true_eq, brq_iff h6 hi, pcO_iff, wwO_iff]
  have key : ∀ k, k < np → (decide (stO (σ.1 3 0) (σ.1 10) (σ.1 11) (σ.1 12) (σ.1 13) (σ.1 15) (σ.1 16) k = 2)) = mbr (σ.1 211) k (dOf (σ.1 211) k) := fun k hk => by
    rw [pg_stO h hk]
    by_cases hg : σ.1 211 0 ≤ σ.1 211 (16 + 4 * k)
    · rw [if_pos hg]; unfold mbr; rw [decide_eq_true hg]; rfl
    · rw [if_neg hg]
      cases hm : mbr (σ.1 211) k (dOf (σ.1 211) k) <;> rfl
  constructor
  · rintro ⟨h1, h2⟩ j hj
    refine ⟨?_, fun k hk hjk => ?_⟩
    · cases hm : mbr (σ.1 211) j (dOf (σ.1 211) j) with
      | false => exact Or.inr rfl
      | true => exact Or.inl (h1 j hj (by rw [key j hj]; exact hm))
    · have g := (pcJ_iff np).mp (h2 j hj) k hk hjk
      rw [bit2_eq h6 hi hj hk, clP_dcl h hj hk] at g
      cases hb : bitAt (nI i) (nI j) with
      | true => exact Or.inl rfl
      | false =>
        cases hb2 : bitAt (nI i) (nI k) with
        | true => exact Or.inr (Or.inl rfl)
        | false =>
          cases hd : dcl (σ.1 211) j k with
          | false => exact Or.inr (Or.inr rfl)
          | true => exact absurd ⟨by rw [hb, hb2]; rfl, hd⟩ g
  · intro hs
    refine ⟨fun k hk hp => ?_, fun j hj => (pcJ_iff np).mpr (fun k hk hjk z => ?_)⟩
    · rw [key k hk] at hp
      rcases (hs k hk).1 with y | y
      · exact y
      · rw [y] at hp; exact absurd hp (by decide)
    · rw [bit2_eq h6 hi hj hk, clP_dcl h hj hk] at z
      obtain ⟨z1, z2⟩ := z
      rcases (hs j hj).2 k hk hjk with y | y | y
      · rw [y] at z1; exact absurd z1 (by simp)
      · rw [y] at z1; exact absurd z1 (by simp)
      · rw [y] at z2; exact absurd z2 (by decide)
theorem bc_all : ∀ n, n ≤ 6 → ∀ s, s < 2 ^ n - 1 → bcF (nI s) < bcF (nI (2 ^ n - 1)) := by decide +kernel
theorem bit_all : ∀ n, n ≤ 6 → ∀ i, i < n → bitAt (nI (2 ^ n - 1)) (nI i) = true := by decide +kernel
theorem ls_rel {P : Int32 → Bool} {np : Nat} (h6 : np ≤ 6) : ∀ i, i ≤ 2 ^ np - 1 → (lsM P i = -1 ∧ lsF (nI (2 ^ np - 1)) P i = nI (2 ^ np - 1)) ∨ (∃ b, b < 2 ^ np - 1 ∧ lsM P i = nI b ∧ lsF (nI (2 ^ np - 1)) P i = nI b)
  | 0, _ => Or.inl ⟨rfl, rfl⟩
  | i + 1, hi => by
    have h64 := (sh1 np h6).2
    simp only [lsM, lsF]
    rcases ls_rel (P := P) h6 i (by omega) with ⟨h1, h2⟩ | ⟨b, h0, h1, h2⟩
    · rw [h1, h2]
      cases hp : P (nI i) with
      | true => rw [if_pos ⟨rfl, Or.inl (by decide)⟩, if_pos ⟨bc_all np h6 i (by omega), rfl⟩]; exact Or.inr ⟨i, by omega, rfl, rfl⟩
      | false => rw [if_neg (fun z => absurd z.1 (by decide)), if_neg (fun z => absurd z.2 (by decide))]; exact Or.inl ⟨rfl, rfl⟩
    · rw [h1, h2]
      by_cases hc : P (nI i) = true ∧ bcF (nI i) < bcF (nI b)
      · rw [if_pos ⟨hc.1, Or.inr hc.2⟩, if_pos ⟨hc.2, hc.1⟩]; exact Or.inr ⟨i, by omega, rfl, rfl⟩
      · rw [if_neg (fun z => z.2.elim (fun y => nI_pos (by omega) y) (fun y => hc ⟨z.1, y⟩)), if_neg (fun z => hc ⟨z.2, z.1⟩)]; exact Or.inr ⟨b, h0, rfl, rfl⟩
theorem ls_eq {P : Int32 → Bool} {np : Nat} (h6 : np ≤ 6) (hP : P (nI (2 ^ np - 1)) = true) : lsM P (2 ^ np) = lsF (nI (2 ^ np - 1)) P (2 ^ np - 1) ∧ ¬ lsM P (2 ^ np) < 0 := by
  have h64 := (sh1 np h6).2
  have hpos : 0 < 2 ^ np := Nat.two_pow_pos np
  have e : lsM P (2 ^ np) = lsM P ((2 ^ np - 1) + 1) := by rw [show 2 ^ np - 1 + 1 = 2 ^ np by omega]
  rw [e]
  simp only [lsM]
  rcases ls_rel (P := P) h6 (2 ^ np - 1) (Nat.le_refl _) with ⟨h1, h2⟩ | ⟨b, h0, h1, h2⟩
  · rw [h1, h2, if_pos ⟨hP, Or.inl (by decide)⟩]
    exact ⟨rfl, nI_pos (by omega)⟩
  · rw [h1, h2, if_neg (fun z => z.2.elim (fun y => nI_pos (by omega) y) (fun y => absurd (bc_all np h6 b h0) (Int32.not_lt.mpr (Int32.le_of_lt y))))]
    exact ⟨rfl, nI_pos (by omega)⟩
theorem lsF_cg {P P' : Int32 → Bool} {a : Int32} : ∀ n, (∀ i, i < n → P (nI i) = P' (nI i)) → lsF a P n = lsF a P' n
  | 0, _ => rfl
  | n + 1, h => by simp only [lsF]; rw [lsF_cg n (fun i hi => h i (by omega)), h n (by omega)]
theorem both_least {w : Int32} : Both m_X10_least m_X11_least [.int w] := by
  intro σ hI
  obtain ⟨nf, m, p, q, hL, hD, ⟨np, d, hN⟩, hT, hP, hG, hU, hW⟩ := id hI
  have hpg := hN.pg
  obtain ⟨-, ⟨b1, b2, b3⟩, b4, -⟩ := id hpg
  refine bothE (t_X10_least b1 b3 hpg.ok) (t_X11_least b2 b3 hpg.mok) ?_ hI
  have h64 := (sh1 np b3).2
  have hall : wwO (σ.1 211) (nI (2 ^ np - 1)) np np = true := wwO_iff np |>.mpr (fun i hi => ⟨Or.inl (bit_all np b3 i hi), fun k _ _ => Or.inl (bit_all np b3 i hi)⟩)
  obtain ⟨e1, e2⟩ := ls_eq (P := fun s => wwO (σ.1 211) s np np) b3 hall
  have e3 : lstV σ np = lsM (fun s => wwO (σ.1 211) s np np) (2 ^ np) := by
    rw [e1]; unfold lstV
    exact lsF_cg _ (fun i hi => sound_eq hpg (by omega))
  unfold leaM
  rw [if_neg e2, ← e3]
  cases hb : inB w 0 1 with
  | true =>
    have hc : ¬ w < 0 ∧ w ≤ 1 := by rcases x01 hb with rfl | rfl <;> decide
    rw [if_pos rfl, if_pos hc]
  | false =>
    have hc : ¬ (¬ w < 0 ∧ w ≤ 1) := by
      rintro ⟨z1, z2⟩
      simp only [inB] at hb
      rw [decide_eq_false z1, decide_eq_false (Int32.not_lt.mpr z2)] at hb
      exact absurd hb (by decide)
    rw [if_neg (show ¬ false = true by decide), if_neg hc]
