theorem los_cg2 {du fi fi' tr tr' : Nat → Int32} {x f l : Int32} {M : Nat} (ht : ∀ a, a < M → tr a = tr' a) : ∀ m, m ≤ M → (∀ a, a < m → fi a = fi' a) →
    (los du fi x f tr l m).2 = (los du fi' x f tr' l m).2 ∧ ∀ a, a < M → (los du fi x f tr l m).1 a = (los du fi' x f tr' l m).1 a
  | 0, _, _ => ⟨rfl, ht⟩
  | m + 1, hm, hf => by
    obtain ⟨h1, h2⟩ := los_cg2 (du := du) (x := x) (f := f) (l := l) ht m (by omega) (fun a ha => hf a (by omega))
    simp only [los]
    rw [hf m (by omega)]
    by_cases hc : du m = x ∧ fi' m = f
    · rw [if_pos hc, if_pos hc]
      refine ⟨by simp only; rw [h1, h2 m (by omega)], fun a ha => ?_⟩
      simp only [upd]; rw [h1, h2 m (by omega)]
      by_cases e : a = m
      · rw [if_pos e, if_pos e]
      · rw [if_neg e, if_neg e]; exact h2 a ha
    · rw [if_neg hc, if_neg hc]
      exact ⟨h1, h2⟩
theorem fgM_fgs {du row fi tr : Nat → Int32} {w m : Nat} (hm : m ≤ 6) (hF : ∀ a, a < 6 → row (13 * w + 1 + a) = fi a) (hT : ∀ a, a < 6 → row (13 * w + 7 + a) = tr a) (h : trOK tr m) : ∀ f,
    (fgM du m w row f).2 = (fgs du fi m tr f).2 ∧ (∀ a, a < 6 → (fgM du m w row f).1 (13 * w + 7 + a) = (fgs du fi m tr f).1 a) ∧ (∀ j, ¬ (13 * w + 7 ≤ j ∧ j < 13 * w + 13) → (fgM du m w row f).1 j = row j) ∧ trOK (fgs du fi m tr f).1 m ∧ (∀ x : Int32, x = 0 ∨ x = 1 → moF du (fgs du fi m tr f).1 x m = moF du tr x m)
  | 0 => ⟨rfl, hT, fun _ _ => rfl, h, fun _ _ => rfl⟩
  | f + 1 => by
    obtain ⟨hA, hB, hC, hD, hE⟩ := fgM_fgs (du := du) hm hF hT h f
    have hF' : ∀ a, a < 6 → (fgM du m w row f).1 (13 * w + 1 + a) = fi a := fun a ha => by rw [hC _ (by omega)]; exact hF a ha
    have e := fg_eq (du := du) (fi := fi) (f := nI f) hm hD
    have k0 : sumA du (fun a => (fgM du m w row f).1 (13 * w + 1 + a)) (fun a => (fgM du m w row f).1 (13 * w + 7 + a)) 0 (nI f) m = sumA du fi (fgs du fi m tr f).1 0 (nI f) m := sumA_cg m (fun a ha => ⟨hF' a (by omega), hB a (by omega)⟩)
    have k1 : sumA du (fun a => (fgM du m w row f).1 (13 * w + 1 + a)) (fun a => (fgM du m w row f).1 (13 * w + 7 + a)) 1 (nI f) m = sumA du fi (fgs du fi m tr f).1 1 (nI f) m := sumA_cg m (fun a ha => ⟨hF' a (by omega), hB a (by omega)⟩)
    have hD2 := fgN_OK (du := du) (fi := fi) (f := nI f) hm hD
    have hE2 : ∀ x : Int32, x = 0 ∨ x = 1 → moF du (fgN du fi (fgs du fi m tr f).1 m (nI f)).1 x m = moF du tr x m := fun x hx => by rw [fgN_mo hm hD hx]; exact hE x hx
    simp only [fgM, fgs]
    rw [k0, k1, ← e]
    refine ⟨?_, ?_, ?_, hD2, hE2⟩
    · unfold fgN
      split
      · exact hA
      · split
        · exact hA
        · simp only [if_true]; rw [hA]
    · intro a ha
      unfold fgN
      split
      · exact hB a ha
      · split
        · exact hB a ha
        · simp only
          obtain ⟨-, g2⟩ := lwR_los (du := du) (row := (fgM du m w row f).1) (w := w) (x := 0) (f := nI f) (l := sumA du fi (fgs du fi m tr f).1 1 (nI f) m) hm m (Nat.le_refl _)
          obtain ⟨-, g4⟩ := lwR_los (du := du) (row := (lwR du w 0 (nI f) (fgM du m w row f).1 (sumA du fi (fgs du fi m tr f).1 1 (nI f) m) m).1) (w := w) (x := 1) (f := nI f) (l := sumA du fi (fgs du fi m tr f).1 0 (nI f) m) hm m (Nat.le_refl _)
          rw [g4]
          simp only
          rw [if_pos (by omega), Nat.add_sub_cancel_left]
          refine (los_cg2 (M := 6) ?_ m hm ?_).2 a ha
          · intro b hb
            rw [g2]
            simp only
            rw [if_pos (by omega), Nat.add_sub_cancel_left]
            exact (los_cg2 (M := 6) hB m hm (fun c hc => hF' c (by omega))).2 b hb
          · intro b hb
            rw [g2]
            simp only
            rw [if_neg (by omega)]
            exact hF' b (by omega)
    · intro j hj
      split
      · exact hC j hj
      · split
        · exact hC j hj
        · simp only
          obtain ⟨-, g2⟩ := lwR_los (du := du) (row := (fgM du m w row f).1) (w := w) (x := 0) (f := nI f) (l := sumA du fi (fgs du fi m tr f).1 1 (nI f) m) hm m (Nat.le_refl _)
          obtain ⟨-, g4⟩ := lwR_los (du := du) (row := (lwR du w 0 (nI f) (fgM du m w row f).1 (sumA du fi (fgs du fi m tr f).1 1 (nI f) m) m).1) (w := w) (x := 1) (f := nI f) (l := sumA du fi (fgs du fi m tr f).1 0 (nI f) m) hm m (Nat.le_refl _)
          rw [g4]
          simp only
          rw [if_neg hj, g2]
          simp only
          rw [if_neg hj]
          exact hC j hj
theorem aO_nI {q : Nat} (h0 : 0 < q) (h : q ≤ 48) : aO (nI q) = nI ((q - 1) / 8) ∧ gO (nI q) = nI ((q - 1) % 8) ∧ (q - 1) / 8 < 6 := by
  have e := md8 (q - 1) (by omega)
  have hp : nI q - 1 = nI (q - 1) := by rw [show q = (q - 1) + 1 by omega]; exact nI_pred _
  refine ⟨?_, ?_, by omega⟩
  · rw [aO, if_neg (nI_ne0 h0 (by omega)), hp, e.1]
  · rw [gO, if_neg (nI_ne0 h0 (by omega)), hp, e.1, e.2]
theorem mrR_mv {w q : Nat} {row fi : Nat → Int32} (hq : q ≤ 48) (h : ∀ a, a < 6 → row (13 * w + 1 + a) = fi a) : (∀ a, a < 6 → mrR w row q (13 * w + 1 + a) = mv fi (nI q) a) ∧ (∀ j, (j ≤ 13 * w ∨ 13 * w + 7 ≤ j) → mrR w row q j = row j) := by
  unfold mrR mv
  rcases Nat.eq_zero_or_pos q with e | e
  · subst e
    exact ⟨fun a ha => by rw [if_pos rfl, if_pos (by decide)]; exact h a ha, fun j hj => by rw [if_pos rfl]⟩
  · obtain ⟨e1, e2, e3⟩ := aO_nI e hq
    rw [if_neg (by omega), if_neg (nI_ne0 e (by omega)), e1, e2, nI_clamp (by omega)]
    refine ⟨fun a ha => ?_, fun j hj => ?_⟩
    · simp only [upd]
      by_cases k : a = (q - 1) / 8
      · rw [if_pos k, if_pos (by omega)]
      · rw [if_neg k, if_neg (by omega)]; exact h a ha
    · simp only [upd]; rw [if_neg (by omega)]
theorem gsR_spec {du row : Nat → Int32} {w m nf o1 o2 : Nat} (hm : m ≤ 6) (h1 : o1 ≤ 48) (h2 : o2 ≤ 48) (h : trOK (fun a => row (13 * w + 7 + a)) m) :
    (gsR du m nf w row o1 o2).2 = (fgs du (mv (mv (fun a => row (13 * w + 1 + a)) (nI o1)) (nI o2)) m (fun a => row (13 * w + 7 + a)) nf).2 ∧
    (∀ a, a < 6 → (gsR du m nf w row o1 o2).1 (13 * (w + 1) + 7 + a) = (fgs du (mv (mv (fun a => row (13 * w + 1 + a)) (nI o1)) (nI o2)) m (fun a => row (13 * w + 7 + a)) nf).1 a) ∧
    (∀ a, a < 6 → (gsR du m nf w row o1 o2).1 (13 * (w + 1) + 1 + a) = mv (mv (fun a => row (13 * w + 1 + a)) (nI o1)) (nI o2) a) ∧
    (gsR du m nf w row o1 o2).1 (13 * (w + 1)) = row (13 * w) + 1 ∧
    (∀ j, j < 13 * (w + 1) → (gsR du m nf w row o1 o2).1 j = row j) ∧
    trOK (fun a => (gsR du m nf w row o1 o2).1 (13 * (w + 1) + 7 + a)) m ∧
    (∀ x : Int32, x = 0 ∨ x = 1 → moR du (gsR du m nf w row o1 o2).1 (w + 1) x m = moR du row w x m) := by
  have a0 : gsA w row (13 * (w + 1)) = row (13 * w) + 1 := by
    unfold gsA; rw [upd_at]; simp only [va_cpy]; rw [if_pos (by omega)]; congr 2; omega
  have aH : ∀ j, 13 * (w + 1) < j → j < 13 * (w + 1) + 13 → gsA w row j = row (j - 13) := by
    intro j g1 g2
    unfold gsA; simp only [upd]; rw [if_neg (by omega)]; simp only [va_cpy]; rw [if_pos (by omega)]; congr 1; omega
  have aL : ∀ j, j < 13 * (w + 1) → gsA w row j = row j := by
    intro j g1
    unfold gsA; simp only [upd]; rw [if_neg (by omega)]; simp only [va_cpy]; rw [if_neg (by omega)]
  obtain ⟨m1, n1⟩ := mrR_mv (w := w + 1) (q := o1) (row := gsA w row) (fi := fun a => row (13 * w + 1 + a)) h1 (fun a ha => by rw [aH _ (by omega) (by omega)]; exact congrArg row (by omega))
  obtain ⟨m2, n2⟩ := mrR_mv (w := w + 1) (q := o2) (row := mrR (w + 1) (gsA w row) o1) h2 m1
  have bT : ∀ a, a < 6 → gsB w row o1 o2 (13 * (w + 1) + 7 + a) = row (13 * w + 7 + a) := fun a ha => by
    unfold gsB; rw [n2 _ (by omega), n1 _ (by omega), aH _ (by omega) (by omega)]; congr 1; omega
  obtain ⟨hA, hB, hC, hD, hE⟩ := fgM_fgs (du := du) (row := gsB w row o1 o2) (fi := mv (mv (fun a => row (13 * w + 1 + a)) (nI o1)) (nI o2)) (tr := fun a => row (13 * w + 7 + a)) (w := w + 1) hm m2 bT h nf
  refine ⟨hA, hB, fun a ha => ?_, ?_, fun j hj => ?_, fun a ha => ?_, fun x hx => ?_⟩
  · unfold gsR; rw [hC _ (by omega)]; exact m2 a ha
  · unfold gsR; rw [hC _ (by omega)]; unfold gsB; rw [n2 _ (by omega), n1 _ (by omega)]; exact a0
  · unfold gsR; rw [hC _ (by omega)]; unfold gsB; rw [n2 _ (by omega), n1 _ (by omega)]; exact aL j hj
  · obtain ⟨t, t1, t2⟩ := hD a ha
    exact ⟨t, (hB a (by omega)).trans t1, t2⟩
  · rw [moR_F, moR_F, ← hE x hx]
    exact moF_cg m (fun a ha => ⟨rfl, hB a (by omega)⟩)
theorem moF_bd {du tr : Nat → Int32} {x : Int32} {m : Nat} (h : trOK tr m) : ∀ k, k ≤ m → k ≤ 6 → -(9 * (k : Int)) ≤ (moF du tr x k).toInt ∧ (moF du tr x k).toInt ≤ 9 * k
  | 0, _, _ => by simp [moF]
  | k + 1, hk, h6 => by
    obtain ⟨b1, b2⟩ := moF_bd (du := du) (x := x) h k (by omega) (by omega)
    obtain ⟨t, t1, t2⟩ := h k (by omega)
    have ht := nI_toInt (n := t) (by omega)
    simp only [moF]
    split
    · rw [t1, Int32.toInt_add, ht, Int.bmod_eq_of_le (by omega) (by omega)]; omega
    · rw [t1, Int32.toInt_add, Int32.toInt_neg, ht, Int.bmod_eq_of_le (n := -(t : Int)) (by omega) (by omega), Int.bmod_eq_of_le (by omega) (by omega)]; omega
theorem moR_bd {du row : Nat → Int32} {w m : Nat} {x : Int32} (hm : m ≤ 6) (h : trOK (fun a => row (13 * w + 7 + a)) m) : moR du row w x m < 1000000 ∧ ¬ moR du row w x m ≤ -1000000 := by
  have := moF_bd (du := du) (x := x) h m (Nat.le_refl _) hm
  rw [moR_F, Int32.lt_iff_toInt_lt, Int32.le_iff_toInt_le, show (1000000 : Int32).toInt = 1000000 from rfl, show (-1000000 : Int32).toInt = -1000000 from rfl]
  omega
