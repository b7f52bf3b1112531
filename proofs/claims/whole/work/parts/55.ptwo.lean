theorem nI_or (x y : Nat) : nI x ||| nI y = nI (x ||| y) := by
  refine Int32.toBitVec_inj.mp ?_
  rw [Int32.toBitVec_or]
  exact BitVec.ofNat_or.symm
theorem bitAt_nI : ∀ x, x < 256 → ∀ j, j < 8 → bitAt (nI x) (nI j) = x.testBit j := by decide +kernel
theorem adf_cg {w w' : Nat → Int32} {r : Int32} : ∀ n, (∀ k, k < n → w k = w' k) → adf w r n = adf w' r n
  | 0, _ => rfl
  | n + 1, h => by simp only [adf]; rw [adf_cg n (fun k hk => h k (by omega)), h n (by omega)]
theorem dbt_cg (w w' : Nat → Int32) (nf : Nat) (t : Int32) : ∀ (q d : Nat) (r : Int32), (∀ k, k < nf → w k = w' k) → dbt w nf t q d r = dbt w' nf t q d r
  | 0, _, _, _ => rfl
  | q + 1, d, r, h => by simp only [dbt]; rw [adf_cg nf h, dbt_cg w w' nf t q (d + 1) _ h]
def itR8 (w : Nat → Int32) (nf : Nat) (r : Int32) : Nat → Int32
  | 0 => r
  | i + 1 => itR8 w nf (adf w r nf) i
theorem itR8_s {w : Nat → Int32} {nf : Nat} : ∀ (i : Nat) (r : Int32), itR8 w nf r (i + 1) = adf w (itR8 w nf r i) nf
  | 0, _ => rfl
  | i + 1, r => by
    have := itR8_s (w := w) (nf := nf) i (adf w r nf)
    simp only [itR8] at this ⊢
    exact this
theorem dbt_ext {w : Nat → Int32} {nf : Nat} {t : Int32} {n : Nat} : ∀ (q d : Nat) (r : Int32), (∀ i, q ≤ i → i < q + n → bitAt (itR8 w nf r i) t = false) → dbt w nf t (q + n) d r = dbt w nf t q d r
  | 0, d, r, h => by
    rw [Nat.zero_add]
    have key : ∀ n d r, (∀ i, i < n → bitAt (itR8 w nf r i) t = false) → dbt w nf t n d r = -9 := by
      intro n
      induction n with
      | zero => intro d r _; rfl
      | succ n ih =>
        intro d r h
        simp only [dbt]
        rw [show bitAt r t = false from h 0 (by omega)]
        exact ih _ _ (fun i hi => h (i + 1) (by omega))
    exact key n d r (fun i hi => h i (by omega) (by omega))
  | q + 1, d, r, h => by
    rw [show q + 1 + n = (q + n) + 1 by omega]
    simp only [dbt]
    rw [dbt_ext q (d + 1) (adf w r nf) (fun i h1 h2 => h (i + 1) (by omega) (by omega))]
theorem adf_nI {w : Nat → Int32} {nf b : Nat} (hb : b < 2 ^ nf) (hw : ∀ k, k < nf → ∃ r, w k = nI r ∧ r < 2 ^ nf) : ∀ n, n ≤ nf → ∃ c, adf w (nI b) n = nI c ∧ c < 2 ^ nf ∧ (∀ j, b.testBit j = true → c.testBit j = true)
  | 0, _ => ⟨b, rfl, hb, fun _ h => h⟩
  | n + 1, hn => by
    obtain ⟨c, h1, h2, h3⟩ := adf_nI hb hw n (by omega)
    simp only [adf]
    split
    · obtain ⟨r, r1, r2⟩ := hw n (by omega)
      refine ⟨c ||| r, by rw [h1, r1, nI_or], Nat.or_lt_two_pow h2 r2, fun j hj => ?_⟩
      rw [Nat.testBit_or, h3 j hj]; rfl
    · exact ⟨c, h1, h2, h3⟩
theorem cnt_cg {p q : Nat → Bool} : ∀ k, (∀ a, a < k → p a = q a) → cnt p k = cnt q k
  | 0, _ => rfl
  | k + 1, h => by simp only [cnt]; rw [cnt_cg k (fun a ha => h a (by omega)), h k (by omega)]
theorem cnt_mono {p q : Nat → Bool} : ∀ k, (∀ a, a < k → p a = true → q a = true) → cnt p k ≤ cnt q k ∧ (cnt p k = cnt q k → ∀ a, a < k → p a = q a)
  | 0, _ => ⟨Nat.le_refl _, fun _ a ha => by omega⟩
  | k + 1, h => by
    obtain ⟨h1, h2⟩ := cnt_mono (p := p) (q := q) k (fun a ha => h a (by omega))
    simp only [cnt]
    cases hp : p k with
    | true =>
      rw [h k (by omega) hp, if_pos rfl, if_pos rfl]
      refine ⟨by omega, fun e a ha => ?_⟩
      rcases Nat.eq_or_lt_of_le (Nat.lt_succ_iff.mp ha) with z | z
      · subst z; rw [hp, h a (by omega) hp]
      · exact h2 (by omega) a z
    | false =>
      rw [if_neg (by decide)]
      cases hq : q k with
      | true =>
        rw [if_pos rfl]
        exact ⟨by omega, fun e => by omega⟩
      | false =>
        rw [if_neg (by decide)]
        refine ⟨h1, fun e a ha => ?_⟩
        rcases Nat.eq_or_lt_of_le (Nat.lt_succ_iff.mp ha) with z | z
        · subst z; rw [hp, hq]
        · exact h2 e a z
theorem tb_eq {b c nf : Nat} (hb : b < 2 ^ nf) (hc : c < 2 ^ nf) (h : ∀ j, j < nf → b.testBit j = c.testBit j) : b = c := by
  refine Nat.eq_of_testBit_eq (fun j => ?_)
  rcases Nat.lt_or_ge j nf with q | q
  · exact h j q
  · rw [Nat.testBit_lt_two_pow (Nat.lt_of_lt_of_le hb (Nat.pow_le_pow_right (by decide) q)), Nat.testBit_lt_two_pow (Nat.lt_of_lt_of_le hc (Nat.pow_le_pow_right (by decide) q))]
theorem sat8 {w : Nat → Int32} {nf b : Nat} (hb : b < 2 ^ nf) (hw : ∀ k, k < nf → ∃ r, w k = nI r ∧ r < 2 ^ nf) (h1 : 1 ≤ cnt (fun j => b.testBit j) nf) : ∀ i, ∃ c, itR8 w nf (nI b) i = nI c ∧ c < 2 ^ nf ∧ ((i + 1 ≤ cnt (fun j => c.testBit j) nf) ∨ (adf w (nI c) nf = nI c ∧ (∃ i', i' + 1 ≤ nf ∧ i' ≤ i ∧ itR8 w nf (nI b) i' = nI c)))
  | 0 => ⟨b, rfl, hb, Or.inl h1⟩
  | i + 1 => by
    obtain ⟨c, c1, c2, c3⟩ := sat8 hb hw h1 i
    have hs := itR8_s (w := w) (nf := nf) i (nI b)
    rw [c1] at hs
    rcases c3 with c3 | ⟨c3, i', e1, e2, e3⟩
    · obtain ⟨e, e1, e2, e3⟩ := adf_nI c2 hw nf (Nat.le_refl _)
      rw [e1] at hs
      obtain ⟨m1, m2⟩ := cnt_mono (p := fun j => c.testBit j) (q := fun j => e.testBit j) nf (fun a _ ha => e3 a ha)
      by_cases hq : cnt (fun j => c.testBit j) nf = cnt (fun j => e.testBit j) nf
      · have ec : c = e := tb_eq c2 e2 (m2 hq)
        refine ⟨e, hs, e2, Or.inr ⟨by rw [← ec] at e1 ⊢; exact e1, i, ?_, by omega, by rw [← ec]; exact c1⟩⟩
        have := cnt_le (fun j => c.testBit j) nf
        omega
      · exact ⟨e, hs, e2, Or.inl (by omega)⟩
    · rw [c3] at hs
      exact ⟨c, hs, c2, Or.inr ⟨c3, i', e1, by omega, e3⟩⟩
theorem fix8 {w : Nat → Int32} {nf : Nat} {c : Int32} (h : adf w c nf = c) : ∀ i, itR8 w nf c i = c
  | 0 => rfl
  | i + 1 => by simp only [itR8]; rw [h]; exact fix8 h i
theorem itR8_add {w : Nat → Int32} {nf : Nat} : ∀ (i j : Nat) (r : Int32), itR8 w nf r (i + j) = itR8 w nf (itR8 w nf r i) j
  | 0, j, r => by rw [Nat.zero_add]; rfl
  | i + 1, j, r => by rw [show i + 1 + j = (i + j) + 1 by omega]; simp only [itR8]; exact itR8_add i j _
theorem dbt_not {w : Nat → Int32} {nf : Nat} {t : Int32} : ∀ (q d : Nat) (r : Int32), (∃ i, i < q ∧ bitAt (itR8 w nf r i) t = true) ∨ (∀ i, i < q → bitAt (itR8 w nf r i) t = false) := by
  intro q d r
  by_cases h : ∃ i, i < q ∧ bitAt (itR8 w nf r i) t = true
  · exact Or.inl h
  · refine Or.inr (fun i hi => ?_)
    cases hb : bitAt (itR8 w nf r i) t with
    | false => rfl
    | true => exact absurd ⟨i, hi, hb⟩ h
theorem dbt_found {w : Nat → Int32} {nf : Nat} {t : Int32} : ∀ (q n d : Nat) (r : Int32), (∃ i, i < q ∧ bitAt (itR8 w nf r i) t = true) → dbt w nf t (q + n) d r = dbt w nf t q d r
  | 0, n, d, r, h => by obtain ⟨i, hi, -⟩ := h; omega
  | q + 1, n, d, r, h => by
    rw [show q + 1 + n = (q + n) + 1 by omega]
    simp only [dbt]
    cases hb : bitAt r t with
    | true => rfl
    | false =>
      rw [if_neg (by decide), if_neg (by decide)]
      refine dbt_found q n (d + 1) _ ?_
      obtain ⟨i, hi, hi2⟩ := h
      cases i with
      | zero => simp only [itR8] at hi2; rw [hb] at hi2; exact absurd hi2 (by decide)
      | succ i => exact ⟨i, by omega, hi2⟩
theorem sh8 : ∀ g, g < 8 → (1 : Int32) <<< (nI g &&& 31) = nI (2 ^ g) := by decide +kernel
theorem march_eq (w : Nat → Int32) (nf g t : Nat) (h2 : 2 ≤ nf) (h8 : nf ≤ 8) (hg : g < nf) (ht : t < nf) (hw : ∀ k, k < nf → ∃ r, w k = nI r ∧ r < 2 ^ nf) : dbt w nf (nI t) 8 0 (1 <<< (nI g &&& 31)) = dbt w nf (nI t) nf 0 (1 <<< (nI g &&& 31)) := by
  rw [sh8 g (by omega)]
  have hb : 2 ^ g < 2 ^ nf := Nat.pow_lt_pow_right (by decide) hg
  have hc1 : 1 ≤ cnt (fun j => (2 ^ g).testBit j) nf := by
    have key : ∀ n, g < n → 1 ≤ cnt (fun j => (2 ^ g).testBit j) n := by
      intro n
      induction n with
      | zero => intro h; omega
      | succ n ih =>
        intro h
        simp only [cnt]
        rcases Nat.eq_or_lt_of_le (Nat.lt_succ_iff.mp h) with e | e
        · subst e; rw [if_pos Nat.testBit_two_pow_self]; omega
        · have := ih e; split <;> omega
    exact key nf hg
  rw [show (8 : Nat) = nf + (8 - nf) by omega]
  rcases dbt_not (w := w) (nf := nf) (t := nI t) nf 0 (nI (2 ^ g)) with h | h
  · exact dbt_found _ _ _ _ h
  · refine dbt_ext _ _ _ (fun i hi _ => ?_)
    obtain ⟨c, c1, c2, c3⟩ := sat8 hb hw hc1 i
    rcases c3 with c3 | ⟨c3, i', e1, e2, e3⟩
    · have := cnt_le (fun j => c.testBit j) nf
      omega
    · rw [c1, ← e3]
      exact h i' (by omega)
theorem both_march' {a f : Int32} : Both m_X10_march m_X11_march [.int a, .int f] := both_march march_eq (fun w w' nf t q d r h => dbt_cg w w' nf t q d r h)
