theorem RetP.mono {M : MD} {σ : St} {as : List Value} {Q Q' : Option Value → St → Prop} (h : RetP M σ as Q) (hq : ∀ v s, Q v s → Q' v s) : RetP M σ as Q' := by
  intro l D B
  refine fun p e ha hc hk s m args below hf hfit hheap happ => ?_
  obtain ⟨k, o, h1, h2, h3, h4⟩ := h l D B p e ha hc hk s m args below hf hfit hheap happ
  refine ⟨k, o, h1, h2, h3, ?_⟩
  obtain ⟨⟨⟨v', s', e1, hv, e2⟩, e3⟩, e4⟩ := h4
  exact ⟨⟨⟨_, _, e1, hq _ _ hv, e2⟩, e3⟩, e4⟩
theorem RetPi.mono {M : MD} {σ : St} {as : List Value} {Q Q' : Int32 → St → Prop} (h : RetPi M σ as Q) (hq : ∀ v s, Q v s → Q' v s) : RetPi M σ as Q' :=
  RetP.mono h (fun v s hv => by obtain ⟨r, e, k⟩ := hv; exact ⟨r, e, hq r s k⟩)
theorem Ret.toP {M : MD} {σ σ' : St} {as : List Value} {v : Option Value} (h : Ret M σ as v σ') : RetP M σ as (fun v' s' => v' = v ∧ s' = σ') := by
  intro l D B
  refine fun p e ha hc hk s m args below hf hfit hheap happ => ?_
  obtain ⟨k, o, h1, h2, h3, h4⟩ := h l D B p e ha hc hk s m args below hf hfit hheap happ
  refine ⟨k, o, h1, h2, h3, ?_⟩
  obtain ⟨⟨⟨v', s', e1, ⟨rfl, rfl⟩, e2⟩, e3⟩, e4⟩ := h4
  exact ⟨⟨⟨_, _, e1, ⟨rfl, rfl⟩, e2⟩, e3⟩, e4⟩
def ordOK (o : Int32) (nf m : Nat) : Prop := ∃ q, o = nI q ∧ q ≤ 48 ∧ (0 < q → (q - 1) / 8 < m ∧ (q - 1) % 8 < nf)
def NR (σ : St) (n : Nat) (R : Nat → Int32) (nf m np d : Nat) : Prop :=
  (σ.1 n 0 = nI d ∧ R 0 = nI d ∧ 1 ≤ d ∧ d ≤ 10) ∧
  (σ.1 (n + 1) 0 = R 1 ∧ σ.1 (n + 1) 1 = R 2 ∧ ordOK (R 1) nf m ∧ ordOK (R 2) nf m) ∧
  (σ.1 (n + 2) 0 = nI m ∧ ∀ a, a < m → σ.1 (n + 3) a = σ.1 210 a ∧ σ.1 (n + 4) a = R (3 + a) ∧ σ.1 (n + 5) a = R (9 + a) ∧ (∃ f, R (3 + a) = nI f ∧ f < nf) ∧ (∃ t, R (9 + a) = nI t ∧ t ≤ 9)) ∧
  (σ.1 (n + 6) 0 = nI np ∧ R 15 = nI np ∧ np ≤ 6) ∧
  (∀ k, k < np → (σ.1 (n + 7) k = R (16 + 4 * k) ∧ σ.1 (n + 8) k = R (16 + 4 * k + 1) ∧ σ.1 (n + 9) k = R (16 + 4 * k + 2) ∧ σ.1 (n + 10) k = R (16 + 4 * k + 3)) ∧ (∃ e, R (16 + 4 * k) = nI e ∧ 1 ≤ e ∧ e ≤ 9) ∧ (∃ e, R (16 + 4 * k + 1) = nI e ∧ e ≤ 2) ∧ (∃ e, R (16 + 4 * k + 3) = nI e ∧ e < nf)) ∧
  (∀ e, 1 ≤ e → e < d → σ.1 (n + 12) (2 * e + 0) = R (40 + 3 * (e - 1) + 0) ∧ σ.1 (n + 12) (2 * e + 1) = R (40 + 3 * (e - 1) + 1) ∧ σ.1 (n + 13) e = R (40 + 3 * (e - 1) + 2))
def NRx (σ : St) (n : Nat) (R : Nat → Int32) (nf m : Nat) : Prop := ∃ np d, NR σ n R nf m np d
theorem NR.cg {σ τ : St} {n n' : Nat} {R R' : Nat → Int32} {nf m np d : Nat} (h : NR σ n R nf m np d) (h1 : ∀ i, i < 14 → τ.1 (n' + i) = σ.1 (n + i)) (h2 : τ.1 210 = σ.1 210) (h3 : ∀ j, j < 67 → R' j = R j) (hm : m ≤ 6) : NR τ n' R' nf m np d := by
  have e0 := h1 0 (by decide)
  rw [Nat.add_zero, Nat.add_zero] at e0
  obtain ⟨a, b, ⟨c1, c2⟩, e, f, g⟩ := h
  refine ⟨?_, ?_, ⟨?_, fun k hk => ?_⟩, ?_, fun k hk => ?_, fun k hk hl => ?_⟩
  · rw [e0, h3 0 (by decide)]; exact a
  · rw [h1 1 (by decide), h3 1 (by decide), h3 2 (by decide)]; exact b
  · rw [h1 2 (by decide)]; exact c1
  · rw [h1 3 (by decide), h1 4 (by decide), h1 5 (by decide), h2, h3 _ (by omega), h3 _ (by omega)]; exact c2 k hk
  · rw [h1 6 (by decide), h3 15 (by decide)]; exact e
  · have := e.2.2
    rw [h1 7 (by decide), h1 8 (by decide), h1 9 (by decide), h1 10 (by decide), h3 _ (by omega), h3 _ (by omega), h3 _ (by omega), h3 _ (by omega)]; exact f k hk
  · have := a.2.2.2
    rw [h1 12 (by decide), h1 13 (by decide), h3 _ (by omega), h3 _ (by omega), h3 _ (by omega)]; exact g k hk hl
theorem NRx.cg {σ τ : St} {n n' : Nat} {R R' : Nat → Int32} {nf m : Nat} (h : NRx σ n R nf m) (h1 : ∀ i, i < 14 → τ.1 (n' + i) = σ.1 (n + i)) (h2 : τ.1 210 = σ.1 210) (h3 : ∀ j, j < 67 → R' j = R j) (hm : m ≤ 6) : NRx τ n' R' nf m := by
  obtain ⟨np, d, h⟩ := h
  exact ⟨np, d, h.cg h1 h2 h3 hm⟩
def LandOK (σ : St) (nf : Nat) : Prop := σ.1 1 0 = nI nf ∧ σ.1 208 0 = nI nf ∧ 2 ≤ nf ∧ nf ≤ 8 ∧ (∀ f, f < 8 → σ.1 2 f = σ.1 209 f) ∧ (∀ f, f < nf → ∃ r, σ.1 209 f = nI r ∧ r < 2 ^ nf)
def DukOK (σ : St) (m : Nat) : Prop := m ≤ 6 ∧ σ.1 208 2 = nI m ∧ ∀ a, a < m → ∃ x, σ.1 210 a = nI x ∧ x < 2
def TxtOK (σ : St) : Prop := ∃ len, len ≤ 200 ∧ σ.1 17 0 = nI len ∧ σ.1 208 11 = nI len ∧ σ.1 34 = σ.1 215 ∧ ∀ i, i < len → 0 ≤ σ.1 34 i
def PstOK (σ : St) (nf m p q : Nat) : Prop := p ≤ 10 ∧ q < 10 ∧ σ.1 35 0 = nI p ∧ σ.1 35 1 = nI q ∧ σ.1 208 6 = nI p ∧ ∀ i, i < p → NRx σ (37 + 14 * ((q + 10 - p + i) % 10)) (fun j => σ.1 212 (67 * i + j)) nf m
def ImgOK (σ : St) (nf m : Nat) : Prop := ∀ i, i < 2 → σ.1 178 i = σ.1 214 i ∧ (¬ σ.1 178 i = 0 → NRx σ (180 + 14 * i) (fun j => σ.1 213 (67 * i + j)) nf m)
def TolOK (σ : St) : Prop := σ.1 20 0 = 1 ∧ σ.1 21 0 = 0 ∧ σ.1 21 1 = 0
def Inv (σ : St) : Prop := ∃ nf m p q, LandOK σ nf ∧ DukOK σ m ∧ NRx σ 3 (σ.1 211) nf m ∧ TxtOK σ ∧ PstOK σ nf m p q ∧ ImgOK σ nf m ∧ TolOK σ ∧ σ.2 0 = σ.2 208
def Agr (σ τ : St) : Prop := τ.2 = σ.2 ∧ (∀ a, a ≠ 208 → ¬ (216 ≤ a) → ¬ (17 ≤ a ∧ a ≤ 19) → ¬ (22 ≤ a ∧ a ≤ 33) → τ.1 a = σ.1 a) ∧ τ.1 17 0 = σ.1 17 0 ∧ τ.1 208 0 = σ.1 208 0 ∧ τ.1 208 2 = σ.1 208 2 ∧ τ.1 208 6 = σ.1 208 6 ∧ τ.1 208 11 = σ.1 208 11
theorem Agr.rf {σ : St} : Agr σ σ := ⟨rfl, fun _ _ _ _ _ => rfl, rfl, rfl, rfl, rfl, rfl⟩
theorem Agr.tr {σ τ ρ : St} (h : Agr σ τ) (k : Agr τ ρ) : Agr σ ρ := ⟨k.1.trans h.1, fun a h1 h2 h3 h4 => (k.2.1 a h1 h2 h3 h4).trans (h.2.1 a h1 h2 h3 h4), k.2.2.1.trans h.2.2.1, k.2.2.2.1.trans h.2.2.2.1, k.2.2.2.2.1.trans h.2.2.2.2.1, k.2.2.2.2.2.1.trans h.2.2.2.2.2.1, k.2.2.2.2.2.2.trans h.2.2.2.2.2.2⟩
theorem Agr.nr {σ τ : St} {n nf m : Nat} {R : Nat → Int32} (h : Agr σ τ) (hn : n + 13 < 17 ∨ (34 ≤ n ∧ n + 13 < 208)) (hm : m ≤ 6) (k : NRx σ n R nf m) : NRx τ n R nf m :=
  k.cg (fun i hi => h.2.1 _ (by omega) (by omega) (by omega) (by omega)) (h.2.1 210 (by decide) (by decide) (by decide) (by decide)) (fun _ _ => rfl) hm
theorem Agr.inv {σ τ : St} (h : Agr σ τ) (k : Inv σ) : Inv τ := by
  obtain ⟨nf, m, p, q, hL, hD, hN, hT, hP, hI, hU, hW⟩ := k
  have e := h.2.1
  refine ⟨nf, m, p, q, ?_, ?_, ?_, ?_, ?_, ?_, ?_, ?_⟩
  · unfold LandOK at hL ⊢
    rw [e 1 (by decide) (by decide) (by decide) (by decide), e 2 (by decide) (by decide) (by decide) (by decide), e 209 (by decide) (by decide) (by decide) (by decide), h.2.2.2.1]; exact hL
  · unfold DukOK at hD ⊢
    rw [e 210 (by decide) (by decide) (by decide) (by decide), h.2.2.2.2.1]; exact hD
  · rw [e 211 (by decide) (by decide) (by decide) (by decide)]; exact h.nr (by decide) hD.1 hN
  · unfold TxtOK at hT ⊢
    rw [e 34 (by decide) (by decide) (by decide) (by decide), e 215 (by decide) (by decide) (by decide) (by decide), h.2.2.1, h.2.2.2.2.2.2]; exact hT
  · unfold PstOK at hP ⊢
    rw [e 35 (by decide) (by decide) (by decide) (by decide), e 212 (by decide) (by decide) (by decide) (by decide), h.2.2.2.2.2.1]
    obtain ⟨p1, p2, p3, p4, p5, p6⟩ := hP
    exact ⟨p1, p2, p3, p4, p5, fun i hi => h.nr (by have := Nat.mod_lt (q + 10 - p + i) (show 0 < 10 by decide); omega) hD.1 (p6 i hi)⟩
  · unfold ImgOK at hI ⊢
    rw [e 178 (by decide) (by decide) (by decide) (by decide), e 213 (by decide) (by decide) (by decide) (by decide), e 214 (by decide) (by decide) (by decide) (by decide)]
    exact fun i hi => ⟨(hI i hi).1, fun z => h.nr (by omega) hD.1 ((hI i hi).2 z)⟩
  · unfold TolOK at hU ⊢
    rw [e 20 (by decide) (by decide) (by decide) (by decide), e 21 (by decide) (by decide) (by decide) (by decide)]; exact hU
  · rw [h.1]; exact hW
def Both (C M : MD) (as : List Value) : Prop := ∀ σ, Inv σ → RetPi C σ (.ref 0 :: as) (fun r t => RetPi M t (.ref 208 :: as) (fun r' u => r' = r ∧ Inv u))
theorem bothE {C M : MD} {σ t u : St} {as : List Value} {r r' : Int32} (h1 : Ret C σ (.ref 0 :: as) (some (.int r)) t) (h2 : Ret M t (.ref 208 :: as) (some (.int r')) u) (e : r' = r) (hi : Inv u) : RetPi C σ (.ref 0 :: as) (fun r t => RetPi M t (.ref 208 :: as) (fun r' u => r' = r ∧ Inv u)) :=
  h1.toPi.mono (fun v s hv => by
    obtain ⟨rfl, rfl⟩ := hv
    exact h2.toPi.mono (fun v2 s2 hv2 => by
      obtain ⟨rfl, rfl⟩ := hv2
      exact ⟨e, hi⟩))
theorem div_nI {n : Nat} (h : n < 2 ^ 31) : nI n / 8 = nI (n / 8) := by
  refine Int32.toInt_inj.mp ?_
  have h1 := nI_toInt h
  have h2 := nI_toInt (n := n / 8) (by omega)
  rw [Int32.toInt_div, h1, h2, show (8 : Int32).toInt = 8 from rfl, Int.tdiv_eq_ediv_of_nonneg (by omega), Int.bmod_eq_of_le (by omega) (by omega)]
  omega
theorem inB_nI {q N : Nat} {y : Int32} (hy : y = nI N) (hq : q < 2 ^ 31) (hN : N < 2 ^ 31) : inB (nI q) 0 (y - 1) = decide (q < N) := by
  by_cases h : q < N
  · rw [decide_eq_true h]
    have h1 : nI N - 1 = nI (N - 1) := by rw [show N = (N - 1) + 1 by omega]; exact nI_pred _
    simp only [inB, hy, h1, Bool.and_eq_true, Bool.not_eq_true', decide_eq_false_iff_not]
    exact ⟨nI_pos hq, nI_nlt (by omega) (by omega)⟩
  · rw [decide_eq_false h]
    cases hb : inB (nI q) 0 (y - 1) with
    | false => rfl
    | true =>
      obtain ⟨n, hn, e⟩ := inB_ex hy hN hb
      have := (nI_eq hq (by omega)).mp e
      omega
theorem hasA_nI {σ : St} {k q m : Nat} (hm : σ.1 k 0 = nI m) (h6 : m ≤ 6) (hq : q < 2 ^ 31) : hasA σ k (nI q) = decide (q < m) := by
  unfold hasA
  rw [hm, decide_eq_false (nI_pos hq)]
  by_cases h : q < m
  · rw [decide_eq_true h, decide_eq_false (nI_ge h (by omega)), decide_eq_false (show ¬ (6 : Int32) ≤ nI q from nI_ge (b := 6) (show q < 6 by omega) (by decide))]; rfl
  · rw [decide_eq_false h, decide_eq_true (nI_le (show m ≤ q by omega) hq)]; rfl
theorem hasL_nI {σ : St} {k q m : Nat} (hm : σ.1 k 0 = nI m) (h8 : m ≤ 8) (hq : q < 2 ^ 31) : hasL σ k (nI q) = decide (q < m) := by
  unfold hasL
  rw [hm, decide_eq_false (nI_pos hq)]
  by_cases h : q < m
  · rw [decide_eq_true h, decide_eq_false (nI_ge h (by omega)), decide_eq_false (show ¬ (8 : Int32) ≤ nI q from nI_ge (b := 8) (show q < 8 by omega) (by decide))]; rfl
  · rw [decide_eq_false h, decide_eq_true (nI_le (show m ≤ q by omega) hq)]; rfl
theorem inB_neg {x y : Int32} (h : x < 0) : inB x 0 y = false := by simp [inB, h]
theorem hasA_inB {σ : St} {k m : Nat} {a y : Int32} (hm : σ.1 k 0 = nI m) (hy : y = nI m) (h6 : m ≤ 6) : hasA σ k a = inB a 0 (y - 1) := by
  by_cases h : a < 0
  · rw [inB_neg h]; simp [hasA, h]
  · obtain ⟨n, hn, rfl⟩ := nI_of h
    rw [hasA_nI hm h6 hn, inB_nI hy hn (by omega)]
theorem hasL_inB {σ : St} {k m : Nat} {a y : Int32} (hm : σ.1 k 0 = nI m) (hy : y = nI m) (h6 : m ≤ 8) : hasL σ k a = inB a 0 (y - 1) := by
  by_cases h : a < 0
  · rw [inB_neg h]; simp [hasL, h]
  · obtain ⟨n, hn, rfl⟩ := nI_of h
    rw [hasL_nI hm h6 hn, inB_nI hy hn (by omega)]
theorem hasP_inB {σ : St} {k m : Nat} {a y : Int32} (hm : σ.1 k 0 = nI m) (hy : y = nI m) (h6 : m ≤ 6) : hasP σ k a = inB a 0 (y - 1) := hasA_inB hm hy h6
theorem duke_inB {x : Int32} : isDukeB x = inB x 0 1 := by
  by_cases h : x < 0
  · rw [inB_neg h]; simp [isDukeB, h]
  · obtain ⟨n, hn, rfl⟩ := nI_of h
    have h1 := inB_nI (q := n) (N := 2) (y := 2) rfl hn (by decide)
    rw [show inB (nI n) 0 1 = inB (nI n) 0 (2 - 1) from rfl, h1]
    unfold isDukeB
    rw [decide_eq_false (nI_pos hn)]
    by_cases h : n < 2
    · rw [decide_eq_true h, decide_eq_false (show ¬ (2 : Int32) ≤ nI n from nI_ge (b := 2) h (by decide))]; rfl
    · rw [decide_eq_false h, decide_eq_true (show (2 : Int32) ≤ nI n from nI_le (a := 2) (show 2 ≤ n by omega) hn)]; rfl
