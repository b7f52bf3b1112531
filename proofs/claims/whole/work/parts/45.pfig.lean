def moF (du tr : Nat → Int32) (x : Int32) : Nat → Int32
  | 0 => 0
  | a + 1 => if du a = x then moF du tr x a + tr a else moF du tr x a + -tr a
theorem moR_F {du row : Nat → Int32} {w : Nat} {x : Int32} : ∀ m, moR du row w x m = moF du (fun a => row (13 * w + 7 + a)) x m
  | 0 => rfl
  | m + 1 => by simp only [moR, moF]; rw [moR_F m]
theorem moF_cg {du du' tr tr' : Nat → Int32} {x : Int32} : ∀ m, (∀ a, a < m → du a = du' a ∧ tr a = tr' a) → moF du tr x m = moF du' tr' x m
  | 0, _ => rfl
  | m + 1, h => by
    simp only [moF]
    rw [moF_cg m (fun a ha => h a (by omega)), (h m (by omega)).1, (h m (by omega)).2]
theorem sumA_cg {du fi tr fi' tr' : Nat → Int32} {x f : Int32} : ∀ m, (∀ a, a < m → fi a = fi' a ∧ tr a = tr' a) → sumA du fi tr x f m = sumA du fi' tr' x f m
  | 0, _ => rfl
  | m + 1, h => by
    simp only [sumA]
    rw [sumA_cg m (fun a ha => h a (by omega)), (h m (by omega)).1, (h m (by omega)).2]
theorem los_hi {du fi tr : Nat → Int32} {x f l : Int32} : ∀ m a, m ≤ a → (los du fi x f tr l m).1 a = tr a
  | 0, a, _ => rfl
  | m + 1, a, h => by
    simp only [los]; split
    · simp only [upd]; rw [if_neg (by omega)]; exact los_hi m a (by omega)
    · exact los_hi m a (by omega)
theorem moF_upd {du tr : Nat → Int32} {x v : Int32} {k : Nat} : moF du (upd tr k v) x k = moF du tr x k :=
  moF_cg k (fun a ha => ⟨rfl, by simp only [upd]; rw [if_neg (by omega)]⟩)
theorem mo_los {du fi tr : Nat → Int32} {x y f l : Int32} : ∀ m, moF du (los du fi y f tr l m).1 x m = if y = x then moF du tr x m - (l - (los du fi y f tr l m).2) else moF du tr x m + (l - (los du fi y f tr l m).2)
  | 0 => by simp only [los, moF]; split <;> grind
  | m + 1 => by
    have ih := mo_los (du := du) (fi := fi) (tr := tr) (x := x) (y := y) (f := f) (l := l) m
    have hk := los_hi (du := du) (fi := fi) (tr := tr) (x := y) (f := f) (l := l) m m (Nat.le_refl _)
    simp only [los]
    by_cases hc : du m = y ∧ fi m = f
    · rw [if_pos hc]
      simp only [moF]
      rw [moF_upd, ih, hk, show upd (los du fi y f tr l m).1 m (tr m - minI (los du fi y f tr l m).2 (tr m)) m = tr m - minI (los du fi y f tr l m).2 (tr m) from by simp [upd], hc.1]
      by_cases hy : y = x
      · simp only [if_pos hy]; grind
      · simp only [if_neg hy]; grind
    · rw [if_neg hc]
      simp only [moF]
      rw [ih, hk]
      by_cases hy : y = x
      · simp only [if_pos hy]; split <;> grind
      · simp only [if_neg hy]; split <;> grind
def SN (c : Nat → Bool) (tr : Nat → Nat) : Nat → Nat
  | 0 => 0
  | a + 1 => if c a then SN c tr a + tr a else SN c tr a
theorem SN_le {c : Nat → Bool} {tr : Nat → Nat} {B : Nat} : ∀ m, (∀ a, a < m → tr a ≤ B) → SN c tr m ≤ B * m
  | 0, _ => Nat.zero_le _
  | m + 1, h => by
    have := SN_le (c := c) m (fun a ha => h a (by omega))
    have h2 := h m (by omega)
    simp only [SN]; split <;> rw [Nat.mul_succ] <;> omega
theorem SN_mono {c : Nat → Bool} {tr : Nat → Nat} : ∀ m a, a < m → c a = true → SN c tr a + tr a ≤ SN c tr m
  | 0, a, h, _ => by omega
  | m + 1, a, h, hc => by
    simp only [SN]
    rcases Nat.eq_or_lt_of_le (Nat.lt_succ_iff.mp h) with e | e
    · subst e; rw [hc]; simp
    · have := SN_mono (c := c) (tr := tr) m a e hc
      split <;> omega
theorem sumA_SN {du fi tr : Nat → Int32} {t : Nat → Nat} {x f : Int32} : ∀ m, (∀ a, a < m → tr a = nI (t a)) → sumA du fi tr x f m = nI (SN (fun a => decide (du a = x ∧ fi a = f)) t m)
  | 0, _ => rfl
  | m + 1, h => by
    have ih := sumA_SN (du := du) (fi := fi) (x := x) (f := f) m (fun a ha => h a (by omega))
    simp only [sumA, SN]
    by_cases hc : du m = x ∧ fi m = f
    · rw [if_pos hc, if_pos (by simpa using hc), ih, h m (by omega), nI_add]
    · rw [if_neg hc, if_neg (by simpa using hc), ih]
theorem sub_nI {a b : Nat} (h : b ≤ a) : nI a - nI b = nI (a - b) := by
  have h2 := nI_add (a - b) b
  rw [show a - b + b = a by omega] at h2
  rw [← h2]; grind
theorem min_nI {a b : Nat} (ha : a < 2 ^ 31) (hb : b < 2 ^ 31) : minI (nI a) (nI b) = nI (min a b) := by
  simp only [minI, nI_ltI hb ha]
  split
  · rw [Nat.min_eq_right (by omega)]
  · rw [Nat.min_eq_left (by omega)]
theorem los_N {du fi tr : Nat → Int32} {t : Nat → Nat} {x f : Int32} {L : Nat} (hL : L < 1000) (ht : ∀ a, t a ≤ 9) : ∀ m, (∀ a, a < m → tr a = nI (t a)) →
    (los du fi x f tr (nI L) m).2 = nI (L - SN (fun a => decide (du a = x ∧ fi a = f)) t m) ∧ (los du fi x f tr (nI L) m).1 = fun a => if a < m ∧ du a = x ∧ fi a = f then nI (t a - (L - SN (fun a => decide (du a = x ∧ fi a = f)) t a)) else tr a
  | 0, _ => ⟨by simp only [los, SN, Nat.sub_zero], by funext a; simp only [los]; rw [if_neg (by omega)]⟩
  | m + 1, h => by
    obtain ⟨h1, h2⟩ := los_N (du := du) (fi := fi) (x := x) (f := f) hL ht m (fun a ha => h a (by omega))
    have hk := los_hi (du := du) (fi := fi) (tr := tr) (x := x) (f := f) (l := nI L) m m (Nat.le_refl _)
    have htm := ht m
    by_cases hc : du m = x ∧ fi m = f
    · have e1 : (los du fi x f tr (nI L) (m + 1)).2 = nI (L - SN (fun a => decide (du a = x ∧ fi a = f)) t (m + 1)) := by
        simp only [los]; rw [if_pos hc]
        simp only [SN]; rw [if_pos (by simpa using hc), hk, h1, h m (by omega), min_nI (by omega) (by omega), sub_nI (by omega)]
        congr 1; omega
      refine ⟨e1, ?_⟩
      simp only [los]; rw [if_pos hc]
      simp only [hk, h1, h m (by omega)]
      rw [min_nI (by omega) (by omega), sub_nI (by omega), h2]
      funext a
      simp only [upd]
      by_cases ha : a = m
      · subst ha
        rw [if_pos rfl, if_pos ⟨by omega, hc⟩]
        congr 1; omega
      · rw [if_neg ha]
        by_cases hb : a < m ∧ du a = x ∧ fi a = f
        · rw [if_pos hb, if_pos ⟨by omega, hb.2⟩]
        · rw [if_neg hb, if_neg (fun q => hb ⟨by omega, q.2⟩)]
    · refine ⟨?_, ?_⟩
      · simp only [los]; rw [if_neg hc]
        simp only [SN]; rw [if_neg (by simpa using hc)]; exact h1
      · simp only [los]; rw [if_neg hc, h2]
        funext a
        by_cases hb : a < m ∧ du a = x ∧ fi a = f
        · rw [if_pos hb, if_pos ⟨by omega, hb.2⟩]
        · rw [if_neg hb, if_neg (fun q => hb ⟨by
            rcases Nat.eq_or_lt_of_le (Nat.lt_succ_iff.mp q.1) with e | e
            · subst e; exact absurd q.2 hc
            · exact e, q.2⟩)]
theorem lwR_los {du row : Nat → Int32} {w m : Nat} {x f l : Int32} (hm : m ≤ 6) : ∀ a, a ≤ m →
    (lwR du w x f row l a).2 = (los du (fun a => row (13 * w + 1 + a)) x f (fun a => row (13 * w + 7 + a)) l a).2 ∧ (lwR du w x f row l a).1 = fun j => if 13 * w + 7 ≤ j ∧ j < 13 * w + 13 then (los du (fun a => row (13 * w + 1 + a)) x f (fun a => row (13 * w + 7 + a)) l a).1 (j - (13 * w + 7)) else row j
  | 0, _ => ⟨rfl, by
      funext j; simp only [lwR, los]
      split
      · congr 1; omega
      · rfl⟩
  | a + 1, h => by
    obtain ⟨h1, h2⟩ := lwR_los (du := du) (row := row) (w := w) (x := x) (f := f) (l := l) hm a (by omega)
    have g1 : (lwR du w x f row l a).1 (13 * w + 1 + a) = row (13 * w + 1 + a) := by rw [h2]; simp only; rw [if_neg (by omega)]
    have g7 : (lwR du w x f row l a).1 (13 * w + 7 + a) = (los du (fun a => row (13 * w + 1 + a)) x f (fun a => row (13 * w + 7 + a)) l a).1 a := by
      rw [h2]; simp only; rw [if_pos (by omega), Nat.add_sub_cancel_left]
    simp only [lwR, los]
    rw [g1, g7, h1]
    by_cases hc : du a = x ∧ row (13 * w + 1 + a) = f
    · rw [if_pos hc, if_pos hc]
      refine ⟨rfl, ?_⟩
      funext j
      simp only [upd]
      by_cases hj : j = 13 * w + 7 + a
      · subst hj
        rw [if_pos rfl, if_pos (by omega), if_pos (by omega)]
      · rw [if_neg hj, h2]
        simp only
        by_cases hr : 13 * w + 7 ≤ j ∧ j < 13 * w + 13
        · rw [if_pos hr, if_pos hr, if_neg (by omega)]
        · rw [if_neg hr, if_neg hr]
    · rw [if_neg hc, if_neg hc]
      exact ⟨h1, h2⟩
def trOK (tr : Nat → Int32) (m : Nat) : Prop := ∀ a, a < m → ∃ t, tr a = nI t ∧ t ≤ 9
theorem trOK_fn {tr : Nat → Int32} {m : Nat} (h : trOK tr m) : ∃ t : Nat → Nat, (∀ a, t a ≤ 9) ∧ (∀ a, a < m → tr a = nI (t a)) := by
  refine ⟨fun a => if a < m then (tr a).toNatClampNeg else 0, fun a => ?_, fun a ha => ?_⟩
  · simp only
    split
    · rename_i ha
      obtain ⟨q, h1, h2⟩ := h a ha
      rw [h1, nI_clamp (by omega)]; exact h2
    · omega
  · obtain ⟨q, h1, h2⟩ := h a ha
    simp only; rw [if_pos ha, h1, nI_clamp (by omega)]
theorem los_OK {du fi tr : Nat → Int32} {x f : Int32} {L m : Nat} (hL : L < 1000) (h : trOK tr m) : trOK (los du fi x f tr (nI L) m).1 m := by
  obtain ⟨t, h1, h2⟩ := trOK_fn h
  rw [(los_N hL h1 m h2).2]
  intro a ha
  simp only
  split
  · exact ⟨_, rfl, by have := h1 a; omega⟩
  · exact h a ha
theorem los_cg {du fi tr : Nat → Int32} {x f : Int32} {m L L' : Nat} {t : Nat → Nat} (ht : ∀ a, t a ≤ 9) (h : ∀ a, a < m → tr a = nI (t a)) (hL : L < 1000) (hL' : L' < 1000) (h1 : SN (fun a => decide (du a = x ∧ fi a = f)) t m ≤ L) (h2 : SN (fun a => decide (du a = x ∧ fi a = f)) t m ≤ L') : (los du fi x f tr (nI L) m).1 = (los du fi x f tr (nI L') m).1 := by
  rw [(los_N hL ht m h).2, (los_N hL' ht m h).2]
  funext a
  by_cases hb : a < m ∧ du a = x ∧ fi a = f
  · rw [if_pos hb, if_pos hb]
    have := SN_mono (c := fun a => decide (du a = x ∧ fi a = f)) (tr := t) m a hb.1 (by simpa using hb.2)
    congr 1; omega
  · rw [if_neg hb, if_neg hb]
theorem SN_cg {c : Nat → Bool} {t t' : Nat → Nat} : ∀ m, (∀ a, a < m → c a = true → t a = t' a) → SN c t m = SN c t' m
  | 0, _ => rfl
  | m + 1, h => by
    simp only [SN]; rw [SN_cg m (fun a ha => h a (by omega))]
    split
    · rename_i hc; rw [h m (by omega) hc]
    · rfl
def fgN (du fi tr : Nat → Int32) (m : Nat) (f : Int32) : (Nat → Int32) × Bool :=
  if sumA du fi tr 0 f m ≤ 0 then (tr, false) else if sumA du fi tr 1 f m ≤ 0 then (tr, false) else
  ((los du fi 1 f (los du fi 0 f tr (sumA du fi tr 1 f m) m).1 (sumA du fi tr 0 f m) m).1, true)
theorem sumA_los {du fi tr : Nat → Int32} {f l : Int32} {m : Nat} {t : Nat → Nat} {L : Nat} (hl : l = nI L) (hL : L < 1000) (ht : ∀ a, t a ≤ 9) (h : ∀ a, a < m → tr a = nI (t a)) : sumA du fi (los du fi 0 f tr l m).1 1 f m = sumA du fi tr 1 f m := by
  have e := (los_N (du := du) (fi := fi) (x := 0) (f := f) hL ht m h).2
  rw [hl, e]
  have key : ∀ k, k ≤ m → sumA du fi (fun a => if a < m ∧ du a = 0 ∧ fi a = f then nI (t a - (L - SN (fun a => decide (du a = 0 ∧ fi a = f)) t a)) else tr a) 1 f k = sumA du fi tr 1 f k := by
    intro k
    induction k with
    | zero => intro _; rfl
    | succ k ih =>
      intro hk
      simp only [sumA]
      rw [ih (by omega)]
      split
      · rename_i hc
        rw [if_neg (fun q => by rw [hc.1] at q; exact absurd q.2.1 (by decide))]
      · rfl
  exact key m (Nat.le_refl _)
theorem fg_eq {du fi tr : Nat → Int32} {m : Nat} {f : Int32} (hm : m ≤ 6) (h : trOK tr m) : fgN du fi tr m f = fgt du fi tr m f := by
  obtain ⟨t, h1, h2⟩ := trOK_fn h
  have b0 := SN_le (c := fun a => decide (du a = 0 ∧ fi a = f)) (tr := t) (B := 9) m (fun a _ => h1 a)
  have b1 := SN_le (c := fun a => decide (du a = 1 ∧ fi a = f)) (tr := t) (B := 9) m (fun a _ => h1 a)
  have e0 := sumA_SN (du := du) (fi := fi) (tr := tr) (x := 0) (f := f) m h2
  have e1 := sumA_SN (du := du) (fi := fi) (tr := tr) (x := 1) (f := f) m h2
  unfold fgN fgt
  rw [e0, e1]
  generalize hA : SN (fun a => decide (du a = 0 ∧ fi a = f)) t m = A at *
  generalize hB : SN (fun a => decide (du a = 1 ∧ fi a = f)) t m = B at *
  rw [min_nI (by omega) (by omega)]
  rcases Nat.eq_zero_or_pos A with q | q
  · subst q; rw [if_pos (by decide), Nat.zero_min, if_pos (by decide)]
  · rw [if_neg (nI_nle q (by omega))]
    rcases Nat.eq_zero_or_pos B with r | r
    · subst r; rw [if_pos (by decide), Nat.min_zero, if_pos (by decide)]
    · rw [if_neg (nI_nle r (by omega)), if_neg (nI_ne0 (by omega) (by omega))]
      congr 1
      have c0 : (los du fi 0 f tr (nI B) m).1 = (los du fi 0 f tr (nI (min A B)) m).1 := by
        rcases Nat.le_total B A with z | z
        · rw [Nat.min_eq_right z]
        · rw [Nat.min_eq_left z]
          exact los_cg h1 h2 (by omega) (by omega) (by omega) (by omega)
      rw [c0]
      have hO := los_OK (du := du) (fi := fi) (x := 0) (f := f) (L := min A B) (by omega) h
      obtain ⟨t', g1, g2⟩ := trOK_fn hO
      have s1 := sumA_los (du := du) (fi := fi) (tr := tr) (f := f) (l := nI (min A B)) (m := m) (t := t) (L := min A B) rfl (by omega) h1 h2
      rw [sumA_SN m g2, e1] at s1
      have b1' := SN_le (c := fun a => decide (du a = 1 ∧ fi a = f)) (tr := t') (B := 9) m (fun a _ => g1 a)
      have s2 := (nI_eq (by omega) (by omega)).mp s1
      rcases Nat.le_total A B with z | z
      · rw [Nat.min_eq_left z]
      · rw [Nat.min_eq_right z]
        rw [Nat.min_eq_right z] at g2
        exact los_cg g1 g2 (by omega) (by omega) (by omega) (by omega)
theorem fgN_OK {du fi tr : Nat → Int32} {m : Nat} {f : Int32} (hm : m ≤ 6) (h : trOK tr m) : trOK (fgN du fi tr m f).1 m := by
  obtain ⟨t, h1, h2⟩ := trOK_fn h
  have b0 := SN_le (c := fun a => decide (du a = 0 ∧ fi a = f)) (tr := t) (B := 9) m (fun a _ => h1 a)
  have b1 := SN_le (c := fun a => decide (du a = 1 ∧ fi a = f)) (tr := t) (B := 9) m (fun a _ => h1 a)
  unfold fgN
  split
  · exact h
  · split
    · exact h
    · rw [sumA_SN (x := 0) m h2, sumA_SN (x := 1) m h2]
      exact los_OK (by omega) (los_OK (by omega) h)
theorem fgN_mo {du fi tr : Nat → Int32} {m : Nat} {f x : Int32} (hm : m ≤ 6) (h : trOK tr m) (hx : x = 0 ∨ x = 1) : moF du (fgN du fi tr m f).1 x m = moF du tr x m := by
  obtain ⟨t, h1, h2⟩ := trOK_fn h
  have b0 := SN_le (c := fun a => decide (du a = 0 ∧ fi a = f)) (tr := t) (B := 9) m (fun a _ => h1 a)
  have b1 := SN_le (c := fun a => decide (du a = 1 ∧ fi a = f)) (tr := t) (B := 9) m (fun a _ => h1 a)
  have e0 := sumA_SN (du := du) (fi := fi) (tr := tr) (x := 0) (f := f) m h2
  have e1 := sumA_SN (du := du) (fi := fi) (tr := tr) (x := 1) (f := f) m h2
  unfold fgN
  split
  · rfl
  · split
    · rfl
    · rw [e0, e1]
      generalize hA : SN (fun a => decide (du a = 0 ∧ fi a = f)) t m = A at *
      generalize hB : SN (fun a => decide (du a = 1 ∧ fi a = f)) t m = B at *
      have l0 := (los_N (du := du) (fi := fi) (x := 0) (f := f) (L := B) (by omega) h1 m h2).1
      rw [hA] at l0
      have hO := los_OK (du := du) (fi := fi) (x := 0) (f := f) (L := B) (by omega) h
      obtain ⟨t', g1, g2⟩ := trOK_fn hO
      have s1 := sumA_los (du := du) (fi := fi) (tr := tr) (f := f) (l := nI B) (m := m) (t := t) (L := B) rfl (by omega) h1 h2
      rw [sumA_SN m g2, e1] at s1
      have b1' := SN_le (c := fun a => decide (du a = 1 ∧ fi a = f)) (tr := t') (B := 9) m (fun a _ => g1 a)
      have s2 := (nI_eq (by omega) (by omega)).mp s1
      have l1 := (los_N (du := du) (fi := fi) (x := 1) (f := f) (L := A) (by omega) g1 m g2).1
      rw [s2] at l1
      simp only
      rw [mo_los, mo_los, l0, l1]
      have k0 : nI B - nI (B - A) = nI (min A B) := by rw [sub_nI (by omega)]; congr 1; omega
      have k1 : nI A - nI (A - B) = nI (min A B) := by rw [sub_nI (by omega)]; congr 1; omega
      rw [k0, k1]
      rcases hx with rfl | rfl
      · rw [if_neg (by decide), if_pos rfl]; grind
      · rw [if_pos rfl, if_neg (by decide)]; grind
