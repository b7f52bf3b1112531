theorem Ret.introQ {M : MD} {σ σ' : St} {as : List Value} {v : Option Value} {L : List Value} (n : Nat) (hM : enB M n = true) (hn : as.length = n) (hc : catB as = true) (hL : as ++ List.replicate (M.2.2.2.1 - n) .null = L) (h : ∀ Q : Option Value → St → Prop, Q v σ' → PW M Q 0 L [] σ) : Ret M σ as v σ' := Ret.intro n hM hn hc hL (h _ ⟨rfl, rfl⟩)
theorem lf {Q : Option Value → St → Prop} {v v1 : Option Value} {σ σ1 : St} (h : Q v σ) (hv : v1 = v) (hs : σ1 = σ) : Q v1 σ1 := by subst hv; subst hs; exact h
theorem loop_down {P : Nat → Prop} {m : Nat} (h : ∀ i, i ≤ m → (i < m → P (i + 1)) → P i) : ∀ i, i ≤ m → P i := by
  have key : ∀ d i, i + d = m → P i := by
    intro d
    induction d with
    | zero => intro i hi; exact h i (by omega) (fun q => by omega)
    | succ d ih => intro i hi; exact h i (by omega) (fun _ => ih (i + 1) (by omega))
  exact fun i hi => key (m - i) i (by omega)
theorem P_fg {M : MD} {Q : Option Value → St → Prop} {pc : Nat} {L st : List Value} {σ : St} (i : Nat) (k : PW M Q pc (lset L i .null) st σ) : PW M Q pc L st σ := by
  intro p l e s m args below meth c D B hC hr hlk H locs ls hP hS hl
  refine k p l e s m args below meth c D B hC hr hlk H locs ls hP hS ⟨⟨hl.1.1, hl.1.2.1, fun q hq => ?_⟩, fun w hw => ?_, by rw [lset_len]; exact hl.2.2⟩
  · obtain ⟨j, w, h1, h2, rfl⟩ := (lsl_mem B _ 0 q).mp hq
    rw [lset_at] at h1
    by_cases hj : j = i
    · rw [if_pos hj] at h1
      split at h1
      · cases h1; exact absurd rfl h2
      · cases h1
    · rw [if_neg hj] at h1
      exact hl.1.2.2 _ ((lsl_mem B L 0 _).mpr ⟨j, w, h1, h2, rfl⟩)
  · obtain ⟨j, hj⟩ := List.getElem?_of_mem hw
    rw [lset_at] at hj
    split at hj
    · split at hj
      · cases hj; rfl
      · cases hj
    · exact hl.2.1 w (List.mem_of_getElem? hj)
theorem pi_o {σ : St} {a b j : Nat} {v : Int32} (h : b ≠ a) : (pi σ a j v).1 b = σ.1 b := by simp [pi, h]
theorem pi_ss {σ : St} {a j : Nat} {v : Int32} : (pi σ a j v).1 a j = v := by simp [pi, upd]
theorem pi_so {σ : St} {a i j : Nat} {v : Int32} (h : i ≠ j) : (pi σ a j v).1 a i = σ.1 a i := by simp [pi, upd, h]
theorem pi_2 {σ : St} {a j : Nat} {v : Int32} : (pi σ a j v).2 = σ.2 := rfl
theorem pr_o {σ : St} {a b : Nat} {f : Nat → Int32} (h : b ≠ a) : (pr σ a f).1 b = σ.1 b := by simp [pr, h]
theorem pr_s {σ : St} {a : Nat} {f : Nat → Int32} : (pr σ a f).1 a = f := by simp [pr]
theorem pr_2 {σ : St} {a : Nat} {f : Nat → Int32} : (pr σ a f).2 = σ.2 := rfl
theorem pl_1 {σ : St} {a : Nat} {v : Int64} : (pl σ a v).1 = σ.1 := rfl
theorem pl_s {σ : St} {a : Nat} {v : Int64} : (pl σ a v).2 a = v := by simp [pl]
theorem pl_o {σ : St} {a b : Nat} {v : Int64} (h : b ≠ a) : (pl σ a v).2 b = σ.2 b := by simp [pl, h]
theorem pi_pr {σ : St} {a j : Nat} {f : Nat → Int32} {v : Int32} : pi (pr σ a f) a j v = pr σ a (upd f j v) := by
  refine Prod.ext ?_ rfl
  funext b
  by_cases h : b = a
  · simp [pi, pr, h]
  · simp [pi, pr, h]
theorem pr_pr {σ : St} {a : Nat} {f g : Nat → Int32} : pr (pr σ a f) a g = pr σ a g := by
  refine Prod.ext ?_ rfl
  funext b
  by_cases h : b = a
  · simp [pr, h]
  · simp [pr, h]
theorem pr_id {σ : St} {a : Nat} : pr σ a (σ.1 a) = σ := by
  refine Prod.ext ?_ rfl
  funext b
  by_cases h : b = a
  · simp [pr, h]
  · simp [pr, h]
theorem pi_as {σ : St} {a j : Nat} {v : Int32} : pi σ a j v = pr σ a (upd (σ.1 a) j v) := rfl
theorem pr_comm {σ : St} {a b : Nat} {f g : Nat → Int32} (h : a ≠ b) : pr (pr σ a f) b g = pr (pr σ b g) a f := by
  refine Prod.ext ?_ rfl
  funext c
  by_cases h1 : c = a
  · subst h1; simp [pr, h]
  · by_cases h2 : c = b
    · subst h2; simp [pr, h1]
    · simp [pr, h1, h2]
def cpR (σ : St) (k q w : Nat) : St := (fun a => if k ≤ a ∧ a < k + w then σ.1 (q + (a - k)) else σ.1 a, σ.2)
def bI (b : Bool) : Int32 := if b then 1 else 0
theorem bI_0 {b : Bool} : bI b = 0 ↔ b = false := by cases b <;> decide
theorem bI_n0 {b : Bool} : ¬ bI b = 0 ↔ b = true := by cases b <;> decide
theorem bI_t : bI true = 1 := rfl
theorem bI_f : bI false = 0 := rfl
theorem bI_01 (b : Bool) : bI b = 0 ∨ bI b = 1 := by cases b <;> decide
theorem vin {x : Int32} {n : Nat} (h0 : ¬ x < 0) (hx : x.toInt < n) : vp_in x n := vp_in_iff.mpr ⟨by rw [Int32.lt_iff_toInt_lt] at h0; simpa using h0, hx⟩
theorem vin2 {x y : Int32} {n : Nat} (h0 : ¬ x < 0) (hx : ¬ y ≤ x) (hy : y.toInt = n) : vp_in x n := vin h0 (by rw [Int32.le_iff_toInt_le] at hx; omega)
theorem nI_end {i m : Nat} (hi : i ≤ m) (hm : m < 2 ^ 31) (h : nI m ≤ nI i) : i = m := by
  have := (nI_leI hm (by omega)).mp h; omega
theorem nI_go {i m : Nat} (hm : m < 2 ^ 31) (hi : i ≤ m) (h : ¬ nI m ≤ nI i) : i < m := by
  rcases Nat.lt_or_ge i m with q | q
  · exact q
  · exact absurd ((nI_leI hm (by omega)).mpr q) h
theorem al_ob2 {k n : Nat} (h : al k = n) (hn : 0 < n) : ob k = (1, n) := by
  unfold al at h
  split at h
  · rename_i h1; rw [← h1, ← h]
  · omega
def hasL (σ : St) (k : Nat) (f : Int32) : Bool := !decide (f < 0) && (!decide (σ.1 k 0 ≤ f) && !decide (8 ≤ f))
def waysF (σ : St) (k : Nat) (f : Int32) : Int32 := if hasL σ k f then σ.1 (k + 1) f.toNatClampNeg else 0
theorem hasL_in {σ : St} {k : Nat} {f : Int32} (h : hasL σ k f = true) : vp_in f 8 := by
  simp only [hasL, Bool.and_eq_true, Bool.not_eq_true', decide_eq_false_iff_not] at h
  exact vin2 h.1 h.2.2 (by decide)
def bitAt (x k : Int32) : Bool := decide ((x >>> (k &&& 31)) &&& 1 = 1)
def isLand (k : Nat) : Prop := ob k = (0, 3) ∧ al (k + 1) = 8
def isAr (k : Nat) : Prop := ob k = (0, 1) ∧ al (k + 1) = 6 ∧ al (k + 2) = 6 ∧ al (k + 3) = 6
def isPg (k : Nat) : Prop := ob k = (0, 5) ∧ al (k + 1) = 6 ∧ al (k + 2) = 6 ∧ al (k + 3) = 6 ∧ al (k + 4) = 6
def isAn (k : Nat) : Prop := ob k = (0, 0) ∧ al (k + 1) = 20 ∧ al (k + 2) = 10
def isNow (n : Nat) : Prop := ob n = (0, 4) ∧ al (n + 1) = 2 ∧ isAr (n + 2) ∧ isPg (n + 6) ∧ isAn (n + 11)
theorem now3 : isNow 3 := by unfold isNow isAr isPg isAn; decide +kernel
theorem now20 : isNow 20 := by unfold isNow isAr isPg isAn; decide +kernel
theorem nowP : ∀ i, i < 10 → isNow (37 + 14 * i) := by unfold isNow isAr isPg isAn; decide +kernel
theorem nowI : ∀ i, i < 2 → isNow (180 + 14 * i) := by unfold isNow isAr isPg isAn; decide +kernel
theorem land1 : isLand 1 := by unfold isLand; decide +kernel
theorem land18 : isLand 18 := by unfold isLand; decide +kernel
def adf (w : Nat → Int32) (r : Int32) : Nat → Int32
  | 0 => r
  | f + 1 => if bitAt r (nI f) then adf w r f ||| w f else adf w r f
def dbt (w : Nat → Int32) (nf : Nat) (t : Int32) : Nat → Nat → Int32 → Int32
  | 0, _, _ => -9
  | q + 1, d, r => if bitAt r t then nI d else dbt w nf t q (d + 1) (adf w r nf)
def hasA (σ : St) (k : Nat) (a : Int32) : Bool := !decide (a < 0) && (!decide (σ.1 k 0 ≤ a) && !decide (6 ≤ a))
theorem hasA_in {σ : St} {k : Nat} {f : Int32} (h : hasA σ k f = true) : vp_in f 6 := by
  simp only [hasA, Bool.and_eq_true, Bool.not_eq_true', decide_eq_false_iff_not] at h
  exact vin2 h.1 h.2.2 (by decide)
def sumT (du tr : Nat → Int32) (x : Int32) : Nat → Int32
  | 0 => 0
  | a + 1 => if du a = x then sumT du tr x a + tr a else sumT du tr x a
def sumA (du fi tr : Nat → Int32) (x f : Int32) : Nat → Int32
  | 0 => 0
  | a + 1 => if du a = x ∧ fi a = f then sumA du fi tr x f a + tr a else sumA du fi tr x f a
def los (du fi : Nat → Int32) (x f : Int32) (tr : Nat → Int32) (l : Int32) : Nat → (Nat → Int32) × Int32
  | 0 => (tr, l)
  | a + 1 => if du a = x ∧ fi a = f then (upd (los du fi x f tr l a).1 a ((los du fi x f tr l a).1 a - minI (los du fi x f tr l a).2 ((los du fi x f tr l a).1 a)), (los du fi x f tr l a).2 - minI (los du fi x f tr l a).2 ((los du fi x f tr l a).1 a)) else los du fi x f tr l a
def fgt (du fi tr : Nat → Int32) (m : Nat) (f : Int32) : (Nat → Int32) × Bool :=
  if minI (sumA du fi tr 0 f m) (sumA du fi tr 1 f m) = 0 then (tr, false) else
  ((los du fi 1 f (los du fi 0 f tr (minI (sumA du fi tr 0 f m) (sumA du fi tr 1 f m)) m).1 (minI (sumA du fi tr 0 f m) (sumA du fi tr 1 f m)) m).1, true)
def bcF (x : Int32) : Int32 :=
  let u := fun (a k : Int32) => (a.toUInt32 >>> (k.toUInt32 &&& Int32.toUInt32 31)).toInt32
  let a := x - (u x 1 &&& 1431655765)
  let b := (a &&& 858993459) + (u a 2 &&& 858993459)
  let c := (b + u b 4) &&& 252645135
  let d := c + u c 8
  let e := d + u d 16
  e &&& 63
