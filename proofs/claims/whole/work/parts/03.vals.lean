def cv (B : Nat × Nat) : Value → Value
  | .ref k => .ref (B.1 + k)
  | .float _ => .ref B.2
  | v => v
def lsl (B : Nat × Nat) : Nat → List Value → List (Nat × Value)
  | _, [] => []
  | i, v :: L => if v = .null then lsl B (i + 1) L else (i, cv B v) :: lsl B (i + 1) L
def lg : List Value → Nat → Value
  | [], _ => .null
  | v :: _, 0 => v
  | _ :: L, i + 1 => lg L i
def lset : List Value → Nat → Value → List Value
  | [], _, _ => []
  | _ :: L, 0, w => w :: L
  | v :: L, i + 1, w => v :: lset L i w
theorem lset_len : ∀ (L : List Value) (i : Nat) (w : Value), (lset L i w).length = L.length
  | [], _, _ => rfl
  | _ :: _, 0, _ => rfl
  | _ :: L, i + 1, w => congrArg (· + 1) (lset_len L i w)
theorem lset_at : ∀ (L : List Value) (i : Nat) (w : Value) (j : Nat), (lset L i w)[j]? = if j = i then (if i < L.length then some w else none) else L[j]?
  | [], i, w, j => by simp [lset]
  | v :: L, 0, w, j => by cases j <;> simp [lset]
  | v :: L, i + 1, w, j => by
    cases j with
    | zero => simp [lset]
    | succ j => simp [lset, lset_at L i w j]
theorem lg_at : ∀ (L : List Value) (i : Nat) (v : Value), lg L i = v → v ≠ .null → L[i]? = some v
  | [], i, v, h, hn => absurd h.symm hn
  | _ :: _, 0, v, h, _ => by simp [lg] at h; simp [h]
  | _ :: L, i + 1, v, h, hn => by simpa using lg_at L i v h hn
theorem lsl_mem (B : Nat × Nat) : ∀ (L : List Value) (n : Nat) (q : Nat × Value), q ∈ lsl B n L ↔ ∃ (i : Nat) (v : Value), L[i]? = some v ∧ v ≠ .null ∧ q = (n + i, cv B v)
  | [], n, q => by simp [lsl]
  | w :: L, n, q => by
    have ih := lsl_mem B L (n + 1) q
    have key : q ∈ lsl B n (w :: L) ↔ (w ≠ .null ∧ q = (n, cv B w)) ∨ q ∈ lsl B (n + 1) L := by
      by_cases h : w = .null
      · simp [lsl, h]
      · simp [lsl, h]
    rw [key, ih]
    constructor
    · rintro (⟨h1, h2⟩ | ⟨i, v, h1, h2, h3⟩)
      · exact ⟨0, w, rfl, h1, h2⟩
      · exact ⟨i + 1, v, by simpa using h1, h2, by rw [h3]; congr 1; omega⟩
    · rintro ⟨i, v, h1, h2, h3⟩
      cases i with
      | zero => simp at h1; subst h1; exact Or.inl ⟨h2, h3⟩
      | succ i => exact Or.inr ⟨i, v, by simpa using h1, h2, by rw [h3]; congr 1; omega⟩
def lok (B : Nat × Nat) (ls : Array Slot) (nL : Nat) (L : List Value) : Prop := lv_has ls nL (lsl B 0 L) ∧ (∀ v ∈ L, v.category = 1) ∧ L.length = nL
theorem cv_cat (B : Nat × Nat) (v : Value) : (cv B v).category = v.category := by cases v <;> rfl
theorem lok.get {B : Nat × Nat} {ls : Array Slot} {nL : Nat} {L : List Value} (h : lok B ls nL L) {i : Nat} {v : Value} (hv : lg L i = v) (hn : v ≠ .null) : ls[i]? = some (.val (cv B v)) :=
  h.1.2.2 (i, cv B v) ((lsl_mem B L 0 _).mpr ⟨i, v, lg_at L i v hv hn, hn, by rw [Nat.zero_add]⟩)
theorem lok.conv {B : Nat × Nat} {ls ls' : Array Slot} {nL : Nat} {L : List Value} (h : lok B ls nL L) {i : Nat} {v : Value} (hc : v.category = 1)
    (h' : lv_has ls' nL ((i, cv B v) :: (lsl B 0 L).filter (fun q => !(q.1 == i) && !(q.1 + 1 == i && q.2.category == 2)))) : lok B ls' nL (lset L i v) := by
  refine ⟨⟨h'.1, h'.2.1, fun q hq => ?_⟩, fun w hw => ?_, by rw [lset_len]; exact h.2.2⟩
  · obtain ⟨j, w, h1, h2, rfl⟩ := (lsl_mem B _ 0 q).mp hq
    rw [lset_at] at h1
    rw [Nat.zero_add]
    by_cases hj : j = i
    · subst hj
      rw [if_pos rfl] at h1
      split at h1
      · cases h1
        exact h'.2.2 (j, cv B v) List.mem_cons_self
      · cases h1
    · rw [if_neg hj] at h1
      refine h'.2.2 (j, cv B w) (List.mem_cons_of_mem _ (List.mem_filter.mpr ⟨(lsl_mem B L 0 _).mpr ⟨j, w, h1, h2, by rw [Nat.zero_add]⟩, ?_⟩))
      have hw := h.2.1 w (List.mem_of_getElem? h1)
      simp [hj, cv_cat, hw]
  · obtain ⟨j, hj⟩ := List.getElem?_of_mem hw
    rw [lset_at] at hj
    split at hj
    · split at hj
      · cases hj; exact hc
      · cases hj
    · exact h.2.1 w (List.mem_of_getElem? hj)
def p1 (st : List Value) (f : Int32 → List Value → Prop) : Prop := match st with
  | .int x :: st' => f x st'
  | _ => False
def p2 (st : List Value) (f : Int32 → Int32 → List Value → Prop) : Prop := match st with
  | .int y :: .int x :: st' => f x y st'
  | _ => False
def pa (st : List Value) (f : Nat → List Value → Prop) : Prop := match st with
  | .ref a :: st' => f a st'
  | _ => False
def pai (st : List Value) (f : Nat → Int32 → List Value → Prop) : Prop := match st with
  | .int i :: .ref a :: st' => f a i st'
  | _ => False
def paii (st : List Value) (f : Nat → Int32 → Int32 → List Value → Prop) : Prop := match st with
  | .int x :: .int i :: .ref a :: st' => f a i x st'
  | _ => False
def pal (st : List Value) (f : Nat → Int64 → List Value → Prop) : Prop := match st with
  | .long x :: .ref a :: st' => f a x st'
  | _ => False
def p2l (st : List Value) (f : Int64 → Int64 → List Value → Prop) : Prop := match st with
  | .long y :: .long x :: st' => f x y st'
  | _ => False
def li (v : Value) (f : Int32 → Prop) : Prop := match v with
  | .int x => f x
  | _ => False
def la (v : Value) (f : Nat → Prop) : Prop := match v with
  | .ref x => f x
  | _ => False
theorem p1_inv {st : List Value} {f : Int32 → List Value → Prop} (h : p1 st f) : ∃ x st', st = .int x :: st' ∧ f x st' := by
  unfold p1 at h; split at h
  · exact ⟨_, _, rfl, h⟩
  · exact h.elim
theorem p2_inv {st : List Value} {f : Int32 → Int32 → List Value → Prop} (h : p2 st f) : ∃ x y st', st = .int y :: .int x :: st' ∧ f x y st' := by
  unfold p2 at h; split at h
  · exact ⟨_, _, _, rfl, h⟩
  · exact h.elim
theorem pa_inv {st : List Value} {f : Nat → List Value → Prop} (h : pa st f) : ∃ x st', st = .ref x :: st' ∧ f x st' := by
  unfold pa at h; split at h
  · exact ⟨_, _, rfl, h⟩
  · exact h.elim
theorem pai_inv {st : List Value} {f : Nat → Int32 → List Value → Prop} (h : pai st f) : ∃ a i st', st = .int i :: .ref a :: st' ∧ f a i st' := by
  unfold pai at h; split at h
  · exact ⟨_, _, _, rfl, h⟩
  · exact h.elim
theorem paii_inv {st : List Value} {f : Nat → Int32 → Int32 → List Value → Prop} (h : paii st f) : ∃ a i x st', st = .int x :: .int i :: .ref a :: st' ∧ f a i x st' := by
  unfold paii at h; split at h
  · exact ⟨_, _, _, _, rfl, h⟩
  · exact h.elim
theorem pal_inv {st : List Value} {f : Nat → Int64 → List Value → Prop} (h : pal st f) : ∃ a x st', st = .long x :: .ref a :: st' ∧ f a x st' := by
  unfold pal at h; split at h
  · exact ⟨_, _, _, rfl, h⟩
  · exact h.elim
theorem p2l_inv {st : List Value} {f : Int64 → Int64 → List Value → Prop} (h : p2l st f) : ∃ x y st', st = .long y :: .long x :: st' ∧ f x y st' := by
  unfold p2l at h; split at h
  · exact ⟨_, _, _, rfl, h⟩
  · exact h.elim
theorem li_inv {v : Value} {f : Int32 → Prop} (h : li v f) : ∃ x, v = .int x ∧ f x := by
  unfold li at h; split at h
  · exact ⟨_, rfl, h⟩
  · exact h.elim
theorem la_inv {v : Value} {f : Nat → Prop} (h : la v f) : ∃ x, v = .ref x ∧ f x := by
  unfold la at h; split at h
  · exact ⟨_, rfl, h⟩
  · exact h.elim
