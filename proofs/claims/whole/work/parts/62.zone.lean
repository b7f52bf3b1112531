def eD : va_E := .inr (0, [])
def wz (b : Nat) (E : Nat → va_E) (k : Nat) (es : List va_E) : va_W := (List.range (k + es.length)).map (fun j => (b + j, if j < k then E j else es.getD (j - k) eD))
theorem wz_get {b k j : Nat} {E : Nat → va_E} {es : List va_E} (h : j < k + es.length) : (wz b E k es)[j]? = some (b + j, if j < k then E j else es.getD (j - k) eD) := by
  unfold wz; rw [List.getElem?_map, List.getElem?_range h]; rfl
theorem wz_len {b k : Nat} {E : Nat → va_E} {es : List va_E} : (wz b E k es).length = k + es.length := by simp [wz]
theorem wz_at {b k i : Nat} {E : Nat → va_E} {es : List va_E} {x : va_E} (h : es[i]? = some x) : (wz b E k es)[k + i]? = some (b + (k + i), x) := by
  have hi : i < es.length := (List.getElem?_eq_some_iff.mp h).1
  rw [wz_get (by omega), if_neg (by omega), Nat.add_sub_cancel_left, List.getD_eq_getElem?_getD, h]; rfl
theorem wz_adr {b k j : Nat} {E : Nat → va_E} {es : List va_E} {q : Nat × va_E} (h : (wz b E k es)[j]? = some q) : q.1 = b + j ∧ j < k + es.length := by
  have hj : j < k + es.length := by rw [← wz_len (b := b) (E := E)]; exact (List.getElem?_eq_some_iff.mp h).1
  rw [wz_get hj] at h; cases h; exact ⟨rfl, hj⟩
theorem wz_D {b k : Nat} {E : Nat → va_E} {es : List va_E} : va_D (fun q => b ≤ q) (wz b E k es) := by
  refine ⟨fun i j p q h1 h2 h => ?_, fun i q h => ?_⟩
  · have e1 := (wz_adr h1).1
    have e2 := (wz_adr h2).1
    omega
  · have e1 := (wz_adr h).1
    show b ≤ q.1
    omega
theorem wz_ext {b k k' : Nat} {E E' : Nat → va_E} {es es' : List va_E} (hl : k + es.length = k' + es'.length) (h : ∀ j, j < k + es.length → (if j < k then E j else es.getD (j - k) eD) = (if j < k' then E' j else es'.getD (j - k') eD)) : wz b E k es = wz b E' k' es' := by
  unfold wz
  rw [hl]
  refine List.map_congr_left (fun j hj => ?_)
  rw [h j (by rw [hl]; exact List.mem_range.mp hj)]
theorem wz_set {b k i : Nat} {E : Nat → va_E} {es : List va_E} {x y : va_E} (h : es[i]? = some y) : (wz b E k es).set (k + i) (b + (k + i), x) = wz b E k (es.set i x) := by
  have hi : i < es.length := (List.getElem?_eq_some_iff.mp h).1
  apply List.ext_getElem?
  intro j
  by_cases hj : j < k + es.length
  · rw [wz_get (by rw [List.length_set]; exact hj)]
    by_cases e : k + i = j
    · subst e
      rw [List.getElem?_set_self (by rw [wz_len]; exact hj), if_neg (by omega), Nat.add_sub_cancel_left, List.getD_eq_getElem?_getD, List.getElem?_set_self hi]; rfl
    · rw [List.getElem?_set_ne e, wz_get hj]
      by_cases hk : j < k
      · rw [if_pos hk, if_pos hk]
      · rw [if_neg hk, if_neg hk, List.getD_eq_getElem?_getD, List.getD_eq_getElem?_getD, List.getElem?_set_ne (by omega)]
  · rw [List.getElem?_eq_none (by rw [List.length_set, wz_len]; omega), List.getElem?_eq_none (by rw [wz_len, List.length_set]; omega)]
theorem wz_push {b k : Nat} {E : Nat → va_E} {es : List va_E} {x : va_E} : wz b E k es ++ [(b + (k + es.length), x)] = wz b E k (es ++ [x]) := by
  apply List.ext_getElem?
  intro j
  rcases Nat.lt_trichotomy j (k + es.length) with hj | hj | hj
  · rw [List.getElem?_append_left (by rw [wz_len]; exact hj), wz_get hj, wz_get (by rw [List.length_append]; omega)]
    by_cases hk : j < k
    · rw [if_pos hk, if_pos hk]
    · rw [if_neg hk, if_neg hk, List.getD_eq_getElem?_getD, List.getD_eq_getElem?_getD, List.getElem?_append_left (by omega)]
  · subst hj
    rw [List.getElem?_append_right (by rw [wz_len]; exact Nat.le_refl _), wz_len, Nat.sub_self, wz_get (by rw [List.length_append]; simp), if_neg (by omega), Nat.add_sub_cancel_left, List.getD_eq_getElem?_getD, List.getElem?_append_right (Nat.le_refl _), Nat.sub_self]; rfl
  · rw [List.getElem?_eq_none (by rw [List.length_append, wz_len]; simp; omega), List.getElem?_eq_none (by rw [wz_len, List.length_append]; simp; omega)]
def subE (E : Nat → va_E) (k : Nat) (es : List va_E) : Nat → va_E := fun j => if j < k then E j else es.getD (j - k) eD
theorem wz_sub {b k : Nat} {E : Nat → va_E} {pre P : List va_E} {x : va_E} : wz b (subE E k (pre ++ [x])) (k + pre.length) P = wz b E k (pre ++ P) := by
  refine wz_ext (by rw [List.length_append]; omega) (fun j hj => ?_)
  unfold subE
  by_cases h1 : j < k
  · rw [if_pos (by omega), if_pos h1, if_pos h1]
  · rw [if_neg h1, if_neg h1]
    by_cases h2 : j < k + pre.length
    · rw [if_pos h2, List.getD_eq_getElem?_getD, List.getD_eq_getElem?_getD, List.getElem?_append_left (by omega), List.getElem?_append_left (by omega)]
    · rw [if_neg h2, List.getD_eq_getElem?_getD, List.getD_eq_getElem?_getD, List.getElem?_append_right (by omega)]
      congr 2
      omega
def dfl (c : Nat) : List Value := (List.range (clN c)).map (fun j => defaultValue (clY c j))
theorem dfl_ok {c j : Nat} (h : j < clN c) : defaultValue (clY c j) = vp_V (dfl c) j := by
  unfold vp_V dfl
  rw [List.getD_eq_getElem?_getD, List.getElem?_map, List.getElem?_range h]; rfl
def PZ (p : Program) (l : Launch) (e : Env) (R : Room) (s : State) (m : MethodId) (args : Array Value) (below : List Frame) (meth : Method) (c : Code) (D : DD) (B : Nat × Nat) (E : Nat → va_E) (k z0 : Nat) (Z : State → Prop) : Nat → List Value → List Value → List va_E → Prop := fun pc L st es =>
  ∀ (H : Heap) (locs : List Loc) (ls : Array Slot), va_P D.1 CL (wz B.1 E k es) H → va_S (fun q => B.1 ≤ q) s.heap H locs → lok B ls c.maxLocals L → W p l e R s m args below meth c H locs (es.length - z0) (700 * (es.length - z0)) Z (F0 m pc ls (st.map (cv B)))
section ZZ
variable {p : Program} {l : Launch} {e : Env} {R : Room} {s : State} {m : MethodId} {args : Array Value} {below : List Frame} {meth : Method} {c : Code} {D : DD} {B : Nat × Nat} {E : Nat → va_E} {k z0 : Nat} {Z : State → Prop} {cc : ByteArray} {mL own : Nat} {pc : Nat} {L st : List Value} {es : List va_E}
theorem Z_aload (hC : CX p s m args c D cc mL own) {i : Fin 4} {x : Nat} (hd : decode cc pc = .ok (.aload_n i, 1)) (hx : lg L i.val = .ref x) (K : PZ p l e R s m args below meth c D B E k z0 Z (pc + 1) L (.ref x :: st) es) : PZ p l e R s m args below meth c D B E k z0 Z pc L st es :=
  fun H locs ls hP hS hl => lv_aload_n hC.1.1 hC.1.2.1 hd rfl (hl.get hx (fun z => by cases z)) (K H locs ls hP hS hl)
theorem Z_iload (hC : CX p s m args c D cc mL own) {i : Fin 4} {x : Int32} (hd : decode cc pc = .ok (.iload_n i, 1)) (hx : lg L i.val = .int x) (K : PZ p l e R s m args below meth c D B E k z0 Z (pc + 1) L (.int x :: st) es) : PZ p l e R s m args below meth c D B E k z0 Z pc L st es :=
  fun H locs ls hP hS hl => lv_iload_n hC.1.1 hC.1.2.1 hd rfl (hl.get hx (fun z => by cases z)) (K H locs ls hP hS hl)
theorem Z_iconst (hC : CX p s m args c D cc mL own) {n : Int} (v : Int32) (hd : decode cc pc = .ok (.iconst n, 1)) (hv : Int32.ofInt n = v) (K : PZ p l e R s m args below meth c D B E k z0 Z (pc + 1) L (.int v :: st) es) : PZ p l e R s m args below meth c D B E k z0 Z pc L st es :=
  fun H locs ls hP hS hl => lv_iconst hC.1.1 hC.1.2.1 hd hv (K H locs ls hP hS hl)
theorem Z_bipush (hC : CX p s m args c D cc mL own) {n : Int} (v : Int32) (hd : decode cc pc = .ok (.bipush n, 2)) (hv : (Int8.ofInt n).toInt32 = v) (K : PZ p l e R s m args below meth c D B E k z0 Z (pc + 2) L (.int v :: st) es) : PZ p l e R s m args below meth c D B E k z0 Z pc L st es :=
  fun H locs ls hP hS hl => lv_bipush hC.1.1 hC.1.2.1 hd hv (K H locs ls hP hS hl)
theorem Z_sipush (hC : CX p s m args c D cc mL own) {n : Int} (v : Int32) (hd : decode cc pc = .ok (.sipush n, 3)) (hv : (Int16.ofInt n).toInt32 = v) (K : PZ p l e R s m args below meth c D B E k z0 Z (pc + 3) L (.int v :: st) es) : PZ p l e R s m args below meth c D B E k z0 Z pc L st es :=
  fun H locs ls hP hS hl => lv_sipush hC.1.1 hC.1.2.1 hd hv (K H locs ls hP hS hl)
theorem Z_lconst (hC : CX p s m args c D cc mL own) {n : Fin 2} (hd : decode cc pc = .ok (.lconst n, 1)) (K : PZ p l e R s m args below meth c D B E k z0 Z (pc + 1) L (.long (lN n.val) :: st) es) : PZ p l e R s m args below meth c D B E k z0 Z pc L st es :=
  fun H locs ls hP hS hl => lv_lconst hC.1.1 hC.1.2.1 hd rfl (K H locs ls hP hS hl)
theorem Z_dup (hC : CX p s m args c D cc mL own) {a : Nat} (hd : decode cc pc = .ok (.dup, 1)) (K : PZ p l e R s m args below meth c D B E k z0 Z (pc + 1) L (.ref a :: .ref a :: st) es) : PZ p l e R s m args below meth c D B E k z0 Z pc L (.ref a :: st) es :=
  fun H locs ls hP hS hl => lv_dup hC.1.1 hC.1.2.1 hd rfl (K H locs ls hP hS hl)
theorem Z_goto (hC : CX p s m args c D cc mL own) {off : Int} (t : Nat) (hd : decode cc pc = .ok (.goto off, 3)) (ht : (pc : Int) + off = (t : Int)) (K : PZ p l e R s m args below meth c D B E k z0 Z t L st es) : PZ p l e R s m args below meth c D B E k z0 Z pc L st es :=
  fun H locs ls hP hS hl => lv_goto hC.1.1 hC.1.2.1 hd ht (K H locs ls hP hS hl)
theorem Z_ge (hC : CX p s m args c D cc mL own) {off : Int} (t : Nat) {x y : Int32} (hd : decode cc pc = .ok (.if_icmp .ge off, 3)) (ht : (pc : Int) + off = (t : Int)) (K1 : y ≤ x → PZ p l e R s m args below meth c D B E k z0 Z t L st es) (K2 : ¬ y ≤ x → PZ p l e R s m args below meth c D B E k z0 Z (pc + 3) L st es) : PZ p l e R s m args below meth c D B E k z0 Z pc L (.int y :: .int x :: st) es :=
  fun H locs ls hP hS hl => lv_icmp_ge hC.1.1 hC.1.2.1 hd ht (fun z => K1 z H locs ls hP hS hl) (fun z => K2 z H locs ls hP hS hl)
theorem Z_istore (hC : CX p s m args c D cc mL own) {i : Fin 4} {x : Int32} (hd : decode cc pc = .ok (.istore_n i, 1)) (hi : i.val < mL) (K : PZ p l e R s m args below meth c D B E k z0 Z (pc + 1) (lset L i.val (.int x)) st es) : PZ p l e R s m args below meth c D B E k z0 Z pc L (.int x :: st) es :=
  fun H locs ls hP hS hl => lv_istore_n hC.1.1 hC.1.2.1 hd rfl hl.1 (by rw [hC.1.2.2.1]; exact hi) rfl (fun ls' h' => K H locs ls' hP hS (hl.conv (v := .int x) rfl h'))
theorem Z_iinc (hC : CX p s m args c D cc mL own) {i : Nat} {q : Int} {x : Int32} (v : Int32) (hd : decode cc pc = .ok (.iinc i q, 3)) (hi : i < mL) (hv : Int32.ofInt q = v) (hx : lg L i = .int x) (K : PZ p l e R s m args below meth c D B E k z0 Z (pc + 3) (lset L i (.int (x + v))) st es) : PZ p l e R s m args below meth c D B E k z0 Z pc L st es := by
  intro H locs ls hP hS hl
  subst hv
  have hm : (i, Value.int x) ∈ lsl B 0 L := (lsl_mem B L 0 _).mpr ⟨i, .int x, lg_at L i _ hx (fun z => by cases z), (fun z => by cases z), by rw [Nat.zero_add]; rfl⟩
  obtain ⟨kk, hkk⟩ := List.getElem?_of_mem hm
  exact lv_iinc hC.1.1 hC.1.2.1 hd hl.1 hkk rfl (by rw [hC.1.2.2.1]; exact hi) rfl (fun ls' h' => K H locs ls' hP hS (hl.conv (v := .int (x + Int32.ofInt q)) rfl h'))
theorem Z_obj (hC : CX p s m args c D cc mL own) {idx a q1 : Nat} (hd : decode cc pc = .ok (.invokespecial idx, 3)) (hw : atB q1 (Cond.methodLink (ownS own) idx Lib.objectInit) = true) (hr : roomB st = true) (h1 : 1 ≤ R.frames) (h2 : 20 ≤ R.locals) (K : PZ p l e R s m args below meth c D B E k z0 Z (pc + 3) L st es) : PZ p l e R s m args below meth c D B E k z0 Z pc L (.ref a :: st) es := by
  intro H locs ls hP hS hl
  obtain ⟨⟨hx, hb, hml, hown, hts⟩, hKK⟩ := id hC
  refine W.objInit (own := ownS own) hx hb hown (hts _ (atB_ok hw rfl)) (hts _ (atB_ok (p := 81) (by decide +kernel) rfl)) (hts _ (atB_ok (p := 82) (by decide +kernel) rfl)) rfl hl.1.1 rfl hd h1 ?_ (K H locs ls hP hS hl)
  have := room_cv (B := B) hr
  show 2 * 0 + ((st.map (cv B)).map fun v => v.category).sum + 12 ≤ R.locals
  omega
end ZZ
