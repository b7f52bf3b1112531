abbrev zLan (D : DD) (x : Nat) : List va_E := [.inr (3, [.int 4, .ref (x + 1)]), .inl (D.2.1, 8, .inl (fun _ => 0))]
abbrev zArm (D : DD) (x : Nat) : List va_E := [.inr (1, [.int 0, .ref (x + 1), .ref (x + 2), .ref (x + 3)]), .inl (D.2.1, 6, .inl (fun _ => 0)), .inl (D.2.1, 6, .inl (fun _ => 0)), .inl (D.2.1, 6, .inl (fun _ => 0))]
abbrev zPag (D : DD) (x : Nat) : List va_E := [.inr (5, [.int 0, .ref (x + 1), .ref (x + 2), .ref (x + 3), .ref (x + 4)]), .inl (D.2.1, 6, .inl (fun _ => 0)), .inl (D.2.1, 6, .inl (fun _ => 0)), .inl (D.2.1, 6, .inl (fun _ => 0)), .inl (D.2.1, 6, .inl (fun _ => 0))]
abbrev zAnn (D : DD) (x : Nat) : List va_E := [.inr (0, [.ref (x + 1), .ref (x + 2)]), .inl (D.2.1, 20, .inl (fun _ => 0)), .inl (D.2.1, 10, .inl (fun _ => 0))]
def zNow (D : DD) (x : Nat) : List va_E := [.inr (4, [.int 1, .ref (x + 1), .ref (x + 2), .ref (x + 6), .ref (x + 11)]), .inl (D.2.1, 2, .inl (fun _ => 0)), .inr (1, [.int 0, .ref (x + 2 + 1), .ref (x + 2 + 2), .ref (x + 2 + 3)]), .inl (D.2.1, 6, .inl (fun _ => 0)), .inl (D.2.1, 6, .inl (fun _ => 0)), .inl (D.2.1, 6, .inl (fun _ => 0)), .inr (5, [.int 0, .ref (x + 6 + 1), .ref (x + 6 + 2), .ref (x + 6 + 3), .ref (x + 6 + 4)]), .inl (D.2.1, 6, .inl (fun _ => 0)), .inl (D.2.1, 6, .inl (fun _ => 0)), .inl (D.2.1, 6, .inl (fun _ => 0)), .inl (D.2.1, 6, .inl (fun _ => 0)), .inr (0, [.ref (x + 11 + 1), .ref (x + 11 + 2)]), .inl (D.2.1, 20, .inl (fun _ => 0)), .inl (D.2.1, 10, .inl (fun _ => 0))]
def zTxt (D : DD) (x : Nat) : List va_E := (.inr (7, [.int 0, .ref (x + 1), .ref (x + 3), .ref (x + 17), .int 0, .int (-1), .int 0, .int 0]) :: zLan D (x + 1)) ++ (zNow D (x + 3) ++ [.inl (D.2.1, 200, .inl (fun _ => 0))])
def nws (D : DD) (y : Nat) : Nat → List va_E
  | 0 => []
  | i + 1 => nws D y i ++ zNow D (y + 14 * i)
theorem nws_len (D : DD) (y : Nat) : ∀ i, (nws D y i).length = 14 * i
  | 0 => rfl
  | i + 1 => by simp only [nws, List.length_append]; rw [nws_len D y i]; show 14 * i + 14 = _; omega
abbrev rfA (D : DD) (n y : Nat) : va_E := .inl (D.2.2.2, n, .inr (.inr (.inr (.inr (fun i => some (y + 14 * i))))))
abbrev rfI (D : DD) (n y i : Nat) : va_E := .inl (D.2.2.2, n, .inr (.inr (.inr (.inr (fun j => if j < i then some (y + 14 * j) else none)))))
def zPst (D : DD) (x : Nat) : List va_E := [.inr (6, [.int 0, .int 0, .ref (x + 1)]), rfA D 10 (x + 2)] ++ nws D (x + 2) 10
def zImg (D : DD) (x : Nat) : List va_E := [.inr (2, [.ref (x + 1), .ref (x + 2)]), .inl (D.2.2.1, 2, .inl (fun _ => 0)), rfA D 2 (x + 3)] ++ nws D (x + 3) 2
theorem rf_conv {D : DD} {n y a : Nat} {H : Heap} (h : va_at D.1 CL (a, rfI D n y n) H) : va_at D.1 CL (a, rfA D n y) H := by
  show H[a]? = some (vp_cell _ _)
  have h1 : H[a]? = some (vp_cell D.2.2.2 (n, .inr (.inr (.inr (.inr (fun j => if j < n then some (y + 14 * j) else none)))))) := h
  rw [h1]
  congr 1
  rw [vp_cell_q, vp_cell_q]
  unfold arrV
  congr 1
  apply Array.ext
  · simp
  · intro i h2 h3
    simp at h2
    simp [h2]
theorem up_rf {y i : Nat} {v : Nat} (hv : v = y + 14 * i) : va_up (fun j => if j < i then some (y + 14 * j) else none) i (some v) = (fun j => if j < i + 1 then some (y + 14 * j) else none) := by
  funext j
  simp only [va_up]
  by_cases h : j = i
  · subst h; rw [if_pos rfl, if_pos (by omega), hv]
  · rw [if_neg h]
    by_cases h2 : j < i
    · rw [if_pos h2, if_pos (by omega)]
    · rw [if_neg h2, if_neg (by omega)]

def m_X3_init : MD := (3, yX3_init, cX3_init, 1, none, 1, 30)
def m_X1_init : MD := (1, yX1_init, cX1_init, 1, none, 1, 30)
def m_X7_init : MD := (7, yX7_init, cX7_init, 1, none, 1, 30)
def m_X0_init : MD := (0, yX0_init, cX0_init, 1, none, 1, 30)
def m_X5_init : MD := (5, yX5_init, cX5_init, 1, none, 2, 50)
def m_X9_init : MD := (9, yX9_init, cX9_init, 1, none, 3, 70)
def m_X8_init : MD := (8, yX8_init, cX8_init, 2, none, 3, 70)
def m_X2_init : MD := (2, yX2_init, cX2_init, 2, none, 3, 70)
def m_X10_init : MD := (10, yX10_init, cX10_init, 1, none, 4, 91)
def m_X11_init : MD := (11, yX11_init, cX11_init, 1, none, 1, 30)
theorem Z_retE {p : Program} {l : Launch} {e : Env} {R : Room} {s : State} {m : MethodId} {args : Array Value} {below : List Frame} {meth : Method} {c : Code} {D : DD} {B : Nat × Nat} {E : Nat → va_E} {k z0 : Nat} {cc : ByteArray} {mL own : Nat} {pc : Nat} {L : List Value} {es es1 : List va_E} (hC : CX p s m args c D cc mL own) (hr : meth.sig.returnType = none) (hlk : meth.locks = false) {mc : Nat} (hd : decode cc pc = .ok (.return_, 1)) (he : es = es1) (hm : es.length - z0 = mc) : PZ p l e R s m args below meth c D B E k z0 (MQ below (QZ D B.1 E k es1) args s mc (700 * mc) (fun q => B.1 ≤ q)) pc L [] es := by
  subst he; exact Z_ret hC hr hlk hd hm

set_option maxHeartbeats 4000000 in
set_option maxRecDepth 20000 in
theorem c_X3_init : Ctr m_X3_init 3 1 zLan := by
  refine Ctr.intro (by decide +kernel) rfl rfl (fun p l e s m args below meth c D b E k hC hr hlk hin hsz => ?_)
  show PZ p l e _ s m args below meth c D (b, 0) E k 1 _ 0 [.ref k] [] [(.inr (3, [.int 0, .null]) : va_E)]
  refine Z_aload (i := 0) hC (by decide +kernel) (x := k) rfl ?_
  refine Z_obj (idx := 3) hC (q1 := 88) (by decide +kernel) (by decide +kernel) rfl (Nat.le_of_ble_eq_true rfl) (Nat.le_of_ble_eq_true rfl) ?_
  show PZ p l e _ s m args below meth c D (b, 0) E k 1 _ 4 [.ref k] [] [(.inr (3, [.int 0, .null]) : va_E)]
  refine Z_aload (i := 0) hC (by decide +kernel) (x := k) rfl ?_
  refine Z_iconst (n := 4) hC (4) (by decide +kernel) (by decide) ?_
  refine Z_put (idx := 9) (i := 0) (ci := 3) (j := 0) (v := .int 4) (fs := [.int 0, .null]) hC (by decide +kernel) (by decide +kernel) rfl (by decide +kernel) rfl rfl (Nat.le_of_ble_eq_true rfl) ?_
  show PZ p l e _ s m args below meth c D (b, 0) E k 1 _ 9 [.ref k] [] [(.inr (3, [.int 4, .null]) : va_E)]
  refine Z_aload (i := 0) hC (by decide +kernel) (x := k) rfl ?_
  refine Z_bipush (n := 8) hC (8) (by decide +kernel) (by decide) ?_
  refine Z_newa hC hsz (Nat.le_of_ble_eq_true rfl) 8 (by decide +kernel) rfl (by decide) (Nat.le_of_ble_eq_true rfl) (Nat.le_of_ble_eq_true rfl) ?_
  show PZ p l e _ s m args below meth c D (b, 0) E k 1 _ 14 [.ref k] [.ref (k + 1), .ref k] ([(.inr (3, [.int 4, .null]) : va_E)] ++ [(.inl (D.2.1, 8, .inl (fun _ => 0)) : va_E)])
  refine Z_putF (idx := 15) (i := 0) (ci := 3) (j := 1) (v := .ref (k + 1)) (fs := [.int 4, .null]) hC hin (by decide +kernel) (by decide +kernel) rfl (by decide +kernel) (by decide +kernel) rfl rfl (Nat.le_of_ble_eq_true rfl) ?_
  show PZ p l e _ s m args below meth c D (b, 0) E k 1 _ 17 [.ref k] [] ([(.inr (3, [.int 4, .ref (b + (k + 1))]) : va_E)] ++ [(.inl (D.2.1, 8, .inl (fun _ => 0)) : va_E)])
  exact Z_retE hC hr hlk (by decide +kernel) rfl rfl

set_option maxHeartbeats 4000000 in
set_option maxRecDepth 20000 in
theorem c_X1_init : Ctr m_X1_init 1 3 zArm := by
  refine Ctr.intro (by decide +kernel) rfl rfl (fun p l e s m args below meth c D b E k hC hr hlk hin hsz => ?_)
  show PZ p l e _ s m args below meth c D (b, 0) E k 1 _ 0 [.ref k] [] [(.inr (1, [.int 0, .null, .null, .null]) : va_E)]
  refine Z_aload (i := 0) hC (by decide +kernel) (x := k) rfl ?_
  refine Z_obj (idx := 3) hC (q1 := 110) (by decide +kernel) (by decide +kernel) rfl (Nat.le_of_ble_eq_true rfl) (Nat.le_of_ble_eq_true rfl) ?_
  show PZ p l e _ s m args below meth c D (b, 0) E k 1 _ 4 [.ref k] [] [(.inr (1, [.int 0, .null, .null, .null]) : va_E)]
  refine Z_aload (i := 0) hC (by decide +kernel) (x := k) rfl ?_
  refine Z_iconst (n := 0) hC (0) (by decide +kernel) (by decide) ?_
  refine Z_put (idx := 9) (i := 0) (ci := 1) (j := 0) (v := .int 0) (fs := [.int 0, .null, .null, .null]) hC (by decide +kernel) (by decide +kernel) rfl (by decide +kernel) rfl rfl (Nat.le_of_ble_eq_true rfl) ?_
  show PZ p l e _ s m args below meth c D (b, 0) E k 1 _ 9 [.ref k] [] [(.inr (1, [.int 0, .null, .null, .null]) : va_E)]
  refine Z_aload (i := 0) hC (by decide +kernel) (x := k) rfl ?_
  refine Z_bipush (n := 6) hC (6) (by decide +kernel) (by decide) ?_
  refine Z_newa hC hsz (Nat.le_of_ble_eq_true rfl) 6 (by decide +kernel) rfl (by decide) (Nat.le_of_ble_eq_true rfl) (Nat.le_of_ble_eq_true rfl) ?_
  show PZ p l e _ s m args below meth c D (b, 0) E k 1 _ 14 [.ref k] [.ref (k + 1), .ref k] ([(.inr (1, [.int 0, .null, .null, .null]) : va_E)] ++ [(.inl (D.2.1, 6, .inl (fun _ => 0)) : va_E)])
  refine Z_putF (idx := 15) (i := 0) (ci := 1) (j := 1) (v := .ref (k + 1)) (fs := [.int 0, .null, .null, .null]) hC hin (by decide +kernel) (by decide +kernel) rfl (by decide +kernel) (by decide +kernel) rfl rfl (Nat.le_of_ble_eq_true rfl) ?_
  show PZ p l e _ s m args below meth c D (b, 0) E k 1 _ 17 [.ref k] [] ([(.inr (1, [.int 0, .ref (b + (k + 1)), .null, .null]) : va_E)] ++ [(.inl (D.2.1, 6, .inl (fun _ => 0)) : va_E)])
  refine Z_aload (i := 0) hC (by decide +kernel) (x := k) rfl ?_
  refine Z_bipush (n := 6) hC (6) (by decide +kernel) (by decide) ?_
  refine Z_newa hC hsz (Nat.le_of_ble_eq_true rfl) 6 (by decide +kernel) rfl (by decide) (Nat.le_of_ble_eq_true rfl) (Nat.le_of_ble_eq_true rfl) ?_
  show PZ p l e _ s m args below meth c D (b, 0) E k 1 _ 22 [.ref k] [.ref (k + 2), .ref k] (([(.inr (1, [.int 0, .ref (b + (k + 1)), .null, .null]) : va_E)] ++ [(.inl (D.2.1, 6, .inl (fun _ => 0)) : va_E)]) ++ [(.inl (D.2.1, 6, .inl (fun _ => 0)) : va_E)])
  refine Z_putF (idx := 19) (i := 0) (ci := 1) (j := 2) (v := .ref (k + 2)) (fs := [.int 0, .ref (b + (k + 1)), .null, .null]) hC hin (by decide +kernel) (by decide +kernel) rfl (by decide +kernel) (by decide +kernel) rfl rfl (Nat.le_of_ble_eq_true rfl) ?_
  show PZ p l e _ s m args below meth c D (b, 0) E k 1 _ 25 [.ref k] [] (([(.inr (1, [.int 0, .ref (b + (k + 1)), .ref (b + (k + 2)), .null]) : va_E)] ++ [(.inl (D.2.1, 6, .inl (fun _ => 0)) : va_E)]) ++ [(.inl (D.2.1, 6, .inl (fun _ => 0)) : va_E)])
  refine Z_aload (i := 0) hC (by decide +kernel) (x := k) rfl ?_
  refine Z_bipush (n := 6) hC (6) (by decide +kernel) (by decide) ?_
  refine Z_newa hC hsz (Nat.le_of_ble_eq_true rfl) 6 (by decide +kernel) rfl (by decide) (Nat.le_of_ble_eq_true rfl) (Nat.le_of_ble_eq_true rfl) ?_
  show PZ p l e _ s m args below meth c D (b, 0) E k 1 _ 30 [.ref k] [.ref (k + 3), .ref k] ((([(.inr (1, [.int 0, .ref (b + (k + 1)), .ref (b + (k + 2)), .null]) : va_E)] ++ [(.inl (D.2.1, 6, .inl (fun _ => 0)) : va_E)]) ++ [(.inl (D.2.1, 6, .inl (fun _ => 0)) : va_E)]) ++ [(.inl (D.2.1, 6, .inl (fun _ => 0)) : va_E)])
  refine Z_putF (idx := 22) (i := 0) (ci := 1) (j := 3) (v := .ref (k + 3)) (fs := [.int 0, .ref (b + (k + 1)), .ref (b + (k + 2)), .null]) hC hin (by decide +kernel) (by decide +kernel) rfl (by decide +kernel) (by decide +kernel) rfl rfl (Nat.le_of_ble_eq_true rfl) ?_
  show PZ p l e _ s m args below meth c D (b, 0) E k 1 _ 33 [.ref k] [] ((([(.inr (1, [.int 0, .ref (b + (k + 1)), .ref (b + (k + 2)), .ref (b + (k + 3))]) : va_E)] ++ [(.inl (D.2.1, 6, .inl (fun _ => 0)) : va_E)]) ++ [(.inl (D.2.1, 6, .inl (fun _ => 0)) : va_E)]) ++ [(.inl (D.2.1, 6, .inl (fun _ => 0)) : va_E)])
  exact Z_retE hC hr hlk (by decide +kernel) rfl rfl

set_option maxHeartbeats 4000000 in
set_option maxRecDepth 20000 in
theorem c_X7_init : Ctr m_X7_init 5 4 zPag := by
  refine Ctr.intro (by decide +kernel) rfl rfl (fun p l e s m args below meth c D b E k hC hr hlk hin hsz => ?_)
  show PZ p l e _ s m args below meth c D (b, 0) E k 1 _ 0 [.ref k] [] [(.inr (5, [.int 0, .null, .null, .null, .null]) : va_E)]
  refine Z_aload (i := 0) hC (by decide +kernel) (x := k) rfl ?_
  refine Z_obj (idx := 3) hC (q1 := 137) (by decide +kernel) (by decide +kernel) rfl (Nat.le_of_ble_eq_true rfl) (Nat.le_of_ble_eq_true rfl) ?_
  show PZ p l e _ s m args below meth c D (b, 0) E k 1 _ 4 [.ref k] [] [(.inr (5, [.int 0, .null, .null, .null, .null]) : va_E)]
  refine Z_aload (i := 0) hC (by decide +kernel) (x := k) rfl ?_
  refine Z_iconst (n := 0) hC (0) (by decide +kernel) (by decide) ?_
  refine Z_put (idx := 9) (i := 0) (ci := 5) (j := 0) (v := .int 0) (fs := [.int 0, .null, .null, .null, .null]) hC (by decide +kernel) (by decide +kernel) rfl (by decide +kernel) rfl rfl (Nat.le_of_ble_eq_true rfl) ?_
  show PZ p l e _ s m args below meth c D (b, 0) E k 1 _ 9 [.ref k] [] [(.inr (5, [.int 0, .null, .null, .null, .null]) : va_E)]
  refine Z_aload (i := 0) hC (by decide +kernel) (x := k) rfl ?_
  refine Z_bipush (n := 6) hC (6) (by decide +kernel) (by decide) ?_
  refine Z_newa hC hsz (Nat.le_of_ble_eq_true rfl) 6 (by decide +kernel) rfl (by decide) (Nat.le_of_ble_eq_true rfl) (Nat.le_of_ble_eq_true rfl) ?_
  show PZ p l e _ s m args below meth c D (b, 0) E k 1 _ 14 [.ref k] [.ref (k + 1), .ref k] ([(.inr (5, [.int 0, .null, .null, .null, .null]) : va_E)] ++ [(.inl (D.2.1, 6, .inl (fun _ => 0)) : va_E)])
  refine Z_putF (idx := 15) (i := 0) (ci := 5) (j := 1) (v := .ref (k + 1)) (fs := [.int 0, .null, .null, .null, .null]) hC hin (by decide +kernel) (by decide +kernel) rfl (by decide +kernel) (by decide +kernel) rfl rfl (Nat.le_of_ble_eq_true rfl) ?_
  show PZ p l e _ s m args below meth c D (b, 0) E k 1 _ 17 [.ref k] [] ([(.inr (5, [.int 0, .ref (b + (k + 1)), .null, .null, .null]) : va_E)] ++ [(.inl (D.2.1, 6, .inl (fun _ => 0)) : va_E)])
  refine Z_aload (i := 0) hC (by decide +kernel) (x := k) rfl ?_
  refine Z_bipush (n := 6) hC (6) (by decide +kernel) (by decide) ?_
  refine Z_newa hC hsz (Nat.le_of_ble_eq_true rfl) 6 (by decide +kernel) rfl (by decide) (Nat.le_of_ble_eq_true rfl) (Nat.le_of_ble_eq_true rfl) ?_
  show PZ p l e _ s m args below meth c D (b, 0) E k 1 _ 22 [.ref k] [.ref (k + 2), .ref k] (([(.inr (5, [.int 0, .ref (b + (k + 1)), .null, .null, .null]) : va_E)] ++ [(.inl (D.2.1, 6, .inl (fun _ => 0)) : va_E)]) ++ [(.inl (D.2.1, 6, .inl (fun _ => 0)) : va_E)])
  refine Z_putF (idx := 19) (i := 0) (ci := 5) (j := 2) (v := .ref (k + 2)) (fs := [.int 0, .ref (b + (k + 1)), .null, .null, .null]) hC hin (by decide +kernel) (by decide +kernel) rfl (by decide +kernel) (by decide +kernel) rfl rfl (Nat.le_of_ble_eq_true rfl) ?_
  show PZ p l e _ s m args below meth c D (b, 0) E k 1 _ 25 [.ref k] [] (([(.inr (5, [.int 0, .ref (b + (k + 1)), .ref (b + (k + 2)), .null, .null]) : va_E)] ++ [(.inl (D.2.1, 6, .inl (fun _ => 0)) : va_E)]) ++ [(.inl (D.2.1, 6, .inl (fun _ => 0)) : va_E)])
  refine Z_aload (i := 0) hC (by decide +kernel) (x := k) rfl ?_
  refine Z_bipush (n := 6) hC (6) (by decide +kernel) (by decide) ?_
  refine Z_newa hC hsz (Nat.le_of_ble_eq_true rfl) 6 (by decide +kernel) rfl (by decide) (Nat.le_of_ble_eq_true rfl) (Nat.le_of_ble_eq_true rfl) ?_
  show PZ p l e _ s m args below meth c D (b, 0) E k 1 _ 30 [.ref k] [.ref (k + 3), .ref k] ((([(.inr (5, [.int 0, .ref (b + (k + 1)), .ref (b + (k + 2)), .null, .null]) : va_E)] ++ [(.inl (D.2.1, 6, .inl (fun _ => 0)) : va_E)]) ++ [(.inl (D.2.1, 6, .inl (fun _ => 0)) : va_E)]) ++ [(.inl (D.2.1, 6, .inl (fun _ => 0)) : va_E)])
  refine Z_putF (idx := 22) (i := 0) (ci := 5) (j := 3) (v := .ref (k + 3)) (fs := [.int 0, .ref (b + (k + 1)), .ref (b + (k + 2)), .null, .null]) hC hin (by decide +kernel) (by decide +kernel) rfl (by decide +kernel) (by decide +kernel) rfl rfl (Nat.le_of_ble_eq_true rfl) ?_
  show PZ p l e _ s m args below meth c D (b, 0) E k 1 _ 33 [.ref k] [] ((([(.inr (5, [.int 0, .ref (b + (k + 1)), .ref (b + (k + 2)), .ref (b + (k + 3)), .null]) : va_E)] ++ [(.inl (D.2.1, 6, .inl (fun _ => 0)) : va_E)]) ++ [(.inl (D.2.1, 6, .inl (fun _ => 0)) : va_E)]) ++ [(.inl (D.2.1, 6, .inl (fun _ => 0)) : va_E)])
  refine Z_aload (i := 0) hC (by decide +kernel) (x := k) rfl ?_
  refine Z_bipush (n := 6) hC (6) (by decide +kernel) (by decide) ?_
  refine Z_newa hC hsz (Nat.le_of_ble_eq_true rfl) 6 (by decide +kernel) rfl (by decide) (Nat.le_of_ble_eq_true rfl) (Nat.le_of_ble_eq_true rfl) ?_
  show PZ p l e _ s m args below meth c D (b, 0) E k 1 _ 38 [.ref k] [.ref (k + 4), .ref k] (((([(.inr (5, [.int 0, .ref (b + (k + 1)), .ref (b + (k + 2)), .ref (b + (k + 3)), .null]) : va_E)] ++ [(.inl (D.2.1, 6, .inl (fun _ => 0)) : va_E)]) ++ [(.inl (D.2.1, 6, .inl (fun _ => 0)) : va_E)]) ++ [(.inl (D.2.1, 6, .inl (fun _ => 0)) : va_E)]) ++ [(.inl (D.2.1, 6, .inl (fun _ => 0)) : va_E)])
  refine Z_putF (idx := 25) (i := 0) (ci := 5) (j := 4) (v := .ref (k + 4)) (fs := [.int 0, .ref (b + (k + 1)), .ref (b + (k + 2)), .ref (b + (k + 3)), .null]) hC hin (by decide +kernel) (by decide +kernel) rfl (by decide +kernel) (by decide +kernel) rfl rfl (Nat.le_of_ble_eq_true rfl) ?_
  show PZ p l e _ s m args below meth c D (b, 0) E k 1 _ 41 [.ref k] [] (((([(.inr (5, [.int 0, .ref (b + (k + 1)), .ref (b + (k + 2)), .ref (b + (k + 3)), .ref (b + (k + 4))]) : va_E)] ++ [(.inl (D.2.1, 6, .inl (fun _ => 0)) : va_E)]) ++ [(.inl (D.2.1, 6, .inl (fun _ => 0)) : va_E)]) ++ [(.inl (D.2.1, 6, .inl (fun _ => 0)) : va_E)]) ++ [(.inl (D.2.1, 6, .inl (fun _ => 0)) : va_E)])
  exact Z_retE hC hr hlk (by decide +kernel) rfl rfl

set_option maxHeartbeats 4000000 in
set_option maxRecDepth 20000 in
theorem c_X0_init : Ctr m_X0_init 0 2 zAnn := by
  refine Ctr.intro (by decide +kernel) rfl rfl (fun p l e s m args below meth c D b E k hC hr hlk hin hsz => ?_)
  show PZ p l e _ s m args below meth c D (b, 0) E k 1 _ 0 [.ref k] [] [(.inr (0, [.null, .null]) : va_E)]
  refine Z_aload (i := 0) hC (by decide +kernel) (x := k) rfl ?_
  refine Z_obj (idx := 3) hC (q1 := 176) (by decide +kernel) (by decide +kernel) rfl (Nat.le_of_ble_eq_true rfl) (Nat.le_of_ble_eq_true rfl) ?_
  show PZ p l e _ s m args below meth c D (b, 0) E k 1 _ 4 [.ref k] [] [(.inr (0, [.null, .null]) : va_E)]
  refine Z_aload (i := 0) hC (by decide +kernel) (x := k) rfl ?_
  refine Z_bipush (n := 20) hC (20) (by decide +kernel) (by decide) ?_
  refine Z_newa hC hsz (Nat.le_of_ble_eq_true rfl) 20 (by decide +kernel) rfl (by decide) (Nat.le_of_ble_eq_true rfl) (Nat.le_of_ble_eq_true rfl) ?_
  show PZ p l e _ s m args below meth c D (b, 0) E k 1 _ 9 [.ref k] [.ref (k + 1), .ref k] ([(.inr (0, [.null, .null]) : va_E)] ++ [(.inl (D.2.1, 20, .inl (fun _ => 0)) : va_E)])
  refine Z_putF (idx := 9) (i := 0) (ci := 0) (j := 0) (v := .ref (k + 1)) (fs := [.null, .null]) hC hin (by decide +kernel) (by decide +kernel) rfl (by decide +kernel) (by decide +kernel) rfl rfl (Nat.le_of_ble_eq_true rfl) ?_
  show PZ p l e _ s m args below meth c D (b, 0) E k 1 _ 12 [.ref k] [] ([(.inr (0, [.ref (b + (k + 1)), .null]) : va_E)] ++ [(.inl (D.2.1, 20, .inl (fun _ => 0)) : va_E)])
  refine Z_aload (i := 0) hC (by decide +kernel) (x := k) rfl ?_
  refine Z_bipush (n := 10) hC (10) (by decide +kernel) (by decide) ?_
  refine Z_newa hC hsz (Nat.le_of_ble_eq_true rfl) 10 (by decide +kernel) rfl (by decide) (Nat.le_of_ble_eq_true rfl) (Nat.le_of_ble_eq_true rfl) ?_
  show PZ p l e _ s m args below meth c D (b, 0) E k 1 _ 17 [.ref k] [.ref (k + 2), .ref k] (([(.inr (0, [.ref (b + (k + 1)), .null]) : va_E)] ++ [(.inl (D.2.1, 20, .inl (fun _ => 0)) : va_E)]) ++ [(.inl (D.2.1, 10, .inl (fun _ => 0)) : va_E)])
  refine Z_putF (idx := 15) (i := 0) (ci := 0) (j := 1) (v := .ref (k + 2)) (fs := [.ref (b + (k + 1)), .null]) hC hin (by decide +kernel) (by decide +kernel) rfl (by decide +kernel) (by decide +kernel) rfl rfl (Nat.le_of_ble_eq_true rfl) ?_
  show PZ p l e _ s m args below meth c D (b, 0) E k 1 _ 20 [.ref k] [] (([(.inr (0, [.ref (b + (k + 1)), .ref (b + (k + 2))]) : va_E)] ++ [(.inl (D.2.1, 20, .inl (fun _ => 0)) : va_E)]) ++ [(.inl (D.2.1, 10, .inl (fun _ => 0)) : va_E)])
  exact Z_retE hC hr hlk (by decide +kernel) rfl rfl

set_option maxHeartbeats 4000000 in
set_option maxRecDepth 20000 in
theorem c_X5_init : Ctr m_X5_init 4 13 zNow := by
  refine Ctr.intro (by decide +kernel) rfl rfl (fun p l e s m args below meth c D b E k hC hr hlk hin hsz => ?_)
  show PZ p l e _ s m args below meth c D (b, 0) E k 1 _ 0 [.ref k] [] [(.inr (4, [.int 0, .null, .null, .null, .null]) : va_E)]
  refine Z_aload (i := 0) hC (by decide +kernel) (x := k) rfl ?_
  refine Z_obj (idx := 3) hC (q1 := 104) (by decide +kernel) (by decide +kernel) rfl (Nat.le_of_ble_eq_true rfl) (Nat.le_of_ble_eq_true rfl) ?_
  show PZ p l e _ s m args below meth c D (b, 0) E k 1 _ 4 [.ref k] [] [(.inr (4, [.int 0, .null, .null, .null, .null]) : va_E)]
  refine Z_aload (i := 0) hC (by decide +kernel) (x := k) rfl ?_
  refine Z_iconst (n := 1) hC (1) (by decide +kernel) (by decide) ?_
  refine Z_put (idx := 9) (i := 0) (ci := 4) (j := 0) (v := .int 1) (fs := [.int 0, .null, .null, .null, .null]) hC (by decide +kernel) (by decide +kernel) rfl (by decide +kernel) rfl rfl (Nat.le_of_ble_eq_true rfl) ?_
  show PZ p l e _ s m args below meth c D (b, 0) E k 1 _ 9 [.ref k] [] [(.inr (4, [.int 1, .null, .null, .null, .null]) : va_E)]
  refine Z_aload (i := 0) hC (by decide +kernel) (x := k) rfl ?_
  refine Z_iconst (n := 2) hC (2) (by decide +kernel) (by decide) ?_
  refine Z_newa hC hsz (Nat.le_of_ble_eq_true rfl) 2 (by decide +kernel) rfl (by decide) (Nat.le_of_ble_eq_true rfl) (Nat.le_of_ble_eq_true rfl) ?_
  show PZ p l e _ s m args below meth c D (b, 0) E k 1 _ 13 [.ref k] [.ref (k + 1), .ref k] ([(.inr (4, [.int 1, .null, .null, .null, .null]) : va_E)] ++ [(.inl (D.2.1, 2, .inl (fun _ => 0)) : va_E)])
  refine Z_putF (idx := 15) (i := 0) (ci := 4) (j := 1) (v := .ref (k + 1)) (fs := [.int 1, .null, .null, .null, .null]) hC hin (by decide +kernel) (by decide +kernel) rfl (by decide +kernel) (by decide +kernel) rfl rfl (Nat.le_of_ble_eq_true rfl) ?_
  show PZ p l e _ s m args below meth c D (b, 0) E k 1 _ 16 [.ref k] [] ([(.inr (4, [.int 1, .ref (b + (k + 1)), .null, .null, .null]) : va_E)] ++ [(.inl (D.2.1, 2, .inl (fun _ => 0)) : va_E)])
  refine Z_aload (i := 0) hC (by decide +kernel) (x := k) rfl ?_
  refine Z_new (idx := 19) (q1 := 105) (q2 := 106) (q3 := 62) hC hsz (Nat.le_of_ble_eq_true rfl) 1 (by decide +kernel) (by decide) (by decide +kernel) (by decide +kernel) (by decide +kernel) (Nat.le_of_ble_eq_true rfl) (Nat.le_of_ble_eq_true rfl) ?_
  show PZ p l e _ s m args below meth c D (b, 0) E k 1 _ 20 [.ref k] [.ref (k + 2), .ref k] (([(.inr (4, [.int 1, .ref (b + (k + 1)), .null, .null, .null]) : va_E)] ++ [(.inl (D.2.1, 2, .inl (fun _ => 0)) : va_E)]) ++ [(.inr (1, dfl 1) : va_E)])
  refine Z_dup hC (by decide +kernel) ?_
  refine Z_callN (host := "ChronicleWar") (idx := 21) (q1 := 109) (q2 := 62) (q3 := 107) (q4 := 108) (pre := ([(.inr (4, [.int 1, .ref (b + (k + 1)), .null, .null, .null]) : va_E)] ++ [(.inl (D.2.1, 2, .inl (fun _ => 0)) : va_E)])) hC hsz c_X1_init (Nat.le_of_ble_eq_true rfl) (by decide +kernel) rfl rfl (by decide +kernel) (by decide +kernel) (by decide +kernel) (by decide +kernel) rfl (by decide +kernel) (Nat.le_of_ble_eq_true rfl) (Nat.le_of_ble_eq_true rfl) (Nat.le_of_ble_eq_true rfl) (Nat.le_of_ble_eq_true rfl) rfl ?_
  show PZ p l e _ s m args below meth c D (b, 0) E k 1 _ 24 [.ref k] [.ref (k + 2), .ref k] (([(.inr (4, [.int 1, .ref (b + (k + 1)), .null, .null, .null]) : va_E)] ++ [(.inl (D.2.1, 2, .inl (fun _ => 0)) : va_E)]) ++ zArm D (b + (k + 2)))
  refine Z_putF (idx := 22) (i := 0) (ci := 4) (j := 2) (v := .ref (k + 2)) (fs := [.int 1, .ref (b + (k + 1)), .null, .null, .null]) hC hin (by decide +kernel) (by decide +kernel) rfl (by decide +kernel) (by decide +kernel) rfl rfl (Nat.le_of_ble_eq_true rfl) ?_
  show PZ p l e _ s m args below meth c D (b, 0) E k 1 _ 27 [.ref k] [] (([(.inr (4, [.int 1, .ref (b + (k + 1)), .ref (b + (k + 2)), .null, .null]) : va_E)] ++ [(.inl (D.2.1, 2, .inl (fun _ => 0)) : va_E)]) ++ zArm D (b + (k + 2)))
  refine Z_aload (i := 0) hC (by decide +kernel) (x := k) rfl ?_
  refine Z_new (idx := 26) (q1 := 132) (q2 := 133) (q3 := 63) hC hsz (Nat.le_of_ble_eq_true rfl) 5 (by decide +kernel) (by decide) (by decide +kernel) (by decide +kernel) (by decide +kernel) (Nat.le_of_ble_eq_true rfl) (Nat.le_of_ble_eq_true rfl) ?_
  show PZ p l e _ s m args below meth c D (b, 0) E k 1 _ 31 [.ref k] [.ref (k + 6), .ref k] ((([(.inr (4, [.int 1, .ref (b + (k + 1)), .ref (b + (k + 2)), .null, .null]) : va_E)] ++ [(.inl (D.2.1, 2, .inl (fun _ => 0)) : va_E)]) ++ zArm D (b + (k + 2))) ++ [(.inr (5, dfl 5) : va_E)])
  refine Z_dup hC (by decide +kernel) ?_
  refine Z_callN (host := "ChronicleWar") (idx := 28) (q1 := 136) (q2 := 63) (q3 := 134) (q4 := 135) (pre := (([(.inr (4, [.int 1, .ref (b + (k + 1)), .ref (b + (k + 2)), .null, .null]) : va_E)] ++ [(.inl (D.2.1, 2, .inl (fun _ => 0)) : va_E)]) ++ zArm D (b + (k + 2)))) hC hsz c_X7_init (Nat.le_of_ble_eq_true rfl) (by decide +kernel) rfl rfl (by decide +kernel) (by decide +kernel) (by decide +kernel) (by decide +kernel) rfl (by decide +kernel) (Nat.le_of_ble_eq_true rfl) (Nat.le_of_ble_eq_true rfl) (Nat.le_of_ble_eq_true rfl) (Nat.le_of_ble_eq_true rfl) rfl ?_
  show PZ p l e _ s m args below meth c D (b, 0) E k 1 _ 35 [.ref k] [.ref (k + 6), .ref k] ((([(.inr (4, [.int 1, .ref (b + (k + 1)), .ref (b + (k + 2)), .null, .null]) : va_E)] ++ [(.inl (D.2.1, 2, .inl (fun _ => 0)) : va_E)]) ++ zArm D (b + (k + 2))) ++ zPag D (b + (k + 6)))
  refine Z_putF (idx := 29) (i := 0) (ci := 4) (j := 3) (v := .ref (k + 6)) (fs := [.int 1, .ref (b + (k + 1)), .ref (b + (k + 2)), .null, .null]) hC hin (by decide +kernel) (by decide +kernel) rfl (by decide +kernel) (by decide +kernel) rfl rfl (Nat.le_of_ble_eq_true rfl) ?_
  show PZ p l e _ s m args below meth c D (b, 0) E k 1 _ 38 [.ref k] [] ((([(.inr (4, [.int 1, .ref (b + (k + 1)), .ref (b + (k + 2)), .ref (b + (k + 6)), .null]) : va_E)] ++ [(.inl (D.2.1, 2, .inl (fun _ => 0)) : va_E)]) ++ zArm D (b + (k + 2))) ++ zPag D (b + (k + 6)))
  refine Z_aload (i := 0) hC (by decide +kernel) (x := k) rfl ?_
  refine Z_new (idx := 33) (q1 := 171) (q2 := 172) (q3 := 64) hC hsz (Nat.le_of_ble_eq_true rfl) 0 (by decide +kernel) (by decide) (by decide +kernel) (by decide +kernel) (by decide +kernel) (Nat.le_of_ble_eq_true rfl) (Nat.le_of_ble_eq_true rfl) ?_
  show PZ p l e _ s m args below meth c D (b, 0) E k 1 _ 42 [.ref k] [.ref (k + 11), .ref k] (((([(.inr (4, [.int 1, .ref (b + (k + 1)), .ref (b + (k + 2)), .ref (b + (k + 6)), .null]) : va_E)] ++ [(.inl (D.2.1, 2, .inl (fun _ => 0)) : va_E)]) ++ zArm D (b + (k + 2))) ++ zPag D (b + (k + 6))) ++ [(.inr (0, dfl 0) : va_E)])
  refine Z_dup hC (by decide +kernel) ?_
  refine Z_callN (host := "ChronicleWar") (idx := 35) (q1 := 175) (q2 := 64) (q3 := 173) (q4 := 174) (pre := ((([(.inr (4, [.int 1, .ref (b + (k + 1)), .ref (b + (k + 2)), .ref (b + (k + 6)), .null]) : va_E)] ++ [(.inl (D.2.1, 2, .inl (fun _ => 0)) : va_E)]) ++ zArm D (b + (k + 2))) ++ zPag D (b + (k + 6)))) hC hsz c_X0_init (Nat.le_of_ble_eq_true rfl) (by decide +kernel) rfl rfl (by decide +kernel) (by decide +kernel) (by decide +kernel) (by decide +kernel) rfl (by decide +kernel) (Nat.le_of_ble_eq_true rfl) (Nat.le_of_ble_eq_true rfl) (Nat.le_of_ble_eq_true rfl) (Nat.le_of_ble_eq_true rfl) rfl ?_
  show PZ p l e _ s m args below meth c D (b, 0) E k 1 _ 46 [.ref k] [.ref (k + 11), .ref k] (((([(.inr (4, [.int 1, .ref (b + (k + 1)), .ref (b + (k + 2)), .ref (b + (k + 6)), .null]) : va_E)] ++ [(.inl (D.2.1, 2, .inl (fun _ => 0)) : va_E)]) ++ zArm D (b + (k + 2))) ++ zPag D (b + (k + 6))) ++ zAnn D (b + (k + 11)))
  refine Z_putF (idx := 36) (i := 0) (ci := 4) (j := 4) (v := .ref (k + 11)) (fs := [.int 1, .ref (b + (k + 1)), .ref (b + (k + 2)), .ref (b + (k + 6)), .null]) hC hin (by decide +kernel) (by decide +kernel) rfl (by decide +kernel) (by decide +kernel) rfl rfl (Nat.le_of_ble_eq_true rfl) ?_
  show PZ p l e _ s m args below meth c D (b, 0) E k 1 _ 49 [.ref k] [] (((([(.inr (4, [.int 1, .ref (b + (k + 1)), .ref (b + (k + 2)), .ref (b + (k + 6)), .ref (b + (k + 11))]) : va_E)] ++ [(.inl (D.2.1, 2, .inl (fun _ => 0)) : va_E)]) ++ zArm D (b + (k + 2))) ++ zPag D (b + (k + 6))) ++ zAnn D (b + (k + 11)))
  exact Z_retE hC hr hlk (by decide +kernel) rfl rfl

set_option maxHeartbeats 4000000 in
set_option maxRecDepth 20000 in
theorem c_X9_init : Ctr m_X9_init 7 17 zTxt := by
  refine Ctr.intro (by decide +kernel) rfl rfl (fun p l e s m args below meth c D b E k hC hr hlk hin hsz => ?_)
  show PZ p l e _ s m args below meth c D (b, 0) E k 1 _ 0 [.ref k] [] [(.inr (7, [.int 0, .null, .null, .null, .int 0, .int 0, .int 0, .int 0]) : va_E)]
  refine Z_aload (i := 0) hC (by decide +kernel) (x := k) rfl ?_
  refine Z_obj (idx := 3) hC (q1 := 216) (by decide +kernel) (by decide +kernel) rfl (Nat.le_of_ble_eq_true rfl) (Nat.le_of_ble_eq_true rfl) ?_
  show PZ p l e _ s m args below meth c D (b, 0) E k 1 _ 4 [.ref k] [] [(.inr (7, [.int 0, .null, .null, .null, .int 0, .int 0, .int 0, .int 0]) : va_E)]
  refine Z_aload (i := 0) hC (by decide +kernel) (x := k) rfl ?_
  refine Z_iconst (n := 0) hC (0) (by decide +kernel) (by decide) ?_
  refine Z_put (idx := 9) (i := 0) (ci := 7) (j := 0) (v := .int 0) (fs := [.int 0, .null, .null, .null, .int 0, .int 0, .int 0, .int 0]) hC (by decide +kernel) (by decide +kernel) rfl (by decide +kernel) rfl rfl (Nat.le_of_ble_eq_true rfl) ?_
  show PZ p l e _ s m args below meth c D (b, 0) E k 1 _ 9 [.ref k] [] [(.inr (7, [.int 0, .null, .null, .null, .int 0, .int 0, .int 0, .int 0]) : va_E)]
  refine Z_aload (i := 0) hC (by decide +kernel) (x := k) rfl ?_
  refine Z_new (idx := 15) (q1 := 217) (q2 := 84) (q3 := 60) hC hsz (Nat.le_of_ble_eq_true rfl) 3 (by decide +kernel) (by decide) (by decide +kernel) (by decide +kernel) (by decide +kernel) (Nat.le_of_ble_eq_true rfl) (Nat.le_of_ble_eq_true rfl) ?_
  show PZ p l e _ s m args below meth c D (b, 0) E k 1 _ 13 [.ref k] [.ref (k + 1), .ref k] ([(.inr (7, [.int 0, .null, .null, .null, .int 0, .int 0, .int 0, .int 0]) : va_E)] ++ [(.inr (3, dfl 3) : va_E)])
  refine Z_dup hC (by decide +kernel) ?_
  refine Z_callN (host := "ChronicleWar") (idx := 17) (q1 := 87) (q2 := 60) (q3 := 218) (q4 := 86) (pre := [(.inr (7, [.int 0, .null, .null, .null, .int 0, .int 0, .int 0, .int 0]) : va_E)]) hC hsz c_X3_init (Nat.le_of_ble_eq_true rfl) (by decide +kernel) rfl rfl (by decide +kernel) (by decide +kernel) (by decide +kernel) (by decide +kernel) rfl (by decide +kernel) (Nat.le_of_ble_eq_true rfl) (Nat.le_of_ble_eq_true rfl) (Nat.le_of_ble_eq_true rfl) (Nat.le_of_ble_eq_true rfl) rfl ?_
  show PZ p l e _ s m args below meth c D (b, 0) E k 1 _ 17 [.ref k] [.ref (k + 1), .ref k] ([(.inr (7, [.int 0, .null, .null, .null, .int 0, .int 0, .int 0, .int 0]) : va_E)] ++ zLan D (b + (k + 1)))
  refine Z_putF (idx := 18) (i := 0) (ci := 7) (j := 1) (v := .ref (k + 1)) (fs := [.int 0, .null, .null, .null, .int 0, .int 0, .int 0, .int 0]) hC hin (by decide +kernel) (by decide +kernel) rfl (by decide +kernel) (by decide +kernel) rfl rfl (Nat.le_of_ble_eq_true rfl) ?_
  show PZ p l e _ s m args below meth c D (b, 0) E k 1 _ 20 [.ref k] [] ([(.inr (7, [.int 0, .ref (b + (k + 1)), .null, .null, .int 0, .int 0, .int 0, .int 0]) : va_E)] ++ zLan D (b + (k + 1)))
  refine Z_aload (i := 0) hC (by decide +kernel) (x := k) rfl ?_
  refine Z_new (idx := 22) (q1 := 219) (q2 := 100) (q3 := 61) hC hsz (Nat.le_of_ble_eq_true rfl) 4 (by decide +kernel) (by decide) (by decide +kernel) (by decide +kernel) (by decide +kernel) (Nat.le_of_ble_eq_true rfl) (Nat.le_of_ble_eq_true rfl) ?_
  show PZ p l e _ s m args below meth c D (b, 0) E k 1 _ 24 [.ref k] [.ref (k + 3), .ref k] (([(.inr (7, [.int 0, .ref (b + (k + 1)), .null, .null, .int 0, .int 0, .int 0, .int 0]) : va_E)] ++ zLan D (b + (k + 1))) ++ [(.inr (4, dfl 4) : va_E)])
  refine Z_dup hC (by decide +kernel) ?_
  refine Z_callN (host := "ChronicleWar") (idx := 24) (q1 := 103) (q2 := 61) (q3 := 220) (q4 := 102) (pre := ([(.inr (7, [.int 0, .ref (b + (k + 1)), .null, .null, .int 0, .int 0, .int 0, .int 0]) : va_E)] ++ zLan D (b + (k + 1)))) hC hsz c_X5_init (Nat.le_of_ble_eq_true rfl) (by decide +kernel) rfl rfl (by decide +kernel) (by decide +kernel) (by decide +kernel) (by decide +kernel) rfl (by decide +kernel) (Nat.le_of_ble_eq_true rfl) (Nat.le_of_ble_eq_true rfl) (Nat.le_of_ble_eq_true rfl) (Nat.le_of_ble_eq_true rfl) rfl ?_
  show PZ p l e _ s m args below meth c D (b, 0) E k 1 _ 28 [.ref k] [.ref (k + 3), .ref k] (([(.inr (7, [.int 0, .ref (b + (k + 1)), .null, .null, .int 0, .int 0, .int 0, .int 0]) : va_E)] ++ zLan D (b + (k + 1))) ++ zNow D (b + (k + 3)))
  refine Z_putF (idx := 25) (i := 0) (ci := 7) (j := 2) (v := .ref (k + 3)) (fs := [.int 0, .ref (b + (k + 1)), .null, .null, .int 0, .int 0, .int 0, .int 0]) hC hin (by decide +kernel) (by decide +kernel) rfl (by decide +kernel) (by decide +kernel) rfl rfl (Nat.le_of_ble_eq_true rfl) ?_
  show PZ p l e _ s m args below meth c D (b, 0) E k 1 _ 31 [.ref k] [] (([(.inr (7, [.int 0, .ref (b + (k + 1)), .ref (b + (k + 3)), .null, .int 0, .int 0, .int 0, .int 0]) : va_E)] ++ zLan D (b + (k + 1))) ++ zNow D (b + (k + 3)))
  refine Z_aload (i := 0) hC (by decide +kernel) (x := k) rfl ?_
  refine Z_sipush (n := 200) hC (200) (by decide +kernel) (by decide) ?_
  refine Z_newa hC hsz (Nat.le_of_ble_eq_true rfl) 200 (by decide +kernel) rfl (by decide) (Nat.le_of_ble_eq_true rfl) (Nat.le_of_ble_eq_true rfl) ?_
  show PZ p l e _ s m args below meth c D (b, 0) E k 1 _ 37 [.ref k] [.ref (k + 17), .ref k] ((([(.inr (7, [.int 0, .ref (b + (k + 1)), .ref (b + (k + 3)), .null, .int 0, .int 0, .int 0, .int 0]) : va_E)] ++ zLan D (b + (k + 1))) ++ zNow D (b + (k + 3))) ++ [(.inl (D.2.1, 200, .inl (fun _ => 0)) : va_E)])
  refine Z_putF (idx := 29) (i := 0) (ci := 7) (j := 3) (v := .ref (k + 17)) (fs := [.int 0, .ref (b + (k + 1)), .ref (b + (k + 3)), .null, .int 0, .int 0, .int 0, .int 0]) hC hin (by decide +kernel) (by decide +kernel) rfl (by decide +kernel) (by decide +kernel) rfl rfl (Nat.le_of_ble_eq_true rfl) ?_
  show PZ p l e _ s m args below meth c D (b, 0) E k 1 _ 40 [.ref k] [] ((([(.inr (7, [.int 0, .ref (b + (k + 1)), .ref (b + (k + 3)), .ref (b + (k + 17)), .int 0, .int 0, .int 0, .int 0]) : va_E)] ++ zLan D (b + (k + 1))) ++ zNow D (b + (k + 3))) ++ [(.inl (D.2.1, 200, .inl (fun _ => 0)) : va_E)])
  refine Z_aload (i := 0) hC (by decide +kernel) (x := k) rfl ?_
  refine Z_iconst (n := 0) hC (0) (by decide +kernel) (by decide) ?_
  refine Z_put (idx := 33) (i := 0) (ci := 7) (j := 4) (v := .int 0) (fs := [.int 0, .ref (b + (k + 1)), .ref (b + (k + 3)), .ref (b + (k + 17)), .int 0, .int 0, .int 0, .int 0]) hC (by decide +kernel) (by decide +kernel) rfl (by decide +kernel) rfl rfl (Nat.le_of_ble_eq_true rfl) ?_
  show PZ p l e _ s m args below meth c D (b, 0) E k 1 _ 45 [.ref k] [] ((([(.inr (7, [.int 0, .ref (b + (k + 1)), .ref (b + (k + 3)), .ref (b + (k + 17)), .int 0, .int 0, .int 0, .int 0]) : va_E)] ++ zLan D (b + (k + 1))) ++ zNow D (b + (k + 3))) ++ [(.inl (D.2.1, 200, .inl (fun _ => 0)) : va_E)])
  refine Z_aload (i := 0) hC (by decide +kernel) (x := k) rfl ?_
  refine Z_iconst (n := -1) hC (-1) (by decide +kernel) (by decide) ?_
  refine Z_put (idx := 36) (i := 0) (ci := 7) (j := 5) (v := .int (-1)) (fs := [.int 0, .ref (b + (k + 1)), .ref (b + (k + 3)), .ref (b + (k + 17)), .int 0, .int 0, .int 0, .int 0]) hC (by decide +kernel) (by decide +kernel) rfl (by decide +kernel) rfl rfl (Nat.le_of_ble_eq_true rfl) ?_
  show PZ p l e _ s m args below meth c D (b, 0) E k 1 _ 50 [.ref k] [] ((([(.inr (7, [.int 0, .ref (b + (k + 1)), .ref (b + (k + 3)), .ref (b + (k + 17)), .int 0, .int (-1), .int 0, .int 0]) : va_E)] ++ zLan D (b + (k + 1))) ++ zNow D (b + (k + 3))) ++ [(.inl (D.2.1, 200, .inl (fun _ => 0)) : va_E)])
  refine Z_aload (i := 0) hC (by decide +kernel) (x := k) rfl ?_
  refine Z_iconst (n := 0) hC (0) (by decide +kernel) (by decide) ?_
  refine Z_put (idx := 39) (i := 0) (ci := 7) (j := 6) (v := .int 0) (fs := [.int 0, .ref (b + (k + 1)), .ref (b + (k + 3)), .ref (b + (k + 17)), .int 0, .int (-1), .int 0, .int 0]) hC (by decide +kernel) (by decide +kernel) rfl (by decide +kernel) rfl rfl (Nat.le_of_ble_eq_true rfl) ?_
  show PZ p l e _ s m args below meth c D (b, 0) E k 1 _ 55 [.ref k] [] ((([(.inr (7, [.int 0, .ref (b + (k + 1)), .ref (b + (k + 3)), .ref (b + (k + 17)), .int 0, .int (-1), .int 0, .int 0]) : va_E)] ++ zLan D (b + (k + 1))) ++ zNow D (b + (k + 3))) ++ [(.inl (D.2.1, 200, .inl (fun _ => 0)) : va_E)])
  refine Z_aload (i := 0) hC (by decide +kernel) (x := k) rfl ?_
  refine Z_iconst (n := 0) hC (0) (by decide +kernel) (by decide) ?_
  refine Z_put (idx := 42) (i := 0) (ci := 7) (j := 7) (v := .int 0) (fs := [.int 0, .ref (b + (k + 1)), .ref (b + (k + 3)), .ref (b + (k + 17)), .int 0, .int (-1), .int 0, .int 0]) hC (by decide +kernel) (by decide +kernel) rfl (by decide +kernel) rfl rfl (Nat.le_of_ble_eq_true rfl) ?_
  show PZ p l e _ s m args below meth c D (b, 0) E k 1 _ 60 [.ref k] [] ((([(.inr (7, [.int 0, .ref (b + (k + 1)), .ref (b + (k + 3)), .ref (b + (k + 17)), .int 0, .int (-1), .int 0, .int 0]) : va_E)] ++ zLan D (b + (k + 1))) ++ zNow D (b + (k + 3))) ++ [(.inl (D.2.1, 200, .inl (fun _ => 0)) : va_E)])
  exact Z_retE hC hr hlk (by decide +kernel) rfl rfl
