theorem W_sz {p : Program} {l : Launch} {e : Env} {R : Room} {s : State} {m : MethodId} {args : Array Value} {below : List Frame} {meth : Method} {c : Code} {H : Heap} {locs : List Loc} {cells slots : Nat} {Q : State → Prop} {g : JFrame} (kk : H.size ≤ s.heap.size + cells → W p l e R s m args below meth c H locs cells slots Q g) : W p l e R s m args below meth c H locs cells slots Q g :=
  fun T hT X => kk (by rw [← hT]; exact X.heapSize) T hT X
theorem wz_last {D : DD} {b k q : Nat} {E : Nat → va_E} {es : List va_E} {x : va_E} {H1 : Heap} (hP : va_P D.1 CL (wz b E k es ++ [(q, x)]) H1) (hD : va_D (fun q => b ≤ q) (wz b E k es ++ [(q, x)])) (hs : H1.size ≤ b + (k + es.length) + 1) : q = b + (k + es.length) := by
  have hl : (wz b E k es ++ [(q, x)])[k + es.length]? = some (q, x) := by
    rw [List.getElem?_append_right (by rw [wz_len]; exact Nat.le_refl _), wz_len, Nat.sub_self]; rfl
  have h1 : q < H1.size := (hP _ _ hl).lt
  have h2 : b ≤ q := hD.2 _ _ hl
  rcases Nat.lt_or_ge (q - b) (k + es.length) with h | h
  · have hj : (wz b E k es ++ [(q, x)])[q - b]? = some (b + (q - b), if q - b < k then E (q - b) else es.getD (q - b - k) eD) := by
      rw [List.getElem?_append_left (by rw [wz_len]; exact h), wz_get h]
    have := hD.1 _ _ _ _ hj hl (by show b + (q - b) = q; omega)
    omega
  · omega
theorem clN_le : ∀ c, c < 10 → clN c ≤ 700 := by decide +kernel
def rmC (M : MD) (mc : Nat) : Room := { frames := M.2.2.2.2.2.1, cells := mc, slots := 700 * mc, locals := M.2.2.2.2.2.2 }
def QZ (D : DD) (b : Nat) (E : Nat → va_E) (k : Nat) (es : List va_E) : Array Value → State → Outcome → State → Prop := fun _ st oc t => (oc = .returned none ∧ va_P D.1 CL (wz b E k es) t.heap) ∧ va_F (fun q => b ≤ q) st t
def PcZ (D : DD) (b : Nat) (E : Nat → va_E) (k ci : Nat) : State → Prop := fun U => U.heap.size = b + (k + 1) ∧ va_P D.1 CL (wz b E k [.inr (ci, dfl ci)]) U.heap ∧ KN D U
def Ctr (M : MD) (ci mc : Nat) (P : DD → Nat → List va_E) : Prop := ∀ (l : Launch) (D : DD) (b : Nat) (E : Nat → va_E) (k : Nat), Met l M.2.1 (wsM M) (rmC M mc) (va_Pc [.ref (b + k)] (PcZ D b E k ci)) (QZ D b E k (P D (b + k))) mc (700 * mc) (fun q => b ≤ q)
theorem PcZ_blind {D : DD} {b k ci : Nat} {E : Nat → va_E} {as : List Value} : FrameBlind (va_Pc as (PcZ D b E k ci)) := fun a U g mk q => by
  obtain ⟨q0, qs, qP, qK⟩ := q
  exact ⟨q0, qs, qP, KN.same (u := U) (U := U.calling g mk a) rfl qK⟩
section ZZ
variable {p : Program} {l : Launch} {e : Env} {R : Room} {s : State} {m : MethodId} {args : Array Value} {below : List Frame} {meth : Method} {c : Code} {D : DD} {B : Nat × Nat} {E : Nat → va_E} {k z0 : Nat} {Z : State → Prop} {cc : ByteArray} {mL own : Nat} {pc : Nat} {L st : List Value} {es : List va_E}
theorem Z_psh {ls : Array Slot} {locs : List Loc} {H1 : Heap} {q n pc' : Nat} {x : va_E} (hsz : s.heap.size = B.1 + (k + z0)) (hz : z0 ≤ es.length) (hn : n ≤ 700) (hP1 : va_P D.1 CL (wz B.1 E k es ++ [(q, x)]) H1) (hD1 : va_D (fun q => B.1 ≤ q) (wz B.1 E k es ++ [(q, x)])) (hS1 : va_S (fun q => B.1 ≤ q) s.heap H1 locs) (hl : lok B ls c.maxLocals L)
    (K : PZ p l e R s m args below meth c D B E k z0 Z pc' L (.ref (k + es.length) :: st) (es ++ [x])) : W p l e R s m args below meth c H1 locs (es.length - z0 + 1) (700 * (es.length - z0) + n) Z (F0 m pc' ls (.ref q :: st.map (cv B))) := by
  refine W_sz (fun hu => ?_)
  have hq := wz_last hP1 hD1 (by omega)
  subst hq
  rw [wz_push] at hP1
  have h9 := K H1 locs ls hP1 hS1 hl
  have hlen : (es ++ [x]).length = es.length + 1 := by simp
  rw [hlen] at h9
  refine W.widen ?_ ?_ h9
  · omega
  · omega
theorem Z_new (hC : CX p s m args c D cc mL own) (hsz : s.heap.size = B.1 + (k + z0)) (hz : z0 ≤ es.length) {idx q1 q2 q3 : Nat} (ci : Nat) (hd : decode cc pc = .ok (.new idx, 3)) (hci : ci < 10) (w1 : atB q1 (Cond.classLink (ownS own) idx (clC ci)) = true) (w2 : atB q2 (Cond.instantiable (clC ci) (clN ci)) = true) (w3 : atB q3 (Cond.initialized (clC ci)) = true) (hR : es.length - z0 + 1 ≤ R.cells) (hR2 : 700 * (es.length - z0 + 1) ≤ R.slots)
    (K : PZ p l e R s m args below meth c D B E k z0 Z (pc + 3) L (.ref (k + es.length) :: st) (es ++ [.inr (ci, dfl ci)])) : PZ p l e R s m args below meth c D B E k z0 Z pc L st es := by
  intro H locs ls hP hS hl
  obtain ⟨⟨hx, hb, hml, hown, hts⟩, hKK⟩ := id hC
  have h7 := clN_le ci hci
  exact va_new (ci := ci) (fs := dfl ci) (C := clC ci) (T := clT ci) (N := clN ci) hx hb hts (clW_ok hci) (clY ci) (clY_ok ci hci) hown (hts _ (atB_ok w1 rfl)) (hts _ (atB_ok w2 rfl)) (hts _ (atB_ok w3 rfl)) hKK.1 hP wz_D hS (fun q hq => by show B.1 ≤ q; omega) (CL_at hci) (fun j hj => dfl_ok hj) hR (by omega) hd (fun q H1 hP1 hD1 hS1 => Z_psh hsz hz h7 hP1 hD1 hS1 hl K)
theorem Z_newa (hC : CX p s m args c D cc mL own) (hsz : s.heap.size = B.1 + (k + z0)) (hz : z0 ≤ es.length) (N : Nat) {v : Int32} (hd : decode cc pc = .ok (.newarray .int, 2)) (hv : v = nI N) (hN : N ≤ 700) (hR : es.length - z0 + 1 ≤ R.cells) (hR2 : 700 * (es.length - z0 + 1) ≤ R.slots)
    (K : PZ p l e R s m args below meth c D B E k z0 Z (pc + 2) L (.ref (k + es.length) :: st) (es ++ [.inl (D.2.1, N, .inl (fun _ => 0))])) : PZ p l e R s m args below meth c D B E k z0 Z pc L (.int v :: st) es := by
  intro H locs ls hP hS hl
  obtain ⟨⟨hx, hb, hml, hown, hts⟩, hKK⟩ := id hC
  refine va_newa (atype := .int) (ty := .int) (N' := N) (a0 := (N, .inl (fun _ => 0))) hx hb (hts _ (atB_ok (p := 98) (by decide +kernel) rfl)) rfl hKK.1 hP wz_D hS (fun q hq => by show B.1 ≤ q; omega) (fun _ => rfl) (by rw [hv]; exact nI_pos (by omega)) (by rw [hv]; exact nI_clamp (by omega)) (by show N * 4 ≤ 536870912; omega) hR (by omega) hd (fun q cA H1 hK1 hP1 hD1 hS1 => ?_)
  have h1 : s.vm.findClass ("[" ++ FieldType.int.toString) = some cA := (hK1.2 3 (cA, .int) rfl).2
  have h2 : s.vm.findClass ("[" ++ FieldType.int.toString) = some D.2.1 := (hKK.1.2 0 (D.2.1, .int) rfl).2
  have h3 : cA = D.2.1 := Option.some.inj (h1.symm.trans h2)
  subst h3
  exact Z_psh hsz hz hN hP1 hD1 hS1 hl K
theorem Z_newz (hC : CX p s m args c D cc mL own) (hsz : s.heap.size = B.1 + (k + z0)) (hz : z0 ≤ es.length) (N : Nat) {v : Int32} (hd : decode cc pc = .ok (.newarray .boolean, 2)) (hv : v = nI N) (hN : N ≤ 700) (hR : es.length - z0 + 1 ≤ R.cells) (hR2 : 700 * (es.length - z0 + 1) ≤ R.slots)
    (K : PZ p l e R s m args below meth c D B E k z0 Z (pc + 2) L (.ref (k + es.length) :: st) (es ++ [.inl (D.2.2.1, N, .inl (fun _ => 0))])) : PZ p l e R s m args below meth c D B E k z0 Z pc L (.int v :: st) es := by
  intro H locs ls hP hS hl
  obtain ⟨⟨hx, hb, hml, hown, hts⟩, hKK⟩ := id hC
  refine va_newa (atype := .boolean) (ty := .boolean) (N' := N) (a0 := (N, .inl (fun _ => 0))) hx hb (hts _ (atB_ok (p := 286) (by decide +kernel) rfl)) rfl hKK.1 hP wz_D hS (fun q hq => by show B.1 ≤ q; omega) (fun _ => rfl) (by rw [hv]; exact nI_pos (by omega)) (by rw [hv]; exact nI_clamp (by omega)) (by show N * 1 ≤ 536870912; omega) hR (by omega) hd (fun q cA H1 hK1 hP1 hD1 hS1 => ?_)
  have h1 : s.vm.findClass ("[" ++ FieldType.boolean.toString) = some cA := (hK1.2 3 (cA, .boolean) rfl).2
  have h2 : s.vm.findClass ("[" ++ FieldType.boolean.toString) = some D.2.2.1 := (hKK.1.2 1 (D.2.2.1, .boolean) rfl).2
  have h3 : cA = D.2.2.1 := Option.some.inj (h1.symm.trans h2)
  subst h3
  exact Z_psh hsz hz hN hP1 hD1 hS1 hl K
theorem Z_anew (hC : CX p s m args c D cc mL own) (hsz : s.heap.size = B.1 + (k + z0)) (hz : z0 ≤ es.length) (N : Nat) {idx q1 : Nat} {v : Int32} (hd : decode cc pc = .ok (.anewarray idx, 3)) (hv : v = nI N) (hN : N ≤ 700) (w1 : atB q1 (Cond.classLink (ownS own) idx "ChronicleWar$Now") = true) (hR : es.length - z0 + 1 ≤ R.cells) (hR2 : 700 * (es.length - z0 + 1) ≤ R.slots)
    (K : PZ p l e R s m args below meth c D B E k z0 Z (pc + 3) L (.ref (k + es.length) :: st) (es ++ [.inl (D.2.2.2, N, .inr (.inr (.inr (.inr (fun _ => none)))))])) : PZ p l e R s m args below meth c D B E k z0 Z pc L (.int v :: st) es := by
  intro H locs ls hP hS hl
  obtain ⟨⟨hx, hb, hml, hown, hts⟩, hKK⟩ := id hC
  refine va_newq (C := "ChronicleWar$Now") (N' := N) hx hb hown (hts _ (atB_ok w1 rfl)) hKK.2.2 hKK.1 hP wz_D hS (fun q hq => by show B.1 ≤ q; omega) (by rw [hv]; exact nI_pos (by omega)) (by rw [hv]; exact nI_clamp (by omega)) (by omega) hR (by omega) hd (fun q cA H1 hK1 hP1 hD1 hS1 => ?_)
  obtain ⟨-, -, -, -, -, h1⟩ := (hK1.2 3 (cA, .object "ChronicleWar$Now") rfl).2
  obtain ⟨-, -, -, -, -, h2⟩ := (hKK.1.2 2 (D.2.2.2, .object "ChronicleWar$Now") rfl).2
  have h3 : cA = D.2.2.2 := Option.some.inj (h1.symm.trans h2)
  subst h3
  exact Z_psh hsz hz hN hP1 hD1 hS1 hl K
theorem Z_putF (hC : CX p s m args c D cc mL own) (hin : meth.name = "<init>") {idx i ci j : Nat} {v : Value} {fs : List Value} (hd : decode cc pc = .ok (.putfield idx, 3)) (hf : ftabB own idx ci j = true) (he : es[i]? = some (.inr (ci, fs))) (hfin : (clT ci j).2.2.2 = true) (hdecl : (clT ci j).1 = ownS own) (hn : narrow (clY ci j) (cv B v) = cv B v) (hfit : fits (clY ci j) (cv B v) = true) (hl2 : j < fs.length)
    (K : PZ p l e R s m args below meth c D B E k z0 Z (pc + 3) L st (es.set i (.inr (ci, fs.set j (cv B v))))) : PZ p l e R s m args below meth c D B E k z0 Z pc L (v :: .ref (k + i) :: st) es := by
  intro H locs ls hP hS hl
  obtain ⟨⟨hx, hb, hml, hown, hts⟩, hKK⟩ := id hC
  obtain ⟨f1, f2, f3⟩ := ftabB_ok hf
  refine va_putF (C := clC ci) (T := clT ci) (N := clN ci) (v := cv B v) hx hb hts (clW_ok f3) (clY ci) (clY_ok ci f3) (clM_ok ci f3) hown hKK.1 hP wz_D hS (k + i) (wz_at he) (CL_at f3) j f2 (hts _ f1) (fun x hx => hx) hfin hin hdecl (ty := clY ci j) (clY_ok ci f3 j f2) hn hfit hl2 hd (fun H1 locs1 hP1 _ hS1 => ?_)
  rw [wz_set he] at hP1
  have := K H1 locs1 ls hP1 hS1 hl
  rw [List.length_set] at this
  exact this
theorem Z_put (hC : CX p s m args c D cc mL own) {idx i ci j : Nat} {v : Value} {fs : List Value} (hd : decode cc pc = .ok (.putfield idx, 3)) (hf : ftabB own idx ci j = true) (he : es[i]? = some (.inr (ci, fs))) (hfin : (clT ci j).2.2.2 = false) (hn : narrow (clY ci j) (cv B v) = cv B v) (hfit : fits (clY ci j) (cv B v) = true) (hl2 : j < fs.length)
    (K : PZ p l e R s m args below meth c D B E k z0 Z (pc + 3) L st (es.set i (.inr (ci, fs.set j (cv B v))))) : PZ p l e R s m args below meth c D B E k z0 Z pc L (v :: .ref (k + i) :: st) es := by
  intro H locs ls hP hS hl
  obtain ⟨⟨hx, hb, hml, hown, hts⟩, hKK⟩ := id hC
  obtain ⟨f1, f2, f3⟩ := ftabB_ok hf
  refine va_put (C := clC ci) (T := clT ci) (N := clN ci) (v := cv B v) hx hb hts (clW_ok f3) (clY ci) (clY_ok ci f3) (clM_ok ci f3) hown hKK.1 hP wz_D hS (k + i) (wz_at he) (CL_at f3) j f2 (hts _ f1) (fun x hx => hx) hfin (ty := clY ci j) (clY_ok ci f3 j f2) hn hfit hl2 hd (fun H1 locs1 hP1 _ hS1 => ?_)
  rw [wz_set he] at hP1
  have := K H1 locs1 ls hP1 hS1 hl
  rw [List.length_set] at this
  exact this
theorem Z_get (hC : CX p s m args c D cc mL own) {idx i ci j : Nat} {v : Value} {fs : List Value} (hd : decode cc pc = .ok (.getfield idx, 3)) (hf : ftabB own idx ci j = true) (he : es[i]? = some (.inr (ci, fs))) (hv : fs[j]? = some (cv B v))
    (K : PZ p l e R s m args below meth c D B E k z0 Z (pc + 3) L (v :: st) es) : PZ p l e R s m args below meth c D B E k z0 Z pc L (.ref (k + i) :: st) es := by
  intro H locs ls hP hS hl
  obtain ⟨⟨hx, hb, hml, hown, hts⟩, hKK⟩ := id hC
  obtain ⟨f1, f2, f3⟩ := ftabB_ok hf
  exact va_get (C := clC ci) (T := clT ci) (N := clN ci) hx hb hts (clW_ok f3) hown hKK.1 hP (k + i) (wz_at he) (CL_at f3) j f2 (hts _ f1) (fun x hx => hx) hv hd (K H locs ls hP hS hl)
theorem Z_aast (hC : CX p s m args c D cc mL own) {ia iv n : Nat} {x : Int32} {f : Nat → Option Nat} {vs : List Value} (hd : decode cc pc = .ok (.aastore, 1)) (ha : es[ia]? = some (.inl (D.2.2.2, n, .inr (.inr (.inr (.inr f)))))) (hv : es[iv]? = some (.inr (4, vs))) (hin : vp_in x n)
    (K : PZ p l e R s m args below meth c D B E k z0 Z (pc + 1) L st (es.set ia (.inl (D.2.2.2, n, .inr (.inr (.inr (.inr (va_up f x.toNatClampNeg (some (B.1 + (k + iv))))))))))) : PZ p l e R s m args below meth c D B E k z0 Z pc L (.ref (k + iv) :: .int x :: .ref (k + ia) :: st) es := by
  intro H locs ls hP hS hl
  obtain ⟨⟨hx, hb, hml, hown, hts⟩, hKK⟩ := id hC
  refine va_astq hx hb hKK.1 hP wz_D hS (k + ia) 2 (k + iv) 4 (wz_at ha) (r := (clC 4, clT 4, clN 4)) rfl (wz_at hv) (CL_at (by decide)) hin hd (fun H1 locs1 hP1 _ hS1 => ?_)
  rw [wz_set ha] at hP1
  have := K H1 locs1 ls hP1 hS1 hl
  rw [List.length_set] at this
  exact this
theorem Z_iast (hC : CX p s m args c D cc mL own) {ia n : Nat} {x y : Int32} {f : Nat → Int32} (hd : decode cc pc = .ok (.iastore, 1)) (ha : es[ia]? = some (.inl (D.2.1, n, .inl f))) (hin : vp_in x n)
    (K : PZ p l e R s m args below meth c D B E k z0 Z (pc + 1) L st (es.set ia (.inl (D.2.1, n, .inl (upd f x.toNatClampNeg y))))) : PZ p l e R s m args below meth c D B E k z0 Z pc L (.int y :: .int x :: .ref (k + ia) :: st) es := by
  intro H locs ls hP hS hl
  obtain ⟨⟨hx, hb, hml, hown, hts⟩, hKK⟩ := id hC
  refine va_iast hx hb hKK.1 hP wz_D hS (k + ia) 0 (wz_at ha) rfl hin hd (fun H1 locs1 hP1 _ hS1 => ?_)
  rw [wz_set ha] at hP1
  have := K H1 locs1 ls hP1 hS1 hl
  rw [List.length_set] at this
  exact this
theorem wz_conv {i : Nat} {x y : va_E} {b : Nat} {H : Heap} (h : es[i]? = some x) (hc : ∀ H, va_at D.1 CL (b + (k + i), x) H → va_at D.1 CL (b + (k + i), y) H) (hP : va_P D.1 CL (wz b E k es) H) : va_P D.1 CL (wz b E k (es.set i y)) H := by
  rw [← wz_set h]
  intro j q hj
  by_cases e : k + i = j
  · subst e
    rw [List.getElem?_set_self (by rw [wz_len]; have := (List.getElem?_eq_some_iff.mp h).1; omega)] at hj
    cases hj
    exact hc H (hP _ _ (wz_at h))
  · rw [List.getElem?_set_ne e] at hj
    exact hP j q hj
theorem Z_conv {i : Nat} {x y : va_E} (h : es[i]? = some x) (hc : ∀ H, va_at D.1 CL (B.1 + (k + i), x) H → va_at D.1 CL (B.1 + (k + i), y) H) (K : PZ p l e R s m args below meth c D B E k z0 Z pc L st (es.set i y)) : PZ p l e R s m args below meth c D B E k z0 Z pc L st es := by
  intro H locs ls hP hS hl
  have := K H locs ls (wz_conv h hc hP) hS hl
  rw [List.length_set] at this
  exact this
theorem Z_call (hC : CX p s m args c D cc mL own) (hsz : s.heap.size = B.1 + (k + z0)) {N : MD} {ci mc idx q1 q2 q3 q4 : Nat} {P : DD → Nat → List va_E} {pre : List va_E} (hN : Ctr N ci mc P) (hz : z0 ≤ pre.length + 1) (hd : decode cc pc = .ok (.invokespecial idx, 3)) (hret : N.2.2.2.2.1 = none) (hlen : (P D (B.1 + (k + pre.length))).length = mc + 1)
    (w1 : atB q1 (Cond.code N.2.1 N.2.2.1 N.2.2.2.1 N.2.2.2.2.1) = true) (w2 : atB q2 (Cond.initialized N.2.1.cls) = true) (w3 : atB q3 (Cond.methodLink (ownS own) idx N.2.1) = true) (w4 : atB q4 (Cond.instanceMethod N.2.1) = true) (hnm : N.2.1.name = "<init>") (hdd : N.2.1.cls ≠ "java/lang/invoke/MethodHandle" ∧ N.2.1.cls ≠ "java/lang/invoke/VarHandle" ∧ (parseMethodDescriptor N.2.1.desc).map (fun d => d.parameters.length) = some 0) (hfr : N.2.2.2.2.2.1 + 1 ≤ R.frames) (hlo : 8 + (N.2.2.2.1 + 11) + N.2.2.2.2.2.2 ≤ R.locals) (hR : pre.length + 1 - z0 + mc ≤ R.cells) (hR2 : 700 * (pre.length + 1 - z0 + mc) ≤ R.slots) (hroom : roomB st = true)
    (K : PZ p l e R s m args below meth c D B E k z0 Z (pc + 3) L st (pre ++ P D (B.1 + (k + pre.length)))) : PZ p l e R s m args below meth c D B E k z0 Z pc L (.ref (k + pre.length) :: st) (pre ++ [.inr (ci, dfl ci)]) := by
  intro H locs ls hP hS hl
  obtain ⟨⟨hx, hb, hml, hown, hts⟩, hKK⟩ := id hC
  have hl1 : (pre ++ [(.inr (ci, dfl ci) : va_E)]).length = pre.length + 1 := by simp
  have hl2 : (pre ++ P D (B.1 + (k + pre.length))).length = pre.length + (mc + 1) := by rw [List.length_append, hlen]
  rw [hl1]
  refine W_sz (fun hu => ?_)
  have hsz2 : H.size = B.1 + (k + pre.length + 1) := by
    have h1 : (pre ++ [(.inr (ci, dfl ci) : va_E)])[pre.length]? = some (.inr (ci, dfl ci)) := by simp
    have h2 : B.1 + (k + pre.length) < H.size := (hP _ _ (wz_at h1)).lt
    omega
  have hP' : va_P D.1 CL (wz B.1 (subE E k (pre ++ [.inr (ci, dfl ci)])) (k + pre.length) [.inr (ci, dfl ci)]) H := by rw [wz_sub]; exact hP
  have hrun := va_runI (R := R) (locs := locs) (cells := pre.length + 1 - z0) (slots := 700 * (pre.length + 1 - z0)) (below := below) (meth := meth) (e := e) (g := F0 m pc ls (.ref (B.1 + (k + pre.length)) :: st.map (cv B))) (As := []) (rest := st.map (cv B)) (b := B.1 + (k + pre.length)) ⟨hx, hb, hml, hown, hts⟩ (hN l D B.1 (subE E k (pre ++ [.inr (ci, dfl ci)])) (k + pre.length))
    (cwI (maxL := N.2.2.2.1) (bytes := N.2.2.1) 0 hts (wsM_good (atB_ok w1 rfl)) (by unfold wsM; rw [hret]) rfl rfl (hts _ (atB_ok w2 rfl)) (hts _ (atB_ok w3 rfl)) (hts _ (atB_ok w4 rfl)) hnm hdd ⟨hfr, hlo⟩)
    ⟨PcZ_blind, fun U hU hW => ⟨rfl, by rw [hU]; exact hsz2, by rw [hU]; exact hP', KN.warm hW hKK⟩⟩ rfl rfl (by rw [hl.1.1]; exact hml) rfl (lv_room (room_cv hroom)) hd ⟨hR, by omega⟩
  intro T hT X
  obtain ⟨v1, st₀, t, T', L1, h0, X', hL, e1, e2, ⟨⟨hv, hbb⟩, hz1, hk⟩, st1⟩ := hrun T hT X
  cases hv
  rw [h0] at hz1 hk
  rw [wz_sub] at hbb
  have h9 := K T'.heap (locs ++ L1) ls (by rw [e1]; exact hbb)
    ⟨Nat.le_trans hS.1 (by rw [e1]; exact hz1), fun q h1 h2 => by rw [e1, hk q (Nat.lt_of_lt_of_le h1 hS.1) h2]; exact hS.2.1 q h1 h2, fun q hq => by
      rcases List.mem_append.mp hq with h | h
      · exact hS.2.2 q h
      · exact hL q h⟩ hl
  rw [hl2, show pre.length + (mc + 1) - z0 = pre.length + 1 - z0 + mc by omega, Nat.mul_add] at h9
  obtain ⟨t2, a1, b1⟩ := h9 T' rfl X'
  exact ⟨t2, st1 t2 a1, b1⟩
theorem Z_callN (hC : CX p s m args c D cc mL own) (hsz : s.heap.size = B.1 + (k + z0)) {N : MD} {ci mc idx q1 q2 q3 q4 : Nat} {P : DD → Nat → List va_E} {host : String} {pre : List va_E} (hN : Ctr N ci mc P) (hz : z0 ≤ pre.length + 1) (hd : decode cc pc = .ok (.invokespecial idx, 3)) (hret : N.2.2.2.2.1 = none) (hlen : (P D (B.1 + (k + pre.length))).length = mc + 1)
    (w1 : atB q1 (Cond.code N.2.1 N.2.2.1 N.2.2.2.1 N.2.2.2.2.1) = true) (w2 : atB q2 (Cond.initialized N.2.1.cls) = true) (w3 : atB q3 (Cond.methodLinkNest (ownS own) idx N.2.1 host) = true) (w4 : atB q4 (Cond.instanceMethod N.2.1) = true) (hnm : N.2.1.name = "<init>") (hdd : N.2.1.cls ≠ "java/lang/invoke/MethodHandle" ∧ N.2.1.cls ≠ "java/lang/invoke/VarHandle" ∧ (parseMethodDescriptor N.2.1.desc).map (fun d => d.parameters.length) = some 0) (hfr : N.2.2.2.2.2.1 + 1 ≤ R.frames) (hlo : 8 + (N.2.2.2.1 + 11) + N.2.2.2.2.2.2 ≤ R.locals) (hR : pre.length + 1 - z0 + mc ≤ R.cells) (hR2 : 700 * (pre.length + 1 - z0 + mc) ≤ R.slots) (hroom : roomB st = true)
    (K : PZ p l e R s m args below meth c D B E k z0 Z (pc + 3) L st (pre ++ P D (B.1 + (k + pre.length)))) : PZ p l e R s m args below meth c D B E k z0 Z pc L (.ref (k + pre.length) :: st) (pre ++ [.inr (ci, dfl ci)]) := by
  intro H locs ls hP hS hl
  obtain ⟨⟨hx, hb, hml, hown, hts⟩, hKK⟩ := id hC
  have hl1 : (pre ++ [(.inr (ci, dfl ci) : va_E)]).length = pre.length + 1 := by simp
  have hl2 : (pre ++ P D (B.1 + (k + pre.length))).length = pre.length + (mc + 1) := by rw [List.length_append, hlen]
  rw [hl1]
  refine W_sz (fun hu => ?_)
  have hsz2 : H.size = B.1 + (k + pre.length + 1) := by
    have h1 : (pre ++ [(.inr (ci, dfl ci) : va_E)])[pre.length]? = some (.inr (ci, dfl ci)) := by simp
    have h2 : B.1 + (k + pre.length) < H.size := (hP _ _ (wz_at h1)).lt
    omega
  have hP' : va_P D.1 CL (wz B.1 (subE E k (pre ++ [.inr (ci, dfl ci)])) (k + pre.length) [.inr (ci, dfl ci)]) H := by rw [wz_sub]; exact hP
  have hrun := va_runIN (R := R) (locs := locs) (cells := pre.length + 1 - z0) (slots := 700 * (pre.length + 1 - z0)) (below := below) (meth := meth) (e := e) (g := F0 m pc ls (.ref (B.1 + (k + pre.length)) :: st.map (cv B))) (As := []) (rest := st.map (cv B)) (b := B.1 + (k + pre.length)) ⟨hx, hb, hml, hown, hts⟩ (hN l D B.1 (subE E k (pre ++ [.inr (ci, dfl ci)])) (k + pre.length))
    ⟨va_cnB (maxL := N.2.2.2.1) (bytes := N.2.2.1) (ret := none) 0 hts (wsM_good (atB_ok w1 rfl)) (by unfold wsM; rw [hret]) rfl rfl (hKK.2.1 _ _ _ _ (List.mem_of_getElem? (of_decide_eq_true w3))) (hts _ (atB_ok w2 rfl)) hdd ⟨hfr, hlo⟩, hnm, hts _ (atB_ok w4 rfl)⟩
    ⟨PcZ_blind, fun U hU hW => ⟨rfl, by rw [hU]; exact hsz2, by rw [hU]; exact hP', KN.warm hW hKK⟩⟩ rfl rfl (by rw [hl.1.1]; exact hml) rfl (lv_room (room_cv hroom)) hd ⟨hR, by omega⟩
  intro T hT X
  obtain ⟨v1, st₀, t, T', L1, h0, X', hL, e1, e2, ⟨⟨hv, hbb⟩, hz1, hk⟩, st1⟩ := hrun T hT X
  cases hv
  rw [h0] at hz1 hk
  rw [wz_sub] at hbb
  have h9 := K T'.heap (locs ++ L1) ls (by rw [e1]; exact hbb)
    ⟨Nat.le_trans hS.1 (by rw [e1]; exact hz1), fun q h1 h2 => by rw [e1, hk q (Nat.lt_of_lt_of_le h1 hS.1) h2]; exact hS.2.1 q h1 h2, fun q hq => by
      rcases List.mem_append.mp hq with h | h
      · exact hS.2.2 q h
      · exact hL q h⟩ hl
  rw [hl2, show pre.length + (mc + 1) - z0 = pre.length + 1 - z0 + mc by omega, Nat.mul_add] at h9
  obtain ⟨t2, a1, b1⟩ := h9 T' rfl X'
  exact ⟨t2, st1 t2 a1, b1⟩
theorem Z_ret (hC : CX p s m args c D cc mL own) (hr : meth.sig.returnType = none) (hlk : meth.locks = false) {mc : Nat} (hd : decode cc pc = .ok (.return_, 1)) (hm : es.length - z0 = mc) : PZ p l e R s m args below meth c D B E k z0 (MQ below (QZ D B.1 E k es) args s mc (700 * mc) (fun q => B.1 ≤ q)) pc L [] es := by
  subst hm
  intro H locs ls hP hS hl
  exact W.vret hC.1.1 hC.1.2.1 hr (fun t h1 h2 => ⟨⟨rfl, by rw [h1]; exact hP⟩, hS.F h1⟩) hS.2.2 hd hlk
end ZZ
theorem Ctr.intro {M : MD} {ci mc : Nat} {P : DD → Nat → List va_E} (hM : enB M 1 = true) (hret : M.2.2.2.2.1 = none) (hnm : M.2.1.name = "<init>")
    (h : ∀ (p : Program) (l : Launch) (e : Env) (s : State) (m : MethodId) (args : Array Value) (below : List Frame) (meth : Method) (c : Code) (D : DD) (b : Nat) (E : Nat → va_E) (k : Nat), CX p s m args c D M.2.2.1 M.2.2.2.1 M.1 → meth.sig.returnType = none → meth.locks = false → meth.name = "<init>" → s.heap.size = b + (k + 1) →
      PZ p l e (rmC M mc) s m args below meth c D (b, 0) E k 1 (MQ below (QZ D b E k (P D (b + k))) args s mc (700 * mc) (fun q => b ≤ q)) 0 ([.ref k] ++ List.replicate (M.2.2.2.1 - 1) .null) [] [.inr (ci, dfl ci)]) : Ctr M ci mc P := by
  intro l D b E k
  simp only [enB, Bool.and_eq_true, decide_eq_true_eq] at hM
  obtain ⟨h1, h2, h3⟩ := hM
  refine Met.ofW (cc := M.2.2.1) (maxL := M.2.2.2.1) (ret := M.2.2.2.2.1) h1 rfl ?_
  intro p e s m args below meth c s₁ BB hml hv
  obtain ⟨rfl, hs, hP, hK⟩ := hv
  have hts0 := atoms_spec (ws := wsM M) BB.pre
  have hts : ∀ w ∈ tg, w.before ([Value.ref (b + k)]).toArray s = true := fun w hw => hts0 w (List.mem_cons_of_mem _ hw)
  have hown : s.vm.findClass M.2.1.cls = some m.cls := findClass_of_methodNamed BB.named
  have hin : meth.name = "<init>" := (name_of_methodNamed BB.named BB.method).1.trans hnm
  have hl := lv_entry ([Value.ref (b + k)]) (n := M.2.2.2.1) h3
  rw [lg_entry_eq]
  generalize (lg_sl ([Value.ref (b + k)]) ++ List.replicate (M.2.2.2.1 - (lg_sl ([Value.ref (b + k)])).length) Slot.unset).toArray = ls at hl ⊢
  refine h p l e s m _ below meth c D b E k ⟨⟨BB.exec, BB.bytes, hml, by rw [h2]; exact hown, hts⟩, hK⟩ (by rw [← hret]; exact BB.returns) BB.notSynchronized hin hs s.heap [] ls hP va_S.rf ?_
  rw [hml]
  refine ⟨⟨hl.1, hl.2.1, fun q hq => ?_⟩, fun w hw => ?_, ?_⟩
  · obtain ⟨i, w, e1, e2, rfl⟩ := (lsl_mem (b, 0) _ 0 q).mp hq
    by_cases hi : i < 1
    · rw [List.getElem?_append_left (by simpa using hi)] at e1
      have : i = 0 := by omega
      subst this
      simp at e1
      subst e1
      exact hl.2.2 _ (List.mem_cons_self)
    · rw [List.getElem?_append_right (by simp; omega)] at e1
      exact absurd (List.eq_of_mem_replicate (List.mem_of_getElem? e1)) e2
  · rcases List.mem_append.mp hw with hw | hw
    · simp at hw; rw [hw]; rfl
    · rw [List.eq_of_mem_replicate hw]; rfl
  · rw [List.length_append, List.length_replicate]; simp; omega
