abbrev KT : Type := Nat → List Value → List Value → St → Prop
def gv (σ : St) (a j : Nat) (o : Option (Option Nat)) : Value := match o with
  | none => .int (σ.1 a j)
  | some none => .long (σ.2 a)
  | some (some 0) => .int (σ.1 a j)
  | some (some (o + 1)) => .ref (a + (o + 1))
theorem cv_gv (B : Nat × Nat) (σ : St) (a c j : Nat) : cv B (gv σ a j (fk c j)) = fv B.1 σ a c j := by
  unfold gv fv
  rcases fk c j with _ | _ | _ | o <;> rfl
def pf (σ : St) (st : List Value) (c j : Nat) (o : Option (Option Nat)) (k : List Value → St → Prop) : Prop := match o with
  | none => pai st (fun a x st' => ob a = (0, c) ∧ k st' (pi σ a j x))
  | some none => pal st (fun a x st' => ob a = (0, c) ∧ k st' (pl σ a x))
  | some (some 0) => pai st (fun a x st' => (x = 0 ∨ x = 1) ∧ ob a = (0, c) ∧ k st' (pi σ a j x))
  | some (some (_ + 1)) => False
def ab (op : Op) (L st : List Value) (σ : St) (K : KT) (Rt : Option Value → St → Prop) (k : List Value → List Value → St → Prop) : Prop := match op with
  | (.iconst _, _, _, _, _, v) => k L (.int v :: st) σ
  | (.bipush _, _, _, _, _, v) => k L (.int v :: st) σ
  | (.sipush _, _, _, _, _, v) => k L (.int v :: st) σ
  | (.ldc _, _, _, _, _, v) => k L (.int v :: st) σ
  | (.ldc_w _, _, _, _, _, v) => k L (.int v :: st) σ
  | (.lconst _, _, c, _) => k L (.long (lN c) :: st) σ
  | (.ldc2_w _, _, c, _) => k L (.long (lN c) :: st) σ
  | (.iload _, _, c, _) => li (lg L c) (fun x => k L (.int x :: st) σ)
  | (.iload_n _, _, c, _) => li (lg L c) (fun x => k L (.int x :: st) σ)
  | (.aload _, _, c, _) => la (lg L c) (fun x => k L (.ref x :: st) σ)
  | (.aload_n _, _, c, _) => la (lg L c) (fun x => k L (.ref x :: st) σ)
  | (.istore _, _, c, _) => p1 st (fun x st' => k (lset L c (.int x)) st' σ)
  | (.istore_n _, _, c, _) => p1 st (fun x st' => k (lset L c (.int x)) st' σ)
  | (.iinc _ _, _, c, _, _, v) => li (lg L c) (fun x => k (lset L c (.int (x + v))) st σ)
  | (.iadd, _) => p2 st (fun x y st' => k L (.int (x + y) :: st') σ)
  | (.isub, _) => p2 st (fun x y st' => k L (.int (x - y) :: st') σ)
  | (.imul, _) => p2 st (fun x y st' => k L (.int (x * y) :: st') σ)
  | (.iand, _) => p2 st (fun x y st' => k L (.int (x &&& y) :: st') σ)
  | (.ior, _) => p2 st (fun x y st' => k L (.int (x ||| y) :: st') σ)
  | (.ixor, _) => p2 st (fun x y st' => k L (.int (x ^^^ y) :: st') σ)
  | (.ishl, _) => p2 st (fun x y st' => k L (.int (x <<< (y &&& 31)) :: st') σ)
  | (.ishr, _) => p2 st (fun x y st' => k L (.int (x >>> (y &&& 31)) :: st') σ)
  | (.iushr, _) => p2 st (fun x y st' => k L (.int (x.toUInt32 >>> (y.toUInt32 &&& Int32.toUInt32 31)).toInt32 :: st') σ)
  | (.idiv, _) => p2 st (fun x y st' => ¬ y = 0 ∧ k L (.int (x / y) :: st') σ)
  | (.irem, _) => p2 st (fun x y st' => ¬ y = 0 ∧ k L (.int (x - x / y * y) :: st') σ)
  | (.ineg, _) => p1 st (fun x st' => k L (.int (-x) :: st') σ)
  | (.ladd, _) => p2l st (fun x y st' => k L (.long (x + y) :: st') σ)
  | (.dup, _) => pa st (fun a st' => k L (.ref a :: .ref a :: st') σ)
  | (.dup2, _) => pai st (fun a i st' => k L (.int i :: .ref a :: .int i :: .ref a :: st') σ)
  | (.pop, _) => p1 st (fun _ st' => k L st' σ)
  | (.getfield _, _, c, j, o, _) => pa st (fun a st' => ob a = (0, c) ∧ k L (gv σ a j o :: st') σ)
  | (.putfield _, _, c, j, o, _) => pf σ st c j o (fun st' σ' => k L st' σ')
  | (.iaload, _) => pai st (fun a i st' => vp_in i (al a) ∧ k L (.int (σ.1 a i.toNatClampNeg) :: st') σ)
  | (.baload, _) => pai st (fun a i st' => vp_in i (zl a) ∧ k L (.int (σ.1 a i.toNatClampNeg) :: st') σ)
  | (.aaload, _) => pai st (fun a i st' => vp_in i (rl a) ∧ k L (.ref (a + 1 + 14 * i.toNatClampNeg) :: st') σ)
  | (.iastore, _) => paii st (fun a i x st' => vp_in i (al a) ∧ k L st' (pi σ a i.toNatClampNeg x))
  | (.bastore, _) => paii st (fun a i x st' => vp_in i (zl a) ∧ (x = 0 ∨ x = 1) ∧ k L st' (pi σ a i.toNatClampNeg x))
  | (.arraylength, _) => pa st (fun a st' => (ob a).1 = 1 ∧ k L (.int (nI (ob a).2) :: st') σ)
  | (.goto _, _, c, _) => K c L st σ
  | (.ifCond .eq _, _, c, j, _) => p1 st (fun x st' => (x = 0 → K c L st' σ) ∧ (¬ x = 0 → K j L st' σ))
  | (.ifCond .ne _, _, c, j, _) => p1 st (fun x st' => (¬ x = 0 → K c L st' σ) ∧ (x = 0 → K j L st' σ))
  | (.ifCond .lt _, _, c, j, _) => p1 st (fun x st' => (x < 0 → K c L st' σ) ∧ (¬ x < 0 → K j L st' σ))
  | (.ifCond .ge _, _, c, j, _) => p1 st (fun x st' => (0 ≤ x → K c L st' σ) ∧ (¬ 0 ≤ x → K j L st' σ))
  | (.ifCond .gt _, _, c, j, _) => p1 st (fun x st' => (0 < x → K c L st' σ) ∧ (¬ 0 < x → K j L st' σ))
  | (.ifCond .le _, _, c, j, _) => p1 st (fun x st' => (x ≤ 0 → K c L st' σ) ∧ (¬ x ≤ 0 → K j L st' σ))
  | (.if_icmp .eq _, _, c, j, _) => p2 st (fun x y st' => (x = y → K c L st' σ) ∧ (¬ x = y → K j L st' σ))
  | (.if_icmp .ne _, _, c, j, _) => p2 st (fun x y st' => (¬ x = y → K c L st' σ) ∧ (x = y → K j L st' σ))
  | (.if_icmp .lt _, _, c, j, _) => p2 st (fun x y st' => (x < y → K c L st' σ) ∧ (¬ x < y → K j L st' σ))
  | (.if_icmp .ge _, _, c, j, _) => p2 st (fun x y st' => (y ≤ x → K c L st' σ) ∧ (¬ y ≤ x → K j L st' σ))
  | (.if_icmp .gt _, _, c, j, _) => p2 st (fun x y st' => (y < x → K c L st' σ) ∧ (¬ y < x → K j L st' σ))
  | (.if_icmp .le _, _, c, j, _) => p2 st (fun x y st' => (x ≤ y → K c L st' σ) ∧ (¬ x ≤ y → K j L st' σ))
  | (.ireturn, _, 0, _) => p1 st (fun x st' => st' = [] ∧ Rt (some (.int x)) σ)
  | (.ireturn, _, _, _) => p1 st (fun x st' => st' = [] ∧ (x = 0 ∨ x = 1) ∧ Rt (some (.int x)) σ)
  | (.lreturn, _) => (match st with
    | [.long x] => Rt (some (.long x)) σ
    | _ => False)
  | (.return_, _) => st = [] ∧ Rt none σ
  | _ => False
def opOk (own mL : Nat) (ret : Option FieldType) (pc : Nat) (op : Op) : Bool := match op with
  | (.iconst n, len, _, _, _, v) => decide (len = 1 ∧ Int32.ofInt n = v)
  | (.bipush n, len, _, _, _, v) => decide (len = 2 ∧ (Int8.ofInt n).toInt32 = v)
  | (.sipush n, len, _, _, _, v) => decide (len = 3 ∧ (Int16.ofInt n).toInt32 = v)
  | (.ldc n, len, _, _, _, v) => decide (len = 2 ∧ ctabB own n v = true)
  | (.ldc_w n, len, _, _, _, v) => decide (len = 3 ∧ ctabB own n v = true)
  | (.lconst n, len, c, _) => decide (len = 1 ∧ n.val = c)
  | (.ldc2_w n, len, c, _) => decide (len = 3 ∧ ltabB own n c = true)
  | (.iload i, len, c, _) => decide (len = 2 ∧ i = c)
  | (.iload_n i, len, c, _) => decide (len = 1 ∧ i.val = c)
  | (.aload i, len, c, _) => decide (len = 2 ∧ i = c)
  | (.aload_n i, len, c, _) => decide (len = 1 ∧ i.val = c)
  | (.istore i, len, c, _) => decide (len = 2 ∧ i = c ∧ c < mL)
  | (.istore_n i, len, c, _) => decide (len = 1 ∧ i.val = c ∧ c < mL)
  | (.iinc i n, len, c, _, _, v) => decide (len = 3 ∧ i = c ∧ c < mL ∧ Int32.ofInt n = v)
  | (.iadd, len, _) => decide (len = 1)
  | (.isub, len, _) => decide (len = 1)
  | (.imul, len, _) => decide (len = 1)
  | (.iand, len, _) => decide (len = 1)
  | (.ior, len, _) => decide (len = 1)
  | (.ixor, len, _) => decide (len = 1)
  | (.ishl, len, _) => decide (len = 1)
  | (.ishr, len, _) => decide (len = 1)
  | (.iushr, len, _) => decide (len = 1)
  | (.idiv, len, _) => decide (len = 1)
  | (.irem, len, _) => decide (len = 1)
  | (.ineg, len, _) => decide (len = 1)
  | (.ladd, len, _) => decide (len = 1)
  | (.dup, len, _) => decide (len = 1)
  | (.dup2, len, _) => decide (len = 1)
  | (.pop, len, _) => decide (len = 1)
  | (.getfield i, len, c, j, o, _) => decide (len = 3 ∧ ftabB own i c j = true ∧ fk c j = o)
  | (.putfield i, len, c, j, o, _) => decide (len = 3 ∧ ftabB own i c j = true ∧ fk c j = o ∧ (clT c j).2.2.2 = false ∧ clY c j = (match o with | none => .int | some none => .long | _ => .boolean) ∧ (List.range (clN c)).all (fun i => decide (fk c i = some none → o = some none → i = j)) = true)
  | (.iaload, len, _) => decide (len = 1)
  | (.baload, len, _) => decide (len = 1)
  | (.aaload, len, _) => decide (len = 1)
  | (.iastore, len, _) => decide (len = 1)
  | (.bastore, len, _) => decide (len = 1)
  | (.arraylength, len, _) => decide (len = 1)
  | (.goto off, len, c, _) => decide (len = 3 ∧ (pc : Int) + off = (c : Int))
  | (.ifCond _ off, len, c, j, _) => decide (len = 3 ∧ (pc : Int) + off = (c : Int) ∧ pc + 3 = j)
  | (.if_icmp _ off, len, c, j, _) => decide (len = 3 ∧ (pc : Int) + off = (c : Int) ∧ pc + 3 = j)
  | (.ireturn, len, 0, _) => decide (len = 1 ∧ ret = some .int)
  | (.ireturn, len, _, _) => decide (len = 1 ∧ ret = some .boolean)
  | (.lreturn, len, _) => decide (len = 1 ∧ ret = some .long)
  | (.return_, len, _) => decide (len = 1 ∧ ret = none)
  | _ => false
def PX (p : Program) (l : Launch) (e : Env) (R : Room) (s : State) (m : MethodId) (args : Array Value) (below : List Frame) (meth : Method) (c : Code) (D : DD) (B : Nat × Nat) (k0 n0 : Nat) (Z : State → Prop) : KT := fun pc L st σ =>
  ∀ (H : Heap) (locs : List Loc) (ls : Array Slot), va_P D.1 CL (wl D B.1 σ) H → va_S (fun q => B.1 ≤ q) s.heap H locs → lok B ls c.maxLocals L → W p l e R s m args below meth c H locs k0 n0 Z (F0 m pc ls (st.map (cv B)))
def KN (D : DD) (U : State) : Prop := va_K D.1 CL (tysD D) U ∧ (∀ a i x h, Cond.methodLinkNest a i x h ∈ lw_tbl → va_Nw (.methodLinkNest a i x h) U) ∧ va_AO "ChronicleWar$Now" U
theorem KN.warm {D : DD} {s U : State} (hW : s.WarmedH U.vm) (h : KN D s) : KN D U := ⟨va_K.moved hW.alike h.1, fun a i x n hm => va_Nw.warmM hW (h.2.1 a i x n hm), va_AO.moved hW.alike h.2.2⟩
theorem KN.same {D : DD} {u U : State} (hv : u.vm = U.vm) (h : KN D u) : KN D U := ⟨va_K.moved (by rw [hv]; exact Vm.Alike.refl _) h.1, fun a i x n hm => va_Nw.same rfl hv (h.2.1 a i x n hm), va_AO.moved (by rw [hv]; exact Vm.Alike.refl _) h.2.2⟩
def CX (p : Program) (s : State) (m : MethodId) (args : Array Value) (c : Code) (D : DD) (cc : ByteArray) (nL own : Nat) : Prop :=
  (p.tables.exec = Jvm.exec ∧ c.code = cc ∧ c.maxLocals = nL ∧ s.vm.findClass (ownS own) = some m.cls ∧ ∀ w ∈ tg, w.before args s = true) ∧ KN D s
section ABS
variable {p : Program} {l : Launch} {e : Env} {R : Room} {s : State} {m : MethodId} {args : Array Value} {below : List Frame} {meth : Method} {c : Code} {D : DD} {B : Nat × Nat} {k0 n0 : Nat} {Z : State → Prop} {cc : ByteArray} {mL own : Nat} {ret : Option FieldType}
def RXT (p : Program) (l : Launch) (e : Env) (R : Room) (s : State) (m : MethodId) (args : Array Value) (below : List Frame) (meth : Method) (c : Code) (D : DD) (B : Nat × Nat) (k0 n0 : Nat) (Z : State → Prop) (cc : ByteArray) (ret : Option FieldType) (Rt : Option Value → St → Prop) : Prop :=
  (∀ pc L x σ, decode cc pc = .ok (.ireturn, 1) → (ret = some .int ∨ ret = some .boolean ∧ (x = 0 ∨ x = 1)) → Rt (some (.int x)) σ → PX p l e R s m args below meth c D B k0 n0 Z pc L [.int x] σ) ∧
  (∀ pc L x σ, decode cc pc = .ok (.lreturn, 1) → ret = some .long → Rt (some (.long x)) σ → PX p l e R s m args below meth c D B k0 n0 Z pc L [.long x] σ) ∧
  (∀ pc L σ, decode cc pc = .ok (.return_, 1) → ret = none → Rt none σ → PX p l e R s m args below meth c D B k0 n0 Z pc L [] σ)
set_option maxHeartbeats 4000000 in
theorem ab_sound (hC : CX p s m args c D cc mL own) {pc : Nat} {L st : List Value} {σ : St} {K : KT} {Rt : Option Value → St → Prop} {k : List Value → List Value → St → Prop} (op : Op) (hd : decode cc pc = .ok (op.1, op.2.1)) (ho : opOk own mL ret pc op = true)
    (h : ab op L st σ K Rt k) (hK : ∀ pc L st σ, K pc L st σ → PX p l e R s m args below meth c D B k0 n0 Z pc L st σ) (hk : ∀ L' st' σ', k L' st' σ' → PX p l e R s m args below meth c D B k0 n0 Z (pc + op.2.1) L' st' σ')
    (hR : RXT p l e R s m args below meth c D B k0 n0 Z cc ret Rt) : PX p l e R s m args below meth c D B k0 n0 Z pc L st σ := by
  obtain ⟨⟨hx, hb, hml, hown, hts⟩, hKK, -⟩ := id hC
  obtain ⟨i, len, c1, j, o, v⟩ := op
  dsimp only at hd hk
  cases i with
  | iconst n =>
    obtain ⟨rfl, rfl⟩ := of_decide_eq_true ho
    intro H locs ls hP hS hl
    exact lv_iconst hx hb hd rfl (hk _ _ _ h H locs ls hP hS hl)
  | bipush n =>
    obtain ⟨rfl, rfl⟩ := of_decide_eq_true ho
    intro H locs ls hP hS hl
    exact lv_bipush hx hb hd rfl (hk _ _ _ h H locs ls hP hS hl)
  | sipush n =>
    obtain ⟨rfl, rfl⟩ := of_decide_eq_true ho
    intro H locs ls hP hS hl
    exact lv_sipush hx hb hd rfl (hk _ _ _ h H locs ls hP hS hl)
  | ldc n =>
    obtain ⟨rfl, h1⟩ := of_decide_eq_true ho
    intro H locs ls hP hS hl
    exact lv_ldc hx hb hown (hts _ (ctabB_ok h1)) hd (hk _ _ _ h H locs ls hP hS hl)
  | ldc_w n =>
    obtain ⟨rfl, h1⟩ := of_decide_eq_true ho
    intro H locs ls hP hS hl
    exact lv_ldcw hx hb hown (hts _ (ctabB_ok h1)) hd (hk _ _ _ h H locs ls hP hS hl)
  | lconst n =>
    obtain ⟨rfl, rfl⟩ := of_decide_eq_true ho
    intro H locs ls hP hS hl
    exact lv_lconst hx hb hd rfl (hk _ _ _ h H locs ls hP hS hl)
  | ldc2_w n =>
    obtain ⟨rfl, h1⟩ := of_decide_eq_true ho
    intro H locs ls hP hS hl
    exact lv_ldc2 hx hb hown (hts _ (ltabB_ok h1)) hd (hk _ _ _ h H locs ls hP hS hl)
  | iload n =>
    obtain ⟨rfl, rfl⟩ := of_decide_eq_true ho
    obtain ⟨x, h1, h⟩ := li_inv h
    intro H locs ls hP hS hl
    exact lv_iload hx hb hd (hl.get h1 (fun z => by cases z)) (hk _ _ _ h H locs ls hP hS hl)
  | iload_n n =>
    obtain ⟨rfl, rfl⟩ := of_decide_eq_true ho
    obtain ⟨x, h1, h⟩ := li_inv h
    intro H locs ls hP hS hl
    exact lv_iload_n hx hb hd rfl (hl.get h1 (fun z => by cases z)) (hk _ _ _ h H locs ls hP hS hl)
  | aload n =>
    obtain ⟨rfl, rfl⟩ := of_decide_eq_true ho
    obtain ⟨x, h1, h⟩ := la_inv h
    intro H locs ls hP hS hl
    exact lv_aload hx hb hd (hl.get h1 (fun z => by cases z)) (hk _ _ _ h H locs ls hP hS hl)
  | aload_n n =>
    obtain ⟨rfl, rfl⟩ := of_decide_eq_true ho
    obtain ⟨x, h1, h⟩ := la_inv h
    intro H locs ls hP hS hl
    exact lv_aload_n hx hb hd rfl (hl.get h1 (fun z => by cases z)) (hk _ _ _ h H locs ls hP hS hl)
  | istore n =>
    obtain ⟨rfl, rfl, h2⟩ := of_decide_eq_true ho
    obtain ⟨x, st', rfl, h⟩ := p1_inv h
    intro H locs ls hP hS hl
    exact lv_istore hx hb hd hl.1 (by rw [hml]; exact h2) rfl (fun ls' h' => hk _ _ _ h H locs ls' hP hS (hl.conv (v := .int x) rfl h'))
  | istore_n n =>
    obtain ⟨rfl, rfl, h2⟩ := of_decide_eq_true ho
    obtain ⟨x, st', rfl, h⟩ := p1_inv h
    intro H locs ls hP hS hl
    exact lv_istore_n hx hb hd rfl hl.1 (by rw [hml]; exact h2) rfl (fun ls' h' => hk _ _ _ h H locs ls' hP hS (hl.conv (v := .int x) rfl h'))
  | iinc n q =>
    obtain ⟨rfl, rfl, h2, rfl⟩ := of_decide_eq_true ho
    obtain ⟨x, h1, h⟩ := li_inv h
    intro H locs ls hP hS hl
    have hm : (n, Value.int x) ∈ lsl B 0 L := (lsl_mem B L 0 _).mpr ⟨n, .int x, lg_at L n _ h1 (fun z => by cases z), (fun z => by cases z), by rw [Nat.zero_add]; rfl⟩
    obtain ⟨kk, hkk⟩ := List.getElem?_of_mem hm
    exact lv_iinc hx hb hd hl.1 hkk rfl (by rw [hml]; exact h2) rfl (fun ls' h' => hk _ _ _ h H locs ls' hP hS (hl.conv (v := .int (x + Int32.ofInt q)) rfl h'))
  | iadd =>
    cases of_decide_eq_true ho
    obtain ⟨x, y, st', rfl, h⟩ := p2_inv h
    intro H locs ls hP hS hl
    exact lv_iadd hx hb hd (hk _ _ _ h H locs ls hP hS hl)
  | isub =>
    cases of_decide_eq_true ho
    obtain ⟨x, y, st', rfl, h⟩ := p2_inv h
    intro H locs ls hP hS hl
    exact lv_isub hx hb hd (hk _ _ _ h H locs ls hP hS hl)
  | imul =>
    cases of_decide_eq_true ho
    obtain ⟨x, y, st', rfl, h⟩ := p2_inv h
    intro H locs ls hP hS hl
    exact lv_imul hx hb hd (hk _ _ _ h H locs ls hP hS hl)
  | iand =>
    cases of_decide_eq_true ho
    obtain ⟨x, y, st', rfl, h⟩ := p2_inv h
    intro H locs ls hP hS hl
    exact lv_iand hx hb hd (hk _ _ _ h H locs ls hP hS hl)
  | ior =>
    cases of_decide_eq_true ho
    obtain ⟨x, y, st', rfl, h⟩ := p2_inv h
    intro H locs ls hP hS hl
    exact lv_ior hx hb hd (hk _ _ _ h H locs ls hP hS hl)
  | ixor =>
    cases of_decide_eq_true ho
    obtain ⟨x, y, st', rfl, h⟩ := p2_inv h
    intro H locs ls hP hS hl
    exact lv_ixor hx hb hd (hk _ _ _ h H locs ls hP hS hl)
  | ishl =>
    cases of_decide_eq_true ho
    obtain ⟨x, y, st', rfl, h⟩ := p2_inv h
    intro H locs ls hP hS hl
    exact lv_ishl hx hb hd (hk _ _ _ h H locs ls hP hS hl)
  | ishr =>
    cases of_decide_eq_true ho
    obtain ⟨x, y, st', rfl, h⟩ := p2_inv h
    intro H locs ls hP hS hl
    exact lv_ishr hx hb hd (hk _ _ _ h H locs ls hP hS hl)
  | iushr =>
    cases of_decide_eq_true ho
    obtain ⟨x, y, st', rfl, h⟩ := p2_inv h
    intro H locs ls hP hS hl
    exact lv_iushr hx hb hd rfl (hk _ _ _ h H locs ls hP hS hl)
  | idiv =>
    cases of_decide_eq_true ho
    obtain ⟨x, y, st', rfl, h0, h⟩ := p2_inv h
    intro H locs ls hP hS hl
    exact lv_idiv hx hb hd h0 (hk _ _ _ h H locs ls hP hS hl)
  | irem =>
    cases of_decide_eq_true ho
    obtain ⟨x, y, st', rfl, h0, h⟩ := p2_inv h
    intro H locs ls hP hS hl
    exact lv_irem hx hb hd h0 (hk _ _ _ h H locs ls hP hS hl)
  | ineg =>
    cases of_decide_eq_true ho
    obtain ⟨x, st', rfl, h⟩ := p1_inv h
    intro H locs ls hP hS hl
    exact lv_ineg hx hb hd (hk _ _ _ h H locs ls hP hS hl)
  | ladd =>
    cases of_decide_eq_true ho
    obtain ⟨x, y, st', rfl, h⟩ := p2l_inv h
    intro H locs ls hP hS hl
    exact lv_ladd hx hb hd (hk _ _ _ h H locs ls hP hS hl)
  | dup =>
    cases of_decide_eq_true ho
    obtain ⟨x, st', rfl, h⟩ := pa_inv h
    intro H locs ls hP hS hl
    exact lv_dup hx hb hd rfl (hk _ _ _ h H locs ls hP hS hl)
  | dup2 =>
    cases of_decide_eq_true ho
    obtain ⟨x, y, st', rfl, h⟩ := pai_inv h
    intro H locs ls hP hS hl
    exact lv_dup2_11 hx hb hd rfl rfl (hk _ _ _ h H locs ls hP hS hl)
  | pop =>
    cases of_decide_eq_true ho
    obtain ⟨x, st', rfl, h⟩ := p1_inv h
    intro H locs ls hP hS hl
    exact lv_pop (va := .int x) hx hb hd rfl (hk _ _ _ h H locs ls hP hS hl)
  | getfield n =>
    obtain ⟨rfl, h1, rfl⟩ := of_decide_eq_true ho
    obtain ⟨a, st', rfl, h2, h⟩ := pa_inv h
    obtain ⟨f1, f2, f3⟩ := ftabB_ok h1
    intro H locs ls hP hS hl
    refine va_get (C := clC c1) (T := clT c1) (N := clN c1) hx hb hts (clW_ok f3) hown hKK hP a (at_ob D B.1 σ h2) (CL_at f3) j f2 (hts _ f1) (fun x hx => hx) (fv_at B.1 σ a c1 f2) hd ?_
    have := hk _ _ _ h H locs ls hP hS hl
    rw [List.map_cons, cv_gv] at this
    exact this
  | putfield n =>
    obtain ⟨rfl, h1, rfl, h4, h5, h6⟩ := of_decide_eq_true ho
    obtain ⟨f1, f2, f3⟩ := ftabB_ok h1
    intro H locs ls hP hS hl
    rcases hf : fk c1 j with _ | _ | _ | o
    · rw [hf] at h5
      simp only [ab, hf, pf] at h
      obtain ⟨a, x, st', rfl, h2, h⟩ := pai_inv h
      refine va_put (C := clC c1) (T := clT c1) (N := clN c1) (v := .int x) hx hb hts (clW_ok f3) (clY c1) (clY_ok c1 f3) (clM_ok c1 f3) hown hKK hP (wl_D D B.1 σ) hS a (at_ob D B.1 σ h2) (CL_at f3) j f2 (hts _ f1) (fun x hx => hx) h4 (ty := .int) (by rw [clY_ok c1 f3 j f2, h5]) rfl rfl (by simp [f2]) hd (fun H1 locs1 hP1 _ hS1 => ?_)
      rw [wl_pi_ob h2 (Or.inl hf)] at hP1
      exact hk _ _ _ h H1 locs1 ls hP1 hS1 hl
    · rw [hf] at h5
      simp only [ab, hf, pf] at h
      obtain ⟨a, x, st', rfl, h2, h⟩ := pal_inv h
      refine va_put (C := clC c1) (T := clT c1) (N := clN c1) (v := .long x) hx hb hts (clW_ok f3) (clY c1) (clY_ok c1 f3) (clM_ok c1 f3) hown hKK hP (wl_D D B.1 σ) hS a (at_ob D B.1 σ h2) (CL_at f3) j f2 (hts _ f1) (fun x hx => hx) h4 (ty := .long) (by rw [clY_ok c1 f3 j f2, h5]) rfl rfl (by simp [f2]) hd (fun H1 locs1 hP1 _ hS1 => ?_)
      rw [wl_pl_ob h2 hf (fun i hi hi2 => by
        have := List.all_eq_true.mp h6 i (List.mem_range.mpr hi)
        exact of_decide_eq_true this hi2 hf)] at hP1
      exact hk _ _ _ h H1 locs1 ls hP1 hS1 hl
    · rw [hf] at h5
      simp only [ab, hf, pf] at h
      obtain ⟨a, x, st', rfl, h0, h2, h⟩ := pai_inv h
      refine va_put (C := clC c1) (T := clT c1) (N := clN c1) (v := .int x) hx hb hts (clW_ok f3) (clY c1) (clY_ok c1 f3) (clM_ok c1 f3) hown hKK hP (wl_D D B.1 σ) hS a (at_ob D B.1 σ h2) (CL_at f3) j f2 (hts _ f1) (fun x hx => hx) h4 (ty := .boolean) (by rw [clY_ok c1 f3 j f2, h5]) (by rcases h0 with rfl | rfl <;> rfl) (by rcases h0 with rfl | rfl <;> rfl) (by simp [f2]) hd (fun H1 locs1 hP1 _ hS1 => ?_)
      rw [wl_pi_ob h2 (Or.inr hf)] at hP1
      exact hk _ _ _ h H1 locs1 ls hP1 hS1 hl
    · simp only [ab, hf, pf] at h
  | iaload =>
    cases of_decide_eq_true ho
    obtain ⟨a, i, st', rfl, h1, h⟩ := pai_inv h
    intro H locs ls hP hS hl
    exact va_iald hx hb hKK hP a 0 (at_al D B.1 σ (al_ob h1)) rfl h1 hd (hk _ _ _ h H locs ls hP hS hl)
  | baload =>
    cases of_decide_eq_true ho
    obtain ⟨a, i, st', rfl, h1, h⟩ := pai_inv h
    intro H locs ls hP hS hl
    exact va_zald hx hb hKK hP a 1 (at_zl D B.1 σ (zl_ob h1)) rfl h1 hd (hk _ _ _ h H locs ls hP hS hl)
  | aaload =>
    cases of_decide_eq_true ho
    obtain ⟨a, i, st', rfl, h1, h⟩ := pai_inv h
    intro H locs ls hP hS hl
    exact va_aldq hx hb hKK hP a 2 (at_rl D B.1 σ (rl_ob h1)) rfl h1 hd (hk _ _ _ h H locs ls hP hS hl)
  | iastore =>
    cases of_decide_eq_true ho
    obtain ⟨a, i, x, st', rfl, h1, h⟩ := paii_inv h
    intro H locs ls hP hS hl
    refine va_iast hx hb hKK hP (wl_D D B.1 σ) hS a 0 (at_al D B.1 σ (al_ob h1)) rfl h1 hd (fun H1 locs1 hP1 _ hS1 => ?_)
    rw [wl_pi_al (al_ob h1)] at hP1
    exact hk _ _ _ h H1 locs1 ls hP1 hS1 hl
  | bastore =>
    cases of_decide_eq_true ho
    obtain ⟨a, i, x, st', rfl, h1, h0, h⟩ := paii_inv h
    intro H locs ls hP hS hl
    refine va_zast hx hb hKK hP (wl_D D B.1 σ) hS a 1 (at_zl D B.1 σ (zl_ob h1)) rfl h1 hd (fun H1 locs1 hP1 _ hS1 => ?_)
    rw [show vp_nar .boolean x = x by rcases h0 with rfl | rfl <;> rfl, wl_pi_zl (zl_ob h1)] at hP1
    exact hk _ _ _ h H1 locs1 ls hP1 hS1 hl
  | arraylength =>
    cases of_decide_eq_true ho
    obtain ⟨a, st', rfl, h1, h⟩ := pa_inv h
    intro H locs ls hP hS hl
    exact va_alen hx hb hKK hP a 0 (at_al D B.1 σ (n := (ob a).2) (by rw [← h1])) rfl rfl hd (hk _ _ _ h H locs ls hP hS hl)
  | goto off =>
    obtain ⟨rfl, h1⟩ := of_decide_eq_true ho
    intro H locs ls hP hS hl
    exact lv_goto hx hb hd h1 (hK _ _ _ _ h H locs ls hP hS hl)
  | ifCond q off =>
    obtain ⟨rfl, h1, rfl⟩ := of_decide_eq_true ho
    intro H locs ls hP hS hl
    cases q with
    | eq => obtain ⟨x, st', rfl, a, b⟩ := p1_inv h; exact lv_if_eq hx hb hd h1 (fun z => hK _ _ _ _ (a z) H locs ls hP hS hl) (fun z => hK _ _ _ _ (b z) H locs ls hP hS hl)
    | ne => obtain ⟨x, st', rfl, a, b⟩ := p1_inv h; exact lv_if_ne hx hb hd h1 (fun z => hK _ _ _ _ (a z) H locs ls hP hS hl) (fun z => hK _ _ _ _ (b z) H locs ls hP hS hl)
    | lt => obtain ⟨x, st', rfl, a, b⟩ := p1_inv h; exact lv_if_lt hx hb hd h1 (fun z => hK _ _ _ _ (a z) H locs ls hP hS hl) (fun z => hK _ _ _ _ (b z) H locs ls hP hS hl)
    | ge => obtain ⟨x, st', rfl, a, b⟩ := p1_inv h; exact lv_if_ge hx hb hd h1 (fun z => hK _ _ _ _ (a z) H locs ls hP hS hl) (fun z => hK _ _ _ _ (b z) H locs ls hP hS hl)
    | gt => obtain ⟨x, st', rfl, a, b⟩ := p1_inv h; exact lv_if_gt hx hb hd h1 (fun z => hK _ _ _ _ (a z) H locs ls hP hS hl) (fun z => hK _ _ _ _ (b z) H locs ls hP hS hl)
    | le => obtain ⟨x, st', rfl, a, b⟩ := p1_inv h; exact lv_if_le hx hb hd h1 (fun z => hK _ _ _ _ (a z) H locs ls hP hS hl) (fun z => hK _ _ _ _ (b z) H locs ls hP hS hl)
  | if_icmp q off =>
    obtain ⟨rfl, h1, rfl⟩ := of_decide_eq_true ho
    intro H locs ls hP hS hl
    cases q with
    | eq => obtain ⟨x, y, st', rfl, a, b⟩ := p2_inv h; exact lv_icmp_eq hx hb hd h1 (fun z => hK _ _ _ _ (a z) H locs ls hP hS hl) (fun z => hK _ _ _ _ (b z) H locs ls hP hS hl)
    | ne => obtain ⟨x, y, st', rfl, a, b⟩ := p2_inv h; exact lv_icmp_ne hx hb hd h1 (fun z => hK _ _ _ _ (a z) H locs ls hP hS hl) (fun z => hK _ _ _ _ (b z) H locs ls hP hS hl)
    | lt => obtain ⟨x, y, st', rfl, a, b⟩ := p2_inv h; exact lv_icmp_lt hx hb hd h1 (fun z => hK _ _ _ _ (a z) H locs ls hP hS hl) (fun z => hK _ _ _ _ (b z) H locs ls hP hS hl)
    | ge => obtain ⟨x, y, st', rfl, a, b⟩ := p2_inv h; exact lv_icmp_ge hx hb hd h1 (fun z => hK _ _ _ _ (a z) H locs ls hP hS hl) (fun z => hK _ _ _ _ (b z) H locs ls hP hS hl)
    | gt => obtain ⟨x, y, st', rfl, a, b⟩ := p2_inv h; exact lv_icmp_gt hx hb hd h1 (fun z => hK _ _ _ _ (a z) H locs ls hP hS hl) (fun z => hK _ _ _ _ (b z) H locs ls hP hS hl)
    | le => obtain ⟨x, y, st', rfl, a, b⟩ := p2_inv h; exact lv_icmp_le hx hb hd h1 (fun z => hK _ _ _ _ (a z) H locs ls hP hS hl) (fun z => hK _ _ _ _ (b z) H locs ls hP hS hl)
  | ireturn =>
    cases c1 with
    | zero =>
      obtain ⟨rfl, h1⟩ := of_decide_eq_true ho
      obtain ⟨x, st', rfl, h2⟩ := p1_inv h
      obtain ⟨rfl, h3⟩ := h2
      exact hR.1 pc L x σ hd (Or.inl h1) h3
    | succ c1 =>
      obtain ⟨rfl, h1⟩ := of_decide_eq_true ho
      obtain ⟨x, st', rfl, h2⟩ := p1_inv h
      obtain ⟨rfl, h0, h3⟩ := h2
      exact hR.1 pc L x σ hd (Or.inr ⟨h1, h0⟩) h3
  | lreturn =>
    obtain ⟨rfl, h1⟩ := of_decide_eq_true ho
    simp only [ab] at h
    split at h
    · exact hR.2.1 pc L _ σ hd h1 h
    · exact h.elim
  | return_ =>
    obtain ⟨rfl, h1⟩ := of_decide_eq_true ho
    obtain ⟨rfl, h⟩ := h
    exact hR.2.2 pc L σ hd h1 h
  | _ => exact absurd ho Bool.false_ne_true
def bw : List Op → Nat → List Value → List Value → St → KT → (Option Value → St → Prop) → Prop
  | [], pe, L, st, σ, K, _ => K pe L st σ
  | op :: is, pe, L, st, σ, K, Rt => ab op L st σ K Rt (fun L' st' σ' => bw is pe L' st' σ' K Rt)
def dk (own mL : Nat) (ret : Option FieldType) (cc : ByteArray) : Nat → List Op → Nat → Bool
  | pc, [], pe => pc == pe
  | pc, op :: is, pe => decide (decode cc pc = .ok (op.1, op.2.1)) && (opOk own mL ret pc op && dk own mL ret cc (pc + op.2.1) is pe)
theorem bw_sound (hC : CX p s m args c D cc mL own) {K : KT} {Rt : Option Value → St → Prop} {pe : Nat} (hK : ∀ pc L st σ, K pc L st σ → PX p l e R s m args below meth c D B k0 n0 Z pc L st σ)
    (hR : RXT p l e R s m args below meth c D B k0 n0 Z cc ret Rt) : ∀ (is : List Op) (pc : Nat) (L st : List Value) (σ : St), dk own mL ret cc pc is pe = true → bw is pe L st σ K Rt → PX p l e R s m args below meth c D B k0 n0 Z pc L st σ
  | [], pc, L, st, σ, hd, h => by
    have : pc = pe := by simpa [dk] using hd
    subst this
    exact hK _ _ _ _ h
  | op :: is, pc, L, st, σ, hd, h => by
    simp only [dk, Bool.and_eq_true, decide_eq_true_eq] at hd
    exact ab_sound hC op hd.1 hd.2.1 h hK (fun L' st' σ' h' => bw_sound hC hK hR is (pc + op.2.1) L' st' σ' hd.2.2 h') hR
end ABS
