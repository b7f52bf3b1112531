def R_law : String := "ChronicleWarLaw"
def lw_P (b : Addr) (xs : List Int32) (args : Array Value) (s : State) : Prop := args = #[.ref b] ∧ s.IntsAt b xs ∧ xs.length ≤ 320 ∧ (Jvm.Cond.and given_1 narrow_1).before args s = true
def lw_Q (_ : Array Value) (s : State) (o : Outcome) (t : State) : Prop := o = .returned (some (.int 1)) ∧ Framed s o t [] 600000 7302250
def lw_Z (below : List Frame) (a : Array Value) (s : State) : State → Prop := fun t => ∃ o, t.status = .running ∧ Ended t below o ∧ lw_Q a s o t
theorem lw_ret {p : Program} {l : Launch} {e : Env} {s : State} {m : MethodId} {below : List Frame} {meth : Method} {c : Code} {b : Nat} (hx : p.tables.exec = Jvm.exec) (hb : c.code = code) (hr : meth.sig.returnType = ret) (hlocks : meth.locks = false) {pc : Nat} {H : Heap} {ls : Array Slot} (hdg : decode code pc = .ok (.ireturn, 1)) : W p l e room_1 s m #[Value.ref b] below meth c H [] 600000 7302250 (lw_Z below #[Value.ref b] s) (F0 m pc ls [.int 1]) := by
  intro T hT X
  obtain ⟨fs, hret, hrun, hended, hW, hframe⟩ := X.leave (v := some (.int 1)) (hlocks := hlocks) (fun h => by rw [hr] at h; cases h)
  have hmeth' : T.vm.method? m = some meth := X.method'
  refine ⟨T.setFrames fs, ?_, .returned (some (.int 1)), hrun, hended, rfl, ⟨_, rfl⟩, hW, hframe⟩
  jvm_step X.here [X.here.top, hx, hb, hdg, hmeth', hr, ret, narrow_b1]
  (try refine ⟨rfl, ?_⟩); (try refine ⟨rfl, ?_⟩)
  first | (intro acts; rw [hret _ acts rfl rfl rfl]) | rw [hret _ _ rfl rfl rfl]
  exact Steps.refl _
def lw_At (p : Program) (s : State) (m : MethodId) (meth : Method) (c : Code) (b L : Nat) (xs : Nat → Int32) : Prop :=
  p.tables.exec = Jvm.exec ∧ c.code = code ∧ meth.sig.returnType = ret ∧ c.maxLocals = 4 ∧ s.vm.findClass R_law = some m.cls ∧ (∀ w ∈ lw_tbl, w.before #[Value.ref b] s = true) ∧ va_X b L xs s s.heap ∧ b < s.heap.size ∧ meth.locks = false ∧ (Jvm.Cond.and given_1 narrow_1).before #[Value.ref b] s = true
def m_law : MD := (12, yX10_trace, code, 4, none, 10, 388)
abbrev PL (p : Program) (l : Launch) (e : Env) (s : State) (m : MethodId) (below : List Frame) (meth : Method) (c : Code) (D : DD) (B : Nat × Nat) : KT := PX p l e room_1 s m #[Value.ref B.2] below meth c D B 221 154700 (lw_Z below #[Value.ref B.2] s)
def LC (p : Program) (s : State) (m : MethodId) (meth : Method) (c : Code) (D : DD) (B : Nat × Nat) (Ls : Nat) (xs : Nat → Int32) : Prop :=
  CX p s m #[Value.ref B.2] c D code 4 12 ∧ va_X B.2 Ls xs s s.heap ∧ B.2 < s.heap.size ∧ B.1 = s.heap.size ∧ Ls ≤ 320 ∧ meth.sig.returnType = ret ∧ meth.locks = false
abbrev LL (i : Nat) : List Value := [.float 0, .ref 0, .ref 208, .int (nI i)]
theorem tsw_all {K : Nat → Prop} {x : Int32} {d : Nat} (hd : K d) : ∀ ps : List (Int32 × Nat), (∀ q ∈ ps, K q.2) → tsw ps d x K
  | [], _ => hd
  | q :: ps, h => ⟨fun _ => h q List.mem_cons_self, fun _ => tsw_all hd ps (fun z hz => h z (List.mem_cons_of_mem _ hz))⟩
theorem law_out {Ls i : Nat} (hL : Ls ≤ 320) (h : ¬ nI Ls - 5 < nI i) (hi : i ≤ 400) : i + 5 ≤ Ls := by
  rcases Nat.lt_or_ge Ls 5 with h1 | h1
  · exfalso
    have h2 : (0 : Int32) ≤ nI i := nI_pos' (by omega)
    have h3 : nI Ls - 5 < 0 := by
      have : Ls = 0 ∨ Ls = 1 ∨ Ls = 2 ∨ Ls = 3 ∨ Ls = 4 := by omega
      rcases this with rfl | rfl | rfl | rfl | rfl <;> decide +kernel
    exact h (Int32.lt_of_lt_of_le h3 h2)
  · have e : nI Ls - 5 = nI (Ls - 5) := by
      have : nI Ls = nI (Ls - 5) + 5 := by rw [show (5 : Int32) = nI 5 from rfl, nI_add]; congr 1; omega
      rw [this, Int32.add_sub_cancel]
    rw [e, nI_ltI (by omega) (by omega)] at h
    omega
section LAW
variable {p : Program} {l : Launch} {e : Env} {s : State} {m : MethodId} {below : List Frame} {meth : Method} {c : Code} {D : DD} {B : Nat × Nat} {Ls : Nat} {xs : Nat → Int32} {pc : Nat} {L st : List Value} {σ : St}
theorem L_aload (hC : LC p s m meth c D B Ls xs) {i : Fin 4} {a : Nat} (hd : decode code pc = .ok (.aload_n i, 1)) (hx : lg L i.val = .ref a) (K : PL p l e s m below meth c D B (pc + 1) L (.ref a :: st) σ) : PL p l e s m below meth c D B pc L st σ :=
  fun H locs ls hP hS hl => lv_aload_n hC.1.1.1 hC.1.1.2.1 hd rfl (hl.get hx (fun z => by cases z)) (K H locs ls hP hS hl)
theorem L_script (hC : LC p s m meth c D B Ls xs) (hd : decode code pc = .ok (.aload_n 0, 1)) (hx : lg L 0 = .float 0) (K : PL p l e s m below meth c D B (pc + 1) L (.float 0 :: st) σ) : PL p l e s m below meth c D B pc L st σ :=
  fun H locs ls hP hS hl => lv_aload_n (x := B.2) hC.1.1.1 hC.1.1.2.1 hd rfl (hl.get (i := 0) (v := .float 0) hx (fun z => by cases z)) (K H locs ls hP hS hl)
theorem L_iload (hC : LC p s m meth c D B Ls xs) {i : Fin 4} {x : Int32} (hd : decode code pc = .ok (.iload_n i, 1)) (hx : lg L i.val = .int x) (K : PL p l e s m below meth c D B (pc + 1) L (.int x :: st) σ) : PL p l e s m below meth c D B pc L st σ :=
  fun H locs ls hP hS hl => lv_iload_n hC.1.1.1 hC.1.1.2.1 hd rfl (hl.get hx (fun z => by cases z)) (K H locs ls hP hS hl)
theorem L_iconst (hC : LC p s m meth c D B Ls xs) {n : Int} (v : Int32) (hd : decode code pc = .ok (.iconst n, 1)) (hv : Int32.ofInt n = v) (K : PL p l e s m below meth c D B (pc + 1) L (.int v :: st) σ) : PL p l e s m below meth c D B pc L st σ :=
  fun H locs ls hP hS hl => lv_iconst hC.1.1.1 hC.1.1.2.1 hd hv (K H locs ls hP hS hl)
theorem L_bipush (hC : LC p s m meth c D B Ls xs) {n : Int} (v : Int32) (hd : decode code pc = .ok (.bipush n, 2)) (hv : (Int8.ofInt n).toInt32 = v) (K : PL p l e s m below meth c D B (pc + 2) L (.int v :: st) σ) : PL p l e s m below meth c D B pc L st σ :=
  fun H locs ls hP hS hl => lv_bipush hC.1.1.1 hC.1.1.2.1 hd hv (K H locs ls hP hS hl)
theorem L_iadd (hC : LC p s m meth c D B Ls xs) {x y : Int32} (hd : decode code pc = .ok (.iadd, 1)) (K : PL p l e s m below meth c D B (pc + 1) L (.int (x + y) :: st) σ) : PL p l e s m below meth c D B pc L (.int y :: .int x :: st) σ :=
  fun H locs ls hP hS hl => lv_iadd hC.1.1.1 hC.1.1.2.1 hd (K H locs ls hP hS hl)
theorem L_isub (hC : LC p s m meth c D B Ls xs) {x y : Int32} (hd : decode code pc = .ok (.isub, 1)) (K : PL p l e s m below meth c D B (pc + 1) L (.int (x - y) :: st) σ) : PL p l e s m below meth c D B pc L (.int y :: .int x :: st) σ :=
  fun H locs ls hP hS hl => lv_isub hC.1.1.1 hC.1.1.2.1 hd (K H locs ls hP hS hl)
theorem L_iand (hC : LC p s m meth c D B Ls xs) {x y : Int32} (hd : decode code pc = .ok (.iand, 1)) (K : PL p l e s m below meth c D B (pc + 1) L (.int (x &&& y) :: st) σ) : PL p l e s m below meth c D B pc L (.int y :: .int x :: st) σ :=
  fun H locs ls hP hS hl => lv_iand hC.1.1.1 hC.1.1.2.1 hd (K H locs ls hP hS hl)
theorem L_goto (hC : LC p s m meth c D B Ls xs) {off : Int} (t : Nat) (hd : decode code pc = .ok (.goto off, 3)) (ht : (pc : Int) + off = (t : Int)) (K : PL p l e s m below meth c D B t L st σ) : PL p l e s m below meth c D B pc L st σ :=
  fun H locs ls hP hS hl => lv_goto hC.1.1.1 hC.1.1.2.1 hd ht (K H locs ls hP hS hl)
theorem L_gt (hC : LC p s m meth c D B Ls xs) {off : Int} (t : Nat) {x y : Int32} (hd : decode code pc = .ok (.if_icmp .gt off, 3)) (ht : (pc : Int) + off = (t : Int)) (K1 : y < x → PL p l e s m below meth c D B t L st σ) (K2 : ¬ y < x → PL p l e s m below meth c D B (pc + 3) L st σ) : PL p l e s m below meth c D B pc L (.int y :: .int x :: st) σ :=
  fun H locs ls hP hS hl => lv_icmp_gt hC.1.1.1 hC.1.1.2.1 hd ht (fun z => K1 z H locs ls hP hS hl) (fun z => K2 z H locs ls hP hS hl)
theorem L_same (hC : LC p s m meth c D B Ls xs) {off : Int} (t : Nat) {x : Int32} (hd : decode code pc = .ok (.if_icmp .eq off, 3)) (ht : (pc : Int) + off = (t : Int)) (K : PL p l e s m below meth c D B t L st σ) : PL p l e s m below meth c D B pc L (.int x :: .int x :: st) σ :=
  fun H locs ls hP hS hl => lv_icmp_eq hC.1.1.1 hC.1.1.2.1 hd ht (fun _ => K H locs ls hP hS hl) (fun z => absurd rfl z)
theorem L_trace (hC : LC p s m meth c D B Ls xs) {off : Int} (t : Nat) {x : Int64} (hd : decode code pc = .ok (.lcmp, 1)) (hd2 : decode code (pc + 1) = .ok (.ifCond .eq off, 3)) (ht : ((pc + 1 : Nat) : Int) + off = (t : Int)) (K : PL p l e s m below meth c D B t L st σ) : PL p l e s m below meth c D B pc L (.long x :: .long x :: st) σ :=
  fun H locs ls hP hS hl => W.lcmp hC.1.1.1 hC.1.1.2.1 hd (lv_if_eq hC.1.1.1 hC.1.1.2.1 hd2 ht (fun _ => K H locs ls hP hS hl) (fun z => absurd ((lg_cmp_eq x x).mpr rfl) z))
theorem L_iinc (hC : LC p s m meth c D B Ls xs) {i : Nat} {q : Int} {x : Int32} (v : Int32) (hd : decode code pc = .ok (.iinc i q, 3)) (hi : i < 4) (hv : Int32.ofInt q = v) (hx : lg L i = .int x) (K : PL p l e s m below meth c D B (pc + 3) (lset L i (.int (x + v))) st σ) : PL p l e s m below meth c D B pc L st σ := by
  intro H locs ls hP hS hl
  subst hv
  have hm : (i, Value.int x) ∈ lsl B 0 L := (lsl_mem B L 0 _).mpr ⟨i, .int x, lg_at L i _ hx (fun z => by cases z), (fun z => by cases z), by rw [Nat.zero_add]; rfl⟩
  obtain ⟨kk, hkk⟩ := List.getElem?_of_mem hm
  exact lv_iinc hC.1.1.1 hC.1.1.2.1 hd hl.1 hkk rfl (by rw [hC.1.1.2.2.1]; exact hi) rfl (fun ls' h' => K H locs ls' hP hS (hl.conv (v := .int (x + Int32.ofInt q)) rfl h'))
theorem L_alen (hC : LC p s m meth c D B Ls xs) (hd : decode code pc = .ok (.arraylength, 1)) (K : PL p l e s m below meth c D B (pc + 1) L (.int (nI Ls) :: st) σ) : PL p l e s m below meth c D B pc L (.float 0 :: st) σ :=
  fun H locs ls hP hS hl => va_slen (A := fun q => B.1 ≤ q) hC.1.1.1 hC.1.1.2.1 hC.2.1 hC.2.2.1 (by have h1 := hC.2.2.1; have h2 := hC.2.2.2.1; show ¬ B.1 ≤ B.2; omega) hS hd (K H locs ls hP hS hl)
theorem L_sld (hC : LC p s m meth c D B Ls xs) {n : Nat} (hn : n < Ls) (hd : decode code pc = .ok (.iaload, 1)) (K : PL p l e s m below meth c D B (pc + 1) L (.int (xs n) :: st) σ) : PL p l e s m below meth c D B pc L (.int (nI n) :: .float 0 :: st) σ := by
  intro H locs ls hP hS hl
  have h1 := hC.2.2.1
  have h2 := hC.2.2.2.1
  have h3 := hC.2.2.2.2.1
  refine va_sld (A := fun q => B.1 ≤ q) hC.1.1.1 hC.1.1.2.1 hC.2.1 hC.2.2.1 (by show ¬ B.1 ≤ B.2; omega) hS (vp_in_nI hn (by omega)) hd ?_
  rw [nI_clamp (by omega)]
  exact K H locs ls hP hS hl
def argB (pc j : Nat) : Bool := decide (decode code pc = .ok (.aload_n 0, 1)) && (decide (decode code (pc + 1) = .ok (.iload_n 3, 1)) && (decide (decode code (pc + 2) = .ok (.iconst (j : Int), 1)) && (decide (decode code (pc + 3) = .ok (.iadd, 1)) && (decide (decode code (pc + 4) = .ok (.iaload, 1)) && decide (Int32.ofInt (j : Int) = nI j)))))
theorem L_arg (hC : LC p s m meth c D B Ls xs) {i : Nat} (j : Nat) (hB : argB pc j = true) (hn : i + j < Ls) (K : PL p l e s m below meth c D B (pc + 5) (LL i) (.int (xs (i + j)) :: st) σ) : PL p l e s m below meth c D B pc (LL i) st σ := by
  simp only [argB, Bool.and_eq_true, decide_eq_true_eq] at hB
  obtain ⟨h1, h2, h3, h4, h5, h6⟩ := hB
  refine L_script hC h1 rfl (L_iload hC (i := 3) (x := nI i) h2 rfl (L_iconst hC (nI j) h3 h6 (L_iadd hC h4 ?_)))
  rw [nI_add]
  exact L_sld hC hn h5 K
theorem L_call (hC : LC p s m meth c D B Ls xs) {N : MD} {Q0 : Option Value → St → Prop} {idx ci np p1 p2 p3 p4 p5 : Nat} (hB : cvB m_law N pc idx ci np p1 p2 p3 p4 p5 = true) {a : Nat} {as st stk L : List Value} {σ : St} (ho : ob a = (0, ci)) (hR : RetP N σ (.ref a :: as) Q0) (hn : as.length = np) (hst : stk = as.reverse ++ .ref a :: st) (hroom : roomB st = true)
    (k : ∀ v σ', Q0 v σ' → PL p l e s m below meth c D B (pc + 3) L (v.toList ++ st) σ') : PL p l e s m below meth c D B pc L stk σ := by
  intro H locs ls hP hS hl
  simp only [cvB, Bool.and_eq_true, decide_eq_true_eq] at hB
  obtain ⟨h1, h2, h3, h4, h5, h6, h7⟩ := hB
  obtain ⟨⟨hx, hb, hml, hown, hts⟩, hKK⟩ := id hC.1
  subst hst
  simp only [nB, Bool.and_eq_true, decide_eq_true_eq] at h2
  obtain ⟨n1, n2, n3, n4, n5, n6, n7⟩ := h2
  have hcb : CallB room_1 s #[Value.ref B.2] (ownS 12) idx N.2.1 N.2.2.1 N.2.2.2.1 N.2.2.2.2.1 (wsM N) (rmM N) 0 0 np := callB_of np hts (wsM_good (atB_ok n6 rfl)) rfl rfl rfl (hts _ (atB_ok n7 rfl)) (hts _ (atB_ok h5 rfl)) ⟨n3, n4, n5⟩ ⟨n1, n2⟩
  have hrun := va_runV (R := room_1) (locs := locs) (cells := 221) (slots := 154700) (below := below) (meth := meth) (e := e) (g := F0 m pc ls ((as.reverse ++ .ref a :: st).map (cv B))) (As := as.map (cv B)) (rest := st.map (cv B)) (b := B.1 + a) (C := N.2.1.cls) ⟨hx, hb, hml, hown, hts⟩ (hR l D B) ⟨hcb, hts _ (atB_ok h6 rfl), hts _ (atB_ok h7 rfl)⟩
    ⟨Wd_blind, by have := va_recv hKK.1 hP (CL_at h3) (at_ob D B.1 σ ho); rw [h4] at this; exact this, fun U hU hW => ⟨rfl, by rw [hU]; exact hP, KN.warm hW hKK⟩⟩ rfl (by rw [List.length_map]; exact hn) (by rw [hl.1.1]; exact hml) (by simp [cv]) (lv_room (room_cv hroom)) h1 ⟨Nat.le_of_ble_eq_true rfl, Nat.le_of_ble_eq_true rfl⟩
  refine callGP hrun hS (fun v σ' H1 locs1 hq hP1 hS1 => ?_)
  have := k v σ' hq H1 locs1 ls hP1 hS1 hl
  rw [List.map_append] at this
  rcases v with _ | v <;> exact this
theorem L_callI (hC : LC p s m meth c D B Ls xs) {N : MD} {Q0 : Int32 → St → Prop} {idx ci np p1 p2 p3 p4 p5 : Nat} (hB : cvB m_law N pc idx ci np p1 p2 p3 p4 p5 = true) {a : Nat} (as : List Value) {st stk L : List Value} {σ : St} (ho : ob a = (0, ci)) (hR : RetPi N σ (.ref a :: as) Q0) (hn : as.length = np) (hst : stk = as.reverse ++ .ref a :: st) (hroom : roomB st = true)
    (k : ∀ r σ', Q0 r σ' → PL p l e s m below meth c D B (pc + 3) L (.int r :: st) σ') : PL p l e s m below meth c D B pc L stk σ :=
  L_call hC hB ho hR hn hst hroom (fun v t hq => by obtain ⟨r, rfl, hq⟩ := hq; exact k r t hq)
theorem L_tsw (hC : LC p s m meth c D B Ls xs) {dflt lo hi : Int} {offs : Array Int} {len : Nat} {ps : List (Int32 × Nat)} {d : Nat} (hB : tswB code pc dflt lo hi offs len ps d = true) {x : Int32} (h : tsw ps d x (fun t => PL p l e s m below meth c D B t L st σ)) : PL p l e s m below meth c D B pc L (.int x :: st) σ := by
  intro H locs ls hP hS hl
  simp only [tswB, Bool.and_eq_true, decide_eq_true_eq] at hB
  obtain ⟨h1, h2, h3, h4⟩ := hB
  obtain ⟨⟨hx, hb, hml, hown, hts⟩, -⟩ := id hC.1
  rcases tsw_inv ps h with ⟨i, q, e1, e2, e3⟩ | ⟨e1, e2⟩
  · have hi : i < ps.length := (List.getElem?_eq_some_iff.mp e1).1
    have h5 := List.all_eq_true.mp h4 i (List.mem_range.mpr hi)
    rw [e1] at h5
    cases ho : offs[i]? with
    | none => rw [ho] at h5; simp at h5
    | some o =>
      rw [ho] at h5
      simp only [Bool.and_eq_true, decide_eq_true_eq] at h5
      subst e2
      exact lv_tableIn hx hb h1 (by omega) (by omega) (by rw [show (q.1.toInt - lo).toNat = i by omega]; exact ho) h5.2 (e3 H locs ls hP hS hl)
  · refine lv_tableOut hx hb h1 ?_ h2 (e2 H locs ls hP hS hl)
    by_cases h6 : x.toInt < lo
    · exact Or.inl h6
    · by_cases h7 : hi < x.toInt
      · exact Or.inr h7
      · exfalso
        have hi2 : (x.toInt - lo).toNat < ps.length := by omega
        have h5 := List.all_eq_true.mp h4 _ (List.mem_range.mpr hi2)
        have e3 := List.getElem?_eq_getElem hi2
        rw [e3] at h5
        cases ho : offs[(x.toInt - lo).toNat]? with
        | none => rw [ho] at h5; simp at h5
        | some o =>
          rw [ho] at h5
          simp only [Bool.and_eq_true, decide_eq_true_eq] at h5
          exact e1 _ _ e3 (Int32.toInt_inj.mp (by rw [h5.1]; omega))
theorem L_ret (hC : LC p s m meth c D B Ls xs) (hd : decode code pc = .ok (.ireturn, 1)) : PL p l e s m below meth c D B pc L [.int 1] σ := by
  intro H locs ls hP hS hl
  refine va_forget (fun q hq => ?_) (W.widen (Nat.le_of_ble_eq_true rfl) (Nat.le_of_ble_eq_true rfl) (lw_ret hC.1.1.1 hC.1.1.2.1 hC.2.2.2.2.2.1 hC.2.2.2.2.2.2 hd))
  have := hS.2.2 q hq
  have h2 := hC.2.2.2.1
  show s.heap.size ≤ q.base
  have h3 : B.1 ≤ q.base := this
  omega
end LAW
