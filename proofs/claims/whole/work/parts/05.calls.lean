def wsM (M : MD) : List Cond := Cond.code M.2.1 M.2.2.1 M.2.2.2.1 M.2.2.2.2.1 :: tg
def rmM (M : MD) : Room := { frames := M.2.2.2.2.2.1, cells := 0, slots := 0, locals := M.2.2.2.2.2.2 }
def Wd (D : DD) (B : Nat × Nat) (σ : St) (U : State) : Prop := va_P D.1 CL (wl D B.1 σ) U.heap ∧ KN D U
def QcM (D : DD) (B : Nat × Nat) (Q : Option Value → St → Prop) : Array Value → State → Outcome → State → Prop := fun _ st oc t => (∃ v σ', oc = .returned (v.map (cv B)) ∧ Q v σ' ∧ va_P D.1 CL (wl D B.1 σ') t.heap) ∧ va_F (fun q => B.1 ≤ q) st t
def Ret (M : MD) (σ : St) (as : List Value) (v : Option Value) (σ' : St) : Prop :=
  ∀ (l : Launch) (D : DD) (B : Nat × Nat), Met l M.2.1 (wsM M) (rmM M) (va_Pc (as.map (cv B)) (fun U => Wd D B σ U)) (QcM D B (fun v' s' => v' = v ∧ s' = σ')) 0 0 (fun q => B.1 ≤ q)
def PW (M : MD) (Q : Option Value → St → Prop) : KT := fun pc L st σ =>
  ∀ (p : Program) (l : Launch) (e : Env) (s : State) (m : MethodId) (args : Array Value) (below : List Frame) (meth : Method) (c : Code) (D : DD) (B : Nat × Nat), CX p s m args c D M.2.2.1 M.2.2.2.1 M.1 → meth.sig.returnType = M.2.2.2.2.1 → meth.locks = false →
    PX p l e (rmM M) s m args below meth c D B 0 0 (MQ below (QcM D B Q) args s 0 0 (fun q => B.1 ≤ q)) pc L st σ
theorem PW_ret {M : MD} {Q : Option Value → St → Prop} {p : Program} {l : Launch} {e : Env} {s : State} {m : MethodId} {args : Array Value} {below : List Frame} {meth : Method} {c : Code} {D : DD} {B : Nat × Nat} (hC : CX p s m args c D M.2.2.1 M.2.2.2.1 M.1) (hr : meth.sig.returnType = M.2.2.2.2.1) (hlocks : meth.locks = false) :
    RXT p l e (rmM M) s m args below meth c D B 0 0 (MQ below (QcM D B Q) args s 0 0 (fun q => B.1 ≤ q)) M.2.2.1 M.2.2.2.2.1 Q := by
  obtain ⟨⟨hx, hb, hml, hown, hts⟩, hKK⟩ := id hC
  refine ⟨fun pc L x σ hd ht hq H locs ls hP hS hl => ?_, fun pc L x σ hd ht hq H locs ls hP hS hl => ?_, fun pc L σ hd ht hq H locs ls hP hS hl => ?_⟩
  · rcases ht with ht | ⟨ht, h0⟩
    · exact W.iret hx hb (hr.trans ht) (fun t h1 h2 => ⟨⟨some (.int x), σ, rfl, hq, by rw [h1]; exact hP⟩, hS.F h1⟩) hS.2.2 hd hlocks
    · exact W.zret hx hb (hr.trans ht) (by rcases h0 with rfl | rfl <;> rfl) (fun t h1 h2 => ⟨⟨some (.int x), σ, rfl, hq, by rw [h1]; exact hP⟩, hS.F h1⟩) hS.2.2 hd hlocks
  · exact W.lret hx hb (hr.trans ht) (fun t h1 h2 => ⟨⟨some (.long x), σ, rfl, hq, by rw [h1]; exact hP⟩, hS.F h1⟩) hS.2.2 hd hlocks
  · exact W.vret hx hb (hr.trans ht) (fun t h1 h2 => ⟨⟨none, σ, rfl, hq, by rw [h1]; exact hP⟩, hS.F h1⟩) hS.2.2 hd hlocks
abbrev dkM (M : MD) (pc : Nat) (is : List Op) (pe : Nat) : Bool := dk M.1 M.2.2.2.1 M.2.2.2.2.1 M.2.2.1 pc is pe
theorem P_blk {M : MD} {Q : Option Value → St → Prop} {pc : Nat} {is : List Op} {pe : Nat} (hd : dkM M pc is pe = true) {L st : List Value} {σ : St} (h : bw is pe L st σ (PW M Q) Q) : PW M Q pc L st σ := by
  intro p l e s m args below meth c D B hC hr hlk
  exact bw_sound hC (fun pc L st σ h => h p l e s m args below meth c D B hC hr hlk) (PW_ret hC hr hlk) is pc L st σ hd h
theorem args_mem : ∀ (vs : List Value) (n i : Nat) (v : Value), (∀ w ∈ vs, w.category = 1) → vs[i]? = some v → (n + i, v) ∈ lv_args n vs
  | [], n, i, v, _, h => by simp at h
  | w :: vs, n, 0, v, _, h => by simp at h; subst h; simp [lv_args]
  | w :: vs, n, i + 1, v, hc, h => by
    have hw := hc w List.mem_cons_self
    have := args_mem vs (n + 1) i v (fun z hz => hc z (List.mem_cons_of_mem _ hz)) (by simpa using h)
    rw [lv_args, if_neg (by omega)]
    rw [show n + (i + 1) = n + 1 + i by omega]
    exact List.mem_cons_of_mem _ this
theorem sl_len : ∀ vs : List Value, (∀ w ∈ vs, w.category = 1) → (lg_sl vs).length = vs.length
  | [], _ => rfl
  | w :: vs, h => by
    have hw := h w List.mem_cons_self
    have ih := sl_len vs (fun z hz => h z (List.mem_cons_of_mem _ hz))
    unfold lg_sl at ih ⊢
    rw [List.flatMap_cons, if_neg (by omega)]
    simp only [List.cons_append, List.nil_append, List.length_cons]
    omega
def catB (as : List Value) : Bool := as.all (fun v => v.category == 1)
def enB (M : MD) (n : Nat) : Bool := plainName M.2.1.cls && (decide (ownS M.1 = M.2.1.cls) && decide (n ≤ M.2.2.2.1))
theorem Ret.intro {M : MD} {σ σ' : St} {as : List Value} {v : Option Value} {L : List Value} (n : Nat) (hM : enB M n = true) (hn : as.length = n) (hc : catB as = true) (hL : as ++ List.replicate (M.2.2.2.1 - n) .null = L) (h : PW M (fun v' s' => v' = v ∧ s' = σ') 0 L [] σ) : Ret M σ as v σ' := by
  intro l D B
  simp only [enB, Bool.and_eq_true, decide_eq_true_eq] at hM
  obtain ⟨h1, h2, h3⟩ := hM
  have hca : ∀ w ∈ as, w.category = 1 := fun w hw => by
    have := List.all_eq_true.mp hc w hw
    simpa using this
  refine Met.ofW (cc := M.2.2.1) (maxL := M.2.2.2.1) (ret := M.2.2.2.2.1) h1 rfl ?_
  intro p e s m args below meth c s₁ BB hml hv
  obtain ⟨rfl, hP, hK⟩ := hv
  have hts0 := atoms_spec (ws := wsM M) BB.pre
  have hts : ∀ w ∈ tg, w.before (as.map (cv B)).toArray s = true := fun w hw => hts0 w (List.mem_cons_of_mem _ hw)
  have hown : s.vm.findClass M.2.1.cls = some m.cls := findClass_of_methodNamed BB.named
  have hcb : ∀ w ∈ as.map (cv B), w.category = 1 := fun w hw => by
    obtain ⟨z, hz, rfl⟩ := List.mem_map.mp hw
    rw [cv_cat]; exact hca z hz
  have hle : (lg_sl (as.map (cv B))).length ≤ M.2.2.2.1 := by rw [sl_len _ hcb, List.length_map, hn]; exact h3
  have hl := lv_entry (as.map (cv B)) hle
  rw [lg_entry_eq]
  generalize (lg_sl (as.map (cv B)) ++ List.replicate (M.2.2.2.1 - (lg_sl (as.map (cv B))).length) Slot.unset).toArray = ls at hl ⊢
  refine h p l e s m _ below meth c D B ⟨⟨BB.exec, BB.bytes, hml, by rw [h2]; exact hown, hts⟩, hK⟩ BB.returns BB.notSynchronized s.heap [] ls hP va_S.rf ?_
  rw [hml]
  refine ⟨⟨hl.1, hl.2.1, fun q hq => ?_⟩, fun w hw => ?_, ?_⟩
  · obtain ⟨i, w, e1, e2, rfl⟩ := (lsl_mem B L 0 q).mp hq
    rw [← hL] at e1
    by_cases hi : i < as.length
    · rw [List.getElem?_append_left hi] at e1
      refine hl.2.2 _ (args_mem _ 0 i _ hcb ?_)
      rw [List.getElem?_map, e1]; rfl
    · rw [List.getElem?_append_right (by omega)] at e1
      exact absurd (List.eq_of_mem_replicate (List.mem_of_getElem? e1)) e2
  · rw [← hL] at hw
    rcases List.mem_append.mp hw with hw | hw
    · exact hca w hw
    · rw [List.eq_of_mem_replicate hw]; rfl
  · rw [← hL, List.length_append, List.length_replicate, hn]; omega
theorem callG {p : Program} {l : Launch} {e : Env} {R : Room} {s : State} {m : MethodId} {args : Array Value} {below : List Frame} {meth : Method} {c : Code} {H : Heap} {locs : List Loc} {k0 n0 : Nat} {Z : State → Prop} {pc : Nat} {ls : Array Slot} {rest st0 : List Value} {a : Array Value} {D : DD} {B : Nat × Nat} {σ' : St} {v : Option Value}
    (hr : va_Run p l e R s m args below meth c H locs k0 n0 0 0 (F0 m pc ls st0) rest (QcM D B (fun v' s' => v' = v ∧ s' = σ') a) (fun q => B.1 ≤ q)) (hS : va_S (fun q => B.1 ≤ q) s.heap H locs)
    (kk : ∀ (H1 : Heap) (locs1 : List Loc), va_P D.1 CL (wl D B.1 σ') H1 → va_S (fun q => B.1 ≤ q) s.heap H1 locs1 → W p l e R s m args below meth c H1 locs1 k0 n0 Z (F0 m (pc + 3) ls ((v.map (cv B)).toList ++ rest))) : W p l e R s m args below meth c H locs k0 n0 Z (F0 m pc ls st0) := by
  intro T hT X
  obtain ⟨v1, st₀, t, T', L, h0, X', hL, e1, e2, ⟨⟨v2, σ2, hv, ⟨rfl, rfl⟩, hb⟩, hz, hk⟩, st⟩ := hr T hT X
  cases hv
  rw [h0] at hz hk
  obtain ⟨t2, a1, b1⟩ := kk T'.heap (locs ++ L) (by rw [e1]; exact hb)
    ⟨Nat.le_trans hS.1 (by rw [e1]; exact hz), fun q h1 h2 => by rw [e1, hk q (Nat.lt_of_lt_of_le h1 hS.1) h2]; exact hS.2.1 q h1 h2, fun q hq => by
      rcases List.mem_append.mp hq with h | h
      · exact hS.2.2 q h
      · exact hL q h⟩ T' rfl X'
  exact ⟨t2, st t2 a1, b1⟩
theorem Wd_blind {as : List Value} {D : DD} {B : Nat × Nat} {σ : St} : FrameBlind (va_Pc (as.map (cv B)) (fun U => Wd D B σ U)) := fun a U g mk q => by
  obtain ⟨q0, qP, qK⟩ := q
  exact ⟨q0, qP, KN.same (u := U) (U := U.calling g mk a) rfl qK⟩
def atB (p : Nat) (w : Cond) : Bool := decide (lw_tbl[p]? = some w)
theorem atB_ok {p : Nat} {w : Cond} (h : atB p w = true) (hg : goodWord w = true) : w ∈ tg := tg_of (List.mem_of_getElem? (of_decide_eq_true h)) hg
def nB (M N : MD) (np p1 p2 : Nat) : Bool := decide (N.2.2.2.2.2.1 + 1 ≤ M.2.2.2.2.2.1) && (decide (8 + (N.2.2.2.1 + 11) + N.2.2.2.2.2.2 ≤ M.2.2.2.2.2.2) && (decide (N.2.1.cls ≠ "java/lang/invoke/MethodHandle") && (decide (N.2.1.cls ≠ "java/lang/invoke/VarHandle") && (decide ((parseMethodDescriptor N.2.1.desc).map (fun d => d.parameters.length) = some np) && (atB p1 (Cond.code N.2.1 N.2.2.1 N.2.2.2.1 N.2.2.2.2.1) && atB p2 (Cond.initialized N.2.1.cls))))))
def cvB (M N : MD) (pc idx ci np p1 p2 p3 p4 p5 : Nat) : Bool := decide (decode M.2.2.1 pc = .ok (.invokevirtual idx, 3)) && (nB M N np p1 p2 && (decide (ci < 10) && (decide (clC ci = N.2.1.cls) && (atB p3 (Cond.methodLink (ownS M.1) idx N.2.1) && (atB p4 (Cond.instanceMethod N.2.1) && atB p5 (Cond.selects N.2.1.cls N.2.1 N.2.1))))))
def csB (M N : MD) (pc idx np p1 p2 p3 p4 : Nat) : Bool := decide (decode M.2.2.1 pc = .ok (.invokestatic idx, 3)) && (nB M N np p1 p2 && (atB p3 (Cond.methodLink (ownS M.1) idx N.2.1) && atB p4 (Cond.static N.2.1)))
def cnB (M N : MD) (pc idx np p1 p2 p3 p4 : Nat) (host : String) : Bool := decide (decode M.2.2.1 pc = .ok (.invokestatic idx, 3)) && (nB M N np p1 p2 && (atB p3 (Cond.methodLinkNest (ownS M.1) idx N.2.1 host) && atB p4 (Cond.static N.2.1)))
theorem code_good (N : MD) : goodWord (Cond.code N.2.1 N.2.2.1 N.2.2.2.1 N.2.2.2.2.1) = true := rfl
theorem wsM_good {N : MD} (h : Cond.code N.2.1 N.2.2.1 N.2.2.2.1 N.2.2.2.2.1 ∈ tg) : GoodIn tg (wsM N) := fun w hw => by
  rcases List.mem_cons.mp hw with rfl | hw
  · exact tg_good _ h
  · exact tg_good w hw
theorem nB_ok {p : Program} {s : State} {m : MethodId} {args : Array Value} {c : Code} {D : DD} {M N : MD} {np p1 p2 idx : Nat} (hC : CX p s m args c D M.2.2.1 M.2.2.2.1 M.1) (h : nB M N np p1 p2 = true) (hl : (Cond.methodLink (ownS M.1) idx N.2.1).before args s = true) :
    CallB (rmM M) s args (ownS M.1) idx N.2.1 N.2.2.1 N.2.2.2.1 N.2.2.2.2.1 (wsM N) (rmM N) 0 0 np := by
  simp only [nB, Bool.and_eq_true, decide_eq_true_eq] at h
  obtain ⟨h1, h2, h3, h4, h5, h6, h7⟩ := h
  have hts := hC.1.2.2.2.2
  exact callB_of np hts (wsM_good (atB_ok h6 rfl)) rfl rfl rfl (hts _ (atB_ok h7 rfl)) hl ⟨h3, h4, h5⟩ ⟨h1, h2⟩
def roomB (st : List Value) : Bool := Nat.ble ((st.map fun v => v.category).sum) 8
theorem room_cv {B : Nat × Nat} {st : List Value} (h : roomB st = true) : ((st.map (cv B)).map fun v => v.category).sum ≤ 8 := by
  have e : (st.map (cv B)).map (fun v => v.category) = st.map (fun v => v.category) := by
    rw [List.map_map]; congr 1; funext v; exact cv_cat B v
  rw [e]; exact Nat.le_of_ble_eq_true h
theorem P_callV {M N : MD} {Q : Option Value → St → Prop} {pc idx ci np p1 p2 p3 p4 p5 : Nat} (hB : cvB M N pc idx ci np p1 p2 p3 p4 p5 = true) {a : Nat} {as st stk L : List Value} {v : Option Value} {σ σ' : St} (ho : ob a = (0, ci)) (hR : Ret N σ (.ref a :: as) v σ') (hn : as.length = np) (hst : stk = as.reverse ++ .ref a :: st) (hroom : roomB st = true)
    (k : PW M Q (pc + 3) L (v.toList ++ st) σ') : PW M Q pc L stk σ := by
  intro p l e s m args below meth c D B hC hr hlk H locs ls hP hS hl
  simp only [cvB, Bool.and_eq_true, decide_eq_true_eq] at hB
  obtain ⟨h1, h2, h3, h4, h5, h6, h7⟩ := hB
  obtain ⟨⟨hx, hb, hml, hown, hts⟩, hKK⟩ := id hC
  subst hst
  have hrun := va_runV (R := rmM M) (locs := locs) (cells := 0) (slots := 0) (below := below) (meth := meth) (e := e) (g := F0 m pc ls ((as.reverse ++ .ref a :: st).map (cv B))) (As := as.map (cv B)) (rest := st.map (cv B)) (b := B.1 + a) (C := N.2.1.cls) ⟨hx, hb, hml, hown, hts⟩ (hR l D B) ⟨nB_ok hC h2 (hts _ (atB_ok h5 rfl)), hts _ (atB_ok h6 rfl), hts _ (atB_ok h7 rfl)⟩
    ⟨Wd_blind, by have := va_recv hKK.1 hP (CL_at h3) (at_ob D B.1 σ ho); rw [h4] at this; exact this, fun U hU hW => ⟨rfl, by rw [hU]; exact hP, KN.warm hW hKK⟩⟩ rfl (by rw [List.length_map]; exact hn) (by rw [hl.1.1]; exact hml) (by simp [cv]) (lv_room (room_cv hroom)) h1 ⟨Nat.zero_le _, Nat.zero_le _⟩
  refine callG hrun hS (fun H1 locs1 hP1 hS1 => ?_)
  have := k p l e s m args below meth c D B hC hr hlk H1 locs1 ls hP1 hS1 hl
  rw [List.map_append] at this
  rcases v with _ | v <;> exact this
theorem P_callS {M N : MD} {Q : Option Value → St → Prop} {pc idx np p1 p2 p3 p4 : Nat} (hB : csB M N pc idx np p1 p2 p3 p4 = true) {as st stk L : List Value} {v : Option Value} {σ σ' : St} (hR : Ret N σ as v σ') (hn : as.length = np) (hst : stk = as.reverse ++ st) (hroom : roomB st = true)
    (k : PW M Q (pc + 3) L (v.toList ++ st) σ') : PW M Q pc L stk σ := by
  intro p l e s m args below meth c D B hC hr hlk H locs ls hP hS hl
  simp only [csB, Bool.and_eq_true, decide_eq_true_eq] at hB
  obtain ⟨h1, h2, h5, h6⟩ := hB
  obtain ⟨⟨hx, hb, hml, hown, hts⟩, hKK⟩ := id hC
  subst hst
  have hrun := va_runS (R := rmM M) (locs := locs) (cells := 0) (slots := 0) (below := below) (meth := meth) (e := e) (g := F0 m pc ls ((as.reverse ++ st).map (cv B))) (As := as.map (cv B)) (rest := st.map (cv B)) ⟨hx, hb, hml, hown, hts⟩ (hR l D B) ⟨nB_ok hC h2 (hts _ (atB_ok h5 rfl)), hts _ (atB_ok h6 rfl)⟩
    ⟨Wd_blind, fun U hU hW => ⟨rfl, by rw [hU]; exact hP, KN.warm hW hKK⟩⟩ rfl (by rw [List.length_map]; exact hn) (by rw [hl.1.1]; exact hml) (by simp) (lv_room (room_cv hroom)) h1 ⟨Nat.zero_le _, Nat.zero_le _⟩
  refine callG hrun hS (fun H1 locs1 hP1 hS1 => ?_)
  have := k p l e s m args below meth c D B hC hr hlk H1 locs1 ls hP1 hS1 hl
  rw [List.map_append] at this
  rcases v with _ | v <;> exact this
theorem P_callN {M N : MD} {Q : Option Value → St → Prop} {pc idx np p1 p2 p3 p4 : Nat} {host : String} (hB : cnB M N pc idx np p1 p2 p3 p4 host = true) {as st stk L : List Value} {v : Option Value} {σ σ' : St} (hR : Ret N σ as v σ') (hn : as.length = np) (hst : stk = as.reverse ++ st) (hroom : roomB st = true)
    (k : PW M Q (pc + 3) L (v.toList ++ st) σ') : PW M Q pc L stk σ := by
  intro p l e s m args below meth c D B hC hr hlk H locs ls hP hS hl
  simp only [cnB, Bool.and_eq_true, decide_eq_true_eq] at hB
  obtain ⟨h1, h2, h5, h6⟩ := hB
  simp only [nB, Bool.and_eq_true, decide_eq_true_eq] at h2
  obtain ⟨n1, n2, n3, n4, n5, n6, n7⟩ := h2
  obtain ⟨⟨hx, hb, hml, hown, hts⟩, hKK⟩ := id hC
  subst hst
  have hnw : va_Nw (.methodLinkNest (ownS M.1) idx N.2.1 host) s := hKK.2.1 _ _ _ _ (List.mem_of_getElem? (of_decide_eq_true h5))
  have hrun := va_runSN (R := rmM M) (locs := locs) (cells := 0) (slots := 0) (below := below) (meth := meth) (e := e) (g := F0 m pc ls ((as.reverse ++ st).map (cv B))) (As := as.map (cv B)) (rest := st.map (cv B)) ⟨hx, hb, hml, hown, hts⟩ (hR l D B) ⟨va_cnB np hts (wsM_good (atB_ok n6 rfl)) rfl rfl rfl hnw (hts _ (atB_ok n7 rfl)) ⟨n3, n4, n5⟩ ⟨n1, n2⟩, hts _ (atB_ok h6 rfl), trivial⟩
    ⟨Wd_blind, fun U hU hW => ⟨rfl, by rw [hU]; exact hP, KN.warm hW hKK⟩⟩ rfl (by rw [List.length_map]; exact hn) (by rw [hl.1.1]; exact hml) (by simp) (lv_room (room_cv hroom)) h1 ⟨Nat.zero_le _, Nat.zero_le _⟩
  refine callG hrun hS (fun H1 locs1 hP1 hS1 => ?_)
  have := k p l e s m args below meth c D B hC hr hlk H1 locs1 ls hP1 hS1 hl
  rw [List.map_append] at this
  rcases v with _ | v <;> exact this
