def RetP (M : MD) (σ : St) (as : List Value) (Q : Option Value → St → Prop) : Prop :=
  ∀ (l : Launch) (D : DD) (B : Nat × Nat), Met l M.2.1 (wsM M) (rmM M) (va_Pc (as.map (cv B)) (fun U => Wd D B σ U)) (QcM D B Q) 0 0 (fun q => B.1 ≤ q)
theorem RetP.intro {M : MD} {σ : St} {as : List Value} {Q : Option Value → St → Prop} {L : List Value} (n : Nat) (hM : enB M n = true) (hn : as.length = n) (hc : catB as = true) (hL : as ++ List.replicate (M.2.2.2.1 - n) .null = L) (h : PW M Q 0 L [] σ) : RetP M σ as Q := by
  intro l D B
  simp only [enB, Bool.and_eq_true, decide_eq_true_eq] at hM
  obtain ⟨h1, h2, h3⟩ := hM
  have hca : ∀ w ∈ as, w.category = 1 := fun w hw => by
    have := List.all_eq_true.mp hc w hw
    simpa using this
  refine Met.ofW (cc := M.2.2.1) (maxL := M.2.2.2.1) (ret := M.2.2.2.2.1) h1 rfl ?_
  intro p e s m args below meth c s₁ BB hml hv
  obtain ⟨rfl, hP, hK⟩ := hv
  have hts0 := atoms_spec (ws := wsM M) BB.pre
  have hts : ∀ w ∈ tg, w.before (as.map (cv B)).toArray s = true := fun w hw => hts0 w (List.mem_cons_of_mem _ hw)
  have hown : s.vm.findClass M.2.1.cls = some m.cls := findClass_of_methodNamed BB.named
  have hcb : ∀ w ∈ as.map (cv B), w.category = 1 := fun w hw => by
    obtain ⟨z, hz, rfl⟩ := List.mem_map.mp hw
    rw [cv_cat]; exact hca z hz
  have hle : (lg_sl (as.map (cv B))).length ≤ M.2.2.2.1 := by rw [sl_len _ hcb, List.length_map, hn]; exact h3
  have hl := lv_entry (as.map (cv B)) hle
  rw [lg_entry_eq]
  generalize (lg_sl (as.map (cv B)) ++ List.replicate (M.2.2.2.1 - (lg_sl (as.map (cv B))).length) Slot.unset).toArray = ls at hl ⊢
  refine h p l e s m _ below meth c D B ⟨⟨BB.exec, BB.bytes, hml, by rw [h2]; exact hown, hts⟩, hK⟩ BB.returns BB.notSynchronized s.heap [] ls hP va_S.rf ?_
  rw [hml]
  refine ⟨⟨hl.1, hl.2.1, fun q hq => ?_⟩, fun w hw => ?_, ?_⟩
  · obtain ⟨i, w, e1, e2, rfl⟩ := (lsl_mem B L 0 q).mp hq
    rw [← hL] at e1
    by_cases hi : i < as.length
    · rw [List.getElem?_append_left hi] at e1
      refine hl.2.2 _ (args_mem _ 0 i _ hcb ?_)
      rw [List.getElem?_map, e1]; rfl
    · rw [List.getElem?_append_right (by omega)] at e1
      exact absurd (List.eq_of_mem_replicate (List.mem_of_getElem? e1)) e2
  · rw [← hL] at hw
    rcases List.mem_append.mp hw with hw | hw
    · exact hca w hw
    · rw [List.eq_of_mem_replicate hw]; rfl
  · rw [← hL, List.length_append, List.length_replicate, hn]; omega
def RetPv (M : MD) (σ : St) (as : List Value) (Q : St → Prop) : Prop := RetP M σ as (fun v s => v = none ∧ Q s)
def RetPi (M : MD) (σ : St) (as : List Value) (Q : Int32 → St → Prop) : Prop := RetP M σ as (fun v s => ∃ r, v = some (.int r) ∧ Q r s)
theorem RetPv.introQ {M : MD} {σ : St} {as : List Value} {Q0 : St → Prop} {L : List Value} (n : Nat) (hM : enB M n = true) (hn : as.length = n) (hc : catB as = true) (hL : as ++ List.replicate (M.2.2.2.1 - n) .null = L) (h : ∀ Q : Option Value → St → Prop, (∀ s, Q0 s → Q none s) → PW M Q 0 L [] σ) : RetPv M σ as Q0 := RetP.intro n hM hn hc hL (h _ (fun s hs => ⟨rfl, hs⟩))
theorem RetPi.introQ {M : MD} {σ : St} {as : List Value} {Q0 : Int32 → St → Prop} {L : List Value} (n : Nat) (hM : enB M n = true) (hn : as.length = n) (hc : catB as = true) (hL : as ++ List.replicate (M.2.2.2.1 - n) .null = L) (h : ∀ Q : Option Value → St → Prop, (∀ r s, Q0 r s → Q (some (.int r)) s) → PW M Q 0 L [] σ) : RetPi M σ as Q0 := RetP.intro n hM hn hc hL (h _ (fun r s hs => ⟨r, rfl, hs⟩))
theorem Ret.toPi {M : MD} {σ σ' : St} {as : List Value} {r : Int32} (h : Ret M σ as (some (.int r)) σ') : RetPi M σ as (fun r' s' => r' = r ∧ s' = σ') := by
  intro l D B
  refine fun p e ha hc hk s m args below hf hfit hheap happ => ?_
  obtain ⟨k, o, h1, h2, h3, h4⟩ := h l D B p e ha hc hk s m args below hf hfit hheap happ
  refine ⟨k, o, h1, h2, h3, ?_⟩
  obtain ⟨⟨⟨v', s', e1, ⟨rfl, rfl⟩, e2⟩, e3⟩, e4⟩ := h4
  exact ⟨⟨⟨_, _, e1, ⟨r, rfl, rfl, rfl⟩, e2⟩, e3⟩, e4⟩
theorem callGP {p : Program} {l : Launch} {e : Env} {R : Room} {s : State} {m : MethodId} {args : Array Value} {below : List Frame} {meth : Method} {c : Code} {H : Heap} {locs : List Loc} {k0 n0 : Nat} {Z : State → Prop} {pc : Nat} {ls : Array Slot} {rest st0 : List Value} {a : Array Value} {D : DD} {B : Nat × Nat} {Q : Option Value → St → Prop}
    (hr : va_Run p l e R s m args below meth c H locs k0 n0 0 0 (F0 m pc ls st0) rest (QcM D B Q a) (fun q => B.1 ≤ q)) (hS : va_S (fun q => B.1 ≤ q) s.heap H locs)
    (kk : ∀ (v : Option Value) (σ' : St) (H1 : Heap) (locs1 : List Loc), Q v σ' → va_P D.1 CL (wl D B.1 σ') H1 → va_S (fun q => B.1 ≤ q) s.heap H1 locs1 → W p l e R s m args below meth c H1 locs1 k0 n0 Z (F0 m (pc + 3) ls ((v.map (cv B)).toList ++ rest))) : W p l e R s m args below meth c H locs k0 n0 Z (F0 m pc ls st0) := by
  intro T hT X
  obtain ⟨v1, st₀, t, T', L, h0, X', hL, e1, e2, ⟨⟨v2, σ2, hv, hq, hb⟩, hz, hk⟩, st⟩ := hr T hT X
  cases hv
  rw [h0] at hz hk
  obtain ⟨t2, a1, b1⟩ := kk v2 σ2 T'.heap (locs ++ L) hq (by rw [e1]; exact hb)
    ⟨Nat.le_trans hS.1 (by rw [e1]; exact hz), fun q h1 h2 => by rw [e1, hk q (Nat.lt_of_lt_of_le h1 hS.1) h2]; exact hS.2.1 q h1 h2, fun q hq => by
      rcases List.mem_append.mp hq with h | h
      · exact hS.2.2 q h
      · exact hL q h⟩ T' rfl X'
  exact ⟨t2, st t2 a1, b1⟩
theorem P_callVP {M N : MD} {Q Q0 : Option Value → St → Prop} {pc idx ci np p1 p2 p3 p4 p5 : Nat} (hB : cvB M N pc idx ci np p1 p2 p3 p4 p5 = true) {a : Nat} {as st stk L : List Value} {σ : St} (ho : ob a = (0, ci)) (hR : RetP N σ (.ref a :: as) Q0) (hn : as.length = np) (hst : stk = as.reverse ++ .ref a :: st) (hroom : roomB st = true)
    (k : ∀ v σ', Q0 v σ' → PW M Q (pc + 3) L (v.toList ++ st) σ') : PW M Q pc L stk σ := by
  intro p l e s m args below meth c D B hC hr hlk H locs ls hP hS hl
  simp only [cvB, Bool.and_eq_true, decide_eq_true_eq] at hB
  obtain ⟨h1, h2, h3, h4, h5, h6, h7⟩ := hB
  obtain ⟨⟨hx, hb, hml, hown, hts⟩, hKK⟩ := id hC
  subst hst
  have hrun := va_runV (R := rmM M) (locs := locs) (cells := 0) (slots := 0) (below := below) (meth := meth) (e := e) (g := F0 m pc ls ((as.reverse ++ .ref a :: st).map (cv B))) (As := as.map (cv B)) (rest := st.map (cv B)) (b := B.1 + a) (C := N.2.1.cls) ⟨hx, hb, hml, hown, hts⟩ (hR l D B) ⟨nB_ok hC h2 (hts _ (atB_ok h5 rfl)), hts _ (atB_ok h6 rfl), hts _ (atB_ok h7 rfl)⟩
    ⟨Wd_blind, by have := va_recv hKK.1 hP (CL_at h3) (at_ob D B.1 σ ho); rw [h4] at this; exact this, fun U hU hW => ⟨rfl, by rw [hU]; exact hP, KN.warm hW hKK⟩⟩ rfl (by rw [List.length_map]; exact hn) (by rw [hl.1.1]; exact hml) (by simp [cv]) (lv_room (room_cv hroom)) h1 ⟨Nat.zero_le _, Nat.zero_le _⟩
  refine callGP hrun hS (fun v σ' H1 locs1 hq hP1 hS1 => ?_)
  have := k v σ' hq p l e s m args below meth c D B hC hr hlk H1 locs1 ls hP1 hS1 hl
  rw [List.map_append] at this
  rcases v with _ | v <;> exact this
theorem P_callSP {M N : MD} {Q Q0 : Option Value → St → Prop} {pc idx np p1 p2 p3 p4 : Nat} (hB : csB M N pc idx np p1 p2 p3 p4 = true) {as st stk L : List Value} {σ : St} (hR : RetP N σ as Q0) (hn : as.length = np) (hst : stk = as.reverse ++ st) (hroom : roomB st = true)
    (k : ∀ v σ', Q0 v σ' → PW M Q (pc + 3) L (v.toList ++ st) σ') : PW M Q pc L stk σ := by
  intro p l e s m args below meth c D B hC hr hlk H locs ls hP hS hl
  simp only [csB, Bool.and_eq_true, decide_eq_true_eq] at hB
  obtain ⟨h1, h2, h5, h6⟩ := hB
  obtain ⟨⟨hx, hb, hml, hown, hts⟩, hKK⟩ := id hC
  subst hst
  have hrun := va_runS (R := rmM M) (locs := locs) (cells := 0) (slots := 0) (below := below) (meth := meth) (e := e) (g := F0 m pc ls ((as.reverse ++ st).map (cv B))) (As := as.map (cv B)) (rest := st.map (cv B)) ⟨hx, hb, hml, hown, hts⟩ (hR l D B) ⟨nB_ok hC h2 (hts _ (atB_ok h5 rfl)), hts _ (atB_ok h6 rfl)⟩
    ⟨Wd_blind, fun U hU hW => ⟨rfl, by rw [hU]; exact hP, KN.warm hW hKK⟩⟩ rfl (by rw [List.length_map]; exact hn) (by rw [hl.1.1]; exact hml) (by simp) (lv_room (room_cv hroom)) h1 ⟨Nat.zero_le _, Nat.zero_le _⟩
  refine callGP hrun hS (fun v σ' H1 locs1 hq hP1 hS1 => ?_)
  have := k v σ' hq p l e s m args below meth c D B hC hr hlk H1 locs1 ls hP1 hS1 hl
  rw [List.map_append] at this
  rcases v with _ | v <;> exact this

theorem P_V0iP {M N : MD} {Q : Option Value → St → Prop} {Q0 : Int32 → St → Prop} {pc idx ci np p1 p2 p3 p4 p5 : Nat} {a : Nat} (hB : cvB M N pc idx ci np p1 p2 p3 p4 p5 = true) {st L : List Value} {σ : St} (ho : ob a = (0, ci)) (hR : RetPi N σ [.ref a] Q0) (hn : 0 = np) (hroom : roomB st = true) (k : ∀ r s, Q0 r s → PW M Q (pc + 3) L (.int r :: st) s) : PW M Q pc L (.ref a :: st) σ := P_callVP hB ho hR hn rfl hroom (fun v s hq => by obtain ⟨r, rfl, hq⟩ := hq; exact k r s hq)
theorem P_V0vP {M N : MD} {Q : Option Value → St → Prop} {Q0 : St → Prop} {pc idx ci np p1 p2 p3 p4 p5 : Nat} {a : Nat} (hB : cvB M N pc idx ci np p1 p2 p3 p4 p5 = true) {st L : List Value} {σ : St} (ho : ob a = (0, ci)) (hR : RetPv N σ [.ref a] Q0) (hn : 0 = np) (hroom : roomB st = true) (k : ∀ s, Q0 s → PW M Q (pc + 3) L st s) : PW M Q pc L (.ref a :: st) σ := P_callVP hB ho hR hn rfl hroom (fun v s hq => by obtain ⟨rfl, hq⟩ := hq; exact k s hq)
theorem P_V1iP {M N : MD} {Q : Option Value → St → Prop} {Q0 : Int32 → St → Prop} {pc idx ci np p1 p2 p3 p4 p5 : Nat} {a : Nat} (hB : cvB M N pc idx ci np p1 p2 p3 p4 p5 = true) {x1 : Value} {st L : List Value} {σ : St} (ho : ob a = (0, ci)) (hR : RetPi N σ [.ref a, x1] Q0) (hn : 1 = np) (hroom : roomB st = true) (k : ∀ r s, Q0 r s → PW M Q (pc + 3) L (.int r :: st) s) : PW M Q pc L (x1 :: .ref a :: st) σ := P_callVP hB ho hR hn rfl hroom (fun v s hq => by obtain ⟨r, rfl, hq⟩ := hq; exact k r s hq)
theorem P_V1vP {M N : MD} {Q : Option Value → St → Prop} {Q0 : St → Prop} {pc idx ci np p1 p2 p3 p4 p5 : Nat} {a : Nat} (hB : cvB M N pc idx ci np p1 p2 p3 p4 p5 = true) {x1 : Value} {st L : List Value} {σ : St} (ho : ob a = (0, ci)) (hR : RetPv N σ [.ref a, x1] Q0) (hn : 1 = np) (hroom : roomB st = true) (k : ∀ s, Q0 s → PW M Q (pc + 3) L st s) : PW M Q pc L (x1 :: .ref a :: st) σ := P_callVP hB ho hR hn rfl hroom (fun v s hq => by obtain ⟨rfl, hq⟩ := hq; exact k s hq)
theorem P_V2iP {M N : MD} {Q : Option Value → St → Prop} {Q0 : Int32 → St → Prop} {pc idx ci np p1 p2 p3 p4 p5 : Nat} {a : Nat} (hB : cvB M N pc idx ci np p1 p2 p3 p4 p5 = true) {x1 x2 : Value} {st L : List Value} {σ : St} (ho : ob a = (0, ci)) (hR : RetPi N σ [.ref a, x1, x2] Q0) (hn : 2 = np) (hroom : roomB st = true) (k : ∀ r s, Q0 r s → PW M Q (pc + 3) L (.int r :: st) s) : PW M Q pc L (x2 :: x1 :: .ref a :: st) σ := P_callVP hB ho hR hn rfl hroom (fun v s hq => by obtain ⟨r, rfl, hq⟩ := hq; exact k r s hq)
theorem P_V2vP {M N : MD} {Q : Option Value → St → Prop} {Q0 : St → Prop} {pc idx ci np p1 p2 p3 p4 p5 : Nat} {a : Nat} (hB : cvB M N pc idx ci np p1 p2 p3 p4 p5 = true) {x1 x2 : Value} {st L : List Value} {σ : St} (ho : ob a = (0, ci)) (hR : RetPv N σ [.ref a, x1, x2] Q0) (hn : 2 = np) (hroom : roomB st = true) (k : ∀ s, Q0 s → PW M Q (pc + 3) L st s) : PW M Q pc L (x2 :: x1 :: .ref a :: st) σ := P_callVP hB ho hR hn rfl hroom (fun v s hq => by obtain ⟨rfl, hq⟩ := hq; exact k s hq)
theorem P_V3iP {M N : MD} {Q : Option Value → St → Prop} {Q0 : Int32 → St → Prop} {pc idx ci np p1 p2 p3 p4 p5 : Nat} {a : Nat} (hB : cvB M N pc idx ci np p1 p2 p3 p4 p5 = true) {x1 x2 x3 : Value} {st L : List Value} {σ : St} (ho : ob a = (0, ci)) (hR : RetPi N σ [.ref a, x1, x2, x3] Q0) (hn : 3 = np) (hroom : roomB st = true) (k : ∀ r s, Q0 r s → PW M Q (pc + 3) L (.int r :: st) s) : PW M Q pc L (x3 :: x2 :: x1 :: .ref a :: st) σ := P_callVP hB ho hR hn rfl hroom (fun v s hq => by obtain ⟨r, rfl, hq⟩ := hq; exact k r s hq)
theorem P_V3vP {M N : MD} {Q : Option Value → St → Prop} {Q0 : St → Prop} {pc idx ci np p1 p2 p3 p4 p5 : Nat} {a : Nat} (hB : cvB M N pc idx ci np p1 p2 p3 p4 p5 = true) {x1 x2 x3 : Value} {st L : List Value} {σ : St} (ho : ob a = (0, ci)) (hR : RetPv N σ [.ref a, x1, x2, x3] Q0) (hn : 3 = np) (hroom : roomB st = true) (k : ∀ s, Q0 s → PW M Q (pc + 3) L st s) : PW M Q pc L (x3 :: x2 :: x1 :: .ref a :: st) σ := P_callVP hB ho hR hn rfl hroom (fun v s hq => by obtain ⟨rfl, hq⟩ := hq; exact k s hq)
theorem P_V4iP {M N : MD} {Q : Option Value → St → Prop} {Q0 : Int32 → St → Prop} {pc idx ci np p1 p2 p3 p4 p5 : Nat} {a : Nat} (hB : cvB M N pc idx ci np p1 p2 p3 p4 p5 = true) {x1 x2 x3 x4 : Value} {st L : List Value} {σ : St} (ho : ob a = (0, ci)) (hR : RetPi N σ [.ref a, x1, x2, x3, x4] Q0) (hn : 4 = np) (hroom : roomB st = true) (k : ∀ r s, Q0 r s → PW M Q (pc + 3) L (.int r :: st) s) : PW M Q pc L (x4 :: x3 :: x2 :: x1 :: .ref a :: st) σ := P_callVP hB ho hR hn rfl hroom (fun v s hq => by obtain ⟨r, rfl, hq⟩ := hq; exact k r s hq)
theorem P_V4vP {M N : MD} {Q : Option Value → St → Prop} {Q0 : St → Prop} {pc idx ci np p1 p2 p3 p4 p5 : Nat} {a : Nat} (hB : cvB M N pc idx ci np p1 p2 p3 p4 p5 = true) {x1 x2 x3 x4 : Value} {st L : List Value} {σ : St} (ho : ob a = (0, ci)) (hR : RetPv N σ [.ref a, x1, x2, x3, x4] Q0) (hn : 4 = np) (hroom : roomB st = true) (k : ∀ s, Q0 s → PW M Q (pc + 3) L st s) : PW M Q pc L (x4 :: x3 :: x2 :: x1 :: .ref a :: st) σ := P_callVP hB ho hR hn rfl hroom (fun v s hq => by obtain ⟨rfl, hq⟩ := hq; exact k s hq)
theorem P_S0iP {M N : MD} {Q : Option Value → St → Prop} {Q0 : Int32 → St → Prop} {pc idx np p1 p2 p3 p4 : Nat} (hB : csB M N pc idx np p1 p2 p3 p4 = true) {st L : List Value} {σ : St} (hR : RetPi N σ [] Q0) (hn : 0 = np) (hroom : roomB st = true) (k : ∀ r s, Q0 r s → PW M Q (pc + 3) L (.int r :: st) s) : PW M Q pc L (st) σ := P_callSP hB hR hn rfl hroom (fun v s hq => by obtain ⟨r, rfl, hq⟩ := hq; exact k r s hq)
theorem P_S0vP {M N : MD} {Q : Option Value → St → Prop} {Q0 : St → Prop} {pc idx np p1 p2 p3 p4 : Nat} (hB : csB M N pc idx np p1 p2 p3 p4 = true) {st L : List Value} {σ : St} (hR : RetPv N σ [] Q0) (hn : 0 = np) (hroom : roomB st = true) (k : ∀ s, Q0 s → PW M Q (pc + 3) L st s) : PW M Q pc L (st) σ := P_callSP hB hR hn rfl hroom (fun v s hq => by obtain ⟨rfl, hq⟩ := hq; exact k s hq)
theorem P_S1iP {M N : MD} {Q : Option Value → St → Prop} {Q0 : Int32 → St → Prop} {pc idx np p1 p2 p3 p4 : Nat} (hB : csB M N pc idx np p1 p2 p3 p4 = true) {x1 : Value} {st L : List Value} {σ : St} (hR : RetPi N σ [x1] Q0) (hn : 1 = np) (hroom : roomB st = true) (k : ∀ r s, Q0 r s → PW M Q (pc + 3) L (.int r :: st) s) : PW M Q pc L (x1 :: st) σ := P_callSP hB hR hn rfl hroom (fun v s hq => by obtain ⟨r, rfl, hq⟩ := hq; exact k r s hq)
theorem P_S1vP {M N : MD} {Q : Option Value → St → Prop} {Q0 : St → Prop} {pc idx np p1 p2 p3 p4 : Nat} (hB : csB M N pc idx np p1 p2 p3 p4 = true) {x1 : Value} {st L : List Value} {σ : St} (hR : RetPv N σ [x1] Q0) (hn : 1 = np) (hroom : roomB st = true) (k : ∀ s, Q0 s → PW M Q (pc + 3) L st s) : PW M Q pc L (x1 :: st) σ := P_callSP hB hR hn rfl hroom (fun v s hq => by obtain ⟨rfl, hq⟩ := hq; exact k s hq)
theorem P_S2iP {M N : MD} {Q : Option Value → St → Prop} {Q0 : Int32 → St → Prop} {pc idx np p1 p2 p3 p4 : Nat} (hB : csB M N pc idx np p1 p2 p3 p4 = true) {x1 x2 : Value} {st L : List Value} {σ : St} (hR : RetPi N σ [x1, x2] Q0) (hn : 2 = np) (hroom : roomB st = true) (k : ∀ r s, Q0 r s → PW M Q (pc + 3) L (.int r :: st) s) : PW M Q pc L (x2 :: x1 :: st) σ := P_callSP hB hR hn rfl hroom (fun v s hq => by obtain ⟨r, rfl, hq⟩ := hq; exact k r s hq)
theorem P_S2vP {M N : MD} {Q : Option Value → St → Prop} {Q0 : St → Prop} {pc idx np p1 p2 p3 p4 : Nat} (hB : csB M N pc idx np p1 p2 p3 p4 = true) {x1 x2 : Value} {st L : List Value} {σ : St} (hR : RetPv N σ [x1, x2] Q0) (hn : 2 = np) (hroom : roomB st = true) (k : ∀ s, Q0 s → PW M Q (pc + 3) L st s) : PW M Q pc L (x2 :: x1 :: st) σ := P_callSP hB hR hn rfl hroom (fun v s hq => by obtain ⟨rfl, hq⟩ := hq; exact k s hq)
theorem P_S3iP {M N : MD} {Q : Option Value → St → Prop} {Q0 : Int32 → St → Prop} {pc idx np p1 p2 p3 p4 : Nat} (hB : csB M N pc idx np p1 p2 p3 p4 = true) {x1 x2 x3 : Value} {st L : List Value} {σ : St} (hR : RetPi N σ [x1, x2, x3] Q0) (hn : 3 = np) (hroom : roomB st = true) (k : ∀ r s, Q0 r s → PW M Q (pc + 3) L (.int r :: st) s) : PW M Q pc L (x3 :: x2 :: x1 :: st) σ := P_callSP hB hR hn rfl hroom (fun v s hq => by obtain ⟨r, rfl, hq⟩ := hq; exact k r s hq)
theorem P_S3vP {M N : MD} {Q : Option Value → St → Prop} {Q0 : St → Prop} {pc idx np p1 p2 p3 p4 : Nat} (hB : csB M N pc idx np p1 p2 p3 p4 = true) {x1 x2 x3 : Value} {st L : List Value} {σ : St} (hR : RetPv N σ [x1, x2, x3] Q0) (hn : 3 = np) (hroom : roomB st = true) (k : ∀ s, Q0 s → PW M Q (pc + 3) L st s) : PW M Q pc L (x3 :: x2 :: x1 :: st) σ := P_callSP hB hR hn rfl hroom (fun v s hq => by obtain ⟨rfl, hq⟩ := hq; exact k s hq)
theorem P_S4iP {M N : MD} {Q : Option Value → St → Prop} {Q0 : Int32 → St → Prop} {pc idx np p1 p2 p3 p4 : Nat} (hB : csB M N pc idx np p1 p2 p3 p4 = true) {x1 x2 x3 x4 : Value} {st L : List Value} {σ : St} (hR : RetPi N σ [x1, x2, x3, x4] Q0) (hn : 4 = np) (hroom : roomB st = true) (k : ∀ r s, Q0 r s → PW M Q (pc + 3) L (.int r :: st) s) : PW M Q pc L (x4 :: x3 :: x2 :: x1 :: st) σ := P_callSP hB hR hn rfl hroom (fun v s hq => by obtain ⟨r, rfl, hq⟩ := hq; exact k r s hq)
theorem P_S4vP {M N : MD} {Q : Option Value → St → Prop} {Q0 : St → Prop} {pc idx np p1 p2 p3 p4 : Nat} (hB : csB M N pc idx np p1 p2 p3 p4 = true) {x1 x2 x3 x4 : Value} {st L : List Value} {σ : St} (hR : RetPv N σ [x1, x2, x3, x4] Q0) (hn : 4 = np) (hroom : roomB st = true) (k : ∀ s, Q0 s → PW M Q (pc + 3) L st s) : PW M Q pc L (x4 :: x3 :: x2 :: x1 :: st) σ := P_callSP hB hR hn rfl hroom (fun v s hq => by obtain ⟨rfl, hq⟩ := hq; exact k s hq)
