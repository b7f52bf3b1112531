theorem inst_at : ∀ c, c < 10 → Cond.instantiable (clC c) (clN c) ∈ lw_tbl :=
  cl_cases (List.mem_of_getElem? (i := 172) (by decide +kernel)) (List.mem_of_getElem? (i := 106) (by decide +kernel)) (List.mem_of_getElem? (i := 270) (by decide +kernel)) (List.mem_of_getElem? (i := 84) (by decide +kernel)) (List.mem_of_getElem? (i := 100) (by decide +kernel)) (List.mem_of_getElem? (i := 133) (by decide +kernel)) (List.mem_of_getElem? (i := 250) (by decide +kernel)) (List.mem_of_getElem? (i := 212) (by decide +kernel)) (List.mem_of_getElem? (i := 76) (by decide +kernel)) (List.mem_of_getElem? (i := 743) (by decide +kernel))
theorem kn_start {s : State} {args : Array Value} (hts : ∀ w ∈ lw_tbl, w.before args s = true) : ∃ D : DD, KN D s := by
  have hk : ∀ c, ∃ q : ClassId × (Nat → Nat), c < 10 → u_Kn s (clC c) (clT c) (clN c) q.1 q.2 := fun c => by
    by_cases hc : c < 10
    · obtain ⟨cC, iS, h⟩ := u_known (n := clN c) hts (fun w hw => (clW_ok0 c hc w hw).1) (hts _ (inst_at c hc))
      exact ⟨(cC, iS), fun _ => h⟩
    · exact ⟨(0, fun _ => 0), fun h => absurd h hc⟩
  obtain ⟨f, hf⟩ := Classical.axiomOfChoice hk
  have w1 : Cond.arrayClass .int ∈ lw_tbl := List.mem_of_getElem? (i := 98) (by decide +kernel)
  have w2 : Cond.arrayClass .boolean ∈ lw_tbl := List.mem_of_getElem? (i := 286) (by decide +kernel)
  have w3 : Cond.arrayOver (.object "ChronicleWar$Now") ∈ lw_tbl := List.mem_of_getElem? (i := 256) (by decide +kernel)
  obtain ⟨cI, kI, compI, a1, a2, a3⟩ := Cond.arrayClass_spec (hts _ w1)
  obtain ⟨cZ, kZ, compZ, b1, b2, b3⟩ := Cond.arrayClass_spec (hts _ w2)
  obtain ⟨compN, cN, kN, n1, n2, n3, n4, n5⟩ := Cond.arrayOver_spec (hts _ w3)
  refine ⟨((fun c => (f c).1, fun c => (f c).2), cI, cZ, cN), ⟨fun c q hq => ?_, fun k q hq => ?_⟩, fun a i y h hm => va_Nw.of rfl (hts _ hm), va_AO.of (hts _ w3)⟩
  · have hc : c < 10 := by
      have := (List.getElem?_eq_some_iff.mp hq).1
      simpa using this
    rw [CL_at hc] at hq
    cases hq
    exact hf c hc
  · match k, hq with
    | 0, hq => cases hq; exact ⟨fun N z => ⟨(fun k h => by cases h), kI, a2, compI, a3⟩, a1⟩
    | 1, hq => cases hq; exact ⟨fun N z => ⟨(fun k h => by cases h), kZ, b2, compZ, b3⟩, b1⟩
    | 2, hq => cases hq; exact ⟨fun N z => ⟨(fun k h => by cases h), kN, n3, compN, n4⟩, ⟨kN, compN, n3, n4, n1, n5⟩⟩
    | k + 3, hq => simp at hq
theorem Z_astore {p : Program} {l : Launch} {e : Env} {R : Room} {s : State} {m : MethodId} {args : Array Value} {below : List Frame} {meth : Method} {c : Code} {D : DD} {B : Nat × Nat} {E : Nat → va_E} {k z0 : Nat} {Z : State → Prop} {cc : ByteArray} {mL own : Nat} {pc : Nat} {L st : List Value} {es : List va_E} (hC : CX p s m args c D cc mL own) {i : Fin 4} {x : Nat} (hd : decode cc pc = .ok (.astore_n i, 1)) (hi : i.val < mL) (K : PZ p l e R s m args below meth c D B E k z0 Z (pc + 1) (lset L i.val (.ref x)) st es) : PZ p l e R s m args below meth c D B E k z0 Z pc L (.ref x :: st) es :=
  fun H locs ls hP hS hl => lv_astore_n hC.1.1 hC.1.2.1 hd rfl hl.1 (by rw [hC.1.2.2.1]; exact hi) rfl (fun ls' h' => K H locs ls' hP hS (hl.conv (v := .ref x) rfl h'))
theorem law_begin {p : Program} {l : Launch} {e : Env} {s : State} {m : MethodId} {below : List Frame} {meth : Method} {c : Code} {D : DD} {b Ls : Nat} {xs : Nat → Int32} {E : Nat → va_E} (hC : LC p s m meth c D (s.heap.size, b) Ls xs) : PZ p l e room_1 s m #[Value.ref b] below meth c D (s.heap.size, b) E 0 0 (lw_Z below #[Value.ref b] s) 18 [.float 0, .ref 0, .ref 208, .int 0] [] (zCwa D s.heap.size ++ zMod D (s.heap.size + 208)) := by
  intro H locs ls hP hS hl
  have hlen : (zCwa D s.heap.size ++ zMod D (s.heap.size + 208)).length - 0 = 221 := by rw [List.length_append, zCwa_len]; rfl
  rw [hlen]
  have hP' : va_P D.1 CL (wz s.heap.size E 0 (zCwa D s.heap.size ++ zMod D (s.heap.size + 208))) H := hP
  rw [world0] at hP'
  exact law_loop hC 320 0 s0 hC.2.2.2.2.1 (by decide) inv0 H locs ls hP' hS hl
theorem law_make {p : Program} {l : Launch} {e : Env} {s : State} {m : MethodId} {below : List Frame} {meth : Method} {c : Code} {D : DD} {b Ls : Nat} {xs : Nat → Int32} {E : Nat → va_E} (hL : LC p s m meth c D (s.heap.size, b) Ls xs) : PZ p l e room_1 s m #[Value.ref b] below meth c D (s.heap.size, b) E 0 0 (lw_Z below #[Value.ref b] s) 0 [.float 0, .null, .null, .null] [] [] := by
  have hC := hL.1
  have hsz : s.heap.size = (s.heap.size, b).1 + (0 + 0) := rfl
  refine Z_new (idx := 7) (q1 := 75) (q2 := 76) (q3 := 59) hC hsz (Nat.zero_le _) 8 (by decide +kernel) (by decide) (by decide +kernel) (by decide +kernel) (by decide +kernel) (Nat.le_of_ble_eq_true rfl) (Nat.le_of_ble_eq_true rfl) ?_
  refine Z_dup hC (by decide +kernel) ?_
  refine Z_call (idx := 9) (q1 := 79) (q2 := 59) (q3 := 77) (q4 := 78) (pre := []) hC hsz c_X10_init (Nat.zero_le _) (by decide +kernel) rfl (zCwa_len D _) (by decide +kernel) (by decide +kernel) (by decide +kernel) (by decide +kernel) rfl (by decide +kernel) (Nat.le_of_ble_eq_true rfl) (Nat.le_of_ble_eq_true rfl) (Nat.le_of_ble_eq_true rfl) (Nat.le_of_ble_eq_true rfl) rfl ?_
  show PZ p l e room_1 s m #[Value.ref b] below meth c D (s.heap.size, b) E 0 0 (lw_Z below #[Value.ref b] s) 7 [.float 0, .null, .null, .null] [.ref 0] (zCwa D s.heap.size)
  refine Z_astore (i := 1) hC (by decide +kernel) (by decide) ?_
  show PZ p l e room_1 s m #[Value.ref b] below meth c D (s.heap.size, b) E 0 0 (lw_Z below #[Value.ref b] s) 8 [.float 0, .ref 0, .null, .null] [] (zCwa D s.heap.size)
  have hl := zCwa_len D s.heap.size
  refine Z_new (idx := 10) (q1 := 742) (q2 := 743) (q3 := 68) hC hsz (Nat.zero_le _) 9 (by decide +kernel) (by decide) (by decide +kernel) (by decide +kernel) (by decide +kernel) (by rw [hl]; exact Nat.le_of_ble_eq_true rfl) (by rw [hl]; exact Nat.le_of_ble_eq_true rfl) ?_
  refine Z_dup hC (by decide +kernel) ?_
  refine Z_call (idx := 12) (q1 := 746) (q2 := 68) (q3 := 744) (q4 := 745) (pre := zCwa D s.heap.size) hC hsz c_X11_init (Nat.zero_le _) (by decide +kernel) rfl rfl (by decide +kernel) (by decide +kernel) (by decide +kernel) (by decide +kernel) rfl (by decide +kernel) (Nat.le_of_ble_eq_true rfl) (Nat.le_of_ble_eq_true rfl) (by rw [hl]; exact Nat.le_of_ble_eq_true rfl) (by rw [hl]; exact Nat.le_of_ble_eq_true rfl) rfl ?_
  rw [hl]
  show PZ p l e room_1 s m #[Value.ref b] below meth c D (s.heap.size, b) E 0 0 (lw_Z below #[Value.ref b] s) 15 [.float 0, .ref 0, .null, .null] [.ref 208] (zCwa D s.heap.size ++ zMod D (s.heap.size + (0 + 208)))
  refine Z_astore (i := 2) hC (by decide +kernel) (by decide) ?_
  refine Z_iconst (n := 0) hC 0 (by decide +kernel) (by decide +kernel) ?_
  refine Z_istore (i := 3) hC (by decide +kernel) (by decide) ?_
  have e : s.heap.size + (0 + 208) = s.heap.size + 208 := rfl
  rw [e]
  exact law_begin hL
theorem whole_start {p : Program} {e : Env} {s : State} {m : MethodId} {below : List Frame} {meth : Method} {c : Code} (l : Launch) {b L : Nat} {xs : Nat → Int32} (hL : L ≤ 320) (C0 : lw_At p s m meth c b L xs) : W p l e room_1 s m #[Value.ref b] below meth c s.heap [] 0 0 (lw_Z below #[Value.ref b] s) (entryFrame m ([Value.ref b] : List Value).toArray 4) := by
  obtain ⟨hx, hb, hr, hml, hown, hts, hX, hbl, hlk, -⟩ := C0
  obtain ⟨D, hKN⟩ := kn_start hts
  have hts2 : ∀ w ∈ tg, w.before #[Value.ref b] s = true := fun w hw => hts w (List.mem_filter.mp hw).1
  have hC : LC p s m meth c D (s.heap.size, b) L xs := ⟨⟨⟨hx, hb, hml, hown, hts2⟩, hKN⟩, hX, hbl, rfl, hL, hr, hlk⟩
  have hl := lv_entry ([Value.ref b]) (n := 4) (Nat.le_of_ble_eq_true rfl)
  rw [lg_entry_eq]
  generalize (lg_sl ([Value.ref b]) ++ List.replicate (4 - (lg_sl ([Value.ref b])).length) Slot.unset).toArray = ls at hl ⊢
  refine law_make (E := fun _ => eD) hC s.heap [] ls (fun k q hq => ?_) va_S.rf ?_
  · have hq' : ([] : va_W)[k]? = some q := hq
    simp at hq'
  · rw [hml]
    refine ⟨⟨hl.1, hl.2.1, fun q hq => ?_⟩, fun w hw => ?_, rfl⟩
    · have : q = (0, Value.ref b) := by simpa [lsl, cv] using hq
      rw [this]
      exact hl.2.2 _ List.mem_cons_self
    · simp at hw
      rcases hw with rfl | rfl <;> rfl
