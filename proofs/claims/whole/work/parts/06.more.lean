def tsw : List (Int32 × Nat) → Nat → Int32 → (Nat → Prop) → Prop
  | [], d, _, K => K d
  | (v, t) :: r, d, x, K => (x = v → K t) ∧ (¬ x = v → tsw r d x K)
theorem tsw_inv {K : Nat → Prop} {x : Int32} {d : Nat} : ∀ ps : List (Int32 × Nat), tsw ps d x K → (∃ (i : Nat) (q : Int32 × Nat), ps[i]? = some q ∧ x = q.1 ∧ K q.2) ∨ ((∀ (i : Nat) (q : Int32 × Nat), ps[i]? = some q → x ≠ q.1) ∧ K d)
  | [], h => Or.inr ⟨fun i q h => by simp at h, h⟩
  | (v, t) :: r, h => by
    by_cases hx : x = v
    · exact Or.inl ⟨0, (v, t), rfl, hx, h.1 hx⟩
    · rcases tsw_inv r (h.2 hx) with ⟨i, q, h1, h2, h3⟩ | ⟨h1, h2⟩
      · exact Or.inl ⟨i + 1, q, by simpa using h1, h2, h3⟩
      · refine Or.inr ⟨fun i q hq => ?_, h2⟩
        cases i with
        | zero => simp at hq; subst hq; exact hx
        | succ i => exact h1 i q (by simpa using hq)
def tswB (cc : ByteArray) (pc : Nat) (dflt lo hi : Int) (offs : Array Int) (len : Nat) (ps : List (Int32 × Nat)) (d : Nat) : Bool :=
  decide (decode cc pc = .ok (.tableswitch dflt lo hi offs, len)) && (decide ((pc : Int) + dflt = (d : Int)) && (decide (hi + 1 = lo + (ps.length : Int)) && (List.range ps.length).all (fun i => match ps[i]?, offs[i]? with
    | some q, some o => decide (q.1.toInt = lo + (i : Int)) && decide ((pc : Int) + o = (q.2 : Int))
    | _, _ => false)))
theorem P_tsw {M : MD} {Q : Option Value → St → Prop} {pc : Nat} {dflt lo hi : Int} {offs : Array Int} {len : Nat} {ps : List (Int32 × Nat)} {d : Nat} (hB : tswB M.2.2.1 pc dflt lo hi offs len ps d = true) {x : Int32} {L st : List Value} {σ : St} (h : tsw ps d x (fun t => PW M Q t L st σ)) : PW M Q pc L (.int x :: st) σ := by
  intro p l e s m args below meth c D B hC hr hlk H locs ls hP hS hl
  simp only [tswB, Bool.and_eq_true, decide_eq_true_eq] at hB
  obtain ⟨h1, h2, h3, h4⟩ := hB
  obtain ⟨⟨hx, hb, hml, hown, hts⟩, -⟩ := id hC
  rcases tsw_inv ps h with ⟨i, q, e1, e2, e3⟩ | ⟨e1, e2⟩
  · have hi : i < ps.length := (List.getElem?_eq_some_iff.mp e1).1
    have h5 := List.all_eq_true.mp h4 i (List.mem_range.mpr hi)
    rw [e1] at h5
    cases ho : offs[i]? with
    | none => rw [ho] at h5; simp at h5
    | some o =>
      rw [ho] at h5
      simp only [Bool.and_eq_true, decide_eq_true_eq] at h5
      subst e2
      exact lv_tableIn hx hb h1 (by omega) (by omega) (by rw [show (q.1.toInt - lo).toNat = i by omega]; exact ho) h5.2 (e3 p l e s m args below meth c D B hC hr hlk H locs ls hP hS hl)
  · refine lv_tableOut hx hb h1 ?_ h2 (e2 p l e s m args below meth c D B hC hr hlk H locs ls hP hS hl)
    by_cases h6 : x.toInt < lo
    · exact Or.inl h6
    · by_cases h7 : hi < x.toInt
      · exact Or.inr h7
      · exfalso
        have hi2 : (x.toInt - lo).toNat < ps.length := by omega
        have h5 := List.all_eq_true.mp h4 _ (List.mem_range.mpr hi2)
        have e3 := List.getElem?_eq_getElem hi2
        rw [e3] at h5
        cases ho : offs[(x.toInt - lo).toNat]? with
        | none => rw [ho] at h5; simp at h5
        | some o =>
          rw [ho] at h5
          simp only [Bool.and_eq_true, decide_eq_true_eq] at h5
          exact e1 _ _ e3 (Int32.toInt_inj.mp (by rw [h5.1]; omega))
def lswR (pc : Nat) : List (Int × Int) → List (Int32 × Nat) → Bool
  | [], [] => true
  | (a, o) :: r, (v, t) :: r2 => decide (v.toInt = a) && (decide ((pc : Int) + o = (t : Int)) && lswR pc r r2)
  | _, _ => false
theorem lswR_ok {pc d : Nat} {dflt : Int} {x : Int32} {K : Nat → Prop} (hd : (pc : Int) + dflt = (d : Int)) : ∀ (r : List (Int × Int)) (ps : List (Int32 × Nat)), lswR pc r ps = true → tsw ps d x K → ∃ t : Nat, (pc : Int) + Op.lookupswitch.offset r dflt x.toInt = (t : Int) ∧ K t
  | [], [], _, h => ⟨d, hd, h⟩
  | [], _ :: _, h, _ => by simp [lswR] at h
  | _ :: _, [], h, _ => by simp [lswR] at h
  | (a, o) :: r, (v, t) :: ps, h, hk => by
    simp only [lswR, Bool.and_eq_true, decide_eq_true_eq] at h
    rw [Op.lookupswitch.offset_cons]
    by_cases hx : x = v
    · rw [if_pos (by rw [hx, h.1])]
      exact ⟨t, h.2.1, hk.1 hx⟩
    · rw [if_neg (fun z => hx (Int32.toInt_inj.mp (by rw [h.1]; exact z.symm)))]
      exact lswR_ok hd r ps h.2.2 (hk.2 hx)
def lswB (cc : ByteArray) (pc : Nat) (dflt : Int) (prs : Array (Int × Int)) (len : Nat) (ps : List (Int32 × Nat)) (d : Nat) : Bool :=
  decide (decode cc pc = .ok (.lookupswitch dflt prs, len)) && (decide ((pc : Int) + dflt = (d : Int)) && ((prs.toList.zip (prs.toList.drop 1)).all (fun (a, next) => a.1 < next.1) && lswR pc prs.toList ps))
theorem P_lsw {M : MD} {Q : Option Value → St → Prop} {pc : Nat} {dflt : Int} {prs : Array (Int × Int)} {len : Nat} {ps : List (Int32 × Nat)} {d : Nat} (hB : lswB M.2.2.1 pc dflt prs len ps d = true) {x : Int32} {L st : List Value} {σ : St} (h : tsw ps d x (fun t => PW M Q t L st σ)) : PW M Q pc L (.int x :: st) σ := by
  intro p l e s m args below meth c D B hC hr hlk H locs ls hP hS hl
  simp only [lswB, Bool.and_eq_true, decide_eq_true_eq] at hB
  obtain ⟨h1, h2, h3, h4⟩ := hB
  obtain ⟨⟨hx, hb, hml, hown, hts⟩, -⟩ := id hC
  obtain ⟨t, e1, e2⟩ := lswR_ok h2 prs.toList ps h4 h
  exact lv_lookup hx hb h1 h3 rfl e1 (e2 p l e s m args below meth c D B hC hr hlk H locs ls hP hS hl)
theorem arr_ext {cA : ClassId} {n : Nat} {f g : Nat → Int32} (h : ∀ j, j < n → f j = g j) : vp_cell cA (n, .inl f) = vp_cell cA (n, .inl g) := by
  rw [vp_cell_i, vp_cell_i]
  unfold arrV
  congr 1
  apply Array.ext
  · simp
  · intro i h1 h2
    simp at h1 ⊢
    exact h i h1
def simS (σ σ' : St) : Prop := σ'.2 = σ.2 ∧ ∀ a, (∀ c j, ob a = (0, c) → j < clN c → fk c j = none ∨ fk c j = some (some 0) → σ'.1 a j = σ.1 a j) ∧ (∀ j, (ob a).1 ≠ 0 → j < (ob a).2 → σ'.1 a j = σ.1 a j)
theorem sim_P {D : DD} {b : Nat} {σ σ' : St} {H : Heap} (h : simS σ σ') (hP : va_P D.1 CL (wl D b σ) H) : va_P D.1 CL (wl D b σ') H := by
  intro k q hq
  have hk : k < 221 := by
    have := (List.getElem?_eq_some_iff.mp hq).1
    simpa [wl] using this
  have h0 := hP k _ (wl_at D b σ hk)
  rw [wl_at D b σ' hk] at hq
  cases hq
  rcases ho : ob k with ⟨t, n⟩
  have h2 := h.2 k
  rcases t with _ | _ | _ | t
  · have e : ent D b σ' k = ent D b σ k := by
      rw [ent_ob ho, ent_ob ho]
      refine congrArg (fun z => (Sum.inr (n, z) : va_E)) (List.map_congr_left fun j hj => ?_)
      have hj := List.mem_range.mp hj
      unfold fv
      split
      · rename_i hf; rw [h2.1 n j ho hj (Or.inl hf)]
      · rw [h.1]
      · rename_i hf; rw [h2.1 n j ho hj (Or.inr hf)]
      · rfl
    rw [e]; exact h0
  · rw [ent_al ho] at h0 ⊢
    have h3 : H[b + k]? = some (vp_cell D.2.1 (n, .inl (σ.1 k))) := h0
    show H[b + k]? = some (vp_cell D.2.1 (n, .inl (σ'.1 k)))
    rw [h3, arr_ext (fun j hj => (h2.2 j (by rw [ho]; exact Nat.succ_ne_zero _) (by rw [ho]; exact hj)).symm)]
  · rw [ent_zl ho] at h0 ⊢
    have h3 : H[b + k]? = some (vp_cell D.2.2.1 (n, .inl (σ.1 k))) := h0
    show H[b + k]? = some (vp_cell D.2.2.1 (n, .inl (σ'.1 k)))
    rw [h3, arr_ext (fun j hj => (h2.2 j (by rw [ho]; exact Nat.succ_ne_zero _) (by rw [ho]; exact hj)).symm)]
  · have e : ent D b σ' k = ent D b σ k := by unfold ent; rw [ho]; rfl
    rw [e]; exact h0
theorem P_sim {M : MD} {Q : Option Value → St → Prop} {pc : Nat} {L st : List Value} {σ σ' : St} (h : simS σ σ') (k : PW M Q pc L st σ') : PW M Q pc L st σ := by
  intro p l e s m args below meth c D B hC hr hlk H locs ls hP hS hl
  exact k p l e s m args below meth c D B hC hr hlk H locs ls (sim_P h hP) hS hl
theorem Ret.sim {M : MD} {σ σ' σ2 : St} {as : List Value} {v : Option Value} (h : Ret M σ as v σ') (hs : simS σ' σ2) : Ret M σ as v σ2 := by
  intro l D B
  refine fun p e ha hc hk s m args below hf hfit hheap happ => ?_
  obtain ⟨k, o, h1, h2, h3, h4⟩ := h l D B p e ha hc hk s m args below hf hfit hheap happ
  refine ⟨k, o, h1, h2, h3, ?_⟩
  obtain ⟨⟨⟨v', s', e1, ⟨rfl, rfl⟩, e2⟩, e3⟩, e4⟩ := h4
  exact ⟨⟨⟨_, _, e1, ⟨rfl, rfl⟩, sim_P hs e2⟩, e3⟩, e4⟩
def cpB (M : MD) (pc idx p1 p2 p3 p4 : Nat) : Bool := decide (decode M.2.2.1 pc = .ok (.invokestatic idx, 3)) && (decide (1 ≤ M.2.2.2.2.2.1) && (decide (8 + (nativeFrameWords "java/lang/System" "arraycopy" 5 + 11) ≤ M.2.2.2.2.2.2) && (atB p1 (Cond.methodLink (ownS M.1) idx arraycopyName) && (atB p2 (Cond.native arraycopyName) && (atB p3 (Cond.static arraycopyName) && atB p4 (Cond.initialized "java/lang/System"))))))
theorem P_copy {M : MD} {Q : Option Value → St → Prop} {pc idx p1 p2 p3 p4 : Nat} (hB : cpB M pc idx p1 p2 p3 p4 = true) {x y n : Nat} {N : Int32} {L st : List Value} {σ : St} (hx : ob x = (1, n)) (hy : ob y = (1, n)) (hN : N = nI n) (hn : n < 2 ^ 31) (hroom : roomB st = true)
    (k : PW M Q (pc + 3) L st (pr σ y (σ.1 x))) : PW M Q pc L (.int N :: .int 0 :: .ref y :: .int 0 :: .ref x :: st) σ := by
  intro p l e s m args below meth c D B hC hr hlk H locs ls hP hS hl
  simp only [cpB, Bool.and_eq_true, decide_eq_true_eq] at hB
  obtain ⟨h1, h2, h3, h4, h5, h6, h7⟩ := hB
  obtain ⟨⟨hx0, hb, hml, hown, hts⟩, hKK⟩ := id hC
  have hcl : N.toNatClampNeg = n := by rw [hN, nI_clamp hn]
  refine va_copyi hx0 hb (by rw [hl.1.1]) hown (hts _ (atB_ok h4 rfl)) (hts _ (atB_ok h5 rfl)) (hts _ (atB_ok h6 rfl)) (hts _ (atB_ok h7 rfl)) hKK.1 hP (wl_D D B.1 σ) hS x y 0 0 (at_al D B.1 σ hx) (at_al D B.1 σ hy) rfl rfl rfl (by decide) (by decide) (by rw [hN]; exact nI_pos hn) (by rw [hcl, sb_cl0, Nat.zero_add]; exact Nat.le_refl _) (by rw [hcl, sb_cl0, Nat.zero_add]; exact Nat.le_refl _) (fun _ _ => rfl) h2 (Nat.le_trans (Nat.add_le_add_right (room_cv hroom) _) h3) h1 (fun H1 locs1 hP1 _ hS1 => ?_)
  rw [wl_pr_al hy] at hP1
  refine P_sim (σ := pr σ y (va_cpy (σ.1 x) (σ.1 y) (0 : Int32).toNatClampNeg (0 : Int32).toNatClampNeg N.toNatClampNeg)) (σ' := pr σ y (σ.1 x)) ⟨rfl, fun a => ?_⟩ k p l e s m args below meth c D B hC hr hlk H1 locs1 ls hP1 hS1 hl
  by_cases ha : a = y
  · subst ha
    refine ⟨fun c j hc => ?_, fun j _ hj => ?_⟩
    · rw [hy] at hc; cases hc
    · rw [hy] at hj
      simp only [pr, if_true, va_cpy, hcl, sb_cl0]
      rw [if_pos ⟨Nat.zero_le _, by simpa using hj⟩]
      simp
  · simp [pr, ha]
