theorem enT_inl {lt : Nat → Int32} {len p f : Nat} {T : TD} (hp : p ≤ len) (h : enT lt len p T = .inl f) : f ≤ len := by
  unfold enT at h; split at h
  · cases h
  · cases h; exact (tkS_le hp).2
theorem itF_inl {lt : Nat → Int32} {len p f : Nat} {T : TD} (hp : p ≤ len) (h : itF lt len T p = .inl f) : f ≤ len := by
  have x0 := tkX_le (lt := lt) hp
  unfold itF at h; split at h
  · exact enT_inl x0.2 h
  · cases h; exact (tkS_le hp).2
theorem itR_inl {lt : Nat → Int32} {len p f : Nat} {T : TD} (hp : p ≤ len) (h : itR lt len T p = .inl f) : f ≤ len := by
  have x0 := tkX_le (lt := lt) hp
  have x1 := tkX_le (lt := lt) (p := tkX lt len p) x0.2
  unfold itR at h; split at h
  · split at h
    · exact enT_inl x1.2 h
    · cases h; exact (tkS_le x0.2).2
  · cases h; exact (tkS_le hp).2
theorem itA_inl {lt : Nat → Int32} {len p f : Nat} {T : TD} (hp : p ≤ len) (h : itA lt len T p = .inl f) : f ≤ len := by
  have x0 := tkX_le (lt := lt) hp
  have x1 := tkX_le (lt := lt) (p := tkX lt len p) x0.2
  have x2 := tkX_le (lt := lt) (p := tkX lt len (tkX lt len p)) x1.2
  unfold itA at h; split at h
  · split at h
    · split at h
      · exact enT_inl x2.2 h
      · cases h; exact (tkS_le x1.2).2
    · cases h; exact (tkS_le x0.2).2
  · cases h; exact (tkS_le hp).2
theorem itP_inl {lt : Nat → Int32} {len p f : Nat} {T : TD} (hp : p ≤ len) (h : itP lt len T p = .inl f) : f ≤ len := by
  have x0 := tkX_le (lt := lt) hp
  have x1 := tkX_le (lt := lt) (p := tkX lt len p) x0.2
  have x2 := tkX_le (lt := lt) (p := tkX lt len (tkX lt len p)) x1.2
  have x3 := tkX_le (lt := lt) (p := tkX lt len (tkX lt len (tkX lt len p))) x2.2
  unfold itP at h; split at h
  · split at h
    · split at h
      · split at h
        · exact enT_inl x3.2 h
        · cases h; exact (tkS_le x2.2).2
      · cases h; exact (tkS_le x1.2).2
    · cases h; exact (tkS_le x0.2).2
  · cases h; exact (tkS_le hp).2
theorem itT_inl {lt : Nat → Int32} {len p f : Nat} {T : TD} {b : Bool} (hp : p ≤ len) (h : itT lt len b T p = .inl f) : f ≤ len := by
  have x0 := tkX_le (lt := lt) hp
  have s0 := tkS_le (lt := lt) hp
  unfold itT at h
  split at h
  · split at h
    · exact itA_inl x0.2 h
    · cases h; exact s0.2
  · split at h
    · split at h
      · exact itF_inl x0.2 h
      · cases h; exact s0.2
    · split at h
      · split at h
        · exact itP_inl x0.2 h
        · cases h; exact s0.2
      · split at h
        · exact itR_inl x0.2 h
        · cases h; exact s0.2
theorem prs_bd {lt : Nat → Int32} {len : Nat} : ∀ (q k : Nat) (T : TD) (p : Nat), p ≤ len → okT T → (∀ f, prs lt len q k T p = .inl f → f ≤ len) ∧ (∀ r, prs lt len q k T p = .inr r → r.1 ≤ k + q)
  | 0, k, T, p, hp, hT => ⟨fun f h => by simp only [prs] at h; cases h; exact Nat.le_refl _, fun r h => by simp only [prs] at h; cases h⟩
  | q + 1, k, T, p, hp, hT => by
    simp only [prs]
    split
    · exact ⟨fun f h => (by cases h), fun r h => by cases h; simp only; omega⟩
    · cases hI : itT lt len (k == 0) T p with
      | inl g => exact ⟨fun f h => by cases h; exact itT_inl hp hI, fun r h => by cases h⟩
      | inr g =>
        have hg := itT_inr hp hT hI
        have ih := prs_bd (lt := lt) (len := len) q (k + 1) g.1 g.2 hg.2.2 hg.1
        exact ⟨fun f h => ih.1 f h, fun r h => by have := ih.2 r h; omega⟩
def LDP (σ : St) (o : Nat ⊕ (Nat × TD)) (r : Int32) (t : St) : Prop := match o with
  | .inl f => r = -10 - nI f ∧ scr σ t
  | .inr q => r = nI q.1 ∧ okT q.2 ∧ t.2 = σ.2 ∧ t.1 1 0 = nI q.2.1 ∧ t.1 2 = q.2.2.1 ∧ t.1 3 0 = σ.1 20 0 ∧ t.1 4 = σ.1 21 ∧ t.1 5 0 = nI q.2.2.2.1 ∧ (∀ a, a < q.2.2.2.1 → t.1 6 a = q.2.2.2.2.1 a 0 ∧ t.1 7 a = q.2.2.2.2.1 a 1 ∧ t.1 8 a = q.2.2.2.2.1 a 2) ∧ t.1 9 0 = nI q.2.2.2.2.2.1 ∧ (∀ k, k < q.2.2.2.2.2.1 → t.1 10 k = q.2.2.2.2.2.2 k 0 ∧ t.1 11 k = q.2.2.2.2.2.2 k 1 ∧ t.1 12 k = q.2.2.2.2.2.2 k 2 ∧ t.1 13 k = q.2.2.2.2.2.2 k 3) ∧ t.1 35 0 = 0 ∧ t.1 35 1 = σ.1 35 1 ∧ t.1 178 0 = 0 ∧ t.1 178 1 = 0 ∧ t.1 17 0 = 0 ∧ t.1 20 0 = σ.1 20 0 ∧ t.1 21 = σ.1 21 ∧ (∀ a, 34 ≤ a → a ≠ 35 → a ≠ 178 → t.1 a = σ.1 a)
theorem m10 : ∀ f, f ≤ 200 → ¬ (0 : Int32) ≤ -10 - nI f := by decide +kernel
def ldS (s : St) : St := pi (pi (pi (pi (cpR (pr (pi s 1 0 (s.1 18 0)) 2 (s.1 19)) 3 20 14) 35 0 0) 178 0 0) 178 1 0) 17 0 0
theorem LDP_ok {σ s : St} {q : Nat × TD} (h1 : scr σ s) (h2 : told q.2 s) (h3 : okT q.2) : LDP σ (.inr q) (nI q.1) (ldS s) := by
  obtain ⟨a1, a2, a3, a4, a5, a6⟩ := h2
  have e : ∀ i, i < 14 → (cpR (pr (pi s 1 0 (s.1 18 0)) 2 (s.1 19)) 3 20 14).1 (3 + i) = s.1 (20 + i) := fun i hi => by
    rw [cpR_in (by omega) (by omega), Nat.add_sub_cancel_left, pr_o (by omega), pi_o (by omega)]
  have o : ∀ a, a < 3 ∨ 17 ≤ a → (cpR (pr (pi s 1 0 (s.1 18 0)) 2 (s.1 19)) 3 20 14).1 a = (pr (pi s 1 0 (s.1 18 0)) 2 (s.1 19)).1 a := fun a ha => cpR_out (by omega)
  have f : ∀ i, i < 14 → (ldS s).1 (3 + i) = s.1 (20 + i) := fun i hi => by
    unfold ldS; simp (disch := omega) only [pi_o]; exact e i hi
  have g : ∀ a, 18 ≤ a → a ≠ 35 → a ≠ 178 → (ldS s).1 a = s.1 a := fun a h1 h2 h3 => by
    unfold ldS; simp (disch := omega) only [pi_o]; rw [o a (by omega), pr_o (by omega), pi_o (by omega)]
  refine ⟨rfl, h3, h1.1, ?_, ?_, ?_, ?_, ?_, fun a ha => ?_, ?_, fun k hk => ?_, ?_, ?_, ?_, ?_, ?_, ?_, ?_, fun a ha hb hc => ?_⟩
  · unfold ldS; simp (disch := omega) only [pi_o]; rw [o 1 (by omega), pr_o (by omega), pi_ss, a1]
  · unfold ldS; simp (disch := omega) only [pi_o]; rw [o 2 (by omega), pr_s, a2]
  · rw [f 0 (by omega)]; exact congrFun (h1.2.2 20 (by omega) (by omega)) 0
  · rw [f 1 (by omega)]; exact h1.2.2 21 (by omega) (by omega)
  · rw [f 2 (by omega)]; exact a3
  · rw [f 3 (by omega), f 4 (by omega), f 5 (by omega)]; exact a4 a ha
  · rw [f 6 (by omega)]; exact a5
  · rw [f 7 (by omega), f 8 (by omega), f 9 (by omega), f 10 (by omega)]; exact a6 k hk
  · unfold ldS; simp (disch := omega) only [pi_o, pi_ss]
  · unfold ldS; simp (disch := omega) only [pi_o, pi_so]; rw [o 35 (by omega), pr_o (by omega), pi_o (by omega)]; exact congrFun (h1.2.2 35 (by omega) (by omega)) 1
  · unfold ldS; simp (disch := omega) only [pi_o, pi_so, pi_ss]
  · unfold ldS; simp (disch := omega) only [pi_o, pi_ss]
  · unfold ldS; rw [pi_ss]
  · rw [g 20 (by omega) (by omega) (by omega)]; exact congrFun (h1.2.2 20 (by omega) (by omega)) 0
  · rw [g 21 (by omega) (by omega) (by omega)]; exact h1.2.2 21 (by omega) (by omega)
  · rw [g a (by omega) hb hc]; exact h1.2.2 a (by omega) (by omega)

set_option maxHeartbeats 400000 in
theorem u_X10_land {σ : St} {lt : Nat → Int32} {len : Nat} (hlt : σ.1 34 = lt) (hlen : σ.1 17 0 = nI len) (h200 : len ≤ 200) (hch : ∀ i, i < len → 0 ≤ lt i) : RetPi m_X10_land (σ) [.ref 0] (LDP σ (prs lt len 201 0 T0 0)) := by
  refine RetPi.introQ 1 (L := [.ref 0, .null]) (by decide +kernel) rfl rfl rfl (fun Q hQ => ?_)
  have hbd := prs_bd (lt := lt) (len := len) 201 0 T0 0 (Nat.zero_le _) okT0
  refine P_blk b_X10_land_0 ?_
  simp (disch := omega) only [↓w_nil, ↓w_iconst, ↓w_bipush, ↓w_sipush, ↓w_ldc, ↓w_ldc_w, ↓w_lconst, ↓w_ldc2_w, ↓w_il0, ↓w_al0, ↓w_is0, ↓w_ii0, ↓w_il1, ↓w_al1, ↓w_is1, ↓w_ii1, ↓w_il2, ↓w_al2, ↓w_is2, ↓w_ii2, ↓w_il3, ↓w_al3, ↓w_is3, ↓w_ii3, ↓w_il4, ↓w_al4, ↓w_is4, ↓w_ii4, ↓w_il5, ↓w_al5, ↓w_is5, ↓w_ii5, ↓w_il6, ↓w_is6, ↓w_ii6, ↓w_il7, ↓w_is7, ↓w_ii7, ↓w_il8, ↓w_is8, ↓w_ii8, ↓w_il9, ↓w_is9, ↓w_ii9, ↓w_il10, ↓w_is10, ↓w_ii10, ↓w_il11, ↓w_is11, ↓w_ii11, ↓w_iadd, ↓w_isub, ↓w_imul, ↓w_iand, ↓w_ior, ↓w_ixor, ↓w_ishl, ↓w_ishr, ↓w_iushr, ↓w_idiv, ↓w_irem, ↓w_ineg, ↓w_ladd, ↓w_dup, ↓w_dup2, ↓w_pop, ↓w_gi, ↓w_gl, ↓w_gz, ↓w_gr1, ↓w_gr2, ↓w_gr3, ↓w_gr4, ↓w_gr5, ↓w_gr6, ↓w_gr7, ↓w_gr8, ↓w_gr9, ↓w_gr10, ↓w_gr11, ↓w_gr12, ↓w_gr17, ↓w_gr35, ↓w_gr177, ↓w_pi, ↓w_pl, ↓w_pz, ↓w_iaload, ↓w_baload, ↓w_aaload, ↓w_iastore, ↓w_bastore, ↓w_arraylength, ↓w_goto, ↓w_if_eq, ↓w_if_ne, ↓w_if_lt, ↓w_if_ge, ↓w_if_gt, ↓w_if_le, ↓w_ic_eq, ↓w_ic_ne, ↓w_ic_lt, ↓w_ic_ge, ↓w_ic_gt, ↓w_ic_le, ↓w_ireturn0, ↓w_ireturn1, ↓w_lreturn, ↓w_return_, Nat.add_assoc, Nat.reduceAdd, pi_o, pi_ss, pi_so, pi_2, pr_o, pr_s, pr_2, pl_1, pl_s, pl_o]
  refine ⟨(by first | assumption | exact rfl), ?_⟩
  refine P_V0iP k_X10_land_4 (by first | assumption | exact rfl) (u_X9_readAll hlt hlen h200 hch) rfl rfl ?_
  intro r s hs
  cases hR : prs lt len 201 0 T0 0 with
  | inl f =>
    rw [hR] at hs hQ
    have hf := hbd.1 f hR
    have hr := hs.1
    have hneg := m10 f (by omega)
    rw [← hr] at hneg
    refine P_blk b_X10_land_7 ?_
    simp (disch := omega) only [↓w_nil, ↓w_iconst, ↓w_bipush, ↓w_sipush, ↓w_ldc, ↓w_ldc_w, ↓w_lconst, ↓w_ldc2_w, ↓w_il0, ↓w_al0, ↓w_is0, ↓w_ii0, ↓w_il1, ↓w_al1, ↓w_is1, ↓w_ii1, ↓w_il2, ↓w_al2, ↓w_is2, ↓w_ii2, ↓w_il3, ↓w_al3, ↓w_is3, ↓w_ii3, ↓w_il4, ↓w_al4, ↓w_is4, ↓w_ii4, ↓w_il5, ↓w_al5, ↓w_is5, ↓w_ii5, ↓w_il6, ↓w_is6, ↓w_ii6, ↓w_il7, ↓w_is7, ↓w_ii7, ↓w_il8, ↓w_is8, ↓w_ii8, ↓w_il9, ↓w_is9, ↓w_ii9, ↓w_il10, ↓w_is10, ↓w_ii10, ↓w_il11, ↓w_is11, ↓w_ii11, ↓w_iadd, ↓w_isub, ↓w_imul, ↓w_iand, ↓w_ior, ↓w_ixor, ↓w_ishl, ↓w_ishr, ↓w_iushr, ↓w_idiv, ↓w_irem, ↓w_ineg, ↓w_ladd, ↓w_dup, ↓w_dup2, ↓w_pop, ↓w_gi, ↓w_gl, ↓w_gz, ↓w_gr1, ↓w_gr2, ↓w_gr3, ↓w_gr4, ↓w_gr5, ↓w_gr6, ↓w_gr7, ↓w_gr8, ↓w_gr9, ↓w_gr10, ↓w_gr11, ↓w_gr12, ↓w_gr17, ↓w_gr35, ↓w_gr177, ↓w_pi, ↓w_pl, ↓w_pz, ↓w_iaload, ↓w_baload, ↓w_aaload, ↓w_iastore, ↓w_bastore, ↓w_arraylength, ↓w_goto, ↓w_if_eq, ↓w_if_ne, ↓w_if_lt, ↓w_if_ge, ↓w_if_gt, ↓w_if_le, ↓w_ic_eq, ↓w_ic_ne, ↓w_ic_lt, ↓w_ic_ge, ↓w_ic_gt, ↓w_ic_le, ↓w_ireturn0, ↓w_ireturn1, ↓w_lreturn, ↓w_return_, Nat.add_assoc, Nat.reduceAdd, pi_o, pi_ss, pi_so, pi_2, pr_o, pr_s, pr_2, pl_1, pl_s, pl_o]
    refine ⟨fun z9 => ?_, fun z9 => ?_⟩
    · exact absurd z9 hneg
    · refine P_blk b_X10_land_12 ?_
      simp (disch := omega) only [↓w_nil, ↓w_iconst, ↓w_bipush, ↓w_sipush, ↓w_ldc, ↓w_ldc_w, ↓w_lconst, ↓w_ldc2_w, ↓w_il0, ↓w_al0, ↓w_is0, ↓w_ii0, ↓w_il1, ↓w_al1, ↓w_is1, ↓w_ii1, ↓w_il2, ↓w_al2, ↓w_is2, ↓w_ii2, ↓w_il3, ↓w_al3, ↓w_is3, ↓w_ii3, ↓w_il4, ↓w_al4, ↓w_is4, ↓w_ii4, ↓w_il5, ↓w_al5, ↓w_is5, ↓w_ii5, ↓w_il6, ↓w_is6, ↓w_ii6, ↓w_il7, ↓w_is7, ↓w_ii7, ↓w_il8, ↓w_is8, ↓w_ii8, ↓w_il9, ↓w_is9, ↓w_ii9, ↓w_il10, ↓w_is10, ↓w_ii10, ↓w_il11, ↓w_is11, ↓w_ii11, ↓w_iadd, ↓w_isub, ↓w_imul, ↓w_iand, ↓w_ior, ↓w_ixor, ↓w_ishl, ↓w_ishr, ↓w_iushr, ↓w_idiv, ↓w_irem, ↓w_ineg, ↓w_ladd, ↓w_dup, ↓w_dup2, ↓w_pop, ↓w_gi, ↓w_gl, ↓w_gz, ↓w_gr1, ↓w_gr2, ↓w_gr3, ↓w_gr4, ↓w_gr5, ↓w_gr6, ↓w_gr7, ↓w_gr8, ↓w_gr9, ↓w_gr10, ↓w_gr11, ↓w_gr12, ↓w_gr17, ↓w_gr35, ↓w_gr177, ↓w_pi, ↓w_pl, ↓w_pz, ↓w_iaload, ↓w_baload, ↓w_aaload, ↓w_iastore, ↓w_bastore, ↓w_arraylength, ↓w_goto, ↓w_if_eq, ↓w_if_ne, ↓w_if_lt, ↓w_if_ge, ↓w_if_gt, ↓w_if_le, ↓w_ic_eq, ↓w_ic_ne, ↓w_ic_lt, ↓w_ic_ge, ↓w_ic_gt, ↓w_ic_le, ↓w_ireturn0, ↓w_ireturn1, ↓w_lreturn, ↓w_return_, Nat.add_assoc, Nat.reduceAdd, pi_o, pi_ss, pi_so, pi_2, pr_o, pr_s, pr_2, pl_1, pl_s, pl_o]
      exact hQ _ _ ⟨hr, hs.2⟩
  | inr q =>
    rw [hR] at hs hQ
    have hq := hbd.2 q hR
    obtain ⟨rfl, s1, s2, s3⟩ := hs
    refine P_blk b_X10_land_7 ?_
    simp (disch := omega) only [↓w_nil, ↓w_iconst, ↓w_bipush, ↓w_sipush, ↓w_ldc, ↓w_ldc_w, ↓w_lconst, ↓w_ldc2_w, ↓w_il0, ↓w_al0, ↓w_is0, ↓w_ii0, ↓w_il1, ↓w_al1, ↓w_is1, ↓w_ii1, ↓w_il2, ↓w_al2, ↓w_is2, ↓w_ii2, ↓w_il3, ↓w_al3, ↓w_is3, ↓w_ii3, ↓w_il4, ↓w_al4, ↓w_is4, ↓w_ii4, ↓w_il5, ↓w_al5, ↓w_is5, ↓w_ii5, ↓w_il6, ↓w_is6, ↓w_ii6, ↓w_il7, ↓w_is7, ↓w_ii7, ↓w_il8, ↓w_is8, ↓w_ii8, ↓w_il9, ↓w_is9, ↓w_ii9, ↓w_il10, ↓w_is10, ↓w_ii10, ↓w_il11, ↓w_is11, ↓w_ii11, ↓w_iadd, ↓w_isub, ↓w_imul, ↓w_iand, ↓w_ior, ↓w_ixor, ↓w_ishl, ↓w_ishr, ↓w_iushr, ↓w_idiv, ↓w_irem, ↓w_ineg, ↓w_ladd, ↓w_dup, ↓w_dup2, ↓w_pop, ↓w_gi, ↓w_gl, ↓w_gz, ↓w_gr1, ↓w_gr2, ↓w_gr3, ↓w_gr4, ↓w_gr5, ↓w_gr6, ↓w_gr7, ↓w_gr8, ↓w_gr9, ↓w_gr10, ↓w_gr11, ↓w_gr12, ↓w_gr17, ↓w_gr35, ↓w_gr177, ↓w_pi, ↓w_pl, ↓w_pz, ↓w_iaload, ↓w_baload, ↓w_aaload, ↓w_iastore, ↓w_bastore, ↓w_arraylength, ↓w_goto, ↓w_if_eq, ↓w_if_ne, ↓w_if_lt, ↓w_if_ge, ↓w_if_gt, ↓w_if_le, ↓w_ic_eq, ↓w_ic_ne, ↓w_ic_lt, ↓w_ic_ge, ↓w_ic_gt, ↓w_ic_le, ↓w_ireturn0, ↓w_ireturn1, ↓w_lreturn, ↓w_return_, Nat.add_assoc, Nat.reduceAdd, pi_o, pi_ss, pi_so, pi_2, pr_o, pr_s, pr_2, pl_1, pl_s, pl_o]
    refine ⟨fun z9 => ?_, fun z9 => ?_⟩
    · refine P_blk b_X10_land_14 ?_
      simp (disch := omega) only [↓w_nil, ↓w_iconst, ↓w_bipush, ↓w_sipush, ↓w_ldc, ↓w_ldc_w, ↓w_lconst, ↓w_ldc2_w, ↓w_il0, ↓w_al0, ↓w_is0, ↓w_ii0, ↓w_il1, ↓w_al1, ↓w_is1, ↓w_ii1, ↓w_il2, ↓w_al2, ↓w_is2, ↓w_ii2, ↓w_il3, ↓w_al3, ↓w_is3, ↓w_ii3, ↓w_il4, ↓w_al4, ↓w_is4, ↓w_ii4, ↓w_il5, ↓w_al5, ↓w_is5, ↓w_ii5, ↓w_il6, ↓w_is6, ↓w_ii6, ↓w_il7, ↓w_is7, ↓w_ii7, ↓w_il8, ↓w_is8, ↓w_ii8, ↓w_il9, ↓w_is9, ↓w_ii9, ↓w_il10, ↓w_is10, ↓w_ii10, ↓w_il11, ↓w_is11, ↓w_ii11, ↓w_iadd, ↓w_isub, ↓w_imul, ↓w_iand, ↓w_ior, ↓w_ixor, ↓w_ishl, ↓w_ishr, ↓w_iushr, ↓w_idiv, ↓w_irem, ↓w_ineg, ↓w_ladd, ↓w_dup, ↓w_dup2, ↓w_pop, ↓w_gi, ↓w_gl, ↓w_gz, ↓w_gr1, ↓w_gr2, ↓w_gr3, ↓w_gr4, ↓w_gr5, ↓w_gr6, ↓w_gr7, ↓w_gr8, ↓w_gr9, ↓w_gr10, ↓w_gr11, ↓w_gr12, ↓w_gr17, ↓w_gr35, ↓w_gr177, ↓w_pi, ↓w_pl, ↓w_pz, ↓w_iaload, ↓w_baload, ↓w_aaload, ↓w_iastore, ↓w_bastore, ↓w_arraylength, ↓w_goto, ↓w_if_eq, ↓w_if_ne, ↓w_if_lt, ↓w_if_ge, ↓w_if_gt, ↓w_if_le, ↓w_ic_eq, ↓w_ic_ne, ↓w_ic_lt, ↓w_ic_ge, ↓w_ic_gt, ↓w_ic_le, ↓w_ireturn0, ↓w_ireturn1, ↓w_lreturn, ↓w_return_, Nat.add_assoc, Nat.reduceAdd, pi_o, pi_ss, pi_so, pi_2, pr_o, pr_s, pr_2, pl_1, pl_s, pl_o]
      refine ⟨(by first | assumption | exact rfl), (by first | assumption | exact rfl), (by first | assumption | exact rfl), ?_⟩
      refine P_V1v k_X10_land_25 (by first | assumption | exact rfl) (t_X3_copyFrom land1 land18 (by omega)) rfl rfl ?_
      refine P_blk b_X10_land_28 ?_
      simp (disch := omega) only [↓w_nil, ↓w_iconst, ↓w_bipush, ↓w_sipush, ↓w_ldc, ↓w_ldc_w, ↓w_lconst, ↓w_ldc2_w, ↓w_il0, ↓w_al0, ↓w_is0, ↓w_ii0, ↓w_il1, ↓w_al1, ↓w_is1, ↓w_ii1, ↓w_il2, ↓w_al2, ↓w_is2, ↓w_ii2, ↓w_il3, ↓w_al3, ↓w_is3, ↓w_ii3, ↓w_il4, ↓w_al4, ↓w_is4, ↓w_ii4, ↓w_il5, ↓w_al5, ↓w_is5, ↓w_ii5, ↓w_il6, ↓w_is6, ↓w_ii6, ↓w_il7, ↓w_is7, ↓w_ii7, ↓w_il8, ↓w_is8, ↓w_ii8, ↓w_il9, ↓w_is9, ↓w_ii9, ↓w_il10, ↓w_is10, ↓w_ii10, ↓w_il11, ↓w_is11, ↓w_ii11, ↓w_iadd, ↓w_isub, ↓w_imul, ↓w_iand, ↓w_ior, ↓w_ixor, ↓w_ishl, ↓w_ishr, ↓w_iushr, ↓w_idiv, ↓w_irem, ↓w_ineg, ↓w_ladd, ↓w_dup, ↓w_dup2, ↓w_pop, ↓w_gi, ↓w_gl, ↓w_gz, ↓w_gr1, ↓w_gr2, ↓w_gr3, ↓w_gr4, ↓w_gr5, ↓w_gr6, ↓w_gr7, ↓w_gr8, ↓w_gr9, ↓w_gr10, ↓w_gr11, ↓w_gr12, ↓w_gr17, ↓w_gr35, ↓w_gr177, ↓w_pi, ↓w_pl, ↓w_pz, ↓w_iaload, ↓w_baload, ↓w_aaload, ↓w_iastore, ↓w_bastore, ↓w_arraylength, ↓w_goto, ↓w_if_eq, ↓w_if_ne, ↓w_if_lt, ↓w_if_ge, ↓w_if_gt, ↓w_if_le, ↓w_ic_eq, ↓w_ic_ne, ↓w_ic_lt, ↓w_ic_ge, ↓w_ic_gt, ↓w_ic_le, ↓w_ireturn0, ↓w_ireturn1, ↓w_lreturn, ↓w_return_, Nat.add_assoc, Nat.reduceAdd, pi_o, pi_ss, pi_so, pi_2, pr_o, pr_s, pr_2, pl_1, pl_s, pl_o]
      refine ⟨(by first | assumption | exact rfl), (by first | assumption | exact rfl), (by first | assumption | exact rfl), ?_⟩
      refine P_V1v k_X10_land_39 (by first | assumption | exact rfl) (t_X5_copyFrom now3 now20 (by omega)) rfl rfl ?_
      refine P_blk b_X10_land_42 ?_
      simp (disch := omega) only [↓w_nil, ↓w_iconst, ↓w_bipush, ↓w_sipush, ↓w_ldc, ↓w_ldc_w, ↓w_lconst, ↓w_ldc2_w, ↓w_il0, ↓w_al0, ↓w_is0, ↓w_ii0, ↓w_il1, ↓w_al1, ↓w_is1, ↓w_ii1, ↓w_il2, ↓w_al2, ↓w_is2, ↓w_ii2, ↓w_il3, ↓w_al3, ↓w_is3, ↓w_ii3, ↓w_il4, ↓w_al4, ↓w_is4, ↓w_ii4, ↓w_il5, ↓w_al5, ↓w_is5, ↓w_ii5, ↓w_il6, ↓w_is6, ↓w_ii6, ↓w_il7, ↓w_is7, ↓w_ii7, ↓w_il8, ↓w_is8, ↓w_ii8, ↓w_il9, ↓w_is9, ↓w_ii9, ↓w_il10, ↓w_is10, ↓w_ii10, ↓w_il11, ↓w_is11, ↓w_ii11, ↓w_iadd, ↓w_isub, ↓w_imul, ↓w_iand, ↓w_ior, ↓w_ixor, ↓w_ishl, ↓w_ishr, ↓w_iushr, ↓w_idiv, ↓w_irem, ↓w_ineg, ↓w_ladd, ↓w_dup, ↓w_dup2, ↓w_pop, ↓w_gi, ↓w_gl, ↓w_gz, ↓w_gr1, ↓w_gr2, ↓w_gr3, ↓w_gr4, ↓w_gr5, ↓w_gr6, ↓w_gr7, ↓w_gr8, ↓w_gr9, ↓w_gr10, ↓w_gr11, ↓w_gr12, ↓w_gr17, ↓w_gr35, ↓w_gr177, ↓w_pi, ↓w_pl, ↓w_pz, ↓w_iaload, ↓w_baload, ↓w_aaload, ↓w_iastore, ↓w_bastore, ↓w_arraylength, ↓w_goto, ↓w_if_eq, ↓w_if_ne, ↓w_if_lt, ↓w_if_ge, ↓w_if_gt, ↓w_if_le, ↓w_ic_eq, ↓w_ic_ne, ↓w_ic_lt, ↓w_ic_ge, ↓w_ic_gt, ↓w_ic_le, ↓w_ireturn0, ↓w_ireturn1, ↓w_lreturn, ↓w_return_, Nat.add_assoc, Nat.reduceAdd, pi_o, pi_ss, pi_so, pi_2, pr_o, pr_s, pr_2, pl_1, pl_s, pl_o]
      refine ⟨(by first | assumption | exact rfl), ?_⟩
      refine P_V0v k_X10_land_46 (by first | assumption | exact rfl) t_X8_forgetAll rfl rfl ?_
      refine P_blk b_X10_land_49 ?_
      simp (disch := omega) only [↓w_nil, ↓w_iconst, ↓w_bipush, ↓w_sipush, ↓w_ldc, ↓w_ldc_w, ↓w_lconst, ↓w_ldc2_w, ↓w_il0, ↓w_al0, ↓w_is0, ↓w_ii0, ↓w_il1, ↓w_al1, ↓w_is1, ↓w_ii1, ↓w_il2, ↓w_al2, ↓w_is2, ↓w_ii2, ↓w_il3, ↓w_al3, ↓w_is3, ↓w_ii3, ↓w_il4, ↓w_al4, ↓w_is4, ↓w_ii4, ↓w_il5, ↓w_al5, ↓w_is5, ↓w_ii5, ↓w_il6, ↓w_is6, ↓w_ii6, ↓w_il7, ↓w_is7, ↓w_ii7, ↓w_il8, ↓w_is8, ↓w_ii8, ↓w_il9, ↓w_is9, ↓w_ii9, ↓w_il10, ↓w_is10, ↓w_ii10, ↓w_il11, ↓w_is11, ↓w_ii11, ↓w_iadd, ↓w_isub, ↓w_imul, ↓w_iand, ↓w_ior, ↓w_ixor, ↓w_ishl, ↓w_ishr, ↓w_iushr, ↓w_idiv, ↓w_irem, ↓w_ineg, ↓w_ladd, ↓w_dup, ↓w_dup2, ↓w_pop, ↓w_gi, ↓w_gl, ↓w_gz, ↓w_gr1, ↓w_gr2, ↓w_gr3, ↓w_gr4, ↓w_gr5, ↓w_gr6, ↓w_gr7, ↓w_gr8, ↓w_gr9, ↓w_gr10, ↓w_gr11, ↓w_gr12, ↓w_gr17, ↓w_gr35, ↓w_gr177, ↓w_pi, ↓w_pl, ↓w_pz, ↓w_iaload, ↓w_baload, ↓w_aaload, ↓w_iastore, ↓w_bastore, ↓w_arraylength, ↓w_goto, ↓w_if_eq, ↓w_if_ne, ↓w_if_lt, ↓w_if_ge, ↓w_if_gt, ↓w_if_le, ↓w_ic_eq, ↓w_ic_ne, ↓w_ic_lt, ↓w_ic_ge, ↓w_ic_gt, ↓w_ic_le, ↓w_ireturn0, ↓w_ireturn1, ↓w_lreturn, ↓w_return_, Nat.add_assoc, Nat.reduceAdd, pi_o, pi_ss, pi_so, pi_2, pr_o, pr_s, pr_2, pl_1, pl_s, pl_o]
      refine ⟨(by first | assumption | exact rfl), ?_⟩
      refine P_V0v k_X10_land_53 (by first | assumption | exact rfl) t_X2_forgetAll rfl rfl ?_
      refine P_blk b_X10_land_56 ?_
      simp (disch := omega) only [↓w_nil, ↓w_iconst, ↓w_bipush, ↓w_sipush, ↓w_ldc, ↓w_ldc_w, ↓w_lconst, ↓w_ldc2_w, ↓w_il0, ↓w_al0, ↓w_is0, ↓w_ii0, ↓w_il1, ↓w_al1, ↓w_is1, ↓w_ii1, ↓w_il2, ↓w_al2, ↓w_is2, ↓w_ii2, ↓w_il3, ↓w_al3, ↓w_is3, ↓w_ii3, ↓w_il4, ↓w_al4, ↓w_is4, ↓w_ii4, ↓w_il5, ↓w_al5, ↓w_is5, ↓w_ii5, ↓w_il6, ↓w_is6, ↓w_ii6, ↓w_il7, ↓w_is7, ↓w_ii7, ↓w_il8, ↓w_is8, ↓w_ii8, ↓w_il9, ↓w_is9, ↓w_ii9, ↓w_il10, ↓w_is10, ↓w_ii10, ↓w_il11, ↓w_is11, ↓w_ii11, ↓w_iadd, ↓w_isub, ↓w_imul, ↓w_iand, ↓w_ior, ↓w_ixor, ↓w_ishl, ↓w_ishr, ↓w_iushr, ↓w_idiv, ↓w_irem, ↓w_ineg, ↓w_ladd, ↓w_dup, ↓w_dup2, ↓w_pop, ↓w_gi, ↓w_gl, ↓w_gz, ↓w_gr1, ↓w_gr2, ↓w_gr3, ↓w_gr4, ↓w_gr5, ↓w_gr6, ↓w_gr7, ↓w_gr8, ↓w_gr9, ↓w_gr10, ↓w_gr11, ↓w_gr12, ↓w_gr17, ↓w_gr35, ↓w_gr177, ↓w_pi, ↓w_pl, ↓w_pz, ↓w_iaload, ↓w_baload, ↓w_aaload, ↓w_iastore, ↓w_bastore, ↓w_arraylength, ↓w_goto, ↓w_if_eq, ↓w_if_ne, ↓w_if_lt, ↓w_if_ge, ↓w_if_gt, ↓w_if_le, ↓w_ic_eq, ↓w_ic_ne, ↓w_ic_lt, ↓w_ic_ge, ↓w_ic_gt, ↓w_ic_le, ↓w_ireturn0, ↓w_ireturn1, ↓w_lreturn, ↓w_return_, Nat.add_assoc, Nat.reduceAdd, pi_o, pi_ss, pi_so, pi_2, pr_o, pr_s, pr_2, pl_1, pl_s, pl_o]
      refine ⟨(by first | assumption | exact rfl), (by first | assumption | exact rfl), ?_⟩
      exact hQ _ _ (LDP_ok s1 s2 s3)
    · exact absurd (nI_pos' (by omega)) z9
