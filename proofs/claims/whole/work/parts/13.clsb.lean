theorem simRow {σ σ' : St} {a : Nat} (h : σ'.1 a = σ.1 a) : (∀ c j, ob a = (0, c) → j < clN c → fk c j = none ∨ fk c j = some (some 0) → σ'.1 a j = σ.1 a j) ∧ (∀ j, (ob a).1 ≠ 0 → j < (ob a).2 → σ'.1 a j = σ.1 a j) :=
  ⟨fun _ j _ _ _ => by rw [h], fun j _ _ => by rw [h]⟩
theorem simObj {σ σ' : St} {a c : Nat} (ho : ob a = (0, c)) (h : ∀ j, j < clN c → fk c j = none ∨ fk c j = some (some 0) → σ'.1 a j = σ.1 a j) : (∀ c j, ob a = (0, c) → j < clN c → fk c j = none ∨ fk c j = some (some 0) → σ'.1 a j = σ.1 a j) ∧ (∀ j, (ob a).1 ≠ 0 → j < (ob a).2 → σ'.1 a j = σ.1 a j) := by
  refine ⟨fun c' j hc hj hf => ?_, fun j h1 => absurd (by rw [ho]) h1⟩
  rw [ho] at hc; cases hc
  exact h j hj hf
theorem fk1 : ∀ j, j < 4 → fk 1 j = none ∨ fk 1 j = some (some 0) → j = 0 := by decide +kernel
theorem fk5 : ∀ j, j < 5 → fk 5 j = none ∨ fk 5 j = some (some 0) → j = 0 := by decide +kernel
theorem fk4 : ∀ j, j < 5 → fk 4 j = none ∨ fk 4 j = some (some 0) → j = 0 := by decide +kernel
theorem fk3 : ∀ j, j < 2 → fk 3 j = none ∨ fk 3 j = some (some 0) → j = 0 := by decide +kernel
theorem fk0 : ∀ j, j < 2 → ¬ (fk 0 j = none ∨ fk 0 j = some (some 0)) := by decide +kernel
theorem cpR_in {σ : St} {k q w a : Nat} (h : k ≤ a) (h2 : a < k + w) : (cpR σ k q w).1 a = σ.1 (q + (a - k)) := by simp [cpR, h, h2]
theorem cpR_out {σ : St} {k q w a : Nat} (h : a < k ∨ k + w ≤ a) : (cpR σ k q w).1 a = σ.1 a := by
  simp only [cpR]; rw [if_neg (by omega)]
theorem cpR_2 {σ : St} {k q w : Nat} : (cpR σ k q w).2 = σ.2 := rfl

set_option maxHeartbeats 400000 in
theorem t_X1_fightAt {σ : St} {k m : Nat} (hk : isAr k) (hm : σ.1 k 0 = nI m) (h6 : m ≤ 6) {f : Int32} : Ret m_X1_fightAt σ [.ref k, .int f] (some (.int (bI (fgt (σ.1 (k + 1)) (σ.1 (k + 2)) (σ.1 (k + 3)) m f).2))) (pr σ (k + 3) (fgt (σ.1 (k + 1)) (σ.1 (k + 2)) (σ.1 (k + 3)) m f).1) := by
  refine Ret.introQ 2 (L := [.ref k, .int f, .null]) (by decide +kernel) rfl rfl rfl (fun Q hQ => ?_)
  obtain ⟨h0, h1, h2, h3⟩ := id hk
  refine P_blk b_X1_fightAt_0 ?_
  simp (disch := omega) only [↓w_nil, ↓w_iconst, ↓w_bipush, ↓w_sipush, ↓w_ldc, ↓w_ldc_w, ↓w_lconst, ↓w_ldc2_w, ↓w_il0, ↓w_al0, ↓w_is0, ↓w_ii0, ↓w_il1, ↓w_al1, ↓w_is1, ↓w_ii1, ↓w_il2, ↓w_al2, ↓w_is2, ↓w_ii2, ↓w_il3, ↓w_al3, ↓w_is3, ↓w_ii3, ↓w_il4, ↓w_al4, ↓w_is4, ↓w_ii4, ↓w_il5, ↓w_al5, ↓w_is5, ↓w_ii5, ↓w_il6, ↓w_is6, ↓w_ii6, ↓w_il7, ↓w_is7, ↓w_ii7, ↓w_il8, ↓w_is8, ↓w_ii8, ↓w_il9, ↓w_is9, ↓w_ii9, ↓w_il10, ↓w_is10, ↓w_ii10, ↓w_il11, ↓w_is11, ↓w_ii11, ↓w_iadd, ↓w_isub, ↓w_imul, ↓w_iand, ↓w_ior, ↓w_ixor, ↓w_ishl, ↓w_ishr, ↓w_iushr, ↓w_idiv, ↓w_irem, ↓w_ineg, ↓w_ladd, ↓w_dup, ↓w_dup2, ↓w_pop, ↓w_gi, ↓w_gl, ↓w_gz, ↓w_gr1, ↓w_gr2, ↓w_gr3, ↓w_gr4, ↓w_gr5, ↓w_gr6, ↓w_gr7, ↓w_gr8, ↓w_gr9, ↓w_gr10, ↓w_gr11, ↓w_gr12, ↓w_gr17, ↓w_gr35, ↓w_gr177, ↓w_pi, ↓w_pl, ↓w_pz, ↓w_iaload, ↓w_baload, ↓w_aaload, ↓w_iastore, ↓w_bastore, ↓w_arraylength, ↓w_goto, ↓w_if_eq, ↓w_if_ne, ↓w_if_lt, ↓w_if_ge, ↓w_if_gt, ↓w_if_le, ↓w_ic_eq, ↓w_ic_ne, ↓w_ic_lt, ↓w_ic_ge, ↓w_ic_gt, ↓w_ic_le, ↓w_ireturn0, ↓w_ireturn1, ↓w_lreturn, ↓w_return_, Nat.add_assoc, Nat.reduceAdd, pi_o, pi_ss, pi_so, pi_2, pr_o, pr_s, pr_2, pl_1, pl_s, pl_o]
  refine P_V2i k_X1_fightAt_3 (by first | assumption | exact rfl) (t_X1_troopsAt hk hm h6) rfl rfl ?_
  refine P_blk b_X1_fightAt_6 ?_
  simp (disch := omega) only [↓w_nil, ↓w_iconst, ↓w_bipush, ↓w_sipush, ↓w_ldc, ↓w_ldc_w, ↓w_lconst, ↓w_ldc2_w, ↓w_il0, ↓w_al0, ↓w_is0, ↓w_ii0, ↓w_il1, ↓w_al1, ↓w_is1, ↓w_ii1, ↓w_il2, ↓w_al2, ↓w_is2, ↓w_ii2, ↓w_il3, ↓w_al3, ↓w_is3, ↓w_ii3, ↓w_il4, ↓w_al4, ↓w_is4, ↓w_ii4, ↓w_il5, ↓w_al5, ↓w_is5, ↓w_ii5, ↓w_il6, ↓w_is6, ↓w_ii6, ↓w_il7, ↓w_is7, ↓w_ii7, ↓w_il8, ↓w_is8, ↓w_ii8, ↓w_il9, ↓w_is9, ↓w_ii9, ↓w_il10, ↓w_is10, ↓w_ii10, ↓w_il11, ↓w_is11, ↓w_ii11, ↓w_iadd, ↓w_isub, ↓w_imul, ↓w_iand, ↓w_ior, ↓w_ixor, ↓w_ishl, ↓w_ishr, ↓w_iushr, ↓w_idiv, ↓w_irem, ↓w_ineg, ↓w_ladd, ↓w_dup, ↓w_dup2, ↓w_pop, ↓w_gi, ↓w_gl, ↓w_gz, ↓w_gr1, ↓w_gr2, ↓w_gr3, ↓w_gr4, ↓w_gr5, ↓w_gr6, ↓w_gr7, ↓w_gr8, ↓w_gr9, ↓w_gr10, ↓w_gr11, ↓w_gr12, ↓w_gr17, ↓w_gr35, ↓w_gr177, ↓w_pi, ↓w_pl, ↓w_pz, ↓w_iaload, ↓w_baload, ↓w_aaload, ↓w_iastore, ↓w_bastore, ↓w_arraylength, ↓w_goto, ↓w_if_eq, ↓w_if_ne, ↓w_if_lt, ↓w_if_ge, ↓w_if_gt, ↓w_if_le, ↓w_ic_eq, ↓w_ic_ne, ↓w_ic_lt, ↓w_ic_ge, ↓w_ic_gt, ↓w_ic_le, ↓w_ireturn0, ↓w_ireturn1, ↓w_lreturn, ↓w_return_, Nat.add_assoc, Nat.reduceAdd, pi_o, pi_ss, pi_so, pi_2, pr_o, pr_s, pr_2, pl_1, pl_s, pl_o]
  refine P_V2i k_X1_fightAt_9 (by first | assumption | exact rfl) (t_X1_troopsAt hk hm h6) rfl rfl ?_
  refine P_min n_X1_fightAt_12 rfl ?_
  refine P_blk b_X1_fightAt_15 ?_
  simp (disch := omega) only [↓w_nil, ↓w_iconst, ↓w_bipush, ↓w_sipush, ↓w_ldc, ↓w_ldc_w, ↓w_lconst, ↓w_ldc2_w, ↓w_il0, ↓w_al0, ↓w_is0, ↓w_ii0, ↓w_il1, ↓w_al1, ↓w_is1, ↓w_ii1, ↓w_il2, ↓w_al2, ↓w_is2, ↓w_ii2, ↓w_il3, ↓w_al3, ↓w_is3, ↓w_ii3, ↓w_il4, ↓w_al4, ↓w_is4, ↓w_ii4, ↓w_il5, ↓w_al5, ↓w_is5, ↓w_ii5, ↓w_il6, ↓w_is6, ↓w_ii6, ↓w_il7, ↓w_is7, ↓w_ii7, ↓w_il8, ↓w_is8, ↓w_ii8, ↓w_il9, ↓w_is9, ↓w_ii9, ↓w_il10, ↓w_is10, ↓w_ii10, ↓w_il11, ↓w_is11, ↓w_ii11, ↓w_iadd, ↓w_isub, ↓w_imul, ↓w_iand, ↓w_ior, ↓w_ixor, ↓w_ishl, ↓w_ishr, ↓w_iushr, ↓w_idiv, ↓w_irem, ↓w_ineg, ↓w_ladd, ↓w_dup, ↓w_dup2, ↓w_pop, ↓w_gi, ↓w_gl, ↓w_gz, ↓w_gr1, ↓w_gr2, ↓w_gr3, ↓w_gr4, ↓w_gr5, ↓w_gr6, ↓w_gr7, ↓w_gr8, ↓w_gr9, ↓w_gr10, ↓w_gr11, ↓w_gr12, ↓w_gr17, ↓w_gr35, ↓w_gr177, ↓w_pi, ↓w_pl, ↓w_pz, ↓w_iaload, ↓w_baload, ↓w_aaload, ↓w_iastore, ↓w_bastore, ↓w_arraylength, ↓w_goto, ↓w_if_eq, ↓w_if_ne, ↓w_if_lt, ↓w_if_ge, ↓w_if_gt, ↓w_if_le, ↓w_ic_eq, ↓w_ic_ne, ↓w_ic_lt, ↓w_ic_ge, ↓w_ic_gt, ↓w_ic_le, ↓w_ireturn0, ↓w_ireturn1, ↓w_lreturn, ↓w_return_, Nat.add_assoc, Nat.reduceAdd, pi_o, pi_ss, pi_so, pi_2, pr_o, pr_s, pr_2, pl_1, pl_s, pl_o]
  refine ⟨fun z17 => ?_, fun z17 => ?_⟩
  · refine P_blk b_X1_fightAt_22 ?_
    simp (disch := omega) only [↓w_nil, ↓w_iconst, ↓w_bipush, ↓w_sipush, ↓w_ldc, ↓w_ldc_w, ↓w_lconst, ↓w_ldc2_w, ↓w_il0, ↓w_al0, ↓w_is0, ↓w_ii0, ↓w_il1, ↓w_al1, ↓w_is1, ↓w_ii1, ↓w_il2, ↓w_al2, ↓w_is2, ↓w_ii2, ↓w_il3, ↓w_al3, ↓w_is3, ↓w_ii3, ↓w_il4, ↓w_al4, ↓w_is4, ↓w_ii4, ↓w_il5, ↓w_al5, ↓w_is5, ↓w_ii5, ↓w_il6, ↓w_is6, ↓w_ii6, ↓w_il7, ↓w_is7, ↓w_ii7, ↓w_il8, ↓w_is8, ↓w_ii8, ↓w_il9, ↓w_is9, ↓w_ii9, ↓w_il10, ↓w_is10, ↓w_ii10, ↓w_il11, ↓w_is11, ↓w_ii11, ↓w_iadd, ↓w_isub, ↓w_imul, ↓w_iand, ↓w_ior, ↓w_ixor, ↓w_ishl, ↓w_ishr, ↓w_iushr, ↓w_idiv, ↓w_irem, ↓w_ineg, ↓w_ladd, ↓w_dup, ↓w_dup2, ↓w_pop, ↓w_gi, ↓w_gl, ↓w_gz, ↓w_gr1, ↓w_gr2, ↓w_gr3, ↓w_gr4, ↓w_gr5, ↓w_gr6, ↓w_gr7, ↓w_gr8, ↓w_gr9, ↓w_gr10, ↓w_gr11, ↓w_gr12, ↓w_gr17, ↓w_gr35, ↓w_gr177, ↓w_pi, ↓w_pl, ↓w_pz, ↓w_iaload, ↓w_baload, ↓w_aaload, ↓w_iastore, ↓w_bastore, ↓w_arraylength, ↓w_goto, ↓w_if_eq, ↓w_if_ne, ↓w_if_lt, ↓w_if_ge, ↓w_if_gt, ↓w_if_le, ↓w_ic_eq, ↓w_ic_ne, ↓w_ic_lt, ↓w_ic_ge, ↓w_ic_gt, ↓w_ic_le, ↓w_ireturn0, ↓w_ireturn1, ↓w_lreturn, ↓w_return_, Nat.add_assoc, Nat.reduceAdd, pi_o, pi_ss, pi_so, pi_2, pr_o, pr_s, pr_2, pl_1, pl_s, pl_o]
    refine P_V3v k_X1_fightAt_26 (by first | assumption | exact rfl) (t_X1_loseAt hk hm h6) rfl rfl ?_
    refine P_blk b_X1_fightAt_29 ?_
    simp (disch := omega) only [↓w_nil, ↓w_iconst, ↓w_bipush, ↓w_sipush, ↓w_ldc, ↓w_ldc_w, ↓w_lconst, ↓w_ldc2_w, ↓w_il0, ↓w_al0, ↓w_is0, ↓w_ii0, ↓w_il1, ↓w_al1, ↓w_is1, ↓w_ii1, ↓w_il2, ↓w_al2, ↓w_is2, ↓w_ii2, ↓w_il3, ↓w_al3, ↓w_is3, ↓w_ii3, ↓w_il4, ↓w_al4, ↓w_is4, ↓w_ii4, ↓w_il5, ↓w_al5, ↓w_is5, ↓w_ii5, ↓w_il6, ↓w_is6, ↓w_ii6, ↓w_il7, ↓w_is7, ↓w_ii7, ↓w_il8, ↓w_is8, ↓w_ii8, ↓w_il9, ↓w_is9, ↓w_ii9, ↓w_il10, ↓w_is10, ↓w_ii10, ↓w_il11, ↓w_is11, ↓w_ii11, ↓w_iadd, ↓w_isub, ↓w_imul, ↓w_iand, ↓w_ior, ↓w_ixor, ↓w_ishl, ↓w_ishr, ↓w_iushr, ↓w_idiv, ↓w_irem, ↓w_ineg, ↓w_ladd, ↓w_dup, ↓w_dup2, ↓w_pop, ↓w_gi, ↓w_gl, ↓w_gz, ↓w_gr1, ↓w_gr2, ↓w_gr3, ↓w_gr4, ↓w_gr5, ↓w_gr6, ↓w_gr7, ↓w_gr8, ↓w_gr9, ↓w_gr10, ↓w_gr11, ↓w_gr12, ↓w_gr17, ↓w_gr35, ↓w_gr177, ↓w_pi, ↓w_pl, ↓w_pz, ↓w_iaload, ↓w_baload, ↓w_aaload, ↓w_iastore, ↓w_bastore, ↓w_arraylength, ↓w_goto, ↓w_if_eq, ↓w_if_ne, ↓w_if_lt, ↓w_if_ge, ↓w_if_gt, ↓w_if_le, ↓w_ic_eq, ↓w_ic_ne, ↓w_ic_lt, ↓w_ic_ge, ↓w_ic_gt, ↓w_ic_le, ↓w_ireturn0, ↓w_ireturn1, ↓w_lreturn, ↓w_return_, Nat.add_assoc, Nat.reduceAdd, pi_o, pi_ss, pi_so, pi_2, pr_o, pr_s, pr_2, pl_1, pl_s, pl_o]
    refine P_V3v k_X1_fightAt_33 (by first | assumption | exact rfl) (t_X1_loseAt hk (by rw [pr_o (by omega)]; exact hm) h6) rfl rfl ?_
    refine P_blk b_X1_fightAt_36 ?_
    simp (disch := omega) only [↓w_nil, ↓w_iconst, ↓w_bipush, ↓w_sipush, ↓w_ldc, ↓w_ldc_w, ↓w_lconst, ↓w_ldc2_w, ↓w_il0, ↓w_al0, ↓w_is0, ↓w_ii0, ↓w_il1, ↓w_al1, ↓w_is1, ↓w_ii1, ↓w_il2, ↓w_al2, ↓w_is2, ↓w_ii2, ↓w_il3, ↓w_al3, ↓w_is3, ↓w_ii3, ↓w_il4, ↓w_al4, ↓w_is4, ↓w_ii4, ↓w_il5, ↓w_al5, ↓w_is5, ↓w_ii5, ↓w_il6, ↓w_is6, ↓w_ii6, ↓w_il7, ↓w_is7, ↓w_ii7, ↓w_il8, ↓w_is8, ↓w_ii8, ↓w_il9, ↓w_is9, ↓w_ii9, ↓w_il10, ↓w_is10, ↓w_ii10, ↓w_il11, ↓w_is11, ↓w_ii11, ↓w_iadd, ↓w_isub, ↓w_imul, ↓w_iand, ↓w_ior, ↓w_ixor, ↓w_ishl, ↓w_ishr, ↓w_iushr, ↓w_idiv, ↓w_irem, ↓w_ineg, ↓w_ladd, ↓w_dup, ↓w_dup2, ↓w_pop, ↓w_gi, ↓w_gl, ↓w_gz, ↓w_gr1, ↓w_gr2, ↓w_gr3, ↓w_gr4, ↓w_gr5, ↓w_gr6, ↓w_gr7, ↓w_gr8, ↓w_gr9, ↓w_gr10, ↓w_gr11, ↓w_gr12, ↓w_gr17, ↓w_gr35, ↓w_gr177, ↓w_pi, ↓w_pl, ↓w_pz, ↓w_iaload, ↓w_baload, ↓w_aaload, ↓w_iastore, ↓w_bastore, ↓w_arraylength, ↓w_goto, ↓w_if_eq, ↓w_if_ne, ↓w_if_lt, ↓w_if_ge, ↓w_if_gt, ↓w_if_le, ↓w_ic_eq, ↓w_ic_ne, ↓w_ic_lt, ↓w_ic_ge, ↓w_ic_gt, ↓w_ic_le, ↓w_ireturn0, ↓w_ireturn1, ↓w_lreturn, ↓w_return_, Nat.add_assoc, Nat.reduceAdd, pi_o, pi_ss, pi_so, pi_2, pr_o, pr_s, pr_2, pl_1, pl_s, pl_o]
    refine ⟨(by first | trivial | decide | exact bI_01 _), ?_⟩
    exact lf hQ (by simp only [fgt]; (repeat' split) <;> first | rfl | contradiction) (by simp only [fgt]; (repeat' split) <;> first | contradiction | (rw [pr_id]; done) | (simp (disch := omega) only [pr_o, pr_s, pr_pr]; done))
  · refine P_blk b_X1_fightAt_20 ?_
    simp (disch := omega) only [↓w_nil, ↓w_iconst, ↓w_bipush, ↓w_sipush, ↓w_ldc, ↓w_ldc_w, ↓w_lconst, ↓w_ldc2_w, ↓w_il0, ↓w_al0, ↓w_is0, ↓w_ii0, ↓w_il1, ↓w_al1, ↓w_is1, ↓w_ii1, ↓w_il2, ↓w_al2, ↓w_is2, ↓w_ii2, ↓w_il3, ↓w_al3, ↓w_is3, ↓w_ii3, ↓w_il4, ↓w_al4, ↓w_is4, ↓w_ii4, ↓w_il5, ↓w_al5, ↓w_is5, ↓w_ii5, ↓w_il6, ↓w_is6, ↓w_ii6, ↓w_il7, ↓w_is7, ↓w_ii7, ↓w_il8, ↓w_is8, ↓w_ii8, ↓w_il9, ↓w_is9, ↓w_ii9, ↓w_il10, ↓w_is10, ↓w_ii10, ↓w_il11, ↓w_is11, ↓w_ii11, ↓w_iadd, ↓w_isub, ↓w_imul, ↓w_iand, ↓w_ior, ↓w_ixor, ↓w_ishl, ↓w_ishr, ↓w_iushr, ↓w_idiv, ↓w_irem, ↓w_ineg, ↓w_ladd, ↓w_dup, ↓w_dup2, ↓w_pop, ↓w_gi, ↓w_gl, ↓w_gz, ↓w_gr1, ↓w_gr2, ↓w_gr3, ↓w_gr4, ↓w_gr5, ↓w_gr6, ↓w_gr7, ↓w_gr8, ↓w_gr9, ↓w_gr10, ↓w_gr11, ↓w_gr12, ↓w_gr17, ↓w_gr35, ↓w_gr177, ↓w_pi, ↓w_pl, ↓w_pz, ↓w_iaload, ↓w_baload, ↓w_aaload, ↓w_iastore, ↓w_bastore, ↓w_arraylength, ↓w_goto, ↓w_if_eq, ↓w_if_ne, ↓w_if_lt, ↓w_if_ge, ↓w_if_gt, ↓w_if_le, ↓w_ic_eq, ↓w_ic_ne, ↓w_ic_lt, ↓w_ic_ge, ↓w_ic_gt, ↓w_ic_le, ↓w_ireturn0, ↓w_ireturn1, ↓w_lreturn, ↓w_return_, Nat.add_assoc, Nat.reduceAdd, pi_o, pi_ss, pi_so, pi_2, pr_o, pr_s, pr_2, pl_1, pl_s, pl_o]
    refine ⟨(by first | trivial | decide | exact bI_01 _), ?_⟩
    exact lf hQ (by simp only [fgt]; (repeat' split) <;> first | rfl | contradiction) (by simp only [fgt]; (repeat' split) <;> first | contradiction | (rw [pr_id]; done) | (simp (disch := omega) only [pr_o, pr_s, pr_pr]; done))

set_option maxHeartbeats 400000 in
theorem t_X1_copyFrom0 {σ : St} {k q : Nat} (hk : isAr k) (hq : isAr q) (hd : k + 4 ≤ q ∨ q + 4 ≤ k) : Ret m_X1_copyFrom σ [.ref k, .ref q] (none) (pr (pr (pr (pi σ k 0 (σ.1 q 0)) (k + 1) (σ.1 (q + 1))) (k + 2) (σ.1 (q + 2))) (k + 3) (σ.1 (q + 3))) := by
  refine Ret.introQ 2 (L := [.ref k, .ref q]) (by decide +kernel) rfl rfl rfl (fun Q hQ => ?_)
  obtain ⟨h0, h1, h2, h3⟩ := id hk
  obtain ⟨q0, q1, q2, q3⟩ := id hq
  refine P_blk b_X1_copyFrom_0 ?_
  simp (disch := omega) only [↓w_nil, ↓w_iconst, ↓w_bipush, ↓w_sipush, ↓w_ldc, ↓w_ldc_w, ↓w_lconst, ↓w_ldc2_w, ↓w_il0, ↓w_al0, ↓w_is0, ↓w_ii0, ↓w_il1, ↓w_al1, ↓w_is1, ↓w_ii1, ↓w_il2, ↓w_al2, ↓w_is2, ↓w_ii2, ↓w_il3, ↓w_al3, ↓w_is3, ↓w_ii3, ↓w_il4, ↓w_al4, ↓w_is4, ↓w_ii4, ↓w_il5, ↓w_al5, ↓w_is5, ↓w_ii5, ↓w_il6, ↓w_is6, ↓w_ii6, ↓w_il7, ↓w_is7, ↓w_ii7, ↓w_il8, ↓w_is8, ↓w_ii8, ↓w_il9, ↓w_is9, ↓w_ii9, ↓w_il10, ↓w_is10, ↓w_ii10, ↓w_il11, ↓w_is11, ↓w_ii11, ↓w_iadd, ↓w_isub, ↓w_imul, ↓w_iand, ↓w_ior, ↓w_ixor, ↓w_ishl, ↓w_ishr, ↓w_iushr, ↓w_idiv, ↓w_irem, ↓w_ineg, ↓w_ladd, ↓w_dup, ↓w_dup2, ↓w_pop, ↓w_gi, ↓w_gl, ↓w_gz, ↓w_gr1, ↓w_gr2, ↓w_gr3, ↓w_gr4, ↓w_gr5, ↓w_gr6, ↓w_gr7, ↓w_gr8, ↓w_gr9, ↓w_gr10, ↓w_gr11, ↓w_gr12, ↓w_gr17, ↓w_gr35, ↓w_gr177, ↓w_pi, ↓w_pl, ↓w_pz, ↓w_iaload, ↓w_baload, ↓w_aaload, ↓w_iastore, ↓w_bastore, ↓w_arraylength, ↓w_goto, ↓w_if_eq, ↓w_if_ne, ↓w_if_lt, ↓w_if_ge, ↓w_if_gt, ↓w_if_le, ↓w_ic_eq, ↓w_ic_ne, ↓w_ic_lt, ↓w_ic_ge, ↓w_ic_gt, ↓w_ic_le, ↓w_ireturn0, ↓w_ireturn1, ↓w_lreturn, ↓w_return_, Nat.add_assoc, Nat.reduceAdd, pi_o, pi_ss, pi_so, pi_2, pr_o, pr_s, pr_2, pl_1, pl_s, pl_o]
  refine ⟨(by first | assumption | exact rfl), (by first | assumption | exact rfl), (by first | assumption | exact rfl), (by first | assumption | exact rfl), ?_⟩
  refine P_copy k_X1_copyFrom_20 (al_ob2 (by first | exact q1 | exact q2 | exact q3) (by decide)) (al_ob2 (by first | exact h1 | exact h2 | exact h3) (by decide)) rfl (by decide) rfl ?_
  refine P_blk b_X1_copyFrom_23 ?_
  simp (disch := omega) only [↓w_nil, ↓w_iconst, ↓w_bipush, ↓w_sipush, ↓w_ldc, ↓w_ldc_w, ↓w_lconst, ↓w_ldc2_w, ↓w_il0, ↓w_al0, ↓w_is0, ↓w_ii0, ↓w_il1, ↓w_al1, ↓w_is1, ↓w_ii1, ↓w_il2, ↓w_al2, ↓w_is2, ↓w_ii2, ↓w_il3, ↓w_al3, ↓w_is3, ↓w_ii3, ↓w_il4, ↓w_al4, ↓w_is4, ↓w_ii4, ↓w_il5, ↓w_al5, ↓w_is5, ↓w_ii5, ↓w_il6, ↓w_is6, ↓w_ii6, ↓w_il7, ↓w_is7, ↓w_ii7, ↓w_il8, ↓w_is8, ↓w_ii8, ↓w_il9, ↓w_is9, ↓w_ii9, ↓w_il10, ↓w_is10, ↓w_ii10, ↓w_il11, ↓w_is11, ↓w_ii11, ↓w_iadd, ↓w_isub, ↓w_imul, ↓w_iand, ↓w_ior, ↓w_ixor, ↓w_ishl, ↓w_ishr, ↓w_iushr, ↓w_idiv, ↓w_irem, ↓w_ineg, ↓w_ladd, ↓w_dup, ↓w_dup2, ↓w_pop, ↓w_gi, ↓w_gl, ↓w_gz, ↓w_gr1, ↓w_gr2, ↓w_gr3, ↓w_gr4, ↓w_gr5, ↓w_gr6, ↓w_gr7, ↓w_gr8, ↓w_gr9, ↓w_gr10, ↓w_gr11, ↓w_gr12, ↓w_gr17, ↓w_gr35, ↓w_gr177, ↓w_pi, ↓w_pl, ↓w_pz, ↓w_iaload, ↓w_baload, ↓w_aaload, ↓w_iastore, ↓w_bastore, ↓w_arraylength, ↓w_goto, ↓w_if_eq, ↓w_if_ne, ↓w_if_lt, ↓w_if_ge, ↓w_if_gt, ↓w_if_le, ↓w_ic_eq, ↓w_ic_ne, ↓w_ic_lt, ↓w_ic_ge, ↓w_ic_gt, ↓w_ic_le, ↓w_ireturn0, ↓w_ireturn1, ↓w_lreturn, ↓w_return_, Nat.add_assoc, Nat.reduceAdd, pi_o, pi_ss, pi_so, pi_2, pr_o, pr_s, pr_2, pl_1, pl_s, pl_o]
  refine ⟨(by first | assumption | exact rfl), (by first | assumption | exact rfl), ?_⟩
  refine P_copy k_X1_copyFrom_35 (al_ob2 (by first | exact q1 | exact q2 | exact q3) (by decide)) (al_ob2 (by first | exact h1 | exact h2 | exact h3) (by decide)) rfl (by decide) rfl ?_
  refine P_blk b_X1_copyFrom_38 ?_
  simp (disch := omega) only [↓w_nil, ↓w_iconst, ↓w_bipush, ↓w_sipush, ↓w_ldc, ↓w_ldc_w, ↓w_lconst, ↓w_ldc2_w, ↓w_il0, ↓w_al0, ↓w_is0, ↓w_ii0, ↓w_il1, ↓w_al1, ↓w_is1, ↓w_ii1, ↓w_il2, ↓w_al2, ↓w_is2, ↓w_ii2, ↓w_il3, ↓w_al3, ↓w_is3, ↓w_ii3, ↓w_il4, ↓w_al4, ↓w_is4, ↓w_ii4, ↓w_il5, ↓w_al5, ↓w_is5, ↓w_ii5, ↓w_il6, ↓w_is6, ↓w_ii6, ↓w_il7, ↓w_is7, ↓w_ii7, ↓w_il8, ↓w_is8, ↓w_ii8, ↓w_il9, ↓w_is9, ↓w_ii9, ↓w_il10, ↓w_is10, ↓w_ii10, ↓w_il11, ↓w_is11, ↓w_ii11, ↓w_iadd, ↓w_isub, ↓w_imul, ↓w_iand, ↓w_ior, ↓w_ixor, ↓w_ishl, ↓w_ishr, ↓w_iushr, ↓w_idiv, ↓w_irem, ↓w_ineg, ↓w_ladd, ↓w_dup, ↓w_dup2, ↓w_pop, ↓w_gi, ↓w_gl, ↓w_gz, ↓w_gr1, ↓w_gr2, ↓w_gr3, ↓w_gr4, ↓w_gr5, ↓w_gr6, ↓w_gr7, ↓w_gr8, ↓w_gr9, ↓w_gr10, ↓w_gr11, ↓w_gr12, ↓w_gr17, ↓w_gr35, ↓w_gr177, ↓w_pi, ↓w_pl, ↓w_pz, ↓w_iaload, ↓w_baload, ↓w_aaload, ↓w_iastore, ↓w_bastore, ↓w_arraylength, ↓w_goto, ↓w_if_eq, ↓w_if_ne, ↓w_if_lt, ↓w_if_ge, ↓w_if_gt, ↓w_if_le, ↓w_ic_eq, ↓w_ic_ne, ↓w_ic_lt, ↓w_ic_ge, ↓w_ic_gt, ↓w_ic_le, ↓w_ireturn0, ↓w_ireturn1, ↓w_lreturn, ↓w_return_, Nat.add_assoc, Nat.reduceAdd, pi_o, pi_ss, pi_so, pi_2, pr_o, pr_s, pr_2, pl_1, pl_s, pl_o]
  refine ⟨(by first | assumption | exact rfl), (by first | assumption | exact rfl), ?_⟩
  refine P_copy k_X1_copyFrom_50 (al_ob2 (by first | exact q1 | exact q2 | exact q3) (by decide)) (al_ob2 (by first | exact h1 | exact h2 | exact h3) (by decide)) rfl (by decide) rfl ?_
  refine P_blk b_X1_copyFrom_53 ?_
  simp (disch := omega) only [↓w_nil, ↓w_iconst, ↓w_bipush, ↓w_sipush, ↓w_ldc, ↓w_ldc_w, ↓w_lconst, ↓w_ldc2_w, ↓w_il0, ↓w_al0, ↓w_is0, ↓w_ii0, ↓w_il1, ↓w_al1, ↓w_is1, ↓w_ii1, ↓w_il2, ↓w_al2, ↓w_is2, ↓w_ii2, ↓w_il3, ↓w_al3, ↓w_is3, ↓w_ii3, ↓w_il4, ↓w_al4, ↓w_is4, ↓w_ii4, ↓w_il5, ↓w_al5, ↓w_is5, ↓w_ii5, ↓w_il6, ↓w_is6, ↓w_ii6, ↓w_il7, ↓w_is7, ↓w_ii7, ↓w_il8, ↓w_is8, ↓w_ii8, ↓w_il9, ↓w_is9, ↓w_ii9, ↓w_il10, ↓w_is10, ↓w_ii10, ↓w_il11, ↓w_is11, ↓w_ii11, ↓w_iadd, ↓w_isub, ↓w_imul, ↓w_iand, ↓w_ior, ↓w_ixor, ↓w_ishl, ↓w_ishr, ↓w_iushr, ↓w_idiv, ↓w_irem, ↓w_ineg, ↓w_ladd, ↓w_dup, ↓w_dup2, ↓w_pop, ↓w_gi, ↓w_gl, ↓w_gz, ↓w_gr1, ↓w_gr2, ↓w_gr3, ↓w_gr4, ↓w_gr5, ↓w_gr6, ↓w_gr7, ↓w_gr8, ↓w_gr9, ↓w_gr10, ↓w_gr11, ↓w_gr12, ↓w_gr17, ↓w_gr35, ↓w_gr177, ↓w_pi, ↓w_pl, ↓w_pz, ↓w_iaload, ↓w_baload, ↓w_aaload, ↓w_iastore, ↓w_bastore, ↓w_arraylength, ↓w_goto, ↓w_if_eq, ↓w_if_ne, ↓w_if_lt, ↓w_if_ge, ↓w_if_gt, ↓w_if_le, ↓w_ic_eq, ↓w_ic_ne, ↓w_ic_lt, ↓w_ic_ge, ↓w_ic_gt, ↓w_ic_le, ↓w_ireturn0, ↓w_ireturn1, ↓w_lreturn, ↓w_return_, Nat.add_assoc, Nat.reduceAdd, pi_o, pi_ss, pi_so, pi_2, pr_o, pr_s, pr_2, pl_1, pl_s, pl_o]
  exact lf hQ (by first | rfl | trivial) ((by first | rfl | trivial | (simp (disch := omega) only [pi_o, pi_ss, pi_so, pi_2, pr_o, pr_s, pr_2, pl_1, pl_s, pl_o]; done)))

theorem t_X1_copyFrom {σ : St} {k q : Nat} (hk : isAr k) (hq : isAr q) (hd : k + 4 ≤ q ∨ q + 4 ≤ k) : Ret m_X1_copyFrom σ [.ref k, .ref q] none (cpR σ k q 4) := by
  obtain ⟨h0, h1, h2, h3⟩ := id hk
  refine (t_X1_copyFrom0 hk hq hd).sim ⟨rfl, fun a => ?_⟩
  rcases (by omega : a = k ∨ a = k + 1 ∨ a = k + 2 ∨ a = k + 3 ∨ (a < k ∨ k + 4 ≤ a)) with rfl | rfl | rfl | rfl | hh
  · refine simObj h0 (fun j hj hf => ?_)
    cases fk1 j hj hf
    rw [cpR_in (by omega) (by omega), Nat.sub_self, Nat.add_zero]
    simp (disch := omega) only [pr_o, pi_ss]
  · refine simRow ?_
    rw [cpR_in (by omega) (by omega), Nat.add_sub_cancel_left]
    simp (disch := omega) only [pr_o, pr_s]
  · refine simRow ?_
    rw [cpR_in (by omega) (by omega), Nat.add_sub_cancel_left]
    simp (disch := omega) only [pr_o, pr_s]
  · refine simRow ?_
    rw [cpR_in (by omega) (by omega), Nat.add_sub_cancel_left]
    simp (disch := omega) only [pr_o, pr_s]
  · refine simRow ?_
    rw [cpR_out hh]
    simp (disch := omega) only [pr_o, pi_o]

set_option maxHeartbeats 400000 in
theorem t_X7_copyFrom0 {σ : St} {k q : Nat} (hk : isPg k) (hq : isPg q) (hd : k + 5 ≤ q ∨ q + 5 ≤ k) : Ret m_X7_copyFrom σ [.ref k, .ref q] (none) (pr (pr (pr (pr (pi σ k 0 (σ.1 q 0)) (k + 1) (σ.1 (q + 1))) (k + 2) (σ.1 (q + 2))) (k + 3) (σ.1 (q + 3))) (k + 4) (σ.1 (q + 4))) := by
  refine Ret.introQ 2 (L := [.ref k, .ref q]) (by decide +kernel) rfl rfl rfl (fun Q hQ => ?_)
  obtain ⟨h0, h1, h2, h3, h4⟩ := id hk
  obtain ⟨q0, q1, q2, q3, q4⟩ := id hq
  refine P_blk b_X7_copyFrom_0 ?_
  simp (disch := omega) only [↓w_nil, ↓w_iconst, ↓w_bipush, ↓w_sipush, ↓w_ldc, ↓w_ldc_w, ↓w_lconst, ↓w_ldc2_w, ↓w_il0, ↓w_al0, ↓w_is0, ↓w_ii0, ↓w_il1, ↓w_al1, ↓w_is1, ↓w_ii1, ↓w_il2, ↓w_al2, ↓w_is2, ↓w_ii2, ↓w_il3, ↓w_al3, ↓w_is3, ↓w_ii3, ↓w_il4, ↓w_al4, ↓w_is4, ↓w_ii4, ↓w_il5, ↓w_al5, ↓w_is5, ↓w_ii5, ↓w_il6, ↓w_is6, ↓w_ii6, ↓w_il7, ↓w_is7, ↓w_ii7, ↓w_il8, ↓w_is8, ↓w_ii8, ↓w_il9, ↓w_is9, ↓w_ii9, ↓w_il10, ↓w_is10, ↓w_ii10, ↓w_il11, ↓w_is11, ↓w_ii11, ↓w_iadd, ↓w_isub, ↓w_imul, ↓w_iand, ↓w_ior, ↓w_ixor, ↓w_ishl, ↓w_ishr, ↓w_iushr, ↓w_idiv, ↓w_irem, ↓w_ineg, ↓w_ladd, ↓w_dup, ↓w_dup2, ↓w_pop, ↓w_gi, ↓w_gl, ↓w_gz, ↓w_gr1, ↓w_gr2, ↓w_gr3, ↓w_gr4, ↓w_gr5, ↓w_gr6, ↓w_gr7, ↓w_gr8, ↓w_gr9, ↓w_gr10, ↓w_gr11, ↓w_gr12, ↓w_gr17, ↓w_gr35, ↓w_gr177, ↓w_pi, ↓w_pl, ↓w_pz, ↓w_iaload, ↓w_baload, ↓w_aaload, ↓w_iastore, ↓w_bastore, ↓w_arraylength, ↓w_goto, ↓w_if_eq, ↓w_if_ne, ↓w_if_lt, ↓w_if_ge, ↓w_if_gt, ↓w_if_le, ↓w_ic_eq, ↓w_ic_ne, ↓w_ic_lt, ↓w_ic_ge, ↓w_ic_gt, ↓w_ic_le, ↓w_ireturn0, ↓w_ireturn1, ↓w_lreturn, ↓w_return_, Nat.add_assoc, Nat.reduceAdd, pi_o, pi_ss, pi_so, pi_2, pr_o, pr_s, pr_2, pl_1, pl_s, pl_o]
  refine ⟨(by first | assumption | exact rfl), (by first | assumption | exact rfl), (by first | assumption | exact rfl), (by first | assumption | exact rfl), ?_⟩
  refine P_copy k_X7_copyFrom_20 (al_ob2 (by first | exact q1 | exact q2 | exact q3 | exact q4) (by decide)) (al_ob2 (by first | exact h1 | exact h2 | exact h3 | exact h4) (by decide)) rfl (by decide) rfl ?_
  refine P_blk b_X7_copyFrom_23 ?_
  simp (disch := omega) only [↓w_nil, ↓w_iconst, ↓w_bipush, ↓w_sipush, ↓w_ldc, ↓w_ldc_w, ↓w_lconst, ↓w_ldc2_w, ↓w_il0, ↓w_al0, ↓w_is0, ↓w_ii0, ↓w_il1, ↓w_al1, ↓w_is1, ↓w_ii1, ↓w_il2, ↓w_al2, ↓w_is2, ↓w_ii2, ↓w_il3, ↓w_al3, ↓w_is3, ↓w_ii3, ↓w_il4, ↓w_al4, ↓w_is4, ↓w_ii4, ↓w_il5, ↓w_al5, ↓w_is5, ↓w_ii5, ↓w_il6, ↓w_is6, ↓w_ii6, ↓w_il7, ↓w_is7, ↓w_ii7, ↓w_il8, ↓w_is8, ↓w_ii8, ↓w_il9, ↓w_is9, ↓w_ii9, ↓w_il10, ↓w_is10, ↓w_ii10, ↓w_il11, ↓w_is11, ↓w_ii11, ↓w_iadd, ↓w_isub, ↓w_imul, ↓w_iand, ↓w_ior, ↓w_ixor, ↓w_ishl, ↓w_ishr, ↓w_iushr, ↓w_idiv, ↓w_irem, ↓w_ineg, ↓w_ladd, ↓w_dup, ↓w_dup2, ↓w_pop, ↓w_gi, ↓w_gl, ↓w_gz, ↓w_gr1, ↓w_gr2, ↓w_gr3, ↓w_gr4, ↓w_gr5, ↓w_gr6, ↓w_gr7, ↓w_gr8, ↓w_gr9, ↓w_gr10, ↓w_gr11, ↓w_gr12, ↓w_gr17, ↓w_gr35, ↓w_gr177, ↓w_pi, ↓w_pl, ↓w_pz, ↓w_iaload, ↓w_baload, ↓w_aaload, ↓w_iastore, ↓w_bastore, ↓w_arraylength, ↓w_goto, ↓w_if_eq, ↓w_if_ne, ↓w_if_lt, ↓w_if_ge, ↓w_if_gt, ↓w_if_le, ↓w_ic_eq, ↓w_ic_ne, ↓w_ic_lt, ↓w_ic_ge, ↓w_ic_gt, ↓w_ic_le, ↓w_ireturn0, ↓w_ireturn1, ↓w_lreturn, ↓w_return_, Nat.add_assoc, Nat.reduceAdd, pi_o, pi_ss, pi_so, pi_2, pr_o, pr_s, pr_2, pl_1, pl_s, pl_o]
  refine ⟨(by first | assumption | exact rfl), (by first | assumption | exact rfl), ?_⟩
  refine P_copy k_X7_copyFrom_35 (al_ob2 (by first | exact q1 | exact q2 | exact q3 | exact q4) (by decide)) (al_ob2 (by first | exact h1 | exact h2 | exact h3 | exact h4) (by decide)) rfl (by decide) rfl ?_
  refine P_blk b_X7_copyFrom_38 ?_
  simp (disch := omega) only [↓w_nil, ↓w_iconst, ↓w_bipush, ↓w_sipush, ↓w_ldc, ↓w_ldc_w, ↓w_lconst, ↓w_ldc2_w, ↓w_il0, ↓w_al0, ↓w_is0, ↓w_ii0, ↓w_il1, ↓w_al1, ↓w_is1, ↓w_ii1, ↓w_il2, ↓w_al2, ↓w_is2, ↓w_ii2, ↓w_il3, ↓w_al3, ↓w_is3, ↓w_ii3, ↓w_il4, ↓w_al4, ↓w_is4, ↓w_ii4, ↓w_il5, ↓w_al5, ↓w_is5, ↓w_ii5, ↓w_il6, ↓w_is6, ↓w_ii6, ↓w_il7, ↓w_is7, ↓w_ii7, ↓w_il8, ↓w_is8, ↓w_ii8, ↓w_il9, ↓w_is9, ↓w_ii9, ↓w_il10, ↓w_is10, ↓w_ii10, ↓w_il11, ↓w_is11, ↓w_ii11, ↓w_iadd, ↓w_isub, ↓w_imul, ↓w_iand, ↓w_ior, ↓w_ixor, ↓w_ishl, ↓w_ishr, ↓w_iushr, ↓w_idiv, ↓w_irem, ↓w_ineg, ↓w_ladd, ↓w_dup, ↓w_dup2, ↓w_pop, ↓w_gi, ↓w_gl, ↓w_gz, ↓w_gr1, ↓w_gr2, ↓w_gr3, ↓w_gr4, ↓w_gr5, ↓w_gr6, ↓w_gr7, ↓w_gr8, ↓w_gr9, ↓w_gr10, ↓w_gr11, ↓w_gr12, ↓w_gr17, ↓w_gr35, ↓w_gr177, ↓w_pi, ↓w_pl, ↓w_pz, ↓w_iaload, ↓w_baload, ↓w_aaload, ↓w_iastore, ↓w_bastore, ↓w_arraylength, ↓w_goto, ↓w_if_eq, ↓w_if_ne, ↓w_if_lt, ↓w_if_ge, ↓w_if_gt, ↓w_if_le, ↓w_ic_eq, ↓w_ic_ne, ↓w_ic_lt, ↓w_ic_ge, ↓w_ic_gt, ↓w_ic_le, ↓w_ireturn0, ↓w_ireturn1, ↓w_lreturn, ↓w_return_, Nat.add_assoc, Nat.reduceAdd, pi_o, pi_ss, pi_so, pi_2, pr_o, pr_s, pr_2, pl_1, pl_s, pl_o]
  refine ⟨(by first | assumption | exact rfl), (by first | assumption | exact rfl), ?_⟩
  refine P_copy k_X7_copyFrom_50 (al_ob2 (by first | exact q1 | exact q2 | exact q3 | exact q4) (by decide)) (al_ob2 (by first | exact h1 | exact h2 | exact h3 | exact h4) (by decide)) rfl (by decide) rfl ?_
  refine P_blk b_X7_copyFrom_53 ?_
  simp (disch := omega) only [↓w_nil, ↓w_iconst, ↓w_bipush, ↓w_sipush, ↓w_ldc, ↓w_ldc_w, ↓w_lconst, ↓w_ldc2_w, ↓w_il0, ↓w_al0, ↓w_is0, ↓w_ii0, ↓w_il1, ↓w_al1, ↓w_is1, ↓w_ii1, ↓w_il2, ↓w_al2, ↓w_is2, ↓w_ii2, ↓w_il3, ↓w_al3, ↓w_is3, ↓w_ii3, ↓w_il4, ↓w_al4, ↓w_is4, ↓w_ii4, ↓w_il5, ↓w_al5, ↓w_is5, ↓w_ii5, ↓w_il6, ↓w_is6, ↓w_ii6, ↓w_il7, ↓w_is7, ↓w_ii7, ↓w_il8, ↓w_is8, ↓w_ii8, ↓w_il9, ↓w_is9, ↓w_ii9, ↓w_il10, ↓w_is10, ↓w_ii10, ↓w_il11, ↓w_is11, ↓w_ii11, ↓w_iadd, ↓w_isub, ↓w_imul, ↓w_iand, ↓w_ior, ↓w_ixor, ↓w_ishl, ↓w_ishr, ↓w_iushr, ↓w_idiv, ↓w_irem, ↓w_ineg, ↓w_ladd, ↓w_dup, ↓w_dup2, ↓w_pop, ↓w_gi, ↓w_gl, ↓w_gz, ↓w_gr1, ↓w_gr2, ↓w_gr3, ↓w_gr4, ↓w_gr5, ↓w_gr6, ↓w_gr7, ↓w_gr8, ↓w_gr9, ↓w_gr10, ↓w_gr11, ↓w_gr12, ↓w_gr17, ↓w_gr35, ↓w_gr177, ↓w_pi, ↓w_pl, ↓w_pz, ↓w_iaload, ↓w_baload, ↓w_aaload, ↓w_iastore, ↓w_bastore, ↓w_arraylength, ↓w_goto, ↓w_if_eq, ↓w_if_ne, ↓w_if_lt, ↓w_if_ge, ↓w_if_gt, ↓w_if_le, ↓w_ic_eq, ↓w_ic_ne, ↓w_ic_lt, ↓w_ic_ge, ↓w_ic_gt, ↓w_ic_le, ↓w_ireturn0, ↓w_ireturn1, ↓w_lreturn, ↓w_return_, Nat.add_assoc, Nat.reduceAdd, pi_o, pi_ss, pi_so, pi_2, pr_o, pr_s, pr_2, pl_1, pl_s, pl_o]
  refine ⟨(by first | assumption | exact rfl), (by first | assumption | exact rfl), ?_⟩
  refine P_copy k_X7_copyFrom_65 (al_ob2 (by first | exact q1 | exact q2 | exact q3 | exact q4) (by decide)) (al_ob2 (by first | exact h1 | exact h2 | exact h3 | exact h4) (by decide)) rfl (by decide) rfl ?_
  refine P_blk b_X7_copyFrom_68 ?_
  simp (disch := omega) only [↓w_nil, ↓w_iconst, ↓w_bipush, ↓w_sipush, ↓w_ldc, ↓w_ldc_w, ↓w_lconst, ↓w_ldc2_w, ↓w_il0, ↓w_al0, ↓w_is0, ↓w_ii0, ↓w_il1, ↓w_al1, ↓w_is1, ↓w_ii1, ↓w_il2, ↓w_al2, ↓w_is2, ↓w_ii2, ↓w_il3, ↓w_al3, ↓w_is3, ↓w_ii3, ↓w_il4, ↓w_al4, ↓w_is4, ↓w_ii4, ↓w_il5, ↓w_al5, ↓w_is5, ↓w_ii5, ↓w_il6, ↓w_is6, ↓w_ii6, ↓w_il7, ↓w_is7, ↓w_ii7, ↓w_il8, ↓w_is8, ↓w_ii8, ↓w_il9, ↓w_is9, ↓w_ii9, ↓w_il10, ↓w_is10, ↓w_ii10, ↓w_il11, ↓w_is11, ↓w_ii11, ↓w_iadd, ↓w_isub, ↓w_imul, ↓w_iand, ↓w_ior, ↓w_ixor, ↓w_ishl, ↓w_ishr, ↓w_iushr, ↓w_idiv, ↓w_irem, ↓w_ineg, ↓w_ladd, ↓w_dup, ↓w_dup2, ↓w_pop, ↓w_gi, ↓w_gl, ↓w_gz, ↓w_gr1, ↓w_gr2, ↓w_gr3, ↓w_gr4, ↓w_gr5, ↓w_gr6, ↓w_gr7, ↓w_gr8, ↓w_gr9, ↓w_gr10, ↓w_gr11, ↓w_gr12, ↓w_gr17, ↓w_gr35, ↓w_gr177, ↓w_pi, ↓w_pl, ↓w_pz, ↓w_iaload, ↓w_baload, ↓w_aaload, ↓w_iastore, ↓w_bastore, ↓w_arraylength, ↓w_goto, ↓w_if_eq, ↓w_if_ne, ↓w_if_lt, ↓w_if_ge, ↓w_if_gt, ↓w_if_le, ↓w_ic_eq, ↓w_ic_ne, ↓w_ic_lt, ↓w_ic_ge, ↓w_ic_gt, ↓w_ic_le, ↓w_ireturn0, ↓w_ireturn1, ↓w_lreturn, ↓w_return_, Nat.add_assoc, Nat.reduceAdd, pi_o, pi_ss, pi_so, pi_2, pr_o, pr_s, pr_2, pl_1, pl_s, pl_o]
  exact lf hQ (by first | rfl | trivial) ((by first | rfl | trivial | (simp (disch := omega) only [pi_o, pi_ss, pi_so, pi_2, pr_o, pr_s, pr_2, pl_1, pl_s, pl_o]; done)))

theorem t_X7_copyFrom {σ : St} {k q : Nat} (hk : isPg k) (hq : isPg q) (hd : k + 5 ≤ q ∨ q + 5 ≤ k) : Ret m_X7_copyFrom σ [.ref k, .ref q] none (cpR σ k q 5) := by
  obtain ⟨h0, h1, h2, h3, h4⟩ := id hk
  refine (t_X7_copyFrom0 hk hq hd).sim ⟨rfl, fun a => ?_⟩
  rcases (by omega : a = k ∨ a = k + 1 ∨ a = k + 2 ∨ a = k + 3 ∨ a = k + 4 ∨ (a < k ∨ k + 5 ≤ a)) with rfl | rfl | rfl | rfl | rfl | hh
  · refine simObj h0 (fun j hj hf => ?_)
    cases fk5 j hj hf
    rw [cpR_in (by omega) (by omega), Nat.sub_self, Nat.add_zero]
    simp (disch := omega) only [pr_o, pi_ss]
  · refine simRow ?_
    rw [cpR_in (by omega) (by omega), Nat.add_sub_cancel_left]
    simp (disch := omega) only [pr_o, pr_s]
  · refine simRow ?_
    rw [cpR_in (by omega) (by omega), Nat.add_sub_cancel_left]
    simp (disch := omega) only [pr_o, pr_s]
  · refine simRow ?_
    rw [cpR_in (by omega) (by omega), Nat.add_sub_cancel_left]
    simp (disch := omega) only [pr_o, pr_s]
  · refine simRow ?_
    rw [cpR_in (by omega) (by omega), Nat.add_sub_cancel_left]
    simp (disch := omega) only [pr_o, pr_s]
  · refine simRow ?_
    rw [cpR_out hh]
    simp (disch := omega) only [pr_o, pi_o]

set_option maxHeartbeats 400000 in
theorem t_X0_copyFrom0 {σ : St} {k q : Nat} (hk : isAn k) (hq : isAn q) (hd : k + 3 ≤ q ∨ q + 3 ≤ k) : Ret m_X0_copyFrom σ [.ref k, .ref q] (none) (pr (pr (σ) (k + 1) (σ.1 (q + 1))) (k + 2) (σ.1 (q + 2))) := by
  refine Ret.introQ 2 (L := [.ref k, .ref q]) (by decide +kernel) rfl rfl rfl (fun Q hQ => ?_)
  obtain ⟨h0, h1, h2⟩ := id hk
  obtain ⟨q0, q1, q2⟩ := id hq
  refine P_blk b_X0_copyFrom_0 ?_
  simp (disch := omega) only [↓w_nil, ↓w_iconst, ↓w_bipush, ↓w_sipush, ↓w_ldc, ↓w_ldc_w, ↓w_lconst, ↓w_ldc2_w, ↓w_il0, ↓w_al0, ↓w_is0, ↓w_ii0, ↓w_il1, ↓w_al1, ↓w_is1, ↓w_ii1, ↓w_il2, ↓w_al2, ↓w_is2, ↓w_ii2, ↓w_il3, ↓w_al3, ↓w_is3, ↓w_ii3, ↓w_il4, ↓w_al4, ↓w_is4, ↓w_ii4, ↓w_il5, ↓w_al5, ↓w_is5, ↓w_ii5, ↓w_il6, ↓w_is6, ↓w_ii6, ↓w_il7, ↓w_is7, ↓w_ii7, ↓w_il8, ↓w_is8, ↓w_ii8, ↓w_il9, ↓w_is9, ↓w_ii9, ↓w_il10, ↓w_is10, ↓w_ii10, ↓w_il11, ↓w_is11, ↓w_ii11, ↓w_iadd, ↓w_isub, ↓w_imul, ↓w_iand, ↓w_ior, ↓w_ixor, ↓w_ishl, ↓w_ishr, ↓w_iushr, ↓w_idiv, ↓w_irem, ↓w_ineg, ↓w_ladd, ↓w_dup, ↓w_dup2, ↓w_pop, ↓w_gi, ↓w_gl, ↓w_gz, ↓w_gr1, ↓w_gr2, ↓w_gr3, ↓w_gr4, ↓w_gr5, ↓w_gr6, ↓w_gr7, ↓w_gr8, ↓w_gr9, ↓w_gr10, ↓w_gr11, ↓w_gr12, ↓w_gr17, ↓w_gr35, ↓w_gr177, ↓w_pi, ↓w_pl, ↓w_pz, ↓w_iaload, ↓w_baload, ↓w_aaload, ↓w_iastore, ↓w_bastore, ↓w_arraylength, ↓w_goto, ↓w_if_eq, ↓w_if_ne, ↓w_if_lt, ↓w_if_ge, ↓w_if_gt, ↓w_if_le, ↓w_ic_eq, ↓w_ic_ne, ↓w_ic_lt, ↓w_ic_ge, ↓w_ic_gt, ↓w_ic_le, ↓w_ireturn0, ↓w_ireturn1, ↓w_lreturn, ↓w_return_, Nat.add_assoc, Nat.reduceAdd, pi_o, pi_ss, pi_so, pi_2, pr_o, pr_s, pr_2, pl_1, pl_s, pl_o]
  refine ⟨(by first | assumption | exact rfl), (by first | assumption | exact rfl), ?_⟩
  refine P_copy k_X0_copyFrom_12 (al_ob2 (by first | exact q1 | exact q2) (by decide)) (al_ob2 (by first | exact h1 | exact h2) (by decide)) rfl (by decide) rfl ?_
  refine P_blk b_X0_copyFrom_15 ?_
  simp (disch := omega) only [↓w_nil, ↓w_iconst, ↓w_bipush, ↓w_sipush, ↓w_ldc, ↓w_ldc_w, ↓w_lconst, ↓w_ldc2_w, ↓w_il0, ↓w_al0, ↓w_is0, ↓w_ii0, ↓w_il1, ↓w_al1, ↓w_is1, ↓w_ii1, ↓w_il2, ↓w_al2, ↓w_is2, ↓w_ii2, ↓w_il3, ↓w_al3, ↓w_is3, ↓w_ii3, ↓w_il4, ↓w_al4, ↓w_is4, ↓w_ii4, ↓w_il5, ↓w_al5, ↓w_is5, ↓w_ii5, ↓w_il6, ↓w_is6, ↓w_ii6, ↓w_il7, ↓w_is7, ↓w_ii7, ↓w_il8, ↓w_is8, ↓w_ii8, ↓w_il9, ↓w_is9, ↓w_ii9, ↓w_il10, ↓w_is10, ↓w_ii10, ↓w_il11, ↓w_is11, ↓w_ii11, ↓w_iadd, ↓w_isub, ↓w_imul, ↓w_iand, ↓w_ior, ↓w_ixor, ↓w_ishl, ↓w_ishr, ↓w_iushr, ↓w_idiv, ↓w_irem, ↓w_ineg, ↓w_ladd, ↓w_dup, ↓w_dup2, ↓w_pop, ↓w_gi, ↓w_gl, ↓w_gz, ↓w_gr1, ↓w_gr2, ↓w_gr3, ↓w_gr4, ↓w_gr5, ↓w_gr6, ↓w_gr7, ↓w_gr8, ↓w_gr9, ↓w_gr10, ↓w_gr11, ↓w_gr12, ↓w_gr17, ↓w_gr35, ↓w_gr177, ↓w_pi, ↓w_pl, ↓w_pz, ↓w_iaload, ↓w_baload, ↓w_aaload, ↓w_iastore, ↓w_bastore, ↓w_arraylength, ↓w_goto, ↓w_if_eq, ↓w_if_ne, ↓w_if_lt, ↓w_if_ge, ↓w_if_gt, ↓w_if_le, ↓w_ic_eq, ↓w_ic_ne, ↓w_ic_lt, ↓w_ic_ge, ↓w_ic_gt, ↓w_ic_le, ↓w_ireturn0, ↓w_ireturn1, ↓w_lreturn, ↓w_return_, Nat.add_assoc, Nat.reduceAdd, pi_o, pi_ss, pi_so, pi_2, pr_o, pr_s, pr_2, pl_1, pl_s, pl_o]
  refine ⟨(by first | assumption | exact rfl), (by first | assumption | exact rfl), ?_⟩
  refine P_copy k_X0_copyFrom_27 (al_ob2 (by first | exact q1 | exact q2) (by decide)) (al_ob2 (by first | exact h1 | exact h2) (by decide)) rfl (by decide) rfl ?_
  refine P_blk b_X0_copyFrom_30 ?_
  simp (disch := omega) only [↓w_nil, ↓w_iconst, ↓w_bipush, ↓w_sipush, ↓w_ldc, ↓w_ldc_w, ↓w_lconst, ↓w_ldc2_w, ↓w_il0, ↓w_al0, ↓w_is0, ↓w_ii0, ↓w_il1, ↓w_al1, ↓w_is1, ↓w_ii1, ↓w_il2, ↓w_al2, ↓w_is2, ↓w_ii2, ↓w_il3, ↓w_al3, ↓w_is3, ↓w_ii3, ↓w_il4, ↓w_al4, ↓w_is4, ↓w_ii4, ↓w_il5, ↓w_al5, ↓w_is5, ↓w_ii5, ↓w_il6, ↓w_is6, ↓w_ii6, ↓w_il7, ↓w_is7, ↓w_ii7, ↓w_il8, ↓w_is8, ↓w_ii8, ↓w_il9, ↓w_is9, ↓w_ii9, ↓w_il10, ↓w_is10, ↓w_ii10, ↓w_il11, ↓w_is11, ↓w_ii11, ↓w_iadd, ↓w_isub, ↓w_imul, ↓w_iand, ↓w_ior, ↓w_ixor, ↓w_ishl, ↓w_ishr, ↓w_iushr, ↓w_idiv, ↓w_irem, ↓w_ineg, ↓w_ladd, ↓w_dup, ↓w_dup2, ↓w_pop, ↓w_gi, ↓w_gl, ↓w_gz, ↓w_gr1, ↓w_gr2, ↓w_gr3, ↓w_gr4, ↓w_gr5, ↓w_gr6, ↓w_gr7, ↓w_gr8, ↓w_gr9, ↓w_gr10, ↓w_gr11, ↓w_gr12, ↓w_gr17, ↓w_gr35, ↓w_gr177, ↓w_pi, ↓w_pl, ↓w_pz, ↓w_iaload, ↓w_baload, ↓w_aaload, ↓w_iastore, ↓w_bastore, ↓w_arraylength, ↓w_goto, ↓w_if_eq, ↓w_if_ne, ↓w_if_lt, ↓w_if_ge, ↓w_if_gt, ↓w_if_le, ↓w_ic_eq, ↓w_ic_ne, ↓w_ic_lt, ↓w_ic_ge, ↓w_ic_gt, ↓w_ic_le, ↓w_ireturn0, ↓w_ireturn1, ↓w_lreturn, ↓w_return_, Nat.add_assoc, Nat.reduceAdd, pi_o, pi_ss, pi_so, pi_2, pr_o, pr_s, pr_2, pl_1, pl_s, pl_o]
  exact lf hQ (by first | rfl | trivial) ((by first | rfl | trivial | (simp (disch := omega) only [pi_o, pi_ss, pi_so, pi_2, pr_o, pr_s, pr_2, pl_1, pl_s, pl_o]; done)))

theorem t_X0_copyFrom {σ : St} {k q : Nat} (hk : isAn k) (hq : isAn q) (hd : k + 3 ≤ q ∨ q + 3 ≤ k) : Ret m_X0_copyFrom σ [.ref k, .ref q] none (cpR σ k q 3) := by
  obtain ⟨h0, h1, h2⟩ := id hk
  refine (t_X0_copyFrom0 hk hq hd).sim ⟨rfl, fun a => ?_⟩
  rcases (by omega : a = k ∨ a = k + 1 ∨ a = k + 2 ∨ (a < k ∨ k + 3 ≤ a)) with rfl | rfl | rfl | hh
  · exact simObj h0 (fun j hj hf => absurd hf (fk0 j hj))
  · refine simRow ?_
    rw [cpR_in (by omega) (by omega), Nat.add_sub_cancel_left]
    simp (disch := omega) only [pr_o, pr_s]
  · refine simRow ?_
    rw [cpR_in (by omega) (by omega), Nat.add_sub_cancel_left]
    simp (disch := omega) only [pr_o, pr_s]
  · refine simRow ?_
    rw [cpR_out hh]
    simp (disch := omega) only [pr_o, pi_o]

set_option maxHeartbeats 400000 in
theorem t_X5_copyFrom0 {σ : St} {n q : Nat} (hn : isNow n) (hq : isNow q) (hd : n + 14 ≤ q ∨ q + 14 ≤ n) : Ret m_X5_copyFrom σ [.ref n, .ref q] (none) (cpR (cpR (cpR (pr (pi σ n 0 (σ.1 q 0)) (n + 1) (σ.1 (q + 1))) (n + 2) (q + 2) 4) (n + 6) (q + 6) 5) (n + 11) (q + 11) 3) := by
  refine Ret.introQ 2 (L := [.ref n, .ref q]) (by decide +kernel) rfl rfl rfl (fun Q hQ => ?_)
  obtain ⟨n0, n1, n2, n6, n11⟩ := id hn
  obtain ⟨q0, q1, q2, q6, q11⟩ := id hq
  refine P_blk b_X5_copyFrom_0 ?_
  simp (disch := omega) only [↓w_nil, ↓w_iconst, ↓w_bipush, ↓w_sipush, ↓w_ldc, ↓w_ldc_w, ↓w_lconst, ↓w_ldc2_w, ↓w_il0, ↓w_al0, ↓w_is0, ↓w_ii0, ↓w_il1, ↓w_al1, ↓w_is1, ↓w_ii1, ↓w_il2, ↓w_al2, ↓w_is2, ↓w_ii2, ↓w_il3, ↓w_al3, ↓w_is3, ↓w_ii3, ↓w_il4, ↓w_al4, ↓w_is4, ↓w_ii4, ↓w_il5, ↓w_al5, ↓w_is5, ↓w_ii5, ↓w_il6, ↓w_is6, ↓w_ii6, ↓w_il7, ↓w_is7, ↓w_ii7, ↓w_il8, ↓w_is8, ↓w_ii8, ↓w_il9, ↓w_is9, ↓w_ii9, ↓w_il10, ↓w_is10, ↓w_ii10, ↓w_il11, ↓w_is11, ↓w_ii11, ↓w_iadd, ↓w_isub, ↓w_imul, ↓w_iand, ↓w_ior, ↓w_ixor, ↓w_ishl, ↓w_ishr, ↓w_iushr, ↓w_idiv, ↓w_irem, ↓w_ineg, ↓w_ladd, ↓w_dup, ↓w_dup2, ↓w_pop, ↓w_gi, ↓w_gl, ↓w_gz, ↓w_gr1, ↓w_gr2, ↓w_gr3, ↓w_gr4, ↓w_gr5, ↓w_gr6, ↓w_gr7, ↓w_gr8, ↓w_gr9, ↓w_gr10, ↓w_gr11, ↓w_gr12, ↓w_gr17, ↓w_gr35, ↓w_gr177, ↓w_pi, ↓w_pl, ↓w_pz, ↓w_iaload, ↓w_baload, ↓w_aaload, ↓w_iastore, ↓w_bastore, ↓w_arraylength, ↓w_goto, ↓w_if_eq, ↓w_if_ne, ↓w_if_lt, ↓w_if_ge, ↓w_if_gt, ↓w_if_le, ↓w_ic_eq, ↓w_ic_ne, ↓w_ic_lt, ↓w_ic_ge, ↓w_ic_gt, ↓w_ic_le, ↓w_ireturn0, ↓w_ireturn1, ↓w_lreturn, ↓w_return_, Nat.add_assoc, Nat.reduceAdd, pi_o, pi_ss, pi_so, pi_2, pr_o, pr_s, pr_2, pl_1, pl_s, pl_o]
  refine ⟨(by first | assumption | exact n2.1 | exact n6.1 | exact n11.1), (by first | assumption | exact n2.1 | exact n6.1 | exact n11.1), (by first | assumption | exact n2.1 | exact n6.1 | exact n11.1), (by first | assumption | exact n2.1 | exact n6.1 | exact n11.1), ?_⟩
  refine P_copy k_X5_copyFrom_19 (al_ob2 q1 (by decide)) (al_ob2 n1 (by decide)) rfl (by decide) rfl ?_
  refine P_blk b_X5_copyFrom_22 ?_
  simp (disch := omega) only [↓w_nil, ↓w_iconst, ↓w_bipush, ↓w_sipush, ↓w_ldc, ↓w_ldc_w, ↓w_lconst, ↓w_ldc2_w, ↓w_il0, ↓w_al0, ↓w_is0, ↓w_ii0, ↓w_il1, ↓w_al1, ↓w_is1, ↓w_ii1, ↓w_il2, ↓w_al2, ↓w_is2, ↓w_ii2, ↓w_il3, ↓w_al3, ↓w_is3, ↓w_ii3, ↓w_il4, ↓w_al4, ↓w_is4, ↓w_ii4, ↓w_il5, ↓w_al5, ↓w_is5, ↓w_ii5, ↓w_il6, ↓w_is6, ↓w_ii6, ↓w_il7, ↓w_is7, ↓w_ii7, ↓w_il8, ↓w_is8, ↓w_ii8, ↓w_il9, ↓w_is9, ↓w_ii9, ↓w_il10, ↓w_is10, ↓w_ii10, ↓w_il11, ↓w_is11, ↓w_ii11, ↓w_iadd, ↓w_isub, ↓w_imul, ↓w_iand, ↓w_ior, ↓w_ixor, ↓w_ishl, ↓w_ishr, ↓w_iushr, ↓w_idiv, ↓w_irem, ↓w_ineg, ↓w_ladd, ↓w_dup, ↓w_dup2, ↓w_pop, ↓w_gi, ↓w_gl, ↓w_gz, ↓w_gr1, ↓w_gr2, ↓w_gr3, ↓w_gr4, ↓w_gr5, ↓w_gr6, ↓w_gr7, ↓w_gr8, ↓w_gr9, ↓w_gr10, ↓w_gr11, ↓w_gr12, ↓w_gr17, ↓w_gr35, ↓w_gr177, ↓w_pi, ↓w_pl, ↓w_pz, ↓w_iaload, ↓w_baload, ↓w_aaload, ↓w_iastore, ↓w_bastore, ↓w_arraylength, ↓w_goto, ↓w_if_eq, ↓w_if_ne, ↓w_if_lt, ↓w_if_ge, ↓w_if_gt, ↓w_if_le, ↓w_ic_eq, ↓w_ic_ne, ↓w_ic_lt, ↓w_ic_ge, ↓w_ic_gt, ↓w_ic_le, ↓w_ireturn0, ↓w_ireturn1, ↓w_lreturn, ↓w_return_, Nat.add_assoc, Nat.reduceAdd, pi_o, pi_ss, pi_so, pi_2, pr_o, pr_s, pr_2, pl_1, pl_s, pl_o]
  refine ⟨(by first | assumption | exact n2.1 | exact n6.1 | exact n11.1), (by first | assumption | exact n2.1 | exact n6.1 | exact n11.1), ?_⟩
  refine P_V1v k_X5_copyFrom_30 (by first | assumption | exact n2.1 | exact n6.1 | exact n11.1) (t_X1_copyFrom n2 q2 (by omega)) rfl rfl ?_
  refine P_blk b_X5_copyFrom_33 ?_
  simp (disch := omega) only [↓w_nil, ↓w_iconst, ↓w_bipush, ↓w_sipush, ↓w_ldc, ↓w_ldc_w, ↓w_lconst, ↓w_ldc2_w, ↓w_il0, ↓w_al0, ↓w_is0, ↓w_ii0, ↓w_il1, ↓w_al1, ↓w_is1, ↓w_ii1, ↓w_il2, ↓w_al2, ↓w_is2, ↓w_ii2, ↓w_il3, ↓w_al3, ↓w_is3, ↓w_ii3, ↓w_il4, ↓w_al4, ↓w_is4, ↓w_ii4, ↓w_il5, ↓w_al5, ↓w_is5, ↓w_ii5, ↓w_il6, ↓w_is6, ↓w_ii6, ↓w_il7, ↓w_is7, ↓w_ii7, ↓w_il8, ↓w_is8, ↓w_ii8, ↓w_il9, ↓w_is9, ↓w_ii9, ↓w_il10, ↓w_is10, ↓w_ii10, ↓w_il11, ↓w_is11, ↓w_ii11, ↓w_iadd, ↓w_isub, ↓w_imul, ↓w_iand, ↓w_ior, ↓w_ixor, ↓w_ishl, ↓w_ishr, ↓w_iushr, ↓w_idiv, ↓w_irem, ↓w_ineg, ↓w_ladd, ↓w_dup, ↓w_dup2, ↓w_pop, ↓w_gi, ↓w_gl, ↓w_gz, ↓w_gr1, ↓w_gr2, ↓w_gr3, ↓w_gr4, ↓w_gr5, ↓w_gr6, ↓w_gr7, ↓w_gr8, ↓w_gr9, ↓w_gr10, ↓w_gr11, ↓w_gr12, ↓w_gr17, ↓w_gr35, ↓w_gr177, ↓w_pi, ↓w_pl, ↓w_pz, ↓w_iaload, ↓w_baload, ↓w_aaload, ↓w_iastore, ↓w_bastore, ↓w_arraylength, ↓w_goto, ↓w_if_eq, ↓w_if_ne, ↓w_if_lt, ↓w_if_ge, ↓w_if_gt, ↓w_if_le, ↓w_ic_eq, ↓w_ic_ne, ↓w_ic_lt, ↓w_ic_ge, ↓w_ic_gt, ↓w_ic_le, ↓w_ireturn0, ↓w_ireturn1, ↓w_lreturn, ↓w_return_, Nat.add_assoc, Nat.reduceAdd, pi_o, pi_ss, pi_so, pi_2, pr_o, pr_s, pr_2, pl_1, pl_s, pl_o]
  refine ⟨(by first | assumption | exact n2.1 | exact n6.1 | exact n11.1), (by first | assumption | exact n2.1 | exact n6.1 | exact n11.1), ?_⟩
  refine P_V1v k_X5_copyFrom_41 (by first | assumption | exact n2.1 | exact n6.1 | exact n11.1) (t_X7_copyFrom n6 q6 (by omega)) rfl rfl ?_
  refine P_blk b_X5_copyFrom_44 ?_
  simp (disch := omega) only [↓w_nil, ↓w_iconst, ↓w_bipush, ↓w_sipush, ↓w_ldc, ↓w_ldc_w, ↓w_lconst, ↓w_ldc2_w, ↓w_il0, ↓w_al0, ↓w_is0, ↓w_ii0, ↓w_il1, ↓w_al1, ↓w_is1, ↓w_ii1, ↓w_il2, ↓w_al2, ↓w_is2, ↓w_ii2, ↓w_il3, ↓w_al3, ↓w_is3, ↓w_ii3, ↓w_il4, ↓w_al4, ↓w_is4, ↓w_ii4, ↓w_il5, ↓w_al5, ↓w_is5, ↓w_ii5, ↓w_il6, ↓w_is6, ↓w_ii6, ↓w_il7, ↓w_is7, ↓w_ii7, ↓w_il8, ↓w_is8, ↓w_ii8, ↓w_il9, ↓w_is9, ↓w_ii9, ↓w_il10, ↓w_is10, ↓w_ii10, ↓w_il11, ↓w_is11, ↓w_ii11, ↓w_iadd, ↓w_isub, ↓w_imul, ↓w_iand, ↓w_ior, ↓w_ixor, ↓w_ishl, ↓w_ishr, ↓w_iushr, ↓w_idiv, ↓w_irem, ↓w_ineg, ↓w_ladd, ↓w_dup, ↓w_dup2, ↓w_pop, ↓w_gi, ↓w_gl, ↓w_gz, ↓w_gr1, ↓w_gr2, ↓w_gr3, ↓w_gr4, ↓w_gr5, ↓w_gr6, ↓w_gr7, ↓w_gr8, ↓w_gr9, ↓w_gr10, ↓w_gr11, ↓w_gr12, ↓w_gr17, ↓w_gr35, ↓w_gr177, ↓w_pi, ↓w_pl, ↓w_pz, ↓w_iaload, ↓w_baload, ↓w_aaload, ↓w_iastore, ↓w_bastore, ↓w_arraylength, ↓w_goto, ↓w_if_eq, ↓w_if_ne, ↓w_if_lt, ↓w_if_ge, ↓w_if_gt, ↓w_if_le, ↓w_ic_eq, ↓w_ic_ne, ↓w_ic_lt, ↓w_ic_ge, ↓w_ic_gt, ↓w_ic_le, ↓w_ireturn0, ↓w_ireturn1, ↓w_lreturn, ↓w_return_, Nat.add_assoc, Nat.reduceAdd, pi_o, pi_ss, pi_so, pi_2, pr_o, pr_s, pr_2, pl_1, pl_s, pl_o]
  refine ⟨(by first | assumption | exact n2.1 | exact n6.1 | exact n11.1), (by first | assumption | exact n2.1 | exact n6.1 | exact n11.1), ?_⟩
  refine P_V1v k_X5_copyFrom_52 (by first | assumption | exact n2.1 | exact n6.1 | exact n11.1) (t_X0_copyFrom n11 q11 (by omega)) rfl rfl ?_
  refine P_blk b_X5_copyFrom_55 ?_
  simp (disch := omega) only [↓w_nil, ↓w_iconst, ↓w_bipush, ↓w_sipush, ↓w_ldc, ↓w_ldc_w, ↓w_lconst, ↓w_ldc2_w, ↓w_il0, ↓w_al0, ↓w_is0, ↓w_ii0, ↓w_il1, ↓w_al1, ↓w_is1, ↓w_ii1, ↓w_il2, ↓w_al2, ↓w_is2, ↓w_ii2, ↓w_il3, ↓w_al3, ↓w_is3, ↓w_ii3, ↓w_il4, ↓w_al4, ↓w_is4, ↓w_ii4, ↓w_il5, ↓w_al5, ↓w_is5, ↓w_ii5, ↓w_il6, ↓w_is6, ↓w_ii6, ↓w_il7, ↓w_is7, ↓w_ii7, ↓w_il8, ↓w_is8, ↓w_ii8, ↓w_il9, ↓w_is9, ↓w_ii9, ↓w_il10, ↓w_is10, ↓w_ii10, ↓w_il11, ↓w_is11, ↓w_ii11, ↓w_iadd, ↓w_isub, ↓w_imul, ↓w_iand, ↓w_ior, ↓w_ixor, ↓w_ishl, ↓w_ishr, ↓w_iushr, ↓w_idiv, ↓w_irem, ↓w_ineg, ↓w_ladd, ↓w_dup, ↓w_dup2, ↓w_pop, ↓w_gi, ↓w_gl, ↓w_gz, ↓w_gr1, ↓w_gr2, ↓w_gr3, ↓w_gr4, ↓w_gr5, ↓w_gr6, ↓w_gr7, ↓w_gr8, ↓w_gr9, ↓w_gr10, ↓w_gr11, ↓w_gr12, ↓w_gr17, ↓w_gr35, ↓w_gr177, ↓w_pi, ↓w_pl, ↓w_pz, ↓w_iaload, ↓w_baload, ↓w_aaload, ↓w_iastore, ↓w_bastore, ↓w_arraylength, ↓w_goto, ↓w_if_eq, ↓w_if_ne, ↓w_if_lt, ↓w_if_ge, ↓w_if_gt, ↓w_if_le, ↓w_ic_eq, ↓w_ic_ne, ↓w_ic_lt, ↓w_ic_ge, ↓w_ic_gt, ↓w_ic_le, ↓w_ireturn0, ↓w_ireturn1, ↓w_lreturn, ↓w_return_, Nat.add_assoc, Nat.reduceAdd, pi_o, pi_ss, pi_so, pi_2, pr_o, pr_s, pr_2, pl_1, pl_s, pl_o]
  exact lf hQ (by first | rfl | trivial) ((by first | rfl | trivial | (simp (disch := omega) only [pi_o, pi_ss, pi_so, pi_2, pr_o, pr_s, pr_2, pl_1, pl_s, pl_o]; done)))

theorem t_X5_copyFrom {σ : St} {n q : Nat} (hn : isNow n) (hq : isNow q) (hd : n + 14 ≤ q ∨ q + 14 ≤ n) : Ret m_X5_copyFrom σ [.ref n, .ref q] none (cpR σ n q 14) := by
  refine (t_X5_copyFrom0 hn hq hd).sim ⟨rfl, fun a => ?_⟩
  rcases (by omega : a = n ∨ a = n + 1 ∨ (n + 2 ≤ a ∧ a < n + 2 + 4) ∨ (n + 6 ≤ a ∧ a < n + 6 + 5) ∨ (n + 11 ≤ a ∧ a < n + 11 + 3) ∨ (a < n ∨ n + 14 ≤ a)) with rfl | rfl | ⟨h1, h2⟩ | ⟨h1, h2⟩ | ⟨h1, h2⟩ | hh
  · refine simObj hn.1 (fun j hj hf => ?_)
    cases fk4 j hj hf
    rw [cpR_in (by omega) (by omega), Nat.sub_self, Nat.add_zero]
    simp (disch := omega) only [cpR_out, pr_o, pi_ss]
  · refine simRow ?_
    rw [cpR_in (by omega) (by omega), Nat.add_sub_cancel_left]
    simp (disch := omega) only [cpR_out, pr_s]
  · refine simRow ?_
    rw [cpR_in (by omega) (by omega), cpR_out (by omega), cpR_out (by omega), cpR_in h1 h2, pr_o (by omega), pi_o (by omega)]
    exact congrArg σ.1 (by omega)
  · refine simRow ?_
    rw [cpR_in (by omega) (by omega), cpR_out (by omega), cpR_in h1 h2, cpR_out (by omega), pr_o (by omega), pi_o (by omega)]
    exact congrArg σ.1 (by omega)
  · refine simRow ?_
    rw [cpR_in (by omega) (by omega), cpR_in h1 h2, cpR_out (by omega), cpR_out (by omega), pr_o (by omega), pi_o (by omega)]
    exact congrArg σ.1 (by omega)
  · refine simRow ?_
    rw [cpR_out hh]
    simp (disch := omega) only [cpR_out, pr_o, pi_o]
