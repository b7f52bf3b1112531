theorem cpy_0 {f g : Nat → Int32} {sp dp : Nat} : va_cpy f g sp dp 0 = g := by
  funext j; simp only [va_cpy]; rw [if_neg (by omega)]
theorem cpy_s {f g : Nat → Int32} {sp dp i : Nat} : upd (va_cpy f g sp dp i) (dp + i) (f (sp + i)) = va_cpy f g sp dp (i + 1) := by
  funext j; simp only [upd, va_cpy]
  by_cases h : j = dp + i
  · subst h; rw [if_pos rfl, if_pos (by omega)]; congr 1; omega
  · rw [if_neg h]
    by_cases h2 : dp ≤ j ∧ j < dp + i
    · rw [if_pos h2, if_pos (by omega)]
    · rw [if_neg h2, if_neg (by omega)]
theorem ix67 (w : Nat) : (67 : Int32) * nI w = nI (67 * w) := by rw [show (67 : Int32) = nI 67 from rfl, pk_mul]
theorem cpy_s0 {f g : Nat → Int32} {dp i : Nat} : upd (va_cpy f g 0 dp i) (dp + i) (f i) = va_cpy f g 0 dp (i + 1) := by
  have := cpy_s (f := f) (g := g) (sp := 0) (dp := dp) (i := i); rwa [Nat.zero_add] at this
theorem cpy_d0 {f g : Nat → Int32} {sp i : Nat} : upd (va_cpy f g sp 0 i) i (f (sp + i)) = va_cpy f g sp 0 (i + 1) := by
  have := cpy_s (f := f) (g := g) (sp := sp) (dp := 0) (i := i); rwa [Nat.zero_add] at this

set_option maxHeartbeats 400000 in
theorem lq_keep {σ : St} {w : Nat} (hw : w < 2) {Q : Option Value → St → Prop} (hQ : Q (some (.int (σ.1 211 0))) (pi (pr σ 213 (va_cpy (σ.1 211) (σ.1 213) 0 (67 * w) 67)) 214 w 1)) : ∀ i, i ≤ 67 → PW m_X11_keep (Q) 13 [.ref 208, .int (nI w), .int (nI i)] [] (pr σ 213 (va_cpy (σ.1 211) (σ.1 213) 0 (67 * w) i)) := by
  refine loop_down (fun i hi ih => ?_)
  have hci : (nI i).toNatClampNeg = i := nI_clamp (by omega)
  have c1 : (nI (67 * w + i)).toNatClampNeg = 67 * w + i := nI_clamp (by omega)
  have cw : (nI w).toNatClampNeg = w := nI_clamp (by omega)
  refine P_blk b_X11_keep_13 ?_
  simp (disch := omega) only [↓w_nil, ↓w_iconst, ↓w_bipush, ↓w_sipush, ↓w_ldc, ↓w_ldc_w, ↓w_lconst, ↓w_ldc2_w, ↓w_il0, ↓w_al0, ↓w_is0, ↓w_ii0, ↓w_il1, ↓w_al1, ↓w_is1, ↓w_ii1, ↓w_il2, ↓w_al2, ↓w_is2, ↓w_ii2, ↓w_il3, ↓w_al3, ↓w_is3, ↓w_ii3, ↓w_il4, ↓w_al4, ↓w_is4, ↓w_ii4, ↓w_il5, ↓w_al5, ↓w_is5, ↓w_ii5, ↓w_il6, ↓w_is6, ↓w_ii6, ↓w_il7, ↓w_is7, ↓w_ii7, ↓w_il8, ↓w_is8, ↓w_ii8, ↓w_il9, ↓w_is9, ↓w_ii9, ↓w_il10, ↓w_is10, ↓w_ii10, ↓w_il11, ↓w_is11, ↓w_ii11, ↓w_iadd, ↓w_isub, ↓w_imul, ↓w_iand, ↓w_ior, ↓w_ishl, ↓w_ishr, ↓w_iushr, ↓w_idiv, ↓w_irem, ↓w_ineg, ↓w_ladd, ↓w_dup, ↓w_dup2, ↓w_pop, ↓w_gi, ↓w_gl, ↓w_gz, ↓w_gr1, ↓w_gr2, ↓w_gr3, ↓w_gr4, ↓w_gr5, ↓w_gr6, ↓w_gr7, ↓w_gr8, ↓w_gr9, ↓w_gr10, ↓w_gr11, ↓w_gr12, ↓w_gr17, ↓w_gr35, ↓w_gr177, ↓w_pi, ↓w_pl, ↓w_pz, ↓w_iaload, ↓w_baload, ↓w_aaload, ↓w_iastore, ↓w_bastore, ↓w_arraylength, ↓w_goto, ↓w_if_eq, ↓w_if_ne, ↓w_if_lt, ↓w_if_ge, ↓w_if_gt, ↓w_if_le, ↓w_ic_eq, ↓w_ic_ne, ↓w_ic_lt, ↓w_ic_ge, ↓w_ic_gt, ↓w_ic_le, ↓w_ireturn0, ↓w_ireturn1, ↓w_lreturn, ↓w_return_, Nat.reduceAdd, pi_o, pi_ss, pi_so, pi_2, pr_o, pr_s, pr_2, pl_1, pl_s, pl_o, ix67, nI_add, c1, cw, cl0, pi_pr, hci]
  refine ⟨fun z16 => ?_, fun z16 => ?_⟩
  · have hie := nI_end (m := 67) hi (by decide) z16
    subst hie
    refine P_blk b_X11_keep_42 ?_
    simp (disch := omega) only [↓w_nil, ↓w_iconst, ↓w_bipush, ↓w_sipush, ↓w_ldc, ↓w_ldc_w, ↓w_lconst, ↓w_ldc2_w, ↓w_il0, ↓w_al0, ↓w_is0, ↓w_ii0, ↓w_il1, ↓w_al1, ↓w_is1, ↓w_ii1, ↓w_il2, ↓w_al2, ↓w_is2, ↓w_ii2, ↓w_il3, ↓w_al3, ↓w_is3, ↓w_ii3, ↓w_il4, ↓w_al4, ↓w_is4, ↓w_ii4, ↓w_il5, ↓w_al5, ↓w_is5, ↓w_ii5, ↓w_il6, ↓w_is6, ↓w_ii6, ↓w_il7, ↓w_is7, ↓w_ii7, ↓w_il8, ↓w_is8, ↓w_ii8, ↓w_il9, ↓w_is9, ↓w_ii9, ↓w_il10, ↓w_is10, ↓w_ii10, ↓w_il11, ↓w_is11, ↓w_ii11, ↓w_iadd, ↓w_isub, ↓w_imul, ↓w_iand, ↓w_ior, ↓w_ishl, ↓w_ishr, ↓w_iushr, ↓w_idiv, ↓w_irem, ↓w_ineg, ↓w_ladd, ↓w_dup, ↓w_dup2, ↓w_pop, ↓w_gi, ↓w_gl, ↓w_gz, ↓w_gr1, ↓w_gr2, ↓w_gr3, ↓w_gr4, ↓w_gr5, ↓w_gr6, ↓w_gr7, ↓w_gr8, ↓w_gr9, ↓w_gr10, ↓w_gr11, ↓w_gr12, ↓w_gr17, ↓w_gr35, ↓w_gr177, ↓w_pi, ↓w_pl, ↓w_pz, ↓w_iaload, ↓w_baload, ↓w_aaload, ↓w_iastore, ↓w_bastore, ↓w_arraylength, ↓w_goto, ↓w_if_eq, ↓w_if_ne, ↓w_if_lt, ↓w_if_ge, ↓w_if_gt, ↓w_if_le, ↓w_ic_eq, ↓w_ic_ne, ↓w_ic_lt, ↓w_ic_ge, ↓w_ic_gt, ↓w_ic_le, ↓w_ireturn0, ↓w_ireturn1, ↓w_lreturn, ↓w_return_, Nat.reduceAdd, pi_o, pi_ss, pi_so, pi_2, pr_o, pr_s, pr_2, pl_1, pl_s, pl_o, ix67, nI_add, c1, cw, cl0, pi_pr, hci]
    refine ⟨(by first | assumption | exact rfl), (by first | (rw [al213]; exact vp_in_nI (by omega) (by decide)) | (rw [zl214]; exact vp_in_nI hw (by decide)) | (rw [al211]; first | exact vp_in_nI hlt (by decide) | exact vp_in_nI (n := 0) (by decide) (by decide))), (by first | trivial | decide | exact bI_01 _), (by first | assumption | exact rfl), (by first | (rw [al213]; exact vp_in_nI (by omega) (by decide)) | (rw [zl214]; exact vp_in_nI hw (by decide)) | (rw [al211]; first | exact vp_in_nI hlt (by decide) | exact vp_in_nI (n := 0) (by decide) (by decide))), ?_⟩
    exact lf hQ (by first | rfl | trivial) ((by first | rfl | trivial | (simp (disch := omega) only [pi_o, pi_ss, pi_so, pi_2, pr_o, pr_s, pr_2, pl_1, pl_s, pl_o]; done)))
  · have hlt := nI_go (m := 67) (by decide) hi z16
    refine P_blk b_X11_keep_19 ?_
    simp (disch := omega) only [↓w_nil, ↓w_iconst, ↓w_bipush, ↓w_sipush, ↓w_ldc, ↓w_ldc_w, ↓w_lconst, ↓w_ldc2_w, ↓w_il0, ↓w_al0, ↓w_is0, ↓w_ii0, ↓w_il1, ↓w_al1, ↓w_is1, ↓w_ii1, ↓w_il2, ↓w_al2, ↓w_is2, ↓w_ii2, ↓w_il3, ↓w_al3, ↓w_is3, ↓w_ii3, ↓w_il4, ↓w_al4, ↓w_is4, ↓w_ii4, ↓w_il5, ↓w_al5, ↓w_is5, ↓w_ii5, ↓w_il6, ↓w_is6, ↓w_ii6, ↓w_il7, ↓w_is7, ↓w_ii7, ↓w_il8, ↓w_is8, ↓w_ii8, ↓w_il9, ↓w_is9, ↓w_ii9, ↓w_il10, ↓w_is10, ↓w_ii10, ↓w_il11, ↓w_is11, ↓w_ii11, ↓w_iadd, ↓w_isub, ↓w_imul, ↓w_iand, ↓w_ior, ↓w_ishl, ↓w_ishr, ↓w_iushr, ↓w_idiv, ↓w_irem, ↓w_ineg, ↓w_ladd, ↓w_dup, ↓w_dup2, ↓w_pop, ↓w_gi, ↓w_gl, ↓w_gz, ↓w_gr1, ↓w_gr2, ↓w_gr3, ↓w_gr4, ↓w_gr5, ↓w_gr6, ↓w_gr7, ↓w_gr8, ↓w_gr9, ↓w_gr10, ↓w_gr11, ↓w_gr12, ↓w_gr17, ↓w_gr35, ↓w_gr177, ↓w_pi, ↓w_pl, ↓w_pz, ↓w_iaload, ↓w_baload, ↓w_aaload, ↓w_iastore, ↓w_bastore, ↓w_arraylength, ↓w_goto, ↓w_if_eq, ↓w_if_ne, ↓w_if_lt, ↓w_if_ge, ↓w_if_gt, ↓w_if_le, ↓w_ic_eq, ↓w_ic_ne, ↓w_ic_lt, ↓w_ic_ge, ↓w_ic_gt, ↓w_ic_le, ↓w_ireturn0, ↓w_ireturn1, ↓w_lreturn, ↓w_return_, Nat.reduceAdd, pi_o, pi_ss, pi_so, pi_2, pr_o, pr_s, pr_2, pl_1, pl_s, pl_o, ix67, nI_add, c1, cw, cl0, pi_pr, hci]
    refine ⟨(by first | assumption | exact rfl), (by first | assumption | exact rfl), (by first | (rw [al213]; exact vp_in_nI (by omega) (by decide)) | (rw [zl214]; exact vp_in_nI hw (by decide)) | (rw [al211]; first | exact vp_in_nI hlt (by decide) | exact vp_in_nI (n := 0) (by decide) (by decide))), (by first | (rw [al213]; exact vp_in_nI (by omega) (by decide)) | (rw [zl214]; exact vp_in_nI hw (by decide)) | (rw [al211]; first | exact vp_in_nI hlt (by decide) | exact vp_in_nI (n := 0) (by decide) (by decide))), ?_⟩
    have h9 := ih hlt
    rw [cpy_s0, ← nI_succ]
    exact h9

theorem inB01 {x : Int32} (h : inB x 0 1 = true) : ∃ n, n < 2 ∧ x = nI n := inB_ex (y := 2) (N := 2) rfl (by decide) h
theorem cpy_at {f g : Nat → Int32} {sp n j : Nat} (h : j < n) : va_cpy f g sp 0 n j = f (sp + j) := by
  simp only [va_cpy]; rw [if_pos (by omega)]; rfl

def keeM (σ : St) (i : Int32) : Int32 × St := if inB i 0 1 = true then (σ.1 211 0, pi (pr σ 213 (va_cpy (σ.1 211) (σ.1 213) 0 (67 * i.toNatClampNeg) 67)) 214 i.toNatClampNeg 1) else (-1, σ)
def bacM (σ : St) (i : Int32) : Int32 × St := if inB i 0 1 = true then (if σ.1 214 i.toNatClampNeg = 0 then (-2, σ) else (σ.1 213 (67 * i.toNatClampNeg + 0), pi (pr σ 211 (va_cpy (σ.1 213) (σ.1 211) (67 * i.toNatClampNeg) 0 67)) 208 6 0)) else (-1, σ)

set_option maxHeartbeats 400000 in
theorem t_X11_keep {σ : St} {i : Int32} : Ret m_X11_keep σ [.ref 208, .int i] (some (.int (keeM σ i).1)) ((keeM σ i).2) := by
  refine Ret.introQ 2 (L := [.ref 208, .int i, .null]) (by decide +kernel) rfl rfl rfl (fun Q hQ => ?_)
  refine P_blk b_X11_keep_0 ?_
  simp (disch := omega) only [↓w_nil, ↓w_iconst, ↓w_bipush, ↓w_sipush, ↓w_ldc, ↓w_ldc_w, ↓w_lconst, ↓w_ldc2_w, ↓w_il0, ↓w_al0, ↓w_is0, ↓w_ii0, ↓w_il1, ↓w_al1, ↓w_is1, ↓w_ii1, ↓w_il2, ↓w_al2, ↓w_is2, ↓w_ii2, ↓w_il3, ↓w_al3, ↓w_is3, ↓w_ii3, ↓w_il4, ↓w_al4, ↓w_is4, ↓w_ii4, ↓w_il5, ↓w_al5, ↓w_is5, ↓w_ii5, ↓w_il6, ↓w_is6, ↓w_ii6, ↓w_il7, ↓w_is7, ↓w_ii7, ↓w_il8, ↓w_is8, ↓w_ii8, ↓w_il9, ↓w_is9, ↓w_ii9, ↓w_il10, ↓w_is10, ↓w_ii10, ↓w_il11, ↓w_is11, ↓w_ii11, ↓w_iadd, ↓w_isub, ↓w_imul, ↓w_iand, ↓w_ior, ↓w_ishl, ↓w_ishr, ↓w_iushr, ↓w_idiv, ↓w_irem, ↓w_ineg, ↓w_ladd, ↓w_dup, ↓w_dup2, ↓w_pop, ↓w_gi, ↓w_gl, ↓w_gz, ↓w_gr1, ↓w_gr2, ↓w_gr3, ↓w_gr4, ↓w_gr5, ↓w_gr6, ↓w_gr7, ↓w_gr8, ↓w_gr9, ↓w_gr10, ↓w_gr11, ↓w_gr12, ↓w_gr17, ↓w_gr35, ↓w_gr177, ↓w_pi, ↓w_pl, ↓w_pz, ↓w_iaload, ↓w_baload, ↓w_aaload, ↓w_iastore, ↓w_bastore, ↓w_arraylength, ↓w_goto, ↓w_if_eq, ↓w_if_ne, ↓w_if_lt, ↓w_if_ge, ↓w_if_gt, ↓w_if_le, ↓w_ic_eq, ↓w_ic_ne, ↓w_ic_lt, ↓w_ic_ge, ↓w_ic_gt, ↓w_ic_le, ↓w_ireturn0, ↓w_ireturn1, ↓w_lreturn, ↓w_return_, Nat.reduceAdd, pi_o, pi_ss, pi_so, pi_2, pr_o, pr_s, pr_2, pl_1, pl_s, pl_o]
  refine P_S3i k_X11_keep_3 (t_X11_in) rfl rfl ?_
  refine P_blk b_X11_keep_6 ?_
  simp (disch := omega) only [↓w_nil, ↓w_iconst, ↓w_bipush, ↓w_sipush, ↓w_ldc, ↓w_ldc_w, ↓w_lconst, ↓w_ldc2_w, ↓w_il0, ↓w_al0, ↓w_is0, ↓w_ii0, ↓w_il1, ↓w_al1, ↓w_is1, ↓w_ii1, ↓w_il2, ↓w_al2, ↓w_is2, ↓w_ii2, ↓w_il3, ↓w_al3, ↓w_is3, ↓w_ii3, ↓w_il4, ↓w_al4, ↓w_is4, ↓w_ii4, ↓w_il5, ↓w_al5, ↓w_is5, ↓w_ii5, ↓w_il6, ↓w_is6, ↓w_ii6, ↓w_il7, ↓w_is7, ↓w_ii7, ↓w_il8, ↓w_is8, ↓w_ii8, ↓w_il9, ↓w_is9, ↓w_ii9, ↓w_il10, ↓w_is10, ↓w_ii10, ↓w_il11, ↓w_is11, ↓w_ii11, ↓w_iadd, ↓w_isub, ↓w_imul, ↓w_iand, ↓w_ior, ↓w_ishl, ↓w_ishr, ↓w_iushr, ↓w_idiv, ↓w_irem, ↓w_ineg, ↓w_ladd, ↓w_dup, ↓w_dup2, ↓w_pop, ↓w_gi, ↓w_gl, ↓w_gz, ↓w_gr1, ↓w_gr2, ↓w_gr3, ↓w_gr4, ↓w_gr5, ↓w_gr6, ↓w_gr7, ↓w_gr8, ↓w_gr9, ↓w_gr10, ↓w_gr11, ↓w_gr12, ↓w_gr17, ↓w_gr35, ↓w_gr177, ↓w_pi, ↓w_pl, ↓w_pz, ↓w_iaload, ↓w_baload, ↓w_aaload, ↓w_iastore, ↓w_bastore, ↓w_arraylength, ↓w_goto, ↓w_if_eq, ↓w_if_ne, ↓w_if_lt, ↓w_if_ge, ↓w_if_gt, ↓w_if_le, ↓w_ic_eq, ↓w_ic_ne, ↓w_ic_lt, ↓w_ic_ge, ↓w_ic_gt, ↓w_ic_le, ↓w_ireturn0, ↓w_ireturn1, ↓w_lreturn, ↓w_return_, Nat.reduceAdd, pi_o, pi_ss, pi_so, pi_2, pr_o, pr_s, pr_2, pl_1, pl_s, pl_o]
  refine ⟨fun z6 => ?_, fun z6 => ?_⟩
  · obtain ⟨ii, hii, rfl⟩ := inB01 (bI_n0.mp z6)
    have hci : (nI ii).toNatClampNeg = ii := nI_clamp (by omega)
    refine P_blk b_X11_keep_11 ?_
    simp (disch := omega) only [↓w_nil, ↓w_iconst, ↓w_bipush, ↓w_sipush, ↓w_ldc, ↓w_ldc_w, ↓w_lconst, ↓w_ldc2_w, ↓w_il0, ↓w_al0, ↓w_is0, ↓w_ii0, ↓w_il1, ↓w_al1, ↓w_is1, ↓w_ii1, ↓w_il2, ↓w_al2, ↓w_is2, ↓w_ii2, ↓w_il3, ↓w_al3, ↓w_is3, ↓w_ii3, ↓w_il4, ↓w_al4, ↓w_is4, ↓w_ii4, ↓w_il5, ↓w_al5, ↓w_is5, ↓w_ii5, ↓w_il6, ↓w_is6, ↓w_ii6, ↓w_il7, ↓w_is7, ↓w_ii7, ↓w_il8, ↓w_is8, ↓w_ii8, ↓w_il9, ↓w_is9, ↓w_ii9, ↓w_il10, ↓w_is10, ↓w_ii10, ↓w_il11, ↓w_is11, ↓w_ii11, ↓w_iadd, ↓w_isub, ↓w_imul, ↓w_iand, ↓w_ior, ↓w_ishl, ↓w_ishr, ↓w_iushr, ↓w_idiv, ↓w_irem, ↓w_ineg, ↓w_ladd, ↓w_dup, ↓w_dup2, ↓w_pop, ↓w_gi, ↓w_gl, ↓w_gz, ↓w_gr1, ↓w_gr2, ↓w_gr3, ↓w_gr4, ↓w_gr5, ↓w_gr6, ↓w_gr7, ↓w_gr8, ↓w_gr9, ↓w_gr10, ↓w_gr11, ↓w_gr12, ↓w_gr17, ↓w_gr35, ↓w_gr177, ↓w_pi, ↓w_pl, ↓w_pz, ↓w_iaload, ↓w_baload, ↓w_aaload, ↓w_iastore, ↓w_bastore, ↓w_arraylength, ↓w_goto, ↓w_if_eq, ↓w_if_ne, ↓w_if_lt, ↓w_if_ge, ↓w_if_gt, ↓w_if_le, ↓w_ic_eq, ↓w_ic_ne, ↓w_ic_lt, ↓w_ic_ge, ↓w_ic_gt, ↓w_ic_le, ↓w_ireturn0, ↓w_ireturn1, ↓w_lreturn, ↓w_return_, Nat.reduceAdd, pi_o, pi_ss, pi_so, pi_2, pr_o, pr_s, pr_2, pl_1, pl_s, pl_o]
    rw [keeM, if_pos (bI_n0.mp z6), hci] at hQ
    have h9 := lq_keep hii hQ 0 (Nat.zero_le _)
    rw [cpy_0, pr_id] at h9
    exact h9
  · refine P_blk b_X11_keep_9 ?_
    simp (disch := omega) only [↓w_nil, ↓w_iconst, ↓w_bipush, ↓w_sipush, ↓w_ldc, ↓w_ldc_w, ↓w_lconst, ↓w_ldc2_w, ↓w_il0, ↓w_al0, ↓w_is0, ↓w_ii0, ↓w_il1, ↓w_al1, ↓w_is1, ↓w_ii1, ↓w_il2, ↓w_al2, ↓w_is2, ↓w_ii2, ↓w_il3, ↓w_al3, ↓w_is3, ↓w_ii3, ↓w_il4, ↓w_al4, ↓w_is4, ↓w_ii4, ↓w_il5, ↓w_al5, ↓w_is5, ↓w_ii5, ↓w_il6, ↓w_is6, ↓w_ii6, ↓w_il7, ↓w_is7, ↓w_ii7, ↓w_il8, ↓w_is8, ↓w_ii8, ↓w_il9, ↓w_is9, ↓w_ii9, ↓w_il10, ↓w_is10, ↓w_ii10, ↓w_il11, ↓w_is11, ↓w_ii11, ↓w_iadd, ↓w_isub, ↓w_imul, ↓w_iand, ↓w_ior, ↓w_ishl, ↓w_ishr, ↓w_iushr, ↓w_idiv, ↓w_irem, ↓w_ineg, ↓w_ladd, ↓w_dup, ↓w_dup2, ↓w_pop, ↓w_gi, ↓w_gl, ↓w_gz, ↓w_gr1, ↓w_gr2, ↓w_gr3, ↓w_gr4, ↓w_gr5, ↓w_gr6, ↓w_gr7, ↓w_gr8, ↓w_gr9, ↓w_gr10, ↓w_gr11, ↓w_gr12, ↓w_gr17, ↓w_gr35, ↓w_gr177, ↓w_pi, ↓w_pl, ↓w_pz, ↓w_iaload, ↓w_baload, ↓w_aaload, ↓w_iastore, ↓w_bastore, ↓w_arraylength, ↓w_goto, ↓w_if_eq, ↓w_if_ne, ↓w_if_lt, ↓w_if_ge, ↓w_if_gt, ↓w_if_le, ↓w_ic_eq, ↓w_ic_ne, ↓w_ic_lt, ↓w_ic_ge, ↓w_ic_gt, ↓w_ic_le, ↓w_ireturn0, ↓w_ireturn1, ↓w_lreturn, ↓w_return_, Nat.reduceAdd, pi_o, pi_ss, pi_so, pi_2, pr_o, pr_s, pr_2, pl_1, pl_s, pl_o]
    rw [keeM, if_neg (by rw [bI_0.mp z6]; decide)] at hQ
    exact hQ

set_option maxHeartbeats 400000 in
theorem lq_back {σ : St} {w : Nat} (hw : w < 2) {Q : Option Value → St → Prop} (hQ : Q (some (.int (σ.1 213 (67 * w + 0)))) (pi (pr σ 211 (va_cpy (σ.1 213) (σ.1 211) (67 * w) 0 67)) 208 6 0)) : ∀ i, i ≤ 67 → PW m_X11_back (Q) 25 [.ref 208, .int (nI w), .int (nI i)] [] (pr σ 211 (va_cpy (σ.1 213) (σ.1 211) (67 * w) 0 i)) := by
  refine loop_down (fun i hi ih => ?_)
  have hci : (nI i).toNatClampNeg = i := nI_clamp (by omega)
  have c1 : (nI (67 * w + i)).toNatClampNeg = 67 * w + i := nI_clamp (by omega)
  refine P_blk b_X11_back_25 ?_
  simp (disch := omega) only [↓w_nil, ↓w_iconst, ↓w_bipush, ↓w_sipush, ↓w_ldc, ↓w_ldc_w, ↓w_lconst, ↓w_ldc2_w, ↓w_il0, ↓w_al0, ↓w_is0, ↓w_ii0, ↓w_il1, ↓w_al1, ↓w_is1, ↓w_ii1, ↓w_il2, ↓w_al2, ↓w_is2, ↓w_ii2, ↓w_il3, ↓w_al3, ↓w_is3, ↓w_ii3, ↓w_il4, ↓w_al4, ↓w_is4, ↓w_ii4, ↓w_il5, ↓w_al5, ↓w_is5, ↓w_ii5, ↓w_il6, ↓w_is6, ↓w_ii6, ↓w_il7, ↓w_is7, ↓w_ii7, ↓w_il8, ↓w_is8, ↓w_ii8, ↓w_il9, ↓w_is9, ↓w_ii9, ↓w_il10, ↓w_is10, ↓w_ii10, ↓w_il11, ↓w_is11, ↓w_ii11, ↓w_iadd, ↓w_isub, ↓w_imul, ↓w_iand, ↓w_ior, ↓w_ishl, ↓w_ishr, ↓w_iushr, ↓w_idiv, ↓w_irem, ↓w_ineg, ↓w_ladd, ↓w_dup, ↓w_dup2, ↓w_pop, ↓w_gi, ↓w_gl, ↓w_gz, ↓w_gr1, ↓w_gr2, ↓w_gr3, ↓w_gr4, ↓w_gr5, ↓w_gr6, ↓w_gr7, ↓w_gr8, ↓w_gr9, ↓w_gr10, ↓w_gr11, ↓w_gr12, ↓w_gr17, ↓w_gr35, ↓w_gr177, ↓w_pi, ↓w_pl, ↓w_pz, ↓w_iaload, ↓w_baload, ↓w_aaload, ↓w_iastore, ↓w_bastore, ↓w_arraylength, ↓w_goto, ↓w_if_eq, ↓w_if_ne, ↓w_if_lt, ↓w_if_ge, ↓w_if_gt, ↓w_if_le, ↓w_ic_eq, ↓w_ic_ne, ↓w_ic_lt, ↓w_ic_ge, ↓w_ic_gt, ↓w_ic_le, ↓w_ireturn0, ↓w_ireturn1, ↓w_lreturn, ↓w_return_, Nat.reduceAdd, pi_o, pi_ss, pi_so, pi_2, pr_o, pr_s, pr_2, pl_1, pl_s, pl_o, ix67, nI_add, c1, cl0, pi_pr, hci]
  refine ⟨fun z28 => ?_, fun z28 => ?_⟩
  · have hie := nI_end (m := 67) hi (by decide) z28
    subst hie
    refine P_blk b_X11_back_54 ?_
    simp (disch := omega) only [↓w_nil, ↓w_iconst, ↓w_bipush, ↓w_sipush, ↓w_ldc, ↓w_ldc_w, ↓w_lconst, ↓w_ldc2_w, ↓w_il0, ↓w_al0, ↓w_is0, ↓w_ii0, ↓w_il1, ↓w_al1, ↓w_is1, ↓w_ii1, ↓w_il2, ↓w_al2, ↓w_is2, ↓w_ii2, ↓w_il3, ↓w_al3, ↓w_is3, ↓w_ii3, ↓w_il4, ↓w_al4, ↓w_is4, ↓w_ii4, ↓w_il5, ↓w_al5, ↓w_is5, ↓w_ii5, ↓w_il6, ↓w_is6, ↓w_ii6, ↓w_il7, ↓w_is7, ↓w_ii7, ↓w_il8, ↓w_is8, ↓w_ii8, ↓w_il9, ↓w_is9, ↓w_ii9, ↓w_il10, ↓w_is10, ↓w_ii10, ↓w_il11, ↓w_is11, ↓w_ii11, ↓w_iadd, ↓w_isub, ↓w_imul, ↓w_iand, ↓w_ior, ↓w_ishl, ↓w_ishr, ↓w_iushr, ↓w_idiv, ↓w_irem, ↓w_ineg, ↓w_ladd, ↓w_dup, ↓w_dup2, ↓w_pop, ↓w_gi, ↓w_gl, ↓w_gz, ↓w_gr1, ↓w_gr2, ↓w_gr3, ↓w_gr4, ↓w_gr5, ↓w_gr6, ↓w_gr7, ↓w_gr8, ↓w_gr9, ↓w_gr10, ↓w_gr11, ↓w_gr12, ↓w_gr17, ↓w_gr35, ↓w_gr177, ↓w_pi, ↓w_pl, ↓w_pz, ↓w_iaload, ↓w_baload, ↓w_aaload, ↓w_iastore, ↓w_bastore, ↓w_arraylength, ↓w_goto, ↓w_if_eq, ↓w_if_ne, ↓w_if_lt, ↓w_if_ge, ↓w_if_gt, ↓w_if_le, ↓w_ic_eq, ↓w_ic_ne, ↓w_ic_lt, ↓w_ic_ge, ↓w_ic_gt, ↓w_ic_le, ↓w_ireturn0, ↓w_ireturn1, ↓w_lreturn, ↓w_return_, Nat.reduceAdd, pi_o, pi_ss, pi_so, pi_2, pr_o, pr_s, pr_2, pl_1, pl_s, pl_o, ix67, nI_add, c1, cl0, pi_pr, hci]
    refine ⟨(by first | assumption | exact rfl), (by first | assumption | exact rfl), (by first | (rw [al213]; exact vp_in_nI (by omega) (by decide)) | (rw [al211]; first | exact vp_in_nI hlt (by decide) | exact vp_in_nI (n := 0) (by decide) (by decide))), ?_⟩
    exact lf hQ (by rw [cpy_at (by decide)]) (rfl)
  · have hlt := nI_go (m := 67) (by decide) hi z28
    refine P_blk b_X11_back_31 ?_
    simp (disch := omega) only [↓w_nil, ↓w_iconst, ↓w_bipush, ↓w_sipush, ↓w_ldc, ↓w_ldc_w, ↓w_lconst, ↓w_ldc2_w, ↓w_il0, ↓w_al0, ↓w_is0, ↓w_ii0, ↓w_il1, ↓w_al1, ↓w_is1, ↓w_ii1, ↓w_il2, ↓w_al2, ↓w_is2, ↓w_ii2, ↓w_il3, ↓w_al3, ↓w_is3, ↓w_ii3, ↓w_il4, ↓w_al4, ↓w_is4, ↓w_ii4, ↓w_il5, ↓w_al5, ↓w_is5, ↓w_ii5, ↓w_il6, ↓w_is6, ↓w_ii6, ↓w_il7, ↓w_is7, ↓w_ii7, ↓w_il8, ↓w_is8, ↓w_ii8, ↓w_il9, ↓w_is9, ↓w_ii9, ↓w_il10, ↓w_is10, ↓w_ii10, ↓w_il11, ↓w_is11, ↓w_ii11, ↓w_iadd, ↓w_isub, ↓w_imul, ↓w_iand, ↓w_ior, ↓w_ishl, ↓w_ishr, ↓w_iushr, ↓w_idiv, ↓w_irem, ↓w_ineg, ↓w_ladd, ↓w_dup, ↓w_dup2, ↓w_pop, ↓w_gi, ↓w_gl, ↓w_gz, ↓w_gr1, ↓w_gr2, ↓w_gr3, ↓w_gr4, ↓w_gr5, ↓w_gr6, ↓w_gr7, ↓w_gr8, ↓w_gr9, ↓w_gr10, ↓w_gr11, ↓w_gr12, ↓w_gr17, ↓w_gr35, ↓w_gr177, ↓w_pi, ↓w_pl, ↓w_pz, ↓w_iaload, ↓w_baload, ↓w_aaload, ↓w_iastore, ↓w_bastore, ↓w_arraylength, ↓w_goto, ↓w_if_eq, ↓w_if_ne, ↓w_if_lt, ↓w_if_ge, ↓w_if_gt, ↓w_if_le, ↓w_ic_eq, ↓w_ic_ne, ↓w_ic_lt, ↓w_ic_ge, ↓w_ic_gt, ↓w_ic_le, ↓w_ireturn0, ↓w_ireturn1, ↓w_lreturn, ↓w_return_, Nat.reduceAdd, pi_o, pi_ss, pi_so, pi_2, pr_o, pr_s, pr_2, pl_1, pl_s, pl_o, ix67, nI_add, c1, cl0, pi_pr, hci]
    refine ⟨(by first | assumption | exact rfl), (by first | assumption | exact rfl), (by first | (rw [al213]; exact vp_in_nI (by omega) (by decide)) | (rw [al211]; first | exact vp_in_nI hlt (by decide) | exact vp_in_nI (n := 0) (by decide) (by decide))), (by first | (rw [al213]; exact vp_in_nI (by omega) (by decide)) | (rw [al211]; first | exact vp_in_nI hlt (by decide) | exact vp_in_nI (n := 0) (by decide) (by decide))), ?_⟩
    have h9 := ih hlt
    rw [cpy_d0, ← nI_succ]
    exact h9

set_option maxHeartbeats 400000 in
theorem t_X11_back {σ : St} {i : Int32} : Ret m_X11_back σ [.ref 208, .int i] (some (.int (bacM σ i).1)) ((bacM σ i).2) := by
  refine Ret.introQ 2 (L := [.ref 208, .int i, .null]) (by decide +kernel) rfl rfl rfl (fun Q hQ => ?_)
  refine P_blk b_X11_back_0 ?_
  simp (disch := omega) only [↓w_nil, ↓w_iconst, ↓w_bipush, ↓w_sipush, ↓w_ldc, ↓w_ldc_w, ↓w_lconst, ↓w_ldc2_w, ↓w_il0, ↓w_al0, ↓w_is0, ↓w_ii0, ↓w_il1, ↓w_al1, ↓w_is1, ↓w_ii1, ↓w_il2, ↓w_al2, ↓w_is2, ↓w_ii2, ↓w_il3, ↓w_al3, ↓w_is3, ↓w_ii3, ↓w_il4, ↓w_al4, ↓w_is4, ↓w_ii4, ↓w_il5, ↓w_al5, ↓w_is5, ↓w_ii5, ↓w_il6, ↓w_is6, ↓w_ii6, ↓w_il7, ↓w_is7, ↓w_ii7, ↓w_il8, ↓w_is8, ↓w_ii8, ↓w_il9, ↓w_is9, ↓w_ii9, ↓w_il10, ↓w_is10, ↓w_ii10, ↓w_il11, ↓w_is11, ↓w_ii11, ↓w_iadd, ↓w_isub, ↓w_imul, ↓w_iand, ↓w_ior, ↓w_ishl, ↓w_ishr, ↓w_iushr, ↓w_idiv, ↓w_irem, ↓w_ineg, ↓w_ladd, ↓w_dup, ↓w_dup2, ↓w_pop, ↓w_gi, ↓w_gl, ↓w_gz, ↓w_gr1, ↓w_gr2, ↓w_gr3, ↓w_gr4, ↓w_gr5, ↓w_gr6, ↓w_gr7, ↓w_gr8, ↓w_gr9, ↓w_gr10, ↓w_gr11, ↓w_gr12, ↓w_gr17, ↓w_gr35, ↓w_gr177, ↓w_pi, ↓w_pl, ↓w_pz, ↓w_iaload, ↓w_baload, ↓w_aaload, ↓w_iastore, ↓w_bastore, ↓w_arraylength, ↓w_goto, ↓w_if_eq, ↓w_if_ne, ↓w_if_lt, ↓w_if_ge, ↓w_if_gt, ↓w_if_le, ↓w_ic_eq, ↓w_ic_ne, ↓w_ic_lt, ↓w_ic_ge, ↓w_ic_gt, ↓w_ic_le, ↓w_ireturn0, ↓w_ireturn1, ↓w_lreturn, ↓w_return_, Nat.reduceAdd, pi_o, pi_ss, pi_so, pi_2, pr_o, pr_s, pr_2, pl_1, pl_s, pl_o]
  refine P_S3i k_X11_back_3 (t_X11_in) rfl rfl ?_
  refine P_blk b_X11_back_6 ?_
  simp (disch := omega) only [↓w_nil, ↓w_iconst, ↓w_bipush, ↓w_sipush, ↓w_ldc, ↓w_ldc_w, ↓w_lconst, ↓w_ldc2_w, ↓w_il0, ↓w_al0, ↓w_is0, ↓w_ii0, ↓w_il1, ↓w_al1, ↓w_is1, ↓w_ii1, ↓w_il2, ↓w_al2, ↓w_is2, ↓w_ii2, ↓w_il3, ↓w_al3, ↓w_is3, ↓w_ii3, ↓w_il4, ↓w_al4, ↓w_is4, ↓w_ii4, ↓w_il5, ↓w_al5, ↓w_is5, ↓w_ii5, ↓w_il6, ↓w_is6, ↓w_ii6, ↓w_il7, ↓w_is7, ↓w_ii7, ↓w_il8, ↓w_is8, ↓w_ii8, ↓w_il9, ↓w_is9, ↓w_ii9, ↓w_il10, ↓w_is10, ↓w_ii10, ↓w_il11, ↓w_is11, ↓w_ii11, ↓w_iadd, ↓w_isub, ↓w_imul, ↓w_iand, ↓w_ior, ↓w_ishl, ↓w_ishr, ↓w_iushr, ↓w_idiv, ↓w_irem, ↓w_ineg, ↓w_ladd, ↓w_dup, ↓w_dup2, ↓w_pop, ↓w_gi, ↓w_gl, ↓w_gz, ↓w_gr1, ↓w_gr2, ↓w_gr3, ↓w_gr4, ↓w_gr5, ↓w_gr6, ↓w_gr7, ↓w_gr8, ↓w_gr9, ↓w_gr10, ↓w_gr11, ↓w_gr12, ↓w_gr17, ↓w_gr35, ↓w_gr177, ↓w_pi, ↓w_pl, ↓w_pz, ↓w_iaload, ↓w_baload, ↓w_aaload, ↓w_iastore, ↓w_bastore, ↓w_arraylength, ↓w_goto, ↓w_if_eq, ↓w_if_ne, ↓w_if_lt, ↓w_if_ge, ↓w_if_gt, ↓w_if_le, ↓w_ic_eq, ↓w_ic_ne, ↓w_ic_lt, ↓w_ic_ge, ↓w_ic_gt, ↓w_ic_le, ↓w_ireturn0, ↓w_ireturn1, ↓w_lreturn, ↓w_return_, Nat.reduceAdd, pi_o, pi_ss, pi_so, pi_2, pr_o, pr_s, pr_2, pl_1, pl_s, pl_o]
  refine ⟨fun z6 => ?_, fun z6 => ?_⟩
  · obtain ⟨ii, hii, rfl⟩ := inB01 (bI_n0.mp z6)
    have hci : (nI ii).toNatClampNeg = ii := nI_clamp (by omega)
    refine P_blk b_X11_back_11 ?_
    simp (disch := omega) only [↓w_nil, ↓w_iconst, ↓w_bipush, ↓w_sipush, ↓w_ldc, ↓w_ldc_w, ↓w_lconst, ↓w_ldc2_w, ↓w_il0, ↓w_al0, ↓w_is0, ↓w_ii0, ↓w_il1, ↓w_al1, ↓w_is1, ↓w_ii1, ↓w_il2, ↓w_al2, ↓w_is2, ↓w_ii2, ↓w_il3, ↓w_al3, ↓w_is3, ↓w_ii3, ↓w_il4, ↓w_al4, ↓w_is4, ↓w_ii4, ↓w_il5, ↓w_al5, ↓w_is5, ↓w_ii5, ↓w_il6, ↓w_is6, ↓w_ii6, ↓w_il7, ↓w_is7, ↓w_ii7, ↓w_il8, ↓w_is8, ↓w_ii8, ↓w_il9, ↓w_is9, ↓w_ii9, ↓w_il10, ↓w_is10, ↓w_ii10, ↓w_il11, ↓w_is11, ↓w_ii11, ↓w_iadd, ↓w_isub, ↓w_imul, ↓w_iand, ↓w_ior, ↓w_ishl, ↓w_ishr, ↓w_iushr, ↓w_idiv, ↓w_irem, ↓w_ineg, ↓w_ladd, ↓w_dup, ↓w_dup2, ↓w_pop, ↓w_gi, ↓w_gl, ↓w_gz, ↓w_gr1, ↓w_gr2, ↓w_gr3, ↓w_gr4, ↓w_gr5, ↓w_gr6, ↓w_gr7, ↓w_gr8, ↓w_gr9, ↓w_gr10, ↓w_gr11, ↓w_gr12, ↓w_gr17, ↓w_gr35, ↓w_gr177, ↓w_pi, ↓w_pl, ↓w_pz, ↓w_iaload, ↓w_baload, ↓w_aaload, ↓w_iastore, ↓w_bastore, ↓w_arraylength, ↓w_goto, ↓w_if_eq, ↓w_if_ne, ↓w_if_lt, ↓w_if_ge, ↓w_if_gt, ↓w_if_le, ↓w_ic_eq, ↓w_ic_ne, ↓w_ic_lt, ↓w_ic_ge, ↓w_ic_gt, ↓w_ic_le, ↓w_ireturn0, ↓w_ireturn1, ↓w_lreturn, ↓w_return_, Nat.reduceAdd, pi_o, pi_ss, pi_so, pi_2, pr_o, pr_s, pr_2, pl_1, pl_s, pl_o, hci]
    refine ⟨(by first | assumption | exact rfl), (by rw [zl214]; exact vp_in_nI hii (by decide)), ?_⟩
    refine ⟨fun z17 => ?_, fun z17 => ?_⟩
    · refine P_blk b_X11_back_23 ?_
      simp (disch := omega) only [↓w_nil, ↓w_iconst, ↓w_bipush, ↓w_sipush, ↓w_ldc, ↓w_ldc_w, ↓w_lconst, ↓w_ldc2_w, ↓w_il0, ↓w_al0, ↓w_is0, ↓w_ii0, ↓w_il1, ↓w_al1, ↓w_is1, ↓w_ii1, ↓w_il2, ↓w_al2, ↓w_is2, ↓w_ii2, ↓w_il3, ↓w_al3, ↓w_is3, ↓w_ii3, ↓w_il4, ↓w_al4, ↓w_is4, ↓w_ii4, ↓w_il5, ↓w_al5, ↓w_is5, ↓w_ii5, ↓w_il6, ↓w_is6, ↓w_ii6, ↓w_il7, ↓w_is7, ↓w_ii7, ↓w_il8, ↓w_is8, ↓w_ii8, ↓w_il9, ↓w_is9, ↓w_ii9, ↓w_il10, ↓w_is10, ↓w_ii10, ↓w_il11, ↓w_is11, ↓w_ii11, ↓w_iadd, ↓w_isub, ↓w_imul, ↓w_iand, ↓w_ior, ↓w_ishl, ↓w_ishr, ↓w_iushr, ↓w_idiv, ↓w_irem, ↓w_ineg, ↓w_ladd, ↓w_dup, ↓w_dup2, ↓w_pop, ↓w_gi, ↓w_gl, ↓w_gz, ↓w_gr1, ↓w_gr2, ↓w_gr3, ↓w_gr4, ↓w_gr5, ↓w_gr6, ↓w_gr7, ↓w_gr8, ↓w_gr9, ↓w_gr10, ↓w_gr11, ↓w_gr12, ↓w_gr17, ↓w_gr35, ↓w_gr177, ↓w_pi, ↓w_pl, ↓w_pz, ↓w_iaload, ↓w_baload, ↓w_aaload, ↓w_iastore, ↓w_bastore, ↓w_arraylength, ↓w_goto, ↓w_if_eq, ↓w_if_ne, ↓w_if_lt, ↓w_if_ge, ↓w_if_gt, ↓w_if_le, ↓w_ic_eq, ↓w_ic_ne, ↓w_ic_lt, ↓w_ic_ge, ↓w_ic_gt, ↓w_ic_le, ↓w_ireturn0, ↓w_ireturn1, ↓w_lreturn, ↓w_return_, Nat.reduceAdd, pi_o, pi_ss, pi_so, pi_2, pr_o, pr_s, pr_2, pl_1, pl_s, pl_o, hci]
      rw [bacM, if_pos (bI_n0.mp z6), hci, if_neg z17] at hQ
      have h9 := lq_back hii hQ 0 (Nat.zero_le _)
      rw [cpy_0, pr_id] at h9
      exact h9
    · refine P_blk b_X11_back_20 ?_
      simp (disch := omega) only [↓w_nil, ↓w_iconst, ↓w_bipush, ↓w_sipush, ↓w_ldc, ↓w_ldc_w, ↓w_lconst, ↓w_ldc2_w, ↓w_il0, ↓w_al0, ↓w_is0, ↓w_ii0, ↓w_il1, ↓w_al1, ↓w_is1, ↓w_ii1, ↓w_il2, ↓w_al2, ↓w_is2, ↓w_ii2, ↓w_il3, ↓w_al3, ↓w_is3, ↓w_ii3, ↓w_il4, ↓w_al4, ↓w_is4, ↓w_ii4, ↓w_il5, ↓w_al5, ↓w_is5, ↓w_ii5, ↓w_il6, ↓w_is6, ↓w_ii6, ↓w_il7, ↓w_is7, ↓w_ii7, ↓w_il8, ↓w_is8, ↓w_ii8, ↓w_il9, ↓w_is9, ↓w_ii9, ↓w_il10, ↓w_is10, ↓w_ii10, ↓w_il11, ↓w_is11, ↓w_ii11, ↓w_iadd, ↓w_isub, ↓w_imul, ↓w_iand, ↓w_ior, ↓w_ishl, ↓w_ishr, ↓w_iushr, ↓w_idiv, ↓w_irem, ↓w_ineg, ↓w_ladd, ↓w_dup, ↓w_dup2, ↓w_pop, ↓w_gi, ↓w_gl, ↓w_gz, ↓w_gr1, ↓w_gr2, ↓w_gr3, ↓w_gr4, ↓w_gr5, ↓w_gr6, ↓w_gr7, ↓w_gr8, ↓w_gr9, ↓w_gr10, ↓w_gr11, ↓w_gr12, ↓w_gr17, ↓w_gr35, ↓w_gr177, ↓w_pi, ↓w_pl, ↓w_pz, ↓w_iaload, ↓w_baload, ↓w_aaload, ↓w_iastore, ↓w_bastore, ↓w_arraylength, ↓w_goto, ↓w_if_eq, ↓w_if_ne, ↓w_if_lt, ↓w_if_ge, ↓w_if_gt, ↓w_if_le, ↓w_ic_eq, ↓w_ic_ne, ↓w_ic_lt, ↓w_ic_ge, ↓w_ic_gt, ↓w_ic_le, ↓w_ireturn0, ↓w_ireturn1, ↓w_lreturn, ↓w_return_, Nat.reduceAdd, pi_o, pi_ss, pi_so, pi_2, pr_o, pr_s, pr_2, pl_1, pl_s, pl_o, hci]
      rw [bacM, if_pos (bI_n0.mp z6), hci, if_pos z17] at hQ
      exact hQ
  · refine P_blk b_X11_back_9 ?_
    simp (disch := omega) only [↓w_nil, ↓w_iconst, ↓w_bipush, ↓w_sipush, ↓w_ldc, ↓w_ldc_w, ↓w_lconst, ↓w_ldc2_w, ↓w_il0, ↓w_al0, ↓w_is0, ↓w_ii0, ↓w_il1, ↓w_al1, ↓w_is1, ↓w_ii1, ↓w_il2, ↓w_al2, ↓w_is2, ↓w_ii2, ↓w_il3, ↓w_al3, ↓w_is3, ↓w_ii3, ↓w_il4, ↓w_al4, ↓w_is4, ↓w_ii4, ↓w_il5, ↓w_al5, ↓w_is5, ↓w_ii5, ↓w_il6, ↓w_is6, ↓w_ii6, ↓w_il7, ↓w_is7, ↓w_ii7, ↓w_il8, ↓w_is8, ↓w_ii8, ↓w_il9, ↓w_is9, ↓w_ii9, ↓w_il10, ↓w_is10, ↓w_ii10, ↓w_il11, ↓w_is11, ↓w_ii11, ↓w_iadd, ↓w_isub, ↓w_imul, ↓w_iand, ↓w_ior, ↓w_ishl, ↓w_ishr, ↓w_iushr, ↓w_idiv, ↓w_irem, ↓w_ineg, ↓w_ladd, ↓w_dup, ↓w_dup2, ↓w_pop, ↓w_gi, ↓w_gl, ↓w_gz, ↓w_gr1, ↓w_gr2, ↓w_gr3, ↓w_gr4, ↓w_gr5, ↓w_gr6, ↓w_gr7, ↓w_gr8, ↓w_gr9, ↓w_gr10, ↓w_gr11, ↓w_gr12, ↓w_gr17, ↓w_gr35, ↓w_gr177, ↓w_pi, ↓w_pl, ↓w_pz, ↓w_iaload, ↓w_baload, ↓w_aaload, ↓w_iastore, ↓w_bastore, ↓w_arraylength, ↓w_goto, ↓w_if_eq, ↓w_if_ne, ↓w_if_lt, ↓w_if_ge, ↓w_if_gt, ↓w_if_le, ↓w_ic_eq, ↓w_ic_ne, ↓w_ic_lt, ↓w_ic_ge, ↓w_ic_gt, ↓w_ic_le, ↓w_ireturn0, ↓w_ireturn1, ↓w_lreturn, ↓w_return_, Nat.reduceAdd, pi_o, pi_ss, pi_so, pi_2, pr_o, pr_s, pr_2, pl_1, pl_s, pl_o]
    rw [bacM, if_neg (by rw [bI_0.mp z6]; decide)] at hQ
    exact hQ

def undM (σ : St) (p : Nat) : Int32 × St := if p = 0 then (-2, σ) else (nI (p - 1), pr (pi σ 208 6 (nI (p - 1))) 211 (va_cpy (σ.1 212) (σ.1 211) (67 * (p - 1)) 0 67))

set_option maxHeartbeats 400000 in
theorem lq_undo {σ : St} {p : Nat} (hp : p < 10) {Q : Option Value → St → Prop} (hQ : Q (some (.int (nI p))) (pr (pi σ 208 6 (nI p)) 211 (va_cpy (σ.1 212) (σ.1 211) (67 * p) 0 67))) : ∀ i, i ≤ 67 → PW m_X11_undo (Q) 22 [.ref 208, .int (nI i)] [] (pr (pi σ 208 6 (nI p)) 211 (va_cpy (σ.1 212) (σ.1 211) (67 * p) 0 i)) := by
  refine loop_down (fun i hi ih => ?_)
  have hci : (nI i).toNatClampNeg = i := nI_clamp (by omega)
  have c1 : (nI (67 * p + i)).toNatClampNeg = 67 * p + i := nI_clamp (by omega)
  refine P_blk b_X11_undo_22 ?_
  simp (disch := omega) only [↓w_nil, ↓w_iconst, ↓w_bipush, ↓w_sipush, ↓w_ldc, ↓w_ldc_w, ↓w_lconst, ↓w_ldc2_w, ↓w_il0, ↓w_al0, ↓w_is0, ↓w_ii0, ↓w_il1, ↓w_al1, ↓w_is1, ↓w_ii1, ↓w_il2, ↓w_al2, ↓w_is2, ↓w_ii2, ↓w_il3, ↓w_al3, ↓w_is3, ↓w_ii3, ↓w_il4, ↓w_al4, ↓w_is4, ↓w_ii4, ↓w_il5, ↓w_al5, ↓w_is5, ↓w_ii5, ↓w_il6, ↓w_is6, ↓w_ii6, ↓w_il7, ↓w_is7, ↓w_ii7, ↓w_il8, ↓w_is8, ↓w_ii8, ↓w_il9, ↓w_is9, ↓w_ii9, ↓w_il10, ↓w_is10, ↓w_ii10, ↓w_il11, ↓w_is11, ↓w_ii11, ↓w_iadd, ↓w_isub, ↓w_imul, ↓w_iand, ↓w_ior, ↓w_ishl, ↓w_ishr, ↓w_iushr, ↓w_idiv, ↓w_irem, ↓w_ineg, ↓w_ladd, ↓w_dup, ↓w_dup2, ↓w_pop, ↓w_gi, ↓w_gl, ↓w_gz, ↓w_gr1, ↓w_gr2, ↓w_gr3, ↓w_gr4, ↓w_gr5, ↓w_gr6, ↓w_gr7, ↓w_gr8, ↓w_gr9, ↓w_gr10, ↓w_gr11, ↓w_gr12, ↓w_gr17, ↓w_gr35, ↓w_gr177, ↓w_pi, ↓w_pl, ↓w_pz, ↓w_iaload, ↓w_baload, ↓w_aaload, ↓w_iastore, ↓w_bastore, ↓w_arraylength, ↓w_goto, ↓w_if_eq, ↓w_if_ne, ↓w_if_lt, ↓w_if_ge, ↓w_if_gt, ↓w_if_le, ↓w_ic_eq, ↓w_ic_ne, ↓w_ic_lt, ↓w_ic_ge, ↓w_ic_gt, ↓w_ic_le, ↓w_ireturn0, ↓w_ireturn1, ↓w_lreturn, ↓w_return_, Nat.reduceAdd, pi_o, pi_ss, pi_so, pi_2, pr_o, pr_s, pr_2, pl_1, pl_s, pl_o, ix67, nI_add, c1, pi_pr, hci]
  refine ⟨fun z25 => ?_, fun z25 => ?_⟩
  · have hie := nI_end (m := 67) hi (by decide) z25
    subst hie
    refine P_blk b_X11_undo_54 ?_
    simp (disch := omega) only [↓w_nil, ↓w_iconst, ↓w_bipush, ↓w_sipush, ↓w_ldc, ↓w_ldc_w, ↓w_lconst, ↓w_ldc2_w, ↓w_il0, ↓w_al0, ↓w_is0, ↓w_ii0, ↓w_il1, ↓w_al1, ↓w_is1, ↓w_ii1, ↓w_il2, ↓w_al2, ↓w_is2, ↓w_ii2, ↓w_il3, ↓w_al3, ↓w_is3, ↓w_ii3, ↓w_il4, ↓w_al4, ↓w_is4, ↓w_ii4, ↓w_il5, ↓w_al5, ↓w_is5, ↓w_ii5, ↓w_il6, ↓w_is6, ↓w_ii6, ↓w_il7, ↓w_is7, ↓w_ii7, ↓w_il8, ↓w_is8, ↓w_ii8, ↓w_il9, ↓w_is9, ↓w_ii9, ↓w_il10, ↓w_is10, ↓w_ii10, ↓w_il11, ↓w_is11, ↓w_ii11, ↓w_iadd, ↓w_isub, ↓w_imul, ↓w_iand, ↓w_ior, ↓w_ishl, ↓w_ishr, ↓w_iushr, ↓w_idiv, ↓w_irem, ↓w_ineg, ↓w_ladd, ↓w_dup, ↓w_dup2, ↓w_pop, ↓w_gi, ↓w_gl, ↓w_gz, ↓w_gr1, ↓w_gr2, ↓w_gr3, ↓w_gr4, ↓w_gr5, ↓w_gr6, ↓w_gr7, ↓w_gr8, ↓w_gr9, ↓w_gr10, ↓w_gr11, ↓w_gr12, ↓w_gr17, ↓w_gr35, ↓w_gr177, ↓w_pi, ↓w_pl, ↓w_pz, ↓w_iaload, ↓w_baload, ↓w_aaload, ↓w_iastore, ↓w_bastore, ↓w_arraylength, ↓w_goto, ↓w_if_eq, ↓w_if_ne, ↓w_if_lt, ↓w_if_ge, ↓w_if_gt, ↓w_if_le, ↓w_ic_eq, ↓w_ic_ne, ↓w_ic_lt, ↓w_ic_ge, ↓w_ic_gt, ↓w_ic_le, ↓w_ireturn0, ↓w_ireturn1, ↓w_lreturn, ↓w_return_, Nat.reduceAdd, pi_o, pi_ss, pi_so, pi_2, pr_o, pr_s, pr_2, pl_1, pl_s, pl_o, ix67, nI_add, c1, pi_pr, hci]
    refine ⟨(by first | assumption | exact rfl), ?_⟩
    exact lf hQ (by first | rfl | trivial) ((by first | rfl | trivial | (simp (disch := omega) only [pi_o, pi_ss, pi_so, pi_2, pr_o, pr_s, pr_2, pl_1, pl_s, pl_o]; done)))
  · have hlt := nI_go (m := 67) (by decide) hi z25
    refine P_blk b_X11_undo_28 ?_
    simp (disch := omega) only [↓w_nil, ↓w_iconst, ↓w_bipush, ↓w_sipush, ↓w_ldc, ↓w_ldc_w, ↓w_lconst, ↓w_ldc2_w, ↓w_il0, ↓w_al0, ↓w_is0, ↓w_ii0, ↓w_il1, ↓w_al1, ↓w_is1, ↓w_ii1, ↓w_il2, ↓w_al2, ↓w_is2, ↓w_ii2, ↓w_il3, ↓w_al3, ↓w_is3, ↓w_ii3, ↓w_il4, ↓w_al4, ↓w_is4, ↓w_ii4, ↓w_il5, ↓w_al5, ↓w_is5, ↓w_ii5, ↓w_il6, ↓w_is6, ↓w_ii6, ↓w_il7, ↓w_is7, ↓w_ii7, ↓w_il8, ↓w_is8, ↓w_ii8, ↓w_il9, ↓w_is9, ↓w_ii9, ↓w_il10, ↓w_is10, ↓w_ii10, ↓w_il11, ↓w_is11, ↓w_ii11, ↓w_iadd, ↓w_isub, ↓w_imul, ↓w_iand, ↓w_ior, ↓w_ishl, ↓w_ishr, ↓w_iushr, ↓w_idiv, ↓w_irem, ↓w_ineg, ↓w_ladd, ↓w_dup, ↓w_dup2, ↓w_pop, ↓w_gi, ↓w_gl, ↓w_gz, ↓w_gr1, ↓w_gr2, ↓w_gr3, ↓w_gr4, ↓w_gr5, ↓w_gr6, ↓w_gr7, ↓w_gr8, ↓w_gr9, ↓w_gr10, ↓w_gr11, ↓w_gr12, ↓w_gr17, ↓w_gr35, ↓w_gr177, ↓w_pi, ↓w_pl, ↓w_pz, ↓w_iaload, ↓w_baload, ↓w_aaload, ↓w_iastore, ↓w_bastore, ↓w_arraylength, ↓w_goto, ↓w_if_eq, ↓w_if_ne, ↓w_if_lt, ↓w_if_ge, ↓w_if_gt, ↓w_if_le, ↓w_ic_eq, ↓w_ic_ne, ↓w_ic_lt, ↓w_ic_ge, ↓w_ic_gt, ↓w_ic_le, ↓w_ireturn0, ↓w_ireturn1, ↓w_lreturn, ↓w_return_, Nat.reduceAdd, pi_o, pi_ss, pi_so, pi_2, pr_o, pr_s, pr_2, pl_1, pl_s, pl_o, ix67, nI_add, c1, pi_pr, hci]
    refine ⟨(by first | assumption | exact rfl), (by first | assumption | exact rfl), (by first | assumption | exact rfl), (by first | (rw [al212]; exact vp_in_nI (by omega) (by decide)) | (rw [al211]; exact vp_in_nI hlt (by decide))), (by first | (rw [al212]; exact vp_in_nI (by omega) (by decide)) | (rw [al211]; exact vp_in_nI hlt (by decide))), ?_⟩
    have h9 := ih hlt
    rw [cpy_d0, ← nI_succ]
    exact h9

set_option maxHeartbeats 400000 in
theorem t_X11_undo {σ : St} {p : Nat} (hp : σ.1 208 6 = nI p) (p10 : p ≤ 10) : Ret m_X11_undo σ [.ref 208] (some (.int (undM σ p).1)) ((undM σ p).2) := by
  refine Ret.introQ 1 (L := [.ref 208, .null]) (by decide +kernel) rfl rfl rfl (fun Q hQ => ?_)
  refine P_blk b_X11_undo_0 ?_
  simp (disch := omega) only [↓w_nil, ↓w_iconst, ↓w_bipush, ↓w_sipush, ↓w_ldc, ↓w_ldc_w, ↓w_lconst, ↓w_ldc2_w, ↓w_il0, ↓w_al0, ↓w_is0, ↓w_ii0, ↓w_il1, ↓w_al1, ↓w_is1, ↓w_ii1, ↓w_il2, ↓w_al2, ↓w_is2, ↓w_ii2, ↓w_il3, ↓w_al3, ↓w_is3, ↓w_ii3, ↓w_il4, ↓w_al4, ↓w_is4, ↓w_ii4, ↓w_il5, ↓w_al5, ↓w_is5, ↓w_ii5, ↓w_il6, ↓w_is6, ↓w_ii6, ↓w_il7, ↓w_is7, ↓w_ii7, ↓w_il8, ↓w_is8, ↓w_ii8, ↓w_il9, ↓w_is9, ↓w_ii9, ↓w_il10, ↓w_is10, ↓w_ii10, ↓w_il11, ↓w_is11, ↓w_ii11, ↓w_iadd, ↓w_isub, ↓w_imul, ↓w_iand, ↓w_ior, ↓w_ishl, ↓w_ishr, ↓w_iushr, ↓w_idiv, ↓w_irem, ↓w_ineg, ↓w_ladd, ↓w_dup, ↓w_dup2, ↓w_pop, ↓w_gi, ↓w_gl, ↓w_gz, ↓w_gr1, ↓w_gr2, ↓w_gr3, ↓w_gr4, ↓w_gr5, ↓w_gr6, ↓w_gr7, ↓w_gr8, ↓w_gr9, ↓w_gr10, ↓w_gr11, ↓w_gr12, ↓w_gr17, ↓w_gr35, ↓w_gr177, ↓w_pi, ↓w_pl, ↓w_pz, ↓w_iaload, ↓w_baload, ↓w_aaload, ↓w_iastore, ↓w_bastore, ↓w_arraylength, ↓w_goto, ↓w_if_eq, ↓w_if_ne, ↓w_if_lt, ↓w_if_ge, ↓w_if_gt, ↓w_if_le, ↓w_ic_eq, ↓w_ic_ne, ↓w_ic_lt, ↓w_ic_ge, ↓w_ic_gt, ↓w_ic_le, ↓w_ireturn0, ↓w_ireturn1, ↓w_lreturn, ↓w_return_, Nat.reduceAdd, pi_o, pi_ss, pi_so, pi_2, pr_o, pr_s, pr_2, pl_1, pl_s, pl_o, hp]
  refine ⟨(by first | assumption | exact rfl), ?_⟩
  refine ⟨fun z4 => ?_, fun z4 => ?_⟩
  · have p0 : 0 < p := by
      rcases Nat.eq_zero_or_pos p with e | e
      · subst e; exact absurd rfl z4
      · exact e
    have hm1 : nI p - 1 = nI (p - 1) := by rw [show p = (p - 1) + 1 by omega]; exact nI_pred _
    refine P_blk b_X11_undo_10 ?_
    simp (disch := omega) only [↓w_nil, ↓w_iconst, ↓w_bipush, ↓w_sipush, ↓w_ldc, ↓w_ldc_w, ↓w_lconst, ↓w_ldc2_w, ↓w_il0, ↓w_al0, ↓w_is0, ↓w_ii0, ↓w_il1, ↓w_al1, ↓w_is1, ↓w_ii1, ↓w_il2, ↓w_al2, ↓w_is2, ↓w_ii2, ↓w_il3, ↓w_al3, ↓w_is3, ↓w_ii3, ↓w_il4, ↓w_al4, ↓w_is4, ↓w_ii4, ↓w_il5, ↓w_al5, ↓w_is5, ↓w_ii5, ↓w_il6, ↓w_is6, ↓w_ii6, ↓w_il7, ↓w_is7, ↓w_ii7, ↓w_il8, ↓w_is8, ↓w_ii8, ↓w_il9, ↓w_is9, ↓w_ii9, ↓w_il10, ↓w_is10, ↓w_ii10, ↓w_il11, ↓w_is11, ↓w_ii11, ↓w_iadd, ↓w_isub, ↓w_imul, ↓w_iand, ↓w_ior, ↓w_ishl, ↓w_ishr, ↓w_iushr, ↓w_idiv, ↓w_irem, ↓w_ineg, ↓w_ladd, ↓w_dup, ↓w_dup2, ↓w_pop, ↓w_gi, ↓w_gl, ↓w_gz, ↓w_gr1, ↓w_gr2, ↓w_gr3, ↓w_gr4, ↓w_gr5, ↓w_gr6, ↓w_gr7, ↓w_gr8, ↓w_gr9, ↓w_gr10, ↓w_gr11, ↓w_gr12, ↓w_gr17, ↓w_gr35, ↓w_gr177, ↓w_pi, ↓w_pl, ↓w_pz, ↓w_iaload, ↓w_baload, ↓w_aaload, ↓w_iastore, ↓w_bastore, ↓w_arraylength, ↓w_goto, ↓w_if_eq, ↓w_if_ne, ↓w_if_lt, ↓w_if_ge, ↓w_if_gt, ↓w_if_le, ↓w_ic_eq, ↓w_ic_ne, ↓w_ic_lt, ↓w_ic_ge, ↓w_ic_gt, ↓w_ic_le, ↓w_ireturn0, ↓w_ireturn1, ↓w_lreturn, ↓w_return_, Nat.reduceAdd, pi_o, pi_ss, pi_so, pi_2, pr_o, pr_s, pr_2, pl_1, pl_s, pl_o, hp, hm1]
    refine ⟨(by first | assumption | exact rfl), (by first | assumption | exact rfl), ?_⟩
    rw [undM, if_neg (by omega)] at hQ
    have h9 := lq_undo (p := p - 1) (by omega) hQ 0 (Nat.zero_le _)
    rw [cpy_0, show σ.1 211 = (pi σ 208 6 (nI (p - 1))).1 211 from by rw [pi_o (by decide)], pr_id] at h9
    exact h9
  · refine P_blk b_X11_undo_7 ?_
    simp (disch := omega) only [↓w_nil, ↓w_iconst, ↓w_bipush, ↓w_sipush, ↓w_ldc, ↓w_ldc_w, ↓w_lconst, ↓w_ldc2_w, ↓w_il0, ↓w_al0, ↓w_is0, ↓w_ii0, ↓w_il1, ↓w_al1, ↓w_is1, ↓w_ii1, ↓w_il2, ↓w_al2, ↓w_is2, ↓w_ii2, ↓w_il3, ↓w_al3, ↓w_is3, ↓w_ii3, ↓w_il4, ↓w_al4, ↓w_is4, ↓w_ii4, ↓w_il5, ↓w_al5, ↓w_is5, ↓w_ii5, ↓w_il6, ↓w_is6, ↓w_ii6, ↓w_il7, ↓w_is7, ↓w_ii7, ↓w_il8, ↓w_is8, ↓w_ii8, ↓w_il9, ↓w_is9, ↓w_ii9, ↓w_il10, ↓w_is10, ↓w_ii10, ↓w_il11, ↓w_is11, ↓w_ii11, ↓w_iadd, ↓w_isub, ↓w_imul, ↓w_iand, ↓w_ior, ↓w_ishl, ↓w_ishr, ↓w_iushr, ↓w_idiv, ↓w_irem, ↓w_ineg, ↓w_ladd, ↓w_dup, ↓w_dup2, ↓w_pop, ↓w_gi, ↓w_gl, ↓w_gz, ↓w_gr1, ↓w_gr2, ↓w_gr3, ↓w_gr4, ↓w_gr5, ↓w_gr6, ↓w_gr7, ↓w_gr8, ↓w_gr9, ↓w_gr10, ↓w_gr11, ↓w_gr12, ↓w_gr17, ↓w_gr35, ↓w_gr177, ↓w_pi, ↓w_pl, ↓w_pz, ↓w_iaload, ↓w_baload, ↓w_aaload, ↓w_iastore, ↓w_bastore, ↓w_arraylength, ↓w_goto, ↓w_if_eq, ↓w_if_ne, ↓w_if_lt, ↓w_if_ge, ↓w_if_gt, ↓w_if_le, ↓w_ic_eq, ↓w_ic_ne, ↓w_ic_lt, ↓w_ic_ge, ↓w_ic_gt, ↓w_ic_le, ↓w_ireturn0, ↓w_ireturn1, ↓w_lreturn, ↓w_return_, Nat.reduceAdd, pi_o, pi_ss, pi_so, pi_2, pr_o, pr_s, pr_2, pl_1, pl_s, pl_o, hp]
    have p0 : p = 0 := by
      rcases Nat.eq_zero_or_pos p with e | e
      · exact e
      · exact absurd z4 (nI_ne0 e (by omega))
    rw [undM, if_pos p0] at hQ
    exact hQ

def rm2 (τ : St) (p : Nat) : St := pi (pr τ 212 (va_cpy (τ.1 211) (τ.1 212) 0 (67 * p) 67)) 208 6 (nI (p + 1))
def rm1 (σ : St) : St := pi (pr σ 212 (va_cpy (σ.1 212) (σ.1 212) 67 0 603)) 208 6 (nI 9)
def remM (σ : St) (p : Nat) : St := if p = 10 then rm2 (rm1 σ) 9 else rm2 σ p
theorem nI_67 (n : Nat) : nI n + 67 = nI (n + 67) := by rw [show (67 : Int32) = nI 67 from rfl, nI_add]
theorem cpy_hi {r : Nat → Int32} {i : Nat} : va_cpy r r 67 0 i (i + 67) = r (i + 67) := by
  simp only [va_cpy]; rw [if_neg (by omega)]

set_option maxHeartbeats 400000 in
theorem lq_rm2 {τ : St} {p : Nat} (hk : τ.1 208 6 = nI p) (hp : p < 10) {Q : Option Value → St → Prop} (hQ : Q (none) (rm2 τ p)) : ∀ i, i ≤ 67 → PW m_X11_remembers (Q) 51 [.ref 208, .int (nI i)] [] (pr τ 212 (va_cpy (τ.1 211) (τ.1 212) 0 (67 * p) i)) := by
  refine loop_down (fun i hi ih => ?_)
  have hci : (nI i).toNatClampNeg = i := nI_clamp (by omega)
  have c1 : (nI (67 * p + i)).toNatClampNeg = 67 * p + i := nI_clamp (by omega)
  refine P_blk b_X11_remembers_51 ?_
  simp (disch := omega) only [↓w_nil, ↓w_iconst, ↓w_bipush, ↓w_sipush, ↓w_ldc, ↓w_ldc_w, ↓w_lconst, ↓w_ldc2_w, ↓w_il0, ↓w_al0, ↓w_is0, ↓w_ii0, ↓w_il1, ↓w_al1, ↓w_is1, ↓w_ii1, ↓w_il2, ↓w_al2, ↓w_is2, ↓w_ii2, ↓w_il3, ↓w_al3, ↓w_is3, ↓w_ii3, ↓w_il4, ↓w_al4, ↓w_is4, ↓w_ii4, ↓w_il5, ↓w_al5, ↓w_is5, ↓w_ii5, ↓w_il6, ↓w_is6, ↓w_ii6, ↓w_il7, ↓w_is7, ↓w_ii7, ↓w_il8, ↓w_is8, ↓w_ii8, ↓w_il9, ↓w_is9, ↓w_ii9, ↓w_il10, ↓w_is10, ↓w_ii10, ↓w_il11, ↓w_is11, ↓w_ii11, ↓w_iadd, ↓w_isub, ↓w_imul, ↓w_iand, ↓w_ior, ↓w_ishl, ↓w_ishr, ↓w_iushr, ↓w_idiv, ↓w_irem, ↓w_ineg, ↓w_ladd, ↓w_dup, ↓w_dup2, ↓w_pop, ↓w_gi, ↓w_gl, ↓w_gz, ↓w_gr1, ↓w_gr2, ↓w_gr3, ↓w_gr4, ↓w_gr5, ↓w_gr6, ↓w_gr7, ↓w_gr8, ↓w_gr9, ↓w_gr10, ↓w_gr11, ↓w_gr12, ↓w_gr17, ↓w_gr35, ↓w_gr177, ↓w_pi, ↓w_pl, ↓w_pz, ↓w_iaload, ↓w_baload, ↓w_aaload, ↓w_iastore, ↓w_bastore, ↓w_arraylength, ↓w_goto, ↓w_if_eq, ↓w_if_ne, ↓w_if_lt, ↓w_if_ge, ↓w_if_gt, ↓w_if_le, ↓w_ic_eq, ↓w_ic_ne, ↓w_ic_lt, ↓w_ic_ge, ↓w_ic_gt, ↓w_ic_le, ↓w_ireturn0, ↓w_ireturn1, ↓w_lreturn, ↓w_return_, Nat.reduceAdd, pi_o, pi_ss, pi_so, pi_2, pr_o, pr_s, pr_2, pl_1, pl_s, pl_o, hk, ix67, nI_add, c1, pi_pr, nI_a1, hci]
  refine ⟨fun z54 => ?_, fun z54 => ?_⟩
  · have hie := nI_end (m := 67) hi (by decide) z54
    subst hie
    refine P_blk b_X11_remembers_83 ?_
    simp (disch := omega) only [↓w_nil, ↓w_iconst, ↓w_bipush, ↓w_sipush, ↓w_ldc, ↓w_ldc_w, ↓w_lconst, ↓w_ldc2_w, ↓w_il0, ↓w_al0, ↓w_is0, ↓w_ii0, ↓w_il1, ↓w_al1, ↓w_is1, ↓w_ii1, ↓w_il2, ↓w_al2, ↓w_is2, ↓w_ii2, ↓w_il3, ↓w_al3, ↓w_is3, ↓w_ii3, ↓w_il4, ↓w_al4, ↓w_is4, ↓w_ii4, ↓w_il5, ↓w_al5, ↓w_is5, ↓w_ii5, ↓w_il6, ↓w_is6, ↓w_ii6, ↓w_il7, ↓w_is7, ↓w_ii7, ↓w_il8, ↓w_is8, ↓w_ii8, ↓w_il9, ↓w_is9, ↓w_ii9, ↓w_il10, ↓w_is10, ↓w_ii10, ↓w_il11, ↓w_is11, ↓w_ii11, ↓w_iadd, ↓w_isub, ↓w_imul, ↓w_iand, ↓w_ior, ↓w_ishl, ↓w_ishr, ↓w_iushr, ↓w_idiv, ↓w_irem, ↓w_ineg, ↓w_ladd, ↓w_dup, ↓w_dup2, ↓w_pop, ↓w_gi, ↓w_gl, ↓w_gz, ↓w_gr1, ↓w_gr2, ↓w_gr3, ↓w_gr4, ↓w_gr5, ↓w_gr6, ↓w_gr7, ↓w_gr8, ↓w_gr9, ↓w_gr10, ↓w_gr11, ↓w_gr12, ↓w_gr17, ↓w_gr35, ↓w_gr177, ↓w_pi, ↓w_pl, ↓w_pz, ↓w_iaload, ↓w_baload, ↓w_aaload, ↓w_iastore, ↓w_bastore, ↓w_arraylength, ↓w_goto, ↓w_if_eq, ↓w_if_ne, ↓w_if_lt, ↓w_if_ge, ↓w_if_gt, ↓w_if_le, ↓w_ic_eq, ↓w_ic_ne, ↓w_ic_lt, ↓w_ic_ge, ↓w_ic_gt, ↓w_ic_le, ↓w_ireturn0, ↓w_ireturn1, ↓w_lreturn, ↓w_return_, Nat.reduceAdd, pi_o, pi_ss, pi_so, pi_2, pr_o, pr_s, pr_2, pl_1, pl_s, pl_o, hk, ix67, nI_add, c1, pi_pr, nI_a1, hci]
    refine ⟨(by first | assumption | exact rfl), (by first | assumption | exact rfl), ?_⟩
    exact lf hQ (by first | rfl | trivial) ((by first | rfl | trivial | (simp (disch := omega) only [pi_o, pi_ss, pi_so, pi_2, pr_o, pr_s, pr_2, pl_1, pl_s, pl_o]; done)))
  · have hlt := nI_go (m := 67) (by decide) hi z54
    refine P_blk b_X11_remembers_57 ?_
    simp (disch := omega) only [↓w_nil, ↓w_iconst, ↓w_bipush, ↓w_sipush, ↓w_ldc, ↓w_ldc_w, ↓w_lconst, ↓w_ldc2_w, ↓w_il0, ↓w_al0, ↓w_is0, ↓w_ii0, ↓w_il1, ↓w_al1, ↓w_is1, ↓w_ii1, ↓w_il2, ↓w_al2, ↓w_is2, ↓w_ii2, ↓w_il3, ↓w_al3, ↓w_is3, ↓w_ii3, ↓w_il4, ↓w_al4, ↓w_is4, ↓w_ii4, ↓w_il5, ↓w_al5, ↓w_is5, ↓w_ii5, ↓w_il6, ↓w_is6, ↓w_ii6, ↓w_il7, ↓w_is7, ↓w_ii7, ↓w_il8, ↓w_is8, ↓w_ii8, ↓w_il9, ↓w_is9, ↓w_ii9, ↓w_il10, ↓w_is10, ↓w_ii10, ↓w_il11, ↓w_is11, ↓w_ii11, ↓w_iadd, ↓w_isub, ↓w_imul, ↓w_iand, ↓w_ior, ↓w_ishl, ↓w_ishr, ↓w_iushr, ↓w_idiv, ↓w_irem, ↓w_ineg, ↓w_ladd, ↓w_dup, ↓w_dup2, ↓w_pop, ↓w_gi, ↓w_gl, ↓w_gz, ↓w_gr1, ↓w_gr2, ↓w_gr3, ↓w_gr4, ↓w_gr5, ↓w_gr6, ↓w_gr7, ↓w_gr8, ↓w_gr9, ↓w_gr10, ↓w_gr11, ↓w_gr12, ↓w_gr17, ↓w_gr35, ↓w_gr177, ↓w_pi, ↓w_pl, ↓w_pz, ↓w_iaload, ↓w_baload, ↓w_aaload, ↓w_iastore, ↓w_bastore, ↓w_arraylength, ↓w_goto, ↓w_if_eq, ↓w_if_ne, ↓w_if_lt, ↓w_if_ge, ↓w_if_gt, ↓w_if_le, ↓w_ic_eq, ↓w_ic_ne, ↓w_ic_lt, ↓w_ic_ge, ↓w_ic_gt, ↓w_ic_le, ↓w_ireturn0, ↓w_ireturn1, ↓w_lreturn, ↓w_return_, Nat.reduceAdd, pi_o, pi_ss, pi_so, pi_2, pr_o, pr_s, pr_2, pl_1, pl_s, pl_o, hk, ix67, nI_add, c1, pi_pr, nI_a1, hci]
    refine ⟨(by first | assumption | exact rfl), (by first | assumption | exact rfl), (by first | assumption | exact rfl), (by first | (rw [al212]; exact vp_in_nI (by omega) (by decide)) | (rw [al211]; exact vp_in_nI hlt (by decide))), (by first | (rw [al212]; exact vp_in_nI (by omega) (by decide)) | (rw [al211]; exact vp_in_nI hlt (by decide))), ?_⟩
    have h9 := ih hlt
    rw [cpy_s0]
    exact h9

set_option maxHeartbeats 400000 in
theorem lq_rm1 {σ : St} (hk : σ.1 208 6 = nI 10) {Q : Option Value → St → Prop} (hQ : Q (none) (rm2 (rm1 σ) 9)) : ∀ i, i ≤ 603 → PW m_X11_remembers (Q) 11 [.ref 208, .int (nI i)] [] (pr σ 212 (va_cpy (σ.1 212) (σ.1 212) 67 0 i)) := by
  refine loop_down (fun i hi ih => ?_)
  have hci : (nI i).toNatClampNeg = i := nI_clamp (by omega)
  have c1 : (nI (i + 67)).toNatClampNeg = i + 67 := nI_clamp (by omega)
  have e9 : nI 10 - 1 = nI 9 := nI_pred 9
  refine P_blk b_X11_remembers_11 ?_
  simp (disch := omega) only [↓w_nil, ↓w_iconst, ↓w_bipush, ↓w_sipush, ↓w_ldc, ↓w_ldc_w, ↓w_lconst, ↓w_ldc2_w, ↓w_il0, ↓w_al0, ↓w_is0, ↓w_ii0, ↓w_il1, ↓w_al1, ↓w_is1, ↓w_ii1, ↓w_il2, ↓w_al2, ↓w_is2, ↓w_ii2, ↓w_il3, ↓w_al3, ↓w_is3, ↓w_ii3, ↓w_il4, ↓w_al4, ↓w_is4, ↓w_ii4, ↓w_il5, ↓w_al5, ↓w_is5, ↓w_ii5, ↓w_il6, ↓w_is6, ↓w_ii6, ↓w_il7, ↓w_is7, ↓w_ii7, ↓w_il8, ↓w_is8, ↓w_ii8, ↓w_il9, ↓w_is9, ↓w_ii9, ↓w_il10, ↓w_is10, ↓w_ii10, ↓w_il11, ↓w_is11, ↓w_ii11, ↓w_iadd, ↓w_isub, ↓w_imul, ↓w_iand, ↓w_ior, ↓w_ishl, ↓w_ishr, ↓w_iushr, ↓w_idiv, ↓w_irem, ↓w_ineg, ↓w_ladd, ↓w_dup, ↓w_dup2, ↓w_pop, ↓w_gi, ↓w_gl, ↓w_gz, ↓w_gr1, ↓w_gr2, ↓w_gr3, ↓w_gr4, ↓w_gr5, ↓w_gr6, ↓w_gr7, ↓w_gr8, ↓w_gr9, ↓w_gr10, ↓w_gr11, ↓w_gr12, ↓w_gr17, ↓w_gr35, ↓w_gr177, ↓w_pi, ↓w_pl, ↓w_pz, ↓w_iaload, ↓w_baload, ↓w_aaload, ↓w_iastore, ↓w_bastore, ↓w_arraylength, ↓w_goto, ↓w_if_eq, ↓w_if_ne, ↓w_if_lt, ↓w_if_ge, ↓w_if_gt, ↓w_if_le, ↓w_ic_eq, ↓w_ic_ne, ↓w_ic_lt, ↓w_ic_ge, ↓w_ic_gt, ↓w_ic_le, ↓w_ireturn0, ↓w_ireturn1, ↓w_lreturn, ↓w_return_, Nat.reduceAdd, pi_o, pi_ss, pi_so, pi_2, pr_o, pr_s, pr_2, pl_1, pl_s, pl_o, hk, nI_67, c1, pi_pr, nI_a1, e9, cpy_hi, hci]
  refine ⟨fun z15 => ?_, fun z15 => ?_⟩
  · have hie := nI_end (m := 603) hi (by decide) z15
    subst hie
    refine P_blk b_X11_remembers_39 ?_
    simp (disch := omega) only [↓w_nil, ↓w_iconst, ↓w_bipush, ↓w_sipush, ↓w_ldc, ↓w_ldc_w, ↓w_lconst, ↓w_ldc2_w, ↓w_il0, ↓w_al0, ↓w_is0, ↓w_ii0, ↓w_il1, ↓w_al1, ↓w_is1, ↓w_ii1, ↓w_il2, ↓w_al2, ↓w_is2, ↓w_ii2, ↓w_il3, ↓w_al3, ↓w_is3, ↓w_ii3, ↓w_il4, ↓w_al4, ↓w_is4, ↓w_ii4, ↓w_il5, ↓w_al5, ↓w_is5, ↓w_ii5, ↓w_il6, ↓w_is6, ↓w_ii6, ↓w_il7, ↓w_is7, ↓w_ii7, ↓w_il8, ↓w_is8, ↓w_ii8, ↓w_il9, ↓w_is9, ↓w_ii9, ↓w_il10, ↓w_is10, ↓w_ii10, ↓w_il11, ↓w_is11, ↓w_ii11, ↓w_iadd, ↓w_isub, ↓w_imul, ↓w_iand, ↓w_ior, ↓w_ishl, ↓w_ishr, ↓w_iushr, ↓w_idiv, ↓w_irem, ↓w_ineg, ↓w_ladd, ↓w_dup, ↓w_dup2, ↓w_pop, ↓w_gi, ↓w_gl, ↓w_gz, ↓w_gr1, ↓w_gr2, ↓w_gr3, ↓w_gr4, ↓w_gr5, ↓w_gr6, ↓w_gr7, ↓w_gr8, ↓w_gr9, ↓w_gr10, ↓w_gr11, ↓w_gr12, ↓w_gr17, ↓w_gr35, ↓w_gr177, ↓w_pi, ↓w_pl, ↓w_pz, ↓w_iaload, ↓w_baload, ↓w_aaload, ↓w_iastore, ↓w_bastore, ↓w_arraylength, ↓w_goto, ↓w_if_eq, ↓w_if_ne, ↓w_if_lt, ↓w_if_ge, ↓w_if_gt, ↓w_if_le, ↓w_ic_eq, ↓w_ic_ne, ↓w_ic_lt, ↓w_ic_ge, ↓w_ic_gt, ↓w_ic_le, ↓w_ireturn0, ↓w_ireturn1, ↓w_lreturn, ↓w_return_, Nat.reduceAdd, pi_o, pi_ss, pi_so, pi_2, pr_o, pr_s, pr_2, pl_1, pl_s, pl_o, hk, nI_67, c1, pi_pr, nI_a1, e9, cpy_hi, hci]
    refine ⟨(by first | assumption | exact rfl), (by first | assumption | exact rfl), ?_⟩
    refine P_blk b_X11_remembers_49 ?_
    simp (disch := omega) only [↓w_nil, ↓w_iconst, ↓w_bipush, ↓w_sipush, ↓w_ldc, ↓w_ldc_w, ↓w_lconst, ↓w_ldc2_w, ↓w_il0, ↓w_al0, ↓w_is0, ↓w_ii0, ↓w_il1, ↓w_al1, ↓w_is1, ↓w_ii1, ↓w_il2, ↓w_al2, ↓w_is2, ↓w_ii2, ↓w_il3, ↓w_al3, ↓w_is3, ↓w_ii3, ↓w_il4, ↓w_al4, ↓w_is4, ↓w_ii4, ↓w_il5, ↓w_al5, ↓w_is5, ↓w_ii5, ↓w_il6, ↓w_is6, ↓w_ii6, ↓w_il7, ↓w_is7, ↓w_ii7, ↓w_il8, ↓w_is8, ↓w_ii8, ↓w_il9, ↓w_is9, ↓w_ii9, ↓w_il10, ↓w_is10, ↓w_ii10, ↓w_il11, ↓w_is11, ↓w_ii11, ↓w_iadd, ↓w_isub, ↓w_imul, ↓w_iand, ↓w_ior, ↓w_ishl, ↓w_ishr, ↓w_iushr, ↓w_idiv, ↓w_irem, ↓w_ineg, ↓w_ladd, ↓w_dup, ↓w_dup2, ↓w_pop, ↓w_gi, ↓w_gl, ↓w_gz, ↓w_gr1, ↓w_gr2, ↓w_gr3, ↓w_gr4, ↓w_gr5, ↓w_gr6, ↓w_gr7, ↓w_gr8, ↓w_gr9, ↓w_gr10, ↓w_gr11, ↓w_gr12, ↓w_gr17, ↓w_gr35, ↓w_gr177, ↓w_pi, ↓w_pl, ↓w_pz, ↓w_iaload, ↓w_baload, ↓w_aaload, ↓w_iastore, ↓w_bastore, ↓w_arraylength, ↓w_goto, ↓w_if_eq, ↓w_if_ne, ↓w_if_lt, ↓w_if_ge, ↓w_if_gt, ↓w_if_le, ↓w_ic_eq, ↓w_ic_ne, ↓w_ic_lt, ↓w_ic_ge, ↓w_ic_gt, ↓w_ic_le, ↓w_ireturn0, ↓w_ireturn1, ↓w_lreturn, ↓w_return_, Nat.reduceAdd, pi_o, pi_ss, pi_so, pi_2, pr_o, pr_s, pr_2, pl_1, pl_s, pl_o, hk, nI_67, c1, pi_pr, nI_a1, e9, cpy_hi, hci]
    have h9 := lq_rm2 (τ := rm1 σ) (p := 9) (by unfold rm1; rw [pi_ss]) (by decide) hQ 0 (Nat.zero_le _)
    rw [cpy_0, pr_id] at h9
    exact h9
  · have hlt := nI_go (m := 603) (by decide) hi z15
    refine P_blk b_X11_remembers_18 ?_
    simp (disch := omega) only [↓w_nil, ↓w_iconst, ↓w_bipush, ↓w_sipush, ↓w_ldc, ↓w_ldc_w, ↓w_lconst, ↓w_ldc2_w, ↓w_il0, ↓w_al0, ↓w_is0, ↓w_ii0, ↓w_il1, ↓w_al1, ↓w_is1, ↓w_ii1, ↓w_il2, ↓w_al2, ↓w_is2, ↓w_ii2, ↓w_il3, ↓w_al3, ↓w_is3, ↓w_ii3, ↓w_il4, ↓w_al4, ↓w_is4, ↓w_ii4, ↓w_il5, ↓w_al5, ↓w_is5, ↓w_ii5, ↓w_il6, ↓w_is6, ↓w_ii6, ↓w_il7, ↓w_is7, ↓w_ii7, ↓w_il8, ↓w_is8, ↓w_ii8, ↓w_il9, ↓w_is9, ↓w_ii9, ↓w_il10, ↓w_is10, ↓w_ii10, ↓w_il11, ↓w_is11, ↓w_ii11, ↓w_iadd, ↓w_isub, ↓w_imul, ↓w_iand, ↓w_ior, ↓w_ishl, ↓w_ishr, ↓w_iushr, ↓w_idiv, ↓w_irem, ↓w_ineg, ↓w_ladd, ↓w_dup, ↓w_dup2, ↓w_pop, ↓w_gi, ↓w_gl, ↓w_gz, ↓w_gr1, ↓w_gr2, ↓w_gr3, ↓w_gr4, ↓w_gr5, ↓w_gr6, ↓w_gr7, ↓w_gr8, ↓w_gr9, ↓w_gr10, ↓w_gr11, ↓w_gr12, ↓w_gr17, ↓w_gr35, ↓w_gr177, ↓w_pi, ↓w_pl, ↓w_pz, ↓w_iaload, ↓w_baload, ↓w_aaload, ↓w_iastore, ↓w_bastore, ↓w_arraylength, ↓w_goto, ↓w_if_eq, ↓w_if_ne, ↓w_if_lt, ↓w_if_ge, ↓w_if_gt, ↓w_if_le, ↓w_ic_eq, ↓w_ic_ne, ↓w_ic_lt, ↓w_ic_ge, ↓w_ic_gt, ↓w_ic_le, ↓w_ireturn0, ↓w_ireturn1, ↓w_lreturn, ↓w_return_, Nat.reduceAdd, pi_o, pi_ss, pi_so, pi_2, pr_o, pr_s, pr_2, pl_1, pl_s, pl_o, hk, nI_67, c1, pi_pr, nI_a1, e9, cpy_hi, hci]
    refine ⟨(by first | assumption | exact rfl), (by first | assumption | exact rfl), (by rw [al212]; exact vp_in_nI (by omega) (by decide)), (by rw [al212]; exact vp_in_nI (by omega) (by decide)), ?_⟩
    have h9 := ih hlt
    rw [Nat.add_comm i 67, cpy_d0]
    exact h9

set_option maxHeartbeats 400000 in
theorem t_X11_remembers {σ : St} {p : Nat} (hk : σ.1 208 6 = nI p) (hp : p ≤ 10) : Ret m_X11_remembers σ [.ref 208] (none) (remM σ p) := by
  refine Ret.introQ 1 (L := [.ref 208, .null]) (by decide +kernel) rfl rfl rfl (fun Q hQ => ?_)
  refine P_blk b_X11_remembers_0 ?_
  simp (disch := omega) only [↓w_nil, ↓w_iconst, ↓w_bipush, ↓w_sipush, ↓w_ldc, ↓w_ldc_w, ↓w_lconst, ↓w_ldc2_w, ↓w_il0, ↓w_al0, ↓w_is0, ↓w_ii0, ↓w_il1, ↓w_al1, ↓w_is1, ↓w_ii1, ↓w_il2, ↓w_al2, ↓w_is2, ↓w_ii2, ↓w_il3, ↓w_al3, ↓w_is3, ↓w_ii3, ↓w_il4, ↓w_al4, ↓w_is4, ↓w_ii4, ↓w_il5, ↓w_al5, ↓w_is5, ↓w_ii5, ↓w_il6, ↓w_is6, ↓w_ii6, ↓w_il7, ↓w_is7, ↓w_ii7, ↓w_il8, ↓w_is8, ↓w_ii8, ↓w_il9, ↓w_is9, ↓w_ii9, ↓w_il10, ↓w_is10, ↓w_ii10, ↓w_il11, ↓w_is11, ↓w_ii11, ↓w_iadd, ↓w_isub, ↓w_imul, ↓w_iand, ↓w_ior, ↓w_ishl, ↓w_ishr, ↓w_iushr, ↓w_idiv, ↓w_irem, ↓w_ineg, ↓w_ladd, ↓w_dup, ↓w_dup2, ↓w_pop, ↓w_gi, ↓w_gl, ↓w_gz, ↓w_gr1, ↓w_gr2, ↓w_gr3, ↓w_gr4, ↓w_gr5, ↓w_gr6, ↓w_gr7, ↓w_gr8, ↓w_gr9, ↓w_gr10, ↓w_gr11, ↓w_gr12, ↓w_gr17, ↓w_gr35, ↓w_gr177, ↓w_pi, ↓w_pl, ↓w_pz, ↓w_iaload, ↓w_baload, ↓w_aaload, ↓w_iastore, ↓w_bastore, ↓w_arraylength, ↓w_goto, ↓w_if_eq, ↓w_if_ne, ↓w_if_lt, ↓w_if_ge, ↓w_if_gt, ↓w_if_le, ↓w_ic_eq, ↓w_ic_ne, ↓w_ic_lt, ↓w_ic_ge, ↓w_ic_gt, ↓w_ic_le, ↓w_ireturn0, ↓w_ireturn1, ↓w_lreturn, ↓w_return_, Nat.reduceAdd, pi_o, pi_ss, pi_so, pi_2, pr_o, pr_s, pr_2, pl_1, pl_s, pl_o, hk]
  refine ⟨(by first | assumption | exact rfl), ?_⟩
  refine ⟨fun z6 => ?_, fun z6 => ?_⟩
  · refine P_blk b_X11_remembers_49 ?_
    simp (disch := omega) only [↓w_nil, ↓w_iconst, ↓w_bipush, ↓w_sipush, ↓w_ldc, ↓w_ldc_w, ↓w_lconst, ↓w_ldc2_w, ↓w_il0, ↓w_al0, ↓w_is0, ↓w_ii0, ↓w_il1, ↓w_al1, ↓w_is1, ↓w_ii1, ↓w_il2, ↓w_al2, ↓w_is2, ↓w_ii2, ↓w_il3, ↓w_al3, ↓w_is3, ↓w_ii3, ↓w_il4, ↓w_al4, ↓w_is4, ↓w_ii4, ↓w_il5, ↓w_al5, ↓w_is5, ↓w_ii5, ↓w_il6, ↓w_is6, ↓w_ii6, ↓w_il7, ↓w_is7, ↓w_ii7, ↓w_il8, ↓w_is8, ↓w_ii8, ↓w_il9, ↓w_is9, ↓w_ii9, ↓w_il10, ↓w_is10, ↓w_ii10, ↓w_il11, ↓w_is11, ↓w_ii11, ↓w_iadd, ↓w_isub, ↓w_imul, ↓w_iand, ↓w_ior, ↓w_ishl, ↓w_ishr, ↓w_iushr, ↓w_idiv, ↓w_irem, ↓w_ineg, ↓w_ladd, ↓w_dup, ↓w_dup2, ↓w_pop, ↓w_gi, ↓w_gl, ↓w_gz, ↓w_gr1, ↓w_gr2, ↓w_gr3, ↓w_gr4, ↓w_gr5, ↓w_gr6, ↓w_gr7, ↓w_gr8, ↓w_gr9, ↓w_gr10, ↓w_gr11, ↓w_gr12, ↓w_gr17, ↓w_gr35, ↓w_gr177, ↓w_pi, ↓w_pl, ↓w_pz, ↓w_iaload, ↓w_baload, ↓w_aaload, ↓w_iastore, ↓w_bastore, ↓w_arraylength, ↓w_goto, ↓w_if_eq, ↓w_if_ne, ↓w_if_lt, ↓w_if_ge, ↓w_if_gt, ↓w_if_le, ↓w_ic_eq, ↓w_ic_ne, ↓w_ic_lt, ↓w_ic_ge, ↓w_ic_gt, ↓w_ic_le, ↓w_ireturn0, ↓w_ireturn1, ↓w_lreturn, ↓w_return_, Nat.reduceAdd, pi_o, pi_ss, pi_so, pi_2, pr_o, pr_s, pr_2, pl_1, pl_s, pl_o, hk]
    have e : ¬ p = 10 := fun q => z6 (by rw [q]; rfl)
    rw [remM, if_neg e] at hQ
    have h9 := lq_rm2 hk (by omega) hQ 0 (Nat.zero_le _)
    rw [cpy_0, pr_id] at h9
    exact h9
  · refine P_blk b_X11_remembers_9 ?_
    simp (disch := omega) only [↓w_nil, ↓w_iconst, ↓w_bipush, ↓w_sipush, ↓w_ldc, ↓w_ldc_w, ↓w_lconst, ↓w_ldc2_w, ↓w_il0, ↓w_al0, ↓w_is0, ↓w_ii0, ↓w_il1, ↓w_al1, ↓w_is1, ↓w_ii1, ↓w_il2, ↓w_al2, ↓w_is2, ↓w_ii2, ↓w_il3, ↓w_al3, ↓w_is3, ↓w_ii3, ↓w_il4, ↓w_al4, ↓w_is4, ↓w_ii4, ↓w_il5, ↓w_al5, ↓w_is5, ↓w_ii5, ↓w_il6, ↓w_is6, ↓w_ii6, ↓w_il7, ↓w_is7, ↓w_ii7, ↓w_il8, ↓w_is8, ↓w_ii8, ↓w_il9, ↓w_is9, ↓w_ii9, ↓w_il10, ↓w_is10, ↓w_ii10, ↓w_il11, ↓w_is11, ↓w_ii11, ↓w_iadd, ↓w_isub, ↓w_imul, ↓w_iand, ↓w_ior, ↓w_ishl, ↓w_ishr, ↓w_iushr, ↓w_idiv, ↓w_irem, ↓w_ineg, ↓w_ladd, ↓w_dup, ↓w_dup2, ↓w_pop, ↓w_gi, ↓w_gl, ↓w_gz, ↓w_gr1, ↓w_gr2, ↓w_gr3, ↓w_gr4, ↓w_gr5, ↓w_gr6, ↓w_gr7, ↓w_gr8, ↓w_gr9, ↓w_gr10, ↓w_gr11, ↓w_gr12, ↓w_gr17, ↓w_gr35, ↓w_gr177, ↓w_pi, ↓w_pl, ↓w_pz, ↓w_iaload, ↓w_baload, ↓w_aaload, ↓w_iastore, ↓w_bastore, ↓w_arraylength, ↓w_goto, ↓w_if_eq, ↓w_if_ne, ↓w_if_lt, ↓w_if_ge, ↓w_if_gt, ↓w_if_le, ↓w_ic_eq, ↓w_ic_ne, ↓w_ic_lt, ↓w_ic_ge, ↓w_ic_gt, ↓w_ic_le, ↓w_ireturn0, ↓w_ireturn1, ↓w_lreturn, ↓w_return_, Nat.reduceAdd, pi_o, pi_ss, pi_so, pi_2, pr_o, pr_s, pr_2, pl_1, pl_s, pl_o, hk]
    have e : p = 10 := (nI_eq (by omega) (by decide)).mp z6
    subst e
    rw [remM, if_pos rfl] at hQ
    have h9 := lq_rm1 hk hQ 0 (Nat.zero_le _)
    rw [cpy_0, pr_id] at h9
    exact h9
