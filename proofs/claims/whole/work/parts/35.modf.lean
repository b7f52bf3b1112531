theorem cpy_0 {f g : Nat → Int32} {sp dp : Nat} : va_cpy f g sp dp 0 = g := by
  funext j; simp only [va_cpy]; rw [if_neg (by omega)]
theorem cpy_s {f g : Nat → Int32} {sp dp i : Nat} : upd (va_cpy f g sp dp i) (dp + i) (f (sp + i)) = va_cpy f g sp dp (i + 1) := by
  funext j; simp only [upd, va_cpy]
  by_cases h : j = dp + i
  · subst h; rw [if_pos rfl, if_pos (by omega)]; congr 1; omega
  · rw [if_neg h]
    by_cases h2 : dp ≤ j ∧ j < dp + i
    · rw [if_pos h2, if_pos (by omega)]
    · rw [if_neg h2, if_neg (by omega)]
theorem ix67 (w : Nat) : (67 : Int32) * nI w = nI (67 * w) := by rw [show (67 : Int32) = nI 67 from rfl, pk_mul]
theorem cpy_s0 {f g : Nat → Int32} {dp i : Nat} : upd (va_cpy f g 0 dp i) (dp + i) (f i) = va_cpy f g 0 dp (i + 1) := by
  have := cpy_s (f := f) (g := g) (sp := 0) (dp := dp) (i := i); rwa [Nat.zero_add] at this
theorem cpy_d0 {f g : Nat → Int32} {sp i : Nat} : upd (va_cpy f g sp 0 i) i (f (sp + i)) = va_cpy f g sp 0 (i + 1) := by
  have := cpy_s (f := f) (g := g) (sp := sp) (dp := 0) (i := i); rwa [Nat.zero_add] at this

set_option maxHeartbeats 400000 in
theorem lq_keep {σ : St} {w : Nat} (hw : w < 2) {Q : Option Value → St → Prop} (hQ : Q (some (.int (σ.1 211 0))) (pi (pr σ 213 (va_cpy (σ.1 211) (σ.1 213) 0 (67 * w) 67)) 214 w 1)) : ∀ i, i ≤ 67 → PW m_X11_keep (Q) 13 [.ref 208, .int (nI w), .int (nI i)] [] (pr σ 213 (va_cpy (σ.1 211) (σ.1 213) 0 (67 * w) i)) := by
  refine loop_down (fun i hi ih => ?_)
  have hci : (nI i).toNatClampNeg = i := nI_clamp (by omega)
  have c1 : (nI (67 * w + i)).toNatClampNeg = 67 * w + i := nI_clamp (by omega)
  have cw : (nI w).toNatClampNeg = w := nI_clamp (by omega)
  refine P_blk b_X11_keep_13 ?_
  simp (disch := omega) only [↓w_nil, ↓w_iconst, ↓w_bipush, ↓w_sipush, ↓w_ldc, ↓w_ldc_w, ↓w_lconst, ↓w_ldc2_w, ↓w_il0, ↓w_al0, ↓w_is0, ↓w_ii0, ↓w_il1, ↓w_al1, ↓w_is1, ↓w_ii1, ↓w_il2, ↓w_al2, ↓w_is2, ↓w_ii2, ↓w_il3, ↓w_al3, ↓w_is3, ↓w_ii3, ↓w_il4, ↓w_al4, ↓w_is4, ↓w_ii4, ↓w_il5, ↓w_al5, ↓w_is5, ↓w_ii5, ↓w_il6, ↓w_is6, ↓w_ii6, ↓w_il7, ↓w_is7, ↓w_ii7, ↓w_il8, ↓w_is8, ↓w_ii8, ↓w_il9, ↓w_is9, ↓w_ii9, ↓w_il10, ↓w_is10, ↓w_ii10, ↓w_il11, ↓w_is11, ↓w_ii11, ↓w_iadd, ↓w_isub, ↓w_imul, ↓w_iand, ↓w_ior, ↓w_ishl, ↓w_ishr, ↓w_iushr, ↓w_idiv, ↓w_irem, ↓w_ineg, ↓w_ladd, ↓w_dup, ↓w_dup2, ↓w_pop, ↓w_gi, ↓w_gl, ↓w_gz, ↓w_gr1, ↓w_gr2, ↓w_gr3, ↓w_gr4, ↓w_gr5, ↓w_gr6, ↓w_gr7, ↓w_gr8, ↓w_gr9, ↓w_gr10, ↓w_gr11, ↓w_gr12, ↓w_gr17, ↓w_gr35, ↓w_gr177, ↓w_pi, ↓w_pl, ↓w_pz, ↓w_iaload, ↓w_baload, ↓w_aaload, ↓w_iastore, ↓w_bastore, ↓w_arraylength, ↓w_goto, ↓w_if_eq, ↓w_if_ne, ↓w_if_lt, ↓w_if_ge, ↓w_if_gt, ↓w_if_le, ↓w_ic_eq, ↓w_ic_ne, ↓w_ic_lt, ↓w_ic_ge, ↓w_ic_gt, ↓w_ic_le, ↓w_ireturn0, ↓w_ireturn1, ↓w_lreturn, ↓w_return_, Nat.reduceAdd, pi_o, pi_ss, pi_so, pi_2, pr_o, pr_s, pr_2, pl_1, pl_s, pl_o, ix67, nI_add, c1, cw, cl0, pi_pr, hci]
  refine ⟨fun z16 => ?_, fun z16 => ?_⟩
  · have hie := nI_end (m := 67) hi (by decide) z16
    subst hie
    refine P_blk b_X11_keep_42 ?_
    simp (disch := omega) only [↓w_nil, ↓w_iconst, ↓w_bipush, ↓w_sipush, ↓w_ldc, ↓w_ldc_w, ↓w_lconst, ↓w_ldc2_w, ↓w_il0, ↓w_al0, ↓w_is0, ↓w_ii0, ↓w_il1, ↓w_al1, ↓w_is1, ↓w_ii1, ↓w_il2, ↓w_al2, ↓w_is2, ↓w_ii2, ↓w_il3, ↓w_al3, ↓w_is3, ↓w_ii3, ↓w_il4, ↓w_al4, ↓w_is4, ↓w_ii4, ↓w_il5, ↓w_al5, ↓w_is5, ↓w_ii5, ↓w_il6, ↓w_is6, ↓w_ii6, ↓w_il7, ↓w_is7, ↓w_ii7, ↓w_il8, ↓w_is8, ↓w_ii8, ↓w_il9, ↓w_is9, ↓w_ii9, ↓w_il10, ↓w_is10, ↓w_ii10, ↓w_il11, ↓w_is11, ↓w_ii11, ↓w_iadd, ↓w_isub, ↓w_imul, ↓w_iand, ↓w_ior, ↓w_ishl, ↓w_ishr, ↓w_iushr, ↓w_idiv, ↓w_irem, ↓w_ineg, ↓w_ladd, ↓w_dup, ↓w_dup2, ↓w_pop, ↓w_gi, ↓w_gl, ↓w_gz, ↓w_gr1, ↓w_gr2, ↓w_gr3, ↓w_gr4, ↓w_gr5, ↓w_gr6, ↓w_gr7, ↓w_gr8, ↓w_gr9, ↓w_gr10, ↓w_gr11, ↓w_gr12, ↓w_gr17, ↓w_gr35, ↓w_gr177, ↓w_pi, ↓w_pl, ↓w_pz, ↓w_iaload, ↓w_baload, ↓w_aaload, ↓w_iastore, ↓w_bastore, ↓w_arraylength, ↓w_goto, ↓w_if_eq, ↓w_if_ne, ↓w_if_lt, ↓w_if_ge, ↓w_if_gt, ↓w_if_le, ↓w_ic_eq, ↓w_ic_ne, ↓w_ic_lt, ↓w_ic_ge, ↓w_ic_gt, ↓w_ic_le, ↓w_ireturn0, ↓w_ireturn1, ↓w_lreturn, ↓w_return_, Nat.reduceAdd, pi_o, pi_ss, pi_so, pi_2, pr_o, pr_s, pr_2, pl_1, pl_s, pl_o, ix67, nI_add, c1, cw, cl0, pi_pr, hci]
    refine ⟨(by first | assumption | exact rfl), (by first | (rw [al213]; exact vp_in_nI (by omega) (by decide)) | (rw [zl214]; exact vp_in_nI hw (by decide)) | (rw [al211]; first | exact vp_in_nI hlt (by decide) | exact vp_in_nI (n := 0) (by decide) (by decide))), (by first | trivial | decide | exact bI_01 _), (by first | assumption | exact rfl), (by first | (rw [al213]; exact vp_in_nI (by omega) (by decide)) | (rw [zl214]; exact vp_in_nI hw (by decide)) | (rw [al211]; first | exact vp_in_nI hlt (by decide) | exact vp_in_nI (n := 0) (by decide) (by decide))), ?_⟩
    exact lf hQ (by first | rfl | trivial) ((by first | rfl | trivial | (simp (disch := omega) only [pi_o, pi_ss, pi_so, pi_2, pr_o, pr_s, pr_2, pl_1, pl_s, pl_o]; done)))
  · have hlt := nI_go (m := 67) (by decide) hi z16
    refine P_blk b_X11_keep_19 ?_
    simp (disch := omega) only [↓w_nil, ↓w_iconst, ↓w_bipush, ↓w_sipush, ↓w_ldc, ↓w_ldc_w, ↓w_lconst, ↓w_ldc2_w, ↓w_il0, ↓w_al0, ↓w_is0, ↓w_ii0, ↓w_il1, ↓w_al1, ↓w_is1, ↓w_ii1, ↓w_il2, ↓w_al2, ↓w_is2, ↓w_ii2, ↓w_il3, ↓w_al3, ↓w_is3, ↓w_ii3, ↓w_il4, ↓w_al4, ↓w_is4, ↓w_ii4, ↓w_il5, ↓w_al5, ↓w_is5, ↓w_ii5, ↓w_il6, ↓w_is6, ↓w_ii6, ↓w_il7, ↓w_is7, ↓w_ii7, ↓w_il8, ↓w_is8, ↓w_ii8, ↓w_il9, ↓w_is9, ↓w_ii9, ↓w_il10, ↓w_is10, ↓w_ii10, ↓w_il11, ↓w_is11, ↓w_ii11, ↓w_iadd, ↓w_isub, ↓w_imul, ↓w_iand, ↓w_ior, ↓w_ishl, ↓w_ishr, ↓w_iushr, ↓w_idiv, ↓w_irem, ↓w_ineg, ↓w_ladd, ↓w_dup, ↓w_dup2, ↓w_pop, ↓w_gi, ↓w_gl, ↓w_gz, ↓w_gr1, ↓w_gr2, ↓w_gr3, ↓w_gr4, ↓w_gr5, ↓w_gr6, ↓w_gr7, ↓w_gr8, ↓w_gr9, ↓w_gr10, ↓w_gr11, ↓w_gr12, ↓w_gr17, ↓w_gr35, ↓w_gr177, ↓w_pi, ↓w_pl, ↓w_pz, ↓w_iaload, ↓w_baload, ↓w_aaload, ↓w_iastore, ↓w_bastore, ↓w_arraylength, ↓w_goto, ↓w_if_eq, ↓w_if_ne, ↓w_if_lt, ↓w_if_ge, ↓w_if_gt, ↓w_if_le, ↓w_ic_eq, ↓w_ic_ne, ↓w_ic_lt, ↓w_ic_ge, ↓w_ic_gt, ↓w_ic_le, ↓w_ireturn0, ↓w_ireturn1, ↓w_lreturn, ↓w_return_, Nat.reduceAdd, pi_o, pi_ss, pi_so, pi_2, pr_o, pr_s, pr_2, pl_1, pl_s, pl_o, ix67, nI_add, c1, cw, cl0, pi_pr, hci]
    refine ⟨(by first | assumption | exact rfl), (by first | assumption | exact rfl), (by first | (rw [al213]; exact vp_in_nI (by omega) (by decide)) | (rw [zl214]; exact vp_in_nI hw (by decide)) | (rw [al211]; first | exact vp_in_nI hlt (by decide) | exact vp_in_nI (n := 0) (by decide) (by decide))), (by first | (rw [al213]; exact vp_in_nI (by omega) (by decide)) | (rw [zl214]; exact vp_in_nI hw (by decide)) | (rw [al211]; first | exact vp_in_nI hlt (by decide) | exact vp_in_nI (n := 0) (by decide) (by decide))), ?_⟩
    have h9 := ih hlt
    rw [cpy_s0, ← nI_succ]
    exact h9
