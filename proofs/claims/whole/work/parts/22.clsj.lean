theorem enT_PO {σ s : St} {lt : Nat → Int32} {len p : Nat} {T : TD} {r : Int32} (h1 : CT σ T (tkX lt len p) s) (h2 : s.1 17 6 = nI (tkS lt len p)) (h3 : r = bI (decide (tkC lt len p = 59))) : PO σ (enT lt len p T) r s := by
  unfold enT
  by_cases h : tkC lt len p = 59
  · rw [if_pos h]; exact ⟨by rw [h3, decide_eq_true h]; rfl, h1⟩
  · rw [if_neg h]; exact ⟨by rw [h3, decide_eq_false h]; rfl, h1.1, h2⟩
theorem CT.fs {σ s : St} {T : TD} {p : Nat} {v : Int32} {n : Nat} (h : CT σ T p s) (hv : v = nI n) (hn : n < 2 ^ 31) : CT σ (fsT T v) p (pi s 18 0 v) := by
  obtain ⟨h1, h2, h3⟩ := h
  refine ⟨h1.piB (by omega), by rw [pi_o (by decide)]; exact h2, ?_⟩
  unfold told at h3 ⊢
  simp (disch := decide) only [pi_o, pi_ss]
  refine ⟨by simp only [fsT]; rw [hv, nI_clamp hn], h3.2⟩
theorem hasL_of {s : St} {nf n : Nat} (h : s.1 18 0 = nI nf) (hn : n < nf) (h8 : nf ≤ 8) : hasL s 18 (nI n) = true := by
  simp only [hasL, h, Bool.and_eq_true, Bool.not_eq_true', decide_eq_false_iff_not]
  exact ⟨nI_pos (by omega), nI_ge hn (by omega), nI_ge (b := 8) (by omega) (by decide)⟩
theorem CT.jn {σ s : St} {T : TD} {p : Nat} {a b : Int32} (h : CT σ T p s) : CT σ (jnT T a b) p (pi (pi s (18 + 1) a.toNatClampNeg (s.1 (18 + 1) a.toNatClampNeg ||| (1 <<< (b &&& 31)))) (18 + 1) b.toNatClampNeg ((pi s (18 + 1) a.toNatClampNeg (s.1 (18 + 1) a.toNatClampNeg ||| (1 <<< (b &&& 31)))).1 (18 + 1) b.toNatClampNeg ||| (1 <<< (a &&& 31)))) := by
  obtain ⟨h1, h2, h3⟩ := h
  refine ⟨(h1.piB (by omega)).piB (by omega), by rw [pi_o (by decide), pi_o (by decide)]; exact h2, ?_⟩
  unfold told at h3 ⊢
  simp (disch := decide) only [pi_o]
  obtain ⟨a1, a2, a3⟩ := h3
  refine ⟨a1, ?_, a3⟩
  rw [pi_same, pi_same]
  show upd (upd (s.1 19) _ _) _ _ = _
  rw [a2]; rfl
theorem CT.ar {σ s : St} {T : TD} {p : Nat} {x f t : Int32} (h : CT σ T p s) : CT σ (arT T x f t) p (pi (pi (pi (pi s (22 + 1) T.2.2.1 x) (22 + 2) T.2.2.1 f) (22 + 3) T.2.2.1 t) 22 0 (nI (T.2.2.1 + 1))) := by
  obtain ⟨h1, h2, h3⟩ := h
  refine ⟨(((h1.piB (by omega)).piB (by omega)).piB (by omega)).piB (by omega), by simp (disch := decide) only [pi_o]; exact h2, ?_⟩
  unfold told at h3 ⊢
  obtain ⟨a1, a2, a3, a4, a5, a6⟩ := h3
  simp (disch := decide) only [pi_o, pi_ss, Nat.reduceAdd]
  refine ⟨a1, a2, rfl, fun i hi => ?_, a5, a6⟩
  simp only [arT] at hi ⊢
  by_cases hm : i = T.2.2.1
  · subst hm
    simp only [if_true, v3]
    simp (disch := decide) only [pi_o, pi_ss, and_self]
  · rw [if_neg hm]
    have := a4 i (by omega)
    simp (disch := first | decide | omega) only [pi_o, pi_so]
    exact this
theorem CT.pg {σ s : St} {T : TD} {p : Nat} {d x w f : Int32} (h : CT σ T p s) : CT σ (pgT T d x w f) p (pi (pi (pi (pi (pi s (26 + 1) T.2.2.2.2.1 d) (26 + 2) T.2.2.2.2.1 x) (26 + 3) T.2.2.2.2.1 w) (26 + 4) T.2.2.2.2.1 f) 26 0 (nI (T.2.2.2.2.1 + 1))) := by
  obtain ⟨h1, h2, h3⟩ := h
  refine ⟨((((h1.piB (by omega)).piB (by omega)).piB (by omega)).piB (by omega)).piB (by omega), by simp (disch := decide) only [pi_o]; exact h2, ?_⟩
  unfold told at h3 ⊢
  obtain ⟨a1, a2, a3, a4, a5, a6⟩ := h3
  simp (disch := decide) only [pi_o, pi_ss, Nat.reduceAdd]
  refine ⟨a1, a2, a3, a4, rfl, fun i hi => ?_⟩
  simp only [pgT] at hi ⊢
  by_cases hm : i = T.2.2.2.2.1
  · subst hm
    simp only [if_true, v4]
    simp (disch := decide) only [pi_o, pi_ss, and_self]
  · rw [if_neg hm]
    have := a6 i (by omega)
    simp (disch := first | decide | omega) only [pi_o, pi_so]
    exact this
theorem isAr22 : isAr 22 := by unfold isAr; decide +kernel
theorem isPg26 : isPg 26 := by unfold isPg; decide +kernel

set_option maxHeartbeats 400000 in
theorem u_X9_readFields {σ s : St} {lt : Nat → Int32} {len : Nat} (hlt : σ.1 34 = lt) (hlen : σ.1 17 0 = nI len) (h200 : len ≤ 200) (hch : ∀ i, i < len → 0 ≤ lt i) {T : TD} {p : Nat} (hT : CT σ T p s) (hpl : p ≤ len) : RetPi m_X9_readFields (s) [.ref 17] (PO σ (itF lt len T p)) := by
  refine RetPi.introQ 1 (L := [.ref 17]) (by decide +kernel) rfl rfl rfl (fun Q hQ => ?_)
  have x0 := tkX_le (lt := lt) (len := len) (p := p) hpl
  refine P_blk b_X9_readFields_0 ?_
  simp (disch := omega) only [↓w_nil, ↓w_iconst, ↓w_bipush, ↓w_sipush, ↓w_ldc, ↓w_ldc_w, ↓w_lconst, ↓w_ldc2_w, ↓w_il0, ↓w_al0, ↓w_is0, ↓w_ii0, ↓w_il1, ↓w_al1, ↓w_is1, ↓w_ii1, ↓w_il2, ↓w_al2, ↓w_is2, ↓w_ii2, ↓w_il3, ↓w_al3, ↓w_is3, ↓w_ii3, ↓w_il4, ↓w_al4, ↓w_is4, ↓w_ii4, ↓w_il5, ↓w_al5, ↓w_is5, ↓w_ii5, ↓w_il6, ↓w_is6, ↓w_ii6, ↓w_il7, ↓w_is7, ↓w_ii7, ↓w_il8, ↓w_is8, ↓w_ii8, ↓w_il9, ↓w_is9, ↓w_ii9, ↓w_il10, ↓w_is10, ↓w_ii10, ↓w_il11, ↓w_is11, ↓w_ii11, ↓w_iadd, ↓w_isub, ↓w_imul, ↓w_iand, ↓w_ior, ↓w_ishl, ↓w_ishr, ↓w_iushr, ↓w_idiv, ↓w_irem, ↓w_ineg, ↓w_ladd, ↓w_dup, ↓w_dup2, ↓w_pop, ↓w_gi, ↓w_gl, ↓w_gz, ↓w_gr1, ↓w_gr2, ↓w_gr3, ↓w_gr4, ↓w_gr5, ↓w_gr6, ↓w_gr7, ↓w_gr8, ↓w_gr9, ↓w_gr10, ↓w_gr11, ↓w_gr12, ↓w_gr17, ↓w_gr35, ↓w_gr177, ↓w_pi, ↓w_pl, ↓w_pz, ↓w_iaload, ↓w_baload, ↓w_aaload, ↓w_iastore, ↓w_bastore, ↓w_arraylength, ↓w_goto, ↓w_if_eq, ↓w_if_ne, ↓w_if_lt, ↓w_if_ge, ↓w_if_gt, ↓w_if_le, ↓w_ic_eq, ↓w_ic_ne, ↓w_ic_lt, ↓w_ic_ge, ↓w_ic_gt, ↓w_ic_le, ↓w_ireturn0, ↓w_ireturn1, ↓w_lreturn, ↓w_return_, Nat.add_assoc, Nat.reduceAdd, pi_o, pi_ss, pi_so, pi_2, pr_o, pr_s, pr_2, pl_1, pl_s, pl_o]
  refine P_V2iP k_X9_readFields_4 (by first | assumption | exact rfl) (u_X9_readNumber hlt hlen h200 hch (p := p) hT hpl) rfl rfl ?_
  intro r1 s1 ⟨c1, d1, e1, f1⟩
  refine P_blk b_X9_readFields_7 ?_
  simp (disch := omega) only [↓w_nil, ↓w_iconst, ↓w_bipush, ↓w_sipush, ↓w_ldc, ↓w_ldc_w, ↓w_lconst, ↓w_ldc2_w, ↓w_il0, ↓w_al0, ↓w_is0, ↓w_ii0, ↓w_il1, ↓w_al1, ↓w_is1, ↓w_ii1, ↓w_il2, ↓w_al2, ↓w_is2, ↓w_ii2, ↓w_il3, ↓w_al3, ↓w_is3, ↓w_ii3, ↓w_il4, ↓w_al4, ↓w_is4, ↓w_ii4, ↓w_il5, ↓w_al5, ↓w_is5, ↓w_ii5, ↓w_il6, ↓w_is6, ↓w_ii6, ↓w_il7, ↓w_is7, ↓w_ii7, ↓w_il8, ↓w_is8, ↓w_ii8, ↓w_il9, ↓w_is9, ↓w_ii9, ↓w_il10, ↓w_is10, ↓w_ii10, ↓w_il11, ↓w_is11, ↓w_ii11, ↓w_iadd, ↓w_isub, ↓w_imul, ↓w_iand, ↓w_ior, ↓w_ishl, ↓w_ishr, ↓w_iushr, ↓w_idiv, ↓w_irem, ↓w_ineg, ↓w_ladd, ↓w_dup, ↓w_dup2, ↓w_pop, ↓w_gi, ↓w_gl, ↓w_gz, ↓w_gr1, ↓w_gr2, ↓w_gr3, ↓w_gr4, ↓w_gr5, ↓w_gr6, ↓w_gr7, ↓w_gr8, ↓w_gr9, ↓w_gr10, ↓w_gr11, ↓w_gr12, ↓w_gr17, ↓w_gr35, ↓w_gr177, ↓w_pi, ↓w_pl, ↓w_pz, ↓w_iaload, ↓w_baload, ↓w_aaload, ↓w_iastore, ↓w_bastore, ↓w_arraylength, ↓w_goto, ↓w_if_eq, ↓w_if_ne, ↓w_if_lt, ↓w_if_ge, ↓w_if_gt, ↓w_if_le, ↓w_ic_eq, ↓w_ic_ne, ↓w_ic_lt, ↓w_ic_ge, ↓w_ic_gt, ↓w_ic_le, ↓w_ireturn0, ↓w_ireturn1, ↓w_lreturn, ↓w_return_, Nat.add_assoc, Nat.reduceAdd, pi_o, pi_ss, pi_so, pi_2, pr_o, pr_s, pr_2, pl_1, pl_s, pl_o]
  refine ⟨fun z7 => ?_, fun z7 => ?_⟩
  · rw [e1, bI_n0] at z7
    have g7 := f1 z7
    obtain ⟨n, n2, n8, hn⟩ := okN_nI (a := 2) (b := 8) rfl rfl (by decide) (by decide) z7
    have hT2 : CT σ (fsT T (tkN lt len p)) (tkX lt len p) (pi s1 18 0 (tkN lt len p)) := c1.fs hn (by omega)
    refine P_blk b_X9_readFields_12 ?_
    simp (disch := omega) only [↓w_nil, ↓w_iconst, ↓w_bipush, ↓w_sipush, ↓w_ldc, ↓w_ldc_w, ↓w_lconst, ↓w_ldc2_w, ↓w_il0, ↓w_al0, ↓w_is0, ↓w_ii0, ↓w_il1, ↓w_al1, ↓w_is1, ↓w_ii1, ↓w_il2, ↓w_al2, ↓w_is2, ↓w_ii2, ↓w_il3, ↓w_al3, ↓w_is3, ↓w_ii3, ↓w_il4, ↓w_al4, ↓w_is4, ↓w_ii4, ↓w_il5, ↓w_al5, ↓w_is5, ↓w_ii5, ↓w_il6, ↓w_is6, ↓w_ii6, ↓w_il7, ↓w_is7, ↓w_ii7, ↓w_il8, ↓w_is8, ↓w_ii8, ↓w_il9, ↓w_is9, ↓w_ii9, ↓w_il10, ↓w_is10, ↓w_ii10, ↓w_il11, ↓w_is11, ↓w_ii11, ↓w_iadd, ↓w_isub, ↓w_imul, ↓w_iand, ↓w_ior, ↓w_ishl, ↓w_ishr, ↓w_iushr, ↓w_idiv, ↓w_irem, ↓w_ineg, ↓w_ladd, ↓w_dup, ↓w_dup2, ↓w_pop, ↓w_gi, ↓w_gl, ↓w_gz, ↓w_gr1, ↓w_gr2, ↓w_gr3, ↓w_gr4, ↓w_gr5, ↓w_gr6, ↓w_gr7, ↓w_gr8, ↓w_gr9, ↓w_gr10, ↓w_gr11, ↓w_gr12, ↓w_gr17, ↓w_gr35, ↓w_gr177, ↓w_pi, ↓w_pl, ↓w_pz, ↓w_iaload, ↓w_baload, ↓w_aaload, ↓w_iastore, ↓w_bastore, ↓w_arraylength, ↓w_goto, ↓w_if_eq, ↓w_if_ne, ↓w_if_lt, ↓w_if_ge, ↓w_if_gt, ↓w_if_le, ↓w_ic_eq, ↓w_ic_ne, ↓w_ic_lt, ↓w_ic_ge, ↓w_ic_gt, ↓w_ic_le, ↓w_ireturn0, ↓w_ireturn1, ↓w_lreturn, ↓w_return_, Nat.add_assoc, Nat.reduceAdd, pi_o, pi_ss, pi_so, pi_2, pr_o, pr_s, pr_2, pl_1, pl_s, pl_o, g7]
    refine ⟨(by first | assumption | exact rfl), (by first | assumption | exact rfl), (by first | assumption | exact rfl), ?_⟩
    refine P_V0iP k_X9_readFields_24 (by first | assumption | exact rfl) (u_X9_readItemEnd hlt hlen h200 hch (p := tkX lt len p) hT2 (by omega)) rfl rfl ?_
    intro r2 s2 ⟨c2, d2, e2⟩
    refine P_blk b_X9_readFields_27 ?_
    simp (disch := omega) only [↓w_nil, ↓w_iconst, ↓w_bipush, ↓w_sipush, ↓w_ldc, ↓w_ldc_w, ↓w_lconst, ↓w_ldc2_w, ↓w_il0, ↓w_al0, ↓w_is0, ↓w_ii0, ↓w_il1, ↓w_al1, ↓w_is1, ↓w_ii1, ↓w_il2, ↓w_al2, ↓w_is2, ↓w_ii2, ↓w_il3, ↓w_al3, ↓w_is3, ↓w_ii3, ↓w_il4, ↓w_al4, ↓w_is4, ↓w_ii4, ↓w_il5, ↓w_al5, ↓w_is5, ↓w_ii5, ↓w_il6, ↓w_is6, ↓w_ii6, ↓w_il7, ↓w_is7, ↓w_ii7, ↓w_il8, ↓w_is8, ↓w_ii8, ↓w_il9, ↓w_is9, ↓w_ii9, ↓w_il10, ↓w_is10, ↓w_ii10, ↓w_il11, ↓w_is11, ↓w_ii11, ↓w_iadd, ↓w_isub, ↓w_imul, ↓w_iand, ↓w_ior, ↓w_ishl, ↓w_ishr, ↓w_iushr, ↓w_idiv, ↓w_irem, ↓w_ineg, ↓w_ladd, ↓w_dup, ↓w_dup2, ↓w_pop, ↓w_gi, ↓w_gl, ↓w_gz, ↓w_gr1, ↓w_gr2, ↓w_gr3, ↓w_gr4, ↓w_gr5, ↓w_gr6, ↓w_gr7, ↓w_gr8, ↓w_gr9, ↓w_gr10, ↓w_gr11, ↓w_gr12, ↓w_gr17, ↓w_gr35, ↓w_gr177, ↓w_pi, ↓w_pl, ↓w_pz, ↓w_iaload, ↓w_baload, ↓w_aaload, ↓w_iastore, ↓w_bastore, ↓w_arraylength, ↓w_goto, ↓w_if_eq, ↓w_if_ne, ↓w_if_lt, ↓w_if_ge, ↓w_if_gt, ↓w_if_le, ↓w_ic_eq, ↓w_ic_ne, ↓w_ic_lt, ↓w_ic_ge, ↓w_ic_gt, ↓w_ic_le, ↓w_ireturn0, ↓w_ireturn1, ↓w_lreturn, ↓w_return_, Nat.add_assoc, Nat.reduceAdd, pi_o, pi_ss, pi_so, pi_2, pr_o, pr_s, pr_2, pl_1, pl_s, pl_o, g7]
    refine ⟨(by rw [e2]; exact bI_01 _), ?_⟩
    refine hQ _ _ ?_
    rw [itF, z7, if_pos rfl]
    exact enT_PO c2 d2 e2
  · rw [e1, bI_0] at z7
    refine P_blk b_X9_readFields_10 ?_
    simp (disch := omega) only [↓w_nil, ↓w_iconst, ↓w_bipush, ↓w_sipush, ↓w_ldc, ↓w_ldc_w, ↓w_lconst, ↓w_ldc2_w, ↓w_il0, ↓w_al0, ↓w_is0, ↓w_ii0, ↓w_il1, ↓w_al1, ↓w_is1, ↓w_ii1, ↓w_il2, ↓w_al2, ↓w_is2, ↓w_ii2, ↓w_il3, ↓w_al3, ↓w_is3, ↓w_ii3, ↓w_il4, ↓w_al4, ↓w_is4, ↓w_ii4, ↓w_il5, ↓w_al5, ↓w_is5, ↓w_ii5, ↓w_il6, ↓w_is6, ↓w_ii6, ↓w_il7, ↓w_is7, ↓w_ii7, ↓w_il8, ↓w_is8, ↓w_ii8, ↓w_il9, ↓w_is9, ↓w_ii9, ↓w_il10, ↓w_is10, ↓w_ii10, ↓w_il11, ↓w_is11, ↓w_ii11, ↓w_iadd, ↓w_isub, ↓w_imul, ↓w_iand, ↓w_ior, ↓w_ishl, ↓w_ishr, ↓w_iushr, ↓w_idiv, ↓w_irem, ↓w_ineg, ↓w_ladd, ↓w_dup, ↓w_dup2, ↓w_pop, ↓w_gi, ↓w_gl, ↓w_gz, ↓w_gr1, ↓w_gr2, ↓w_gr3, ↓w_gr4, ↓w_gr5, ↓w_gr6, ↓w_gr7, ↓w_gr8, ↓w_gr9, ↓w_gr10, ↓w_gr11, ↓w_gr12, ↓w_gr17, ↓w_gr35, ↓w_gr177, ↓w_pi, ↓w_pl, ↓w_pz, ↓w_iaload, ↓w_baload, ↓w_aaload, ↓w_iastore, ↓w_bastore, ↓w_arraylength, ↓w_goto, ↓w_if_eq, ↓w_if_ne, ↓w_if_lt, ↓w_if_ge, ↓w_if_gt, ↓w_if_le, ↓w_ic_eq, ↓w_ic_ne, ↓w_ic_lt, ↓w_ic_ge, ↓w_ic_gt, ↓w_ic_le, ↓w_ireturn0, ↓w_ireturn1, ↓w_lreturn, ↓w_return_, Nat.add_assoc, Nat.reduceAdd, pi_o, pi_ss, pi_so, pi_2, pr_o, pr_s, pr_2, pl_1, pl_s, pl_o]
    refine ⟨(by first | trivial | decide | exact bI_01 _), ?_⟩
    refine hQ _ _ ?_
    rw [itF, z7]
    exact ⟨rfl, c1.1, d1⟩

set_option maxHeartbeats 400000 in
theorem u_X9_readRoad {σ s : St} {lt : Nat → Int32} {len : Nat} (hlt : σ.1 34 = lt) (hlen : σ.1 17 0 = nI len) (h200 : len ≤ 200) (hch : ∀ i, i < len → 0 ≤ lt i) {T : TD} {p : Nat} (hT : CT σ T p s) (hpl : p ≤ len) (hok : okT T) : RetPi m_X9_readRoad (s) [.ref 17] (PO σ (itR lt len T p)) := by
  refine RetPi.introQ 1 (L := [.ref 17, .null]) (by decide +kernel) rfl rfl rfl (fun Q hQ => ?_)
  have x0 := tkX_le (lt := lt) (len := len) (p := p) (by omega)
  have x1 := tkX_le (lt := lt) (len := len) (p := (tkX lt len p)) (by omega)
  refine P_blk b_X9_readRoad_0 ?_
  simp (disch := omega) only [↓w_nil, ↓w_iconst, ↓w_bipush, ↓w_sipush, ↓w_ldc, ↓w_ldc_w, ↓w_lconst, ↓w_ldc2_w, ↓w_il0, ↓w_al0, ↓w_is0, ↓w_ii0, ↓w_il1, ↓w_al1, ↓w_is1, ↓w_ii1, ↓w_il2, ↓w_al2, ↓w_is2, ↓w_ii2, ↓w_il3, ↓w_al3, ↓w_is3, ↓w_ii3, ↓w_il4, ↓w_al4, ↓w_is4, ↓w_ii4, ↓w_il5, ↓w_al5, ↓w_is5, ↓w_ii5, ↓w_il6, ↓w_is6, ↓w_ii6, ↓w_il7, ↓w_is7, ↓w_ii7, ↓w_il8, ↓w_is8, ↓w_ii8, ↓w_il9, ↓w_is9, ↓w_ii9, ↓w_il10, ↓w_is10, ↓w_ii10, ↓w_il11, ↓w_is11, ↓w_ii11, ↓w_iadd, ↓w_isub, ↓w_imul, ↓w_iand, ↓w_ior, ↓w_ishl, ↓w_ishr, ↓w_iushr, ↓w_idiv, ↓w_irem, ↓w_ineg, ↓w_ladd, ↓w_dup, ↓w_dup2, ↓w_pop, ↓w_gi, ↓w_gl, ↓w_gz, ↓w_gr1, ↓w_gr2, ↓w_gr3, ↓w_gr4, ↓w_gr5, ↓w_gr6, ↓w_gr7, ↓w_gr8, ↓w_gr9, ↓w_gr10, ↓w_gr11, ↓w_gr12, ↓w_gr17, ↓w_gr35, ↓w_gr177, ↓w_pi, ↓w_pl, ↓w_pz, ↓w_iaload, ↓w_baload, ↓w_aaload, ↓w_iastore, ↓w_bastore, ↓w_arraylength, ↓w_goto, ↓w_if_eq, ↓w_if_ne, ↓w_if_lt, ↓w_if_ge, ↓w_if_gt, ↓w_if_le, ↓w_ic_eq, ↓w_ic_ne, ↓w_ic_lt, ↓w_ic_ge, ↓w_ic_gt, ↓w_ic_le, ↓w_ireturn0, ↓w_ireturn1, ↓w_lreturn, ↓w_return_, Nat.add_assoc, Nat.reduceAdd, pi_o, pi_ss, pi_so, pi_2, pr_o, pr_s, pr_2, pl_1, pl_s, pl_o]
  refine P_V0iP k_X9_readRoad_1 (by first | assumption | exact rfl) (u_X9_readField hlt hlen h200 hch (p := p) hT hpl hok) rfl rfl ?_
  intro r1 s1 ⟨c1, d1, e1, f1⟩
  refine P_blk b_X9_readRoad_4 ?_
  simp (disch := omega) only [↓w_nil, ↓w_iconst, ↓w_bipush, ↓w_sipush, ↓w_ldc, ↓w_ldc_w, ↓w_lconst, ↓w_ldc2_w, ↓w_il0, ↓w_al0, ↓w_is0, ↓w_ii0, ↓w_il1, ↓w_al1, ↓w_is1, ↓w_ii1, ↓w_il2, ↓w_al2, ↓w_is2, ↓w_ii2, ↓w_il3, ↓w_al3, ↓w_is3, ↓w_ii3, ↓w_il4, ↓w_al4, ↓w_is4, ↓w_ii4, ↓w_il5, ↓w_al5, ↓w_is5, ↓w_ii5, ↓w_il6, ↓w_is6, ↓w_ii6, ↓w_il7, ↓w_is7, ↓w_ii7, ↓w_il8, ↓w_is8, ↓w_ii8, ↓w_il9, ↓w_is9, ↓w_ii9, ↓w_il10, ↓w_is10, ↓w_ii10, ↓w_il11, ↓w_is11, ↓w_ii11, ↓w_iadd, ↓w_isub, ↓w_imul, ↓w_iand, ↓w_ior, ↓w_ishl, ↓w_ishr, ↓w_iushr, ↓w_idiv, ↓w_irem, ↓w_ineg, ↓w_ladd, ↓w_dup, ↓w_dup2, ↓w_pop, ↓w_gi, ↓w_gl, ↓w_gz, ↓w_gr1, ↓w_gr2, ↓w_gr3, ↓w_gr4, ↓w_gr5, ↓w_gr6, ↓w_gr7, ↓w_gr8, ↓w_gr9, ↓w_gr10, ↓w_gr11, ↓w_gr12, ↓w_gr17, ↓w_gr35, ↓w_gr177, ↓w_pi, ↓w_pl, ↓w_pz, ↓w_iaload, ↓w_baload, ↓w_aaload, ↓w_iastore, ↓w_bastore, ↓w_arraylength, ↓w_goto, ↓w_if_eq, ↓w_if_ne, ↓w_if_lt, ↓w_if_ge, ↓w_if_gt, ↓w_if_le, ↓w_ic_eq, ↓w_ic_ne, ↓w_ic_lt, ↓w_ic_ge, ↓w_ic_gt, ↓w_ic_le, ↓w_ireturn0, ↓w_ireturn1, ↓w_lreturn, ↓w_return_, Nat.add_assoc, Nat.reduceAdd, pi_o, pi_ss, pi_so, pi_2, pr_o, pr_s, pr_2, pl_1, pl_s, pl_o]
  refine ⟨fun z4 => ?_, fun z4 => ?_⟩
  · rw [e1, bI_n0] at z4
    have g7 := f1 z4
    obtain ⟨n1, -, m1, k1⟩ := okN_nI (a := 0) (b := T.1 - 1) rfl rfl (by decide) (by have := hok.2.1; omega) z4
    refine P_blk b_X9_readRoad_9 ?_
    simp (disch := omega) only [↓w_nil, ↓w_iconst, ↓w_bipush, ↓w_sipush, ↓w_ldc, ↓w_ldc_w, ↓w_lconst, ↓w_ldc2_w, ↓w_il0, ↓w_al0, ↓w_is0, ↓w_ii0, ↓w_il1, ↓w_al1, ↓w_is1, ↓w_ii1, ↓w_il2, ↓w_al2, ↓w_is2, ↓w_ii2, ↓w_il3, ↓w_al3, ↓w_is3, ↓w_ii3, ↓w_il4, ↓w_al4, ↓w_is4, ↓w_ii4, ↓w_il5, ↓w_al5, ↓w_is5, ↓w_ii5, ↓w_il6, ↓w_is6, ↓w_ii6, ↓w_il7, ↓w_is7, ↓w_ii7, ↓w_il8, ↓w_is8, ↓w_ii8, ↓w_il9, ↓w_is9, ↓w_ii9, ↓w_il10, ↓w_is10, ↓w_ii10, ↓w_il11, ↓w_is11, ↓w_ii11, ↓w_iadd, ↓w_isub, ↓w_imul, ↓w_iand, ↓w_ior, ↓w_ishl, ↓w_ishr, ↓w_iushr, ↓w_idiv, ↓w_irem, ↓w_ineg, ↓w_ladd, ↓w_dup, ↓w_dup2, ↓w_pop, ↓w_gi, ↓w_gl, ↓w_gz, ↓w_gr1, ↓w_gr2, ↓w_gr3, ↓w_gr4, ↓w_gr5, ↓w_gr6, ↓w_gr7, ↓w_gr8, ↓w_gr9, ↓w_gr10, ↓w_gr11, ↓w_gr12, ↓w_gr17, ↓w_gr35, ↓w_gr177, ↓w_pi, ↓w_pl, ↓w_pz, ↓w_iaload, ↓w_baload, ↓w_aaload, ↓w_iastore, ↓w_bastore, ↓w_arraylength, ↓w_goto, ↓w_if_eq, ↓w_if_ne, ↓w_if_lt, ↓w_if_ge, ↓w_if_gt, ↓w_if_le, ↓w_ic_eq, ↓w_ic_ne, ↓w_ic_lt, ↓w_ic_ge, ↓w_ic_gt, ↓w_ic_le, ↓w_ireturn0, ↓w_ireturn1, ↓w_lreturn, ↓w_return_, Nat.add_assoc, Nat.reduceAdd, pi_o, pi_ss, pi_so, pi_2, pr_o, pr_s, pr_2, pl_1, pl_s, pl_o, g7]
    refine ⟨(by first | assumption | exact rfl), ?_⟩
    refine P_V0iP k_X9_readRoad_15 (by first | assumption | exact rfl) (u_X9_readField hlt hlen h200 hch (p := (tkX lt len p)) c1 (by omega) hok) rfl rfl ?_
    intro r2 s2 ⟨c2, d2, e2, f2⟩
    refine P_blk b_X9_readRoad_18 ?_
    simp (disch := omega) only [↓w_nil, ↓w_iconst, ↓w_bipush, ↓w_sipush, ↓w_ldc, ↓w_ldc_w, ↓w_lconst, ↓w_ldc2_w, ↓w_il0, ↓w_al0, ↓w_is0, ↓w_ii0, ↓w_il1, ↓w_al1, ↓w_is1, ↓w_ii1, ↓w_il2, ↓w_al2, ↓w_is2, ↓w_ii2, ↓w_il3, ↓w_al3, ↓w_is3, ↓w_ii3, ↓w_il4, ↓w_al4, ↓w_is4, ↓w_ii4, ↓w_il5, ↓w_al5, ↓w_is5, ↓w_ii5, ↓w_il6, ↓w_is6, ↓w_ii6, ↓w_il7, ↓w_is7, ↓w_ii7, ↓w_il8, ↓w_is8, ↓w_ii8, ↓w_il9, ↓w_is9, ↓w_ii9, ↓w_il10, ↓w_is10, ↓w_ii10, ↓w_il11, ↓w_is11, ↓w_ii11, ↓w_iadd, ↓w_isub, ↓w_imul, ↓w_iand, ↓w_ior, ↓w_ishl, ↓w_ishr, ↓w_iushr, ↓w_idiv, ↓w_irem, ↓w_ineg, ↓w_ladd, ↓w_dup, ↓w_dup2, ↓w_pop, ↓w_gi, ↓w_gl, ↓w_gz, ↓w_gr1, ↓w_gr2, ↓w_gr3, ↓w_gr4, ↓w_gr5, ↓w_gr6, ↓w_gr7, ↓w_gr8, ↓w_gr9, ↓w_gr10, ↓w_gr11, ↓w_gr12, ↓w_gr17, ↓w_gr35, ↓w_gr177, ↓w_pi, ↓w_pl, ↓w_pz, ↓w_iaload, ↓w_baload, ↓w_aaload, ↓w_iastore, ↓w_bastore, ↓w_arraylength, ↓w_goto, ↓w_if_eq, ↓w_if_ne, ↓w_if_lt, ↓w_if_ge, ↓w_if_gt, ↓w_if_le, ↓w_ic_eq, ↓w_ic_ne, ↓w_ic_lt, ↓w_ic_ge, ↓w_ic_gt, ↓w_ic_le, ↓w_ireturn0, ↓w_ireturn1, ↓w_lreturn, ↓w_return_, Nat.add_assoc, Nat.reduceAdd, pi_o, pi_ss, pi_so, pi_2, pr_o, pr_s, pr_2, pl_1, pl_s, pl_o, g7]
    refine ⟨fun z18 => ?_, fun z18 => ?_⟩
    · refine P_blk b_X9_readRoad_29 ?_
      simp (disch := omega) only [↓w_nil, ↓w_iconst, ↓w_bipush, ↓w_sipush, ↓w_ldc, ↓w_ldc_w, ↓w_lconst, ↓w_ldc2_w, ↓w_il0, ↓w_al0, ↓w_is0, ↓w_ii0, ↓w_il1, ↓w_al1, ↓w_is1, ↓w_ii1, ↓w_il2, ↓w_al2, ↓w_is2, ↓w_ii2, ↓w_il3, ↓w_al3, ↓w_is3, ↓w_ii3, ↓w_il4, ↓w_al4, ↓w_is4, ↓w_ii4, ↓w_il5, ↓w_al5, ↓w_is5, ↓w_ii5, ↓w_il6, ↓w_is6, ↓w_ii6, ↓w_il7, ↓w_is7, ↓w_ii7, ↓w_il8, ↓w_is8, ↓w_ii8, ↓w_il9, ↓w_is9, ↓w_ii9, ↓w_il10, ↓w_is10, ↓w_ii10, ↓w_il11, ↓w_is11, ↓w_ii11, ↓w_iadd, ↓w_isub, ↓w_imul, ↓w_iand, ↓w_ior, ↓w_ishl, ↓w_ishr, ↓w_iushr, ↓w_idiv, ↓w_irem, ↓w_ineg, ↓w_ladd, ↓w_dup, ↓w_dup2, ↓w_pop, ↓w_gi, ↓w_gl, ↓w_gz, ↓w_gr1, ↓w_gr2, ↓w_gr3, ↓w_gr4, ↓w_gr5, ↓w_gr6, ↓w_gr7, ↓w_gr8, ↓w_gr9, ↓w_gr10, ↓w_gr11, ↓w_gr12, ↓w_gr17, ↓w_gr35, ↓w_gr177, ↓w_pi, ↓w_pl, ↓w_pz, ↓w_iaload, ↓w_baload, ↓w_aaload, ↓w_iastore, ↓w_bastore, ↓w_arraylength, ↓w_goto, ↓w_if_eq, ↓w_if_ne, ↓w_if_lt, ↓w_if_ge, ↓w_if_gt, ↓w_if_le, ↓w_ic_eq, ↓w_ic_ne, ↓w_ic_lt, ↓w_ic_ge, ↓w_ic_gt, ↓w_ic_le, ↓w_ireturn0, ↓w_ireturn1, ↓w_lreturn, ↓w_return_, Nat.add_assoc, Nat.reduceAdd, pi_o, pi_ss, pi_so, pi_2, pr_o, pr_s, pr_2, pl_1, pl_s, pl_o, g7]
      refine ⟨(by first | trivial | decide | exact bI_01 _), ?_⟩
      rw [e2, bI_0] at z18
      refine hQ _ _ ?_
      rw [itR, z4, z18]
      exact ⟨rfl, c2.1, d2⟩
    · rw [e2, bI_n0] at z18
      have g8 := f2 z18
      obtain ⟨n2, -, m2, k2⟩ := okN_nI (a := 0) (b := T.1 - 1) rfl rfl (by decide) (by have := hok.2.1; omega) z18
      refine P_blk b_X9_readRoad_21 ?_
      simp (disch := omega) only [↓w_nil, ↓w_iconst, ↓w_bipush, ↓w_sipush, ↓w_ldc, ↓w_ldc_w, ↓w_lconst, ↓w_ldc2_w, ↓w_il0, ↓w_al0, ↓w_is0, ↓w_ii0, ↓w_il1, ↓w_al1, ↓w_is1, ↓w_ii1, ↓w_il2, ↓w_al2, ↓w_is2, ↓w_ii2, ↓w_il3, ↓w_al3, ↓w_is3, ↓w_ii3, ↓w_il4, ↓w_al4, ↓w_is4, ↓w_ii4, ↓w_il5, ↓w_al5, ↓w_is5, ↓w_ii5, ↓w_il6, ↓w_is6, ↓w_ii6, ↓w_il7, ↓w_is7, ↓w_ii7, ↓w_il8, ↓w_is8, ↓w_ii8, ↓w_il9, ↓w_is9, ↓w_ii9, ↓w_il10, ↓w_is10, ↓w_ii10, ↓w_il11, ↓w_is11, ↓w_ii11, ↓w_iadd, ↓w_isub, ↓w_imul, ↓w_iand, ↓w_ior, ↓w_ishl, ↓w_ishr, ↓w_iushr, ↓w_idiv, ↓w_irem, ↓w_ineg, ↓w_ladd, ↓w_dup, ↓w_dup2, ↓w_pop, ↓w_gi, ↓w_gl, ↓w_gz, ↓w_gr1, ↓w_gr2, ↓w_gr3, ↓w_gr4, ↓w_gr5, ↓w_gr6, ↓w_gr7, ↓w_gr8, ↓w_gr9, ↓w_gr10, ↓w_gr11, ↓w_gr12, ↓w_gr17, ↓w_gr35, ↓w_gr177, ↓w_pi, ↓w_pl, ↓w_pz, ↓w_iaload, ↓w_baload, ↓w_aaload, ↓w_iastore, ↓w_bastore, ↓w_arraylength, ↓w_goto, ↓w_if_eq, ↓w_if_ne, ↓w_if_lt, ↓w_if_ge, ↓w_if_gt, ↓w_if_le, ↓w_ic_eq, ↓w_ic_ne, ↓w_ic_lt, ↓w_ic_ge, ↓w_ic_gt, ↓w_ic_le, ↓w_ireturn0, ↓w_ireturn1, ↓w_lreturn, ↓w_return_, Nat.add_assoc, Nat.reduceAdd, pi_o, pi_ss, pi_so, pi_2, pr_o, pr_s, pr_2, pl_1, pl_s, pl_o, g7, g8]
      refine ⟨(by first | assumption | exact rfl), ?_⟩
      refine ⟨fun z26 => ?_, fun z26 => ?_⟩
      · refine P_blk b_X9_readRoad_31 ?_
        simp (disch := omega) only [↓w_nil, ↓w_iconst, ↓w_bipush, ↓w_sipush, ↓w_ldc, ↓w_ldc_w, ↓w_lconst, ↓w_ldc2_w, ↓w_il0, ↓w_al0, ↓w_is0, ↓w_ii0, ↓w_il1, ↓w_al1, ↓w_is1, ↓w_ii1, ↓w_il2, ↓w_al2, ↓w_is2, ↓w_ii2, ↓w_il3, ↓w_al3, ↓w_is3, ↓w_ii3, ↓w_il4, ↓w_al4, ↓w_is4, ↓w_ii4, ↓w_il5, ↓w_al5, ↓w_is5, ↓w_ii5, ↓w_il6, ↓w_is6, ↓w_ii6, ↓w_il7, ↓w_is7, ↓w_ii7, ↓w_il8, ↓w_is8, ↓w_ii8, ↓w_il9, ↓w_is9, ↓w_ii9, ↓w_il10, ↓w_is10, ↓w_ii10, ↓w_il11, ↓w_is11, ↓w_ii11, ↓w_iadd, ↓w_isub, ↓w_imul, ↓w_iand, ↓w_ior, ↓w_ishl, ↓w_ishr, ↓w_iushr, ↓w_idiv, ↓w_irem, ↓w_ineg, ↓w_ladd, ↓w_dup, ↓w_dup2, ↓w_pop, ↓w_gi, ↓w_gl, ↓w_gz, ↓w_gr1, ↓w_gr2, ↓w_gr3, ↓w_gr4, ↓w_gr5, ↓w_gr6, ↓w_gr7, ↓w_gr8, ↓w_gr9, ↓w_gr10, ↓w_gr11, ↓w_gr12, ↓w_gr17, ↓w_gr35, ↓w_gr177, ↓w_pi, ↓w_pl, ↓w_pz, ↓w_iaload, ↓w_baload, ↓w_aaload, ↓w_iastore, ↓w_bastore, ↓w_arraylength, ↓w_goto, ↓w_if_eq, ↓w_if_ne, ↓w_if_lt, ↓w_if_ge, ↓w_if_gt, ↓w_if_le, ↓w_ic_eq, ↓w_ic_ne, ↓w_ic_lt, ↓w_ic_ge, ↓w_ic_gt, ↓w_ic_le, ↓w_ireturn0, ↓w_ireturn1, ↓w_lreturn, ↓w_return_, Nat.add_assoc, Nat.reduceAdd, pi_o, pi_ss, pi_so, pi_2, pr_o, pr_s, pr_2, pl_1, pl_s, pl_o, g7, g8]
        refine ⟨(by first | assumption | exact rfl), (by first | assumption | exact rfl), ?_⟩
        refine P_V2v k_X9_readRoad_40 (by first | assumption | exact rfl) (t_X3_join land18 (by rw [k1]; exact hasL_of c2.2.2.1 (by have := hok.1; omega) hok.2.1) (by rw [k2]; exact hasL_of c2.2.2.1 (by have := hok.1; omega) hok.2.1)) rfl rfl ?_
        refine P_blk b_X9_readRoad_43 ?_
        simp (disch := omega) only [↓w_nil, ↓w_iconst, ↓w_bipush, ↓w_sipush, ↓w_ldc, ↓w_ldc_w, ↓w_lconst, ↓w_ldc2_w, ↓w_il0, ↓w_al0, ↓w_is0, ↓w_ii0, ↓w_il1, ↓w_al1, ↓w_is1, ↓w_ii1, ↓w_il2, ↓w_al2, ↓w_is2, ↓w_ii2, ↓w_il3, ↓w_al3, ↓w_is3, ↓w_ii3, ↓w_il4, ↓w_al4, ↓w_is4, ↓w_ii4, ↓w_il5, ↓w_al5, ↓w_is5, ↓w_ii5, ↓w_il6, ↓w_is6, ↓w_ii6, ↓w_il7, ↓w_is7, ↓w_ii7, ↓w_il8, ↓w_is8, ↓w_ii8, ↓w_il9, ↓w_is9, ↓w_ii9, ↓w_il10, ↓w_is10, ↓w_ii10, ↓w_il11, ↓w_is11, ↓w_ii11, ↓w_iadd, ↓w_isub, ↓w_imul, ↓w_iand, ↓w_ior, ↓w_ishl, ↓w_ishr, ↓w_iushr, ↓w_idiv, ↓w_irem, ↓w_ineg, ↓w_ladd, ↓w_dup, ↓w_dup2, ↓w_pop, ↓w_gi, ↓w_gl, ↓w_gz, ↓w_gr1, ↓w_gr2, ↓w_gr3, ↓w_gr4, ↓w_gr5, ↓w_gr6, ↓w_gr7, ↓w_gr8, ↓w_gr9, ↓w_gr10, ↓w_gr11, ↓w_gr12, ↓w_gr17, ↓w_gr35, ↓w_gr177, ↓w_pi, ↓w_pl, ↓w_pz, ↓w_iaload, ↓w_baload, ↓w_aaload, ↓w_iastore, ↓w_bastore, ↓w_arraylength, ↓w_goto, ↓w_if_eq, ↓w_if_ne, ↓w_if_lt, ↓w_if_ge, ↓w_if_gt, ↓w_if_le, ↓w_ic_eq, ↓w_ic_ne, ↓w_ic_lt, ↓w_ic_ge, ↓w_ic_gt, ↓w_ic_le, ↓w_ireturn0, ↓w_ireturn1, ↓w_lreturn, ↓w_return_, Nat.add_assoc, Nat.reduceAdd, pi_o, pi_ss, pi_so, pi_2, pr_o, pr_s, pr_2, pl_1, pl_s, pl_o, g7, g8]
        refine P_V0iP k_X9_readRoad_44 (by first | assumption | exact rfl) (u_X9_readItemEnd hlt hlen h200 hch (p := (tkX lt len (tkX lt len p))) c2.jn (by omega)) rfl rfl ?_
        intro r3 s3 ⟨c3, d3, e3⟩
        refine P_blk b_X9_readRoad_47 ?_
        simp (disch := omega) only [↓w_nil, ↓w_iconst, ↓w_bipush, ↓w_sipush, ↓w_ldc, ↓w_ldc_w, ↓w_lconst, ↓w_ldc2_w, ↓w_il0, ↓w_al0, ↓w_is0, ↓w_ii0, ↓w_il1, ↓w_al1, ↓w_is1, ↓w_ii1, ↓w_il2, ↓w_al2, ↓w_is2, ↓w_ii2, ↓w_il3, ↓w_al3, ↓w_is3, ↓w_ii3, ↓w_il4, ↓w_al4, ↓w_is4, ↓w_ii4, ↓w_il5, ↓w_al5, ↓w_is5, ↓w_ii5, ↓w_il6, ↓w_is6, ↓w_ii6, ↓w_il7, ↓w_is7, ↓w_ii7, ↓w_il8, ↓w_is8, ↓w_ii8, ↓w_il9, ↓w_is9, ↓w_ii9, ↓w_il10, ↓w_is10, ↓w_ii10, ↓w_il11, ↓w_is11, ↓w_ii11, ↓w_iadd, ↓w_isub, ↓w_imul, ↓w_iand, ↓w_ior, ↓w_ishl, ↓w_ishr, ↓w_iushr, ↓w_idiv, ↓w_irem, ↓w_ineg, ↓w_ladd, ↓w_dup, ↓w_dup2, ↓w_pop, ↓w_gi, ↓w_gl, ↓w_gz, ↓w_gr1, ↓w_gr2, ↓w_gr3, ↓w_gr4, ↓w_gr5, ↓w_gr6, ↓w_gr7, ↓w_gr8, ↓w_gr9, ↓w_gr10, ↓w_gr11, ↓w_gr12, ↓w_gr17, ↓w_gr35, ↓w_gr177, ↓w_pi, ↓w_pl, ↓w_pz, ↓w_iaload, ↓w_baload, ↓w_aaload, ↓w_iastore, ↓w_bastore, ↓w_arraylength, ↓w_goto, ↓w_if_eq, ↓w_if_ne, ↓w_if_lt, ↓w_if_ge, ↓w_if_gt, ↓w_if_le, ↓w_ic_eq, ↓w_ic_ne, ↓w_ic_lt, ↓w_ic_ge, ↓w_ic_gt, ↓w_ic_le, ↓w_ireturn0, ↓w_ireturn1, ↓w_lreturn, ↓w_return_, Nat.add_assoc, Nat.reduceAdd, pi_o, pi_ss, pi_so, pi_2, pr_o, pr_s, pr_2, pl_1, pl_s, pl_o, g7, g8]
        refine ⟨(by rw [e3]; exact bI_01 _), ?_⟩
        refine hQ _ _ ?_
        rw [itR, z4, z18, if_pos rfl, decide_eq_true z26, Bool.true_and, if_pos rfl]
        exact enT_PO c3 d3 e3
      · refine P_blk b_X9_readRoad_29 ?_
        simp (disch := omega) only [↓w_nil, ↓w_iconst, ↓w_bipush, ↓w_sipush, ↓w_ldc, ↓w_ldc_w, ↓w_lconst, ↓w_ldc2_w, ↓w_il0, ↓w_al0, ↓w_is0, ↓w_ii0, ↓w_il1, ↓w_al1, ↓w_is1, ↓w_ii1, ↓w_il2, ↓w_al2, ↓w_is2, ↓w_ii2, ↓w_il3, ↓w_al3, ↓w_is3, ↓w_ii3, ↓w_il4, ↓w_al4, ↓w_is4, ↓w_ii4, ↓w_il5, ↓w_al5, ↓w_is5, ↓w_ii5, ↓w_il6, ↓w_is6, ↓w_ii6, ↓w_il7, ↓w_is7, ↓w_ii7, ↓w_il8, ↓w_is8, ↓w_ii8, ↓w_il9, ↓w_is9, ↓w_ii9, ↓w_il10, ↓w_is10, ↓w_ii10, ↓w_il11, ↓w_is11, ↓w_ii11, ↓w_iadd, ↓w_isub, ↓w_imul, ↓w_iand, ↓w_ior, ↓w_ishl, ↓w_ishr, ↓w_iushr, ↓w_idiv, ↓w_irem, ↓w_ineg, ↓w_ladd, ↓w_dup, ↓w_dup2, ↓w_pop, ↓w_gi, ↓w_gl, ↓w_gz, ↓w_gr1, ↓w_gr2, ↓w_gr3, ↓w_gr4, ↓w_gr5, ↓w_gr6, ↓w_gr7, ↓w_gr8, ↓w_gr9, ↓w_gr10, ↓w_gr11, ↓w_gr12, ↓w_gr17, ↓w_gr35, ↓w_gr177, ↓w_pi, ↓w_pl, ↓w_pz, ↓w_iaload, ↓w_baload, ↓w_aaload, ↓w_iastore, ↓w_bastore, ↓w_arraylength, ↓w_goto, ↓w_if_eq, ↓w_if_ne, ↓w_if_lt, ↓w_if_ge, ↓w_if_gt, ↓w_if_le, ↓w_ic_eq, ↓w_ic_ne, ↓w_ic_lt, ↓w_ic_ge, ↓w_ic_gt, ↓w_ic_le, ↓w_ireturn0, ↓w_ireturn1, ↓w_lreturn, ↓w_return_, Nat.add_assoc, Nat.reduceAdd, pi_o, pi_ss, pi_so, pi_2, pr_o, pr_s, pr_2, pl_1, pl_s, pl_o, g7, g8]
        refine ⟨(by first | trivial | decide | exact bI_01 _), ?_⟩
        refine hQ _ _ ?_
        rw [itR, z4, z18, z26]
        simp only [if_true, not_true_eq_false, decide_false, Bool.and_false, Bool.false_eq_true, if_false]
        exact ⟨rfl, c2.1, d2⟩
  · rw [e1, bI_0] at z4
    refine P_blk b_X9_readRoad_7 ?_
    simp (disch := omega) only [↓w_nil, ↓w_iconst, ↓w_bipush, ↓w_sipush, ↓w_ldc, ↓w_ldc_w, ↓w_lconst, ↓w_ldc2_w, ↓w_il0, ↓w_al0, ↓w_is0, ↓w_ii0, ↓w_il1, ↓w_al1, ↓w_is1, ↓w_ii1, ↓w_il2, ↓w_al2, ↓w_is2, ↓w_ii2, ↓w_il3, ↓w_al3, ↓w_is3, ↓w_ii3, ↓w_il4, ↓w_al4, ↓w_is4, ↓w_ii4, ↓w_il5, ↓w_al5, ↓w_is5, ↓w_ii5, ↓w_il6, ↓w_is6, ↓w_ii6, ↓w_il7, ↓w_is7, ↓w_ii7, ↓w_il8, ↓w_is8, ↓w_ii8, ↓w_il9, ↓w_is9, ↓w_ii9, ↓w_il10, ↓w_is10, ↓w_ii10, ↓w_il11, ↓w_is11, ↓w_ii11, ↓w_iadd, ↓w_isub, ↓w_imul, ↓w_iand, ↓w_ior, ↓w_ishl, ↓w_ishr, ↓w_iushr, ↓w_idiv, ↓w_irem, ↓w_ineg, ↓w_ladd, ↓w_dup, ↓w_dup2, ↓w_pop, ↓w_gi, ↓w_gl, ↓w_gz, ↓w_gr1, ↓w_gr2, ↓w_gr3, ↓w_gr4, ↓w_gr5, ↓w_gr6, ↓w_gr7, ↓w_gr8, ↓w_gr9, ↓w_gr10, ↓w_gr11, ↓w_gr12, ↓w_gr17, ↓w_gr35, ↓w_gr177, ↓w_pi, ↓w_pl, ↓w_pz, ↓w_iaload, ↓w_baload, ↓w_aaload, ↓w_iastore, ↓w_bastore, ↓w_arraylength, ↓w_goto, ↓w_if_eq, ↓w_if_ne, ↓w_if_lt, ↓w_if_ge, ↓w_if_gt, ↓w_if_le, ↓w_ic_eq, ↓w_ic_ne, ↓w_ic_lt, ↓w_ic_ge, ↓w_ic_gt, ↓w_ic_le, ↓w_ireturn0, ↓w_ireturn1, ↓w_lreturn, ↓w_return_, Nat.add_assoc, Nat.reduceAdd, pi_o, pi_ss, pi_so, pi_2, pr_o, pr_s, pr_2, pl_1, pl_s, pl_o]
    refine ⟨(by first | trivial | decide | exact bI_01 _), ?_⟩
    refine hQ _ _ ?_
    rw [itR, z4]
    exact ⟨rfl, c1.1, d1⟩

set_option maxHeartbeats 400000 in
theorem u_X9_readArmy {σ s : St} {lt : Nat → Int32} {len : Nat} (hlt : σ.1 34 = lt) (hlen : σ.1 17 0 = nI len) (h200 : len ≤ 200) (hch : ∀ i, i < len → 0 ≤ lt i) {T : TD} {p : Nat} (hT : CT σ T p s) (hpl : p ≤ len) (hok : okT T) (h6 : T.2.2.1 < 6) : RetPi m_X9_readArmy (s) [.ref 17] (PO σ (itA lt len T p)) := by
  refine RetPi.introQ 1 (L := [.ref 17, .null, .null]) (by decide +kernel) rfl rfl rfl (fun Q hQ => ?_)
  have x0 := tkX_le (lt := lt) (len := len) (p := p) (by omega)
  have x1 := tkX_le (lt := lt) (len := len) (p := (tkX lt len p)) (by omega)
  have x2 := tkX_le (lt := lt) (len := len) (p := (tkX lt len (tkX lt len p))) (by omega)
  refine P_blk b_X9_readArmy_0 ?_
  simp (disch := omega) only [↓w_nil, ↓w_iconst, ↓w_bipush, ↓w_sipush, ↓w_ldc, ↓w_ldc_w, ↓w_lconst, ↓w_ldc2_w, ↓w_il0, ↓w_al0, ↓w_is0, ↓w_ii0, ↓w_il1, ↓w_al1, ↓w_is1, ↓w_ii1, ↓w_il2, ↓w_al2, ↓w_is2, ↓w_ii2, ↓w_il3, ↓w_al3, ↓w_is3, ↓w_ii3, ↓w_il4, ↓w_al4, ↓w_is4, ↓w_ii4, ↓w_il5, ↓w_al5, ↓w_is5, ↓w_ii5, ↓w_il6, ↓w_is6, ↓w_ii6, ↓w_il7, ↓w_is7, ↓w_ii7, ↓w_il8, ↓w_is8, ↓w_ii8, ↓w_il9, ↓w_is9, ↓w_ii9, ↓w_il10, ↓w_is10, ↓w_ii10, ↓w_il11, ↓w_is11, ↓w_ii11, ↓w_iadd, ↓w_isub, ↓w_imul, ↓w_iand, ↓w_ior, ↓w_ishl, ↓w_ishr, ↓w_iushr, ↓w_idiv, ↓w_irem, ↓w_ineg, ↓w_ladd, ↓w_dup, ↓w_dup2, ↓w_pop, ↓w_gi, ↓w_gl, ↓w_gz, ↓w_gr1, ↓w_gr2, ↓w_gr3, ↓w_gr4, ↓w_gr5, ↓w_gr6, ↓w_gr7, ↓w_gr8, ↓w_gr9, ↓w_gr10, ↓w_gr11, ↓w_gr12, ↓w_gr17, ↓w_gr35, ↓w_gr177, ↓w_pi, ↓w_pl, ↓w_pz, ↓w_iaload, ↓w_baload, ↓w_aaload, ↓w_iastore, ↓w_bastore, ↓w_arraylength, ↓w_goto, ↓w_if_eq, ↓w_if_ne, ↓w_if_lt, ↓w_if_ge, ↓w_if_gt, ↓w_if_le, ↓w_ic_eq, ↓w_ic_ne, ↓w_ic_lt, ↓w_ic_ge, ↓w_ic_gt, ↓w_ic_le, ↓w_ireturn0, ↓w_ireturn1, ↓w_lreturn, ↓w_return_, Nat.add_assoc, Nat.reduceAdd, pi_o, pi_ss, pi_so, pi_2, pr_o, pr_s, pr_2, pl_1, pl_s, pl_o]
  refine P_V2iP k_X9_readArmy_3 (by first | assumption | exact rfl) (u_X9_readNumber hlt hlen h200 hch (p := p) hT hpl) rfl rfl ?_
  intro r1 s1 ⟨c1, d1, e1, f1⟩
  refine P_blk b_X9_readArmy_6 ?_
  simp (disch := omega) only [↓w_nil, ↓w_iconst, ↓w_bipush, ↓w_sipush, ↓w_ldc, ↓w_ldc_w, ↓w_lconst, ↓w_ldc2_w, ↓w_il0, ↓w_al0, ↓w_is0, ↓w_ii0, ↓w_il1, ↓w_al1, ↓w_is1, ↓w_ii1, ↓w_il2, ↓w_al2, ↓w_is2, ↓w_ii2, ↓w_il3, ↓w_al3, ↓w_is3, ↓w_ii3, ↓w_il4, ↓w_al4, ↓w_is4, ↓w_ii4, ↓w_il5, ↓w_al5, ↓w_is5, ↓w_ii5, ↓w_il6, ↓w_is6, ↓w_ii6, ↓w_il7, ↓w_is7, ↓w_ii7, ↓w_il8, ↓w_is8, ↓w_ii8, ↓w_il9, ↓w_is9, ↓w_ii9, ↓w_il10, ↓w_is10, ↓w_ii10, ↓w_il11, ↓w_is11, ↓w_ii11, ↓w_iadd, ↓w_isub, ↓w_imul, ↓w_iand, ↓w_ior, ↓w_ishl, ↓w_ishr, ↓w_iushr, ↓w_idiv, ↓w_irem, ↓w_ineg, ↓w_ladd, ↓w_dup, ↓w_dup2, ↓w_pop, ↓w_gi, ↓w_gl, ↓w_gz, ↓w_gr1, ↓w_gr2, ↓w_gr3, ↓w_gr4, ↓w_gr5, ↓w_gr6, ↓w_gr7, ↓w_gr8, ↓w_gr9, ↓w_gr10, ↓w_gr11, ↓w_gr12, ↓w_gr17, ↓w_gr35, ↓w_gr177, ↓w_pi, ↓w_pl, ↓w_pz, ↓w_iaload, ↓w_baload, ↓w_aaload, ↓w_iastore, ↓w_bastore, ↓w_arraylength, ↓w_goto, ↓w_if_eq, ↓w_if_ne, ↓w_if_lt, ↓w_if_ge, ↓w_if_gt, ↓w_if_le, ↓w_ic_eq, ↓w_ic_ne, ↓w_ic_lt, ↓w_ic_ge, ↓w_ic_gt, ↓w_ic_le, ↓w_ireturn0, ↓w_ireturn1, ↓w_lreturn, ↓w_return_, Nat.add_assoc, Nat.reduceAdd, pi_o, pi_ss, pi_so, pi_2, pr_o, pr_s, pr_2, pl_1, pl_s, pl_o]
  refine ⟨fun z6 => ?_, fun z6 => ?_⟩
  · rw [e1, bI_n0] at z6
    have g1 := f1 z6
    refine P_blk b_X9_readArmy_11 ?_
    simp (disch := omega) only [↓w_nil, ↓w_iconst, ↓w_bipush, ↓w_sipush, ↓w_ldc, ↓w_ldc_w, ↓w_lconst, ↓w_ldc2_w, ↓w_il0, ↓w_al0, ↓w_is0, ↓w_ii0, ↓w_il1, ↓w_al1, ↓w_is1, ↓w_ii1, ↓w_il2, ↓w_al2, ↓w_is2, ↓w_ii2, ↓w_il3, ↓w_al3, ↓w_is3, ↓w_ii3, ↓w_il4, ↓w_al4, ↓w_is4, ↓w_ii4, ↓w_il5, ↓w_al5, ↓w_is5, ↓w_ii5, ↓w_il6, ↓w_is6, ↓w_ii6, ↓w_il7, ↓w_is7, ↓w_ii7, ↓w_il8, ↓w_is8, ↓w_ii8, ↓w_il9, ↓w_is9, ↓w_ii9, ↓w_il10, ↓w_is10, ↓w_ii10, ↓w_il11, ↓w_is11, ↓w_ii11, ↓w_iadd, ↓w_isub, ↓w_imul, ↓w_iand, ↓w_ior, ↓w_ishl, ↓w_ishr, ↓w_iushr, ↓w_idiv, ↓w_irem, ↓w_ineg, ↓w_ladd, ↓w_dup, ↓w_dup2, ↓w_pop, ↓w_gi, ↓w_gl, ↓w_gz, ↓w_gr1, ↓w_gr2, ↓w_gr3, ↓w_gr4, ↓w_gr5, ↓w_gr6, ↓w_gr7, ↓w_gr8, ↓w_gr9, ↓w_gr10, ↓w_gr11, ↓w_gr12, ↓w_gr17, ↓w_gr35, ↓w_gr177, ↓w_pi, ↓w_pl, ↓w_pz, ↓w_iaload, ↓w_baload, ↓w_aaload, ↓w_iastore, ↓w_bastore, ↓w_arraylength, ↓w_goto, ↓w_if_eq, ↓w_if_ne, ↓w_if_lt, ↓w_if_ge, ↓w_if_gt, ↓w_if_le, ↓w_ic_eq, ↓w_ic_ne, ↓w_ic_lt, ↓w_ic_ge, ↓w_ic_gt, ↓w_ic_le, ↓w_ireturn0, ↓w_ireturn1, ↓w_lreturn, ↓w_return_, Nat.add_assoc, Nat.reduceAdd, pi_o, pi_ss, pi_so, pi_2, pr_o, pr_s, pr_2, pl_1, pl_s, pl_o, g1]
    refine ⟨(by first | assumption | exact rfl), ?_⟩
    refine P_V0iP k_X9_readArmy_17 (by first | assumption | exact rfl) (u_X9_readField hlt hlen h200 hch (p := (tkX lt len p)) c1 (by omega) hok) rfl rfl ?_
    intro r2 s2 ⟨c2, d2, e2, f2⟩
    refine P_blk b_X9_readArmy_20 ?_
    simp (disch := omega) only [↓w_nil, ↓w_iconst, ↓w_bipush, ↓w_sipush, ↓w_ldc, ↓w_ldc_w, ↓w_lconst, ↓w_ldc2_w, ↓w_il0, ↓w_al0, ↓w_is0, ↓w_ii0, ↓w_il1, ↓w_al1, ↓w_is1, ↓w_ii1, ↓w_il2, ↓w_al2, ↓w_is2, ↓w_ii2, ↓w_il3, ↓w_al3, ↓w_is3, ↓w_ii3, ↓w_il4, ↓w_al4, ↓w_is4, ↓w_ii4, ↓w_il5, ↓w_al5, ↓w_is5, ↓w_ii5, ↓w_il6, ↓w_is6, ↓w_ii6, ↓w_il7, ↓w_is7, ↓w_ii7, ↓w_il8, ↓w_is8, ↓w_ii8, ↓w_il9, ↓w_is9, ↓w_ii9, ↓w_il10, ↓w_is10, ↓w_ii10, ↓w_il11, ↓w_is11, ↓w_ii11, ↓w_iadd, ↓w_isub, ↓w_imul, ↓w_iand, ↓w_ior, ↓w_ishl, ↓w_ishr, ↓w_iushr, ↓w_idiv, ↓w_irem, ↓w_ineg, ↓w_ladd, ↓w_dup, ↓w_dup2, ↓w_pop, ↓w_gi, ↓w_gl, ↓w_gz, ↓w_gr1, ↓w_gr2, ↓w_gr3, ↓w_gr4, ↓w_gr5, ↓w_gr6, ↓w_gr7, ↓w_gr8, ↓w_gr9, ↓w_gr10, ↓w_gr11, ↓w_gr12, ↓w_gr17, ↓w_gr35, ↓w_gr177, ↓w_pi, ↓w_pl, ↓w_pz, ↓w_iaload, ↓w_baload, ↓w_aaload, ↓w_iastore, ↓w_bastore, ↓w_arraylength, ↓w_goto, ↓w_if_eq, ↓w_if_ne, ↓w_if_lt, ↓w_if_ge, ↓w_if_gt, ↓w_if_le, ↓w_ic_eq, ↓w_ic_ne, ↓w_ic_lt, ↓w_ic_ge, ↓w_ic_gt, ↓w_ic_le, ↓w_ireturn0, ↓w_ireturn1, ↓w_lreturn, ↓w_return_, Nat.add_assoc, Nat.reduceAdd, pi_o, pi_ss, pi_so, pi_2, pr_o, pr_s, pr_2, pl_1, pl_s, pl_o, g1]
    refine ⟨fun z20 => ?_, fun z20 => ?_⟩
    · rw [e2, bI_n0] at z20
      have g2 := f2 z20
      refine P_blk b_X9_readArmy_25 ?_
      simp (disch := omega) only [↓w_nil, ↓w_iconst, ↓w_bipush, ↓w_sipush, ↓w_ldc, ↓w_ldc_w, ↓w_lconst, ↓w_ldc2_w, ↓w_il0, ↓w_al0, ↓w_is0, ↓w_ii0, ↓w_il1, ↓w_al1, ↓w_is1, ↓w_ii1, ↓w_il2, ↓w_al2, ↓w_is2, ↓w_ii2, ↓w_il3, ↓w_al3, ↓w_is3, ↓w_ii3, ↓w_il4, ↓w_al4, ↓w_is4, ↓w_ii4, ↓w_il5, ↓w_al5, ↓w_is5, ↓w_ii5, ↓w_il6, ↓w_is6, ↓w_ii6, ↓w_il7, ↓w_is7, ↓w_ii7, ↓w_il8, ↓w_is8, ↓w_ii8, ↓w_il9, ↓w_is9, ↓w_ii9, ↓w_il10, ↓w_is10, ↓w_ii10, ↓w_il11, ↓w_is11, ↓w_ii11, ↓w_iadd, ↓w_isub, ↓w_imul, ↓w_iand, ↓w_ior, ↓w_ishl, ↓w_ishr, ↓w_iushr, ↓w_idiv, ↓w_irem, ↓w_ineg, ↓w_ladd, ↓w_dup, ↓w_dup2, ↓w_pop, ↓w_gi, ↓w_gl, ↓w_gz, ↓w_gr1, ↓w_gr2, ↓w_gr3, ↓w_gr4, ↓w_gr5, ↓w_gr6, ↓w_gr7, ↓w_gr8, ↓w_gr9, ↓w_gr10, ↓w_gr11, ↓w_gr12, ↓w_gr17, ↓w_gr35, ↓w_gr177, ↓w_pi, ↓w_pl, ↓w_pz, ↓w_iaload, ↓w_baload, ↓w_aaload, ↓w_iastore, ↓w_bastore, ↓w_arraylength, ↓w_goto, ↓w_if_eq, ↓w_if_ne, ↓w_if_lt, ↓w_if_ge, ↓w_if_gt, ↓w_if_le, ↓w_ic_eq, ↓w_ic_ne, ↓w_ic_lt, ↓w_ic_ge, ↓w_ic_gt, ↓w_ic_le, ↓w_ireturn0, ↓w_ireturn1, ↓w_lreturn, ↓w_return_, Nat.add_assoc, Nat.reduceAdd, pi_o, pi_ss, pi_so, pi_2, pr_o, pr_s, pr_2, pl_1, pl_s, pl_o, g1, g2]
      refine ⟨(by first | assumption | exact rfl), ?_⟩
      refine P_V2iP k_X9_readArmy_34 (by first | assumption | exact rfl) (u_X9_readNumber hlt hlen h200 hch (p := (tkX lt len (tkX lt len p))) c2 (by omega)) rfl rfl ?_
      intro r3 s3 ⟨c3, d3, e3, f3⟩
      refine P_blk b_X9_readArmy_37 ?_
      simp (disch := omega) only [↓w_nil, ↓w_iconst, ↓w_bipush, ↓w_sipush, ↓w_ldc, ↓w_ldc_w, ↓w_lconst, ↓w_ldc2_w, ↓w_il0, ↓w_al0, ↓w_is0, ↓w_ii0, ↓w_il1, ↓w_al1, ↓w_is1, ↓w_ii1, ↓w_il2, ↓w_al2, ↓w_is2, ↓w_ii2, ↓w_il3, ↓w_al3, ↓w_is3, ↓w_ii3, ↓w_il4, ↓w_al4, ↓w_is4, ↓w_ii4, ↓w_il5, ↓w_al5, ↓w_is5, ↓w_ii5, ↓w_il6, ↓w_is6, ↓w_ii6, ↓w_il7, ↓w_is7, ↓w_ii7, ↓w_il8, ↓w_is8, ↓w_ii8, ↓w_il9, ↓w_is9, ↓w_ii9, ↓w_il10, ↓w_is10, ↓w_ii10, ↓w_il11, ↓w_is11, ↓w_ii11, ↓w_iadd, ↓w_isub, ↓w_imul, ↓w_iand, ↓w_ior, ↓w_ishl, ↓w_ishr, ↓w_iushr, ↓w_idiv, ↓w_irem, ↓w_ineg, ↓w_ladd, ↓w_dup, ↓w_dup2, ↓w_pop, ↓w_gi, ↓w_gl, ↓w_gz, ↓w_gr1, ↓w_gr2, ↓w_gr3, ↓w_gr4, ↓w_gr5, ↓w_gr6, ↓w_gr7, ↓w_gr8, ↓w_gr9, ↓w_gr10, ↓w_gr11, ↓w_gr12, ↓w_gr17, ↓w_gr35, ↓w_gr177, ↓w_pi, ↓w_pl, ↓w_pz, ↓w_iaload, ↓w_baload, ↓w_aaload, ↓w_iastore, ↓w_bastore, ↓w_arraylength, ↓w_goto, ↓w_if_eq, ↓w_if_ne, ↓w_if_lt, ↓w_if_ge, ↓w_if_gt, ↓w_if_le, ↓w_ic_eq, ↓w_ic_ne, ↓w_ic_lt, ↓w_ic_ge, ↓w_ic_gt, ↓w_ic_le, ↓w_ireturn0, ↓w_ireturn1, ↓w_lreturn, ↓w_return_, Nat.add_assoc, Nat.reduceAdd, pi_o, pi_ss, pi_so, pi_2, pr_o, pr_s, pr_2, pl_1, pl_s, pl_o, g1, g2]
      refine ⟨fun z37 => ?_, fun z37 => ?_⟩
      · rw [e3, bI_n0] at z37
        have g3 := f3 z37
        refine P_blk b_X9_readArmy_42 ?_
        simp (disch := omega) only [↓w_nil, ↓w_iconst, ↓w_bipush, ↓w_sipush, ↓w_ldc, ↓w_ldc_w, ↓w_lconst, ↓w_ldc2_w, ↓w_il0, ↓w_al0, ↓w_is0, ↓w_ii0, ↓w_il1, ↓w_al1, ↓w_is1, ↓w_ii1, ↓w_il2, ↓w_al2, ↓w_is2, ↓w_ii2, ↓w_il3, ↓w_al3, ↓w_is3, ↓w_ii3, ↓w_il4, ↓w_al4, ↓w_is4, ↓w_ii4, ↓w_il5, ↓w_al5, ↓w_is5, ↓w_ii5, ↓w_il6, ↓w_is6, ↓w_ii6, ↓w_il7, ↓w_is7, ↓w_ii7, ↓w_il8, ↓w_is8, ↓w_ii8, ↓w_il9, ↓w_is9, ↓w_ii9, ↓w_il10, ↓w_is10, ↓w_ii10, ↓w_il11, ↓w_is11, ↓w_ii11, ↓w_iadd, ↓w_isub, ↓w_imul, ↓w_iand, ↓w_ior, ↓w_ishl, ↓w_ishr, ↓w_iushr, ↓w_idiv, ↓w_irem, ↓w_ineg, ↓w_ladd, ↓w_dup, ↓w_dup2, ↓w_pop, ↓w_gi, ↓w_gl, ↓w_gz, ↓w_gr1, ↓w_gr2, ↓w_gr3, ↓w_gr4, ↓w_gr5, ↓w_gr6, ↓w_gr7, ↓w_gr8, ↓w_gr9, ↓w_gr10, ↓w_gr11, ↓w_gr12, ↓w_gr17, ↓w_gr35, ↓w_gr177, ↓w_pi, ↓w_pl, ↓w_pz, ↓w_iaload, ↓w_baload, ↓w_aaload, ↓w_iastore, ↓w_bastore, ↓w_arraylength, ↓w_goto, ↓w_if_eq, ↓w_if_ne, ↓w_if_lt, ↓w_if_ge, ↓w_if_gt, ↓w_if_le, ↓w_ic_eq, ↓w_ic_ne, ↓w_ic_lt, ↓w_ic_ge, ↓w_ic_gt, ↓w_ic_le, ↓w_ireturn0, ↓w_ireturn1, ↓w_lreturn, ↓w_return_, Nat.add_assoc, Nat.reduceAdd, pi_o, pi_ss, pi_so, pi_2, pr_o, pr_s, pr_2, pl_1, pl_s, pl_o, g1, g2, g3]
        refine ⟨(by first | assumption | exact rfl), (by first | assumption | exact rfl), (by first | assumption | exact rfl), ?_⟩
        refine P_V3v k_X9_readArmy_55 (by first | assumption | exact rfl) (t_X1_add isAr22 c3.2.2.2.2.1 h6) rfl rfl ?_
        refine P_blk b_X9_readArmy_58 ?_
        simp (disch := omega) only [↓w_nil, ↓w_iconst, ↓w_bipush, ↓w_sipush, ↓w_ldc, ↓w_ldc_w, ↓w_lconst, ↓w_ldc2_w, ↓w_il0, ↓w_al0, ↓w_is0, ↓w_ii0, ↓w_il1, ↓w_al1, ↓w_is1, ↓w_ii1, ↓w_il2, ↓w_al2, ↓w_is2, ↓w_ii2, ↓w_il3, ↓w_al3, ↓w_is3, ↓w_ii3, ↓w_il4, ↓w_al4, ↓w_is4, ↓w_ii4, ↓w_il5, ↓w_al5, ↓w_is5, ↓w_ii5, ↓w_il6, ↓w_is6, ↓w_ii6, ↓w_il7, ↓w_is7, ↓w_ii7, ↓w_il8, ↓w_is8, ↓w_ii8, ↓w_il9, ↓w_is9, ↓w_ii9, ↓w_il10, ↓w_is10, ↓w_ii10, ↓w_il11, ↓w_is11, ↓w_ii11, ↓w_iadd, ↓w_isub, ↓w_imul, ↓w_iand, ↓w_ior, ↓w_ishl, ↓w_ishr, ↓w_iushr, ↓w_idiv, ↓w_irem, ↓w_ineg, ↓w_ladd, ↓w_dup, ↓w_dup2, ↓w_pop, ↓w_gi, ↓w_gl, ↓w_gz, ↓w_gr1, ↓w_gr2, ↓w_gr3, ↓w_gr4, ↓w_gr5, ↓w_gr6, ↓w_gr7, ↓w_gr8, ↓w_gr9, ↓w_gr10, ↓w_gr11, ↓w_gr12, ↓w_gr17, ↓w_gr35, ↓w_gr177, ↓w_pi, ↓w_pl, ↓w_pz, ↓w_iaload, ↓w_baload, ↓w_aaload, ↓w_iastore, ↓w_bastore, ↓w_arraylength, ↓w_goto, ↓w_if_eq, ↓w_if_ne, ↓w_if_lt, ↓w_if_ge, ↓w_if_gt, ↓w_if_le, ↓w_ic_eq, ↓w_ic_ne, ↓w_ic_lt, ↓w_ic_ge, ↓w_ic_gt, ↓w_ic_le, ↓w_ireturn0, ↓w_ireturn1, ↓w_lreturn, ↓w_return_, Nat.add_assoc, Nat.reduceAdd, pi_o, pi_ss, pi_so, pi_2, pr_o, pr_s, pr_2, pl_1, pl_s, pl_o, g1, g2, g3]
        refine P_V0iP k_X9_readArmy_59 (by first | assumption | exact rfl) (u_X9_readItemEnd hlt hlen h200 hch (p := (tkX lt len (tkX lt len (tkX lt len p)))) c3.ar (by omega)) rfl rfl ?_
        intro rE sE ⟨cE, dE, eE⟩
        refine P_blk b_X9_readArmy_62 ?_
        simp (disch := omega) only [↓w_nil, ↓w_iconst, ↓w_bipush, ↓w_sipush, ↓w_ldc, ↓w_ldc_w, ↓w_lconst, ↓w_ldc2_w, ↓w_il0, ↓w_al0, ↓w_is0, ↓w_ii0, ↓w_il1, ↓w_al1, ↓w_is1, ↓w_ii1, ↓w_il2, ↓w_al2, ↓w_is2, ↓w_ii2, ↓w_il3, ↓w_al3, ↓w_is3, ↓w_ii3, ↓w_il4, ↓w_al4, ↓w_is4, ↓w_ii4, ↓w_il5, ↓w_al5, ↓w_is5, ↓w_ii5, ↓w_il6, ↓w_is6, ↓w_ii6, ↓w_il7, ↓w_is7, ↓w_ii7, ↓w_il8, ↓w_is8, ↓w_ii8, ↓w_il9, ↓w_is9, ↓w_ii9, ↓w_il10, ↓w_is10, ↓w_ii10, ↓w_il11, ↓w_is11, ↓w_ii11, ↓w_iadd, ↓w_isub, ↓w_imul, ↓w_iand, ↓w_ior, ↓w_ishl, ↓w_ishr, ↓w_iushr, ↓w_idiv, ↓w_irem, ↓w_ineg, ↓w_ladd, ↓w_dup, ↓w_dup2, ↓w_pop, ↓w_gi, ↓w_gl, ↓w_gz, ↓w_gr1, ↓w_gr2, ↓w_gr3, ↓w_gr4, ↓w_gr5, ↓w_gr6, ↓w_gr7, ↓w_gr8, ↓w_gr9, ↓w_gr10, ↓w_gr11, ↓w_gr12, ↓w_gr17, ↓w_gr35, ↓w_gr177, ↓w_pi, ↓w_pl, ↓w_pz, ↓w_iaload, ↓w_baload, ↓w_aaload, ↓w_iastore, ↓w_bastore, ↓w_arraylength, ↓w_goto, ↓w_if_eq, ↓w_if_ne, ↓w_if_lt, ↓w_if_ge, ↓w_if_gt, ↓w_if_le, ↓w_ic_eq, ↓w_ic_ne, ↓w_ic_lt, ↓w_ic_ge, ↓w_ic_gt, ↓w_ic_le, ↓w_ireturn0, ↓w_ireturn1, ↓w_lreturn, ↓w_return_, Nat.add_assoc, Nat.reduceAdd, pi_o, pi_ss, pi_so, pi_2, pr_o, pr_s, pr_2, pl_1, pl_s, pl_o, g1, g2, g3]
        refine ⟨(by rw [eE]; exact bI_01 _), ?_⟩
        refine hQ _ _ ?_
        rw [itA, z6, if_pos rfl, z20, if_pos rfl, z37, if_pos rfl]
        exact enT_PO cE dE eE
      · rw [e3, bI_0] at z37
        refine P_blk b_X9_readArmy_40 ?_
        simp (disch := omega) only [↓w_nil, ↓w_iconst, ↓w_bipush, ↓w_sipush, ↓w_ldc, ↓w_ldc_w, ↓w_lconst, ↓w_ldc2_w, ↓w_il0, ↓w_al0, ↓w_is0, ↓w_ii0, ↓w_il1, ↓w_al1, ↓w_is1, ↓w_ii1, ↓w_il2, ↓w_al2, ↓w_is2, ↓w_ii2, ↓w_il3, ↓w_al3, ↓w_is3, ↓w_ii3, ↓w_il4, ↓w_al4, ↓w_is4, ↓w_ii4, ↓w_il5, ↓w_al5, ↓w_is5, ↓w_ii5, ↓w_il6, ↓w_is6, ↓w_ii6, ↓w_il7, ↓w_is7, ↓w_ii7, ↓w_il8, ↓w_is8, ↓w_ii8, ↓w_il9, ↓w_is9, ↓w_ii9, ↓w_il10, ↓w_is10, ↓w_ii10, ↓w_il11, ↓w_is11, ↓w_ii11, ↓w_iadd, ↓w_isub, ↓w_imul, ↓w_iand, ↓w_ior, ↓w_ishl, ↓w_ishr, ↓w_iushr, ↓w_idiv, ↓w_irem, ↓w_ineg, ↓w_ladd, ↓w_dup, ↓w_dup2, ↓w_pop, ↓w_gi, ↓w_gl, ↓w_gz, ↓w_gr1, ↓w_gr2, ↓w_gr3, ↓w_gr4, ↓w_gr5, ↓w_gr6, ↓w_gr7, ↓w_gr8, ↓w_gr9, ↓w_gr10, ↓w_gr11, ↓w_gr12, ↓w_gr17, ↓w_gr35, ↓w_gr177, ↓w_pi, ↓w_pl, ↓w_pz, ↓w_iaload, ↓w_baload, ↓w_aaload, ↓w_iastore, ↓w_bastore, ↓w_arraylength, ↓w_goto, ↓w_if_eq, ↓w_if_ne, ↓w_if_lt, ↓w_if_ge, ↓w_if_gt, ↓w_if_le, ↓w_ic_eq, ↓w_ic_ne, ↓w_ic_lt, ↓w_ic_ge, ↓w_ic_gt, ↓w_ic_le, ↓w_ireturn0, ↓w_ireturn1, ↓w_lreturn, ↓w_return_, Nat.add_assoc, Nat.reduceAdd, pi_o, pi_ss, pi_so, pi_2, pr_o, pr_s, pr_2, pl_1, pl_s, pl_o, g1, g2]
        refine ⟨(by first | trivial | decide | exact bI_01 _), ?_⟩
        refine hQ _ _ ?_
        rw [itA, z6, z20, z37]
        exact ⟨rfl, c3.1, d3⟩
    · rw [e2, bI_0] at z20
      refine P_blk b_X9_readArmy_23 ?_
      simp (disch := omega) only [↓w_nil, ↓w_iconst, ↓w_bipush, ↓w_sipush, ↓w_ldc, ↓w_ldc_w, ↓w_lconst, ↓w_ldc2_w, ↓w_il0, ↓w_al0, ↓w_is0, ↓w_ii0, ↓w_il1, ↓w_al1, ↓w_is1, ↓w_ii1, ↓w_il2, ↓w_al2, ↓w_is2, ↓w_ii2, ↓w_il3, ↓w_al3, ↓w_is3, ↓w_ii3, ↓w_il4, ↓w_al4, ↓w_is4, ↓w_ii4, ↓w_il5, ↓w_al5, ↓w_is5, ↓w_ii5, ↓w_il6, ↓w_is6, ↓w_ii6, ↓w_il7, ↓w_is7, ↓w_ii7, ↓w_il8, ↓w_is8, ↓w_ii8, ↓w_il9, ↓w_is9, ↓w_ii9, ↓w_il10, ↓w_is10, ↓w_ii10, ↓w_il11, ↓w_is11, ↓w_ii11, ↓w_iadd, ↓w_isub, ↓w_imul, ↓w_iand, ↓w_ior, ↓w_ishl, ↓w_ishr, ↓w_iushr, ↓w_idiv, ↓w_irem, ↓w_ineg, ↓w_ladd, ↓w_dup, ↓w_dup2, ↓w_pop, ↓w_gi, ↓w_gl, ↓w_gz, ↓w_gr1, ↓w_gr2, ↓w_gr3, ↓w_gr4, ↓w_gr5, ↓w_gr6, ↓w_gr7, ↓w_gr8, ↓w_gr9, ↓w_gr10, ↓w_gr11, ↓w_gr12, ↓w_gr17, ↓w_gr35, ↓w_gr177, ↓w_pi, ↓w_pl, ↓w_pz, ↓w_iaload, ↓w_baload, ↓w_aaload, ↓w_iastore, ↓w_bastore, ↓w_arraylength, ↓w_goto, ↓w_if_eq, ↓w_if_ne, ↓w_if_lt, ↓w_if_ge, ↓w_if_gt, ↓w_if_le, ↓w_ic_eq, ↓w_ic_ne, ↓w_ic_lt, ↓w_ic_ge, ↓w_ic_gt, ↓w_ic_le, ↓w_ireturn0, ↓w_ireturn1, ↓w_lreturn, ↓w_return_, Nat.add_assoc, Nat.reduceAdd, pi_o, pi_ss, pi_so, pi_2, pr_o, pr_s, pr_2, pl_1, pl_s, pl_o, g1]
      refine ⟨(by first | trivial | decide | exact bI_01 _), ?_⟩
      refine hQ _ _ ?_
      rw [itA, z6, z20]
      exact ⟨rfl, c2.1, d2⟩
  · rw [e1, bI_0] at z6
    refine P_blk b_X9_readArmy_9 ?_
    simp (disch := omega) only [↓w_nil, ↓w_iconst, ↓w_bipush, ↓w_sipush, ↓w_ldc, ↓w_ldc_w, ↓w_lconst, ↓w_ldc2_w, ↓w_il0, ↓w_al0, ↓w_is0, ↓w_ii0, ↓w_il1, ↓w_al1, ↓w_is1, ↓w_ii1, ↓w_il2, ↓w_al2, ↓w_is2, ↓w_ii2, ↓w_il3, ↓w_al3, ↓w_is3, ↓w_ii3, ↓w_il4, ↓w_al4, ↓w_is4, ↓w_ii4, ↓w_il5, ↓w_al5, ↓w_is5, ↓w_ii5, ↓w_il6, ↓w_is6, ↓w_ii6, ↓w_il7, ↓w_is7, ↓w_ii7, ↓w_il8, ↓w_is8, ↓w_ii8, ↓w_il9, ↓w_is9, ↓w_ii9, ↓w_il10, ↓w_is10, ↓w_ii10, ↓w_il11, ↓w_is11, ↓w_ii11, ↓w_iadd, ↓w_isub, ↓w_imul, ↓w_iand, ↓w_ior, ↓w_ishl, ↓w_ishr, ↓w_iushr, ↓w_idiv, ↓w_irem, ↓w_ineg, ↓w_ladd, ↓w_dup, ↓w_dup2, ↓w_pop, ↓w_gi, ↓w_gl, ↓w_gz, ↓w_gr1, ↓w_gr2, ↓w_gr3, ↓w_gr4, ↓w_gr5, ↓w_gr6, ↓w_gr7, ↓w_gr8, ↓w_gr9, ↓w_gr10, ↓w_gr11, ↓w_gr12, ↓w_gr17, ↓w_gr35, ↓w_gr177, ↓w_pi, ↓w_pl, ↓w_pz, ↓w_iaload, ↓w_baload, ↓w_aaload, ↓w_iastore, ↓w_bastore, ↓w_arraylength, ↓w_goto, ↓w_if_eq, ↓w_if_ne, ↓w_if_lt, ↓w_if_ge, ↓w_if_gt, ↓w_if_le, ↓w_ic_eq, ↓w_ic_ne, ↓w_ic_lt, ↓w_ic_ge, ↓w_ic_gt, ↓w_ic_le, ↓w_ireturn0, ↓w_ireturn1, ↓w_lreturn, ↓w_return_, Nat.add_assoc, Nat.reduceAdd, pi_o, pi_ss, pi_so, pi_2, pr_o, pr_s, pr_2, pl_1, pl_s, pl_o]
    refine ⟨(by first | trivial | decide | exact bI_01 _), ?_⟩
    refine hQ _ _ ?_
    rw [itA, z6]
    exact ⟨rfl, c1.1, d1⟩

set_option maxHeartbeats 400000 in
theorem u_X9_readPage {σ s : St} {lt : Nat → Int32} {len : Nat} (hlt : σ.1 34 = lt) (hlen : σ.1 17 0 = nI len) (h200 : len ≤ 200) (hch : ∀ i, i < len → 0 ≤ lt i) {T : TD} {p : Nat} (hT : CT σ T p s) (hpl : p ≤ len) (hok : okT T) (h6 : T.2.2.2.2.1 < 6) : RetPi m_X9_readPage (s) [.ref 17] (PO σ (itP lt len T p)) := by
  refine RetPi.introQ 1 (L := [.ref 17, .null, .null, .null]) (by decide +kernel) rfl rfl rfl (fun Q hQ => ?_)
  have x0 := tkX_le (lt := lt) (len := len) (p := p) (by omega)
  have x1 := tkX_le (lt := lt) (len := len) (p := (tkX lt len p)) (by omega)
  have x2 := tkX_le (lt := lt) (len := len) (p := (tkX lt len (tkX lt len p))) (by omega)
  have x3 := tkX_le (lt := lt) (len := len) (p := (tkX lt len (tkX lt len (tkX lt len p)))) (by omega)
  refine P_blk b_X9_readPage_0 ?_
  simp (disch := omega) only [↓w_nil, ↓w_iconst, ↓w_bipush, ↓w_sipush, ↓w_ldc, ↓w_ldc_w, ↓w_lconst, ↓w_ldc2_w, ↓w_il0, ↓w_al0, ↓w_is0, ↓w_ii0, ↓w_il1, ↓w_al1, ↓w_is1, ↓w_ii1, ↓w_il2, ↓w_al2, ↓w_is2, ↓w_ii2, ↓w_il3, ↓w_al3, ↓w_is3, ↓w_ii3, ↓w_il4, ↓w_al4, ↓w_is4, ↓w_ii4, ↓w_il5, ↓w_al5, ↓w_is5, ↓w_ii5, ↓w_il6, ↓w_is6, ↓w_ii6, ↓w_il7, ↓w_is7, ↓w_ii7, ↓w_il8, ↓w_is8, ↓w_ii8, ↓w_il9, ↓w_is9, ↓w_ii9, ↓w_il10, ↓w_is10, ↓w_ii10, ↓w_il11, ↓w_is11, ↓w_ii11, ↓w_iadd, ↓w_isub, ↓w_imul, ↓w_iand, ↓w_ior, ↓w_ishl, ↓w_ishr, ↓w_iushr, ↓w_idiv, ↓w_irem, ↓w_ineg, ↓w_ladd, ↓w_dup, ↓w_dup2, ↓w_pop, ↓w_gi, ↓w_gl, ↓w_gz, ↓w_gr1, ↓w_gr2, ↓w_gr3, ↓w_gr4, ↓w_gr5, ↓w_gr6, ↓w_gr7, ↓w_gr8, ↓w_gr9, ↓w_gr10, ↓w_gr11, ↓w_gr12, ↓w_gr17, ↓w_gr35, ↓w_gr177, ↓w_pi, ↓w_pl, ↓w_pz, ↓w_iaload, ↓w_baload, ↓w_aaload, ↓w_iastore, ↓w_bastore, ↓w_arraylength, ↓w_goto, ↓w_if_eq, ↓w_if_ne, ↓w_if_lt, ↓w_if_ge, ↓w_if_gt, ↓w_if_le, ↓w_ic_eq, ↓w_ic_ne, ↓w_ic_lt, ↓w_ic_ge, ↓w_ic_gt, ↓w_ic_le, ↓w_ireturn0, ↓w_ireturn1, ↓w_lreturn, ↓w_return_, Nat.add_assoc, Nat.reduceAdd, pi_o, pi_ss, pi_so, pi_2, pr_o, pr_s, pr_2, pl_1, pl_s, pl_o]
  refine P_V2iP k_X9_readPage_4 (by first | assumption | exact rfl) (u_X9_readNumber hlt hlen h200 hch (p := p) hT hpl) rfl rfl ?_
  intro r1 s1 ⟨c1, d1, e1, f1⟩
  refine P_blk b_X9_readPage_7 ?_
  simp (disch := omega) only [↓w_nil, ↓w_iconst, ↓w_bipush, ↓w_sipush, ↓w_ldc, ↓w_ldc_w, ↓w_lconst, ↓w_ldc2_w, ↓w_il0, ↓w_al0, ↓w_is0, ↓w_ii0, ↓w_il1, ↓w_al1, ↓w_is1, ↓w_ii1, ↓w_il2, ↓w_al2, ↓w_is2, ↓w_ii2, ↓w_il3, ↓w_al3, ↓w_is3, ↓w_ii3, ↓w_il4, ↓w_al4, ↓w_is4, ↓w_ii4, ↓w_il5, ↓w_al5, ↓w_is5, ↓w_ii5, ↓w_il6, ↓w_is6, ↓w_ii6, ↓w_il7, ↓w_is7, ↓w_ii7, ↓w_il8, ↓w_is8, ↓w_ii8, ↓w_il9, ↓w_is9, ↓w_ii9, ↓w_il10, ↓w_is10, ↓w_ii10, ↓w_il11, ↓w_is11, ↓w_ii11, ↓w_iadd, ↓w_isub, ↓w_imul, ↓w_iand, ↓w_ior, ↓w_ishl, ↓w_ishr, ↓w_iushr, ↓w_idiv, ↓w_irem, ↓w_ineg, ↓w_ladd, ↓w_dup, ↓w_dup2, ↓w_pop, ↓w_gi, ↓w_gl, ↓w_gz, ↓w_gr1, ↓w_gr2, ↓w_gr3, ↓w_gr4, ↓w_gr5, ↓w_gr6, ↓w_gr7, ↓w_gr8, ↓w_gr9, ↓w_gr10, ↓w_gr11, ↓w_gr12, ↓w_gr17, ↓w_gr35, ↓w_gr177, ↓w_pi, ↓w_pl, ↓w_pz, ↓w_iaload, ↓w_baload, ↓w_aaload, ↓w_iastore, ↓w_bastore, ↓w_arraylength, ↓w_goto, ↓w_if_eq, ↓w_if_ne, ↓w_if_lt, ↓w_if_ge, ↓w_if_gt, ↓w_if_le, ↓w_ic_eq, ↓w_ic_ne, ↓w_ic_lt, ↓w_ic_ge, ↓w_ic_gt, ↓w_ic_le, ↓w_ireturn0, ↓w_ireturn1, ↓w_lreturn, ↓w_return_, Nat.add_assoc, Nat.reduceAdd, pi_o, pi_ss, pi_so, pi_2, pr_o, pr_s, pr_2, pl_1, pl_s, pl_o]
  refine ⟨fun z7 => ?_, fun z7 => ?_⟩
  · rw [e1, bI_n0] at z7
    have g1 := f1 z7
    refine P_blk b_X9_readPage_12 ?_
    simp (disch := omega) only [↓w_nil, ↓w_iconst, ↓w_bipush, ↓w_sipush, ↓w_ldc, ↓w_ldc_w, ↓w_lconst, ↓w_ldc2_w, ↓w_il0, ↓w_al0, ↓w_is0, ↓w_ii0, ↓w_il1, ↓w_al1, ↓w_is1, ↓w_ii1, ↓w_il2, ↓w_al2, ↓w_is2, ↓w_ii2, ↓w_il3, ↓w_al3, ↓w_is3, ↓w_ii3, ↓w_il4, ↓w_al4, ↓w_is4, ↓w_ii4, ↓w_il5, ↓w_al5, ↓w_is5, ↓w_ii5, ↓w_il6, ↓w_is6, ↓w_ii6, ↓w_il7, ↓w_is7, ↓w_ii7, ↓w_il8, ↓w_is8, ↓w_ii8, ↓w_il9, ↓w_is9, ↓w_ii9, ↓w_il10, ↓w_is10, ↓w_ii10, ↓w_il11, ↓w_is11, ↓w_ii11, ↓w_iadd, ↓w_isub, ↓w_imul, ↓w_iand, ↓w_ior, ↓w_ishl, ↓w_ishr, ↓w_iushr, ↓w_idiv, ↓w_irem, ↓w_ineg, ↓w_ladd, ↓w_dup, ↓w_dup2, ↓w_pop, ↓w_gi, ↓w_gl, ↓w_gz, ↓w_gr1, ↓w_gr2, ↓w_gr3, ↓w_gr4, ↓w_gr5, ↓w_gr6, ↓w_gr7, ↓w_gr8, ↓w_gr9, ↓w_gr10, ↓w_gr11, ↓w_gr12, ↓w_gr17, ↓w_gr35, ↓w_gr177, ↓w_pi, ↓w_pl, ↓w_pz, ↓w_iaload, ↓w_baload, ↓w_aaload, ↓w_iastore, ↓w_bastore, ↓w_arraylength, ↓w_goto, ↓w_if_eq, ↓w_if_ne, ↓w_if_lt, ↓w_if_ge, ↓w_if_gt, ↓w_if_le, ↓w_ic_eq, ↓w_ic_ne, ↓w_ic_lt, ↓w_ic_ge, ↓w_ic_gt, ↓w_ic_le, ↓w_ireturn0, ↓w_ireturn1, ↓w_lreturn, ↓w_return_, Nat.add_assoc, Nat.reduceAdd, pi_o, pi_ss, pi_so, pi_2, pr_o, pr_s, pr_2, pl_1, pl_s, pl_o, g1]
    refine ⟨(by first | assumption | exact rfl), ?_⟩
    refine P_V2iP k_X9_readPage_20 (by first | assumption | exact rfl) (u_X9_readNumber hlt hlen h200 hch (p := (tkX lt len p)) c1 (by omega)) rfl rfl ?_
    intro r2 s2 ⟨c2, d2, e2, f2⟩
    refine P_blk b_X9_readPage_23 ?_
    simp (disch := omega) only [↓w_nil, ↓w_iconst, ↓w_bipush, ↓w_sipush, ↓w_ldc, ↓w_ldc_w, ↓w_lconst, ↓w_ldc2_w, ↓w_il0, ↓w_al0, ↓w_is0, ↓w_ii0, ↓w_il1, ↓w_al1, ↓w_is1, ↓w_ii1, ↓w_il2, ↓w_al2, ↓w_is2, ↓w_ii2, ↓w_il3, ↓w_al3, ↓w_is3, ↓w_ii3, ↓w_il4, ↓w_al4, ↓w_is4, ↓w_ii4, ↓w_il5, ↓w_al5, ↓w_is5, ↓w_ii5, ↓w_il6, ↓w_is6, ↓w_ii6, ↓w_il7, ↓w_is7, ↓w_ii7, ↓w_il8, ↓w_is8, ↓w_ii8, ↓w_il9, ↓w_is9, ↓w_ii9, ↓w_il10, ↓w_is10, ↓w_ii10, ↓w_il11, ↓w_is11, ↓w_ii11, ↓w_iadd, ↓w_isub, ↓w_imul, ↓w_iand, ↓w_ior, ↓w_ishl, ↓w_ishr, ↓w_iushr, ↓w_idiv, ↓w_irem, ↓w_ineg, ↓w_ladd, ↓w_dup, ↓w_dup2, ↓w_pop, ↓w_gi, ↓w_gl, ↓w_gz, ↓w_gr1, ↓w_gr2, ↓w_gr3, ↓w_gr4, ↓w_gr5, ↓w_gr6, ↓w_gr7, ↓w_gr8, ↓w_gr9, ↓w_gr10, ↓w_gr11, ↓w_gr12, ↓w_gr17, ↓w_gr35, ↓w_gr177, ↓w_pi, ↓w_pl, ↓w_pz, ↓w_iaload, ↓w_baload, ↓w_aaload, ↓w_iastore, ↓w_bastore, ↓w_arraylength, ↓w_goto, ↓w_if_eq, ↓w_if_ne, ↓w_if_lt, ↓w_if_ge, ↓w_if_gt, ↓w_if_le, ↓w_ic_eq, ↓w_ic_ne, ↓w_ic_lt, ↓w_ic_ge, ↓w_ic_gt, ↓w_ic_le, ↓w_ireturn0, ↓w_ireturn1, ↓w_lreturn, ↓w_return_, Nat.add_assoc, Nat.reduceAdd, pi_o, pi_ss, pi_so, pi_2, pr_o, pr_s, pr_2, pl_1, pl_s, pl_o, g1]
    refine ⟨fun z23 => ?_, fun z23 => ?_⟩
    · rw [e2, bI_n0] at z23
      have g2 := f2 z23
      refine P_blk b_X9_readPage_28 ?_
      simp (disch := omega) only [↓w_nil, ↓w_iconst, ↓w_bipush, ↓w_sipush, ↓w_ldc, ↓w_ldc_w, ↓w_lconst, ↓w_ldc2_w, ↓w_il0, ↓w_al0, ↓w_is0, ↓w_ii0, ↓w_il1, ↓w_al1, ↓w_is1, ↓w_ii1, ↓w_il2, ↓w_al2, ↓w_is2, ↓w_ii2, ↓w_il3, ↓w_al3, ↓w_is3, ↓w_ii3, ↓w_il4, ↓w_al4, ↓w_is4, ↓w_ii4, ↓w_il5, ↓w_al5, ↓w_is5, ↓w_ii5, ↓w_il6, ↓w_is6, ↓w_ii6, ↓w_il7, ↓w_is7, ↓w_ii7, ↓w_il8, ↓w_is8, ↓w_ii8, ↓w_il9, ↓w_is9, ↓w_ii9, ↓w_il10, ↓w_is10, ↓w_ii10, ↓w_il11, ↓w_is11, ↓w_ii11, ↓w_iadd, ↓w_isub, ↓w_imul, ↓w_iand, ↓w_ior, ↓w_ishl, ↓w_ishr, ↓w_iushr, ↓w_idiv, ↓w_irem, ↓w_ineg, ↓w_ladd, ↓w_dup, ↓w_dup2, ↓w_pop, ↓w_gi, ↓w_gl, ↓w_gz, ↓w_gr1, ↓w_gr2, ↓w_gr3, ↓w_gr4, ↓w_gr5, ↓w_gr6, ↓w_gr7, ↓w_gr8, ↓w_gr9, ↓w_gr10, ↓w_gr11, ↓w_gr12, ↓w_gr17, ↓w_gr35, ↓w_gr177, ↓w_pi, ↓w_pl, ↓w_pz, ↓w_iaload, ↓w_baload, ↓w_aaload, ↓w_iastore, ↓w_bastore, ↓w_arraylength, ↓w_goto, ↓w_if_eq, ↓w_if_ne, ↓w_if_lt, ↓w_if_ge, ↓w_if_gt, ↓w_if_le, ↓w_ic_eq, ↓w_ic_ne, ↓w_ic_lt, ↓w_ic_ge, ↓w_ic_gt, ↓w_ic_le, ↓w_ireturn0, ↓w_ireturn1, ↓w_lreturn, ↓w_return_, Nat.add_assoc, Nat.reduceAdd, pi_o, pi_ss, pi_so, pi_2, pr_o, pr_s, pr_2, pl_1, pl_s, pl_o, g1, g2]
      refine ⟨(by first | assumption | exact rfl), ?_⟩
      refine P_V2iP k_X9_readPage_36 (by first | assumption | exact rfl) (u_X9_readNumber hlt hlen h200 hch (p := (tkX lt len (tkX lt len p))) c2 (by omega)) rfl rfl ?_
      intro r3 s3 ⟨c3, d3, e3, f3⟩
      refine P_blk b_X9_readPage_39 ?_
      simp (disch := omega) only [↓w_nil, ↓w_iconst, ↓w_bipush, ↓w_sipush, ↓w_ldc, ↓w_ldc_w, ↓w_lconst, ↓w_ldc2_w, ↓w_il0, ↓w_al0, ↓w_is0, ↓w_ii0, ↓w_il1, ↓w_al1, ↓w_is1, ↓w_ii1, ↓w_il2, ↓w_al2, ↓w_is2, ↓w_ii2, ↓w_il3, ↓w_al3, ↓w_is3, ↓w_ii3, ↓w_il4, ↓w_al4, ↓w_is4, ↓w_ii4, ↓w_il5, ↓w_al5, ↓w_is5, ↓w_ii5, ↓w_il6, ↓w_is6, ↓w_ii6, ↓w_il7, ↓w_is7, ↓w_ii7, ↓w_il8, ↓w_is8, ↓w_ii8, ↓w_il9, ↓w_is9, ↓w_ii9, ↓w_il10, ↓w_is10, ↓w_ii10, ↓w_il11, ↓w_is11, ↓w_ii11, ↓w_iadd, ↓w_isub, ↓w_imul, ↓w_iand, ↓w_ior, ↓w_ishl, ↓w_ishr, ↓w_iushr, ↓w_idiv, ↓w_irem, ↓w_ineg, ↓w_ladd, ↓w_dup, ↓w_dup2, ↓w_pop, ↓w_gi, ↓w_gl, ↓w_gz, ↓w_gr1, ↓w_gr2, ↓w_gr3, ↓w_gr4, ↓w_gr5, ↓w_gr6, ↓w_gr7, ↓w_gr8, ↓w_gr9, ↓w_gr10, ↓w_gr11, ↓w_gr12, ↓w_gr17, ↓w_gr35, ↓w_gr177, ↓w_pi, ↓w_pl, ↓w_pz, ↓w_iaload, ↓w_baload, ↓w_aaload, ↓w_iastore, ↓w_bastore, ↓w_arraylength, ↓w_goto, ↓w_if_eq, ↓w_if_ne, ↓w_if_lt, ↓w_if_ge, ↓w_if_gt, ↓w_if_le, ↓w_ic_eq, ↓w_ic_ne, ↓w_ic_lt, ↓w_ic_ge, ↓w_ic_gt, ↓w_ic_le, ↓w_ireturn0, ↓w_ireturn1, ↓w_lreturn, ↓w_return_, Nat.add_assoc, Nat.reduceAdd, pi_o, pi_ss, pi_so, pi_2, pr_o, pr_s, pr_2, pl_1, pl_s, pl_o, g1, g2]
      refine ⟨fun z39 => ?_, fun z39 => ?_⟩
      · rw [e3, bI_n0] at z39
        have g3 := f3 z39
        refine P_blk b_X9_readPage_44 ?_
        simp (disch := omega) only [↓w_nil, ↓w_iconst, ↓w_bipush, ↓w_sipush, ↓w_ldc, ↓w_ldc_w, ↓w_lconst, ↓w_ldc2_w, ↓w_il0, ↓w_al0, ↓w_is0, ↓w_ii0, ↓w_il1, ↓w_al1, ↓w_is1, ↓w_ii1, ↓w_il2, ↓w_al2, ↓w_is2, ↓w_ii2, ↓w_il3, ↓w_al3, ↓w_is3, ↓w_ii3, ↓w_il4, ↓w_al4, ↓w_is4, ↓w_ii4, ↓w_il5, ↓w_al5, ↓w_is5, ↓w_ii5, ↓w_il6, ↓w_is6, ↓w_ii6, ↓w_il7, ↓w_is7, ↓w_ii7, ↓w_il8, ↓w_is8, ↓w_ii8, ↓w_il9, ↓w_is9, ↓w_ii9, ↓w_il10, ↓w_is10, ↓w_ii10, ↓w_il11, ↓w_is11, ↓w_ii11, ↓w_iadd, ↓w_isub, ↓w_imul, ↓w_iand, ↓w_ior, ↓w_ishl, ↓w_ishr, ↓w_iushr, ↓w_idiv, ↓w_irem, ↓w_ineg, ↓w_ladd, ↓w_dup, ↓w_dup2, ↓w_pop, ↓w_gi, ↓w_gl, ↓w_gz, ↓w_gr1, ↓w_gr2, ↓w_gr3, ↓w_gr4, ↓w_gr5, ↓w_gr6, ↓w_gr7, ↓w_gr8, ↓w_gr9, ↓w_gr10, ↓w_gr11, ↓w_gr12, ↓w_gr17, ↓w_gr35, ↓w_gr177, ↓w_pi, ↓w_pl, ↓w_pz, ↓w_iaload, ↓w_baload, ↓w_aaload, ↓w_iastore, ↓w_bastore, ↓w_arraylength, ↓w_goto, ↓w_if_eq, ↓w_if_ne, ↓w_if_lt, ↓w_if_ge, ↓w_if_gt, ↓w_if_le, ↓w_ic_eq, ↓w_ic_ne, ↓w_ic_lt, ↓w_ic_ge, ↓w_ic_gt, ↓w_ic_le, ↓w_ireturn0, ↓w_ireturn1, ↓w_lreturn, ↓w_return_, Nat.add_assoc, Nat.reduceAdd, pi_o, pi_ss, pi_so, pi_2, pr_o, pr_s, pr_2, pl_1, pl_s, pl_o, g1, g2, g3]
        refine ⟨(by first | assumption | exact rfl), ?_⟩
        refine P_V0iP k_X9_readPage_50 (by first | assumption | exact rfl) (u_X9_readField hlt hlen h200 hch (p := (tkX lt len (tkX lt len (tkX lt len p)))) c3 (by omega) hok) rfl rfl ?_
        intro r4 s4 ⟨c4, d4, e4, f4⟩
        refine P_blk b_X9_readPage_53 ?_
        simp (disch := omega) only [↓w_nil, ↓w_iconst, ↓w_bipush, ↓w_sipush, ↓w_ldc, ↓w_ldc_w, ↓w_lconst, ↓w_ldc2_w, ↓w_il0, ↓w_al0, ↓w_is0, ↓w_ii0, ↓w_il1, ↓w_al1, ↓w_is1, ↓w_ii1, ↓w_il2, ↓w_al2, ↓w_is2, ↓w_ii2, ↓w_il3, ↓w_al3, ↓w_is3, ↓w_ii3, ↓w_il4, ↓w_al4, ↓w_is4, ↓w_ii4, ↓w_il5, ↓w_al5, ↓w_is5, ↓w_ii5, ↓w_il6, ↓w_is6, ↓w_ii6, ↓w_il7, ↓w_is7, ↓w_ii7, ↓w_il8, ↓w_is8, ↓w_ii8, ↓w_il9, ↓w_is9, ↓w_ii9, ↓w_il10, ↓w_is10, ↓w_ii10, ↓w_il11, ↓w_is11, ↓w_ii11, ↓w_iadd, ↓w_isub, ↓w_imul, ↓w_iand, ↓w_ior, ↓w_ishl, ↓w_ishr, ↓w_iushr, ↓w_idiv, ↓w_irem, ↓w_ineg, ↓w_ladd, ↓w_dup, ↓w_dup2, ↓w_pop, ↓w_gi, ↓w_gl, ↓w_gz, ↓w_gr1, ↓w_gr2, ↓w_gr3, ↓w_gr4, ↓w_gr5, ↓w_gr6, ↓w_gr7, ↓w_gr8, ↓w_gr9, ↓w_gr10, ↓w_gr11, ↓w_gr12, ↓w_gr17, ↓w_gr35, ↓w_gr177, ↓w_pi, ↓w_pl, ↓w_pz, ↓w_iaload, ↓w_baload, ↓w_aaload, ↓w_iastore, ↓w_bastore, ↓w_arraylength, ↓w_goto, ↓w_if_eq, ↓w_if_ne, ↓w_if_lt, ↓w_if_ge, ↓w_if_gt, ↓w_if_le, ↓w_ic_eq, ↓w_ic_ne, ↓w_ic_lt, ↓w_ic_ge, ↓w_ic_gt, ↓w_ic_le, ↓w_ireturn0, ↓w_ireturn1, ↓w_lreturn, ↓w_return_, Nat.add_assoc, Nat.reduceAdd, pi_o, pi_ss, pi_so, pi_2, pr_o, pr_s, pr_2, pl_1, pl_s, pl_o, g1, g2, g3]
        refine ⟨fun z53 => ?_, fun z53 => ?_⟩
        · rw [e4, bI_n0] at z53
          have g4 := f4 z53
          refine P_blk b_X9_readPage_58 ?_
          simp (disch := omega) only [↓w_nil, ↓w_iconst, ↓w_bipush, ↓w_sipush, ↓w_ldc, ↓w_ldc_w, ↓w_lconst, ↓w_ldc2_w, ↓w_il0, ↓w_al0, ↓w_is0, ↓w_ii0, ↓w_il1, ↓w_al1, ↓w_is1, ↓w_ii1, ↓w_il2, ↓w_al2, ↓w_is2, ↓w_ii2, ↓w_il3, ↓w_al3, ↓w_is3, ↓w_ii3, ↓w_il4, ↓w_al4, ↓w_is4, ↓w_ii4, ↓w_il5, ↓w_al5, ↓w_is5, ↓w_ii5, ↓w_il6, ↓w_is6, ↓w_ii6, ↓w_il7, ↓w_is7, ↓w_ii7, ↓w_il8, ↓w_is8, ↓w_ii8, ↓w_il9, ↓w_is9, ↓w_ii9, ↓w_il10, ↓w_is10, ↓w_ii10, ↓w_il11, ↓w_is11, ↓w_ii11, ↓w_iadd, ↓w_isub, ↓w_imul, ↓w_iand, ↓w_ior, ↓w_ishl, ↓w_ishr, ↓w_iushr, ↓w_idiv, ↓w_irem, ↓w_ineg, ↓w_ladd, ↓w_dup, ↓w_dup2, ↓w_pop, ↓w_gi, ↓w_gl, ↓w_gz, ↓w_gr1, ↓w_gr2, ↓w_gr3, ↓w_gr4, ↓w_gr5, ↓w_gr6, ↓w_gr7, ↓w_gr8, ↓w_gr9, ↓w_gr10, ↓w_gr11, ↓w_gr12, ↓w_gr17, ↓w_gr35, ↓w_gr177, ↓w_pi, ↓w_pl, ↓w_pz, ↓w_iaload, ↓w_baload, ↓w_aaload, ↓w_iastore, ↓w_bastore, ↓w_arraylength, ↓w_goto, ↓w_if_eq, ↓w_if_ne, ↓w_if_lt, ↓w_if_ge, ↓w_if_gt, ↓w_if_le, ↓w_ic_eq, ↓w_ic_ne, ↓w_ic_lt, ↓w_ic_ge, ↓w_ic_gt, ↓w_ic_le, ↓w_ireturn0, ↓w_ireturn1, ↓w_lreturn, ↓w_return_, Nat.add_assoc, Nat.reduceAdd, pi_o, pi_ss, pi_so, pi_2, pr_o, pr_s, pr_2, pl_1, pl_s, pl_o, g1, g2, g3, g4]
          refine ⟨(by first | assumption | exact rfl), (by first | assumption | exact rfl), (by first | assumption | exact rfl), ?_⟩
          refine P_V4v k_X9_readPage_72 (by first | assumption | exact rfl) (t_X7_add isPg26 c4.2.2.2.2.2.2.1 h6) rfl rfl ?_
          refine P_blk b_X9_readPage_75 ?_
          simp (disch := omega) only [↓w_nil, ↓w_iconst, ↓w_bipush, ↓w_sipush, ↓w_ldc, ↓w_ldc_w, ↓w_lconst, ↓w_ldc2_w, ↓w_il0, ↓w_al0, ↓w_is0, ↓w_ii0, ↓w_il1, ↓w_al1, ↓w_is1, ↓w_ii1, ↓w_il2, ↓w_al2, ↓w_is2, ↓w_ii2, ↓w_il3, ↓w_al3, ↓w_is3, ↓w_ii3, ↓w_il4, ↓w_al4, ↓w_is4, ↓w_ii4, ↓w_il5, ↓w_al5, ↓w_is5, ↓w_ii5, ↓w_il6, ↓w_is6, ↓w_ii6, ↓w_il7, ↓w_is7, ↓w_ii7, ↓w_il8, ↓w_is8, ↓w_ii8, ↓w_il9, ↓w_is9, ↓w_ii9, ↓w_il10, ↓w_is10, ↓w_ii10, ↓w_il11, ↓w_is11, ↓w_ii11, ↓w_iadd, ↓w_isub, ↓w_imul, ↓w_iand, ↓w_ior, ↓w_ishl, ↓w_ishr, ↓w_iushr, ↓w_idiv, ↓w_irem, ↓w_ineg, ↓w_ladd, ↓w_dup, ↓w_dup2, ↓w_pop, ↓w_gi, ↓w_gl, ↓w_gz, ↓w_gr1, ↓w_gr2, ↓w_gr3, ↓w_gr4, ↓w_gr5, ↓w_gr6, ↓w_gr7, ↓w_gr8, ↓w_gr9, ↓w_gr10, ↓w_gr11, ↓w_gr12, ↓w_gr17, ↓w_gr35, ↓w_gr177, ↓w_pi, ↓w_pl, ↓w_pz, ↓w_iaload, ↓w_baload, ↓w_aaload, ↓w_iastore, ↓w_bastore, ↓w_arraylength, ↓w_goto, ↓w_if_eq, ↓w_if_ne, ↓w_if_lt, ↓w_if_ge, ↓w_if_gt, ↓w_if_le, ↓w_ic_eq, ↓w_ic_ne, ↓w_ic_lt, ↓w_ic_ge, ↓w_ic_gt, ↓w_ic_le, ↓w_ireturn0, ↓w_ireturn1, ↓w_lreturn, ↓w_return_, Nat.add_assoc, Nat.reduceAdd, pi_o, pi_ss, pi_so, pi_2, pr_o, pr_s, pr_2, pl_1, pl_s, pl_o, g1, g2, g3, g4]
          refine P_V0iP k_X9_readPage_76 (by first | assumption | exact rfl) (u_X9_readItemEnd hlt hlen h200 hch (p := (tkX lt len (tkX lt len (tkX lt len (tkX lt len p))))) c4.pg (by omega)) rfl rfl ?_
          intro rE sE ⟨cE, dE, eE⟩
          refine P_blk b_X9_readPage_79 ?_
          simp (disch := omega) only [↓w_nil, ↓w_iconst, ↓w_bipush, ↓w_sipush, ↓w_ldc, ↓w_ldc_w, ↓w_lconst, ↓w_ldc2_w, ↓w_il0, ↓w_al0, ↓w_is0, ↓w_ii0, ↓w_il1, ↓w_al1, ↓w_is1, ↓w_ii1, ↓w_il2, ↓w_al2, ↓w_is2, ↓w_ii2, ↓w_il3, ↓w_al3, ↓w_is3, ↓w_ii3, ↓w_il4, ↓w_al4, ↓w_is4, ↓w_ii4, ↓w_il5, ↓w_al5, ↓w_is5, ↓w_ii5, ↓w_il6, ↓w_is6, ↓w_ii6, ↓w_il7, ↓w_is7, ↓w_ii7, ↓w_il8, ↓w_is8, ↓w_ii8, ↓w_il9, ↓w_is9, ↓w_ii9, ↓w_il10, ↓w_is10, ↓w_ii10, ↓w_il11, ↓w_is11, ↓w_ii11, ↓w_iadd, ↓w_isub, ↓w_imul, ↓w_iand, ↓w_ior, ↓w_ishl, ↓w_ishr, ↓w_iushr, ↓w_idiv, ↓w_irem, ↓w_ineg, ↓w_ladd, ↓w_dup, ↓w_dup2, ↓w_pop, ↓w_gi, ↓w_gl, ↓w_gz, ↓w_gr1, ↓w_gr2, ↓w_gr3, ↓w_gr4, ↓w_gr5, ↓w_gr6, ↓w_gr7, ↓w_gr8, ↓w_gr9, ↓w_gr10, ↓w_gr11, ↓w_gr12, ↓w_gr17, ↓w_gr35, ↓w_gr177, ↓w_pi, ↓w_pl, ↓w_pz, ↓w_iaload, ↓w_baload, ↓w_aaload, ↓w_iastore, ↓w_bastore, ↓w_arraylength, ↓w_goto, ↓w_if_eq, ↓w_if_ne, ↓w_if_lt, ↓w_if_ge, ↓w_if_gt, ↓w_if_le, ↓w_ic_eq, ↓w_ic_ne, ↓w_ic_lt, ↓w_ic_ge, ↓w_ic_gt, ↓w_ic_le, ↓w_ireturn0, ↓w_ireturn1, ↓w_lreturn, ↓w_return_, Nat.add_assoc, Nat.reduceAdd, pi_o, pi_ss, pi_so, pi_2, pr_o, pr_s, pr_2, pl_1, pl_s, pl_o, g1, g2, g3, g4]
          refine ⟨(by rw [eE]; exact bI_01 _), ?_⟩
          refine hQ _ _ ?_
          rw [itP, z7, if_pos rfl, z23, if_pos rfl, z39, if_pos rfl, z53, if_pos rfl]
          exact enT_PO cE dE eE
        · rw [e4, bI_0] at z53
          refine P_blk b_X9_readPage_56 ?_
          simp (disch := omega) only [↓w_nil, ↓w_iconst, ↓w_bipush, ↓w_sipush, ↓w_ldc, ↓w_ldc_w, ↓w_lconst, ↓w_ldc2_w, ↓w_il0, ↓w_al0, ↓w_is0, ↓w_ii0, ↓w_il1, ↓w_al1, ↓w_is1, ↓w_ii1, ↓w_il2, ↓w_al2, ↓w_is2, ↓w_ii2, ↓w_il3, ↓w_al3, ↓w_is3, ↓w_ii3, ↓w_il4, ↓w_al4, ↓w_is4, ↓w_ii4, ↓w_il5, ↓w_al5, ↓w_is5, ↓w_ii5, ↓w_il6, ↓w_is6, ↓w_ii6, ↓w_il7, ↓w_is7, ↓w_ii7, ↓w_il8, ↓w_is8, ↓w_ii8, ↓w_il9, ↓w_is9, ↓w_ii9, ↓w_il10, ↓w_is10, ↓w_ii10, ↓w_il11, ↓w_is11, ↓w_ii11, ↓w_iadd, ↓w_isub, ↓w_imul, ↓w_iand, ↓w_ior, ↓w_ishl, ↓w_ishr, ↓w_iushr, ↓w_idiv, ↓w_irem, ↓w_ineg, ↓w_ladd, ↓w_dup, ↓w_dup2, ↓w_pop, ↓w_gi, ↓w_gl, ↓w_gz, ↓w_gr1, ↓w_gr2, ↓w_gr3, ↓w_gr4, ↓w_gr5, ↓w_gr6, ↓w_gr7, ↓w_gr8, ↓w_gr9, ↓w_gr10, ↓w_gr11, ↓w_gr12, ↓w_gr17, ↓w_gr35, ↓w_gr177, ↓w_pi, ↓w_pl, ↓w_pz, ↓w_iaload, ↓w_baload, ↓w_aaload, ↓w_iastore, ↓w_bastore, ↓w_arraylength, ↓w_goto, ↓w_if_eq, ↓w_if_ne, ↓w_if_lt, ↓w_if_ge, ↓w_if_gt, ↓w_if_le, ↓w_ic_eq, ↓w_ic_ne, ↓w_ic_lt, ↓w_ic_ge, ↓w_ic_gt, ↓w_ic_le, ↓w_ireturn0, ↓w_ireturn1, ↓w_lreturn, ↓w_return_, Nat.add_assoc, Nat.reduceAdd, pi_o, pi_ss, pi_so, pi_2, pr_o, pr_s, pr_2, pl_1, pl_s, pl_o, g1, g2, g3]
          refine ⟨(by first | trivial | decide | exact bI_01 _), ?_⟩
          refine hQ _ _ ?_
          rw [itP, z7, z23, z39, z53]
          exact ⟨rfl, c4.1, d4⟩
      · rw [e3, bI_0] at z39
        refine P_blk b_X9_readPage_42 ?_
        simp (disch := omega) only [↓w_nil, ↓w_iconst, ↓w_bipush, ↓w_sipush, ↓w_ldc, ↓w_ldc_w, ↓w_lconst, ↓w_ldc2_w, ↓w_il0, ↓w_al0, ↓w_is0, ↓w_ii0, ↓w_il1, ↓w_al1, ↓w_is1, ↓w_ii1, ↓w_il2, ↓w_al2, ↓w_is2, ↓w_ii2, ↓w_il3, ↓w_al3, ↓w_is3, ↓w_ii3, ↓w_il4, ↓w_al4, ↓w_is4, ↓w_ii4, ↓w_il5, ↓w_al5, ↓w_is5, ↓w_ii5, ↓w_il6, ↓w_is6, ↓w_ii6, ↓w_il7, ↓w_is7, ↓w_ii7, ↓w_il8, ↓w_is8, ↓w_ii8, ↓w_il9, ↓w_is9, ↓w_ii9, ↓w_il10, ↓w_is10, ↓w_ii10, ↓w_il11, ↓w_is11, ↓w_ii11, ↓w_iadd, ↓w_isub, ↓w_imul, ↓w_iand, ↓w_ior, ↓w_ishl, ↓w_ishr, ↓w_iushr, ↓w_idiv, ↓w_irem, ↓w_ineg, ↓w_ladd, ↓w_dup, ↓w_dup2, ↓w_pop, ↓w_gi, ↓w_gl, ↓w_gz, ↓w_gr1, ↓w_gr2, ↓w_gr3, ↓w_gr4, ↓w_gr5, ↓w_gr6, ↓w_gr7, ↓w_gr8, ↓w_gr9, ↓w_gr10, ↓w_gr11, ↓w_gr12, ↓w_gr17, ↓w_gr35, ↓w_gr177, ↓w_pi, ↓w_pl, ↓w_pz, ↓w_iaload, ↓w_baload, ↓w_aaload, ↓w_iastore, ↓w_bastore, ↓w_arraylength, ↓w_goto, ↓w_if_eq, ↓w_if_ne, ↓w_if_lt, ↓w_if_ge, ↓w_if_gt, ↓w_if_le, ↓w_ic_eq, ↓w_ic_ne, ↓w_ic_lt, ↓w_ic_ge, ↓w_ic_gt, ↓w_ic_le, ↓w_ireturn0, ↓w_ireturn1, ↓w_lreturn, ↓w_return_, Nat.add_assoc, Nat.reduceAdd, pi_o, pi_ss, pi_so, pi_2, pr_o, pr_s, pr_2, pl_1, pl_s, pl_o, g1, g2]
        refine ⟨(by first | trivial | decide | exact bI_01 _), ?_⟩
        refine hQ _ _ ?_
        rw [itP, z7, z23, z39]
        exact ⟨rfl, c3.1, d3⟩
    · rw [e2, bI_0] at z23
      refine P_blk b_X9_readPage_26 ?_
      simp (disch := omega) only [↓w_nil, ↓w_iconst, ↓w_bipush, ↓w_sipush, ↓w_ldc, ↓w_ldc_w, ↓w_lconst, ↓w_ldc2_w, ↓w_il0, ↓w_al0, ↓w_is0, ↓w_ii0, ↓w_il1, ↓w_al1, ↓w_is1, ↓w_ii1, ↓w_il2, ↓w_al2, ↓w_is2, ↓w_ii2, ↓w_il3, ↓w_al3, ↓w_is3, ↓w_ii3, ↓w_il4, ↓w_al4, ↓w_is4, ↓w_ii4, ↓w_il5, ↓w_al5, ↓w_is5, ↓w_ii5, ↓w_il6, ↓w_is6, ↓w_ii6, ↓w_il7, ↓w_is7, ↓w_ii7, ↓w_il8, ↓w_is8, ↓w_ii8, ↓w_il9, ↓w_is9, ↓w_ii9, ↓w_il10, ↓w_is10, ↓w_ii10, ↓w_il11, ↓w_is11, ↓w_ii11, ↓w_iadd, ↓w_isub, ↓w_imul, ↓w_iand, ↓w_ior, ↓w_ishl, ↓w_ishr, ↓w_iushr, ↓w_idiv, ↓w_irem, ↓w_ineg, ↓w_ladd, ↓w_dup, ↓w_dup2, ↓w_pop, ↓w_gi, ↓w_gl, ↓w_gz, ↓w_gr1, ↓w_gr2, ↓w_gr3, ↓w_gr4, ↓w_gr5, ↓w_gr6, ↓w_gr7, ↓w_gr8, ↓w_gr9, ↓w_gr10, ↓w_gr11, ↓w_gr12, ↓w_gr17, ↓w_gr35, ↓w_gr177, ↓w_pi, ↓w_pl, ↓w_pz, ↓w_iaload, ↓w_baload, ↓w_aaload, ↓w_iastore, ↓w_bastore, ↓w_arraylength, ↓w_goto, ↓w_if_eq, ↓w_if_ne, ↓w_if_lt, ↓w_if_ge, ↓w_if_gt, ↓w_if_le, ↓w_ic_eq, ↓w_ic_ne, ↓w_ic_lt, ↓w_ic_ge, ↓w_ic_gt, ↓w_ic_le, ↓w_ireturn0, ↓w_ireturn1, ↓w_lreturn, ↓w_return_, Nat.add_assoc, Nat.reduceAdd, pi_o, pi_ss, pi_so, pi_2, pr_o, pr_s, pr_2, pl_1, pl_s, pl_o, g1]
      refine ⟨(by first | trivial | decide | exact bI_01 _), ?_⟩
      refine hQ _ _ ?_
      rw [itP, z7, z23]
      exact ⟨rfl, c2.1, d2⟩
  · rw [e1, bI_0] at z7
    refine P_blk b_X9_readPage_10 ?_
    simp (disch := omega) only [↓w_nil, ↓w_iconst, ↓w_bipush, ↓w_sipush, ↓w_ldc, ↓w_ldc_w, ↓w_lconst, ↓w_ldc2_w, ↓w_il0, ↓w_al0, ↓w_is0, ↓w_ii0, ↓w_il1, ↓w_al1, ↓w_is1, ↓w_ii1, ↓w_il2, ↓w_al2, ↓w_is2, ↓w_ii2, ↓w_il3, ↓w_al3, ↓w_is3, ↓w_ii3, ↓w_il4, ↓w_al4, ↓w_is4, ↓w_ii4, ↓w_il5, ↓w_al5, ↓w_is5, ↓w_ii5, ↓w_il6, ↓w_is6, ↓w_ii6, ↓w_il7, ↓w_is7, ↓w_ii7, ↓w_il8, ↓w_is8, ↓w_ii8, ↓w_il9, ↓w_is9, ↓w_ii9, ↓w_il10, ↓w_is10, ↓w_ii10, ↓w_il11, ↓w_is11, ↓w_ii11, ↓w_iadd, ↓w_isub, ↓w_imul, ↓w_iand, ↓w_ior, ↓w_ishl, ↓w_ishr, ↓w_iushr, ↓w_idiv, ↓w_irem, ↓w_ineg, ↓w_ladd, ↓w_dup, ↓w_dup2, ↓w_pop, ↓w_gi, ↓w_gl, ↓w_gz, ↓w_gr1, ↓w_gr2, ↓w_gr3, ↓w_gr4, ↓w_gr5, ↓w_gr6, ↓w_gr7, ↓w_gr8, ↓w_gr9, ↓w_gr10, ↓w_gr11, ↓w_gr12, ↓w_gr17, ↓w_gr35, ↓w_gr177, ↓w_pi, ↓w_pl, ↓w_pz, ↓w_iaload, ↓w_baload, ↓w_aaload, ↓w_iastore, ↓w_bastore, ↓w_arraylength, ↓w_goto, ↓w_if_eq, ↓w_if_ne, ↓w_if_lt, ↓w_if_ge, ↓w_if_gt, ↓w_if_le, ↓w_ic_eq, ↓w_ic_ne, ↓w_ic_lt, ↓w_ic_ge, ↓w_ic_gt, ↓w_ic_le, ↓w_ireturn0, ↓w_ireturn1, ↓w_lreturn, ↓w_return_, Nat.add_assoc, Nat.reduceAdd, pi_o, pi_ss, pi_so, pi_2, pr_o, pr_s, pr_2, pl_1, pl_s, pl_o]
    refine ⟨(by first | trivial | decide | exact bI_01 _), ?_⟩
    refine hQ _ _ ?_
    rw [itP, z7]
    exact ⟨rfl, c1.1, d1⟩
