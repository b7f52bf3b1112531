theorem PO_01 {σ s : St} {o : Rs} {r : Int32} (h : PO σ o r s) : r = 0 ∨ r = 1 := by
  rcases o with f | q
  · exact Or.inl h.1
  · exact Or.inr h.1
theorem enT_inr {lt : Nat → Int32} {len p : Nat} {T : TD} {q : TD × Nat} (h : enT lt len p T = .inr q) : q = (T, tkX lt len p) := by
  unfold enT at h; split at h
  · cases h; rfl
  · cases h
theorem itF_inr {lt : Nat → Int32} {len p : Nat} {T : TD} {q : TD × Nat} (hp : p ≤ len) (hT : okT T) (h : itF lt len T p = .inr q) : okT q.1 ∧ p ≤ q.2 ∧ q.2 ≤ len := by
  have x0 := tkX_le (lt := lt) hp
  have s0 := tkS_le (lt := lt) hp
  have x1 := tkX_le (lt := lt) (p := tkX lt len p) x0.2
  have s1 := tkS_le (lt := lt) (p := tkX lt len p) x0.2
  unfold itF at h; split at h
  · rename_i hk
    obtain ⟨n, h1, h2, h3⟩ := okN_nI (a := 2) (b := 8) rfl rfl (by decide) (by decide) hk
    rw [enT_inr h]
    refine ⟨?_, by simp only; omega, x1.2⟩
    unfold okT fsT at *
    simp only [h3, nI_clamp (show n < 2 ^ 31 by omega)]
    exact ⟨h1, h2, hT.2.2⟩
  · cases h
theorem itR_inr {lt : Nat → Int32} {len p : Nat} {T : TD} {q : TD × Nat} (hp : p ≤ len) (hT : okT T) (h : itR lt len T p = .inr q) : okT q.1 ∧ p ≤ q.2 ∧ q.2 ≤ len := by
  have x0 := tkX_le (lt := lt) hp
  have s0 := tkS_le (lt := lt) hp
  have x1 := tkX_le (lt := lt) (p := tkX lt len p) x0.2
  have s1 := tkS_le (lt := lt) (p := tkX lt len p) x0.2
  have x2 := tkX_le (lt := lt) (p := tkX lt len (tkX lt len p)) x1.2
  have s2 := tkS_le (lt := lt) (p := tkX lt len (tkX lt len p)) x1.2
  unfold itR at h; split at h
  · split at h
    · rw [enT_inr h]
      exact ⟨hT, by simp only; omega, x2.2⟩
    · cases h
  · cases h
theorem itA_inr {lt : Nat → Int32} {len p : Nat} {T : TD} {q : TD × Nat} (hp : p ≤ len) (hT : okT T) (h6 : T.2.2.1 < 6) (h : itA lt len T p = .inr q) : okT q.1 ∧ p ≤ q.2 ∧ q.2 ≤ len := by
  have x0 := tkX_le (lt := lt) hp
  have s0 := tkS_le (lt := lt) hp
  have x1 := tkX_le (lt := lt) (p := tkX lt len p) x0.2
  have s1 := tkS_le (lt := lt) (p := tkX lt len p) x0.2
  have x2 := tkX_le (lt := lt) (p := tkX lt len (tkX lt len p)) x1.2
  have s2 := tkS_le (lt := lt) (p := tkX lt len (tkX lt len p)) x1.2
  have x3 := tkX_le (lt := lt) (p := tkX lt len (tkX lt len (tkX lt len p))) x2.2
  have s3 := tkS_le (lt := lt) (p := tkX lt len (tkX lt len (tkX lt len p))) x2.2
  unfold itA at h; split at h
  · split at h
    · split at h
      · rw [enT_inr h]
        refine ⟨?_, by simp only; omega, x3.2⟩
        unfold okT arT at *
        exact ⟨hT.1, hT.2.1, by simp only; omega, hT.2.2.2⟩
      · cases h
    · cases h
  · cases h
theorem itP_inr {lt : Nat → Int32} {len p : Nat} {T : TD} {q : TD × Nat} (hp : p ≤ len) (hT : okT T) (h6 : T.2.2.2.2.1 < 6) (h : itP lt len T p = .inr q) : okT q.1 ∧ p ≤ q.2 ∧ q.2 ≤ len := by
  have x0 := tkX_le (lt := lt) hp
  have s0 := tkS_le (lt := lt) hp
  have x1 := tkX_le (lt := lt) (p := tkX lt len p) x0.2
  have s1 := tkS_le (lt := lt) (p := tkX lt len p) x0.2
  have x2 := tkX_le (lt := lt) (p := tkX lt len (tkX lt len p)) x1.2
  have s2 := tkS_le (lt := lt) (p := tkX lt len (tkX lt len p)) x1.2
  have x3 := tkX_le (lt := lt) (p := tkX lt len (tkX lt len (tkX lt len p))) x2.2
  have s3 := tkS_le (lt := lt) (p := tkX lt len (tkX lt len (tkX lt len p))) x2.2
  have x4 := tkX_le (lt := lt) (p := tkX lt len (tkX lt len (tkX lt len (tkX lt len p)))) x3.2
  have s4 := tkS_le (lt := lt) (p := tkX lt len (tkX lt len (tkX lt len (tkX lt len p)))) x3.2
  unfold itP at h; split at h
  · split at h
    · split at h
      · split at h
        · rw [enT_inr h]
          refine ⟨?_, by simp only; omega, x4.2⟩
          unfold okT pgT at *
          exact ⟨hT.1, hT.2.1, hT.2.2.1, by simp only; omega⟩
        · cases h
      · cases h
    · cases h
  · cases h
theorem tkX_gt {lt : Nat → Int32} {len p : Nat} (hp : p ≤ len) (h : ¬ tkC lt len p = -1) : p < tkX lt len p := by
  have s0 := tkS_le (lt := lt) hp
  unfold tkC at h
  split at h
  · exact absurd rfl h
  · rename_i h1
    unfold tkX
    rw [if_neg h1]
    split
    · rename_i h2
      unfold tkD
      rw [show len - tkS lt len p = (len - tkS lt len p - 1) + 1 by omega, dgB, if_pos h2]
      have := dgB_le lt (len - tkS lt len p - 1) (tkS lt len p + 1) (10 * 0 + lt (tkS lt len p) - 48)
      omega
    · omega
theorem itT_inr {lt : Nat → Int32} {len p : Nat} {T : TD} {b : Bool} {q : TD × Nat} (hp : p ≤ len) (hT : okT T) (h : itT lt len b T p = .inr q) : okT q.1 ∧ tkX lt len p ≤ q.2 ∧ q.2 ≤ len := by
  have x0 := tkX_le (lt := lt) hp
  unfold itT at h
  split at h
  · split at h
    · rename_i h6; exact itA_inr x0.2 hT h6 h
    · cases h
  · split at h
    · split at h
      · exact itF_inr x0.2 hT h
      · cases h
    · split at h
      · split at h
        · rename_i h6; exact itP_inr x0.2 hT h6 h
        · cases h
      · split at h
        · exact itR_inr x0.2 hT h
        · cases h
def PA (σ : St) (o : Nat ⊕ (Nat × TD)) (r : Int32) (s : St) : Prop := match o with
  | .inl f => r = -10 - nI f ∧ scr σ s
  | .inr q => r = nI q.1 ∧ scr σ s ∧ told q.2 s ∧ okT q.2
def T0 : TD := (4, fun _ => 0, 0, fun _ _ => 0, 0, fun _ _ => 0)
theorem okT0 : okT T0 := by unfold okT T0; decide
theorem CT0 {σ s : St} (h : scr σ s) : CT σ T0 0 (pi (pi (pi (pr (pi s 18 0 4) 19 (fun _ => 0)) 22 0 0) 26 0 0) 17 4 0) := by
  refine ⟨⟨h.1, by simp (disch := decide) only [pi_so, pi_o, pr_o]; exact h.2.1, fun a ha hb => by simp (disch := omega) only [pi_o, pr_o]; exact h.2.2 a ha hb⟩, by rw [pi_ss]; rfl, ?_⟩
  unfold told
  simp (disch := decide) only [pi_o, pi_ss, pr_o, pr_s]
  exact ⟨rfl, rfl, rfl, fun a ha => absurd ha (Nat.not_lt_zero _), rfl, fun a ha => absurd ha (Nat.not_lt_zero _)⟩
theorem scr.rf {σ : St} : scr σ σ := ⟨rfl, rfl, fun _ _ _ => rfl⟩

set_option maxHeartbeats 400000 in
theorem u_X9_readItem {σ s : St} {lt : Nat → Int32} {len : Nat} (hlt : σ.1 34 = lt) (hlen : σ.1 17 0 = nI len) (h200 : len ≤ 200) (hch : ∀ i, i < len → 0 ≤ lt i) {T : TD} {p : Nat} (hT : CT σ T (tkX lt len p) s) (hpl : p ≤ len) (hok : okT T) (h5 : s.1 17 5 = tkC lt len p) (h6 : s.1 17 6 = nI (tkS lt len p)) {k : Nat} (hk : k ≤ 200) : RetPi m_X9_readItem (s) [.ref 17, .int (nI k)] (PO σ (itT lt len (k == 0) T p)) := by
  refine RetPi.introQ 2 (L := [.ref 17, .int (nI k)]) (by decide +kernel) rfl rfl rfl (fun Q hQ => ?_)
  have x0 := tkX_le (lt := lt) (len := len) (p := p) hpl
  have hm := hT.2.2.2.2.1
  have hn := hT.2.2.2.2.2.2.1
  refine P_blk b_X9_readItem_0 ?_
  simp (disch := omega) only [↓w_nil, ↓w_iconst, ↓w_bipush, ↓w_sipush, ↓w_ldc, ↓w_ldc_w, ↓w_lconst, ↓w_ldc2_w, ↓w_il0, ↓w_al0, ↓w_is0, ↓w_ii0, ↓w_il1, ↓w_al1, ↓w_is1, ↓w_ii1, ↓w_il2, ↓w_al2, ↓w_is2, ↓w_ii2, ↓w_il3, ↓w_al3, ↓w_is3, ↓w_ii3, ↓w_il4, ↓w_al4, ↓w_is4, ↓w_ii4, ↓w_il5, ↓w_al5, ↓w_is5, ↓w_ii5, ↓w_il6, ↓w_is6, ↓w_ii6, ↓w_il7, ↓w_is7, ↓w_ii7, ↓w_il8, ↓w_is8, ↓w_ii8, ↓w_il9, ↓w_is9, ↓w_ii9, ↓w_il10, ↓w_is10, ↓w_ii10, ↓w_il11, ↓w_is11, ↓w_ii11, ↓w_iadd, ↓w_isub, ↓w_imul, ↓w_iand, ↓w_ior, ↓w_ixor, ↓w_ishl, ↓w_ishr, ↓w_iushr, ↓w_idiv, ↓w_irem, ↓w_ineg, ↓w_ladd, ↓w_dup, ↓w_dup2, ↓w_pop, ↓w_gi, ↓w_gl, ↓w_gz, ↓w_gr1, ↓w_gr2, ↓w_gr3, ↓w_gr4, ↓w_gr5, ↓w_gr6, ↓w_gr7, ↓w_gr8, ↓w_gr9, ↓w_gr10, ↓w_gr11, ↓w_gr12, ↓w_gr17, ↓w_gr35, ↓w_gr177, ↓w_pi, ↓w_pl, ↓w_pz, ↓w_iaload, ↓w_baload, ↓w_aaload, ↓w_iastore, ↓w_bastore, ↓w_arraylength, ↓w_goto, ↓w_if_eq, ↓w_if_ne, ↓w_if_lt, ↓w_if_ge, ↓w_if_gt, ↓w_if_le, ↓w_ic_eq, ↓w_ic_ne, ↓w_ic_lt, ↓w_ic_ge, ↓w_ic_gt, ↓w_ic_le, ↓w_ireturn0, ↓w_ireturn1, ↓w_lreturn, ↓w_return_, Nat.add_assoc, Nat.reduceAdd, pi_o, pi_ss, pi_so, pi_2, pr_o, pr_s, pr_2, pl_1, pl_s, pl_o, h5, hm, hn]
  refine ⟨(by first | assumption | exact rfl), ?_⟩
  refine P_lsw r_X9_readItem_4 ?_
  simp only [tsw]
  refine ⟨fun z4_0 => ?_, fun y4_0 => ?_⟩
  · refine P_blk b_X9_readItem_70 ?_
    simp (disch := omega) only [↓w_nil, ↓w_iconst, ↓w_bipush, ↓w_sipush, ↓w_ldc, ↓w_ldc_w, ↓w_lconst, ↓w_ldc2_w, ↓w_il0, ↓w_al0, ↓w_is0, ↓w_ii0, ↓w_il1, ↓w_al1, ↓w_is1, ↓w_ii1, ↓w_il2, ↓w_al2, ↓w_is2, ↓w_ii2, ↓w_il3, ↓w_al3, ↓w_is3, ↓w_ii3, ↓w_il4, ↓w_al4, ↓w_is4, ↓w_ii4, ↓w_il5, ↓w_al5, ↓w_is5, ↓w_ii5, ↓w_il6, ↓w_is6, ↓w_ii6, ↓w_il7, ↓w_is7, ↓w_ii7, ↓w_il8, ↓w_is8, ↓w_ii8, ↓w_il9, ↓w_is9, ↓w_ii9, ↓w_il10, ↓w_is10, ↓w_ii10, ↓w_il11, ↓w_is11, ↓w_ii11, ↓w_iadd, ↓w_isub, ↓w_imul, ↓w_iand, ↓w_ior, ↓w_ixor, ↓w_ishl, ↓w_ishr, ↓w_iushr, ↓w_idiv, ↓w_irem, ↓w_ineg, ↓w_ladd, ↓w_dup, ↓w_dup2, ↓w_pop, ↓w_gi, ↓w_gl, ↓w_gz, ↓w_gr1, ↓w_gr2, ↓w_gr3, ↓w_gr4, ↓w_gr5, ↓w_gr6, ↓w_gr7, ↓w_gr8, ↓w_gr9, ↓w_gr10, ↓w_gr11, ↓w_gr12, ↓w_gr17, ↓w_gr35, ↓w_gr177, ↓w_pi, ↓w_pl, ↓w_pz, ↓w_iaload, ↓w_baload, ↓w_aaload, ↓w_iastore, ↓w_bastore, ↓w_arraylength, ↓w_goto, ↓w_if_eq, ↓w_if_ne, ↓w_if_lt, ↓w_if_ge, ↓w_if_gt, ↓w_if_le, ↓w_ic_eq, ↓w_ic_ne, ↓w_ic_lt, ↓w_ic_ge, ↓w_ic_gt, ↓w_ic_le, ↓w_ireturn0, ↓w_ireturn1, ↓w_lreturn, ↓w_return_, Nat.add_assoc, Nat.reduceAdd, pi_o, pi_ss, pi_so, pi_2, pr_o, pr_s, pr_2, pl_1, pl_s, pl_o, h5, hm, hn]
    refine ⟨(by first | assumption | exact rfl), (by first | assumption | exact rfl), (by first | assumption | exact rfl), ?_⟩
    refine ⟨fun z82 => ?_, fun z82 => ?_⟩
    · refine P_blk b_X9_readItem_96 ?_
      simp (disch := omega) only [↓w_nil, ↓w_iconst, ↓w_bipush, ↓w_sipush, ↓w_ldc, ↓w_ldc_w, ↓w_lconst, ↓w_ldc2_w, ↓w_il0, ↓w_al0, ↓w_is0, ↓w_ii0, ↓w_il1, ↓w_al1, ↓w_is1, ↓w_ii1, ↓w_il2, ↓w_al2, ↓w_is2, ↓w_ii2, ↓w_il3, ↓w_al3, ↓w_is3, ↓w_ii3, ↓w_il4, ↓w_al4, ↓w_is4, ↓w_ii4, ↓w_il5, ↓w_al5, ↓w_is5, ↓w_ii5, ↓w_il6, ↓w_is6, ↓w_ii6, ↓w_il7, ↓w_is7, ↓w_ii7, ↓w_il8, ↓w_is8, ↓w_ii8, ↓w_il9, ↓w_is9, ↓w_ii9, ↓w_il10, ↓w_is10, ↓w_ii10, ↓w_il11, ↓w_is11, ↓w_ii11, ↓w_iadd, ↓w_isub, ↓w_imul, ↓w_iand, ↓w_ior, ↓w_ixor, ↓w_ishl, ↓w_ishr, ↓w_iushr, ↓w_idiv, ↓w_irem, ↓w_ineg, ↓w_ladd, ↓w_dup, ↓w_dup2, ↓w_pop, ↓w_gi, ↓w_gl, ↓w_gz, ↓w_gr1, ↓w_gr2, ↓w_gr3, ↓w_gr4, ↓w_gr5, ↓w_gr6, ↓w_gr7, ↓w_gr8, ↓w_gr9, ↓w_gr10, ↓w_gr11, ↓w_gr12, ↓w_gr17, ↓w_gr35, ↓w_gr177, ↓w_pi, ↓w_pl, ↓w_pz, ↓w_iaload, ↓w_baload, ↓w_aaload, ↓w_iastore, ↓w_bastore, ↓w_arraylength, ↓w_goto, ↓w_if_eq, ↓w_if_ne, ↓w_if_lt, ↓w_if_ge, ↓w_if_gt, ↓w_if_le, ↓w_ic_eq, ↓w_ic_ne, ↓w_ic_lt, ↓w_ic_ge, ↓w_ic_gt, ↓w_ic_le, ↓w_ireturn0, ↓w_ireturn1, ↓w_lreturn, ↓w_return_, Nat.add_assoc, Nat.reduceAdd, pi_o, pi_ss, pi_so, pi_2, pr_o, pr_s, pr_2, pl_1, pl_s, pl_o, h5, hm, hn]
      refine P_blk b_X9_readItem_97 ?_
      simp (disch := omega) only [↓w_nil, ↓w_iconst, ↓w_bipush, ↓w_sipush, ↓w_ldc, ↓w_ldc_w, ↓w_lconst, ↓w_ldc2_w, ↓w_il0, ↓w_al0, ↓w_is0, ↓w_ii0, ↓w_il1, ↓w_al1, ↓w_is1, ↓w_ii1, ↓w_il2, ↓w_al2, ↓w_is2, ↓w_ii2, ↓w_il3, ↓w_al3, ↓w_is3, ↓w_ii3, ↓w_il4, ↓w_al4, ↓w_is4, ↓w_ii4, ↓w_il5, ↓w_al5, ↓w_is5, ↓w_ii5, ↓w_il6, ↓w_is6, ↓w_ii6, ↓w_il7, ↓w_is7, ↓w_ii7, ↓w_il8, ↓w_is8, ↓w_ii8, ↓w_il9, ↓w_is9, ↓w_ii9, ↓w_il10, ↓w_is10, ↓w_ii10, ↓w_il11, ↓w_is11, ↓w_ii11, ↓w_iadd, ↓w_isub, ↓w_imul, ↓w_iand, ↓w_ior, ↓w_ixor, ↓w_ishl, ↓w_ishr, ↓w_iushr, ↓w_idiv, ↓w_irem, ↓w_ineg, ↓w_ladd, ↓w_dup, ↓w_dup2, ↓w_pop, ↓w_gi, ↓w_gl, ↓w_gz, ↓w_gr1, ↓w_gr2, ↓w_gr3, ↓w_gr4, ↓w_gr5, ↓w_gr6, ↓w_gr7, ↓w_gr8, ↓w_gr9, ↓w_gr10, ↓w_gr11, ↓w_gr12, ↓w_gr17, ↓w_gr35, ↓w_gr177, ↓w_pi, ↓w_pl, ↓w_pz, ↓w_iaload, ↓w_baload, ↓w_aaload, ↓w_iastore, ↓w_bastore, ↓w_arraylength, ↓w_goto, ↓w_if_eq, ↓w_if_ne, ↓w_if_lt, ↓w_if_ge, ↓w_if_gt, ↓w_if_le, ↓w_ic_eq, ↓w_ic_ne, ↓w_ic_lt, ↓w_ic_ge, ↓w_ic_gt, ↓w_ic_le, ↓w_ireturn0, ↓w_ireturn1, ↓w_lreturn, ↓w_return_, Nat.add_assoc, Nat.reduceAdd, pi_o, pi_ss, pi_so, pi_2, pr_o, pr_s, pr_2, pl_1, pl_s, pl_o, h5, hm, hn]
      refine ⟨(by first | trivial | decide | exact bI_01 _), ?_⟩
      refine hQ _ _ ?_
      rw [itT]
      rw [if_pos z4_0, if_neg (fun q => absurd (nI_ge (b := 6) q (by decide)) (not_not_intro z82))]
      exact ⟨rfl, hT.1, h6⟩
    · have hlt6 : T.2.2.1 < 6 := nI_go (m := 6) (by decide) hok.2.2.1 z82
      refine P_blk b_X9_readItem_85 ?_
      simp (disch := omega) only [↓w_nil, ↓w_iconst, ↓w_bipush, ↓w_sipush, ↓w_ldc, ↓w_ldc_w, ↓w_lconst, ↓w_ldc2_w, ↓w_il0, ↓w_al0, ↓w_is0, ↓w_ii0, ↓w_il1, ↓w_al1, ↓w_is1, ↓w_ii1, ↓w_il2, ↓w_al2, ↓w_is2, ↓w_ii2, ↓w_il3, ↓w_al3, ↓w_is3, ↓w_ii3, ↓w_il4, ↓w_al4, ↓w_is4, ↓w_ii4, ↓w_il5, ↓w_al5, ↓w_is5, ↓w_ii5, ↓w_il6, ↓w_is6, ↓w_ii6, ↓w_il7, ↓w_is7, ↓w_ii7, ↓w_il8, ↓w_is8, ↓w_ii8, ↓w_il9, ↓w_is9, ↓w_ii9, ↓w_il10, ↓w_is10, ↓w_ii10, ↓w_il11, ↓w_is11, ↓w_ii11, ↓w_iadd, ↓w_isub, ↓w_imul, ↓w_iand, ↓w_ior, ↓w_ixor, ↓w_ishl, ↓w_ishr, ↓w_iushr, ↓w_idiv, ↓w_irem, ↓w_ineg, ↓w_ladd, ↓w_dup, ↓w_dup2, ↓w_pop, ↓w_gi, ↓w_gl, ↓w_gz, ↓w_gr1, ↓w_gr2, ↓w_gr3, ↓w_gr4, ↓w_gr5, ↓w_gr6, ↓w_gr7, ↓w_gr8, ↓w_gr9, ↓w_gr10, ↓w_gr11, ↓w_gr12, ↓w_gr17, ↓w_gr35, ↓w_gr177, ↓w_pi, ↓w_pl, ↓w_pz, ↓w_iaload, ↓w_baload, ↓w_aaload, ↓w_iastore, ↓w_bastore, ↓w_arraylength, ↓w_goto, ↓w_if_eq, ↓w_if_ne, ↓w_if_lt, ↓w_if_ge, ↓w_if_gt, ↓w_if_le, ↓w_ic_eq, ↓w_ic_ne, ↓w_ic_lt, ↓w_ic_ge, ↓w_ic_gt, ↓w_ic_le, ↓w_ireturn0, ↓w_ireturn1, ↓w_lreturn, ↓w_return_, Nat.add_assoc, Nat.reduceAdd, pi_o, pi_ss, pi_so, pi_2, pr_o, pr_s, pr_2, pl_1, pl_s, pl_o, h5, hm, hn]
      refine P_V0iP k_X9_readItem_86 (by first | assumption | exact rfl) (u_X9_readArmy hlt hlen h200 hch hT x0.2 hok hlt6) rfl rfl ?_
      intro r1 s1 c1
      refine P_blk b_X9_readItem_89 ?_
      simp (disch := omega) only [↓w_nil, ↓w_iconst, ↓w_bipush, ↓w_sipush, ↓w_ldc, ↓w_ldc_w, ↓w_lconst, ↓w_ldc2_w, ↓w_il0, ↓w_al0, ↓w_is0, ↓w_ii0, ↓w_il1, ↓w_al1, ↓w_is1, ↓w_ii1, ↓w_il2, ↓w_al2, ↓w_is2, ↓w_ii2, ↓w_il3, ↓w_al3, ↓w_is3, ↓w_ii3, ↓w_il4, ↓w_al4, ↓w_is4, ↓w_ii4, ↓w_il5, ↓w_al5, ↓w_is5, ↓w_ii5, ↓w_il6, ↓w_is6, ↓w_ii6, ↓w_il7, ↓w_is7, ↓w_ii7, ↓w_il8, ↓w_is8, ↓w_ii8, ↓w_il9, ↓w_is9, ↓w_ii9, ↓w_il10, ↓w_is10, ↓w_ii10, ↓w_il11, ↓w_is11, ↓w_ii11, ↓w_iadd, ↓w_isub, ↓w_imul, ↓w_iand, ↓w_ior, ↓w_ixor, ↓w_ishl, ↓w_ishr, ↓w_iushr, ↓w_idiv, ↓w_irem, ↓w_ineg, ↓w_ladd, ↓w_dup, ↓w_dup2, ↓w_pop, ↓w_gi, ↓w_gl, ↓w_gz, ↓w_gr1, ↓w_gr2, ↓w_gr3, ↓w_gr4, ↓w_gr5, ↓w_gr6, ↓w_gr7, ↓w_gr8, ↓w_gr9, ↓w_gr10, ↓w_gr11, ↓w_gr12, ↓w_gr17, ↓w_gr35, ↓w_gr177, ↓w_pi, ↓w_pl, ↓w_pz, ↓w_iaload, ↓w_baload, ↓w_aaload, ↓w_iastore, ↓w_bastore, ↓w_arraylength, ↓w_goto, ↓w_if_eq, ↓w_if_ne, ↓w_if_lt, ↓w_if_ge, ↓w_if_gt, ↓w_if_le, ↓w_ic_eq, ↓w_ic_ne, ↓w_ic_lt, ↓w_ic_ge, ↓w_ic_gt, ↓w_ic_le, ↓w_ireturn0, ↓w_ireturn1, ↓w_lreturn, ↓w_return_, Nat.add_assoc, Nat.reduceAdd, pi_o, pi_ss, pi_so, pi_2, pr_o, pr_s, pr_2, pl_1, pl_s, pl_o, h5, hm, hn]
      refine ⟨fun z89 => ?_, fun z89 => ?_⟩
      · refine P_blk b_X9_readItem_96 ?_
        simp (disch := omega) only [↓w_nil, ↓w_iconst, ↓w_bipush, ↓w_sipush, ↓w_ldc, ↓w_ldc_w, ↓w_lconst, ↓w_ldc2_w, ↓w_il0, ↓w_al0, ↓w_is0, ↓w_ii0, ↓w_il1, ↓w_al1, ↓w_is1, ↓w_ii1, ↓w_il2, ↓w_al2, ↓w_is2, ↓w_ii2, ↓w_il3, ↓w_al3, ↓w_is3, ↓w_ii3, ↓w_il4, ↓w_al4, ↓w_is4, ↓w_ii4, ↓w_il5, ↓w_al5, ↓w_is5, ↓w_ii5, ↓w_il6, ↓w_is6, ↓w_ii6, ↓w_il7, ↓w_is7, ↓w_ii7, ↓w_il8, ↓w_is8, ↓w_ii8, ↓w_il9, ↓w_is9, ↓w_ii9, ↓w_il10, ↓w_is10, ↓w_ii10, ↓w_il11, ↓w_is11, ↓w_ii11, ↓w_iadd, ↓w_isub, ↓w_imul, ↓w_iand, ↓w_ior, ↓w_ixor, ↓w_ishl, ↓w_ishr, ↓w_iushr, ↓w_idiv, ↓w_irem, ↓w_ineg, ↓w_ladd, ↓w_dup, ↓w_dup2, ↓w_pop, ↓w_gi, ↓w_gl, ↓w_gz, ↓w_gr1, ↓w_gr2, ↓w_gr3, ↓w_gr4, ↓w_gr5, ↓w_gr6, ↓w_gr7, ↓w_gr8, ↓w_gr9, ↓w_gr10, ↓w_gr11, ↓w_gr12, ↓w_gr17, ↓w_gr35, ↓w_gr177, ↓w_pi, ↓w_pl, ↓w_pz, ↓w_iaload, ↓w_baload, ↓w_aaload, ↓w_iastore, ↓w_bastore, ↓w_arraylength, ↓w_goto, ↓w_if_eq, ↓w_if_ne, ↓w_if_lt, ↓w_if_ge, ↓w_if_gt, ↓w_if_le, ↓w_ic_eq, ↓w_ic_ne, ↓w_ic_lt, ↓w_ic_ge, ↓w_ic_gt, ↓w_ic_le, ↓w_ireturn0, ↓w_ireturn1, ↓w_lreturn, ↓w_return_, Nat.add_assoc, Nat.reduceAdd, pi_o, pi_ss, pi_so, pi_2, pr_o, pr_s, pr_2, pl_1, pl_s, pl_o, h5, hm, hn]
        refine P_blk b_X9_readItem_97 ?_
        simp (disch := omega) only [↓w_nil, ↓w_iconst, ↓w_bipush, ↓w_sipush, ↓w_ldc, ↓w_ldc_w, ↓w_lconst, ↓w_ldc2_w, ↓w_il0, ↓w_al0, ↓w_is0, ↓w_ii0, ↓w_il1, ↓w_al1, ↓w_is1, ↓w_ii1, ↓w_il2, ↓w_al2, ↓w_is2, ↓w_ii2, ↓w_il3, ↓w_al3, ↓w_is3, ↓w_ii3, ↓w_il4, ↓w_al4, ↓w_is4, ↓w_ii4, ↓w_il5, ↓w_al5, ↓w_is5, ↓w_ii5, ↓w_il6, ↓w_is6, ↓w_ii6, ↓w_il7, ↓w_is7, ↓w_ii7, ↓w_il8, ↓w_is8, ↓w_ii8, ↓w_il9, ↓w_is9, ↓w_ii9, ↓w_il10, ↓w_is10, ↓w_ii10, ↓w_il11, ↓w_is11, ↓w_ii11, ↓w_iadd, ↓w_isub, ↓w_imul, ↓w_iand, ↓w_ior, ↓w_ixor, ↓w_ishl, ↓w_ishr, ↓w_iushr, ↓w_idiv, ↓w_irem, ↓w_ineg, ↓w_ladd, ↓w_dup, ↓w_dup2, ↓w_pop, ↓w_gi, ↓w_gl, ↓w_gz, ↓w_gr1, ↓w_gr2, ↓w_gr3, ↓w_gr4, ↓w_gr5, ↓w_gr6, ↓w_gr7, ↓w_gr8, ↓w_gr9, ↓w_gr10, ↓w_gr11, ↓w_gr12, ↓w_gr17, ↓w_gr35, ↓w_gr177, ↓w_pi, ↓w_pl, ↓w_pz, ↓w_iaload, ↓w_baload, ↓w_aaload, ↓w_iastore, ↓w_bastore, ↓w_arraylength, ↓w_goto, ↓w_if_eq, ↓w_if_ne, ↓w_if_lt, ↓w_if_ge, ↓w_if_gt, ↓w_if_le, ↓w_ic_eq, ↓w_ic_ne, ↓w_ic_lt, ↓w_ic_ge, ↓w_ic_gt, ↓w_ic_le, ↓w_ireturn0, ↓w_ireturn1, ↓w_lreturn, ↓w_return_, Nat.add_assoc, Nat.reduceAdd, pi_o, pi_ss, pi_so, pi_2, pr_o, pr_s, pr_2, pl_1, pl_s, pl_o, h5, hm, hn]
        refine ⟨(by first | trivial | decide | exact bI_01 _), ?_⟩
        refine hQ _ _ ?_
        rw [itT]
        rw [if_pos z4_0, if_pos hlt6]
        rw [← z89]
        exact c1
      · refine P_blk b_X9_readItem_92 ?_
        simp (disch := omega) only [↓w_nil, ↓w_iconst, ↓w_bipush, ↓w_sipush, ↓w_ldc, ↓w_ldc_w, ↓w_lconst, ↓w_ldc2_w, ↓w_il0, ↓w_al0, ↓w_is0, ↓w_ii0, ↓w_il1, ↓w_al1, ↓w_is1, ↓w_ii1, ↓w_il2, ↓w_al2, ↓w_is2, ↓w_ii2, ↓w_il3, ↓w_al3, ↓w_is3, ↓w_ii3, ↓w_il4, ↓w_al4, ↓w_is4, ↓w_ii4, ↓w_il5, ↓w_al5, ↓w_is5, ↓w_ii5, ↓w_il6, ↓w_is6, ↓w_ii6, ↓w_il7, ↓w_is7, ↓w_ii7, ↓w_il8, ↓w_is8, ↓w_ii8, ↓w_il9, ↓w_is9, ↓w_ii9, ↓w_il10, ↓w_is10, ↓w_ii10, ↓w_il11, ↓w_is11, ↓w_ii11, ↓w_iadd, ↓w_isub, ↓w_imul, ↓w_iand, ↓w_ior, ↓w_ixor, ↓w_ishl, ↓w_ishr, ↓w_iushr, ↓w_idiv, ↓w_irem, ↓w_ineg, ↓w_ladd, ↓w_dup, ↓w_dup2, ↓w_pop, ↓w_gi, ↓w_gl, ↓w_gz, ↓w_gr1, ↓w_gr2, ↓w_gr3, ↓w_gr4, ↓w_gr5, ↓w_gr6, ↓w_gr7, ↓w_gr8, ↓w_gr9, ↓w_gr10, ↓w_gr11, ↓w_gr12, ↓w_gr17, ↓w_gr35, ↓w_gr177, ↓w_pi, ↓w_pl, ↓w_pz, ↓w_iaload, ↓w_baload, ↓w_aaload, ↓w_iastore, ↓w_bastore, ↓w_arraylength, ↓w_goto, ↓w_if_eq, ↓w_if_ne, ↓w_if_lt, ↓w_if_ge, ↓w_if_gt, ↓w_if_le, ↓w_ic_eq, ↓w_ic_ne, ↓w_ic_lt, ↓w_ic_ge, ↓w_ic_gt, ↓w_ic_le, ↓w_ireturn0, ↓w_ireturn1, ↓w_lreturn, ↓w_return_, Nat.add_assoc, Nat.reduceAdd, pi_o, pi_ss, pi_so, pi_2, pr_o, pr_s, pr_2, pl_1, pl_s, pl_o, h5, hm, hn]
        refine P_blk b_X9_readItem_97 ?_
        simp (disch := omega) only [↓w_nil, ↓w_iconst, ↓w_bipush, ↓w_sipush, ↓w_ldc, ↓w_ldc_w, ↓w_lconst, ↓w_ldc2_w, ↓w_il0, ↓w_al0, ↓w_is0, ↓w_ii0, ↓w_il1, ↓w_al1, ↓w_is1, ↓w_ii1, ↓w_il2, ↓w_al2, ↓w_is2, ↓w_ii2, ↓w_il3, ↓w_al3, ↓w_is3, ↓w_ii3, ↓w_il4, ↓w_al4, ↓w_is4, ↓w_ii4, ↓w_il5, ↓w_al5, ↓w_is5, ↓w_ii5, ↓w_il6, ↓w_is6, ↓w_ii6, ↓w_il7, ↓w_is7, ↓w_ii7, ↓w_il8, ↓w_is8, ↓w_ii8, ↓w_il9, ↓w_is9, ↓w_ii9, ↓w_il10, ↓w_is10, ↓w_ii10, ↓w_il11, ↓w_is11, ↓w_ii11, ↓w_iadd, ↓w_isub, ↓w_imul, ↓w_iand, ↓w_ior, ↓w_ixor, ↓w_ishl, ↓w_ishr, ↓w_iushr, ↓w_idiv, ↓w_irem, ↓w_ineg, ↓w_ladd, ↓w_dup, ↓w_dup2, ↓w_pop, ↓w_gi, ↓w_gl, ↓w_gz, ↓w_gr1, ↓w_gr2, ↓w_gr3, ↓w_gr4, ↓w_gr5, ↓w_gr6, ↓w_gr7, ↓w_gr8, ↓w_gr9, ↓w_gr10, ↓w_gr11, ↓w_gr12, ↓w_gr17, ↓w_gr35, ↓w_gr177, ↓w_pi, ↓w_pl, ↓w_pz, ↓w_iaload, ↓w_baload, ↓w_aaload, ↓w_iastore, ↓w_bastore, ↓w_arraylength, ↓w_goto, ↓w_if_eq, ↓w_if_ne, ↓w_if_lt, ↓w_if_ge, ↓w_if_gt, ↓w_if_le, ↓w_ic_eq, ↓w_ic_ne, ↓w_ic_lt, ↓w_ic_ge, ↓w_ic_gt, ↓w_ic_le, ↓w_ireturn0, ↓w_ireturn1, ↓w_lreturn, ↓w_return_, Nat.add_assoc, Nat.reduceAdd, pi_o, pi_ss, pi_so, pi_2, pr_o, pr_s, pr_2, pl_1, pl_s, pl_o, h5, hm, hn]
        refine ⟨(by first | trivial | decide | exact bI_01 _), ?_⟩
        refine hQ _ _ ?_
        rw [itT]
        rw [if_pos z4_0, if_pos hlt6]
        rw [← (PO_01 c1).resolve_left z89]
        exact c1
  refine ⟨fun z4_1 => ?_, fun y4_1 => ?_⟩
  · refine P_blk b_X9_readItem_48 ?_
    simp (disch := omega) only [↓w_nil, ↓w_iconst, ↓w_bipush, ↓w_sipush, ↓w_ldc, ↓w_ldc_w, ↓w_lconst, ↓w_ldc2_w, ↓w_il0, ↓w_al0, ↓w_is0, ↓w_ii0, ↓w_il1, ↓w_al1, ↓w_is1, ↓w_ii1, ↓w_il2, ↓w_al2, ↓w_is2, ↓w_ii2, ↓w_il3, ↓w_al3, ↓w_is3, ↓w_ii3, ↓w_il4, ↓w_al4, ↓w_is4, ↓w_ii4, ↓w_il5, ↓w_al5, ↓w_is5, ↓w_ii5, ↓w_il6, ↓w_is6, ↓w_ii6, ↓w_il7, ↓w_is7, ↓w_ii7, ↓w_il8, ↓w_is8, ↓w_ii8, ↓w_il9, ↓w_is9, ↓w_ii9, ↓w_il10, ↓w_is10, ↓w_ii10, ↓w_il11, ↓w_is11, ↓w_ii11, ↓w_iadd, ↓w_isub, ↓w_imul, ↓w_iand, ↓w_ior, ↓w_ixor, ↓w_ishl, ↓w_ishr, ↓w_iushr, ↓w_idiv, ↓w_irem, ↓w_ineg, ↓w_ladd, ↓w_dup, ↓w_dup2, ↓w_pop, ↓w_gi, ↓w_gl, ↓w_gz, ↓w_gr1, ↓w_gr2, ↓w_gr3, ↓w_gr4, ↓w_gr5, ↓w_gr6, ↓w_gr7, ↓w_gr8, ↓w_gr9, ↓w_gr10, ↓w_gr11, ↓w_gr12, ↓w_gr17, ↓w_gr35, ↓w_gr177, ↓w_pi, ↓w_pl, ↓w_pz, ↓w_iaload, ↓w_baload, ↓w_aaload, ↓w_iastore, ↓w_bastore, ↓w_arraylength, ↓w_goto, ↓w_if_eq, ↓w_if_ne, ↓w_if_lt, ↓w_if_ge, ↓w_if_gt, ↓w_if_le, ↓w_ic_eq, ↓w_ic_ne, ↓w_ic_lt, ↓w_ic_ge, ↓w_ic_gt, ↓w_ic_le, ↓w_ireturn0, ↓w_ireturn1, ↓w_lreturn, ↓w_return_, Nat.add_assoc, Nat.reduceAdd, pi_o, pi_ss, pi_so, pi_2, pr_o, pr_s, pr_2, pl_1, pl_s, pl_o, h5, hm, hn]
    refine ⟨fun z49 => ?_, fun z49 => ?_⟩
    · refine P_blk b_X9_readItem_63 ?_
      simp (disch := omega) only [↓w_nil, ↓w_iconst, ↓w_bipush, ↓w_sipush, ↓w_ldc, ↓w_ldc_w, ↓w_lconst, ↓w_ldc2_w, ↓w_il0, ↓w_al0, ↓w_is0, ↓w_ii0, ↓w_il1, ↓w_al1, ↓w_is1, ↓w_ii1, ↓w_il2, ↓w_al2, ↓w_is2, ↓w_ii2, ↓w_il3, ↓w_al3, ↓w_is3, ↓w_ii3, ↓w_il4, ↓w_al4, ↓w_is4, ↓w_ii4, ↓w_il5, ↓w_al5, ↓w_is5, ↓w_ii5, ↓w_il6, ↓w_is6, ↓w_ii6, ↓w_il7, ↓w_is7, ↓w_ii7, ↓w_il8, ↓w_is8, ↓w_ii8, ↓w_il9, ↓w_is9, ↓w_ii9, ↓w_il10, ↓w_is10, ↓w_ii10, ↓w_il11, ↓w_is11, ↓w_ii11, ↓w_iadd, ↓w_isub, ↓w_imul, ↓w_iand, ↓w_ior, ↓w_ixor, ↓w_ishl, ↓w_ishr, ↓w_iushr, ↓w_idiv, ↓w_irem, ↓w_ineg, ↓w_ladd, ↓w_dup, ↓w_dup2, ↓w_pop, ↓w_gi, ↓w_gl, ↓w_gz, ↓w_gr1, ↓w_gr2, ↓w_gr3, ↓w_gr4, ↓w_gr5, ↓w_gr6, ↓w_gr7, ↓w_gr8, ↓w_gr9, ↓w_gr10, ↓w_gr11, ↓w_gr12, ↓w_gr17, ↓w_gr35, ↓w_gr177, ↓w_pi, ↓w_pl, ↓w_pz, ↓w_iaload, ↓w_baload, ↓w_aaload, ↓w_iastore, ↓w_bastore, ↓w_arraylength, ↓w_goto, ↓w_if_eq, ↓w_if_ne, ↓w_if_lt, ↓w_if_ge, ↓w_if_gt, ↓w_if_le, ↓w_ic_eq, ↓w_ic_ne, ↓w_ic_lt, ↓w_ic_ge, ↓w_ic_gt, ↓w_ic_le, ↓w_ireturn0, ↓w_ireturn1, ↓w_lreturn, ↓w_return_, Nat.add_assoc, Nat.reduceAdd, pi_o, pi_ss, pi_so, pi_2, pr_o, pr_s, pr_2, pl_1, pl_s, pl_o, h5, hm, hn]
      refine P_blk b_X9_readItem_64 ?_
      simp (disch := omega) only [↓w_nil, ↓w_iconst, ↓w_bipush, ↓w_sipush, ↓w_ldc, ↓w_ldc_w, ↓w_lconst, ↓w_ldc2_w, ↓w_il0, ↓w_al0, ↓w_is0, ↓w_ii0, ↓w_il1, ↓w_al1, ↓w_is1, ↓w_ii1, ↓w_il2, ↓w_al2, ↓w_is2, ↓w_ii2, ↓w_il3, ↓w_al3, ↓w_is3, ↓w_ii3, ↓w_il4, ↓w_al4, ↓w_is4, ↓w_ii4, ↓w_il5, ↓w_al5, ↓w_is5, ↓w_ii5, ↓w_il6, ↓w_is6, ↓w_ii6, ↓w_il7, ↓w_is7, ↓w_ii7, ↓w_il8, ↓w_is8, ↓w_ii8, ↓w_il9, ↓w_is9, ↓w_ii9, ↓w_il10, ↓w_is10, ↓w_ii10, ↓w_il11, ↓w_is11, ↓w_ii11, ↓w_iadd, ↓w_isub, ↓w_imul, ↓w_iand, ↓w_ior, ↓w_ixor, ↓w_ishl, ↓w_ishr, ↓w_iushr, ↓w_idiv, ↓w_irem, ↓w_ineg, ↓w_ladd, ↓w_dup, ↓w_dup2, ↓w_pop, ↓w_gi, ↓w_gl, ↓w_gz, ↓w_gr1, ↓w_gr2, ↓w_gr3, ↓w_gr4, ↓w_gr5, ↓w_gr6, ↓w_gr7, ↓w_gr8, ↓w_gr9, ↓w_gr10, ↓w_gr11, ↓w_gr12, ↓w_gr17, ↓w_gr35, ↓w_gr177, ↓w_pi, ↓w_pl, ↓w_pz, ↓w_iaload, ↓w_baload, ↓w_aaload, ↓w_iastore, ↓w_bastore, ↓w_arraylength, ↓w_goto, ↓w_if_eq, ↓w_if_ne, ↓w_if_lt, ↓w_if_ge, ↓w_if_gt, ↓w_if_le, ↓w_ic_eq, ↓w_ic_ne, ↓w_ic_lt, ↓w_ic_ge, ↓w_ic_gt, ↓w_ic_le, ↓w_ireturn0, ↓w_ireturn1, ↓w_lreturn, ↓w_return_, Nat.add_assoc, Nat.reduceAdd, pi_o, pi_ss, pi_so, pi_2, pr_o, pr_s, pr_2, pl_1, pl_s, pl_o, h5, hm, hn]
      refine ⟨(by first | trivial | decide | exact bI_01 _), ?_⟩
      refine hQ _ _ ?_
      rw [itT]
      rw [if_neg y4_0]
      rw [if_pos z4_1, if_neg (by simp; intro q; rw [q] at z49; exact z49 rfl)]
      exact ⟨rfl, hT.1, h6⟩
    · have hk0 : (k == 0) = true := by
        rcases Nat.eq_zero_or_pos k with q | q
        · subst q; rfl
        · exact absurd z49 (nI_ne0 q (by omega))
      refine P_blk b_X9_readItem_52 ?_
      simp (disch := omega) only [↓w_nil, ↓w_iconst, ↓w_bipush, ↓w_sipush, ↓w_ldc, ↓w_ldc_w, ↓w_lconst, ↓w_ldc2_w, ↓w_il0, ↓w_al0, ↓w_is0, ↓w_ii0, ↓w_il1, ↓w_al1, ↓w_is1, ↓w_ii1, ↓w_il2, ↓w_al2, ↓w_is2, ↓w_ii2, ↓w_il3, ↓w_al3, ↓w_is3, ↓w_ii3, ↓w_il4, ↓w_al4, ↓w_is4, ↓w_ii4, ↓w_il5, ↓w_al5, ↓w_is5, ↓w_ii5, ↓w_il6, ↓w_is6, ↓w_ii6, ↓w_il7, ↓w_is7, ↓w_ii7, ↓w_il8, ↓w_is8, ↓w_ii8, ↓w_il9, ↓w_is9, ↓w_ii9, ↓w_il10, ↓w_is10, ↓w_ii10, ↓w_il11, ↓w_is11, ↓w_ii11, ↓w_iadd, ↓w_isub, ↓w_imul, ↓w_iand, ↓w_ior, ↓w_ixor, ↓w_ishl, ↓w_ishr, ↓w_iushr, ↓w_idiv, ↓w_irem, ↓w_ineg, ↓w_ladd, ↓w_dup, ↓w_dup2, ↓w_pop, ↓w_gi, ↓w_gl, ↓w_gz, ↓w_gr1, ↓w_gr2, ↓w_gr3, ↓w_gr4, ↓w_gr5, ↓w_gr6, ↓w_gr7, ↓w_gr8, ↓w_gr9, ↓w_gr10, ↓w_gr11, ↓w_gr12, ↓w_gr17, ↓w_gr35, ↓w_gr177, ↓w_pi, ↓w_pl, ↓w_pz, ↓w_iaload, ↓w_baload, ↓w_aaload, ↓w_iastore, ↓w_bastore, ↓w_arraylength, ↓w_goto, ↓w_if_eq, ↓w_if_ne, ↓w_if_lt, ↓w_if_ge, ↓w_if_gt, ↓w_if_le, ↓w_ic_eq, ↓w_ic_ne, ↓w_ic_lt, ↓w_ic_ge, ↓w_ic_gt, ↓w_ic_le, ↓w_ireturn0, ↓w_ireturn1, ↓w_lreturn, ↓w_return_, Nat.add_assoc, Nat.reduceAdd, pi_o, pi_ss, pi_so, pi_2, pr_o, pr_s, pr_2, pl_1, pl_s, pl_o, h5, hm, hn]
      refine P_V0iP k_X9_readItem_53 (by first | assumption | exact rfl) (u_X9_readFields hlt hlen h200 hch hT x0.2) rfl rfl ?_
      intro r1 s1 c1
      refine P_blk b_X9_readItem_56 ?_
      simp (disch := omega) only [↓w_nil, ↓w_iconst, ↓w_bipush, ↓w_sipush, ↓w_ldc, ↓w_ldc_w, ↓w_lconst, ↓w_ldc2_w, ↓w_il0, ↓w_al0, ↓w_is0, ↓w_ii0, ↓w_il1, ↓w_al1, ↓w_is1, ↓w_ii1, ↓w_il2, ↓w_al2, ↓w_is2, ↓w_ii2, ↓w_il3, ↓w_al3, ↓w_is3, ↓w_ii3, ↓w_il4, ↓w_al4, ↓w_is4, ↓w_ii4, ↓w_il5, ↓w_al5, ↓w_is5, ↓w_ii5, ↓w_il6, ↓w_is6, ↓w_ii6, ↓w_il7, ↓w_is7, ↓w_ii7, ↓w_il8, ↓w_is8, ↓w_ii8, ↓w_il9, ↓w_is9, ↓w_ii9, ↓w_il10, ↓w_is10, ↓w_ii10, ↓w_il11, ↓w_is11, ↓w_ii11, ↓w_iadd, ↓w_isub, ↓w_imul, ↓w_iand, ↓w_ior, ↓w_ixor, ↓w_ishl, ↓w_ishr, ↓w_iushr, ↓w_idiv, ↓w_irem, ↓w_ineg, ↓w_ladd, ↓w_dup, ↓w_dup2, ↓w_pop, ↓w_gi, ↓w_gl, ↓w_gz, ↓w_gr1, ↓w_gr2, ↓w_gr3, ↓w_gr4, ↓w_gr5, ↓w_gr6, ↓w_gr7, ↓w_gr8, ↓w_gr9, ↓w_gr10, ↓w_gr11, ↓w_gr12, ↓w_gr17, ↓w_gr35, ↓w_gr177, ↓w_pi, ↓w_pl, ↓w_pz, ↓w_iaload, ↓w_baload, ↓w_aaload, ↓w_iastore, ↓w_bastore, ↓w_arraylength, ↓w_goto, ↓w_if_eq, ↓w_if_ne, ↓w_if_lt, ↓w_if_ge, ↓w_if_gt, ↓w_if_le, ↓w_ic_eq, ↓w_ic_ne, ↓w_ic_lt, ↓w_ic_ge, ↓w_ic_gt, ↓w_ic_le, ↓w_ireturn0, ↓w_ireturn1, ↓w_lreturn, ↓w_return_, Nat.add_assoc, Nat.reduceAdd, pi_o, pi_ss, pi_so, pi_2, pr_o, pr_s, pr_2, pl_1, pl_s, pl_o, h5, hm, hn]
      refine ⟨fun z56 => ?_, fun z56 => ?_⟩
      · refine P_blk b_X9_readItem_63 ?_
        simp (disch := omega) only [↓w_nil, ↓w_iconst, ↓w_bipush, ↓w_sipush, ↓w_ldc, ↓w_ldc_w, ↓w_lconst, ↓w_ldc2_w, ↓w_il0, ↓w_al0, ↓w_is0, ↓w_ii0, ↓w_il1, ↓w_al1, ↓w_is1, ↓w_ii1, ↓w_il2, ↓w_al2, ↓w_is2, ↓w_ii2, ↓w_il3, ↓w_al3, ↓w_is3, ↓w_ii3, ↓w_il4, ↓w_al4, ↓w_is4, ↓w_ii4, ↓w_il5, ↓w_al5, ↓w_is5, ↓w_ii5, ↓w_il6, ↓w_is6, ↓w_ii6, ↓w_il7, ↓w_is7, ↓w_ii7, ↓w_il8, ↓w_is8, ↓w_ii8, ↓w_il9, ↓w_is9, ↓w_ii9, ↓w_il10, ↓w_is10, ↓w_ii10, ↓w_il11, ↓w_is11, ↓w_ii11, ↓w_iadd, ↓w_isub, ↓w_imul, ↓w_iand, ↓w_ior, ↓w_ixor, ↓w_ishl, ↓w_ishr, ↓w_iushr, ↓w_idiv, ↓w_irem, ↓w_ineg, ↓w_ladd, ↓w_dup, ↓w_dup2, ↓w_pop, ↓w_gi, ↓w_gl, ↓w_gz, ↓w_gr1, ↓w_gr2, ↓w_gr3, ↓w_gr4, ↓w_gr5, ↓w_gr6, ↓w_gr7, ↓w_gr8, ↓w_gr9, ↓w_gr10, ↓w_gr11, ↓w_gr12, ↓w_gr17, ↓w_gr35, ↓w_gr177, ↓w_pi, ↓w_pl, ↓w_pz, ↓w_iaload, ↓w_baload, ↓w_aaload, ↓w_iastore, ↓w_bastore, ↓w_arraylength, ↓w_goto, ↓w_if_eq, ↓w_if_ne, ↓w_if_lt, ↓w_if_ge, ↓w_if_gt, ↓w_if_le, ↓w_ic_eq, ↓w_ic_ne, ↓w_ic_lt, ↓w_ic_ge, ↓w_ic_gt, ↓w_ic_le, ↓w_ireturn0, ↓w_ireturn1, ↓w_lreturn, ↓w_return_, Nat.add_assoc, Nat.reduceAdd, pi_o, pi_ss, pi_so, pi_2, pr_o, pr_s, pr_2, pl_1, pl_s, pl_o, h5, hm, hn]
        refine P_blk b_X9_readItem_64 ?_
        simp (disch := omega) only [↓w_nil, ↓w_iconst, ↓w_bipush, ↓w_sipush, ↓w_ldc, ↓w_ldc_w, ↓w_lconst, ↓w_ldc2_w, ↓w_il0, ↓w_al0, ↓w_is0, ↓w_ii0, ↓w_il1, ↓w_al1, ↓w_is1, ↓w_ii1, ↓w_il2, ↓w_al2, ↓w_is2, ↓w_ii2, ↓w_il3, ↓w_al3, ↓w_is3, ↓w_ii3, ↓w_il4, ↓w_al4, ↓w_is4, ↓w_ii4, ↓w_il5, ↓w_al5, ↓w_is5, ↓w_ii5, ↓w_il6, ↓w_is6, ↓w_ii6, ↓w_il7, ↓w_is7, ↓w_ii7, ↓w_il8, ↓w_is8, ↓w_ii8, ↓w_il9, ↓w_is9, ↓w_ii9, ↓w_il10, ↓w_is10, ↓w_ii10, ↓w_il11, ↓w_is11, ↓w_ii11, ↓w_iadd, ↓w_isub, ↓w_imul, ↓w_iand, ↓w_ior, ↓w_ixor, ↓w_ishl, ↓w_ishr, ↓w_iushr, ↓w_idiv, ↓w_irem, ↓w_ineg, ↓w_ladd, ↓w_dup, ↓w_dup2, ↓w_pop, ↓w_gi, ↓w_gl, ↓w_gz, ↓w_gr1, ↓w_gr2, ↓w_gr3, ↓w_gr4, ↓w_gr5, ↓w_gr6, ↓w_gr7, ↓w_gr8, ↓w_gr9, ↓w_gr10, ↓w_gr11, ↓w_gr12, ↓w_gr17, ↓w_gr35, ↓w_gr177, ↓w_pi, ↓w_pl, ↓w_pz, ↓w_iaload, ↓w_baload, ↓w_aaload, ↓w_iastore, ↓w_bastore, ↓w_arraylength, ↓w_goto, ↓w_if_eq, ↓w_if_ne, ↓w_if_lt, ↓w_if_ge, ↓w_if_gt, ↓w_if_le, ↓w_ic_eq, ↓w_ic_ne, ↓w_ic_lt, ↓w_ic_ge, ↓w_ic_gt, ↓w_ic_le, ↓w_ireturn0, ↓w_ireturn1, ↓w_lreturn, ↓w_return_, Nat.add_assoc, Nat.reduceAdd, pi_o, pi_ss, pi_so, pi_2, pr_o, pr_s, pr_2, pl_1, pl_s, pl_o, h5, hm, hn]
        refine ⟨(by first | trivial | decide | exact bI_01 _), ?_⟩
        refine hQ _ _ ?_
        rw [itT]
        rw [if_neg y4_0]
        rw [if_pos z4_1, if_pos hk0]
        rw [← z56]
        exact c1
      · refine P_blk b_X9_readItem_59 ?_
        simp (disch := omega) only [↓w_nil, ↓w_iconst, ↓w_bipush, ↓w_sipush, ↓w_ldc, ↓w_ldc_w, ↓w_lconst, ↓w_ldc2_w, ↓w_il0, ↓w_al0, ↓w_is0, ↓w_ii0, ↓w_il1, ↓w_al1, ↓w_is1, ↓w_ii1, ↓w_il2, ↓w_al2, ↓w_is2, ↓w_ii2, ↓w_il3, ↓w_al3, ↓w_is3, ↓w_ii3, ↓w_il4, ↓w_al4, ↓w_is4, ↓w_ii4, ↓w_il5, ↓w_al5, ↓w_is5, ↓w_ii5, ↓w_il6, ↓w_is6, ↓w_ii6, ↓w_il7, ↓w_is7, ↓w_ii7, ↓w_il8, ↓w_is8, ↓w_ii8, ↓w_il9, ↓w_is9, ↓w_ii9, ↓w_il10, ↓w_is10, ↓w_ii10, ↓w_il11, ↓w_is11, ↓w_ii11, ↓w_iadd, ↓w_isub, ↓w_imul, ↓w_iand, ↓w_ior, ↓w_ixor, ↓w_ishl, ↓w_ishr, ↓w_iushr, ↓w_idiv, ↓w_irem, ↓w_ineg, ↓w_ladd, ↓w_dup, ↓w_dup2, ↓w_pop, ↓w_gi, ↓w_gl, ↓w_gz, ↓w_gr1, ↓w_gr2, ↓w_gr3, ↓w_gr4, ↓w_gr5, ↓w_gr6, ↓w_gr7, ↓w_gr8, ↓w_gr9, ↓w_gr10, ↓w_gr11, ↓w_gr12, ↓w_gr17, ↓w_gr35, ↓w_gr177, ↓w_pi, ↓w_pl, ↓w_pz, ↓w_iaload, ↓w_baload, ↓w_aaload, ↓w_iastore, ↓w_bastore, ↓w_arraylength, ↓w_goto, ↓w_if_eq, ↓w_if_ne, ↓w_if_lt, ↓w_if_ge, ↓w_if_gt, ↓w_if_le, ↓w_ic_eq, ↓w_ic_ne, ↓w_ic_lt, ↓w_ic_ge, ↓w_ic_gt, ↓w_ic_le, ↓w_ireturn0, ↓w_ireturn1, ↓w_lreturn, ↓w_return_, Nat.add_assoc, Nat.reduceAdd, pi_o, pi_ss, pi_so, pi_2, pr_o, pr_s, pr_2, pl_1, pl_s, pl_o, h5, hm, hn]
        refine P_blk b_X9_readItem_64 ?_
        simp (disch := omega) only [↓w_nil, ↓w_iconst, ↓w_bipush, ↓w_sipush, ↓w_ldc, ↓w_ldc_w, ↓w_lconst, ↓w_ldc2_w, ↓w_il0, ↓w_al0, ↓w_is0, ↓w_ii0, ↓w_il1, ↓w_al1, ↓w_is1, ↓w_ii1, ↓w_il2, ↓w_al2, ↓w_is2, ↓w_ii2, ↓w_il3, ↓w_al3, ↓w_is3, ↓w_ii3, ↓w_il4, ↓w_al4, ↓w_is4, ↓w_ii4, ↓w_il5, ↓w_al5, ↓w_is5, ↓w_ii5, ↓w_il6, ↓w_is6, ↓w_ii6, ↓w_il7, ↓w_is7, ↓w_ii7, ↓w_il8, ↓w_is8, ↓w_ii8, ↓w_il9, ↓w_is9, ↓w_ii9, ↓w_il10, ↓w_is10, ↓w_ii10, ↓w_il11, ↓w_is11, ↓w_ii11, ↓w_iadd, ↓w_isub, ↓w_imul, ↓w_iand, ↓w_ior, ↓w_ixor, ↓w_ishl, ↓w_ishr, ↓w_iushr, ↓w_idiv, ↓w_irem, ↓w_ineg, ↓w_ladd, ↓w_dup, ↓w_dup2, ↓w_pop, ↓w_gi, ↓w_gl, ↓w_gz, ↓w_gr1, ↓w_gr2, ↓w_gr3, ↓w_gr4, ↓w_gr5, ↓w_gr6, ↓w_gr7, ↓w_gr8, ↓w_gr9, ↓w_gr10, ↓w_gr11, ↓w_gr12, ↓w_gr17, ↓w_gr35, ↓w_gr177, ↓w_pi, ↓w_pl, ↓w_pz, ↓w_iaload, ↓w_baload, ↓w_aaload, ↓w_iastore, ↓w_bastore, ↓w_arraylength, ↓w_goto, ↓w_if_eq, ↓w_if_ne, ↓w_if_lt, ↓w_if_ge, ↓w_if_gt, ↓w_if_le, ↓w_ic_eq, ↓w_ic_ne, ↓w_ic_lt, ↓w_ic_ge, ↓w_ic_gt, ↓w_ic_le, ↓w_ireturn0, ↓w_ireturn1, ↓w_lreturn, ↓w_return_, Nat.add_assoc, Nat.reduceAdd, pi_o, pi_ss, pi_so, pi_2, pr_o, pr_s, pr_2, pl_1, pl_s, pl_o, h5, hm, hn]
        refine ⟨(by first | trivial | decide | exact bI_01 _), ?_⟩
        refine hQ _ _ ?_
        rw [itT]
        rw [if_neg y4_0]
        rw [if_pos z4_1, if_pos hk0]
        rw [← (PO_01 c1).resolve_left z56]
        exact c1
  refine ⟨fun z4_2 => ?_, fun y4_2 => ?_⟩
  · refine P_blk b_X9_readItem_98 ?_
    simp (disch := omega) only [↓w_nil, ↓w_iconst, ↓w_bipush, ↓w_sipush, ↓w_ldc, ↓w_ldc_w, ↓w_lconst, ↓w_ldc2_w, ↓w_il0, ↓w_al0, ↓w_is0, ↓w_ii0, ↓w_il1, ↓w_al1, ↓w_is1, ↓w_ii1, ↓w_il2, ↓w_al2, ↓w_is2, ↓w_ii2, ↓w_il3, ↓w_al3, ↓w_is3, ↓w_ii3, ↓w_il4, ↓w_al4, ↓w_is4, ↓w_ii4, ↓w_il5, ↓w_al5, ↓w_is5, ↓w_ii5, ↓w_il6, ↓w_is6, ↓w_ii6, ↓w_il7, ↓w_is7, ↓w_ii7, ↓w_il8, ↓w_is8, ↓w_ii8, ↓w_il9, ↓w_is9, ↓w_ii9, ↓w_il10, ↓w_is10, ↓w_ii10, ↓w_il11, ↓w_is11, ↓w_ii11, ↓w_iadd, ↓w_isub, ↓w_imul, ↓w_iand, ↓w_ior, ↓w_ixor, ↓w_ishl, ↓w_ishr, ↓w_iushr, ↓w_idiv, ↓w_irem, ↓w_ineg, ↓w_ladd, ↓w_dup, ↓w_dup2, ↓w_pop, ↓w_gi, ↓w_gl, ↓w_gz, ↓w_gr1, ↓w_gr2, ↓w_gr3, ↓w_gr4, ↓w_gr5, ↓w_gr6, ↓w_gr7, ↓w_gr8, ↓w_gr9, ↓w_gr10, ↓w_gr11, ↓w_gr12, ↓w_gr17, ↓w_gr35, ↓w_gr177, ↓w_pi, ↓w_pl, ↓w_pz, ↓w_iaload, ↓w_baload, ↓w_aaload, ↓w_iastore, ↓w_bastore, ↓w_arraylength, ↓w_goto, ↓w_if_eq, ↓w_if_ne, ↓w_if_lt, ↓w_if_ge, ↓w_if_gt, ↓w_if_le, ↓w_ic_eq, ↓w_ic_ne, ↓w_ic_lt, ↓w_ic_ge, ↓w_ic_gt, ↓w_ic_le, ↓w_ireturn0, ↓w_ireturn1, ↓w_lreturn, ↓w_return_, Nat.add_assoc, Nat.reduceAdd, pi_o, pi_ss, pi_so, pi_2, pr_o, pr_s, pr_2, pl_1, pl_s, pl_o, h5, hm, hn]
    refine ⟨(by first | assumption | exact rfl), (by first | assumption | exact rfl), (by first | assumption | exact rfl), ?_⟩
    refine ⟨fun z110 => ?_, fun z110 => ?_⟩
    · refine P_blk b_X9_readItem_124 ?_
      simp (disch := omega) only [↓w_nil, ↓w_iconst, ↓w_bipush, ↓w_sipush, ↓w_ldc, ↓w_ldc_w, ↓w_lconst, ↓w_ldc2_w, ↓w_il0, ↓w_al0, ↓w_is0, ↓w_ii0, ↓w_il1, ↓w_al1, ↓w_is1, ↓w_ii1, ↓w_il2, ↓w_al2, ↓w_is2, ↓w_ii2, ↓w_il3, ↓w_al3, ↓w_is3, ↓w_ii3, ↓w_il4, ↓w_al4, ↓w_is4, ↓w_ii4, ↓w_il5, ↓w_al5, ↓w_is5, ↓w_ii5, ↓w_il6, ↓w_is6, ↓w_ii6, ↓w_il7, ↓w_is7, ↓w_ii7, ↓w_il8, ↓w_is8, ↓w_ii8, ↓w_il9, ↓w_is9, ↓w_ii9, ↓w_il10, ↓w_is10, ↓w_ii10, ↓w_il11, ↓w_is11, ↓w_ii11, ↓w_iadd, ↓w_isub, ↓w_imul, ↓w_iand, ↓w_ior, ↓w_ixor, ↓w_ishl, ↓w_ishr, ↓w_iushr, ↓w_idiv, ↓w_irem, ↓w_ineg, ↓w_ladd, ↓w_dup, ↓w_dup2, ↓w_pop, ↓w_gi, ↓w_gl, ↓w_gz, ↓w_gr1, ↓w_gr2, ↓w_gr3, ↓w_gr4, ↓w_gr5, ↓w_gr6, ↓w_gr7, ↓w_gr8, ↓w_gr9, ↓w_gr10, ↓w_gr11, ↓w_gr12, ↓w_gr17, ↓w_gr35, ↓w_gr177, ↓w_pi, ↓w_pl, ↓w_pz, ↓w_iaload, ↓w_baload, ↓w_aaload, ↓w_iastore, ↓w_bastore, ↓w_arraylength, ↓w_goto, ↓w_if_eq, ↓w_if_ne, ↓w_if_lt, ↓w_if_ge, ↓w_if_gt, ↓w_if_le, ↓w_ic_eq, ↓w_ic_ne, ↓w_ic_lt, ↓w_ic_ge, ↓w_ic_gt, ↓w_ic_le, ↓w_ireturn0, ↓w_ireturn1, ↓w_lreturn, ↓w_return_, Nat.add_assoc, Nat.reduceAdd, pi_o, pi_ss, pi_so, pi_2, pr_o, pr_s, pr_2, pl_1, pl_s, pl_o, h5, hm, hn]
      refine P_blk b_X9_readItem_125 ?_
      simp (disch := omega) only [↓w_nil, ↓w_iconst, ↓w_bipush, ↓w_sipush, ↓w_ldc, ↓w_ldc_w, ↓w_lconst, ↓w_ldc2_w, ↓w_il0, ↓w_al0, ↓w_is0, ↓w_ii0, ↓w_il1, ↓w_al1, ↓w_is1, ↓w_ii1, ↓w_il2, ↓w_al2, ↓w_is2, ↓w_ii2, ↓w_il3, ↓w_al3, ↓w_is3, ↓w_ii3, ↓w_il4, ↓w_al4, ↓w_is4, ↓w_ii4, ↓w_il5, ↓w_al5, ↓w_is5, ↓w_ii5, ↓w_il6, ↓w_is6, ↓w_ii6, ↓w_il7, ↓w_is7, ↓w_ii7, ↓w_il8, ↓w_is8, ↓w_ii8, ↓w_il9, ↓w_is9, ↓w_ii9, ↓w_il10, ↓w_is10, ↓w_ii10, ↓w_il11, ↓w_is11, ↓w_ii11, ↓w_iadd, ↓w_isub, ↓w_imul, ↓w_iand, ↓w_ior, ↓w_ixor, ↓w_ishl, ↓w_ishr, ↓w_iushr, ↓w_idiv, ↓w_irem, ↓w_ineg, ↓w_ladd, ↓w_dup, ↓w_dup2, ↓w_pop, ↓w_gi, ↓w_gl, ↓w_gz, ↓w_gr1, ↓w_gr2, ↓w_gr3, ↓w_gr4, ↓w_gr5, ↓w_gr6, ↓w_gr7, ↓w_gr8, ↓w_gr9, ↓w_gr10, ↓w_gr11, ↓w_gr12, ↓w_gr17, ↓w_gr35, ↓w_gr177, ↓w_pi, ↓w_pl, ↓w_pz, ↓w_iaload, ↓w_baload, ↓w_aaload, ↓w_iastore, ↓w_bastore, ↓w_arraylength, ↓w_goto, ↓w_if_eq, ↓w_if_ne, ↓w_if_lt, ↓w_if_ge, ↓w_if_gt, ↓w_if_le, ↓w_ic_eq, ↓w_ic_ne, ↓w_ic_lt, ↓w_ic_ge, ↓w_ic_gt, ↓w_ic_le, ↓w_ireturn0, ↓w_ireturn1, ↓w_lreturn, ↓w_return_, Nat.add_assoc, Nat.reduceAdd, pi_o, pi_ss, pi_so, pi_2, pr_o, pr_s, pr_2, pl_1, pl_s, pl_o, h5, hm, hn]
      refine ⟨(by first | trivial | decide | exact bI_01 _), ?_⟩
      refine hQ _ _ ?_
      rw [itT]
      rw [if_neg y4_0]
      rw [if_neg y4_1]
      rw [if_pos z4_2, if_neg (fun q => absurd (nI_ge (b := 6) q (by decide)) (not_not_intro z110))]
      exact ⟨rfl, hT.1, h6⟩
    · have hlt6 : T.2.2.2.2.1 < 6 := nI_go (m := 6) (by decide) hok.2.2.2 z110
      refine P_blk b_X9_readItem_113 ?_
      simp (disch := omega) only [↓w_nil, ↓w_iconst, ↓w_bipush, ↓w_sipush, ↓w_ldc, ↓w_ldc_w, ↓w_lconst, ↓w_ldc2_w, ↓w_il0, ↓w_al0, ↓w_is0, ↓w_ii0, ↓w_il1, ↓w_al1, ↓w_is1, ↓w_ii1, ↓w_il2, ↓w_al2, ↓w_is2, ↓w_ii2, ↓w_il3, ↓w_al3, ↓w_is3, ↓w_ii3, ↓w_il4, ↓w_al4, ↓w_is4, ↓w_ii4, ↓w_il5, ↓w_al5, ↓w_is5, ↓w_ii5, ↓w_il6, ↓w_is6, ↓w_ii6, ↓w_il7, ↓w_is7, ↓w_ii7, ↓w_il8, ↓w_is8, ↓w_ii8, ↓w_il9, ↓w_is9, ↓w_ii9, ↓w_il10, ↓w_is10, ↓w_ii10, ↓w_il11, ↓w_is11, ↓w_ii11, ↓w_iadd, ↓w_isub, ↓w_imul, ↓w_iand, ↓w_ior, ↓w_ixor, ↓w_ishl, ↓w_ishr, ↓w_iushr, ↓w_idiv, ↓w_irem, ↓w_ineg, ↓w_ladd, ↓w_dup, ↓w_dup2, ↓w_pop, ↓w_gi, ↓w_gl, ↓w_gz, ↓w_gr1, ↓w_gr2, ↓w_gr3, ↓w_gr4, ↓w_gr5, ↓w_gr6, ↓w_gr7, ↓w_gr8, ↓w_gr9, ↓w_gr10, ↓w_gr11, ↓w_gr12, ↓w_gr17, ↓w_gr35, ↓w_gr177, ↓w_pi, ↓w_pl, ↓w_pz, ↓w_iaload, ↓w_baload, ↓w_aaload, ↓w_iastore, ↓w_bastore, ↓w_arraylength, ↓w_goto, ↓w_if_eq, ↓w_if_ne, ↓w_if_lt, ↓w_if_ge, ↓w_if_gt, ↓w_if_le, ↓w_ic_eq, ↓w_ic_ne, ↓w_ic_lt, ↓w_ic_ge, ↓w_ic_gt, ↓w_ic_le, ↓w_ireturn0, ↓w_ireturn1, ↓w_lreturn, ↓w_return_, Nat.add_assoc, Nat.reduceAdd, pi_o, pi_ss, pi_so, pi_2, pr_o, pr_s, pr_2, pl_1, pl_s, pl_o, h5, hm, hn]
      refine P_V0iP k_X9_readItem_114 (by first | assumption | exact rfl) (u_X9_readPage hlt hlen h200 hch hT x0.2 hok hlt6) rfl rfl ?_
      intro r1 s1 c1
      refine P_blk b_X9_readItem_117 ?_
      simp (disch := omega) only [↓w_nil, ↓w_iconst, ↓w_bipush, ↓w_sipush, ↓w_ldc, ↓w_ldc_w, ↓w_lconst, ↓w_ldc2_w, ↓w_il0, ↓w_al0, ↓w_is0, ↓w_ii0, ↓w_il1, ↓w_al1, ↓w_is1, ↓w_ii1, ↓w_il2, ↓w_al2, ↓w_is2, ↓w_ii2, ↓w_il3, ↓w_al3, ↓w_is3, ↓w_ii3, ↓w_il4, ↓w_al4, ↓w_is4, ↓w_ii4, ↓w_il5, ↓w_al5, ↓w_is5, ↓w_ii5, ↓w_il6, ↓w_is6, ↓w_ii6, ↓w_il7, ↓w_is7, ↓w_ii7, ↓w_il8, ↓w_is8, ↓w_ii8, ↓w_il9, ↓w_is9, ↓w_ii9, ↓w_il10, ↓w_is10, ↓w_ii10, ↓w_il11, ↓w_is11, ↓w_ii11, ↓w_iadd, ↓w_isub, ↓w_imul, ↓w_iand, ↓w_ior, ↓w_ixor, ↓w_ishl, ↓w_ishr, ↓w_iushr, ↓w_idiv, ↓w_irem, ↓w_ineg, ↓w_ladd, ↓w_dup, ↓w_dup2, ↓w_pop, ↓w_gi, ↓w_gl, ↓w_gz, ↓w_gr1, ↓w_gr2, ↓w_gr3, ↓w_gr4, ↓w_gr5, ↓w_gr6, ↓w_gr7, ↓w_gr8, ↓w_gr9, ↓w_gr10, ↓w_gr11, ↓w_gr12, ↓w_gr17, ↓w_gr35, ↓w_gr177, ↓w_pi, ↓w_pl, ↓w_pz, ↓w_iaload, ↓w_baload, ↓w_aaload, ↓w_iastore, ↓w_bastore, ↓w_arraylength, ↓w_goto, ↓w_if_eq, ↓w_if_ne, ↓w_if_lt, ↓w_if_ge, ↓w_if_gt, ↓w_if_le, ↓w_ic_eq, ↓w_ic_ne, ↓w_ic_lt, ↓w_ic_ge, ↓w_ic_gt, ↓w_ic_le, ↓w_ireturn0, ↓w_ireturn1, ↓w_lreturn, ↓w_return_, Nat.add_assoc, Nat.reduceAdd, pi_o, pi_ss, pi_so, pi_2, pr_o, pr_s, pr_2, pl_1, pl_s, pl_o, h5, hm, hn]
      refine ⟨fun z117 => ?_, fun z117 => ?_⟩
      · refine P_blk b_X9_readItem_124 ?_
        simp (disch := omega) only [↓w_nil, ↓w_iconst, ↓w_bipush, ↓w_sipush, ↓w_ldc, ↓w_ldc_w, ↓w_lconst, ↓w_ldc2_w, ↓w_il0, ↓w_al0, ↓w_is0, ↓w_ii0, ↓w_il1, ↓w_al1, ↓w_is1, ↓w_ii1, ↓w_il2, ↓w_al2, ↓w_is2, ↓w_ii2, ↓w_il3, ↓w_al3, ↓w_is3, ↓w_ii3, ↓w_il4, ↓w_al4, ↓w_is4, ↓w_ii4, ↓w_il5, ↓w_al5, ↓w_is5, ↓w_ii5, ↓w_il6, ↓w_is6, ↓w_ii6, ↓w_il7, ↓w_is7, ↓w_ii7, ↓w_il8, ↓w_is8, ↓w_ii8, ↓w_il9, ↓w_is9, ↓w_ii9, ↓w_il10, ↓w_is10, ↓w_ii10, ↓w_il11, ↓w_is11, ↓w_ii11, ↓w_iadd, ↓w_isub, ↓w_imul, ↓w_iand, ↓w_ior, ↓w_ixor, ↓w_ishl, ↓w_ishr, ↓w_iushr, ↓w_idiv, ↓w_irem, ↓w_ineg, ↓w_ladd, ↓w_dup, ↓w_dup2, ↓w_pop, ↓w_gi, ↓w_gl, ↓w_gz, ↓w_gr1, ↓w_gr2, ↓w_gr3, ↓w_gr4, ↓w_gr5, ↓w_gr6, ↓w_gr7, ↓w_gr8, ↓w_gr9, ↓w_gr10, ↓w_gr11, ↓w_gr12, ↓w_gr17, ↓w_gr35, ↓w_gr177, ↓w_pi, ↓w_pl, ↓w_pz, ↓w_iaload, ↓w_baload, ↓w_aaload, ↓w_iastore, ↓w_bastore, ↓w_arraylength, ↓w_goto, ↓w_if_eq, ↓w_if_ne, ↓w_if_lt, ↓w_if_ge, ↓w_if_gt, ↓w_if_le, ↓w_ic_eq, ↓w_ic_ne, ↓w_ic_lt, ↓w_ic_ge, ↓w_ic_gt, ↓w_ic_le, ↓w_ireturn0, ↓w_ireturn1, ↓w_lreturn, ↓w_return_, Nat.add_assoc, Nat.reduceAdd, pi_o, pi_ss, pi_so, pi_2, pr_o, pr_s, pr_2, pl_1, pl_s, pl_o, h5, hm, hn]
        refine P_blk b_X9_readItem_125 ?_
        simp (disch := omega) only [↓w_nil, ↓w_iconst, ↓w_bipush, ↓w_sipush, ↓w_ldc, ↓w_ldc_w, ↓w_lconst, ↓w_ldc2_w, ↓w_il0, ↓w_al0, ↓w_is0, ↓w_ii0, ↓w_il1, ↓w_al1, ↓w_is1, ↓w_ii1, ↓w_il2, ↓w_al2, ↓w_is2, ↓w_ii2, ↓w_il3, ↓w_al3, ↓w_is3, ↓w_ii3, ↓w_il4, ↓w_al4, ↓w_is4, ↓w_ii4, ↓w_il5, ↓w_al5, ↓w_is5, ↓w_ii5, ↓w_il6, ↓w_is6, ↓w_ii6, ↓w_il7, ↓w_is7, ↓w_ii7, ↓w_il8, ↓w_is8, ↓w_ii8, ↓w_il9, ↓w_is9, ↓w_ii9, ↓w_il10, ↓w_is10, ↓w_ii10, ↓w_il11, ↓w_is11, ↓w_ii11, ↓w_iadd, ↓w_isub, ↓w_imul, ↓w_iand, ↓w_ior, ↓w_ixor, ↓w_ishl, ↓w_ishr, ↓w_iushr, ↓w_idiv, ↓w_irem, ↓w_ineg, ↓w_ladd, ↓w_dup, ↓w_dup2, ↓w_pop, ↓w_gi, ↓w_gl, ↓w_gz, ↓w_gr1, ↓w_gr2, ↓w_gr3, ↓w_gr4, ↓w_gr5, ↓w_gr6, ↓w_gr7, ↓w_gr8, ↓w_gr9, ↓w_gr10, ↓w_gr11, ↓w_gr12, ↓w_gr17, ↓w_gr35, ↓w_gr177, ↓w_pi, ↓w_pl, ↓w_pz, ↓w_iaload, ↓w_baload, ↓w_aaload, ↓w_iastore, ↓w_bastore, ↓w_arraylength, ↓w_goto, ↓w_if_eq, ↓w_if_ne, ↓w_if_lt, ↓w_if_ge, ↓w_if_gt, ↓w_if_le, ↓w_ic_eq, ↓w_ic_ne, ↓w_ic_lt, ↓w_ic_ge, ↓w_ic_gt, ↓w_ic_le, ↓w_ireturn0, ↓w_ireturn1, ↓w_lreturn, ↓w_return_, Nat.add_assoc, Nat.reduceAdd, pi_o, pi_ss, pi_so, pi_2, pr_o, pr_s, pr_2, pl_1, pl_s, pl_o, h5, hm, hn]
        refine ⟨(by first | trivial | decide | exact bI_01 _), ?_⟩
        refine hQ _ _ ?_
        rw [itT]
        rw [if_neg y4_0]
        rw [if_neg y4_1]
        rw [if_pos z4_2, if_pos hlt6]
        rw [← z117]
        exact c1
      · refine P_blk b_X9_readItem_120 ?_
        simp (disch := omega) only [↓w_nil, ↓w_iconst, ↓w_bipush, ↓w_sipush, ↓w_ldc, ↓w_ldc_w, ↓w_lconst, ↓w_ldc2_w, ↓w_il0, ↓w_al0, ↓w_is0, ↓w_ii0, ↓w_il1, ↓w_al1, ↓w_is1, ↓w_ii1, ↓w_il2, ↓w_al2, ↓w_is2, ↓w_ii2, ↓w_il3, ↓w_al3, ↓w_is3, ↓w_ii3, ↓w_il4, ↓w_al4, ↓w_is4, ↓w_ii4, ↓w_il5, ↓w_al5, ↓w_is5, ↓w_ii5, ↓w_il6, ↓w_is6, ↓w_ii6, ↓w_il7, ↓w_is7, ↓w_ii7, ↓w_il8, ↓w_is8, ↓w_ii8, ↓w_il9, ↓w_is9, ↓w_ii9, ↓w_il10, ↓w_is10, ↓w_ii10, ↓w_il11, ↓w_is11, ↓w_ii11, ↓w_iadd, ↓w_isub, ↓w_imul, ↓w_iand, ↓w_ior, ↓w_ixor, ↓w_ishl, ↓w_ishr, ↓w_iushr, ↓w_idiv, ↓w_irem, ↓w_ineg, ↓w_ladd, ↓w_dup, ↓w_dup2, ↓w_pop, ↓w_gi, ↓w_gl, ↓w_gz, ↓w_gr1, ↓w_gr2, ↓w_gr3, ↓w_gr4, ↓w_gr5, ↓w_gr6, ↓w_gr7, ↓w_gr8, ↓w_gr9, ↓w_gr10, ↓w_gr11, ↓w_gr12, ↓w_gr17, ↓w_gr35, ↓w_gr177, ↓w_pi, ↓w_pl, ↓w_pz, ↓w_iaload, ↓w_baload, ↓w_aaload, ↓w_iastore, ↓w_bastore, ↓w_arraylength, ↓w_goto, ↓w_if_eq, ↓w_if_ne, ↓w_if_lt, ↓w_if_ge, ↓w_if_gt, ↓w_if_le, ↓w_ic_eq, ↓w_ic_ne, ↓w_ic_lt, ↓w_ic_ge, ↓w_ic_gt, ↓w_ic_le, ↓w_ireturn0, ↓w_ireturn1, ↓w_lreturn, ↓w_return_, Nat.add_assoc, Nat.reduceAdd, pi_o, pi_ss, pi_so, pi_2, pr_o, pr_s, pr_2, pl_1, pl_s, pl_o, h5, hm, hn]
        refine P_blk b_X9_readItem_125 ?_
        simp (disch := omega) only [↓w_nil, ↓w_iconst, ↓w_bipush, ↓w_sipush, ↓w_ldc, ↓w_ldc_w, ↓w_lconst, ↓w_ldc2_w, ↓w_il0, ↓w_al0, ↓w_is0, ↓w_ii0, ↓w_il1, ↓w_al1, ↓w_is1, ↓w_ii1, ↓w_il2, ↓w_al2, ↓w_is2, ↓w_ii2, ↓w_il3, ↓w_al3, ↓w_is3, ↓w_ii3, ↓w_il4, ↓w_al4, ↓w_is4, ↓w_ii4, ↓w_il5, ↓w_al5, ↓w_is5, ↓w_ii5, ↓w_il6, ↓w_is6, ↓w_ii6, ↓w_il7, ↓w_is7, ↓w_ii7, ↓w_il8, ↓w_is8, ↓w_ii8, ↓w_il9, ↓w_is9, ↓w_ii9, ↓w_il10, ↓w_is10, ↓w_ii10, ↓w_il11, ↓w_is11, ↓w_ii11, ↓w_iadd, ↓w_isub, ↓w_imul, ↓w_iand, ↓w_ior, ↓w_ixor, ↓w_ishl, ↓w_ishr, ↓w_iushr, ↓w_idiv, ↓w_irem, ↓w_ineg, ↓w_ladd, ↓w_dup, ↓w_dup2, ↓w_pop, ↓w_gi, ↓w_gl, ↓w_gz, ↓w_gr1, ↓w_gr2, ↓w_gr3, ↓w_gr4, ↓w_gr5, ↓w_gr6, ↓w_gr7, ↓w_gr8, ↓w_gr9, ↓w_gr10, ↓w_gr11, ↓w_gr12, ↓w_gr17, ↓w_gr35, ↓w_gr177, ↓w_pi, ↓w_pl, ↓w_pz, ↓w_iaload, ↓w_baload, ↓w_aaload, ↓w_iastore, ↓w_bastore, ↓w_arraylength, ↓w_goto, ↓w_if_eq, ↓w_if_ne, ↓w_if_lt, ↓w_if_ge, ↓w_if_gt, ↓w_if_le, ↓w_ic_eq, ↓w_ic_ne, ↓w_ic_lt, ↓w_ic_ge, ↓w_ic_gt, ↓w_ic_le, ↓w_ireturn0, ↓w_ireturn1, ↓w_lreturn, ↓w_return_, Nat.add_assoc, Nat.reduceAdd, pi_o, pi_ss, pi_so, pi_2, pr_o, pr_s, pr_2, pl_1, pl_s, pl_o, h5, hm, hn]
        refine ⟨(by first | trivial | decide | exact bI_01 _), ?_⟩
        refine hQ _ _ ?_
        rw [itT]
        rw [if_neg y4_0]
        rw [if_neg y4_1]
        rw [if_pos z4_2, if_pos hlt6]
        rw [← (PO_01 c1).resolve_left z117]
        exact c1
  refine ⟨fun z4_3 => ?_, fun y4_3 => ?_⟩
  · refine P_blk b_X9_readItem_65 ?_
    simp (disch := omega) only [↓w_nil, ↓w_iconst, ↓w_bipush, ↓w_sipush, ↓w_ldc, ↓w_ldc_w, ↓w_lconst, ↓w_ldc2_w, ↓w_il0, ↓w_al0, ↓w_is0, ↓w_ii0, ↓w_il1, ↓w_al1, ↓w_is1, ↓w_ii1, ↓w_il2, ↓w_al2, ↓w_is2, ↓w_ii2, ↓w_il3, ↓w_al3, ↓w_is3, ↓w_ii3, ↓w_il4, ↓w_al4, ↓w_is4, ↓w_ii4, ↓w_il5, ↓w_al5, ↓w_is5, ↓w_ii5, ↓w_il6, ↓w_is6, ↓w_ii6, ↓w_il7, ↓w_is7, ↓w_ii7, ↓w_il8, ↓w_is8, ↓w_ii8, ↓w_il9, ↓w_is9, ↓w_ii9, ↓w_il10, ↓w_is10, ↓w_ii10, ↓w_il11, ↓w_is11, ↓w_ii11, ↓w_iadd, ↓w_isub, ↓w_imul, ↓w_iand, ↓w_ior, ↓w_ixor, ↓w_ishl, ↓w_ishr, ↓w_iushr, ↓w_idiv, ↓w_irem, ↓w_ineg, ↓w_ladd, ↓w_dup, ↓w_dup2, ↓w_pop, ↓w_gi, ↓w_gl, ↓w_gz, ↓w_gr1, ↓w_gr2, ↓w_gr3, ↓w_gr4, ↓w_gr5, ↓w_gr6, ↓w_gr7, ↓w_gr8, ↓w_gr9, ↓w_gr10, ↓w_gr11, ↓w_gr12, ↓w_gr17, ↓w_gr35, ↓w_gr177, ↓w_pi, ↓w_pl, ↓w_pz, ↓w_iaload, ↓w_baload, ↓w_aaload, ↓w_iastore, ↓w_bastore, ↓w_arraylength, ↓w_goto, ↓w_if_eq, ↓w_if_ne, ↓w_if_lt, ↓w_if_ge, ↓w_if_gt, ↓w_if_le, ↓w_ic_eq, ↓w_ic_ne, ↓w_ic_lt, ↓w_ic_ge, ↓w_ic_gt, ↓w_ic_le, ↓w_ireturn0, ↓w_ireturn1, ↓w_lreturn, ↓w_return_, Nat.add_assoc, Nat.reduceAdd, pi_o, pi_ss, pi_so, pi_2, pr_o, pr_s, pr_2, pl_1, pl_s, pl_o, h5, hm, hn]
    refine P_V0iP k_X9_readItem_66 (by first | assumption | exact rfl) (u_X9_readRoad hlt hlen h200 hch hT x0.2 hok) rfl rfl ?_
    intro r1 s1 c1
    refine P_blk b_X9_readItem_69 ?_
    simp (disch := omega) only [↓w_nil, ↓w_iconst, ↓w_bipush, ↓w_sipush, ↓w_ldc, ↓w_ldc_w, ↓w_lconst, ↓w_ldc2_w, ↓w_il0, ↓w_al0, ↓w_is0, ↓w_ii0, ↓w_il1, ↓w_al1, ↓w_is1, ↓w_ii1, ↓w_il2, ↓w_al2, ↓w_is2, ↓w_ii2, ↓w_il3, ↓w_al3, ↓w_is3, ↓w_ii3, ↓w_il4, ↓w_al4, ↓w_is4, ↓w_ii4, ↓w_il5, ↓w_al5, ↓w_is5, ↓w_ii5, ↓w_il6, ↓w_is6, ↓w_ii6, ↓w_il7, ↓w_is7, ↓w_ii7, ↓w_il8, ↓w_is8, ↓w_ii8, ↓w_il9, ↓w_is9, ↓w_ii9, ↓w_il10, ↓w_is10, ↓w_ii10, ↓w_il11, ↓w_is11, ↓w_ii11, ↓w_iadd, ↓w_isub, ↓w_imul, ↓w_iand, ↓w_ior, ↓w_ixor, ↓w_ishl, ↓w_ishr, ↓w_iushr, ↓w_idiv, ↓w_irem, ↓w_ineg, ↓w_ladd, ↓w_dup, ↓w_dup2, ↓w_pop, ↓w_gi, ↓w_gl, ↓w_gz, ↓w_gr1, ↓w_gr2, ↓w_gr3, ↓w_gr4, ↓w_gr5, ↓w_gr6, ↓w_gr7, ↓w_gr8, ↓w_gr9, ↓w_gr10, ↓w_gr11, ↓w_gr12, ↓w_gr17, ↓w_gr35, ↓w_gr177, ↓w_pi, ↓w_pl, ↓w_pz, ↓w_iaload, ↓w_baload, ↓w_aaload, ↓w_iastore, ↓w_bastore, ↓w_arraylength, ↓w_goto, ↓w_if_eq, ↓w_if_ne, ↓w_if_lt, ↓w_if_ge, ↓w_if_gt, ↓w_if_le, ↓w_ic_eq, ↓w_ic_ne, ↓w_ic_lt, ↓w_ic_ge, ↓w_ic_gt, ↓w_ic_le, ↓w_ireturn0, ↓w_ireturn1, ↓w_lreturn, ↓w_return_, Nat.add_assoc, Nat.reduceAdd, pi_o, pi_ss, pi_so, pi_2, pr_o, pr_s, pr_2, pl_1, pl_s, pl_o, h5, hm, hn]
    refine ⟨(by exact PO_01 c1), ?_⟩
    refine hQ _ _ ?_
    rw [itT]
    rw [if_neg y4_0]
    rw [if_neg y4_1]
    rw [if_neg y4_2]
    rw [if_pos z4_3]
    exact c1
  refine P_blk b_X9_readItem_126 ?_
  simp (disch := omega) only [↓w_nil, ↓w_iconst, ↓w_bipush, ↓w_sipush, ↓w_ldc, ↓w_ldc_w, ↓w_lconst, ↓w_ldc2_w, ↓w_il0, ↓w_al0, ↓w_is0, ↓w_ii0, ↓w_il1, ↓w_al1, ↓w_is1, ↓w_ii1, ↓w_il2, ↓w_al2, ↓w_is2, ↓w_ii2, ↓w_il3, ↓w_al3, ↓w_is3, ↓w_ii3, ↓w_il4, ↓w_al4, ↓w_is4, ↓w_ii4, ↓w_il5, ↓w_al5, ↓w_is5, ↓w_ii5, ↓w_il6, ↓w_is6, ↓w_ii6, ↓w_il7, ↓w_is7, ↓w_ii7, ↓w_il8, ↓w_is8, ↓w_ii8, ↓w_il9, ↓w_is9, ↓w_ii9, ↓w_il10, ↓w_is10, ↓w_ii10, ↓w_il11, ↓w_is11, ↓w_ii11, ↓w_iadd, ↓w_isub, ↓w_imul, ↓w_iand, ↓w_ior, ↓w_ixor, ↓w_ishl, ↓w_ishr, ↓w_iushr, ↓w_idiv, ↓w_irem, ↓w_ineg, ↓w_ladd, ↓w_dup, ↓w_dup2, ↓w_pop, ↓w_gi, ↓w_gl, ↓w_gz, ↓w_gr1, ↓w_gr2, ↓w_gr3, ↓w_gr4, ↓w_gr5, ↓w_gr6, ↓w_gr7, ↓w_gr8, ↓w_gr9, ↓w_gr10, ↓w_gr11, ↓w_gr12, ↓w_gr17, ↓w_gr35, ↓w_gr177, ↓w_pi, ↓w_pl, ↓w_pz, ↓w_iaload, ↓w_baload, ↓w_aaload, ↓w_iastore, ↓w_bastore, ↓w_arraylength, ↓w_goto, ↓w_if_eq, ↓w_if_ne, ↓w_if_lt, ↓w_if_ge, ↓w_if_gt, ↓w_if_le, ↓w_ic_eq, ↓w_ic_ne, ↓w_ic_lt, ↓w_ic_ge, ↓w_ic_gt, ↓w_ic_le, ↓w_ireturn0, ↓w_ireturn1, ↓w_lreturn, ↓w_return_, Nat.add_assoc, Nat.reduceAdd, pi_o, pi_ss, pi_so, pi_2, pr_o, pr_s, pr_2, pl_1, pl_s, pl_o, h5, hm, hn]
  refine ⟨(by first | trivial | decide | exact bI_01 _), ?_⟩
  refine hQ _ _ ?_
  rw [itT]
  rw [if_neg y4_0]
  rw [if_neg y4_1]
  rw [if_neg y4_2]
  rw [if_neg y4_3]
  exact ⟨rfl, hT.1, h6⟩

set_option maxHeartbeats 400000 in
theorem lp_all {σ : St} {lt : Nat → Int32} {len : Nat} (hlt : σ.1 34 = lt) (hlen : σ.1 17 0 = nI len) (h200 : len ≤ 200) (hch : ∀ i, i < len → 0 ≤ lt i) {N : Nat} (hN : N = 201) {R : Nat ⊕ (Nat × TD)} {Q : Option Value → St → Prop} (hQ : ∀ r s, PA σ R r s → Q (some (.int r)) s) : ∀ i, i ≤ N → ∀ (s : St) (T : TD) (p : Nat), CT σ T p s → p ≤ len → okT T → prs lt len (N - i) i T p = R → PW m_X9_readAll (Q) 36 [.ref 17, .int (nI i)] [] (s) := by
  refine loop_down (fun i hi ih => ?_)
  have hci : (nI i).toNatClampNeg = i := nI_clamp (by omega)
  intro s T p hT hpl hok hR
  refine P_blk b_X9_readAll_36 ?_
  simp (disch := omega) only [↓w_nil, ↓w_iconst, ↓w_bipush, ↓w_sipush, ↓w_ldc, ↓w_ldc_w, ↓w_lconst, ↓w_ldc2_w, ↓w_il0, ↓w_al0, ↓w_is0, ↓n_ii0, ↓w_il1, ↓w_al1, ↓w_is1, ↓n_ii1, ↓w_il2, ↓w_al2, ↓w_is2, ↓n_ii2, ↓w_il3, ↓w_al3, ↓w_is3, ↓n_ii3, ↓w_il4, ↓w_al4, ↓w_is4, ↓n_ii4, ↓w_il5, ↓w_al5, ↓w_is5, ↓n_ii5, ↓w_il6, ↓w_is6, ↓n_ii6, ↓w_il7, ↓w_is7, ↓n_ii7, ↓w_il8, ↓w_is8, ↓n_ii8, ↓w_il9, ↓w_is9, ↓n_ii9, ↓w_il10, ↓w_is10, ↓n_ii10, ↓w_il11, ↓w_is11, ↓n_ii11, ↓n_iadd, ↓n_isub, ↓n_imul, ↓n_iand, ↓n_ior, ↓n_ixor, ↓n_ishl, ↓n_ishr, ↓n_iushr, ↓n_idiv, ↓n_irem, ↓n_ineg, ↓n_ladd, ↓w_dup, ↓w_dup2, ↓w_pop, ↓w_gi, ↓w_gl, ↓w_gz, ↓w_gr1, ↓w_gr2, ↓w_gr3, ↓w_gr4, ↓w_gr5, ↓w_gr6, ↓w_gr7, ↓w_gr8, ↓w_gr9, ↓w_gr10, ↓w_gr11, ↓w_gr12, ↓w_gr17, ↓w_gr35, ↓w_gr177, ↓w_pi, ↓w_pl, ↓w_pz, ↓w_iaload, ↓w_baload, ↓w_aaload, ↓w_iastore, ↓w_bastore, ↓w_arraylength, ↓w_goto, ↓w_if_eq, ↓w_if_ne, ↓w_if_lt, ↓w_if_ge, ↓w_if_gt, ↓w_if_le, ↓w_ic_eq, ↓w_ic_ne, ↓w_ic_lt, ↓w_ic_ge, ↓w_ic_gt, ↓w_ic_le, ↓w_ireturn0, ↓w_ireturn1, ↓w_lreturn, ↓w_return_, Nat.add_assoc, Nat.reduceAdd, pi_o, pi_ss, pi_so, pi_2, pr_o, pr_s, pr_2, pl_1, pl_s, pl_o]
  refine ⟨fun z40 => ?_, fun z40 => ?_⟩
  · have hie : i = N := by have := (g200 i (by omega)).mp z40; omega
    subst hie
    rw [Nat.sub_self] at hR
    simp only [prs] at hR
    subst hR
    have h17 : s.1 17 0 = nI len := by rw [hT.1.2.1]; exact hlen
    refine P_blk b_X9_readAll_79 ?_
    simp (disch := omega) only [↓w_nil, ↓w_iconst, ↓w_bipush, ↓w_sipush, ↓w_ldc, ↓w_ldc_w, ↓w_lconst, ↓w_ldc2_w, ↓w_il0, ↓w_al0, ↓w_is0, ↓n_ii0, ↓w_il1, ↓w_al1, ↓w_is1, ↓n_ii1, ↓w_il2, ↓w_al2, ↓w_is2, ↓n_ii2, ↓w_il3, ↓w_al3, ↓w_is3, ↓n_ii3, ↓w_il4, ↓w_al4, ↓w_is4, ↓n_ii4, ↓w_il5, ↓w_al5, ↓w_is5, ↓n_ii5, ↓w_il6, ↓w_is6, ↓n_ii6, ↓w_il7, ↓w_is7, ↓n_ii7, ↓w_il8, ↓w_is8, ↓n_ii8, ↓w_il9, ↓w_is9, ↓n_ii9, ↓w_il10, ↓w_is10, ↓n_ii10, ↓w_il11, ↓w_is11, ↓n_ii11, ↓n_iadd, ↓n_isub, ↓n_imul, ↓n_iand, ↓n_ior, ↓n_ixor, ↓n_ishl, ↓n_ishr, ↓n_iushr, ↓n_idiv, ↓n_irem, ↓n_ineg, ↓n_ladd, ↓w_dup, ↓w_dup2, ↓w_pop, ↓w_gi, ↓w_gl, ↓w_gz, ↓w_gr1, ↓w_gr2, ↓w_gr3, ↓w_gr4, ↓w_gr5, ↓w_gr6, ↓w_gr7, ↓w_gr8, ↓w_gr9, ↓w_gr10, ↓w_gr11, ↓w_gr12, ↓w_gr17, ↓w_gr35, ↓w_gr177, ↓w_pi, ↓w_pl, ↓w_pz, ↓w_iaload, ↓w_baload, ↓w_aaload, ↓w_iastore, ↓w_bastore, ↓w_arraylength, ↓w_goto, ↓w_if_eq, ↓w_if_ne, ↓w_if_lt, ↓w_if_ge, ↓w_if_gt, ↓w_if_le, ↓w_ic_eq, ↓w_ic_ne, ↓w_ic_lt, ↓w_ic_ge, ↓w_ic_gt, ↓w_ic_le, ↓w_ireturn0, ↓w_ireturn1, ↓w_lreturn, ↓w_return_, Nat.add_assoc, Nat.reduceAdd, pi_o, pi_ss, pi_so, pi_2, pr_o, pr_s, pr_2, pl_1, pl_s, pl_o, h17]
    refine ⟨(by first | assumption | exact rfl), ?_⟩
    exact hQ _ _ ⟨rfl, hT.1⟩
  · have hlt2 : i < N := by have := mt (g200 i (by omega)).mpr z40; omega
    rw [show N - i = (N - (i + 1)) + 1 by omega] at hR
    simp only [prs] at hR
    refine P_blk b_X9_readAll_43 ?_
    simp (disch := omega) only [↓w_nil, ↓w_iconst, ↓w_bipush, ↓w_sipush, ↓w_ldc, ↓w_ldc_w, ↓w_lconst, ↓w_ldc2_w, ↓w_il0, ↓w_al0, ↓w_is0, ↓n_ii0, ↓w_il1, ↓w_al1, ↓w_is1, ↓n_ii1, ↓w_il2, ↓w_al2, ↓w_is2, ↓n_ii2, ↓w_il3, ↓w_al3, ↓w_is3, ↓n_ii3, ↓w_il4, ↓w_al4, ↓w_is4, ↓n_ii4, ↓w_il5, ↓w_al5, ↓w_is5, ↓n_ii5, ↓w_il6, ↓w_is6, ↓n_ii6, ↓w_il7, ↓w_is7, ↓n_ii7, ↓w_il8, ↓w_is8, ↓n_ii8, ↓w_il9, ↓w_is9, ↓n_ii9, ↓w_il10, ↓w_is10, ↓n_ii10, ↓w_il11, ↓w_is11, ↓n_ii11, ↓n_iadd, ↓n_isub, ↓n_imul, ↓n_iand, ↓n_ior, ↓n_ixor, ↓n_ishl, ↓n_ishr, ↓n_iushr, ↓n_idiv, ↓n_irem, ↓n_ineg, ↓n_ladd, ↓w_dup, ↓w_dup2, ↓w_pop, ↓w_gi, ↓w_gl, ↓w_gz, ↓w_gr1, ↓w_gr2, ↓w_gr3, ↓w_gr4, ↓w_gr5, ↓w_gr6, ↓w_gr7, ↓w_gr8, ↓w_gr9, ↓w_gr10, ↓w_gr11, ↓w_gr12, ↓w_gr17, ↓w_gr35, ↓w_gr177, ↓w_pi, ↓w_pl, ↓w_pz, ↓w_iaload, ↓w_baload, ↓w_aaload, ↓w_iastore, ↓w_bastore, ↓w_arraylength, ↓w_goto, ↓w_if_eq, ↓w_if_ne, ↓w_if_lt, ↓w_if_ge, ↓w_if_gt, ↓w_if_le, ↓w_ic_eq, ↓w_ic_ne, ↓w_ic_lt, ↓w_ic_ge, ↓w_ic_gt, ↓w_ic_le, ↓w_ireturn0, ↓w_ireturn1, ↓w_lreturn, ↓w_return_, Nat.add_assoc, Nat.reduceAdd, pi_o, pi_ss, pi_so, pi_2, pr_o, pr_s, pr_2, pl_1, pl_s, pl_o]
    refine P_V0vP k_X9_readAll_44 (by first | assumption | exact rfl) (u_X9_readToken (lt := lt) (len := len) (p := p) (by rw [hT.1.e34]; exact hlt) (by rw [hT.1.2.1]; exact hlen) h200 hT.2.1 hpl hch) rfl rfl ?_
    intro s1 ⟨ht1, g4, g5, g6, g7⟩
    have hT1 : CT σ T (tkX lt len p) s1 := hT.tx ht1 g4
    refine P_blk b_X9_readAll_47 ?_
    simp (disch := omega) only [↓w_nil, ↓w_iconst, ↓w_bipush, ↓w_sipush, ↓w_ldc, ↓w_ldc_w, ↓w_lconst, ↓w_ldc2_w, ↓w_il0, ↓w_al0, ↓w_is0, ↓n_ii0, ↓w_il1, ↓w_al1, ↓w_is1, ↓n_ii1, ↓w_il2, ↓w_al2, ↓w_is2, ↓n_ii2, ↓w_il3, ↓w_al3, ↓w_is3, ↓n_ii3, ↓w_il4, ↓w_al4, ↓w_is4, ↓n_ii4, ↓w_il5, ↓w_al5, ↓w_is5, ↓n_ii5, ↓w_il6, ↓w_is6, ↓n_ii6, ↓w_il7, ↓w_is7, ↓n_ii7, ↓w_il8, ↓w_is8, ↓n_ii8, ↓w_il9, ↓w_is9, ↓n_ii9, ↓w_il10, ↓w_is10, ↓n_ii10, ↓w_il11, ↓w_is11, ↓n_ii11, ↓n_iadd, ↓n_isub, ↓n_imul, ↓n_iand, ↓n_ior, ↓n_ixor, ↓n_ishl, ↓n_ishr, ↓n_iushr, ↓n_idiv, ↓n_irem, ↓n_ineg, ↓n_ladd, ↓w_dup, ↓w_dup2, ↓w_pop, ↓w_gi, ↓w_gl, ↓w_gz, ↓w_gr1, ↓w_gr2, ↓w_gr3, ↓w_gr4, ↓w_gr5, ↓w_gr6, ↓w_gr7, ↓w_gr8, ↓w_gr9, ↓w_gr10, ↓w_gr11, ↓w_gr12, ↓w_gr17, ↓w_gr35, ↓w_gr177, ↓w_pi, ↓w_pl, ↓w_pz, ↓w_iaload, ↓w_baload, ↓w_aaload, ↓w_iastore, ↓w_bastore, ↓w_arraylength, ↓w_goto, ↓w_if_eq, ↓w_if_ne, ↓w_if_lt, ↓w_if_ge, ↓w_if_gt, ↓w_if_le, ↓w_ic_eq, ↓w_ic_ne, ↓w_ic_lt, ↓w_ic_ge, ↓w_ic_gt, ↓w_ic_le, ↓w_ireturn0, ↓w_ireturn1, ↓w_lreturn, ↓w_return_, Nat.add_assoc, Nat.reduceAdd, pi_o, pi_ss, pi_so, pi_2, pr_o, pr_s, pr_2, pl_1, pl_s, pl_o, g5]
    refine ⟨(by first | assumption | exact rfl), ?_⟩
    refine ⟨fun z52 => ?_, fun z52 => ?_⟩
    · refine P_blk b_X9_readAll_57 ?_
      simp (disch := omega) only [↓w_nil, ↓w_iconst, ↓w_bipush, ↓w_sipush, ↓w_ldc, ↓w_ldc_w, ↓w_lconst, ↓w_ldc2_w, ↓w_il0, ↓w_al0, ↓w_is0, ↓n_ii0, ↓w_il1, ↓w_al1, ↓w_is1, ↓n_ii1, ↓w_il2, ↓w_al2, ↓w_is2, ↓n_ii2, ↓w_il3, ↓w_al3, ↓w_is3, ↓n_ii3, ↓w_il4, ↓w_al4, ↓w_is4, ↓n_ii4, ↓w_il5, ↓w_al5, ↓w_is5, ↓n_ii5, ↓w_il6, ↓w_is6, ↓n_ii6, ↓w_il7, ↓w_is7, ↓n_ii7, ↓w_il8, ↓w_is8, ↓n_ii8, ↓w_il9, ↓w_is9, ↓n_ii9, ↓w_il10, ↓w_is10, ↓n_ii10, ↓w_il11, ↓w_is11, ↓n_ii11, ↓n_iadd, ↓n_isub, ↓n_imul, ↓n_iand, ↓n_ior, ↓n_ixor, ↓n_ishl, ↓n_ishr, ↓n_iushr, ↓n_idiv, ↓n_irem, ↓n_ineg, ↓n_ladd, ↓w_dup, ↓w_dup2, ↓w_pop, ↓w_gi, ↓w_gl, ↓w_gz, ↓w_gr1, ↓w_gr2, ↓w_gr3, ↓w_gr4, ↓w_gr5, ↓w_gr6, ↓w_gr7, ↓w_gr8, ↓w_gr9, ↓w_gr10, ↓w_gr11, ↓w_gr12, ↓w_gr17, ↓w_gr35, ↓w_gr177, ↓w_pi, ↓w_pl, ↓w_pz, ↓w_iaload, ↓w_baload, ↓w_aaload, ↓w_iastore, ↓w_bastore, ↓w_arraylength, ↓w_goto, ↓w_if_eq, ↓w_if_ne, ↓w_if_lt, ↓w_if_ge, ↓w_if_gt, ↓w_if_le, ↓w_ic_eq, ↓w_ic_ne, ↓w_ic_lt, ↓w_ic_ge, ↓w_ic_gt, ↓w_ic_le, ↓w_ireturn0, ↓w_ireturn1, ↓w_lreturn, ↓w_return_, Nat.add_assoc, Nat.reduceAdd, pi_o, pi_ss, pi_so, pi_2, pr_o, pr_s, pr_2, pl_1, pl_s, pl_o, g5]
      refine P_V1iP k_X9_readAll_59 (by first | assumption | exact rfl) (u_X9_readItem hlt hlen h200 hch hT1 hpl hok g5 g6 (by omega)) rfl rfl ?_
      intro r2 s2 c2
      rw [if_neg z52] at hR
      refine P_blk b_X9_readAll_62 ?_
      simp (disch := omega) only [↓w_nil, ↓w_iconst, ↓w_bipush, ↓w_sipush, ↓w_ldc, ↓w_ldc_w, ↓w_lconst, ↓w_ldc2_w, ↓w_il0, ↓w_al0, ↓w_is0, ↓n_ii0, ↓w_il1, ↓w_al1, ↓w_is1, ↓n_ii1, ↓w_il2, ↓w_al2, ↓w_is2, ↓n_ii2, ↓w_il3, ↓w_al3, ↓w_is3, ↓n_ii3, ↓w_il4, ↓w_al4, ↓w_is4, ↓n_ii4, ↓w_il5, ↓w_al5, ↓w_is5, ↓n_ii5, ↓w_il6, ↓w_is6, ↓n_ii6, ↓w_il7, ↓w_is7, ↓n_ii7, ↓w_il8, ↓w_is8, ↓n_ii8, ↓w_il9, ↓w_is9, ↓n_ii9, ↓w_il10, ↓w_is10, ↓n_ii10, ↓w_il11, ↓w_is11, ↓n_ii11, ↓n_iadd, ↓n_isub, ↓n_imul, ↓n_iand, ↓n_ior, ↓n_ixor, ↓n_ishl, ↓n_ishr, ↓n_iushr, ↓n_idiv, ↓n_irem, ↓n_ineg, ↓n_ladd, ↓w_dup, ↓w_dup2, ↓w_pop, ↓w_gi, ↓w_gl, ↓w_gz, ↓w_gr1, ↓w_gr2, ↓w_gr3, ↓w_gr4, ↓w_gr5, ↓w_gr6, ↓w_gr7, ↓w_gr8, ↓w_gr9, ↓w_gr10, ↓w_gr11, ↓w_gr12, ↓w_gr17, ↓w_gr35, ↓w_gr177, ↓w_pi, ↓w_pl, ↓w_pz, ↓w_iaload, ↓w_baload, ↓w_aaload, ↓w_iastore, ↓w_bastore, ↓w_arraylength, ↓w_goto, ↓w_if_eq, ↓w_if_ne, ↓w_if_lt, ↓w_if_ge, ↓w_if_gt, ↓w_if_le, ↓w_ic_eq, ↓w_ic_ne, ↓w_ic_lt, ↓w_ic_ge, ↓w_ic_gt, ↓w_ic_le, ↓w_ireturn0, ↓w_ireturn1, ↓w_lreturn, ↓w_return_, Nat.add_assoc, Nat.reduceAdd, pi_o, pi_ss, pi_so, pi_2, pr_o, pr_s, pr_2, pl_1, pl_s, pl_o, g5]
      refine ⟨fun z62 => ?_, fun z62 => ?_⟩
      · refine P_blk b_X9_readAll_73 ?_
        simp (disch := omega) only [↓w_nil, ↓w_iconst, ↓w_bipush, ↓w_sipush, ↓w_ldc, ↓w_ldc_w, ↓w_lconst, ↓w_ldc2_w, ↓w_il0, ↓w_al0, ↓w_is0, ↓n_ii0, ↓w_il1, ↓w_al1, ↓w_is1, ↓n_ii1, ↓w_il2, ↓w_al2, ↓w_is2, ↓n_ii2, ↓w_il3, ↓w_al3, ↓w_is3, ↓n_ii3, ↓w_il4, ↓w_al4, ↓w_is4, ↓n_ii4, ↓w_il5, ↓w_al5, ↓w_is5, ↓n_ii5, ↓w_il6, ↓w_is6, ↓n_ii6, ↓w_il7, ↓w_is7, ↓n_ii7, ↓w_il8, ↓w_is8, ↓n_ii8, ↓w_il9, ↓w_is9, ↓n_ii9, ↓w_il10, ↓w_is10, ↓n_ii10, ↓w_il11, ↓w_is11, ↓n_ii11, ↓n_iadd, ↓n_isub, ↓n_imul, ↓n_iand, ↓n_ior, ↓n_ixor, ↓n_ishl, ↓n_ishr, ↓n_iushr, ↓n_idiv, ↓n_irem, ↓n_ineg, ↓n_ladd, ↓w_dup, ↓w_dup2, ↓w_pop, ↓w_gi, ↓w_gl, ↓w_gz, ↓w_gr1, ↓w_gr2, ↓w_gr3, ↓w_gr4, ↓w_gr5, ↓w_gr6, ↓w_gr7, ↓w_gr8, ↓w_gr9, ↓w_gr10, ↓w_gr11, ↓w_gr12, ↓w_gr17, ↓w_gr35, ↓w_gr177, ↓w_pi, ↓w_pl, ↓w_pz, ↓w_iaload, ↓w_baload, ↓w_aaload, ↓w_iastore, ↓w_bastore, ↓w_arraylength, ↓w_goto, ↓w_if_eq, ↓w_if_ne, ↓w_if_lt, ↓w_if_ge, ↓w_if_gt, ↓w_if_le, ↓w_ic_eq, ↓w_ic_ne, ↓w_ic_lt, ↓w_ic_ge, ↓w_ic_gt, ↓w_ic_le, ↓w_ireturn0, ↓w_ireturn1, ↓w_lreturn, ↓w_return_, Nat.add_assoc, Nat.reduceAdd, pi_o, pi_ss, pi_so, pi_2, pr_o, pr_s, pr_2, pl_1, pl_s, pl_o, g5]
        cases hI : itT lt len (i == 0) T p with
        | inl f =>
          rw [hI] at c2
          exact absurd c2.1 z62
        | inr q =>
          rw [hI] at hR c2
          simp only at hR
          have hq := itT_inr hpl hok hI
          rw [← nI_succ]
          exact ih hlt2 s2 q.1 q.2 c2.2 hq.2.2 hq.1 hR
      · refine P_blk b_X9_readAll_65 ?_
        simp (disch := omega) only [↓w_nil, ↓w_iconst, ↓w_bipush, ↓w_sipush, ↓w_ldc, ↓w_ldc_w, ↓w_lconst, ↓w_ldc2_w, ↓w_il0, ↓w_al0, ↓w_is0, ↓n_ii0, ↓w_il1, ↓w_al1, ↓w_is1, ↓n_ii1, ↓w_il2, ↓w_al2, ↓w_is2, ↓n_ii2, ↓w_il3, ↓w_al3, ↓w_is3, ↓n_ii3, ↓w_il4, ↓w_al4, ↓w_is4, ↓n_ii4, ↓w_il5, ↓w_al5, ↓w_is5, ↓n_ii5, ↓w_il6, ↓w_is6, ↓n_ii6, ↓w_il7, ↓w_is7, ↓n_ii7, ↓w_il8, ↓w_is8, ↓n_ii8, ↓w_il9, ↓w_is9, ↓n_ii9, ↓w_il10, ↓w_is10, ↓n_ii10, ↓w_il11, ↓w_is11, ↓n_ii11, ↓n_iadd, ↓n_isub, ↓n_imul, ↓n_iand, ↓n_ior, ↓n_ixor, ↓n_ishl, ↓n_ishr, ↓n_iushr, ↓n_idiv, ↓n_irem, ↓n_ineg, ↓n_ladd, ↓w_dup, ↓w_dup2, ↓w_pop, ↓w_gi, ↓w_gl, ↓w_gz, ↓w_gr1, ↓w_gr2, ↓w_gr3, ↓w_gr4, ↓w_gr5, ↓w_gr6, ↓w_gr7, ↓w_gr8, ↓w_gr9, ↓w_gr10, ↓w_gr11, ↓w_gr12, ↓w_gr17, ↓w_gr35, ↓w_gr177, ↓w_pi, ↓w_pl, ↓w_pz, ↓w_iaload, ↓w_baload, ↓w_aaload, ↓w_iastore, ↓w_bastore, ↓w_arraylength, ↓w_goto, ↓w_if_eq, ↓w_if_ne, ↓w_if_lt, ↓w_if_ge, ↓w_if_gt, ↓w_if_le, ↓w_ic_eq, ↓w_ic_ne, ↓w_ic_lt, ↓w_ic_ge, ↓w_ic_gt, ↓w_ic_le, ↓w_ireturn0, ↓w_ireturn1, ↓w_lreturn, ↓w_return_, Nat.add_assoc, Nat.reduceAdd, pi_o, pi_ss, pi_so, pi_2, pr_o, pr_s, pr_2, pl_1, pl_s, pl_o, g5]
        refine ⟨(by first | assumption | exact rfl), ?_⟩
        cases hI : itT lt len (i == 0) T p with
        | inl f =>
          rw [hI] at hR c2
          simp only at hR
          subst hR
          refine hQ _ _ ⟨?_, c2.2.1⟩
          rw [c2.2.2]
        | inr q =>
          rw [hI] at c2
          rw [c2.1] at z62
          exact absurd z62 (by decide)
    · refine P_blk b_X9_readAll_55 ?_
      simp (disch := omega) only [↓w_nil, ↓w_iconst, ↓w_bipush, ↓w_sipush, ↓w_ldc, ↓w_ldc_w, ↓w_lconst, ↓w_ldc2_w, ↓w_il0, ↓w_al0, ↓w_is0, ↓n_ii0, ↓w_il1, ↓w_al1, ↓w_is1, ↓n_ii1, ↓w_il2, ↓w_al2, ↓w_is2, ↓n_ii2, ↓w_il3, ↓w_al3, ↓w_is3, ↓n_ii3, ↓w_il4, ↓w_al4, ↓w_is4, ↓n_ii4, ↓w_il5, ↓w_al5, ↓w_is5, ↓n_ii5, ↓w_il6, ↓w_is6, ↓n_ii6, ↓w_il7, ↓w_is7, ↓n_ii7, ↓w_il8, ↓w_is8, ↓n_ii8, ↓w_il9, ↓w_is9, ↓n_ii9, ↓w_il10, ↓w_is10, ↓n_ii10, ↓w_il11, ↓w_is11, ↓n_ii11, ↓n_iadd, ↓n_isub, ↓n_imul, ↓n_iand, ↓n_ior, ↓n_ixor, ↓n_ishl, ↓n_ishr, ↓n_iushr, ↓n_idiv, ↓n_irem, ↓n_ineg, ↓n_ladd, ↓w_dup, ↓w_dup2, ↓w_pop, ↓w_gi, ↓w_gl, ↓w_gz, ↓w_gr1, ↓w_gr2, ↓w_gr3, ↓w_gr4, ↓w_gr5, ↓w_gr6, ↓w_gr7, ↓w_gr8, ↓w_gr9, ↓w_gr10, ↓w_gr11, ↓w_gr12, ↓w_gr17, ↓w_gr35, ↓w_gr177, ↓w_pi, ↓w_pl, ↓w_pz, ↓w_iaload, ↓w_baload, ↓w_aaload, ↓w_iastore, ↓w_bastore, ↓w_arraylength, ↓w_goto, ↓w_if_eq, ↓w_if_ne, ↓w_if_lt, ↓w_if_ge, ↓w_if_gt, ↓w_if_le, ↓w_ic_eq, ↓w_ic_ne, ↓w_ic_lt, ↓w_ic_ge, ↓w_ic_gt, ↓w_ic_le, ↓w_ireturn0, ↓w_ireturn1, ↓w_lreturn, ↓w_return_, Nat.add_assoc, Nat.reduceAdd, pi_o, pi_ss, pi_so, pi_2, pr_o, pr_s, pr_2, pl_1, pl_s, pl_o, g5]
      rw [if_pos z52] at hR
      subst hR
      exact hQ _ _ ⟨rfl, hT1.1, hT1.2.2, hok⟩

set_option maxHeartbeats 400000 in
theorem u_X9_readAll {σ : St} {lt : Nat → Int32} {len : Nat} (hlt : σ.1 34 = lt) (hlen : σ.1 17 0 = nI len) (h200 : len ≤ 200) (hch : ∀ i, i < len → 0 ≤ lt i) : RetPi m_X9_readAll (σ) [.ref 17] (PA σ (prs lt len 201 0 T0 0)) := by
  refine RetPi.introQ 1 (L := [.ref 17, .null]) (by decide +kernel) rfl rfl rfl (fun Q hQ => ?_)
  refine P_blk b_X9_readAll_0 ?_
  simp (disch := omega) only [↓w_nil, ↓w_iconst, ↓w_bipush, ↓w_sipush, ↓w_ldc, ↓w_ldc_w, ↓w_lconst, ↓w_ldc2_w, ↓w_il0, ↓w_al0, ↓w_is0, ↓w_ii0, ↓w_il1, ↓w_al1, ↓w_is1, ↓w_ii1, ↓w_il2, ↓w_al2, ↓w_is2, ↓w_ii2, ↓w_il3, ↓w_al3, ↓w_is3, ↓w_ii3, ↓w_il4, ↓w_al4, ↓w_is4, ↓w_ii4, ↓w_il5, ↓w_al5, ↓w_is5, ↓w_ii5, ↓w_il6, ↓w_is6, ↓w_ii6, ↓w_il7, ↓w_is7, ↓w_ii7, ↓w_il8, ↓w_is8, ↓w_ii8, ↓w_il9, ↓w_is9, ↓w_ii9, ↓w_il10, ↓w_is10, ↓w_ii10, ↓w_il11, ↓w_is11, ↓w_ii11, ↓w_iadd, ↓w_isub, ↓w_imul, ↓w_iand, ↓w_ior, ↓w_ixor, ↓w_ishl, ↓w_ishr, ↓w_iushr, ↓w_idiv, ↓w_irem, ↓w_ineg, ↓w_ladd, ↓w_dup, ↓w_dup2, ↓w_pop, ↓w_gi, ↓w_gl, ↓w_gz, ↓w_gr1, ↓w_gr2, ↓w_gr3, ↓w_gr4, ↓w_gr5, ↓w_gr6, ↓w_gr7, ↓w_gr8, ↓w_gr9, ↓w_gr10, ↓w_gr11, ↓w_gr12, ↓w_gr17, ↓w_gr35, ↓w_gr177, ↓w_pi, ↓w_pl, ↓w_pz, ↓w_iaload, ↓w_baload, ↓w_aaload, ↓w_iastore, ↓w_bastore, ↓w_arraylength, ↓w_goto, ↓w_if_eq, ↓w_if_ne, ↓w_if_lt, ↓w_if_ge, ↓w_if_gt, ↓w_if_le, ↓w_ic_eq, ↓w_ic_ne, ↓w_ic_lt, ↓w_ic_ge, ↓w_ic_gt, ↓w_ic_le, ↓w_ireturn0, ↓w_ireturn1, ↓w_lreturn, ↓w_return_, Nat.add_assoc, Nat.reduceAdd, pi_o, pi_ss, pi_so, pi_2, pr_o, pr_s, pr_2, pl_1, pl_s, pl_o]
  refine ⟨(by first | assumption | exact rfl), ?_⟩
  refine P_V0v k_X9_readAll_4 (by first | assumption | exact rfl) (t_X3_reset land18) rfl rfl ?_
  refine P_blk b_X9_readAll_7 ?_
  simp (disch := omega) only [↓w_nil, ↓w_iconst, ↓w_bipush, ↓w_sipush, ↓w_ldc, ↓w_ldc_w, ↓w_lconst, ↓w_ldc2_w, ↓w_il0, ↓w_al0, ↓w_is0, ↓w_ii0, ↓w_il1, ↓w_al1, ↓w_is1, ↓w_ii1, ↓w_il2, ↓w_al2, ↓w_is2, ↓w_ii2, ↓w_il3, ↓w_al3, ↓w_is3, ↓w_ii3, ↓w_il4, ↓w_al4, ↓w_is4, ↓w_ii4, ↓w_il5, ↓w_al5, ↓w_is5, ↓w_ii5, ↓w_il6, ↓w_is6, ↓w_ii6, ↓w_il7, ↓w_is7, ↓w_ii7, ↓w_il8, ↓w_is8, ↓w_ii8, ↓w_il9, ↓w_is9, ↓w_ii9, ↓w_il10, ↓w_is10, ↓w_ii10, ↓w_il11, ↓w_is11, ↓w_ii11, ↓w_iadd, ↓w_isub, ↓w_imul, ↓w_iand, ↓w_ior, ↓w_ixor, ↓w_ishl, ↓w_ishr, ↓w_iushr, ↓w_idiv, ↓w_irem, ↓w_ineg, ↓w_ladd, ↓w_dup, ↓w_dup2, ↓w_pop, ↓w_gi, ↓w_gl, ↓w_gz, ↓w_gr1, ↓w_gr2, ↓w_gr3, ↓w_gr4, ↓w_gr5, ↓w_gr6, ↓w_gr7, ↓w_gr8, ↓w_gr9, ↓w_gr10, ↓w_gr11, ↓w_gr12, ↓w_gr17, ↓w_gr35, ↓w_gr177, ↓w_pi, ↓w_pl, ↓w_pz, ↓w_iaload, ↓w_baload, ↓w_aaload, ↓w_iastore, ↓w_bastore, ↓w_arraylength, ↓w_goto, ↓w_if_eq, ↓w_if_ne, ↓w_if_lt, ↓w_if_ge, ↓w_if_gt, ↓w_if_le, ↓w_ic_eq, ↓w_ic_ne, ↓w_ic_lt, ↓w_ic_ge, ↓w_ic_gt, ↓w_ic_le, ↓w_ireturn0, ↓w_ireturn1, ↓w_lreturn, ↓w_return_, Nat.add_assoc, Nat.reduceAdd, pi_o, pi_ss, pi_so, pi_2, pr_o, pr_s, pr_2, pl_1, pl_s, pl_o]
  refine ⟨(by first | assumption | exact rfl), (by first | assumption | exact rfl), (by first | assumption | exact rfl), (by first | assumption | exact rfl), (by first | assumption | exact rfl), (by first | assumption | exact rfl), (by first | assumption | exact rfl), ?_⟩
  exact lp_all hlt hlen h200 hch rfl hQ 0 (Nat.zero_le _) _ T0 0 (CT0 scr.rf) (Nat.zero_le _) okT0 rfl
