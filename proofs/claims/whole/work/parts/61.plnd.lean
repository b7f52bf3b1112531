def okT2 (T : TD) : Prop := okT T ∧ (∀ f, f < 8 → ∃ r, T.2.1 f = nI r ∧ r < 2 ^ T.1) ∧ (∀ a, a < T.2.2.1 → (∃ x, T.2.2.2.1 a 0 = nI x ∧ x < 2) ∧ (∃ f, T.2.2.2.1 a 1 = nI f ∧ f < T.1) ∧ (∃ t, T.2.2.2.1 a 2 = nI t ∧ t ≤ 9)) ∧ (∀ k, k < T.2.2.2.2.1 → (∃ e, T.2.2.2.2.2 k 0 = nI e ∧ 1 ≤ e ∧ e ≤ 9) ∧ (∃ e, T.2.2.2.2.2 k 1 = nI e ∧ e ≤ 2) ∧ (∃ e, T.2.2.2.2.2 k 3 = nI e ∧ e < T.1))
theorem okT2_0 : okT2 T0 := ⟨okT0, fun f _ => ⟨0, rfl, Nat.two_pow_pos _⟩, fun a ha => absurd ha (Nat.not_lt_zero _), fun a ha => absurd ha (Nat.not_lt_zero _)⟩
theorem itA_ok2 {lt : Nat → Int32} {len p : Nat} {T : TD} {q : TD × Nat} (hp : p ≤ len) (hT : okT2 T) (h6 : T.2.2.1 < 6) (h : itA lt len T p = .inr q) : okT2 q.1 := by
  have hok := (itA_inr hp hT.1 h6 h).1
  have h1 := hT.1.1
  have h8 := hT.1.2.1
  unfold itA at h
  split at h
  · rename_i k1
    split at h
    · rename_i k2
      split at h
      · rename_i k3
        rw [enT_inr h] at hok ⊢
        refine ⟨hok, hT.2.1, fun a ha => ?_, hT.2.2.2⟩
        simp only [arT] at ha ⊢
        by_cases e : a = T.2.2.1
        · rw [if_pos e]
          obtain ⟨x, -, x2, x3⟩ := okN_nI (a := 0) (b := 1) rfl rfl (by decide) (by decide) k1
          obtain ⟨f, -, f2, f3⟩ := okN_nI (a := 0) (b := T.1 - 1) rfl rfl (by decide) (by omega) k2
          obtain ⟨t, -, t2, t3⟩ := okN_nI (a := 1) (b := 9) rfl rfl (by decide) (by decide) k3
          exact ⟨⟨x, x3, by omega⟩, ⟨f, f3, by omega⟩, ⟨t, t3, t2⟩⟩
        · rw [if_neg e]; exact hT.2.2.1 a (by omega)
      · cases h
    · cases h
  · cases h
theorem itP_ok2 {lt : Nat → Int32} {len p : Nat} {T : TD} {q : TD × Nat} (hp : p ≤ len) (hT : okT2 T) (h6 : T.2.2.2.2.1 < 6) (h : itP lt len T p = .inr q) : okT2 q.1 := by
  have hok := (itP_inr hp hT.1 h6 h).1
  have h1 := hT.1.1
  have h8 := hT.1.2.1
  unfold itP at h
  split at h
  · rename_i k1
    split at h
    · rename_i k2
      split at h
      · rename_i k3
        split at h
        · rename_i k4
          rw [enT_inr h] at hok ⊢
          refine ⟨hok, hT.2.1, hT.2.2.1, fun a ha => ?_⟩
          simp only [pgT] at ha ⊢
          by_cases e : a = T.2.2.2.2.1
          · rw [if_pos e]
            obtain ⟨x, x1, x2, x3⟩ := okN_nI (a := 1) (b := 9) rfl rfl (by decide) (by decide) k1
            obtain ⟨f, -, f2, f3⟩ := okN_nI (a := 0) (b := 2) rfl rfl (by decide) (by decide) k2
            obtain ⟨t, -, t2, t3⟩ := okN_nI (a := 0) (b := T.1 - 1) rfl rfl (by decide) (by omega) k4
            exact ⟨⟨x, x3, x1, x2⟩, ⟨f, f3, f2⟩, ⟨t, t3, by omega⟩⟩
          · rw [if_neg e]; exact hT.2.2.2 a (by omega)
        · cases h
      · cases h
    · cases h
  · cases h
theorem itF_ok2 {lt : Nat → Int32} {len p : Nat} {q : TD × Nat} (hp : p ≤ len) (h : itF lt len T0 p = .inr q) : okT2 q.1 := by
  have hok := (itF_inr hp okT0 h).1
  unfold itF at h
  split at h
  · rw [enT_inr h] at hok ⊢
    exact ⟨hok, fun f _ => ⟨0, rfl, Nat.two_pow_pos _⟩, fun a ha => absurd ha (Nat.not_lt_zero _), fun a ha => absurd ha (Nat.not_lt_zero _)⟩
  · cases h
theorem itR_ok2 {lt : Nat → Int32} {len p : Nat} {T : TD} {q : TD × Nat} (hp : p ≤ len) (hT : okT2 T) (h : itR lt len T p = .inr q) : okT2 q.1 := by
  have hok := (itR_inr hp hT.1 h).1
  have h1 := hT.1.1
  have h8 := hT.1.2.1
  unfold itR at h
  split at h
  · rename_i k1
    split at h
    · rename_i k2
      rw [enT_inr h] at hok ⊢
      rw [Bool.and_eq_true] at k2
      obtain ⟨x, -, x2, x3⟩ := okN_nI (a := 0) (b := T.1 - 1) rfl rfl (by decide) (by omega) k1
      obtain ⟨y, -, y2, y3⟩ := okN_nI (a := 0) (b := T.1 - 1) rfl rfl (by decide) (by omega) k2.1
      refine ⟨hok, fun f hf => ?_, hT.2.2.1, hT.2.2.2⟩
      simp only [jnT, jnW, upd]
      rw [x3, y3, nI_clamp (by omega), nI_clamp (by omega), sh8 x (by omega), sh8 y (by omega)]
      have bx : 2 ^ x < 2 ^ T.1 := Nat.pow_lt_pow_right (by decide) (by omega)
      have bY : 2 ^ y < 2 ^ T.1 := Nat.pow_lt_pow_right (by decide) (by omega)
      have kx : ∃ r, T.2.1 x ||| nI (2 ^ y) = nI r ∧ r < 2 ^ T.1 := by
        obtain ⟨r, r1, r2⟩ := hT.2.1 x (by omega)
        exact ⟨r ||| 2 ^ y, by rw [r1, nI_or], Nat.or_lt_two_pow r2 bY⟩
      have kin : ∃ r, (if y = x then T.2.1 x ||| nI (2 ^ y) else T.2.1 y) = nI r ∧ r < 2 ^ T.1 := by
        split
        · exact kx
        · exact hT.2.1 y (by omega)
      by_cases e : f = y
      · rw [if_pos e]
        obtain ⟨r, r1, r2⟩ := kin
        exact ⟨r ||| 2 ^ x, by rw [r1, nI_or], Nat.or_lt_two_pow r2 bx⟩
      · rw [if_neg e]
        split
        · exact kx
        · exact hT.2.1 f hf
    · cases h
  · cases h
theorem prs_ok2 {lt : Nat → Int32} {len : Nat} : ∀ (q k : Nat) (T : TD) (p : Nat), p ≤ len → okT2 T → (k = 0 → T = T0) → ∀ r, prs lt len q k T p = .inr r → okT2 r.2
  | 0, k, T, p, hp, hT, h0, r, h => by simp only [prs] at h; cases h
  | q + 1, k, T, p, hp, hT, h0, r, h => by
    simp only [prs] at h
    split at h
    · cases h; exact hT
    · cases hI : itT lt len (k == 0) T p with
      | inl g => rw [hI] at h; simp only at h; cases h
      | inr g =>
        rw [hI] at h
        simp only at h
        have hg := itT_inr hp hT.1 hI
        have x0 := tkX_le (lt := lt) hp
        refine prs_ok2 q (k + 1) g.1 g.2 hg.2.2 ?_ (fun z => by omega) r h
        unfold itT at hI
        split at hI
        · split at hI
          · rename_i h6; exact itA_ok2 x0.2 hT h6 hI
          · cases hI
        · split at hI
          · split at hI
            · rename_i hk
              have hk0 : k = 0 := by simpa using hk
              rw [h0 hk0] at hI
              exact itF_ok2 x0.2 hI
            · cases hI
          · split at hI
            · split at hI
              · rename_i h6; exact itP_ok2 x0.2 hT h6 hI
              · cases hI
            · split at hI
              · exact itR_ok2 x0.2 hT hI
              · cases hI
theorem both_land : Both m_X10_land m_X11_land [] := by
  intro σ hI
  obtain ⟨nf, m, p, q, hL, hD, hN, ⟨len, t1, t2, t3, t4, t5⟩, hP, hG, hU, hW⟩ := id hI
  refine (u_X10_land (lt := σ.1 34) rfl t2 t1 t5).mono (fun r t hr => ?_)
  cases hR : prs (σ.1 34) len 201 0 T0 0 with
  | inl f =>
    rw [hR] at hr
    obtain ⟨r1, s1, s2, s3⟩ := hr
    have e := fun a (h1 : ¬ (17 ≤ a ∧ a ≤ 19)) (h2 : ¬ (22 ≤ a ∧ a ≤ 30)) => s3 a h1 h2
    refine (u_X11_land (σ := t) (lt := σ.1 34) (len := len) (by rw [e 215 (by omega) (by omega)]; exact t4.symm) (by rw [e 208 (by omega) (by omega)]; exact t3) t1 t5).mono (fun r' u hu => ?_)
    rw [hR] at hu
    obtain ⟨u1, v1, v2, v3⟩ := hu
    refine ⟨by rw [u1, r1], Agr.inv (σ := σ) ⟨v1.trans s1, fun a a1 a2 a3 a4 => ?_, ?_, ?_, ?_, ?_, ?_⟩ hI⟩
    · rw [v2 a a1 (by omega)]; exact e a (by omega) (by omega)
    · rw [v2 17 (by decide) (by omega)]; exact s2
    · rw [v3 0 (by omega), e 208 (by omega) (by omega)]
    · rw [v3 2 (by omega), e 208 (by omega) (by omega)]
    · rw [v3 6 (by omega), e 208 (by omega) (by omega)]
    · rw [v3 11 (by omega), e 208 (by omega) (by omega)]
  | inr kT =>
    have hk2 := prs_ok2 201 0 T0 0 (Nat.zero_le _) okT2_0 (fun _ => rfl) kT hR
    rw [hR] at hr
    obtain ⟨r1, -, s2, s3, s4, s5, s6, s7, s8, s9, s10, s11, s12, s13, s14, s15, s16, s17, s18⟩ := hr
    refine (u_X11_land (σ := t) (lt := σ.1 34) (len := len) (by rw [s18 215 (by decide) (by decide) (by decide)]; exact t4.symm) (by rw [s18 208 (by decide) (by decide) (by decide)]; exact t3) t1 t5).mono (fun r' u hu => ?_)
    rw [hR] at hu
    obtain ⟨u1, v2, v3, v4, v5, v6, v7, v8, v9, v10, v11, v12, v13, v14, v15, v16, v17⟩ := hu
    obtain ⟨k, T⟩ := kT
    simp only at *
    obtain ⟨okk, okr, oka, okp⟩ := hk2
    have z0 : ∀ nf m, ordOK (0 : Int32) nf m := fun nf m => ⟨0, rfl, by decide, fun z => absurd z (by decide)⟩
    refine ⟨by rw [u1, r1], T.1, T.2.2.1, 0, q, ?_, ?_, ⟨T.2.2.2.2.1, 1, ?_⟩, ?_, ?_, ?_, ?_, ?_⟩
    · exact ⟨by rw [v3 1 (by decide)]; exact s3, v4, okk.1, okk.2.1, fun f hf => by rw [v3 2 (by decide), s4, v5 f hf], fun f hf => by rw [v5 f (by have := okk.2.1; omega)]; exact okr f (by have := okk.2.1; omega)⟩
    · exact ⟨okk.2.2.1, v6, fun a ha => by rw [(v7 a ha).1]; exact (oka a ha).1⟩
    · refine ⟨⟨?_, ?_, Nat.le_refl _, by decide⟩, ⟨?_, ?_, ?_, ?_⟩, ⟨?_, fun a ha => ?_⟩, ⟨?_, v8, okk.2.2.2⟩, fun i hi => ?_, fun e b1 b2 => by omega⟩
      · rw [v3 3 (by decide), s5]; exact hU.1
      · exact v10
      · show u.1 4 0 = _
        rw [v3 4 (by decide), s6, v11]; exact hU.2.1
      · show u.1 4 1 = _
        rw [v3 4 (by decide), s6, v12]; exact hU.2.2
      · rw [v11]; exact z0 _ _
      · rw [v12]; exact z0 _ _
      · show u.1 5 0 = _
        rw [v3 5 (by decide)]; exact s7
      · show u.1 6 a = _ ∧ u.1 7 a = _ ∧ u.1 8 a = _ ∧ _
        rw [v3 6 (by decide), v3 7 (by decide), v3 8 (by decide), (s8 a ha).1, (s8 a ha).2.1, (s8 a ha).2.2, (v7 a ha).1, (v7 a ha).2.1, (v7 a ha).2.2]
        exact ⟨rfl, rfl, rfl, (oka a ha).2.1, (oka a ha).2.2⟩
      · show u.1 9 0 = _
        rw [v3 9 (by decide)]; exact s9
      · show ((u.1 10 i = _ ∧ u.1 11 i = _ ∧ u.1 12 i = _ ∧ u.1 13 i = _) ∧ _)
        rw [v3 10 (by decide), v3 11 (by decide), v3 12 (by decide), v3 13 (by decide), (s10 i hi).1, (s10 i hi).2.1, (s10 i hi).2.2.1, (s10 i hi).2.2.2, (v9 i hi).1, (v9 i hi).2.1, (v9 i hi).2.2.1, (v9 i hi).2.2.2]
        exact ⟨⟨rfl, rfl, rfl, rfl⟩, (okp i hi).1, (okp i hi).2.1, (okp i hi).2.2⟩
    · exact ⟨0, by decide, by rw [v3 17 (by decide), s15]; rfl, by rw [v16]; rfl, by rw [v3 34 (by decide), v17, s18 34 (by decide) (by decide) (by decide), s18 215 (by decide) (by decide) (by decide)]; exact t4, fun i hi => absurd hi (Nat.not_lt_zero _)⟩
    · exact ⟨by decide, hP.2.1, by rw [v3 35 (by decide)]; exact s11, by rw [v3 35 (by decide), s12]; exact hP.2.2.2.1, v13, fun i hi => absurd hi (Nat.not_lt_zero _)⟩
    · intro i hi
      rcases (by omega : i = 0 ∨ i = 1) with rfl | rfl
      · rw [v3 178 (by decide), s13, v14]; exact ⟨rfl, fun z => absurd rfl z⟩
      · rw [v3 178 (by decide), s14, v15]; exact ⟨rfl, fun z => absurd rfl z⟩
    · exact ⟨by rw [v3 20 (by decide), s16]; exact hU.1, by rw [v3 21 (by decide), s17]; exact hU.2.1, by rw [v3 21 (by decide), s17]; exact hU.2.2⟩
    · rw [v2, s2]; exact hW
theorem inv_trace {σ : St} (h : Inv σ) : σ.2 0 = σ.2 208 := by
  obtain ⟨nf, m, p, q, hL, hD, hN, hT, hP, hG, hU, hW⟩ := h
  exact hW
