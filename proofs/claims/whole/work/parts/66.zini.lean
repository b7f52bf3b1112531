def s0r : Nat × Nat → Nat → Int32
  | (0, 3) => upd (fun _ => 0) 0 4
  | (0, 4) => upd (fun _ => 0) 0 1
  | (0, 7) => upd (fun _ => 0) 5 (-1)
  | (0, 9) => upd (fun _ => 0) 0 4
  | (1, 67) => upd (fun _ => 0) 0 1
  | _ => fun _ => 0
def s0 : St := (fun a => s0r (ob a), fun _ => 0)
def fv0 (b k c j : Nat) : Value := match fk c j with
  | none => .int (s0r (0, c) j)
  | some none => .long 0
  | some (some 0) => .int (s0r (0, c) j)
  | some (some (o + 1)) => .ref (b + (k + (o + 1)))
theorem fv_s0 {b k c j : Nat} (h : ob k = (0, c)) : fv b s0 k c j = fv0 b k c j := by
  have e : s0.1 k j = s0r (0, c) j := by show s0r (ob k) j = _; rw [h]
  unfold fv fv0
  rw [e]
  rfl
theorem e0_ob {D : DD} {b k c : Nat} {vs : List Value} (h : ob k = (0, c)) (hv : vs = (List.range (clN c)).map (fv0 b k c)) : (.inr (c, vs) : va_E) = ent D b s0 k := by
  rw [ent_ob h, hv]
  congr 2
  apply List.map_congr_left
  intro j _
  exact (fv_s0 h).symm
theorem e0_al {D : DD} {b k n : Nat} {f : Nat → Int32} (h : ob k = (1, n)) (hf : f = s0r (1, n)) : (.inl (D.2.1, n, .inl f) : va_E) = ent D b s0 k := by
  rw [ent_al h, hf]
  show _ = (Sum.inl (_, _, .inl (s0r (ob k))) : va_E)
  rw [h]
theorem e0_zl {D : DD} {b k n : Nat} {f : Nat → Int32} (h : ob k = (2, n)) (hf : f = s0r (2, n)) : (.inl (D.2.2.1, n, .inl f) : va_E) = ent D b s0 k := by
  rw [ent_zl h, hf]
  show _ = (Sum.inl (_, _, .inl (s0r (ob k))) : va_E)
  rw [h]
theorem e0_rl {D : DD} {b k n y : Nat} (h : ob k = (3, n)) (hy : y = b + (k + 1)) : rfA D n y = ent D b s0 k := by
  rw [ent_rl h, hy]
  have e : (fun i => some (b + (k + 1) + 14 * i)) = fun i => some (b + (k + 1 + 14 * i)) := funext (fun i => by rw [Nat.add_assoc])
  show (Sum.inl (D.2.2.2, n, .inr (.inr (.inr (.inr (fun i => some (b + (k + 1) + 14 * i)))))) : va_E) = _
  rw [e]
def Seg (D : DD) (b : Nat) (P : List va_E) (a : Nat) : Prop := ∀ i, i < P.length → P.getD i eD = ent D b s0 (a + i)
theorem Seg.nil {D : DD} {b a : Nat} : Seg D b [] a := fun i h => absurd h (Nat.not_lt_zero _)
theorem Seg.cons {D : DD} {b a : Nat} {x : va_E} {P : List va_E} (h : x = ent D b s0 a) (hP : Seg D b P (a + 1)) : Seg D b (x :: P) a := fun i hi => by
  cases i with
  | zero => exact h
  | succ i =>
    have := hP i (by simpa using hi)
    rw [List.getD_cons_succ, this, show a + 1 + i = a + (i + 1) by omega]
theorem Seg.app {D : DD} {b a a' : Nat} {P Q : List va_E} (h : Seg D b P a) (ha : a + P.length = a') (hQ : Seg D b Q a') : Seg D b (P ++ Q) a := fun i hi => by
  by_cases h1 : i < P.length
  · rw [List.getD_eq_getElem?_getD, List.getElem?_append_left h1, ← List.getD_eq_getElem?_getD]; exact h i h1
  · rw [List.getD_eq_getElem?_getD, List.getElem?_append_right (by omega), ← List.getD_eq_getElem?_getD, hQ _ (by rw [List.length_append] at hi; omega), ← ha]
    congr 1; omega
theorem seg_lan {D : DD} {b a : Nat} (h0 : ob a = (0, 3)) (h1 : ob (a + 1) = (1, 8)) : Seg D b (zLan D (b + a)) a :=
  Seg.cons (e0_ob h0 rfl) (Seg.cons (e0_al h1 rfl) Seg.nil)
abbrev nowAt (a : Nat) : Prop := ∀ i, i < 14 → ob (a + i) = nowL.getD i (9, 0)
theorem seg_now {D : DD} {b a : Nat} (h : nowAt a) : Seg D b (zNow D (b + a)) a := by
  unfold zNow
  refine Seg.cons (e0_ob (h 0 (by decide)) rfl) (Seg.cons (e0_al (h 1 (by decide)) rfl) (Seg.cons (e0_ob (h 2 (by decide)) rfl) (Seg.cons (e0_al (h 3 (by decide)) rfl) (Seg.cons (e0_al (h 4 (by decide)) rfl) (Seg.cons (e0_al (h 5 (by decide)) rfl) (Seg.cons (e0_ob (h 6 (by decide)) rfl) (Seg.cons (e0_al (h 7 (by decide)) rfl) (Seg.cons (e0_al (h 8 (by decide)) rfl) (Seg.cons (e0_al (h 9 (by decide)) rfl) (Seg.cons (e0_al (h 10 (by decide)) rfl) (Seg.cons (e0_ob (h 11 (by decide)) rfl) (Seg.cons (e0_al (h 12 (by decide)) rfl) (Seg.cons (e0_al (h 13 (by decide)) rfl) Seg.nil)))))))))))))
theorem seg_nws {D : DD} {b a : Nat} : ∀ n, (∀ i, i < n → nowAt (a + 14 * i)) → Seg D b (nws D (b + a) n) a
  | 0, _ => Seg.nil
  | n + 1, h => by
    refine Seg.app (seg_nws n (fun i hi => h i (by omega))) (by rw [nws_len]) ?_
    have := seg_now (D := D) (b := b) (h n (by omega))
    rw [← Nat.add_assoc] at this
    exact this
theorem nws_at : (∀ i, i < 10 → nowAt (37 + 14 * i)) ∧ (∀ i, i < 2 → nowAt (180 + 14 * i)) ∧ nowAt 3 ∧ nowAt 20 := by decide +kernel
theorem seg_txt {D : DD} {b : Nat} : Seg D b (zTxt D (b + 17)) 17 := by
  unfold zTxt
  refine Seg.app (a' := 20) (Seg.cons (e0_ob (by decide +kernel) rfl) ?_) rfl (Seg.app (a' := 34) ?_ rfl (Seg.cons (e0_al (by decide +kernel) rfl) Seg.nil))
  · exact seg_lan (a := 18) (by decide +kernel) (by decide +kernel)
  · exact seg_now (a := 20) nws_at.2.2.2
theorem seg_pst {D : DD} {b : Nat} : Seg D b (zPst D (b + 35)) 35 := by
  unfold zPst
  refine Seg.app (a' := 37) (Seg.cons (e0_ob (by decide +kernel) rfl) (Seg.cons (e0_rl (by decide +kernel) rfl) Seg.nil)) rfl ?_
  exact seg_nws (a := 37) 10 nws_at.1
theorem seg_img {D : DD} {b : Nat} : Seg D b (zImg D (b + 177)) 177 := by
  unfold zImg
  refine Seg.app (a' := 180) (Seg.cons (e0_ob (by decide +kernel) rfl) (Seg.cons (e0_zl (by decide +kernel) rfl) (Seg.cons (e0_rl (by decide +kernel) rfl) Seg.nil))) rfl ?_
  exact seg_nws (a := 180) 2 nws_at.2.1
theorem zCwa_len (D : DD) (x : Nat) : (zCwa D x).length = 208 := by
  unfold zCwa zTxt zPst zImg
  simp only [List.length_append, nws_len, List.length_cons, List.length_nil]
  rfl
theorem seg_cwa {D : DD} {b : Nat} : Seg D b (zCwa D b) 0 := by
  unfold zCwa
  refine Seg.app (a' := 177) (Seg.app (a' := 35) (Seg.app (a' := 17) (Seg.app (a' := 3) (Seg.app (a' := 1) (Seg.cons (e0_ob (by decide +kernel) ?_) Seg.nil) rfl ?_) rfl ?_) rfl ?_) rfl ?_) ?_ ?_
  · simp [List.range, List.range.loop, clN, fv0, fk, fkL]
  · exact seg_lan (a := 1) (by decide +kernel) (by decide +kernel)
  · exact seg_now (a := 3) nws_at.2.2.1
  · exact seg_txt
  · exact seg_pst
  · unfold zTxt zPst
    simp only [List.length_append, nws_len, List.length_cons, List.length_nil]
    rfl
  · exact seg_img
theorem seg_mod {D : DD} {b : Nat} : Seg D b (zMod D (b + 208)) 208 := by
  unfold zMod
  refine Seg.app (a' := 220) (Seg.app (a' := 219) (Seg.app (a' := 218) (Seg.app (a' := 217) (Seg.app (a' := 216) (Seg.app (a' := 215) (Seg.app (a' := 214) (Seg.app (a' := 213) (Seg.app (a' := 212) (Seg.app (a' := 211) (Seg.app (a' := 210) (Seg.app (a' := 209) (Seg.cons (e0_ob (by decide +kernel) rfl) Seg.nil) rfl ?_) rfl ?_) rfl ?_) rfl ?_) rfl ?_) rfl ?_) rfl ?_) rfl ?_) rfl ?_) rfl ?_) rfl ?_) rfl ?_
  · exact Seg.cons (e0_al (by decide +kernel) rfl) Seg.nil
  · exact Seg.cons (e0_al (by decide +kernel) rfl) Seg.nil
  · exact Seg.cons (e0_al (by decide +kernel) rfl) Seg.nil
  · exact Seg.cons (e0_al (by decide +kernel) rfl) Seg.nil
  · exact Seg.cons (e0_al (by decide +kernel) rfl) Seg.nil
  · exact Seg.cons (e0_zl (by decide +kernel) rfl) Seg.nil
  · exact Seg.cons (e0_al (by decide +kernel) rfl) Seg.nil
  · exact Seg.cons (e0_al (by decide +kernel) rfl) Seg.nil
  · exact Seg.cons (e0_al (by decide +kernel) rfl) Seg.nil
  · exact Seg.cons (e0_al (by decide +kernel) rfl) Seg.nil
  · exact Seg.cons (e0_al (by decide +kernel) rfl) Seg.nil
  · exact Seg.cons (e0_al (by decide +kernel) rfl) Seg.nil
theorem world0 {D : DD} {b : Nat} {E : Nat → va_E} : wz b E 0 (zCwa D b ++ zMod D (b + 208)) = wl D b s0 := by
  have hl : (zCwa D b ++ zMod D (b + 208)).length = 221 := by rw [List.length_append, zCwa_len]; rfl
  have hs : Seg D b (zCwa D b ++ zMod D (b + 208)) 0 := Seg.app seg_cwa (by rw [zCwa_len]) seg_mod
  unfold wz wl
  rw [hl]
  apply List.map_congr_left
  intro j hj
  have hj : j < 221 := by have := List.mem_range.mp hj; omega
  have := hs j (by omega)
  rw [Nat.zero_add] at this
  show (b + j, if j < 0 then E j else (zCwa D b ++ zMod D (b + 208)).getD (j - 0) eD) = (b + j, ent D b s0 j)
  rw [if_neg (Nat.not_lt_zero _), Nat.sub_zero, this]
theorem s0_at {a : Nat} {q : Nat × Nat} (h : ob a = q) : s0.1 a = s0r q := by show s0r (ob a) = _; rw [h]
theorem inv0 : Inv s0 := by
  have o1 : s0.1 1 = upd (fun _ => 0) 0 4 := s0_at (q := (0, 3)) (by decide +kernel)
  have o2 : s0.1 2 = fun _ => 0 := s0_at (q := (1, 8)) (by decide +kernel)
  have o3 : s0.1 3 = upd (fun _ => 0) 0 1 := s0_at (q := (0, 4)) (by decide +kernel)
  have o4 : s0.1 (3 + 1) = fun _ => 0 := s0_at (q := (1, 2)) (by decide +kernel)
  have o5 : s0.1 (3 + 2) = fun _ => 0 := s0_at (q := (0, 1)) (by decide +kernel)
  have o9 : s0.1 (3 + 6) = fun _ => 0 := s0_at (q := (0, 5)) (by decide +kernel)
  have o17 : s0.1 17 = upd (fun _ => 0) 5 (-1) := s0_at (q := (0, 7)) (by decide +kernel)
  have o20 : s0.1 20 = upd (fun _ => 0) 0 1 := s0_at (q := (0, 4)) (by decide +kernel)
  have o21 : s0.1 21 = fun _ => 0 := s0_at (q := (1, 2)) (by decide +kernel)
  have o34 : s0.1 34 = fun _ => 0 := s0_at (q := (1, 200)) (by decide +kernel)
  have o35 : s0.1 35 = fun _ => 0 := s0_at (q := (0, 6)) (by decide +kernel)
  have o178 : s0.1 178 = fun _ => 0 := s0_at (q := (2, 2)) (by decide +kernel)
  have o208 : s0.1 208 = upd (fun _ => 0) 0 4 := s0_at (q := (0, 9)) (by decide +kernel)
  have o209 : s0.1 209 = fun _ => 0 := s0_at (q := (1, 8)) (by decide +kernel)
  have o211 : s0.1 211 = upd (fun _ => 0) 0 1 := s0_at (q := (1, 67)) (by decide +kernel)
  have o214 : s0.1 214 = fun _ => 0 := s0_at (q := (2, 2)) (by decide +kernel)
  have o215 : s0.1 215 = fun _ => 0 := s0_at (q := (1, 200)) (by decide +kernel)
  refine ⟨4, 0, 0, 0, ?_, ?_, ?_, ?_, ?_, ?_, ?_, rfl⟩
  · unfold LandOK
    rw [o1, o2, o208, o209]
    exact ⟨rfl, rfl, by decide, by decide, fun _ _ => rfl, fun f _ => ⟨0, rfl, by decide⟩⟩
  · unfold DukOK
    rw [o208]
    exact ⟨by decide, rfl, fun a ha => absurd ha (Nat.not_lt_zero _)⟩
  · refine ⟨0, 1, ?_⟩
    unfold NR
    rw [o3, o4, o5, o9, o211]
    exact ⟨⟨rfl, rfl, by decide, by decide⟩, ⟨rfl, rfl, ⟨0, rfl, by decide, fun h => absurd h (Nat.not_lt_zero _)⟩, ⟨0, rfl, by decide, fun h => absurd h (Nat.not_lt_zero _)⟩⟩, ⟨rfl, fun a ha => absurd ha (Nat.not_lt_zero _)⟩, ⟨rfl, rfl, by decide⟩, fun a ha => absurd ha (Nat.not_lt_zero _), fun e h1 h2 => absurd h2 (by omega)⟩
  · unfold TxtOK
    rw [o17, o34, o208, o215]
    exact ⟨0, by decide, rfl, rfl, rfl, fun a ha => absurd ha (Nat.not_lt_zero _)⟩
  · unfold PstOK
    rw [o35, o208]
    exact ⟨by decide, by decide, rfl, rfl, rfl, fun a ha => absurd ha (Nat.not_lt_zero _)⟩
  · unfold ImgOK
    rw [o178, o214]
    exact fun i hi => ⟨rfl, fun h => absurd rfl h⟩
  · unfold TolOK
    rw [o20, o21]
    exact ⟨rfl, rfl, rfl⟩
