abbrev St : Type := (Nat → Nat → Int32) × (Nat → Int64)
abbrev Op : Type := Instr × Nat × Nat × Nat × Option (Option Nat) × Int32
abbrev MD : Type := Nat × MethodName × ByteArray × Nat × Option FieldType × Nat × Nat
abbrev DD : Type := va_G × ClassId × ClassId × ClassId
def clC : Nat → String
  | 0 => RX0 | 1 => RX1 | 2 => RX2 | 3 => RX3 | 4 => RX5 | 5 => RX7 | 6 => RX8 | 7 => RX9 | 8 => RX10 | _ => RX11
def clT : Nat → u_T
  | 0 => TX0 | 1 => TX1 | 2 => TX2 | 3 => TX3 | 4 => TX5 | 5 => TX7 | 6 => TX8 | 7 => TX9 | 8 => TX10 | _ => TX11
def clN : Nat → Nat
  | 0 => 2 | 1 => 4 | 2 => 2 | 3 => 2 | 4 => 5 | 5 => 5 | 6 => 3 | 7 => 8 | 8 => 6 | _ => 26
def clY : Nat → Nat → FieldType
  | 0 => tyX0 | 1 => tyX1 | 2 => tyX2 | 3 => tyX3 | 4 => tyX5 | 5 => tyX7 | 6 => tyX8 | 7 => tyX9 | 8 => tyX10 | _ => tyX11
abbrev CL : List vw_C := (List.range 10).map (fun c => (clC c, clT c, clN c))
theorem CL_at {c : Nat} (h : c < 10) : CL[c]? = some (clC c, clT c, clN c) := by
  rw [List.getElem?_map, List.getElem?_range h]; rfl
theorem cl_cases {P : Nat → Prop} (h0 : P 0) (h1 : P 1) (h2 : P 2) (h3 : P 3) (h4 : P 4) (h5 : P 5) (h6 : P 6) (h7 : P 7) (h8 : P 8) (h9 : P 9) : ∀ c, c < 10 → P c
  | 0, _ => h0 | 1, _ => h1 | 2, _ => h2 | 3, _ => h3 | 4, _ => h4 | 5, _ => h5 | 6, _ => h6 | 7, _ => h7 | 8, _ => h8 | 9, _ => h9
theorem clY_ok : ∀ c, c < 10 → ∀ k, k < clN c → parseFieldDescriptor (clT c k).2.2.1 = some (clY c k) :=
  cl_cases tyX0_ok tyX1_ok tyX2_ok tyX3_ok tyX5_ok tyX7_ok tyX8_ok tyX9_ok tyX10_ok tyX11_ok
theorem clM_ok : ∀ c, c < 10 → ∀ a, a < clN c → ∀ b, b < clN c → a ≠ b → (clT c a).2.1 ≠ (clT c b).2.1 :=
  cl_cases nmX0 nmX1 nmX2 nmX3 nmX5 nmX7 nmX8 nmX9 nmX10 nmX11
def nowL : List (Nat × Nat) := [(0,4),(1,2),(0,1),(1,6),(1,6),(1,6),(0,5),(1,6),(1,6),(1,6),(1,6),(0,0),(1,20),(1,10)]
def obL : List (Nat × Nat) := [(0,8),(0,3),(1,8)] ++ (nowL ++ ([(0,7),(0,3),(1,8)] ++ (nowL ++ ([(1,200),(0,6),(3,10)] ++ (nowL ++ (nowL ++ (nowL ++ (nowL ++ (nowL ++ (nowL ++ (nowL ++ (nowL ++ (nowL ++ (nowL ++ ([(0,2),(2,2),(3,2)] ++ (nowL ++ (nowL ++ [(0,9),(1,8),(1,6),(1,67),(1,670),(1,134),(2,2),(1,200),(1,8),(1,18),(1,24),(1,4),(1,39)])))))))))))))))))
theorem obL_len : obL.length = 221 := by decide +kernel
def ob (k : Nat) : Nat × Nat := obL.getD k (9, 0)
def al (k : Nat) : Nat := if (ob k).1 = 1 then (ob k).2 else 0
def zl (k : Nat) : Nat := if (ob k).1 = 2 then (ob k).2 else 0
def rl (k : Nat) : Nat := if (ob k).1 = 3 then (ob k).2 else 0
theorem ob_lt {k : Nat} (h : (ob k).1 ≠ 9) : k < 221 := by
  rcases Nat.lt_or_ge k 221 with h1 | h1
  · exact h1
  · exact absurd (by rw [ob, List.getD_eq_getElem?_getD, List.getElem?_eq_none (by rw [obL_len]; exact h1)]; rfl) h
theorem ob_cls : ∀ k, k < 221 → (ob k).1 = 0 → (ob k).2 < 10 := by decide +kernel
theorem al_ob {k : Nat} {i : Int32} (h : vp_in i (al k)) : ob k = (1, al k) := by
  unfold al at h ⊢
  split
  · rename_i h1; rw [← h1]
  · rename_i h1; rw [if_neg h1] at h; exact absurd (Or.inr (Nat.zero_le _)) h
theorem zl_ob {k : Nat} {i : Int32} (h : vp_in i (zl k)) : ob k = (2, zl k) := by
  unfold zl at h ⊢
  split
  · rename_i h1; rw [← h1]
  · rename_i h1; rw [if_neg h1] at h; exact absurd (Or.inr (Nat.zero_le _)) h
theorem rl_ob {k : Nat} {i : Int32} (h : vp_in i (rl k)) : ob k = (3, rl k) := by
  unfold rl at h ⊢
  split
  · rename_i h1; rw [← h1]
  · rename_i h1; rw [if_neg h1] at h; exact absurd (Or.inr (Nat.zero_le _)) h
def fkL : List (List (Option (Option Nat))) := [
  [some (some 1), some (some 2)],
  [none, some (some 1), some (some 2), some (some 3)],
  [some (some 1), some (some 2)],
  [none, some (some 1)],
  [none, some (some 1), some (some 2), some (some 6), some (some 11)],
  [none, some (some 1), some (some 2), some (some 3), some (some 4)],
  [none, none, some (some 1)],
  [none, some (some 1), some (some 3), some (some 17), none, none, none, none],
  [some (some 1), some (some 3), some (some 17), some (some 35), some (some 177), some none],
  [none, some (some 1), none, some (some 2), some (some 3), some (some 4), none, some (some 5), some (some 6), some none, some (some 7), none, none, none, none, none, some (some 0), none, some (some 8), none, some (some 9), none, some (some 10), some (some 11), some (some 12), none]]
def fk (c j : Nat) : Option (Option Nat) := (fkL.getD c []).getD j none
def fv (b : Nat) (σ : St) (a c j : Nat) : Value := match fk c j with
  | none => .int (σ.1 a j)
  | some none => .long (σ.2 a)
  | some (some 0) => .int (σ.1 a j)
  | some (some (o + 1)) => .ref (b + (a + (o + 1)))
def ent (D : DD) (b : Nat) (σ : St) (k : Nat) : va_E := match ob k with
  | (0, c) => .inr (c, (List.range (clN c)).map (fv b σ k c))
  | (1, n) => .inl (D.2.1, n, .inl (σ.1 k))
  | (2, n) => .inl (D.2.2.1, n, .inl (σ.1 k))
  | (_, n) => .inl (D.2.2.2, n, .inr (.inr (.inr (.inr (fun i => some (b + (k + 1 + 14 * i)))))))
def wl (D : DD) (b : Nat) (σ : St) : va_W := (List.range 221).map fun k => (b + k, ent D b σ k)
abbrev tysD (D : DD) : List (ClassId × FieldType) := [(D.2.1, .int), (D.2.2.1, .boolean), (D.2.2.2, .object "ChronicleWar$Now")]
def pi (σ : St) (k j : Nat) (v : Int32) : St := (fun a => if a = k then upd (σ.1 k) j v else σ.1 a, σ.2)
def pr (σ : St) (k : Nat) (f : Nat → Int32) : St := (fun a => if a = k then f else σ.1 a, σ.2)
def pl (σ : St) (k : Nat) (v : Int64) : St := (σ.1, fun a => if a = k then v else σ.2 a)
theorem wl_at (D : DD) (b : Nat) (σ : St) {k : Nat} (h : k < 221) : (wl D b σ)[k]? = some (b + k, ent D b σ k) := by
  rw [wl, List.getElem?_map, List.getElem?_range h]; rfl
theorem wl_set {D : DD} {b : Nat} {σ σ' : St} {k : Nat} {x : va_E} (hx : ent D b σ' k = x) (ho : ∀ a, a ≠ k → ent D b σ' a = ent D b σ a) : (wl D b σ).set k (b + k, x) = wl D b σ' := by
  apply List.ext_getElem?
  intro i
  by_cases h : i < 221
  · rw [wl_at D b σ' h]
    by_cases hk : k = i
    · subst hk
      rw [List.getElem?_set_self (by simp [wl, h]), hx]
    · rw [List.getElem?_set_ne hk, wl_at D b σ h, ho i (Ne.symm hk)]
  · rw [List.getElem?_eq_none (by simp [wl]; omega), List.getElem?_eq_none (by simp [wl]; omega)]
theorem wl_D (D : DD) (b : Nat) (σ : St) : va_D (fun q => b ≤ q) (wl D b σ) := by
  have key : ∀ (k : Nat) (q : Nat × va_E), (wl D b σ)[k]? = some q → q.1 = b + k := by
    intro k q h
    by_cases hk : k < 221
    · rw [wl_at D b σ hk] at h; cases h; rfl
    · rw [List.getElem?_eq_none (by simp [wl]; omega)] at h; cases h
  refine ⟨fun i j p q h1 h2 h => ?_, fun k q h => ?_⟩
  · have e1 := key i p h1
    have e2 := key j q h2
    omega
  · have e1 := key k q h
    show b ≤ q.1
    omega
theorem ent_congr {D : DD} {b : Nat} {σ σ' : St} {a : Nat} (h1 : σ'.1 a = σ.1 a) (h2 : σ'.2 a = σ.2 a) : ent D b σ' a = ent D b σ a := by
  have h3 : ∀ c, fv b σ' a c = fv b σ a c := by
    intro c; funext j; unfold fv; rw [h1, h2]
  unfold ent
  rw [h1]
  simp only [h3]
theorem ent_ob {D : DD} {b : Nat} {σ : St} {k c : Nat} (h : ob k = (0, c)) : ent D b σ k = .inr (c, (List.range (clN c)).map (fv b σ k c)) := by
  unfold ent; rw [h]; rfl
theorem ent_al {D : DD} {b : Nat} {σ : St} {k n : Nat} (h : ob k = (1, n)) : ent D b σ k = .inl (D.2.1, n, .inl (σ.1 k)) := by
  unfold ent; rw [h]; rfl
theorem ent_zl {D : DD} {b : Nat} {σ : St} {k n : Nat} (h : ob k = (2, n)) : ent D b σ k = .inl (D.2.2.1, n, .inl (σ.1 k)) := by
  unfold ent; rw [h]; rfl
theorem ent_rl {D : DD} {b : Nat} {σ : St} {k n : Nat} (h : ob k = (3, n)) : ent D b σ k = .inl (D.2.2.2, n, .inr (.inr (.inr (.inr (fun i => some (b + (k + 1 + 14 * i))))))) := by
  unfold ent; rw [h]; rfl
theorem n09 : (0 : Nat) ≠ 9 := by decide
theorem n19 : (1 : Nat) ≠ 9 := by decide
theorem n29 : (2 : Nat) ≠ 9 := by decide
theorem n39 : (3 : Nat) ≠ 9 := by decide
theorem at_ob (D : DD) (b : Nat) (σ : St) {k c : Nat} (h : ob k = (0, c)) : (wl D b σ)[k]? = some (b + k, .inr (c, (List.range (clN c)).map (fv b σ k c))) := by
  rw [wl_at D b σ (ob_lt (by rw [h]; exact n09)), ent_ob h]
theorem at_al (D : DD) (b : Nat) (σ : St) {k n : Nat} (h : ob k = (1, n)) : (wl D b σ)[k]? = some (b + k, .inl (D.2.1, n, .inl (σ.1 k))) := by
  rw [wl_at D b σ (ob_lt (by rw [h]; exact n19)), ent_al h]
theorem at_zl (D : DD) (b : Nat) (σ : St) {k n : Nat} (h : ob k = (2, n)) : (wl D b σ)[k]? = some (b + k, .inl (D.2.2.1, n, .inl (σ.1 k))) := by
  rw [wl_at D b σ (ob_lt (by rw [h]; exact n29)), ent_zl h]
theorem at_rl (D : DD) (b : Nat) (σ : St) {k n : Nat} (h : ob k = (3, n)) : (wl D b σ)[k]? = some (b + k, .inl (D.2.2.2, n, .inr (.inr (.inr (.inr (fun i => some (b + (k + 1 + 14 * i)))))))) := by
  rw [wl_at D b σ (ob_lt (by rw [h]; exact n39)), ent_rl h]
theorem cls_lt {k c : Nat} (h : ob k = (0, c)) : c < 10 := by
  have h1 := ob_cls k (ob_lt (by rw [h]; exact n09)) (by rw [h])
  rw [h] at h1
  exact h1
theorem pi_same (σ : St) (k j : Nat) (v : Int32) : (pi σ k j v).1 k = upd (σ.1 k) j v := by simp [pi]
theorem pi_ne (σ : St) {k a : Nat} (j : Nat) (v : Int32) (h : a ≠ k) : (pi σ k j v).1 a = σ.1 a := by simp [pi, h]
theorem pi_long (σ : St) (k j : Nat) (v : Int32) : (pi σ k j v).2 = σ.2 := rfl
theorem wl_pi_al {D : DD} {b : Nat} {σ : St} {k n j : Nat} {v : Int32} (h : ob k = (1, n)) : (wl D b σ).set k (b + k, .inl (D.2.1, n, .inl (upd (σ.1 k) j v))) = wl D b (pi σ k j v) :=
  wl_set (by rw [ent_al h, pi_same]) (fun a ha => ent_congr (pi_ne σ j v ha) rfl)
theorem wl_pi_zl {D : DD} {b : Nat} {σ : St} {k n j : Nat} {v : Int32} (h : ob k = (2, n)) : (wl D b σ).set k (b + k, .inl (D.2.2.1, n, .inl (upd (σ.1 k) j v))) = wl D b (pi σ k j v) :=
  wl_set (by rw [ent_zl h, pi_same]) (fun a ha => ent_congr (pi_ne σ j v ha) rfl)
theorem wl_pr_al {D : DD} {b : Nat} {σ : St} {k n : Nat} {f : Nat → Int32} (h : ob k = (1, n)) : (wl D b σ).set k (b + k, .inl (D.2.1, n, .inl f)) = wl D b (pr σ k f) :=
  wl_set (by rw [ent_al h]; simp [pr]) (fun a ha => ent_congr (by simp [pr, ha]) rfl)
theorem wl_pi_ob {D : DD} {b : Nat} {σ : St} {k c j : Nat} {v : Int32} (h : ob k = (0, c)) (hf : fk c j = none ∨ fk c j = some (some 0)) :
    (wl D b σ).set k (b + k, .inr (c, ((List.range (clN c)).map (fv b σ k c)).set j (.int v))) = wl D b (pi σ k j v) := by
  refine wl_set ?_ (fun a ha => ent_congr (pi_ne σ j v ha) rfl)
  rw [ent_ob h]
  refine congrArg (fun z => (Sum.inr (c, z) : va_E)) ?_
  apply List.ext_getElem?
  intro i
  rw [List.getElem?_map, List.getElem?_set, List.length_map, List.length_range, List.getElem?_map]
  by_cases hi : i < clN c
  · rw [List.getElem?_range hi]
    by_cases hj : j = i
    · subst hj
      rw [if_pos rfl, if_pos hi]
      simp only [Option.map_some, Option.some.injEq]
      unfold fv
      rw [pi_same]
      rcases hf with hf | hf <;> rw [hf] <;> simp [upd]
    · rw [if_neg hj]
      simp only [Option.map_some, Option.some.injEq]
      unfold fv
      rw [pi_same]
      have : upd (σ.1 k) j v i = σ.1 k i := by simp [upd, Ne.symm hj]
      rw [this]; rfl
  · rw [List.getElem?_eq_none (by simp; omega)]
    by_cases hj : j = i
    · subst hj; rw [if_pos rfl, if_neg hi]; rfl
    · rw [if_neg hj]; rfl
theorem wl_pl_ob {D : DD} {b : Nat} {σ : St} {k c j : Nat} {v : Int64} (h : ob k = (0, c)) (hf : fk c j = some none) (hu : ∀ i, i < clN c → fk c i = some none → i = j) :
    (wl D b σ).set k (b + k, .inr (c, ((List.range (clN c)).map (fv b σ k c)).set j (.long v))) = wl D b (pl σ k v) := by
  refine wl_set ?_ (fun a ha => ent_congr rfl (by simp [pl, ha]))
  rw [ent_ob h]
  refine congrArg (fun z => (Sum.inr (c, z) : va_E)) ?_
  apply List.ext_getElem?
  intro i
  rw [List.getElem?_map, List.getElem?_set, List.length_map, List.length_range, List.getElem?_map]
  by_cases hi : i < clN c
  · rw [List.getElem?_range hi]
    by_cases hj : j = i
    · subst hj
      rw [if_pos rfl, if_pos hi]
      simp only [Option.map_some, Option.some.injEq]
      unfold fv
      rw [hf]; simp [pl]
    · rw [if_neg hj]
      simp only [Option.map_some, Option.some.injEq]
      unfold fv
      split <;> simp [pl] 
      rename_i h2
      exact absurd (hu i hi h2) (Ne.symm hj)
  · rw [List.getElem?_eq_none (by simp; omega)]
    by_cases hj : j = i
    · subst hj; rw [if_pos rfl, if_neg hi]; rfl
    · rw [if_neg hj]; rfl
theorem fv_at (b : Nat) (σ : St) (k c : Nat) {j : Nat} (h : j < clN c) : ((List.range (clN c)).map (fv b σ k c))[j]? = some (fv b σ k c j) := by
  rw [List.getElem?_map, List.getElem?_range h]; rfl
def tg : List Cond := lw_tbl.filter goodWord
theorem tg_of {w : Cond} (h : w ∈ lw_tbl) (hg : goodWord w = true) : w ∈ tg := List.mem_filter.mpr ⟨h, hg⟩
theorem tg_good : GoodIn tg tg := fun w h => ⟨h, good_of_word (List.mem_filter.mp h).2⟩
def ownS : Nat → String
  | 0 => RX0
  | 1 => RX1
  | 2 => RX2
  | 3 => RX3
  | 4 => RX4
  | 5 => RX5
  | 6 => RX6
  | 7 => RX7
  | 8 => RX8
  | 9 => RX9
  | 10 => RX10
  | 11 => RX11
  | 12 => "ChronicleWarLaw"
  | 13 => RJ6
  | 14 => RJ9
  | _ => RJ7
def ftab : List (Nat × Nat × Nat × Nat × Nat) := [(3, 9, 3, 0, 31), (9, 88, 3, 0, 32), (10, 193, 3, 0, 33), (3, 15, 3, 1, 34), (1, 9, 1, 0, 53), (9, 52, 1, 0, 54), (10, 246, 1, 0, 55), (1, 15, 1, 1, 56), (6, 27, 1, 1, 57), (10, 92, 1, 1, 58), (1, 19, 1, 2, 59), (6, 34, 1, 2, 60), (10, 96, 1, 2, 61), (1, 22, 1, 3, 62), (6, 31, 1, 3, 63), (10, 99, 1, 3, 64), (7, 9, 5, 0, 80), (4, 15, 5, 0, 81), (9, 61, 5, 0, 82), (6, 57, 5, 0, 83), (10, 169, 5, 0, 84), (7, 15, 5, 1, 85), (5, 63, 5, 1, 86), (6, 63, 5, 1, 87), (10, 109, 5, 1, 88), (7, 19, 5, 2, 89), (4, 27, 5, 2, 90), (5, 56, 5, 2, 91), (6, 68, 5, 2, 92), (10, 112, 5, 2, 93), (7, 22, 5, 3, 94), (5, 69, 5, 3, 95), (6, 71, 5, 3, 96), (10, 115, 5, 3, 97), (7, 25, 5, 4, 98), (5, 72, 5, 4, 99), (6, 74, 5, 4, 100), (10, 118, 5, 4, 101), (0, 9, 0, 0, 119), (0, 15, 0, 1, 120), (5, 9, 4, 0, 126), (6, 66, 4, 0, 127), (10, 122, 4, 0, 128), (5, 15, 4, 1, 129), (10, 124, 4, 1, 130), (5, 22, 4, 2, 131), (9, 48, 4, 2, 132), (6, 15, 4, 2, 133), (10, 85, 4, 2, 134), (5, 29, 4, 3, 135), (4, 9, 4, 3, 136), (9, 57, 4, 3, 137), (10, 102, 4, 3, 138), (6, 53, 4, 3, 139), (5, 36, 4, 4, 140), (10, 137, 4, 4, 141), (9, 9, 7, 0, 163), (10, 48, 7, 0, 164), (9, 18, 7, 1, 165), (10, 60, 7, 1, 166), (9, 25, 7, 2, 167), (10, 67, 7, 2, 168), (9, 29, 7, 3, 169), (9, 33, 7, 4, 170), (9, 36, 7, 5, 171), (9, 39, 7, 6, 172), (9, 42, 7, 7, 173), (8, 9, 6, 0, 200), (10, 130, 6, 0, 201), (8, 15, 6, 1, 202), (8, 20, 6, 2, 203), (2, 9, 2, 0, 219), (10, 238, 2, 0, 220), (2, 17, 2, 1, 221), (10, 242, 2, 1, 222), (10, 12, 8, 0, 229), (10, 19, 8, 1, 230), (10, 26, 8, 2, 231), (10, 33, 8, 3, 232), (10, 40, 8, 4, 233), (10, 44, 8, 5, 234), (11, 7, 9, 0, 690), (11, 13, 9, 1, 691), (11, 55, 9, 2, 692), (11, 17, 9, 3, 693), (11, 20, 9, 4, 694), (11, 23, 9, 5, 695), (11, 116, 9, 6, 696), (11, 26, 9, 7, 697), (11, 29, 9, 8, 698), (11, 220, 9, 9, 699), (11, 33, 9, 10, 700), (11, 58, 9, 11, 701), (11, 61, 9, 12, 702), (11, 68, 9, 13, 703), (11, 71, 9, 14, 704), (11, 74, 9, 15, 705), (11, 77, 9, 16, 706), (11, 92, 9, 17, 707), (11, 36, 9, 18, 708), (11, 107, 9, 19, 709), (11, 39, 9, 20, 710), (11, 110, 9, 21, 711), (11, 42, 9, 22, 712), (11, 45, 9, 23, 713), (11, 48, 9, 24, 714), (11, 205, 9, 25, 715)]
theorem ftab_ok : ∀ q ∈ ftab, tables_1[q.2.2.2.2]? = some (Cond.fieldLink (ownS q.1) q.2.1 (clT q.2.2.1 q.2.2.2.1).1 (clT q.2.2.1 q.2.2.2.1).2.1 (clT q.2.2.1 q.2.2.2.1).2.2.1) ∧ q.2.2.2.1 < clN q.2.2.1 ∧ q.2.2.1 < 10 := by decide +kernel
def ftabB (own idx c j : Nat) : Bool := ftab.any (fun q => q.1 == own && q.2.1 == idx && q.2.2.1 == c && q.2.2.2.1 == j)
theorem ftabB_ok {own idx c j : Nat} (h : ftabB own idx c j = true) : Cond.fieldLink (ownS own) idx (clT c j).1 (clT c j).2.1 (clT c j).2.2.1 ∈ tg ∧ j < clN c ∧ c < 10 := by
  obtain ⟨q, hq, h⟩ := List.any_eq_true.mp h
  simp only [Bool.and_eq_true, beq_iff_eq] at h
  obtain ⟨⟨⟨rfl, rfl⟩, rfl⟩, rfl⟩ := h
  have h2 := ftab_ok q hq
  exact ⟨tg_of (List.mem_append_right _ (List.mem_of_getElem? h2.1)) rfl, h2.2⟩
theorem clW_ok0 : ∀ c, c < 10 → ∀ w ∈ u_ws (clC c) (clT c) (clN c), w ∈ lw_tbl ∧ goodWord w = true :=
  cl_cases (by decide +kernel) (by decide +kernel) (by decide +kernel) (by decide +kernel) (by decide +kernel) (by decide +kernel) (by decide +kernel) (by decide +kernel) (by decide +kernel) (by decide +kernel)
theorem clW_ok {c : Nat} (h : c < 10) : ∀ w ∈ u_ws (clC c) (clT c) (clN c), w ∈ tg := fun w hw => tg_of (clW_ok0 c h w hw).1 (clW_ok0 c h w hw).2
def ctab : List (Nat × Nat × Int32 × Nat) := [(10, 136, -1000000, 442), (13, 265, 1431655765, 521), (13, 266, 858993459, 522), (13, 267, 252645135, 523), (11, 149, -1000000, 875), (11, 200, 1000000, 966)]
theorem ctab_ok : ∀ q ∈ ctab, tables_1[q.2.2.2]? = some (Cond.constant (ownS q.1) q.2.1 q.2.2.1) := by decide +kernel
def ctabB (own idx : Nat) (v : Int32) : Bool := ctab.any (fun q => q.1 == own && q.2.1 == idx && decide (q.2.2.1 = v))
theorem ctabB_ok {own idx : Nat} {v : Int32} (h : ctabB own idx v = true) : Cond.constant (ownS own) idx v ∈ tg := by
  obtain ⟨q, hq, h⟩ := List.any_eq_true.mp h
  simp only [Bool.and_eq_true, beq_iff_eq, decide_eq_true_eq] at h
  obtain ⟨⟨rfl, rfl⟩, rfl⟩ := h
  exact tg_of (List.mem_append_right _ (List.mem_of_getElem? (ctab_ok q hq))) rfl
def ltab : List (Nat × Nat × Nat × Nat) := [(10, 247, 10, 637), (10, 249, 100, 642), (10, 251, 1000, 647), (10, 253, 10000, 652), (10, 255, 100000, 657), (11, 224, 10, 1015), (11, 229, 100, 1020), (11, 237, 1000, 1021), (11, 239, 10000, 1022), (11, 241, 100000, 1023)]
theorem ltab_ok : ∀ q ∈ ltab, tables_1[q.2.2.2]? = some (Cond.constantLong (ownS q.1) q.2.1 (lN q.2.2.1)) := by decide +kernel
def ltabB (own idx c : Nat) : Bool := ltab.any (fun q => q.1 == own && q.2.1 == idx && q.2.2.1 == c)
theorem ltabB_ok {own idx c : Nat} (h : ltabB own idx c = true) : Cond.constantLong (ownS own) idx (lN c) ∈ tg := by
  obtain ⟨q, hq, h⟩ := List.any_eq_true.mp h
  simp only [Bool.and_eq_true, beq_iff_eq] at h
  obtain ⟨⟨rfl, rfl⟩, rfl⟩ := h
  exact tg_of (List.mem_append_right _ (List.mem_of_getElem? (ltab_ok q hq))) rfl
