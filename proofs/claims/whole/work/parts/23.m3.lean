/-! which arrivals count -/
def plf (K : Nat → Int32) (A : Int32) (t : Nat) : List Nat := (List.range t).filter (fun i => decide (K i ≤ A))
theorem plf_s (K : Nat → Int32) (A : Int32) (t : Nat) : plf K A (t + 1) = plf K A t ++ (if K t ≤ A then [t] else []) := by
  unfold plf
  rw [List.range_succ, List.filter_append]
  by_cases h : K t ≤ A <;> simp [h]
theorem plf_len (K : Nat → Int32) (A : Int32) (t : Nat) : (plf K A t).length ≤ t := by
  have := List.length_filter_le (fun i => decide (K i ≤ A)) (List.range t)
  simpa [plf] using this
theorem plf_lt {K : Nat → Int32} {A : Int32} {t j : Nat} (h : j < (plf K A t).length) : (plf K A t).getD j 0 < t := by
  have h1 : (plf K A t).getD j 0 ∈ plf K A t := by
    rw [List.getD_eq_getElem?_getD, List.getElem?_eq_getElem h]
    exact List.getElem_mem h
  unfold plf at h1 ⊢
  exact List.mem_range.mp (List.mem_filter.mp h1).1
theorem plf_cg {K K' : Nat → Int32} {A : Int32} {t : Nat} (h : ∀ i, i < t → K i = K' i) : plf K A t = plf K' A t := by
  unfold plf
  apply List.filter_congr
  intro i hi
  rw [h i (List.mem_range.mp hi)]
theorem getD_l {l : List Nat} {x j : Nat} (h : j < l.length) : (l ++ [x]).getD j 0 = l.getD j 0 := by
  rw [List.getD_eq_getElem?_getD, List.getD_eq_getElem?_getD, List.getElem?_append_left h]
theorem getD_e {l : List Nat} {x : Nat} : (l ++ [x]).getD l.length 0 = x := by
  rw [List.getD_eq_getElem?_getD, List.getElem?_append_right (Nat.le_refl _), Nat.sub_self]
  rfl
/-- Star.see: what it leaves -/
theorem px_see {σ : Mm} {fu this t : Nat} {A : Int32} (ht : t ≤ 24) (h2 : Mm.gi σ this 2 = nI t) (hfu : t < fu) : ∃ σ', f_X7_see YF fu this A σ = some σ' ∧ Fx (fun a b => (a = this ∧ b = 3) ∨ a = this + 2) σ σ' ∧ Mm.gi σ' this 3 = nI (plf (fun i => Mm.gi σ (this + 1) (4 * i + 3)) A t).length ∧ ∀ j, j < (plf (fun i => Mm.gi σ (this + 1) (4 * i + 3)) A t).length → Mm.gi σ' (this + 2) j = nI ((plf (fun i => Mm.gi σ (this + 1) (4 * i + 3)) A t).getD j 0) := by
  generalize hK : (fun i => Mm.gi σ (this + 1) (4 * i + 3)) = K
  have hKi : ∀ i, K i = Mm.gi σ (this + 1) (4 * i + 3) := fun i => by rw [← hK]
  generalize hC : (fun a b : Nat => (a = this ∧ b = 3) ∨ a = this + 2) = C
  have hC0 : ∀ a b, C a b ↔ ((a = this ∧ b = 3) ∨ a = this + 2) := fun a b => by rw [← hC]
  have key : ∀ (d n i : Nat) (τ : Mm), i + d = t → d < n → Fx C σ τ → Mm.gi τ this 3 = nI (plf K A i).length → (∀ j, j < (plf K A i).length → Mm.gi τ (this + 2) j = nI ((plf K A i).getD j 0)) → ∃ σ', b_X7_see_7 YF fu this A n (nI i) τ = some σ' ∧ Fx C σ σ' ∧ Mm.gi σ' this 3 = nI (plf K A t).length ∧ ∀ j, j < (plf K A t).length → Mm.gi σ' (this + 2) j = nI ((plf K A t).getD j 0) := by
    intro d
    induction d with
    | zero =>
      intro n i τ hi hn hF h3 hj
      obtain ⟨n, rfl⟩ : ∃ m, n = m + 1 := ⟨n - 1, by omega⟩
      have hit : i = t := by omega
      subst hit
      refine ⟨τ, ?_, hF, h3, hj⟩
      show s_X7_see_7 YF fu this A (b_X7_see_7 YF fu this A n) (nI i) τ = some τ
      unfold s_X7_see_7
      rw [hF.gi (fun h => by rw [hC0] at h; omega), h2, if_pos ((i_le (by omega) (by omega)).mpr (Nat.le_refl _))]
    | succ d ih =>
      intro n i τ hi hn hF h3 hj
      obtain ⟨n, rfl⟩ : ∃ m, n = m + 1 := ⟨n - 1, by omega⟩
      show ∃ σ', s_X7_see_7 YF fu this A (b_X7_see_7 YF fu this A n) (nI i) τ = some σ' ∧ _
      unfold s_X7_see_7
      have e1 : nI i * 4 + 3 = nI (4 * i + 3) := by rw [i_lit 4, i_lit 3, i_mul, nI_add, Nat.mul_comm]
      have hl := plf_len K A i
      rw [hF.gi (fun h => by rw [hC0] at h; omega), h2, if_neg (fun h => by have := (i_le (by omega) (by omega)).mp h; omega), e1, if_pos ((inb_iff (by omega)).mpr (by omega)), ix_nI (by omega), hF.gi (o := this + 1) (fun h => by rw [hC0] at h; omega), ← hKi]
      by_cases hc : A < K i
      · rw [if_pos hc]
        show ∃ σ', b_X7_see_7 YF fu this A n (nI i + 1) τ = some σ' ∧ _
        rw [i_lit 1, nI_add]
        have hn1 : ¬ K i ≤ A := fun h => by rw [Int32.lt_iff_toInt_lt] at hc; rw [Int32.le_iff_toInt_le] at h; omega
        have hp : plf K A (i + 1) = plf K A i := by rw [plf_s, if_neg hn1, List.append_nil]
        exact ih n (i + 1) τ (by omega) (by omega) hF (by rw [hp]; exact h3) (by rw [hp]; exact hj)
      · have hn1 : K i ≤ A := by rw [Int32.lt_iff_toInt_lt] at hc; rw [Int32.le_iff_toInt_le]; omega
        have hp : plf K A (i + 1) = plf K A i ++ [i] := by rw [plf_s, if_pos hn1]
        rw [if_neg hc, h3, if_pos ((inb_iff (by omega)).mpr (by omega)), ix_nI (by omega)]
        show ∃ σ', b_X7_see_7 YF fu this A n (nI i + 1) (Mm.si (Mm.si τ (this + 2) (plf K A i).length (nI i)) this 3 (Mm.gi (Mm.si τ (this + 2) (plf K A i).length (nI i)) this 3 + 1)) = some σ' ∧ _
        rw [gi_n (show ¬ (this = this + 2 ∧ 3 = (plf K A i).length) by omega), h3, i_lit 1, nI_add, nI_add]
        refine ih n (i + 1) _ (by omega) (by omega) ((hF.tr (Fx.si (by rw [hC0]; exact Or.inr rfl))).tr (Fx.si (by rw [hC0]; exact Or.inl ⟨rfl, rfl⟩))) (by rw [gi_s, hp]; simp) (fun j hj2 => ?_)
        rw [gi_n (by omega)]
        rw [hp, List.length_append] at hj2
        simp at hj2
        by_cases hje : j = (plf K A i).length
        · rw [hje, gi_s, hp, getD_e]
        · rw [gi_n (by omega), hj j (by omega), hp, getD_l (by omega)]
  unfold f_X7_see
  show ∃ σ', b_X7_see_7 YF fu this A fu (nI 0) (Mm.si σ this 3 0) = some σ' ∧ _
  refine key t fu 0 _ (by omega) hfu (Fx.si (by rw [hC0]; exact Or.inl ⟨rfl, rfl⟩)) (by rw [gi_s]; rfl) (fun j hj => ?_)
  simp [plf] at hj
/-- SkyClocksModel.layCounts: the places that count, and how many -/
theorem pm_layCounts {σ : Mm} {fu s t : Nat} (hs : s < 4) (ht : t ≤ 24) (h2 : Mm.gi σ 596 s = nI t) (hfu : t < fu) : ∃ σ', f_X12_layCounts YF fu 595 (nI s) σ = some σ' ∧ Fx (fun a b => (a = 595 ∧ b = 22) ∨ a = 614) σ σ' ∧ Mm.gi σ' 595 22 = nI (plf (fun i => Mm.gi σ 600 (24 * s + i)) (Mm.gi σ 595 8) t).length ∧ ∀ j, j < (plf (fun i => Mm.gi σ 600 (24 * s + i)) (Mm.gi σ 595 8) t).length → Mm.gi σ' 614 j = nI (24 * s + (plf (fun i => Mm.gi σ 600 (24 * s + i)) (Mm.gi σ 595 8) t).getD j 0) := by
  generalize hA : Mm.gi σ 595 8 = A
  generalize hK : (fun i => Mm.gi σ 600 (24 * s + i)) = K
  have hKi : ∀ i, K i = Mm.gi σ 600 (24 * s + i) := fun i => by rw [← hK]
  generalize hC : (fun a b : Nat => (a = 595 ∧ b = 22) ∨ a = 614) = C
  have hC0 : ∀ a b, C a b ↔ ((a = 595 ∧ b = 22) ∨ a = 614) := fun a b => by rw [← hC]
  have key : ∀ (d n i : Nat) (τ : Mm), i + d = t → d < n → Fx C σ τ → Mm.gi τ 595 22 = nI (plf K A i).length → (∀ j, j < (plf K A i).length → Mm.gi τ 614 j = nI (24 * s + (plf K A i).getD j 0)) → ∃ σ', b_X12_layCounts_10 YF fu 595 (nI s) n (nI (24 * s + i)) τ = some σ' ∧ Fx C σ σ' ∧ Mm.gi σ' 595 22 = nI (plf K A t).length ∧ ∀ j, j < (plf K A t).length → Mm.gi σ' 614 j = nI (24 * s + (plf K A t).getD j 0) := by
    intro d
    induction d with
    | zero =>
      intro n i τ hi hn hF h3 hj
      obtain ⟨n, rfl⟩ : ∃ m, n = m + 1 := ⟨n - 1, by omega⟩
      have hit : i = t := by omega
      subst hit
      refine ⟨τ, ?_, hF, h3, hj⟩
      show s_X12_layCounts_10 YF fu 595 (nI s) (b_X12_layCounts_10 YF fu 595 (nI s) n) (nI (24 * s + i)) τ = some τ
      unfold s_X12_layCounts_10
      rw [if_pos ((inb_iff (by omega)).mpr (by omega)), ix_nI (by omega), hF.gi (fun h => by rw [hC0] at h; omega), h2, i_lit 24, i_mul, nI_add, if_pos ((i_le (by omega) (by omega)).mpr (Nat.le_refl _))]
    | succ d ih =>
      intro n i τ hi hn hF h3 hj
      obtain ⟨n, rfl⟩ : ∃ m, n = m + 1 := ⟨n - 1, by omega⟩
      show ∃ σ', s_X12_layCounts_10 YF fu 595 (nI s) (b_X12_layCounts_10 YF fu 595 (nI s) n) (nI (24 * s + i)) τ = some σ' ∧ _
      unfold s_X12_layCounts_10
      have hl := plf_len K A i
      rw [if_pos ((inb_iff (by omega)).mpr (by omega)), ix_nI (by omega), hF.gi (fun h => by rw [hC0] at h; omega), h2, i_lit 24, i_mul, nI_add, if_neg (fun h => by have := (i_le (by omega) (by omega)).mp h; omega), if_pos ((inb_iff (by omega)).mpr (by omega)), ix_nI (by omega), hF.gi (o := 595) (k := 8) (fun h => by rw [hC0] at h; omega), hF.gi (o := 600) (fun h => by rw [hC0] at h; omega), hA, ← hKi]
      by_cases hc : A < K i
      · rw [if_pos hc]
        show ∃ σ', b_X12_layCounts_10 YF fu 595 (nI s) n (nI (24 * s + i) + 1) τ = some σ' ∧ _
        rw [i_lit 1, nI_add]
        have hn1 : ¬ K i ≤ A := fun h => by rw [Int32.lt_iff_toInt_lt] at hc; rw [Int32.le_iff_toInt_le] at h; omega
        have hp : plf K A (i + 1) = plf K A i := by rw [plf_s, if_neg hn1, List.append_nil]
        exact ih n (i + 1) τ (by omega) (by omega) hF (by rw [hp]; exact h3) (by rw [hp]; exact hj)
      · have hn1 : K i ≤ A := by rw [Int32.lt_iff_toInt_lt] at hc; rw [Int32.le_iff_toInt_le]; omega
        have hp : plf K A (i + 1) = plf K A i ++ [i] := by rw [plf_s, if_pos hn1]
        rw [if_neg hc, h3, if_pos ((inb_iff (by omega)).mpr (by omega)), ix_nI (by omega)]
        show ∃ σ', b_X12_layCounts_10 YF fu 595 (nI s) n (nI (24 * s + i) + 1) (Mm.si (Mm.si τ 614 (plf K A i).length (nI (24 * s + i))) 595 22 (Mm.gi (Mm.si τ 614 (plf K A i).length (nI (24 * s + i))) 595 22 + 1)) = some σ' ∧ _
        rw [gi_n (show ¬ (595 = 614 ∧ 22 = (plf K A i).length) by omega), h3, i_lit 1, nI_add, nI_add]
        refine ih n (i + 1) _ (by omega) (by omega) ((hF.tr (Fx.si (by rw [hC0]; exact Or.inr rfl))).tr (Fx.si (by rw [hC0]; exact Or.inl ⟨rfl, rfl⟩))) (by rw [gi_s, hp]; simp) (fun j hj2 => ?_)
        rw [gi_n (by omega)]
        rw [hp, List.length_append] at hj2
        simp at hj2
        by_cases hje : j = (plf K A i).length
        · rw [hje, gi_s, hp, getD_e]
        · rw [gi_n (by omega), hj j (by omega), hp, getD_l (by omega)]
  unfold f_X12_layCounts
  show ∃ σ', b_X12_layCounts_10 YF fu 595 (nI s) fu (24 * nI s) (Mm.si σ 595 22 0) = some σ' ∧ _
  rw [i_lit 24, i_mul]
  refine key t fu 0 _ (by omega) hfu (Fx.si (by rw [hC0]; exact Or.inl ⟨rfl, rfl⟩)) (by rw [gi_s]; rfl) (fun j hj => ?_)
  simp [plf] at hj
