/-! pairs of like turns -/
theorem zg_l {l : List Int} {x : Int} {j : Nat} (h : j < l.length) : (l ++ [x]).getD j 0 = l.getD j 0 := by
  rw [List.getD_eq_getElem?_getD, List.getD_eq_getElem?_getD, List.getElem?_append_left h]
theorem zg_e {l : List Int} {x : Int} : (l ++ [x]).getD l.length 0 = x := by
  rw [List.getD_eq_getElem?_getD, List.getElem?_append_right (Nat.le_refl _), Nat.sub_self]
  rfl
def ccq (Ii Tn : Nat → Int32) (i j : Int32) (a b : Nat) : Bool := decide (Ii a = i) && (decide (Ii b = j) && decide (Tn a = Tn b))
def rwq (c : Nat → Nat → Bool) (v : Nat → Nat → Int) (a : Nat) : Nat → List Int
  | 0 => []
  | b + 1 => rwq c v a b ++ if c a b = true then [v a b] else []
theorem rwq_s (c : Nat → Nat → Bool) (v : Nat → Nat → Int) (a b : Nat) : rwq c v a (b + 1) = rwq c v a b ++ if c a b = true then [v a b] else [] := rfl
def grq (c : Nat → Nat → Bool) (v : Nat → Nat → Int) (n : Nat) : Nat → List Int
  | 0 => []
  | a + 1 => grq c v n a ++ rwq c v a n
theorem grq_s (c : Nat → Nat → Bool) (v : Nat → Nat → Int) (n a : Nat) : grq c v n (a + 1) = grq c v n a ++ rwq c v a n := rfl
section GR
variable {Ii Tn : Nat → Int32} {i j : Int32} {v : Nat → Nat → Int} {n : Nat}
theorem rwq_len (a : Nat) : ∀ b, (rwq (ccq Ii Tn i j) v a b).length ≤ if Ii a = i then cntq (fun q => decide (Ii q = j)) b else 0 := by
  intro b
  induction b with
  | zero => simp [rwq]
  | succ b ih =>
    rw [rwq_s, List.length_append]
    by_cases c : ccq Ii Tn i j a b = true
    · have hc := c
      unfold ccq at hc
      rw [Bool.and_eq_true, Bool.and_eq_true, decide_eq_true_iff, decide_eq_true_iff] at hc
      rw [if_pos hc.1] at ih ⊢
      rw [if_pos c, cntq_s, if_pos (decide_eq_true hc.2.1)]
      simp
      exact ih
    · rw [if_neg c]
      by_cases e : Ii a = i
      · rw [if_pos e] at ih ⊢
        rw [cntq_s]
        simp
        omega
      · rw [if_neg e] at ih ⊢
        simpa using ih
theorem grq_len : ∀ a, (grq (ccq Ii Tn i j) v n a).length ≤ cntq (fun q => decide (Ii q = i)) a * cntq (fun q => decide (Ii q = j)) n := by
  intro a
  induction a with
  | zero => simp [grq]
  | succ a ih =>
    rw [grq_s, List.length_append, cntq_s, Nat.add_mul]
    have h := rwq_len (Ii := Ii) (Tn := Tn) (i := i) (j := j) (v := v) a n
    by_cases e : Ii a = i
    · rw [if_pos e] at h
      rw [if_pos (decide_eq_true e)]
      omega
    · rw [if_neg e] at h
      rw [if_neg (fun q => e (of_decide_eq_true q))]
      omega
theorem cnt_two (hij : i ≠ j) : ∀ m, cntq (fun q => decide (Ii q = i)) m + cntq (fun q => decide (Ii q = j)) m ≤ m := by
  intro m
  induction m with
  | zero => exact Nat.le_refl _
  | succ m ih =>
    rw [cntq_s, cntq_s]
    by_cases e : Ii m = i
    · rw [if_pos (decide_eq_true e), if_neg (fun q => hij (e.symm.trans (of_decide_eq_true q)))]; omega
    · rw [if_neg (fun q => e (of_decide_eq_true q))]; split <;> omega
theorem prod_b : ∀ x, x < 25 → ∀ y, y < 25 → x + y ≤ 24 → x * y ≤ 144 := by decide
theorem grq_b (hij : i ≠ j) (hn : n ≤ 24) : (grq (ccq Ii Tn i j) v n n).length ≤ 144 := by
  have h1 := grq_len (Ii := Ii) (Tn := Tn) (i := i) (j := j) (v := v) (n := n) n
  have h2 := cnt_two (Ii := Ii) hij n
  have h3 := prod_b _ (show cntq (fun q => decide (Ii q = i)) n < 25 by omega) _ (show cntq (fun q => decide (Ii q = j)) n < 25 by omega) (by omega)
  omega
/-- room for one more -/
theorem grq_room (hij : i ≠ j) (hn : n ≤ 24) {a b : Nat} (ha : a < n) (hb : b < n) (hc : ccq Ii Tn i j a b = true) : (grq (ccq Ii Tn i j) v n a).length + (rwq (ccq Ii Tn i j) v a b).length < 144 := by
  have h1 := grq_len (Ii := Ii) (Tn := Tn) (i := i) (j := j) (v := v) (n := n) a
  have h2 := rwq_len (Ii := Ii) (Tn := Tn) (i := i) (j := j) (v := v) a b
  have h3 := cnt_two (Ii := Ii) hij n
  have h4 := prod_b _ (show cntq (fun q => decide (Ii q = i)) n < 25 by omega) _ (show cntq (fun q => decide (Ii q = j)) n < 25 by omega) (by omega)
  unfold ccq at hc
  rw [Bool.and_eq_true, Bool.and_eq_true, decide_eq_true_iff, decide_eq_true_iff] at hc
  rw [if_pos hc.1] at h2
  have m1 : ∀ (P : Nat → Bool) (x y : Nat), x ≤ y → cntq P x ≤ cntq P y := by
    intro P x y h
    induction y with
    | zero => have : x = 0 := by omega
              subst this; exact Nat.le_refl _
    | succ y ih =>
      by_cases e : x = y + 1
      · subst e; exact Nat.le_refl _
      · have := ih (by omega); rw [cntq_s]; omega
  have h5 := m1 (fun q => decide (Ii q = j)) (b + 1) n (by omega)
  rw [cntq_s, if_pos (decide_eq_true hc.2.1)] at h5
  have h6 := m1 (fun q => decide (Ii q = i)) (a + 1) n (by omega)
  rw [cntq_s, if_pos (decide_eq_true hc.1)] at h6
  have h7 := Nat.mul_le_mul_right (cntq (fun q => decide (Ii q = j)) n) h6
  rw [Nat.add_mul, Nat.one_mul] at h7
  omega
end GR
/-- the gaps of the class, of the reference -/
def GX (τ : Mm) (Q : List Int) : Prop := Mm.gi τ 553 1 = nI Q.length ∧ ∀ k, k < Q.length → Mm.gi τ 554 k = iI (Q.getD k 0)
def GM (τ : Mm) (Q : List Int) : Prop := Mm.gi τ 595 56 = nI Q.length ∧ ∀ k, k < Q.length → Mm.gi τ 634 k = iI (Q.getD k 0)
theorem GX_a {τ : Mm} {Q : List Int} (h : GX τ Q) (x : Int) : GX (Mm.si (Mm.si τ 554 Q.length (iI x)) 553 1 (nI (Q.length + 1))) (Q ++ [x]) := by
  refine ⟨by rw [gi_s, List.length_append]; rfl, fun k hk => ?_⟩
  rw [List.length_append] at hk
  simp at hk
  rw [gi_n (by omega)]
  by_cases e : k = Q.length
  · subst e; rw [gi_s, zg_e]
  · rw [gi_n (by omega), zg_l (by omega)]; exact h.2 k (by omega)
theorem GM_a {τ : Mm} {Q : List Int} (h : GM τ Q) (x : Int) : GM (Mm.si (Mm.si τ 634 Q.length (iI x)) 595 56 (nI (Q.length + 1))) (Q ++ [x]) := by
  refine ⟨by rw [gi_s, List.length_append]; rfl, fun k hk => ?_⟩
  rw [List.length_append] at hk
  simp at hk
  rw [gi_n (by omega)]
  by_cases e : k = Q.length
  · subst e; rw [gi_s, zg_e]
  · rw [gi_n (by omega), zg_l (by omega)]; exact h.2 k (by omega)
theorem GX_c {τ τ' : Mm} {Q : List Int} (h : GX τ Q) (h1 : Mm.gi τ' 553 1 = Mm.gi τ 553 1) (h2 : ∀ k, Mm.gi τ' 554 k = Mm.gi τ 554 k) : GX τ' Q := ⟨by rw [h1]; exact h.1, fun k hk => by rw [h2]; exact h.2 k hk⟩
theorem GM_c {τ τ' : Mm} {Q : List Int} (h : GM τ Q) (h1 : Mm.gi τ' 595 56 = Mm.gi τ 595 56) (h2 : ∀ k, Mm.gi τ' 634 k = Mm.gi τ 634 k) : GM τ' Q := ⟨by rw [h1]; exact h.1, fun k hk => by rw [h2]; exact h.2 k hk⟩
/-- what one star adds -/
def StarQ (σ : Mm) (fu s : Nat) (i j : Int32) (G : List Int) : Prop := G.length ≤ 144 ∧ (∀ x, x ∈ G → x.natAbs ≤ 1000000) ∧
  (∀ (τ : Mm) (Q : List Int) (K : Int32 → Mm → Option (Int32 × Mm)), Fx CJ σ τ → GX τ Q → Q.length + 144 ≤ 576 → ∃ τ', s_X11_middleGap_9 YF fu 1 i j K (nI s) τ = K (nI (s + 1)) τ' ∧ Fx CJ σ τ' ∧ GX τ' (Q ++ G)) ∧
  ∀ (τ : Mm) (Q : List Int) (K : Int32 → Mm → Option (Mm)), Fx CJ σ τ → GM τ Q → Q.length + 144 ≤ 2304 → ∃ τ', s_X12_layPairs_7 YF fu 595 i j K (nI s) τ = K (nI (s + 1)) τ' ∧ Fx CJ σ τ' ∧ GM τ' (Q ++ G)
theorem star_none {σ : Mm} {fu s : Nat} {i j : Int32} (hs : s < 4) (q1 : Mm.gi σ 603 s = 0) (q2 : Mm.gi σ (558 + 10 * s) 2 = 0) : StarQ σ fu s i j [] := by
  refine ⟨by simp, fun x hx => by simp at hx, fun τ Q K hF hQ _ => ⟨τ, ?_, hF, by rw [List.append_nil]; exact hQ⟩, fun τ Q K hF hQ _ => ⟨τ, ?_, hF, by rw [List.append_nil]; exact hQ⟩⟩
  · unfold s_X11_middleGap_9 b_X11_middleGap_33
    rw [if_neg (show ¬ (4 : Int32) ≤ nI s from i_nle (a := 4) (by omega) (by omega) (by omega)), if_pos (inb_y (by omega) (by omega)), ix_nI (by omega), px_stands10n (by rw [hF.gi (by unfold CJ; omega)]; exact q2), bnd_some, if_pos rfl, lt_e, show nI s + 1 = nI (s + 1) from nI_add s 1]
  · unfold s_X12_layPairs_7 b_X12_layPairs_165
    rw [if_neg (show ¬ (4 : Int32) ≤ nI s from i_nle (a := 4) (by omega) (by omega) (by omega)), pm_layRestn hs (by rw [J_M hF (by omega) (by omega)]; exact q1), bnd_some, if_pos rfl, lt_e, show nI s + 1 = nI (s + 1) from nI_add s 1]
theorem row_bd {c : Nat → Nat → Bool} {v : Nat → Nat → Int} {n a : Nat} (hv : ∀ a b, a < n → b < n → (v a b).natAbs ≤ 1000000) (ha : a < n) : ∀ b, b ≤ n → ∀ x, x ∈ rwq c v a b → x.natAbs ≤ 1000000 := by
  intro b
  induction b with
  | zero => intro _ x hx; simp [rwq] at hx
  | succ b ih =>
    intro hb x hx
    rw [rwq_s, List.mem_append] at hx
    rcases hx with hx | hx
    · exact ih (by omega) x hx
    · by_cases q : c a b = true
      · rw [if_pos q] at hx
        simp at hx
        rw [hx]; exact hv a b ha (by omega)
      · rw [if_neg q] at hx; simp at hx
theorem grid_bd {c : Nat → Nat → Bool} {v : Nat → Nat → Int} {n : Nat} (hv : ∀ a b, a < n → b < n → (v a b).natAbs ≤ 1000000) : ∀ a, a ≤ n → ∀ x, x ∈ grq c v n a → x.natAbs ≤ 1000000 := by
  intro a
  induction a with
  | zero => intro _ x hx; simp [grq] at hx
  | succ a ih =>
    intro ha x hx
    rw [grq_s, List.mem_append] at hx
    rcases hx with hx | hx
    · exact ih (by omega) x hx
    · exact row_bd hv (by omega) n (Nat.le_refl _) x hx
theorem star_some {σ : Mm} {fu s t md T v : Nat} {i j : Int32} (hS : SD σ s t md T v) (hij : i ≠ j) (hfu : 10050 < fu) : ∃ G, StarQ σ fu s i j G := by
  have hl := sd_len hS
  have hs := hS.2.1
  have hav : ∀ k, k < (PL (Mm.gi σ) s t).length → AV (Mm.gi σ) s ((PL (Mm.gi σ) s t).getD k 0) := fun k hk => hS.2.2.2.2.1.2.2.2 _ (PL_lt hk)
  have hpl : ∀ k, k < (PL (Mm.gi σ) s t).length → 24 * s + (PL (Mm.gi σ) s t).getD k 0 < 96 := fun k hk => by have := PL_lt hk; have := hS.2.2.1; omega
  have v0 := fun (τ : Mm) (hF : Fx CJ σ τ) k (hk : k < (PL (Mm.gi σ) s t).length) => sd_v (w := 0) hS hF hk (by omega)
  have v2 := fun (τ : Mm) (hF : Fx CJ σ τ) k (hk : k < (PL (Mm.gi σ) s t).length) => sd_v (w := 2) hS hF hk (by omega)
  have hn := fun (τ : Mm) (hF : Fx CJ σ τ) => sd_n hS hF
  have htn := fun (τ : Mm) (hF : Fx CJ σ τ) k (hk : k < (PL (Mm.gi σ) s t).length) => sd_t (fu := fu) hS hF hk hfu
  have hm := fun (τ : Mm) (hF : Fx CJ σ τ) => sd_m (fu := fu) (w := v) hS hF hS.2.2.2.1 hfu
  have h97 := fun (τ : Mm) (hF : Fx CJ σ τ) => (J_SD hF hS).2.2.2.2.2.2.2.2
  have hst := fun (τ : Mm) (hF : Fx CJ σ τ) => sd_s hS hF
  generalize hP : (fun k => (PL (Mm.gi σ) s t).getD k 0) = P
  have eP : ∀ k, (PL (Mm.gi σ) s t).getD k 0 = P k := fun k => by rw [← hP]
  simp only [eP] at hav hpl v0 v2 htn hm
  generalize hTn : (fun k => nI (tnq (Mm.gi σ) s T (P k) v)) = Tn
  have eT : ∀ k, nI (tnq (Mm.gi σ) s T (P k) v) = Tn k := fun k => by rw [← hTn]
  simp only [eT] at htn hm
  generalize hIi : (fun k => Mm.gi σ 599 (24 * s + P k)) = Ii
  have eI : ∀ k, Mm.gi σ 599 (24 * s + P k) = Ii k := fun k => by rw [← hIi]
  generalize hAt : (fun k => Mm.gi σ 597 (24 * s + P k)) = At
  have eA : ∀ k, Mm.gi σ 597 (24 * s + P k) = At k := fun k => by rw [← hAt]
  generalize (PL (Mm.gi σ) s t).length = n at *
  have v0 : ∀ (τ : Mm), Fx CJ σ τ → ∀ k, k < n → f_X7_value YF (555 + 10 * s) (nI k) 0 τ = some (At k, τ) := fun τ hF k hk => by
    have h := v0 τ hF k hk
    rw [show 4 * P k + 0 = 4 * P k from rfl, (hav k hk).1, eA] at h
    exact h
  have v2 : ∀ (τ : Mm), Fx CJ σ τ → ∀ k, k < n → f_X7_value YF (555 + 10 * s) (nI k) 2 τ = some (Ii k, τ) := fun τ hF k hk => by
    have h := v2 τ hF k hk
    rw [(hav k hk).2.2.1, eI] at h
    exact h
  have ab : ∀ k, k < n → 0 ≤ (At k).toInt ∧ (At k).toInt ≤ 1000000 := fun k hk => by
    have h := (hav k hk).2.2.2.2.1
    unfold rng at h
    rw [eA] at h
    exact h
  have i99 : ∀ (τ : Mm), Fx CJ σ τ → ∀ k, Mm.gi τ 599 (24 * s + P k) = Ii k := fun τ hF k => by rw [J_M hF (by omega) (by omega), eI]
  have a97 : ∀ (τ : Mm), Fx CJ σ τ → ∀ k, Mm.gi τ 597 (24 * s + P k) = At k := fun τ hF k => by rw [J_M hF (by omega) (by omega), eA]
  generalize hvv : (fun a b => (At a).toInt - (At b).toInt) = vv
  have evv : ∀ a b, At a - At b = iI (vv a b) := fun a b => by
    have h1 := iI_of (At a)
    have h2 := iI_of (At b)
    rw [← hvv]
    show At a - At b = iI ((At a).toInt - (At b).toInt)
    rw [← iI_sub, ← h1, ← h2]
  have bvv : ∀ a b, a < n → b < n → (vv a b).natAbs ≤ 1000000 := fun a b ha hb => by
    have h1 := ab a ha
    have h2 := ab b hb
    rw [← hvv]
    show ((At a).toInt - (At b).toInt).natAbs ≤ 1000000
    omega
  refine ⟨grq (ccq Ii Tn i j) vv n n, grq_b hij hl, grid_bd bvv n (Nat.le_refl _), ?_, ?_⟩
  · intro τ Q K hF hQ hlen
    have inner : ∀ (K44 : Nat → Int32 → Mm → Option (Mm)) a, a < n → ∀ ρ, Fx CJ σ ρ → GX ρ (Q ++ grq (ccq Ii Tn i j) vv n a) → (∀ k, k < n → Mm.gi ρ 552 k = Tn k) → ∃ ρ', b_X11_gatherGaps_57 YF fu 1 (nI s) i j K44 fu (555 + 10 * s) (nI a) 0 ρ = K44 (555 + 10 * s) (nI (a + 1)) ρ' ∧ Fx CJ σ ρ' ∧ GX ρ' (Q ++ grq (ccq Ii Tn i j) vv n (a + 1)) ∧ ∀ k, k < n → Mm.gi ρ' 552 k = Tn k := by
      intro K44 a ha ρ hFρ hGρ hTρ
      have hfu2 : n < fu := by omega
      exact lp_ind (f := s_X11_gatherGaps_57 YF fu 1 (nI s) i j K44) (a := fun _ _ _ _ => none) (fun d K57 => ∀ b ρ, b + d = n → Fx CJ σ ρ → GX ρ (Q ++ grq (ccq Ii Tn i j) vv n a ++ rwq (ccq Ii Tn i j) vv a b) → (∀ k, k < n → Mm.gi ρ 552 k = Tn k) → ∃ ρ', K57 (555 + 10 * s) (nI a) (nI b) ρ = K44 (555 + 10 * s) (nI (a + 1)) ρ' ∧ Fx CJ σ ρ' ∧ GX ρ' (Q ++ grq (ccq Ii Tn i j) vv n (a + 1)) ∧ ∀ k, k < n → Mm.gi ρ' 552 k = Tn k) (by
        intro d K57 ih b ρ hb hJ hG hT
        unfold s_X11_gatherGaps_57 b_X11_gatherGaps_132
        rw [hn ρ hJ]
        by_cases h : n ≤ b
        · have : b = n := by omega
          subst this
          refine ⟨ρ, ?_, hJ, by rw [grq_s, ← List.append_assoc]; exact hG, hT⟩
          rw [if_pos ((i_le (by omega) (by omega)).mpr h), lt_e, show nI a + 1 = nI (a + 1) from nI_add a 1]
        · have hnx := fun ρ' => ih (d - 1) (by omega) (b + 1) ρ' (by omega)
          rw [rwq_s] at hnx
          rw [if_neg (i_nle (by omega) (by omega) (by omega)), v2 ρ hJ a ha, bnd_some]
          have skip : ¬ ccq Ii Tn i j a b = true → ∃ ρ', K57 (555 + 10 * s) (nI a) (nI (b + 1)) ρ = K44 (555 + 10 * s) (nI (a + 1)) ρ' ∧ Fx CJ σ ρ' ∧ GX ρ' (Q ++ grq (ccq Ii Tn i j) vv n (a + 1)) ∧ ∀ k, k < n → Mm.gi ρ' 552 k = Tn k := fun hc => by
            have h2 := hnx ρ hJ
            rw [if_neg hc, List.append_nil] at h2
            exact h2 hG hT
          have ec : ccq Ii Tn i j a b = (decide (Ii a = i) && (decide (Ii b = j) && decide (Tn a = Tn b))) := rfl
          by_cases c1 : Ii a = i
          · rw [if_pos c1, v2 ρ hJ b (by omega), bnd_some]
            by_cases c2 : Ii b = j
            · rw [if_pos c2, if_pos (inb_y (by omega) (by omega)), if_pos (inb_y (by omega) (by omega)), ix_nI (by omega), ix_nI (by omega), hT a ha, hT b (by omega)]
              by_cases c3 : Tn a = Tn b
              · have hc : ccq Ii Tn i j a b = true := by rw [ec, decide_eq_true c1, decide_eq_true c2, decide_eq_true c3]; rfl
                have hroom := grq_room (v := vv) hij hl ha (show b < n by omega) hc
                have h2 := hnx
                rw [if_pos hc] at h2
                have hlen2 : (Q ++ grq (ccq Ii Tn i j) vv n a ++ rwq (ccq Ii Tn i j) vv a b).length < 576 := by
                  rw [List.length_append, List.length_append]; omega
                have hG2 := GX_a hG (vv a b)
                generalize hL : Q ++ grq (ccq Ii Tn i j) vv n a ++ rwq (ccq Ii Tn i j) vv a b = L at *
                rw [if_pos c3, v0 ρ hJ a ha, bnd_some, v0 ρ hJ b (by omega), bnd_some, evv]
                unfold f_X2_put
                rw [hG.1, if_neg (show ¬ (576 : Int32) ≤ nI L.length from i_nle (a := 576) (by omega) (by omega) (by omega)), if_pos (inb_y (by omega) (by omega)), lt_e, lt_e, bn1_some, ix_nI (by omega), gi_n (by omega), hG.1, lt_e, show nI b + 1 = nI (b + 1) from nI_add b 1, show nI L.length + 1 = nI (L.length + 1) from nI_add _ 1]
                rw [← List.append_assoc, hL] at h2
                exact h2 _ ((hJ.tr (Fx.si (by unfold CJ; omega))).tr (Fx.si (by unfold CJ; omega))) hG2 (fun k hk => by rw [gi_n (by omega), gi_n (by omega)]; exact hT k hk)
              · rw [if_neg c3, lt_e, show nI b + 1 = nI (b + 1) from nI_add b 1]
                exact skip (fun q => by rw [ec, Bool.and_eq_true, Bool.and_eq_true] at q; exact c3 (of_decide_eq_true q.2.2))
            · rw [if_neg c2, lt_e, show nI b + 1 = nI (b + 1) from nI_add b 1]
              exact skip (fun q => by rw [ec, Bool.and_eq_true, Bool.and_eq_true] at q; exact c2 (of_decide_eq_true q.2.1))
          · rw [if_neg c1, lt_e, show nI b + 1 = nI (b + 1) from nI_add b 1]
            exact skip (fun q => by rw [ec, Bool.and_eq_true, Bool.and_eq_true] at q; exact c1 (of_decide_eq_true q.1))) fu n hfu2 0 ρ (by omega) hFρ (by rw [show rwq (ccq Ii Tn i j) vv a 0 = [] from rfl, List.append_nil]; exact hGρ) hTρ
    have outer : ∀ ρ, Fx CJ σ ρ → GX ρ Q → (∀ k, k < n → Mm.gi ρ 552 k = Tn k) → ∃ ρ', b_X11_gatherGaps_44 YF fu 1 (nI s) i j fu (555 + 10 * s) 0 ρ = some ρ' ∧ Fx CJ σ ρ' ∧ GX ρ' (Q ++ grq (ccq Ii Tn i j) vv n n) := by
      intro ρ hFρ hGρ hTρ
      exact lp_ind (f := s_X11_gatherGaps_44 YF fu 1 (nI s) i j) (a := fun _ _ _ => none) (fun d K44 => ∀ a ρ, a + d = n → Fx CJ σ ρ → GX ρ (Q ++ grq (ccq Ii Tn i j) vv n a) → (∀ k, k < n → Mm.gi ρ 552 k = Tn k) → ∃ ρ', K44 (555 + 10 * s) (nI a) ρ = some ρ' ∧ Fx CJ σ ρ' ∧ GX ρ' (Q ++ grq (ccq Ii Tn i j) vv n n)) (by
        intro d K44 ih a ρ ha hJ hG hT
        unfold s_X11_gatherGaps_44
        rw [hn ρ hJ]
        by_cases h : n ≤ a
        · have : a = n := by omega
          subst this
          exact ⟨ρ, by rw [if_pos ((i_le (by omega) (by omega)).mpr h)], hJ, hG⟩
        · obtain ⟨ρ1, u1, u2, u3, u4⟩ := inner K44 a (by omega) ρ hJ hG hT
          rw [if_neg (i_nle (by omega) (by omega) (by omega)), u1]
          exact ih (d - 1) (by omega) (a + 1) ρ1 (by omega) u2 u3 u4) fu n (by omega) 0 ρ (by omega) hFρ (by rw [show grq (ccq Ii Tn i j) vv n 0 = [] from rfl, List.append_nil]; exact hGρ) hTρ
    have first := lp_ind (f := s_X11_gatherGaps_11 YF fu 1 (nI s) i j) (a := fun _ _ _ => none) (fun d K11 => ∀ a ρ, a + d = n → Fx CJ σ ρ → GX ρ Q → (∀ k, k < a → Mm.gi ρ 552 k = Tn k) → ∃ ρ', K11 (555 + 10 * s) (nI a) ρ = some ρ' ∧ Fx CJ σ ρ' ∧ GX ρ' (Q ++ grq (ccq Ii Tn i j) vv n n)) (by
      intro d K11 ih a ρ ha hJ hG hT
      unfold s_X11_gatherGaps_11
      rw [hn ρ hJ]
      by_cases h : n ≤ a
      · rw [if_pos ((i_le (by omega) (by omega)).mpr h)]
        exact outer ρ hJ hG (fun k hk => hT k (by omega))
      · rw [if_neg (i_nle (by omega) (by omega) (by omega)), htn ρ hJ a (by omega), bnd_some, if_pos (inb_y (by omega) (by omega)), lt_e, lt_e, ix_nI (by omega), show nI a + 1 = nI (a + 1) from nI_add a 1]
        refine ih (d - 1) (by omega) (a + 1) _ (by omega) (hJ.tr (Fx.si (by unfold CJ; omega))) (GX_c hG (by rw [gi_n (by omega)]) (fun k => by rw [gi_n (by omega)])) (fun k hk => ?_)
        by_cases e : k = a
        · subst e; rw [gi_s]
        · rw [gi_n (by omega)]; exact hT k (by omega)) fu n (by omega) 0 τ (by omega) hF hQ (fun k hk => by omega)
    obtain ⟨τ', u1, u2, u3⟩ := first
    refine ⟨τ', ?_, u2, u3⟩
    unfold s_X11_middleGap_9 f_X11_gatherGaps b_X11_middleGap_33
    rw [if_neg (show ¬ (4 : Int32) ≤ nI s from i_nle (a := 4) (by omega) (by omega) (by omega)), if_pos (inb_y (by omega) (by omega)), ix_nI (by omega), hst τ hF, bnd_some, if_neg t10, if_pos (inb_y (by omega) (by omega))]
    change bn1 (lp (s_X11_gatherGaps_11 YF fu 1 (nI s) i j) (fun _ _ _ => none) fu (555 + 10 * s) (nI 0) τ) _ = _
    rw [u1, bn1_some, lt_e, show nI s + 1 = nI (s + 1) from nI_add s 1]
  · intro τ Q K hF hQ hlen
    obtain ⟨τ1, r1, r2, r3, r4, r5, r6⟩ := hm τ hF
    have hQ1 : GM τ1 Q := GM_c hQ (r2.gi (by unfold CR; omega)) (fun k => r2.gi (by unfold CR; omega))
    have key := lp_ind (f := s_X12_layPairs_27 YF fu 595 i j K) (a := fun _ _ _ => none) (fun d K27 => ∀ a b ρ, a * n + b + d = n * n → (b < n ∨ (a = n ∧ b = 0)) → Fx CJ σ ρ → Mm.gi ρ 595 22 = nI n → (∀ k, k < n → Mm.gi ρ 614 k = nI (24 * s + P k) ∧ Mm.gi ρ 617 k = Tn k) → GM ρ (Q ++ grq (ccq Ii Tn i j) vv n a ++ rwq (ccq Ii Tn i j) vv a b) → ∃ ρ', K27 (nI s) (nI (a * n + b)) ρ = K (nI (s + 1)) ρ' ∧ Fx CJ σ ρ' ∧ GM ρ' (Q ++ grq (ccq Ii Tn i j) vv n n)) (by
      intro d K27 ih a b ρ hab hb hJ h22 hT hG
      have hnn : n * n ≤ 24 * 24 := Nat.mul_le_mul hl hl
      unfold s_X12_layPairs_27 b_X12_layPairs_165 b_X12_layPairs_159
      rw [h22, i_mul]
      by_cases h : n * n ≤ a * n + b
      · have ean : a = n ∧ b = 0 := by
          rcases hb with hb | hb
          · rcases Nat.lt_trichotomy a n with q | q | q
            · exfalso
              have h1 := Nat.mul_le_mul_right n (show a + 1 ≤ n from q)
              rw [Nat.succ_mul] at h1
              omega
            · exact ⟨q, by rw [q] at hab; omega⟩
            · exfalso
              have h1 := Nat.mul_le_mul_right n (show n + 1 ≤ a from q)
              rw [Nat.succ_mul] at h1
              omega
          · exact hb
        obtain ⟨rfl, rfl⟩ := ean
        rw [show rwq (ccq Ii Tn i j) vv a 0 = [] from rfl, List.append_nil] at hG
        exact ⟨ρ, by rw [if_pos ((i_le (by omega) (by omega)).mpr h), lt_e, show nI s + 1 = nI (s + 1) from nI_add s 1], hJ, hG⟩
      · have hbn : b < n := by
          rcases hb with hb | ⟨q1, q2⟩
          · exact hb
          · subst q1 q2; omega
        have han : a < n := by
          rcases Nat.lt_or_ge a n with q | q
          · exact q
          · have h1 := Nat.mul_le_mul_right n q; omega
        have e1 : (a * n + b) / n = a := by rw [Nat.add_comm, Nat.add_mul_div_right _ _ (by omega), Nat.div_eq_of_lt hbn, Nat.zero_add]
        have e2 : (a * n + b) % n = b := by rw [Nat.add_comm, Nat.add_mul_mod_self_right, Nat.mod_eq_of_lt hbn]
        have hnx : ∀ ρ', Fx CJ σ ρ' → Mm.gi ρ' 595 22 = nI n → (∀ k, k < n → Mm.gi ρ' 614 k = nI (24 * s + P k) ∧ Mm.gi ρ' 617 k = Tn k) → GM ρ' (Q ++ grq (ccq Ii Tn i j) vv n a ++ rwq (ccq Ii Tn i j) vv a (b + 1)) → ∃ ρ'', K27 (nI s) (nI (a * n + b + 1)) ρ' = K (nI (s + 1)) ρ'' ∧ Fx CJ σ ρ'' ∧ GM ρ'' (Q ++ grq (ccq Ii Tn i j) vv n n) := by
          intro ρ' x1 x2 x3 x4
          by_cases e : b + 1 = n
          · have h1 := ih (d - 1) (by omega) (a + 1) 0 ρ' (by rw [Nat.succ_mul]; omega) (by omega) x1 x2 x3 (by
              rw [show rwq (ccq Ii Tn i j) vv (a + 1) 0 = [] from rfl, List.append_nil, grq_s, ← List.append_assoc]
              rw [e] at x4
              exact x4)
            rw [show (a + 1) * n + 0 = a * n + b + 1 by rw [Nat.succ_mul]; omega] at h1
            exact h1
          · exact ih (d - 1) (by omega) a (b + 1) ρ' (by omega) (Or.inl (by omega)) x1 x2 x3 x4
        rw [rwq_s] at hnx
        have skip : ¬ ccq Ii Tn i j a b = true → ∃ ρ'', K27 (nI s) (nI (a * n + b + 1)) ρ = K (nI (s + 1)) ρ'' ∧ Fx CJ σ ρ'' ∧ GM ρ'' (Q ++ grq (ccq Ii Tn i j) vv n n) := fun hc => hnx ρ hJ h22 hT (by rw [if_neg hc, List.append_nil]; exact hG)
        have ec : ccq Ii Tn i j a b = (decide (Ii a = i) && (decide (Ii b = j) && decide (Tn a = Tn b))) := rfl
        have p1 := hpl a han
        have p2 := hpl b hbn
        rw [if_neg (i_nle (by omega) (by omega) (by omega)), if_neg (nI_ne0 (by omega) (by omega)), lt_e, if_neg (nI_ne0 (by omega) (by omega)), lt_e, pk_rem (by omega) (by omega) (by omega), pk_div (by omega) (by omega) (by omega), e1, e2]
        by_cases c0 : a = b
        · subst c0
          rw [if_pos rfl, lt_e, show nI (a * n + a) + 1 = nI (a * n + a + 1) from nI_add _ 1]
          exact skip (fun q => by rw [ec, Bool.and_eq_true, Bool.and_eq_true] at q; exact hij ((of_decide_eq_true q.1).symm.trans (of_decide_eq_true q.2.1)))
        rw [if_neg (fun q => c0 ((i_eq (by omega) (by omega)).mp q)), if_pos (inb_y (by omega) (by omega)), ix_nI (by omega), (hT a han).1, if_pos (inb_y (by omega) (by omega)), ix_nI (by omega), i99 ρ hJ]
        by_cases c1 : Ii a = i
        · rw [if_pos c1, if_pos (inb_y (by omega) (by omega)), ix_nI (by omega), (hT b hbn).1, if_pos (inb_y (by omega) (by omega)), ix_nI (by omega), i99 ρ hJ]
          by_cases c2 : Ii b = j
          · rw [if_pos c2, if_pos (inb_y (by omega) (by omega)), if_pos (inb_y (by omega) (by omega)), (hT a han).2, (hT b hbn).2]
            by_cases c3 : Tn a = Tn b
            · have hc : ccq Ii Tn i j a b = true := by rw [ec, decide_eq_true c1, decide_eq_true c2, decide_eq_true c3]; rfl
              have hroom := grq_room (v := vv) hij hl han hbn hc
              rw [if_pos hc] at hnx
              have hlen2 : (Q ++ grq (ccq Ii Tn i j) vv n a ++ rwq (ccq Ii Tn i j) vv a b).length < 2304 := by
                rw [List.length_append, List.length_append]; omega
              have hG2 := GM_a hG (vv a b)
              rw [← List.append_assoc] at hnx
              generalize Q ++ grq (ccq Ii Tn i j) vv n a ++ rwq (ccq Ii Tn i j) vv a b = L at *
              rw [if_pos c3, if_pos (inb_y (by omega) (by omega)), if_pos (inb_y (by omega) (by omega)), if_pos (inb_y (by omega) (by omega)), if_pos (inb_y (by omega) (by omega)), hG.1, if_pos (inb_y (by omega) (by omega)), lt_e, lt_e, lt_e, ix_nI (by omega), a97 ρ hJ, a97 ρ hJ, evv, gi_n (by omega), hG.1, show nI L.length + 1 = nI (L.length + 1) from nI_add _ 1, show nI (a * n + b) + 1 = nI (a * n + b + 1) from nI_add _ 1]
              exact hnx _ ((hJ.tr (Fx.si (by unfold CJ; omega))).tr (Fx.si (by unfold CJ; omega))) (by rw [gi_n (by omega), gi_n (by omega)]; exact h22) (fun k hk => by rw [gi_n (by omega), gi_n (by omega), gi_n (by omega), gi_n (by omega)]; exact hT k hk) hG2
            · rw [if_neg c3, lt_e, show nI (a * n + b) + 1 = nI (a * n + b + 1) from nI_add _ 1]
              exact skip (fun q => by rw [ec, Bool.and_eq_true, Bool.and_eq_true] at q; exact c3 (of_decide_eq_true q.2.2))
          · rw [if_neg c2, lt_e, show nI (a * n + b) + 1 = nI (a * n + b + 1) from nI_add _ 1]
            exact skip (fun q => by rw [ec, Bool.and_eq_true, Bool.and_eq_true] at q; exact c2 (of_decide_eq_true q.2.1))
        · rw [if_neg c1, lt_e, show nI (a * n + b) + 1 = nI (a * n + b + 1) from nI_add _ 1]
          exact skip (fun q => by rw [ec, Bool.and_eq_true, Bool.and_eq_true] at q; exact c1 (of_decide_eq_true q.1))) fu (n * n) (by have := Nat.mul_le_mul hl hl; omega) 0 0 τ1 (by omega) (by omega) r3 r4 (fun k hk => ⟨by rw [r5 k hk, ← hP], (r6 k hk).2⟩) (by rw [show grq (ccq Ii Tn i j) vv n 0 = [] from rfl, show rwq (ccq Ii Tn i j) vv 0 0 = [] from rfl, List.append_nil, List.append_nil]; exact hQ1)
    obtain ⟨τ', u1, u2, u3⟩ := key
    refine ⟨τ', ?_, u2, u3⟩
    unfold s_X12_layPairs_7
    rw [if_neg (show ¬ (4 : Int32) ≤ nI s from i_nle (a := 4) (by omega) (by omega) (by omega)), h97 τ hF, r1, bnd_some, if_neg t10]
    rw [show (0 : Nat) * n + 0 = 0 by omega] at u1
    exact u1
