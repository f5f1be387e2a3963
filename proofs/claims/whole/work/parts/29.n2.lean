/-! where the turns begin -/
theorem bgq_s (g : Gi) (s n : Nat) : bgq g s (n + 1) = bgq g s n + (if lnq g s n (bgq g s n) < 1000000 then 1000000 else lnq g s n (bgq g s n)) := rfl
theorem slq_s (g : Gi) (s : Nat) (b : Int64) (k : Nat) : slq g s b (k + 1) = slq g s b k + (if 1000000 * Int32.toInt64 (g 608 (3 * s + k)) ≤ b then 1000 * Int32.toInt64 (g 609 (3 * s + k)) else 0) := rfl
theorem pm_len {σ τ : Mm} {s n md fu : Nat} {b : Int64} {k17 : Int64 → Mm → Option Mm} (hs : s < 4) (hD : MD (Mm.gi σ) s md) (hg : ∀ o k, 607 ≤ o → o ≤ 609 → Mm.gi τ o k = Mm.gi σ o k) (hfu : 4 < fu) : b_X12_layTurns_85 YF fu 595 (nI s) k17 fu b (1000 * Int32.toInt64 (Mm.gi σ 604 s) + Int32.toInt64 (nI n) * Int32.toInt64 (Mm.gi σ 606 s)) 0 τ = k17 (b + (if lnq (Mm.gi σ) s n b < 1000000 then 1000000 else lnq (Mm.gi σ) s n b)) (Mm.si τ 595 29 (Mm.gi τ 595 29 + 1)) := by
  generalize hbase : 1000 * Int32.toInt64 (Mm.gi σ 604 s) + Int32.toInt64 (nI n) * Int32.toInt64 (Mm.gi σ 606 s) = base
  obtain ⟨-, -, -, -, -, -, ⟨c, hc, e607, -, hj⟩, -⟩ := hD
  have hl : lnq (Mm.gi σ) s n b = base + slq (Mm.gi σ) s b c := by unfold lnq; rw [hbase, e607, ix_nI (by omega)]
  have key := lp_ind (f := s_X12_layTurns_85 YF fu 595 (nI s) k17) (a := fun _ _ _ _ => none) (fun d k => ∀ i, i + d = c → k b (base + slq (Mm.gi σ) s b i) (nI i) τ = k17 (b + (if lnq (Mm.gi σ) s n b < 1000000 then 1000000 else lnq (Mm.gi σ) s n b)) (Mm.si τ 595 29 (Mm.gi τ 595 29 + 1))) (by
    intro d k ih i hi
    unfold s_X12_layTurns_85
    rw [if_pos (inb_y (by omega) (by omega)), ix_nI (by omega), hg 607 _ (by omega) (by omega), e607]
    by_cases h : c ≤ i
    · have : i = c := by omega
      subst this
      rw [if_pos ((i_le (by omega) (by omega)).mpr h), ← hl]
      unfold b_X12_layTurns_166
      by_cases h1 : lnq (Mm.gi σ) s n b < 1000000
      · rw [if_pos h1, if_neg (Int64.not_le.mpr h1), lt_e, lt_e]
      · rw [if_neg h1, if_pos (Int64.not_lt.mp h1), lt_e, lt_e]
    · rw [if_neg (i_nle (by omega) (by omega) (by omega)), i_lit 3, i_mul, nI_add, if_pos (inb_y (by omega) (by omega)), ix_nI (by omega), hg 608 _ (by omega) (by omega)]
      have hn := ih (d - 1) (by omega) (i + 1) (by omega)
      rw [slq_s] at hn
      by_cases h1 : b < 1000000 * Int32.toInt64 (Mm.gi σ 608 (3 * s + i))
      · rw [if_neg (Int64.not_le.mpr h1), Int64.add_zero] at hn
        rw [if_pos h1]
        unfold b_X12_layTurns_139
        rw [lt_e, lt_e, Int64.add_zero, i_lit 1, nI_add]
        exact hn
      · rw [if_pos (Int64.not_lt.mp h1)] at hn
        rw [if_neg h1, if_pos (inb_y (by omega) (by omega)), hg 609 _ (by omega) (by omega)]
        unfold b_X12_layTurns_139
        rw [lt_e, lt_e, Int64.add_assoc, i_lit 1, nI_add]
        exact hn) fu c (by omega)
  have h0 := key 0 (by omega)
  rw [show slq (Mm.gi σ) s b 0 = 0 from rfl, Int64.add_zero] at h0
  exact h0
theorem MD_cg {g g' : Gi} {s md : Nat} (h : ∀ o k, (604 ≤ o ∧ o ≤ 612) ∨ (md ≤ o ∧ o ≤ md + 4) → g' o k = g o k) (hD : MD g s md) : MD g' s md := by
  have d0 : ∀ k, g' md k = g md k := fun k => h _ k (Or.inr (by omega))
  have d1 : ∀ k, g' (md + 1) k = g (md + 1) k := fun k => h _ k (Or.inr (by omega))
  have d2 : ∀ k, g' (md + 2) k = g (md + 2) k := fun k => h _ k (Or.inr (by omega))
  have d3 : ∀ k, g' (md + 3) k = g (md + 3) k := fun k => h _ k (Or.inr (by omega))
  have d4 : ∀ k, g' (md + 4) k = g (md + 4) k := fun k => h _ k (Or.inr (by omega))
  have c4 : ∀ k, g' 604 k = g 604 k := fun k => h _ k (Or.inl (by omega))
  have c5 : ∀ k, g' 605 k = g 605 k := fun k => h _ k (Or.inl (by omega))
  have c6 : ∀ k, g' 606 k = g 606 k := fun k => h _ k (Or.inl (by omega))
  have c7 : ∀ k, g' 607 k = g 607 k := fun k => h _ k (Or.inl (by omega))
  have c8 : ∀ k, g' 608 k = g 608 k := fun k => h _ k (Or.inl (by omega))
  have c9 : ∀ k, g' 609 k = g 609 k := fun k => h _ k (Or.inl (by omega))
  have c10 : ∀ k, g' 610 k = g 610 k := fun k => h _ k (Or.inl (by omega))
  have c11 : ∀ k, g' 611 k = g 611 k := fun k => h _ k (Or.inl (by omega))
  have c12 : ∀ k, g' 612 k = g 612 k := fun k => h _ k (Or.inl (by omega))
  unfold MD at hD ⊢
  simp only [d0, d1, d2, d3, d4, c4, c5, c6, c7, c8, c9, c10, c11, c12]
  exact hD
theorem ltq_cg {g g' : Gi} {s n : Nat} (h1 : ∀ k, g' 611 k = g 611 k) (h2 : ∀ k, g' 612 k = g 612 k) : ∀ k, ltq g' s n k = ltq g s n k := by
  intro k
  induction k with
  | zero => rfl
  | succ k ih => simp only [ltq, ih, h1, h2]
theorem cmq_cg {g g' : Gi} {s n : Nat} (h : ∀ o k, 604 ≤ o → o ≤ 612 → g' o k = g o k) : cmq g' s n = cmq g s n := by
  unfold cmq
  rw [bgq_cg (g := g) (g' := g') (fun o k q1 q2 => h o k q1 (by omega)), h 610 s (by omega) (by omega), ltq_cg (g := g) (g' := g') (fun k => h 611 k (by omega) (by omega)) (fun k => h 612 k (by omega) (by omega))]
theorem l_nlt {a b : Int64} (h : b.toInt ≤ a.toInt) : ¬ a < b := fun q => by rw [Int64.lt_iff_toInt_lt] at q; omega
theorem l_lt {a b : Int64} (h : a.toInt < b.toInt) : a < b := Int64.lt_iff_toInt_lt.mpr h
theorem pm_layTurns {σ : Mm} {s md T fu : Nat} (hs : s < 4) (hmd : isM md) (hD : MD (Mm.gi σ) s md) (hT : TQ (Mm.gi σ) s T) (hfu : 10050 < fu) : ∃ σ', f_X12_layTurns YF fu 595 (nI s) σ = some σ' ∧ Fx (fun a b => (a = 595 ∧ b = 29) ∨ a = 615) σ σ' ∧ Mm.gi σ' 595 29 = nI T ∧ ∀ n, n < T → Mm.gl σ' 615 n = cmq (Mm.gi σ) s n := by
  generalize hC : (fun a b : Nat => (a = 595 ∧ b = 29) ∨ a = 615) = C
  have hC0 : ∀ a b, C a b ↔ ((a = 595 ∧ b = 29) ∨ a = 615) := fun a b => by rw [← hC]
  obtain ⟨t1, t2, t3, t4⟩ := hT
  have key := lp_ind (f := s_X12_layTurns_17 YF fu 595 (nI s)) (a := fun _ _ => none) (fun d k => ∀ n τ, n + d = T → Fx C σ τ → Mm.gi τ 595 29 = nI n → (∀ m, m < n → Mm.gl τ 615 m = cmq (Mm.gi σ) s m) → ∃ σ', k (bgq (Mm.gi σ) s n) τ = some σ' ∧ Fx C σ σ' ∧ Mm.gi σ' 595 29 = nI T ∧ ∀ n, n < T → Mm.gl σ' 615 n = cmq (Mm.gi σ) s n) (by
    intro d k ih n τ hd hF h29 hl
    unfold s_X12_layTurns_17
    rw [h29]
    by_cases h : n = T
    · subst h
      refine ⟨τ, ?_, hF, h29, hl⟩
      by_cases h2 : n = 10001
      · subst h2
        rw [if_pos (show (10001 : Int32) ≤ nI 10001 from by decide)]
      · rw [if_neg (show ¬ (10001 : Int32) ≤ nI n from i_nle (a := 10001) (by omega) (by omega) (by omega)), if_pos (l_lt (a := 2000000000000) (t4 (by omega)))]
    · have hg : ∀ o k, 604 ≤ o → o ≤ 612 → Mm.gi τ o k = Mm.gi σ o k := fun o k q1 q2 => hF.gi (by rw [hC0]; omega)
      have hlat : f_X12_later YF fu 595 (nI s) (nI n) τ = some (ltq (Mm.gi σ) s n (ix (Mm.gi σ 610 s)), τ) := by
        rw [pm_later (md := md) hs (MD_cg (g := Mm.gi σ) (fun o k q => by
          rcases q with q | q
          · exact hg o k q.1 q.2
          · exact hF.gi (by unfold isM at hmd; rw [hC0]; omega)) hD) (by omega) (by omega), hg 610 s (by omega) (by omega), ltq_cg (fun k => hg 611 k (by omega) (by omega)) (fun k => hg 612 k (by omega) (by omega))]
      rw [if_neg (show ¬ (10001 : Int32) ≤ nI n from i_nle (a := 10001) (by omega) (by omega) (by omega)), if_neg (l_nlt (t3 n (by omega))), hlat, bnd_some, if_pos (inb_y (by omega) (by omega)), lt_e, if_pos (inb_y (by omega) (by omega)), if_pos (inb_y (by omega) (by omega)), lt_e, ix_nI (by omega), ix_nI (by omega)]
      simp only [gi_l]
      rw [hg 604 s (by omega) (by omega), hg 606 s (by omega) (by omega), h29, pm_len (σ := σ) (τ := Mm.sl τ 615 n (bgq (Mm.gi σ) s n + ltq (Mm.gi σ) s n (ix (Mm.gi σ 610 s)))) (md := md) hs hD (fun o k q1 q2 => hg o k (by omega) (by omega)) (by omega), ← bgq_s, gi_l, h29, i_lit 1, nI_add]
      refine ih (d - 1) (by omega) (n + 1) _ (by omega) ((hF.tr (Fx.sl (by rw [hC0]; exact Or.inr rfl))).tr (Fx.si (by rw [hC0]; exact Or.inl ⟨rfl, rfl⟩))) (by rw [gi_s]) (fun m hm => ?_)
      rw [gl_i]
      by_cases e : m = n
      · subst e; rw [gl_s]; rfl
      · rw [gl_n (by omega)]; exact hl m (by omega)) fu T (by omega)
  unfold f_X12_layTurns
  rw [lt_e, if_pos (inb_y (by omega) (by omega)), lt_e, ix_nI (by omega), gi_n (by omega)]
  exact key 0 _ (by omega) (Fx.si (by rw [hC0]; exact Or.inl ⟨rfl, rfl⟩)) (by rw [gi_s]; rfl) (fun m hm => by omega)
