/-! model -/
theorem ibI {a b n N : Nat} (h : a + b = n) (hn : n < N) (hN : N < 2 ^ 31) : inb (nI a + nI b) N = true := by rw [nI_add, h]; exact inb_y hn hN
/-- the reference copies what it has read -/
theorem pm_copy {π : Mm} {s fu : Nat} (hs : s < 4) (hfu : 20 < fu) : ∃ σ', (if inb (nI s) 4 = true then lt_ (Mm.si π 603 (ix (nI s)) 1) (fun (σ_10 : Mm) => if inb 4 5 = true then if inb (nI s) 5 = true then lt_ (Mm.si σ_10 604 (ix (nI s)) (Mm.gi σ_10 604 (ix 4))) (fun (σ_17 : Mm) => if inb 4 5 = true then if inb (nI s) 5 = true then lt_ (Mm.si σ_17 605 (ix (nI s)) (Mm.gi σ_17 605 (ix 4))) (fun (σ_24 : Mm) => if inb 4 5 = true then if inb (nI s) 5 = true then lt_ (Mm.si σ_24 606 (ix (nI s)) (Mm.gi σ_24 606 (ix 4))) (fun (σ_31 : Mm) => if inb 4 5 = true then if inb (nI s) 5 = true then lt_ (Mm.si σ_31 607 (ix (nI s)) (Mm.gi σ_31 607 (ix 4))) (fun (σ_38 : Mm) => b_X12_model_78 YF fu 595 (nI s) fu 0 σ_38) else none else none) else none else none) else none else none) else none else none) else none : Option (Int32 × Mm)) = some (Mm.gi π 595 25, σ') ∧ Fx (FS s) π σ' ∧ Mm.gi σ' 603 s = 1 ∧ Mm.gi σ' 604 s = Mm.gi π 604 4 ∧ Mm.gi σ' 605 s = Mm.gi π 605 4 ∧ Mm.gi σ' 606 s = Mm.gi π 606 4 ∧ Mm.gi σ' 607 s = Mm.gi π 607 4 ∧ Mm.gi σ' 610 s = Mm.gi π 610 4 ∧ (∀ k, k < 3 → Mm.gi σ' 608 (3 * s + k) = Mm.gi π 608 (12 + k) ∧ Mm.gi σ' 609 (3 * s + k) = Mm.gi π 609 (12 + k)) ∧ ∀ k, k < 2 → Mm.gi σ' 611 (2 * s + k) = Mm.gi π 611 (8 + k) ∧ ∀ q, q < 4 → Mm.gi σ' 612 (4 * (2 * s + k) + q) = Mm.gi π 612 (4 * (8 + k) + q) := by
  have hb4 : inb (nI s) 4 = true := inb_y (by omega) (by omega)
  have hb5 : inb (nI s) 5 = true := inb_y (by omega) (by omega)
  have i45 : inb 4 5 = true := rfl
  have x4 : ix 4 = 4 := rfl
  have xs : ix (nI s) = s := ix_nI (by omega)
  rw [if_pos hb4, lt_e, if_pos i45, if_pos hb5, lt_e, if_pos i45, if_pos hb5, lt_e, if_pos i45, if_pos hb5, lt_e, if_pos i45, if_pos hb5, lt_e, x4, xs]
  have inner : ∀ (K : Int32 → Mm → Option (Int32 × Mm)) (k : Nat) (τ : Mm), k < 2 → ∃ τ', b_X12_model_167 YF fu 595 (nI s) K fu (nI k) 0 τ = K (nI (k + 1)) τ' ∧ Fx (fun a b => a = 612 ∧ 4 * (2 * s + k) ≤ b ∧ b < 4 * (2 * s + k) + 4) τ τ' ∧ ∀ q, q < 4 → Mm.gi τ' 612 (4 * (2 * s + k) + q) = Mm.gi τ 612 (4 * (8 + k) + q) := by
    intro K k τ hk
    exact lp_ind (f := s_X12_model_167 YF fu 595 (nI s) K) (a := fun _ _ _ => none) (fun d K2 => ∀ q ρ, q + d = 4 → Fx (fun a b => a = 612 ∧ 4 * (2 * s + k) ≤ b ∧ b < 4 * (2 * s + k) + 4) τ ρ → (∀ i, i < q → Mm.gi ρ 612 (4 * (2 * s + k) + i) = Mm.gi τ 612 (4 * (8 + k) + i)) → ∃ τ', K2 (nI k) (nI q) ρ = K (nI (k + 1)) τ' ∧ Fx (fun a b => a = 612 ∧ 4 * (2 * s + k) ≤ b ∧ b < 4 * (2 * s + k) + 4) τ τ' ∧ ∀ q, q < 4 → Mm.gi τ' 612 (4 * (2 * s + k) + q) = Mm.gi τ 612 (4 * (8 + k) + q)) (by
      intro d K2 ih q ρ hq hF hd
      unfold s_X12_model_167
      by_cases h : q = 4
      · subst h
        exact ⟨ρ, by rw [if_pos (by decide), lt_e, show nI k + 1 = nI (k + 1) from nI_add k 1], hF, hd⟩
      · have e1 : 4 * (8 + nI k) + nI q = nI (4 * (8 + k) + q) := by rw [i_lit 4, i_lit 8, nI_add, i_mul, nI_add]
        have e2 : 4 * (2 * nI s + nI k) + nI q = nI (4 * (2 * s + k) + q) := by rw [i_lit 4, i_lit 2, i_mul, nI_add, i_mul, nI_add]
        rw [if_neg (show ¬ (4 : Int32) ≤ nI q from i_nle (a := 4) (by omega) (by omega) (by omega)), e1, e2, if_pos (inb_y (by omega) (by omega)), if_pos (inb_y (by omega) (by omega)), lt_e, lt_e, ix_nI (by omega), ix_nI (by omega), show nI q + 1 = nI (q + 1) from nI_add q 1, hF.gi (by omega)]
        refine ih (d - 1) (by omega) (q + 1) _ (by omega) (hF.tr (Fx.si ⟨rfl, by omega, by omega⟩)) (fun i hi => ?_)
        by_cases e : i = q
        · subst e; rw [gi_s]
        · rw [gi_n (by omega)]; exact hd i (by omega)) fu 4 (by omega) 0 τ (by omega) Fx.rf (fun i hi => by omega)
  generalize hπ0 : Mm.si (Mm.si (Mm.si (Mm.si (Mm.si π 603 s 1) 604 s (Mm.gi (Mm.si π 603 s 1) 604 4)) 605 s (Mm.gi (Mm.si (Mm.si π 603 s 1) 604 s (Mm.gi (Mm.si π 603 s 1) 604 4)) 605 4)) 606 s (Mm.gi (Mm.si (Mm.si (Mm.si π 603 s 1) 604 s (Mm.gi (Mm.si π 603 s 1) 604 4)) 605 s (Mm.gi (Mm.si (Mm.si π 603 s 1) 604 s (Mm.gi (Mm.si π 603 s 1) 604 4)) 605 4)) 606 4)) 607 s (Mm.gi (Mm.si (Mm.si (Mm.si (Mm.si π 603 s 1) 604 s (Mm.gi (Mm.si π 603 s 1) 604 4)) 605 s (Mm.gi (Mm.si (Mm.si π 603 s 1) 604 s (Mm.gi (Mm.si π 603 s 1) 604 4)) 605 4)) 606 s (Mm.gi (Mm.si (Mm.si (Mm.si π 603 s 1) 604 s (Mm.gi (Mm.si π 603 s 1) 604 4)) 605 s (Mm.gi (Mm.si (Mm.si π 603 s 1) 604 s (Mm.gi (Mm.si π 603 s 1) 604 4)) 605 4)) 606 4)) 607 4) = π0
  have F0 : Fx (FS s) π π0 := by
    rw [← hπ0]
    exact ((((Fx.si (by unfold FS; omega)).tr (Fx.si (by unfold FS; omega))).tr (Fx.si (by unfold FS; omega))).tr (Fx.si (by unfold FS; omega))).tr (Fx.si (by unfold FS; omega))
  have z3 : Mm.gi π0 603 s = 1 := by rw [← hπ0, gi_n (by omega), gi_n (by omega), gi_n (by omega), gi_n (by omega), gi_s]
  have z4 : Mm.gi π0 604 s = Mm.gi π 604 4 := by rw [← hπ0, gi_n (by omega), gi_n (by omega), gi_n (by omega), gi_s, gi_n (by omega)]
  have z5 : Mm.gi π0 605 s = Mm.gi π 605 4 := by rw [← hπ0, gi_n (by omega), gi_n (by omega), gi_s, gi_n (by omega), gi_n (by omega)]
  have z6 : Mm.gi π0 606 s = Mm.gi π 606 4 := by rw [← hπ0, gi_n (by omega), gi_s, gi_n (by omega), gi_n (by omega), gi_n (by omega)]
  have z7 : Mm.gi π0 607 s = Mm.gi π 607 4 := by rw [← hπ0, gi_s, gi_n (by omega), gi_n (by omega), gi_n (by omega), gi_n (by omega)]
  clear hπ0
  have two := lp_ind (f := s_X12_model_141 YF fu 595 (nI s)) (a := fun _ _ => none) (fun d K => ∀ k ρ, k + d = 2 → Fx (fun a b => (a = 611 ∧ 2 * s ≤ b ∧ b < 2 * s + 2) ∨ (a = 612 ∧ 8 * s ≤ b ∧ b < 8 * s + 8)) π ρ ∨ Fx (FS s) π ρ → (∀ i, i < k → Mm.gi ρ 611 (2 * s + i) = Mm.gi π 611 (8 + i) ∧ ∀ q, q < 4 → Mm.gi ρ 612 (4 * (2 * s + i) + q) = Mm.gi π 612 (4 * (8 + i) + q)) → ∃ σ', K (nI k) ρ = some (Mm.gi π 595 25, σ') ∧ Fx (fun a b => (a = 611 ∧ 2 * s ≤ b ∧ b < 2 * s + 2) ∨ (a = 612 ∧ 8 * s ≤ b ∧ b < 8 * s + 8)) ρ σ' ∧ ∀ k, k < 2 → Mm.gi σ' 611 (2 * s + k) = Mm.gi π 611 (8 + k) ∧ ∀ q, q < 4 → Mm.gi σ' 612 (4 * (2 * s + k) + q) = Mm.gi π 612 (4 * (8 + k) + q)) (by
    intro d K ih k ρ hk hF hd
    have hF : Fx (FS s) π ρ := by
      rcases hF with h | h
      · exact h.mono (fun a b c => by unfold FS; omega)
      · exact h
    unfold s_X12_model_141
    by_cases h : k = 2
    · subst h
      exact ⟨ρ, by rw [if_pos (by decide), hF.gi (by unfold FS; omega)], Fx.rf, hd⟩
    · have e1 : 8 + nI k = nI (8 + k) := nI_add 8 k
      have e2 : 2 * nI s + nI k = nI (2 * s + k) := by rw [i_lit 2, i_mul, nI_add]
      rw [if_neg (show ¬ (2 : Int32) ≤ nI k from i_nle (a := 2) (by omega) (by omega) (by omega)), e1, e2, if_pos (inb_y (by omega) (by omega)), if_pos (inb_y (by omega) (by omega)), lt_e, ix_nI (by omega), ix_nI (by omega), hF.gi (by unfold FS; omega)]
      obtain ⟨ρ', u1, u2, u3⟩ := inner K k (Mm.si ρ 611 (2 * s + k) (Mm.gi π 611 (8 + k))) (by omega)
      have F2 : Fx (fun a b => (a = 611 ∧ 2 * s ≤ b ∧ b < 2 * s + 2) ∨ (a = 612 ∧ 8 * s ≤ b ∧ b < 8 * s + 8)) ρ ρ' := (Fx.si (Or.inl ⟨rfl, by omega, by omega⟩)).tr (u2.mono (fun a b c => by omega))
      obtain ⟨σ', w1, w2, w3⟩ := ih (d - 1) (by omega) (k + 1) ρ' (by omega) (Or.inr (hF.tr (F2.mono (fun a b c => by unfold FS; omega)))) (fun i hi => by
        by_cases e : i = k
        · subst e
          refine ⟨by rw [u2.gi (by omega), gi_s], fun q hq => ?_⟩
          rw [u3 q hq, gi_n (by omega), hF.gi (by unfold FS; omega)]
        · obtain ⟨a1, a2⟩ := hd i (by omega)
          refine ⟨by rw [u2.gi (by omega), gi_n (by omega)]; exact a1, fun q hq => ?_⟩
          rw [u2.gi (by omega), gi_n (by omega)]
          exact a2 q hq)
      exact ⟨σ', by rw [u1, w1], F2.tr w2, w3⟩) 
  have one := lp_ind (f := s_X12_model_78 YF fu 595 (nI s)) (a := fun _ _ => none) (fun d K => ∀ k ρ, k + d = 3 → Fx (fun a b => (a = 608 ∨ a = 609) ∧ 3 * s ≤ b ∧ b < 3 * s + 3) π0 ρ → (∀ i, i < k → Mm.gi ρ 608 (3 * s + i) = Mm.gi π 608 (12 + i) ∧ Mm.gi ρ 609 (3 * s + i) = Mm.gi π 609 (12 + i)) → ∃ σ', K (nI k) ρ = some (Mm.gi π 595 25, σ') ∧ Fx (FS s) π0 σ' ∧ Mm.gi σ' 603 s = 1 ∧ Mm.gi σ' 604 s = Mm.gi π 604 4 ∧ Mm.gi σ' 605 s = Mm.gi π 605 4 ∧ Mm.gi σ' 606 s = Mm.gi π 606 4 ∧ Mm.gi σ' 607 s = Mm.gi π 607 4 ∧ Mm.gi σ' 610 s = Mm.gi π 610 4 ∧ (∀ k, k < 3 → Mm.gi σ' 608 (3 * s + k) = Mm.gi π 608 (12 + k) ∧ Mm.gi σ' 609 (3 * s + k) = Mm.gi π 609 (12 + k)) ∧ ∀ k, k < 2 → Mm.gi σ' 611 (2 * s + k) = Mm.gi π 611 (8 + k) ∧ ∀ q, q < 4 → Mm.gi σ' 612 (4 * (2 * s + k) + q) = Mm.gi π 612 (4 * (8 + k) + q)) (by
    intro d K ih k ρ hk hF hd
    unfold s_X12_model_78
    have F3 : Fx (FS s) π ρ := F0.tr (hF.mono (fun a b c => by unfold FS; omega))
    by_cases h : k = 3
    · subst h
      rw [if_pos (by decide), if_pos i45, if_pos hb5, lt_e, xs, x4]
      have F4 : Fx (FS s) π (Mm.si ρ 610 s (Mm.gi ρ 610 4)) := F3.tr (Fx.si (by unfold FS; omega))
      obtain ⟨σ', w1, w2, w3⟩ := two fu 2 (by omega) 0 (Mm.si ρ 610 s (Mm.gi ρ 610 4)) (by omega) (Or.inr F4) (fun i hi => by omega)
      refine ⟨σ', w1, ((hF.mono (fun a b c => by unfold FS; omega)).tr (Fx.si (by unfold FS; omega))).tr (w2.mono (fun a b c => by unfold FS; omega)), ?_, ?_, ?_, ?_, ?_, ?_, fun k hk => ⟨?_, ?_⟩, w3⟩
      · rw [w2.gi (by omega), gi_n (by omega), hF.gi (by omega)]; exact z3
      · rw [w2.gi (by omega), gi_n (by omega), hF.gi (by omega)]; exact z4
      · rw [w2.gi (by omega), gi_n (by omega), hF.gi (by omega)]; exact z5
      · rw [w2.gi (by omega), gi_n (by omega), hF.gi (by omega)]; exact z6
      · rw [w2.gi (by omega), gi_n (by omega), hF.gi (by omega)]; exact z7
      · rw [w2.gi (by omega), gi_s, F3.gi (by unfold FS; omega)]
      · rw [w2.gi (by omega), gi_n (by omega)]; exact (hd k hk).1
      · rw [w2.gi (by omega), gi_n (by omega)]; exact (hd k hk).2
    · have e1 : 12 + nI k = nI (12 + k) := nI_add 12 k
      have e2 : 3 * nI s + nI k = nI (3 * s + k) := by rw [i_lit 3, i_mul, nI_add]
      rw [if_neg (show ¬ (3 : Int32) ≤ nI k from i_nle (a := 3) (by omega) (by omega) (by omega)), e1, e2, if_pos (inb_y (by omega) (by omega)), if_pos (inb_y (by omega) (by omega)), lt_e, if_pos (inb_y (by omega) (by omega)), if_pos (inb_y (by omega) (by omega)), lt_e, lt_e, ix_nI (by omega), ix_nI (by omega), gi_n (by omega), F3.gi (by unfold FS; omega), F3.gi (by unfold FS; omega), show nI k + 1 = nI (k + 1) from nI_add k 1]
      refine ih (d - 1) (by omega) (k + 1) _ (by omega) ((hF.tr (Fx.si ⟨Or.inl rfl, by omega, by omega⟩)).tr (Fx.si ⟨Or.inr rfl, by omega, by omega⟩)) (fun i hi => ?_)
      by_cases e : i = k
      · subst e
        exact ⟨by rw [gi_n (by omega), gi_s], by rw [gi_s]⟩
      · rw [gi_n (by omega), gi_n (by omega), gi_n (by omega), gi_n (by omega)]
        exact hd i (by omega)) fu 3 (by omega) 0 π0 (by omega) Fx.rf (fun i hi => by omega)
  obtain ⟨σ', w1, w2, w3⟩ := one
  exact ⟨σ', w1, F0.tr w2, w3⟩
theorem S_model {FU : Nat} (hFU : 10100 ≤ FU) : Sim_model Inv FU := by
  intro a1 σ hI
  unfold f_X11_model f_X12_model
  by_cases c1 : 0 ≤ a1.toInt ∧ a1.toInt ≤ 3
  rotate_left
  · exact ⟨-1, σ, σ, by rw [gxs_n c1], by rw [gms_n c1], hI⟩
  obtain ⟨s, hs, rfl⟩ := i_in (n := 3) c1.1 c1.2 (by decide)
  obtain ⟨md, h1, h2, h3, h4⟩ := hI.2.2.2.1
  obtain ⟨B, len, r, ρ, hT, u1, u2, u3⟩ := read_all (fu := FU) hI (h1 4 (by omega)) (by omega)
  have hm4 := h1 4 (by omega)
  have hmd : 12 ≤ md 4 ∧ (md 4 ≤ 12 ∨ 560 ≤ md 4) ∧ md 4 ≤ 590 := by unfold isM at hm4; omega
  rw [gxs_y c1, h3, u1, bnd_some]
  by_cases c : r = -4
  rotate_left
  · obtain ⟨σ', v1, v2, -⟩ := u3 ρ (TM_c hT (u2.gi (by unfold CI CN; omega)) (fun k => u2.gi (by unfold CI CN; omega)))
    have F : Fx (fun o k => CI (md 4) o k ∨ RI o k) σ σ' := (u2.mono (fun o k c => Or.inl c)).tr (v2.mono (fun o k c => Or.inr c))
    refine ⟨-2, ρ, σ', by rw [if_neg c], by rw [gms_y c1, v1, bnd_some, if_neg c], ?_⟩
    refine ⟨IA_fr hI.1 (fun o k q => F.gi (by unfold isM at hm4; unfold FA at q; unfold CI CN RI; omega)), IT_fr hI.2.1 (fun o k q => F.gi (by unfold isM at hm4; unfold FT at q; unfold CI CN RI; omega)), IX_fr hI.2.2.1 (fun o k q => F.gi (by unfold isM at hm4; unfold FX at q; unfold CI CN RI; omega)), ⟨md, h1, h2, by rw [F.gr (by unfold isM at hm4; unfold CI CN RI; omega)]; exact h3, fun s hs => ?_⟩, IW_fr hI.2.2.2.2 (fun o k q => ⟨F.gi (by unfold isM at hm4; unfold FW at q; unfold CI CN RI; omega), F.gl (by unfold isM at hm4; unfold FW at q; unfold CI CN RI; omega)⟩)⟩
    have hms := h1 s (by omega)
    have hne : md s ≠ md 4 := fun e => by have := h2 s 4 (by omega) (by omega) e; omega
    exact IMs_k (md := md s) (s := s) (h4 s hs) F (fun o k q => by unfold FS at q; unfold CI CN RI; omega) (fun o k q1 q2 => by unfold isM at hms hm4; unfold CI CN RI; omega) (fun k => by unfold isM at hm4; unfold CI CN RI; omega) (fun k => by unfold isM at hm4; unfold CI CN RI; omega)
  · have hms := h1 s (by omega)
    have hne : md s ≠ md 4 := fun e => by have := h2 s 4 (by omega) (by omega) e; omega
    have g14 : Mm.gr ρ 1 4 = md 4 := by rw [u2.gr (by unfold CI CN; omega)]; exact h3
    have gold : Mm.gr ρ (558 + 10 * s) 1 = md s := by rw [u2.gr (by unfold isM at hm4; unfold CI CN; omega)]; exact (h4 s (by omega)).1
    -- what was read, as the reference sees it from the class's last memory
    obtain ⟨π1, -, -, k1⟩ := u3 ρ (TM_c hT (u2.gi (by unfold CI CN; omega)) (fun k => u2.gi (by unfold CI CN; omega)))
    obtain ⟨it1, -, -, -, -, -, ⟨z1, z2, -⟩, -, ⟨ns, n1, n2, -⟩, -⟩ := k1 c
    obtain ⟨τ, T, x1, x2, x3, x4, x5, x6⟩ := px_exchange (fu := FU) (show s < 4 by omega) hm4 n1 n2 (by rw [z1]; exact z2) (by omega)
    rw [gold] at x1
    generalize hτ : Mm.sr τ 1 4 (md s) = τ2
    have hmo : ∀ j k, j ≤ 4 → ¬ CX s (md 4 + j) k := fun j k hj => by unfold isM at hm4; unfold CX; omega
    have F1 : Fx (fun o k => CI (md 4) o k ∨ CX s o k ∨ (o = 1 ∧ k = 4)) σ τ2 := by
      rw [← hτ]
      exact ((u2.mono (fun o k c => Or.inl c)).tr (x2.mono (fun o k c => Or.inr (Or.inl c)))).tr (Fx.sr (Or.inr (Or.inr ⟨rfl, rfl⟩)))
    have gτ : ∀ o k, Mm.gi τ2 o k = Mm.gi τ o k := fun o k => by rw [← hτ]; rfl
    have hT2 : TM τ2 B len := TM_c hT (F1.gi (by unfold CI CN CX; omega)) (fun k => F1.gi (by unfold CI CN CX; omega))
    obtain ⟨π, v1, v2, v3⟩ := u3 τ2 hT2
    obtain ⟨it, i1, i2, i3, i4, l1, l2, l3, l4, l5⟩ := v3 c
    obtain ⟨σ', w1, w2, w3, w4, w5, w6, w7, w8, w9, w10⟩ := pm_copy (π := π) (s := s) (fu := FU) (by omega) (by omega)
    have F2 : Fx (fun o k => RI o k ∨ FS s o k) τ2 σ' := (v2.mono (fun o k c => Or.inl c)).tr (w2.mono (fun o k c => Or.inr c))
    have F : Fx (fun o k => CI (md 4) o k ∨ CX s o k ∨ (o = 1 ∧ k = 4) ∨ RI o k ∨ FS s o k) σ σ' := (F1.mono (fun o k c => by
      rcases c with c | c | c
      · exact Or.inl c
      · exact Or.inr (Or.inl c)
      · exact Or.inr (Or.inr (Or.inl c)))).tr (F2.mono (fun o k c => by
      rcases c with c | c
      · exact Or.inr (Or.inr (Or.inr (Or.inl c)))
      · exact Or.inr (Or.inr (Or.inr (Or.inr c)))))
    -- the class's model cells in the end
    have gd : ∀ j k, j ≤ 4 → Mm.gi σ' (md 4 + j) k = Mm.gi ρ (md 4 + j) k := fun j k hj => by
      rw [F2.gi (by unfold RI FS; omega), gτ, x2.gi (hmo j k hj)]
    have gd0 : ∀ k, Mm.gi σ' (md 4) k = Mm.gi ρ (md 4) k := fun k => gd 0 k (by omega)
    refine ⟨nI it, τ2, σ', ?_, ?_, ?_⟩
    · rw [if_pos c, lt_e, g14, i3, if_pos (inb_y (by omega) (by omega)), ix_nI (by omega), x1, bnd_some, lt_e, hτ]
    · rw [gms_y c1, v1, bnd_some, if_pos c, ← i4]
      exact w1
    · have hMD : MD (Mm.gi σ') s (md 4) := by
        obtain ⟨p1, p2⟩ := l1 i1
        obtain ⟨q1, q2, -⟩ := l2
        obtain ⟨r1, r2, -⟩ := l3
        obtain ⟨ns, s1, s2, s3, s4⟩ := l4
        obtain ⟨nc, t1, t2, t3, t4⟩ := l5
        refine ⟨by rw [gd0, w4]; exact p1, by rw [gd0, w5]; exact q1, by rw [gd0, w6]; exact r1, by rw [w4]; exact p2, by rw [w5]; exact q2, by rw [w6]; exact r2, ⟨ns, s1, by rw [w7]; exact s3, by rw [gd0]; exact s2, fun j hj => ?_⟩, nc, t1, by rw [w8]; exact t3, by rw [gd0]; exact t2, fun j hj => ?_⟩
        · rw [gd 1 j (by omega), gd 2 j (by omega), (w9 j (by omega)).1, (w9 j (by omega)).2]
          exact s4 j hj
        · obtain ⟨a1, a2, a3⟩ := t4 j hj
          refine ⟨by rw [gd 3 j (by omega), (w10 j (by omega)).1]; exact a1, by rw [(w10 j (by omega)).1]; exact a2, fun q hq => ?_⟩
          rw [gd 4 _ (by omega), (w10 j (by omega)).2 q hq]
          exact a3 q hq
      have eb : ∀ n, bgq (Mm.gi σ') s n = bgy (Mm.gi ρ) (md 4) n := fun n => by
        rw [← bgy_q hMD, bgy_c (g := Mm.gi ρ) (fun j k hj => gd j k (by omega))]
      refine ⟨IA_fr hI.1 (fun o k q => F.gi (by unfold isM at hm4; unfold FA at q; unfold CI CN CX RI FS; omega)), IT_fr hI.2.1 (fun o k q => F.gi (by unfold isM at hm4; unfold FT at q; unfold CI CN CX RI FS; omega)), IX_fr hI.2.2.1 (fun o k q => F.gi (by unfold isM at hm4; unfold FX at q; unfold CI CN CX RI FS; omega)), ⟨fun i => if i = s then md 4 else if i = 4 then md s else md i, fun i hi => ?_, fun i j hi hj e => ?_, ?_, fun q hq => ?_⟩, IW_fr hI.2.2.2.2 (fun o k q => ⟨F.gi (by unfold isM at hm4; unfold FW at q; unfold CI CN CX RI FS; omega), F.gl (by unfold isM at hm4; unfold FW at q; unfold CI CN CX RI FS; omega)⟩)⟩
      · by_cases e1 : i = s
        · simp only [e1, if_true]; exact hm4
        · by_cases e2 : i = 4
          · simp only [e2, if_true]
            split
            · exact hm4
            · exact hms
          · simp only [e1, e2, if_false]; exact h1 i hi
      · have inj := fun a b (ha : a < 5) (hb : b < 5) => h2 a b ha hb
        by_cases e1 : i = s
        · by_cases e2 : j = s
          · omega
          · by_cases e3 : j = 4
            · simp only [e1, e2, e3, if_true, show ¬ (4 : Nat) = s by omega, if_false] at e
              exact absurd e.symm hne
            · simp only [e1, e2, e3, if_true, if_false] at e
              have := inj 4 j (by omega) hj e; omega
        · by_cases e4 : i = 4
          · by_cases e2 : j = s
            · simp only [e1, e2, e4, if_true, show ¬ (4 : Nat) = s by omega, if_false] at e
              exact absurd e hne
            · by_cases e3 : j = 4
              · omega
              · simp only [e4, e2, e3, if_true, show ¬ (4 : Nat) = s by omega, if_false] at e
                have := inj s j (by omega) hj e; omega
          · by_cases e2 : j = s
            · simp only [e1, e2, e4, if_true, if_false] at e
              have := inj i 4 hi (by omega) e; omega
            · by_cases e3 : j = 4
              · simp only [e1, e3, e4, if_true, show ¬ (4 : Nat) = s by omega, if_false] at e
                have := inj i s hi (by omega) e; omega
              · simp only [e1, e2, e3, e4, if_false] at e
                exact inj i j hi hj e
      · rw [F2.gr (by unfold RI FS; omega), ← hτ]
        simp only [show ¬ (4 : Nat) = s by omega, if_true, if_false]
        simp [Mm.gr, Mm.sr, Mm.u2]
      · by_cases e : q = s
        · subst e
          simp only [if_true]
          refine ⟨?_, Or.inr ⟨w3, hMD, T, ?_, ?_, fun n hn => ?_⟩⟩
          · rw [F2.gr (by unfold RI FS; omega), ← hτ]
            show (if 558 + 10 * q = 1 then _ else _) = _
            rw [if_neg (by omega)]
            exact x3
          · obtain ⟨t1, t2, t3, t4⟩ := x5
            exact ⟨t1, t2, fun n hn => by rw [eb]; exact t3 n hn, fun h => by rw [eb]; exact t4 h⟩
          · rw [F2.gi (by unfold RI FS; omega), gτ]; exact x4
          · rw [F2.gl (by unfold RI FS; omega), ← hτ, eb]
            exact x6 n hn
        · simp only [e, show ¬ q = 4 by omega, if_false]
          have hmq := h1 q (by omega)
          have hneq : md q ≠ md 4 := fun e => by have := h2 q 4 (by omega) (by omega) e; omega
          exact IMs_k (md := md q) (s := q) (h4 q hq) F (fun o k z => by unfold FS at z; unfold CI CN CX RI FS; omega) (fun o k q1 q2 => by unfold isM at hmq hm4; unfold CI CN CX RI FS; omega) (fun k => by unfold isM at hm4; unfold CI CN CX RI FS; omega) (fun k => by unfold isM at hm4; unfold CI CN CX RI FS; omega)
