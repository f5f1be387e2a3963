/-! at -/
theorem IS_pl {g g' : Gi} {s t : Nat} (h6 : ∀ k, g' 600 k = g 600 k) (hA : g' 595 8 = g 595 8) : PL g' s t = PL g s t := by
  unfold PL
  rw [hA]
  exact plf_cg (fun i _ => h6 _)
theorem IA1_of {σ : Mm} (h : IA σ) {s t : Nat} (hs : s < 4) (ht : t ≤ 24) (h2 : Mm.gi σ 596 s = nI t) : IA1 (Mm.gi σ) s t ∧ IS1 (Mm.gi σ) s t := by
  obtain ⟨t', h1, h3⟩ := h s hs
  have e : nI t' = nI t := h1.2.1.symm.trans h2
  have ht' := h1.1
  have := (i_eq (by omega) (by omega)).mp e
  subst this
  exact ⟨h1, h3⟩
theorem i_ne {k j : Nat} (hk : k < 2 ^ 31) (hj : j < 2 ^ 31) (h : k ≠ j) : ¬ nI k = nI j := fun e => h ((i_eq hk hj).mp e)
/-- behind layCounts the invariant stands -/
theorem lay_inv {σ σ' : Mm} (hI : Inv σ) (q2 : Fx (fun a b => (a = 595 ∧ b = 22) ∨ a = 614) σ σ') : Inv σ' :=
  Inv_fr hI q2 (fun o k c => by unfold FA; omega) (fun o k c => by unfold FT; omega) (fun o k c => by unfold FX; omega) (fun o k c => by unfold FM; omega) (fun o k c => by unfold FW; omega)
theorem crq_cg {g g' : Gi} {s p v : Nat} (h : ∀ o k, (o = 597 ∨ o = 599 ∨ o = 601 ∨ o = 602) → g' o k = g o k) : crq g' s p v = crq g s p v := by
  unfold crq
  rw [h 597 _ (by omega), h 599 _ (by omega), h 601 _ (by omega), h 602 _ (by omega)]
theorem S_at {FU : Nat} (hFU : 30 ≤ FU) : Sim_at Inv FU := by
  intro a1 a2 a3 σ hI
  unfold f_X11_at f_X12_at
  by_cases c1 : 0 ≤ a1.toInt ∧ a1.toInt ≤ 3
  · by_cases c2 : 0 ≤ a2.toInt ∧ a2.toInt ≤ 23
    · by_cases c3 : 0 ≤ a3.toInt ∧ a3.toInt ≤ 4
      · obtain ⟨s, hs, rfl⟩ := i_in (n := 3) c1.1 c1.2 (by decide)
        obtain ⟨k, hk, rfl⟩ := i_in (n := 23) c2.1 c2.2 (by decide)
        obtain ⟨w, hw, rfl⟩ := i_in (n := 4) c3.1 c3.2 (by decide)
        obtain ⟨t, h1, h2⟩ := hI.1 s (by omega)
        have ht := h1.1
        have hT := hI.2.1
        obtain ⟨v, hv, ev⟩ := i_in (n := 1) hT.2.1.1 hT.2.1.2 (by decide)
        obtain ⟨σ', q1, q2, q3, q4⟩ := pm_layCounts (fu := FU) (σ := σ) (s := s) (t := t) (by omega) ht h1.2.1 (by omega)
        have hI' := lay_inv hI q2
        obtain ⟨g1, g2⟩ := IA1_of hI'.1 (s := s) (t := t) (by omega) ht (by rw [q2.gi (by omega)]; exact h1.2.1)
        have hb : inb (nI s) 4 = true := (inb_iff (by omega)).mpr (by omega)
        have hlen : (PL (Mm.gi σ) s t).length ≤ t := plf_len _ _ _
        rw [gxs_y c1, gxp_y c2, gx_y 0 4 rfl rfl c3, if_pos hb, ix_nI (by omega), h2.1]
        have q3' : Mm.gi σ' 595 22 = nI (PL (Mm.gi σ) s t).length := q3
        by_cases c4 : k < (PL (Mm.gi σ) s t).length
        · have hp : (PL (Mm.gi σ) s t).getD k 0 < t := plf_lt c4
          have q5 : Mm.gi σ' 614 k = nI (24 * s + (PL (Mm.gi σ) s t).getD k 0) := q4 k c4
          rw [if_pos ((i_lt (by omega) (by omega)).mpr c4)]
          generalize hpe : (PL (Mm.gi σ) s t).getD k 0 = p at hp q5
          have hb2 : inb (nI (24 * s + p)) 96 = true := (inb_iff (by omega)).mpr (by omega)
          obtain ⟨a1, a2, a3, a4, a5, a6, a7⟩ := h1.2.2.2 p hp
          by_cases c5 : w = 4
          · subst c5
            refine ⟨crq (Mm.gi σ) s p v, σ, σ', ?_, ?_, hI'⟩
            · rw [show nI 4 = (4 : Int32) from rfl, if_pos rfl, hT.1, ev, px_corrected (by omega) hT h1 h2 c4 (by omega), bnd_some, hpe]
            · rw [gms_y c1, gm_y 0 23 rfl rfl c2, gm_y 0 4 rfl rfl c3, q1, bn1_some, q3', if_pos ((i_lt (by omega) (by omega)).mpr c4), if_pos ((inb_iff (by omega)).mpr (by omega)), lt_e, ix_nI (by omega), q5, if_neg (show ¬ nI 4 = 0 from i_ne (k := 4) (j := 0) (by omega) (by omega) (by omega)), if_neg (show ¬ nI 4 = 1 from i_ne (k := 4) (j := 1) (by omega) (by omega) (by omega)), if_neg (show ¬ nI 4 = 2 from i_ne (k := 4) (j := 2) (by omega) (by omega) (by omega)), if_neg (show ¬ nI 4 = 3 from i_ne (k := 4) (j := 3) (by omega) (by omega) (by omega)), q2.gi (by omega), ev, pm_corrected (by omega) g1 hp (by omega), bnd_some]
              rw [crq_cg (fun o k ho => q2.gi (by omega))]
          · have xv := px_value (w := w) (by omega) h1 h2 c4 (by omega)
            rw [hpe] at xv
            refine ⟨Mm.gi σ (555 + 10 * s + 1) (4 * p + w), σ, σ', ?_, ?_, hI'⟩
            · rw [if_neg (show ¬ nI w = 4 from i_ne (k := w) (j := 4) (by omega) (by omega) c5), if_pos hb, xv, bnd_some]
            · rw [gms_y c1, gm_y 0 23 rfl rfl c2, gm_y 0 4 rfl rfl c3, q1, bn1_some, q3', if_pos ((i_lt (by omega) (by omega)).mpr c4), if_pos ((inb_iff (by omega)).mpr (by omega)), lt_e, ix_nI (by omega), q5, ix_nI (by omega)]
              have hw4 : w = 0 ∨ w = 1 ∨ w = 2 ∨ w = 3 := by omega
              rcases hw4 with rfl | rfl | rfl | rfl
              · rw [if_pos (show nI 0 = 0 from rfl), if_pos hb2, q2.gi (by omega), show Mm.gi σ (555 + 10 * s + 1) (4 * p + 0) = Mm.gi σ 597 (24 * s + p) from a1]
              · rw [if_neg (show ¬ nI 1 = 0 from i_ne (k := 1) (j := 0) (by omega) (by omega) (by omega)), if_pos (show nI 1 = 1 from rfl), if_pos hb2, q2.gi (by omega), a2]
              · rw [if_neg (show ¬ nI 2 = 0 from i_ne (k := 2) (j := 0) (by omega) (by omega) (by omega)), if_neg (show ¬ nI 2 = 1 from i_ne (k := 2) (j := 1) (by omega) (by omega) (by omega)), if_pos (show nI 2 = 2 from rfl), if_pos hb2, q2.gi (by omega), a3]
              · rw [if_neg (show ¬ nI 3 = 0 from i_ne (k := 3) (j := 0) (by omega) (by omega) (by omega)), if_neg (show ¬ nI 3 = 1 from i_ne (k := 3) (j := 1) (by omega) (by omega) (by omega)), if_neg (show ¬ nI 3 = 2 from i_ne (k := 3) (j := 2) (by omega) (by omega) (by omega)), if_pos (show nI 3 = 3 from rfl), if_pos hb2, q2.gi (by omega), a4]
        · refine ⟨-100002, σ, σ', ?_, ?_, hI'⟩
          · rw [if_neg (fun h => c4 ((i_lt (by omega) (by omega)).mp h))]
          · rw [gms_y c1, gm_y 0 23 rfl rfl c2, gm_y 0 4 rfl rfl c3, q1, bn1_some, q3', if_neg (fun h => c4 ((i_lt (by omega) (by omega)).mp h))]
      · exact ⟨-100000, σ, σ, by rw [gxs_y c1, gxp_y c2, gx_n 0 4 rfl rfl c3], by rw [gms_y c1, gm_y 0 23 rfl rfl c2, gm_n 0 4 rfl rfl c3], hI⟩
    · exact ⟨-100000, σ, σ, by rw [gxs_y c1, gxp_n c2], by rw [gms_y c1, gm_n 0 23 rfl rfl c2], hI⟩
  · exact ⟨-100000, σ, σ, by rw [gxs_n c1], by rw [gms_n c1], hI⟩
/-! rule -/
def CS (a b : Nat) : Prop := ((a = 555 ∨ a = 565 ∨ a = 575 ∨ a = 585) ∧ b = 3) ∨ (a = 557 ∨ a = 567 ∨ a = 577 ∨ a = 587)
theorem px_seeAll {σ : Mm} {fu : Nat} (hT : ∀ s, s < 4 → ∃ t, t ≤ 24 ∧ Mm.gi σ (555 + 10 * s) 2 = nI t) (hfu : 30 ≤ fu) : ∃ σ', f_X11_seeAll YF fu 1 σ = some σ' ∧ Fx CS σ σ' ∧ ∀ s, s < 4 → ∀ t, t ≤ 24 → Mm.gi σ (555 + 10 * s) 2 = nI t → Mm.gi σ' (555 + 10 * s) 3 = nI (plf (fun i => Mm.gi σ (555 + 10 * s + 1) (4 * i + 3)) (Mm.gi σ 2 3) t).length ∧ ∀ j, j < (plf (fun i => Mm.gi σ (555 + 10 * s + 1) (4 * i + 3)) (Mm.gi σ 2 3) t).length → Mm.gi σ' (555 + 10 * s + 2) j = nI ((plf (fun i => Mm.gi σ (555 + 10 * s + 1) (4 * i + 3)) (Mm.gi σ 2 3) t).getD j 0) := by
  have key : ∀ (d n i : Nat) (τ : Mm), i + d = 4 → d < n → Fx CS σ τ → (∀ s, s < i → ∀ t, t ≤ 24 → Mm.gi σ (555 + 10 * s) 2 = nI t → Mm.gi τ (555 + 10 * s) 3 = nI (plf (fun i => Mm.gi σ (555 + 10 * s + 1) (4 * i + 3)) (Mm.gi σ 2 3) t).length ∧ ∀ j, j < (plf (fun i => Mm.gi σ (555 + 10 * s + 1) (4 * i + 3)) (Mm.gi σ 2 3) t).length → Mm.gi τ (555 + 10 * s + 2) j = nI ((plf (fun i => Mm.gi σ (555 + 10 * s + 1) (4 * i + 3)) (Mm.gi σ 2 3) t).getD j 0)) → ∃ σ', b_X11_seeAll_2 YF fu 1 n (nI i) τ = some σ' ∧ Fx CS σ σ' ∧ ∀ s, s < 4 → ∀ t, t ≤ 24 → Mm.gi σ (555 + 10 * s) 2 = nI t → Mm.gi σ' (555 + 10 * s) 3 = nI (plf (fun i => Mm.gi σ (555 + 10 * s + 1) (4 * i + 3)) (Mm.gi σ 2 3) t).length ∧ ∀ j, j < (plf (fun i => Mm.gi σ (555 + 10 * s + 1) (4 * i + 3)) (Mm.gi σ 2 3) t).length → Mm.gi σ' (555 + 10 * s + 2) j = nI ((plf (fun i => Mm.gi σ (555 + 10 * s + 1) (4 * i + 3)) (Mm.gi σ 2 3) t).getD j 0) := by
    intro d
    induction d with
    | zero =>
      intro n i τ hi hn hF hp
      obtain ⟨n, rfl⟩ : ∃ m, n = m + 1 := ⟨n - 1, by omega⟩
      have hi4 : i = 4 := by omega
      subst hi4
      exact ⟨τ, rfl, hF, hp⟩
    | succ d ih =>
      intro n i τ hi hn hF hp
      obtain ⟨n, rfl⟩ : ∃ m, n = m + 1 := ⟨n - 1, by omega⟩
      have i4 : i = 0 ∨ i = 1 ∨ i = 2 ∨ i = 3 := by omega
      obtain ⟨t, ht, h2⟩ := hT i (by omega)
      obtain ⟨σ1, r1, r2, r3, r4⟩ := px_see (σ := τ) (fu := fu) (this := 555 + 10 * i) (t := t) (A := Mm.gi τ 2 3) ht (by rw [hF.gi (by unfold CS; omega)]; exact h2) (by omega)
      have hK : (fun j => Mm.gi τ (555 + 10 * i + 1) (4 * j + 3)) = (fun j => Mm.gi σ (555 + 10 * i + 1) (4 * j + 3)) := by
        funext j
        exact hF.gi (by unfold CS; omega)
      rw [hK, hF.gi (o := 2) (by unfold CS; omega)] at r3 r4
      show ∃ σ', s_X11_seeAll_2 YF fu 1 (b_X11_seeAll_2 YF fu 1 n) (nI i) τ = some σ' ∧ _
      unfold s_X11_seeAll_2
      rw [if_neg (fun h => by have := (i_le (a := 4) (by omega) (by omega)).mp h; omega), if_pos ((inb_iff (by omega)).mpr (by omega)), ix_nI (by omega), r1, bn1_some, lt_e, i_lit 1, nI_add]
      refine ih n (i + 1) σ1 (by omega) (by omega) (hF.tr (r2.mono (fun o k c => by unfold CS; omega))) (fun s hs u hu hsu => ?_)
      by_cases e : s = i
      · subst e
        have eu : u = t := (i_eq (by omega) (by omega)).mp (hsu.symm.trans h2)
        subst eu
        exact ⟨r3, r4⟩
      · obtain ⟨p1, p2⟩ := hp s (by omega) u hu hsu
        refine ⟨by rw [r2.gi (by omega)]; exact p1, fun j hj => by rw [r2.gi (by omega)]; exact p2 j hj⟩
  unfold f_X11_seeAll
  exact key 4 fu 0 σ (by omega) (by omega) Fx.rf (fun s hs => by omega)
theorem S_rule {FU : Nat} (hFU : 30 ≤ FU) : Sim_rule Inv FU := by
  intro a1 a2 σ hI
  have hT := hI.2.1
  unfold f_X11_rule f_X12_rule
  by_cases c1 : 0 ≤ a1.toInt ∧ a1.toInt ≤ 1
  · obtain ⟨w, hw, rfl⟩ := i_in (n := 1) c1.1 c1.2 (by decide)
    have hw2 : w = 0 ∨ w = 1 := by omega
    rcases hw2 with rfl | rfl
    · rw [if_pos (show nI 0 = 0 from rfl)]
      by_cases c2 : 0 ≤ a2.toInt ∧ a2.toInt ≤ 1
      · refine ⟨Mm.gi σ 2 2, Mm.si σ 2 2 a2, Mm.si (Mm.si (Mm.si σ 2 2 a2) 595 7 a2) 595 8 (Mm.gi (Mm.si (Mm.si σ 2 2 a2) 595 7 a2) 595 8), ?_, ?_, ?_⟩
        · rw [gx_y 0 1 rfl rfl c2, lt_e, lt_e]
        · rw [gm_y 0 1 rfl rfl c1, if_pos (show nI 0 = 0 from rfl)]
          unfold b_X12_rule_24
          rw [gm_y 0 1 rfl rfl c2, if_pos (show nI 0 = 0 from rfl)]
          unfold b_X12_rule_47
          rw [if_pos (show nI 0 = 0 from rfl)]
          unfold b_X12_rule_61
          rw [lt_e, if_neg (show ¬ nI 0 = 1 from i_ne (k := 0) (j := 1) (by omega) (by omega) (by omega)), lt_e, gi_n (by omega), hT.1]
        · have hF : Fx (fun o j => (o = 2 ∧ j = 2) ∨ (o = 595 ∧ (j = 7 ∨ j = 8))) σ (Mm.si (Mm.si (Mm.si σ 2 2 a2) 595 7 a2) 595 8 (Mm.gi (Mm.si (Mm.si σ 2 2 a2) 595 7 a2) 595 8)) := ((Fx.si (Or.inl ⟨rfl, rfl⟩)).tr (Fx.si (Or.inr ⟨rfl, Or.inl rfl⟩))).tr (Fx.si (Or.inr ⟨rfl, Or.inr rfl⟩))
          have h8 : Mm.gi (Mm.si (Mm.si (Mm.si σ 2 2 a2) 595 7 a2) 595 8 (Mm.gi (Mm.si (Mm.si σ 2 2 a2) 595 7 a2) 595 8)) 595 8 = Mm.gi σ 595 8 := by rw [gi_s, gi_n (by omega), gi_n (by omega)]
          refine ⟨IA_fr hI.1 (fun o j q => ?_), ?_, IX_fr hI.2.2.1 (fun o j q => hF.gi (fun c => by unfold FX at q; omega)), IM_fr hI.2.2.2.1 (fun o j q => hF o j (fun c => by unfold FM at q; omega)), IW_fr hI.2.2.2.2 (fun o j q => ⟨hF.gi (fun c => by unfold FW at q; omega), hF.gl (fun c => by unfold FW at q; omega)⟩)⟩
          · by_cases e : o = 595 ∧ j = 8
            · obtain ⟨rfl, rfl⟩ := e; exact h8
            · exact hF.gi (fun c => by unfold FA at q; omega)
          · obtain ⟨h1, h2, h3, h4, h5⟩ := hT
            refine ⟨by rw [gi_n (by omega), gi_n (by omega), gi_s, gi_n (by omega), gi_s], by rw [gi_n (by omega), gi_s]; exact c2, by rw [hF.gi (by omega), h8]; exact h3, fun i hi => ?_, fun v b hv hb => ?_⟩
            · rw [hF.gi (by omega), hF.gi (by omega)]; exact h4 i hi
            · rw [hF.gi (by omega), hF.gi (by omega)]; exact h5 v b hv hb
      · refine ⟨-1, σ, σ, ?_, ?_, hI⟩
        · rw [gx_n 0 1 rfl rfl c2]
          unfold b_X11_rule_31
          rw [if_neg (show ¬ nI 0 = 1 from i_ne (k := 0) (j := 1) (by omega) (by omega) (by omega))]
        · rw [gm_y 0 1 rfl rfl c1, if_pos (show nI 0 = 0 from rfl)]
          unfold b_X12_rule_24
          rw [gm_n 0 1 rfl rfl c2]
    · rw [if_neg (show ¬ nI 1 = 0 from i_ne (k := 1) (j := 0) (by omega) (by omega) (by omega))]
      unfold b_X11_rule_31
      rw [if_pos (show nI 1 = 1 from rfl)]
      by_cases c2 : 0 ≤ a2.toInt ∧ a2.toInt ≤ 2000000
      · have hb3 : ∀ s, s < 4 → ∃ t, t ≤ 24 ∧ Mm.gi (Mm.si σ 2 3 a2) (555 + 10 * s) 2 = nI t := fun s hs => by
          obtain ⟨t, h1, -⟩ := hI.1 s hs
          exact ⟨t, h1.1, by rw [gi_n (by omega)]; exact h1.2.2.1⟩
        obtain ⟨σ1, r1, r2, r3⟩ := px_seeAll (fu := FU) hb3 hFU
        refine ⟨Mm.gi σ 2 3, σ1, Mm.si (Mm.si σ1 595 7 (Mm.gi σ1 595 7)) 595 8 a2, ?_, ?_, ?_⟩
        · rw [gx_y 0 2000000 rfl rfl c2, lt_e, lt_e, r1, bn1_some]
        · rw [gm_y 0 1 rfl rfl c1, if_neg (show ¬ nI 1 = 0 from i_ne (k := 1) (j := 0) (by omega) (by omega) (by omega))]
          unfold b_X12_rule_24
          rw [gm_y 0 2000000 rfl rfl c2, if_neg (show ¬ nI 1 = 0 from i_ne (k := 1) (j := 0) (by omega) (by omega) (by omega))]
          unfold b_X12_rule_47
          rw [if_neg (show ¬ nI 1 = 0 from i_ne (k := 1) (j := 0) (by omega) (by omega) (by omega))]
          unfold b_X12_rule_61
          rw [lt_e, if_pos (show nI 1 = 1 from rfl), lt_e, r2.gi (o := 595) (k := 8) (by unfold CS; omega), gi_n (by omega), hT.2.2.1]
        · have hF : Fx (fun o j => CS o j ∨ (o = 2 ∧ j = 3) ∨ (o = 595 ∧ (j = 7 ∨ j = 8))) σ (Mm.si (Mm.si σ1 595 7 (Mm.gi σ1 595 7)) 595 8 a2) := Fx.tr (Fx.tr (Fx.tr (σ1 := Mm.si σ 2 3 a2) (Fx.si (Or.inr (Or.inl ⟨rfl, rfl⟩))) (Fx.mono r2 (fun o k c => Or.inl c))) (Fx.si (Or.inr (Or.inr ⟨rfl, Or.inl rfl⟩)))) (Fx.si (Or.inr (Or.inr ⟨rfl, Or.inr rfl⟩)))
          have h7 : Mm.gi (Mm.si (Mm.si σ1 595 7 (Mm.gi σ1 595 7)) 595 8 a2) 595 7 = Mm.gi σ 595 7 := by rw [gi_n (by omega), gi_s, r2.gi (by unfold CS; omega), gi_n (by omega)]
          refine ⟨fun s hs => ?_, ?_, IX_fr hI.2.2.1 (fun o j q => hF.gi (fun c => by unfold FX at q; unfold CS at c; omega)), IM_fr hI.2.2.2.1 (fun o j q => hF o j (fun c => by unfold FM at q; unfold CS at c; omega)), IW_fr hI.2.2.2.2 (fun o j q => ⟨hF.gi (fun c => by unfold FW at q; unfold CS at c; omega), hF.gl (fun c => by unfold FW at q; unfold CS at c; omega)⟩)⟩
          · obtain ⟨t, h1, h2⟩ := hI.1 s hs
            obtain ⟨p1, p2⟩ := r3 s hs t h1.1 (by rw [gi_n (by omega)]; exact h1.2.2.1)
            have s4 : s = 0 ∨ s = 1 ∨ s = 2 ∨ s = 3 := by omega
            have hpl : PL (Mm.gi (Mm.si (Mm.si σ1 595 7 (Mm.gi σ1 595 7)) 595 8 a2)) s t = plf (fun i => Mm.gi (Mm.si σ 2 3 a2) (555 + 10 * s + 1) (4 * i + 3)) (Mm.gi (Mm.si σ 2 3 a2) 2 3) t := by
              unfold PL
              rw [gi_s, gi_s]
              refine plf_cg (fun i hi => ?_)
              show Mm.gi _ 600 (24 * s + i) = Mm.gi _ (555 + 10 * s + 1) (4 * i + 3)
              rw [hF.gi (by unfold CS; omega), gi_n (by omega), (h1.2.2.2 i hi).2.2.2.1]
            refine ⟨t, ⟨h1.1, by rw [hF.gi (by unfold CS; omega)]; exact h1.2.1, by rw [hF.gi (by unfold CS; omega)]; exact h1.2.2.1, fun i hi => ?_⟩, by rw [hpl, gi_n (by omega), gi_n (by omega)]; exact p1, fun j hj => by rw [hpl] at hj ⊢; rw [gi_n (by omega), gi_n (by omega)]; exact p2 j hj⟩
            have h9 := h1.2.2.2 i hi
            unfold AV at h9 ⊢
            rw [hF.gi (by unfold CS; omega), hF.gi (by unfold CS; omega), hF.gi (by unfold CS; omega), hF.gi (by unfold CS; omega), hF.gi (by unfold CS; omega), hF.gi (by unfold CS; omega), hF.gi (by unfold CS; omega), hF.gi (by unfold CS; omega)]
            exact h9
          · obtain ⟨h1, h2, h3, h4, h5⟩ := hT
            refine ⟨by rw [h7, hF.gi (by unfold CS; omega)]; exact h1, by rw [h7]; exact h2, by rw [gi_s, gi_n (by omega), gi_n (by omega), r2.gi (by unfold CS; omega), gi_s], fun i hi => ?_, fun v b hv hb => ?_⟩
            · rw [hF.gi (by unfold CS; omega), hF.gi (by unfold CS; omega)]; exact h4 i hi
            · rw [hF.gi (by unfold CS; omega), hF.gi (by unfold CS; omega)]; exact h5 v b hv hb
      · refine ⟨-1, σ, σ, by rw [gx_n 0 2000000 rfl rfl c2], ?_, hI⟩
        rw [gm_y 0 1 rfl rfl c1, if_neg (show ¬ nI 1 = 0 from i_ne (k := 1) (j := 0) (by omega) (by omega) (by omega))]
        unfold b_X12_rule_24
        rw [gm_n 0 2000000 rfl rfl c2]
  · have n0 : ¬ a1 = 0 := fun e => c1 (by rw [e]; decide)
    have n1 : ¬ a1 = 1 := fun e => c1 (by rw [e]; decide)
    refine ⟨-1, σ, σ, ?_, by rw [gm_n 0 1 rfl rfl c1], hI⟩
    rw [if_neg n0]
    unfold b_X11_rule_31
    rw [if_neg n1]
