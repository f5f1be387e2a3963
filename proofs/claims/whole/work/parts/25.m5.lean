/-! the start -/
theorem σF1 : σF.1 = Mm.u2 (Mm.u2 (fun _ _ => 0) 2 3 2000000) 595 8 2000000 := rfl
theorem gF {o k : Nat} (h : ¬ (o = 2 ∧ k = 3)) (h2 : ¬ (o = 595 ∧ k = 8)) : Mm.gi σF o k = 0 := by
  show σF.1 o k = 0
  rw [σF1]
  unfold Mm.u2
  by_cases a1 : o = 595
  · by_cases a2 : k = 8
    · exact absurd ⟨a1, a2⟩ h2
    · simp [a1, a2]
  · by_cases b1 : o = 2
    · by_cases b2 : k = 3
      · exact absurd ⟨b1, b2⟩ h
      · simp [b1, b2]
    · simp [a1, b1]
set_option maxRecDepth 100000 in
theorem Inv0 : Inv σF := by
  refine ⟨fun s hs => ⟨0, ⟨by omega, gF (by omega) (by omega), gF (by omega) (by omega), fun i hi => by omega⟩, gF (by omega) (by omega), fun j hj => by simp [PL, plf] at hj⟩, ?_, ⟨0, by omega, gF (by omega) (by omega), gF (by omega) (by omega), fun i hi => by omega⟩, ?_, Or.inl ⟨gF (by omega) (by omega), gF (by omega) (by omega), gF (by omega) (by omega)⟩⟩
  · refine ⟨by rw [gF (by omega) (by omega), gF (by omega) (by omega)], by rw [gF (by omega) (by omega)]; unfold rng; decide, rfl, fun i hi => ?_, fun v b hv hb => ?_⟩
    · rw [gF (by omega) (by omega), gF (by omega) (by omega)]; unfold rng; decide
    · rw [gF (by omega) (by omega), gF (by omega) (by omega)]; unfold rng; decide
  · refine ⟨fun i => match i with | 0 => 560 | 1 => 570 | 2 => 580 | 3 => 590 | _ => 12, fun i hi => ?_, fun i j hi hj h => ?_, rfl, fun s hs => ?_⟩
    · have h5 : i = 0 ∨ i = 1 ∨ i = 2 ∨ i = 3 ∨ i = 4 := by omega
      rcases h5 with rfl | rfl | rfl | rfl | rfl <;> simp [isM]
    · have h5 : i = 0 ∨ i = 1 ∨ i = 2 ∨ i = 3 ∨ i = 4 := by omega
      have h6 : j = 0 ∨ j = 1 ∨ j = 2 ∨ j = 3 ∨ j = 4 := by omega
      rcases h5 with rfl | rfl | rfl | rfl | rfl <;> rcases h6 with rfl | rfl | rfl | rfl | rfl <;> first | rfl | (exact absurd h (by decide))
    · have h5 : s = 0 ∨ s = 1 ∨ s = 2 ∨ s = 3 := by omega
      refine ⟨?_, Or.inl ⟨gF (by omega) (by omega), gF (by omega) (by omega)⟩⟩
      rcases h5 with rfl | rfl | rfl | rfl <;> rfl
/-! the tests of numbers at a method's head -/
theorem t10 : ¬ (1 : Int32) = 0 := by decide
section GU
variable {β : Type} {σ : Mm} {N K : Int32 → Mm → Option β}
theorem gx_y {a : Int32} (b c : Int32) {B C : Int} (hB : b.toInt = B) (hC : c.toInt = C) (h : B ≤ a.toInt ∧ a.toInt ≤ C) : bnd (f_X11_within YF a b c σ) (fun r τ => if r = 0 then N r τ else K r τ) = K 1 σ := by
  rw [px_within, hB, hC, if_pos h, bnd_some, if_neg t10]
theorem gx_n {a : Int32} (b c : Int32) {B C : Int} (hB : b.toInt = B) (hC : c.toInt = C) (h : ¬ (B ≤ a.toInt ∧ a.toInt ≤ C)) : bnd (f_X11_within YF a b c σ) (fun r τ => if r = 0 then N r τ else K r τ) = N 0 σ := by
  rw [px_within, hB, hC, if_neg h, bnd_some, if_pos rfl]
theorem gm_y {a : Int32} (b c : Int64) {B C : Int} (hB : b.toInt = B) (hC : c.toInt = C) (h : B ≤ a.toInt ∧ a.toInt ≤ C) : bnd (f_X12_in YF (Int32.toInt64 a) b c σ) (fun r τ => if r = 0 then N r τ else K r τ) = K 1 σ := by
  rw [pm_in, Int32.toInt_toInt64, hB, hC, if_pos h, bnd_some, if_neg t10]
theorem gm_n {a : Int32} (b c : Int64) {B C : Int} (hB : b.toInt = B) (hC : c.toInt = C) (h : ¬ (B ≤ a.toInt ∧ a.toInt ≤ C)) : bnd (f_X12_in YF (Int32.toInt64 a) b c σ) (fun r τ => if r = 0 then N r τ else K r τ) = N 0 σ := by
  rw [pm_in, Int32.toInt_toInt64, hB, hC, if_neg h, bnd_some, if_pos rfl]
theorem gxs_y {a : Int32} (h : 0 ≤ a.toInt ∧ a.toInt ≤ 3) : bnd (f_X11_isStar YF a σ) (fun r τ => if r = 0 then N r τ else K r τ) = K 1 σ := by
  rw [px_isStar, if_pos h, bnd_some, if_neg t10]
theorem gxs_n {a : Int32} (h : ¬ (0 ≤ a.toInt ∧ a.toInt ≤ 3)) : bnd (f_X11_isStar YF a σ) (fun r τ => if r = 0 then N r τ else K r τ) = N 0 σ := by
  rw [px_isStar, if_neg h, bnd_some, if_pos rfl]
theorem gms_y {a : Int32} (h : 0 ≤ a.toInt ∧ a.toInt ≤ 3) : bnd (f_X12_isStar YF a σ) (fun r τ => if r = 0 then N r τ else K r τ) = K 1 σ := by
  rw [pm_isStar, if_pos h, bnd_some, if_neg t10]
theorem gms_n {a : Int32} (h : ¬ (0 ≤ a.toInt ∧ a.toInt ≤ 3)) : bnd (f_X12_isStar YF a σ) (fun r τ => if r = 0 then N r τ else K r τ) = N 0 σ := by
  rw [pm_isStar, if_neg h, bnd_some, if_pos rfl]
theorem gxi_y {a : Int32} (h : 0 ≤ a.toInt ∧ a.toInt ≤ 2) : bnd (f_X11_isInstrument YF a σ) (fun r τ => if r = 0 then N r τ else K r τ) = K 1 σ := by
  rw [px_isInstrument, if_pos h, bnd_some, if_neg t10]
theorem gxi_n {a : Int32} (h : ¬ (0 ≤ a.toInt ∧ a.toInt ≤ 2)) : bnd (f_X11_isInstrument YF a σ) (fun r τ => if r = 0 then N r τ else K r τ) = N 0 σ := by
  rw [px_isInstrument, if_neg h, bnd_some, if_pos rfl]
theorem gmi_y {a : Int32} (h : 0 ≤ a.toInt ∧ a.toInt ≤ 2) : bnd (f_X12_isTool YF a σ) (fun r τ => if r = 0 then N r τ else K r τ) = K 1 σ := by
  rw [pm_isTool, if_pos h, bnd_some, if_neg t10]
theorem gmi_n {a : Int32} (h : ¬ (0 ≤ a.toInt ∧ a.toInt ≤ 2)) : bnd (f_X12_isTool YF a σ) (fun r τ => if r = 0 then N r τ else K r τ) = N 0 σ := by
  rw [pm_isTool, if_neg h, bnd_some, if_pos rfl]
theorem gxp_y {a : Int32} (h : 0 ≤ a.toInt ∧ a.toInt ≤ 23) : bnd (f_X11_isPlace YF a σ) (fun r τ => if r = 0 then N r τ else K r τ) = K 1 σ := by
  rw [px_isPlace, if_pos h, bnd_some, if_neg t10]
theorem gxp_n {a : Int32} (h : ¬ (0 ≤ a.toInt ∧ a.toInt ≤ 23)) : bnd (f_X11_isPlace YF a σ) (fun r τ => if r = 0 then N r τ else K r τ) = N 0 σ := by
  rw [px_isPlace, if_neg h, bnd_some, if_pos rfl]
end GU
theorem lt_e {α β : Type} (x : α) (f : α → β) : lt_ x f = f x := rfl
/-! offset, shift -/
theorem S_offset (FU : Nat) : Sim_offset Inv FU := by
  intro a1 a2 σ hI
  unfold f_X11_offset f_X12_offset
  by_cases c1 : 0 ≤ a1.toInt ∧ a1.toInt ≤ 2
  · by_cases c2 : -1000 ≤ a2.toInt ∧ a2.toInt ≤ 1000
    · obtain ⟨k, hk, rfl⟩ := i_in (n := 2) c1.1 c1.2 (by decide)
      have hb : inb (nI k) 3 = true := (inb_iff (by omega)).mpr (by omega)
      have hx : ix (nI k) = k := ix_nI (by omega)
      have hT := hI.2.1
      refine ⟨Mm.gi σ 3 k, Mm.si σ 3 k a2, Mm.si (Mm.si σ 3 k a2) 601 k a2, ?_, ?_, ?_⟩
      · rw [gxi_y c1, gx_y (-1000) 1000 rfl rfl c2, if_pos hb, lt_e, if_pos hb, lt_e, hx]
      · rw [gmi_y c1, gm_y (-1000) 1000 rfl rfl c2, if_pos hb, lt_e, if_pos hb, lt_e, hx, gi_n (by omega), (hT.2.2.2.1 k (by omega)).1]
      · have hF : Fx (fun o j => (o = 3 ∨ o = 601) ∧ j = k) σ (Mm.si (Mm.si σ 3 k a2) 601 k a2) := (Fx.si ⟨Or.inl rfl, rfl⟩).tr (Fx.si ⟨Or.inr rfl, rfl⟩)
        refine ⟨IA_fr hI.1 (fun o j q => hF.gi (fun c => by unfold FA at q; omega)), ?_, IX_fr hI.2.2.1 (fun o j q => hF.gi (fun c => by unfold FX at q; omega)), IM_fr hI.2.2.2.1 (fun o j q => hF o j (fun c => by unfold FM at q; omega)), IW_fr hI.2.2.2.2 (fun o j q => ⟨hF.gi (fun c => by unfold FW at q; omega), hF.gl (fun c => by unfold FW at q; omega)⟩)⟩
        obtain ⟨h1, h2, h3, h4, h5⟩ := hT
        refine ⟨by rw [hF.gi (by omega), hF.gi (by omega)]; exact h1, by rw [hF.gi (by omega)]; exact h2, by rw [hF.gi (by omega), hF.gi (by omega)]; exact h3, fun i hi => ?_, fun v b hv hb => ?_⟩
        · by_cases e : i = k
          · subst e
            rw [gi_s, gi_n (by omega), gi_s]
            exact ⟨rfl, c2⟩
          · rw [hF.gi (by omega), hF.gi (by omega)]
            exact h4 i hi
        · rw [hF.gi (by omega), hF.gi (by omega)]
          exact h5 v b hv hb
    · exact ⟨-100000, σ, σ, by rw [gxi_y c1, gx_n (-1000) 1000 rfl rfl c2], by rw [gmi_y c1, gm_n (-1000) 1000 rfl rfl c2], hI⟩
  · exact ⟨-100000, σ, σ, by rw [gxi_n c1], by rw [gmi_n c1], hI⟩
theorem S_shift (FU : Nat) : Sim_shift Inv FU := by
  intro a1 a2 a3 σ hI
  unfold f_X11_shift f_X12_shift
  by_cases c1 : 0 ≤ a1.toInt ∧ a1.toInt ≤ 1
  · by_cases c2 : 0 ≤ a2.toInt ∧ a2.toInt ≤ 10
    · by_cases c3 : -500 ≤ a3.toInt ∧ a3.toInt ≤ 500
      · obtain ⟨v, hv, rfl⟩ := i_in (n := 1) c1.1 c1.2 (by decide)
        obtain ⟨b, hb, rfl⟩ := i_in (n := 10) c2.1 c2.2 (by decide)
        have b1 : inb (nI v) 2 = true := (inb_iff (by omega)).mpr (by omega)
        have b2 : inb (nI b) 11 = true := (inb_iff (by omega)).mpr (by omega)
        have e3 : 11 * nI v + nI b = nI (11 * v + b) := by rw [i_lit 11, i_mul, nI_add]
        have b3 : inb (nI (11 * v + b)) 22 = true := (inb_iff (by omega)).mpr (by omega)
        have hT := hI.2.1
        refine ⟨Mm.gi σ (5 + v) b, Mm.si σ (5 + v) b a3, Mm.si (Mm.si σ (5 + v) b a3) 602 (11 * v + b) a3, ?_, ?_, ?_⟩
        · rw [gx_y 0 1 rfl rfl c1, gx_y 0 10 rfl rfl c2, gx_y (-500) 500 rfl rfl c3, if_pos b1, if_pos b2, lt_e, if_pos b1, if_pos b2, lt_e, ix_nI (by omega), ix_nI (by omega), Nat.one_mul]
        · rw [gm_y 0 1 rfl rfl c1, gm_y 0 10 rfl rfl c2, gm_y (-500) 500 rfl rfl c3, e3, if_pos b3, lt_e, if_pos b3, lt_e, ix_nI (by omega), gi_n (by omega), (hT.2.2.2.2 v b (by omega) (by omega)).1]
        · have hF : Fx (fun o j => (o = 5 + v ∧ j = b) ∨ (o = 602 ∧ j = 11 * v + b)) σ (Mm.si (Mm.si σ (5 + v) b a3) 602 (11 * v + b) a3) := (Fx.si (Or.inl ⟨rfl, rfl⟩)).tr (Fx.si (Or.inr ⟨rfl, rfl⟩))
          refine ⟨IA_fr hI.1 (fun o j q => hF.gi (fun c => by unfold FA at q; omega)), ?_, IX_fr hI.2.2.1 (fun o j q => hF.gi (fun c => by unfold FX at q; omega)), IM_fr hI.2.2.2.1 (fun o j q => hF o j (fun c => by unfold FM at q; omega)), IW_fr hI.2.2.2.2 (fun o j q => ⟨hF.gi (fun c => by unfold FW at q; omega), hF.gl (fun c => by unfold FW at q; omega)⟩)⟩
          obtain ⟨h1, h2, h3, h4, h5⟩ := hT
          refine ⟨by rw [hF.gi (by omega), hF.gi (by omega)]; exact h1, by rw [hF.gi (by omega)]; exact h2, by rw [hF.gi (by omega), hF.gi (by omega)]; exact h3, fun i hi => ?_, fun w d hw hd => ?_⟩
          · rw [hF.gi (by omega), hF.gi (by omega)]
            exact h4 i hi
          · by_cases e : w = v ∧ d = b
            · obtain ⟨rfl, rfl⟩ := e
              rw [gi_s, gi_n (by omega), gi_s]
              exact ⟨rfl, c3⟩
            · rw [hF.gi (by omega), hF.gi (by omega)]
              exact h5 w d hw hd
      · exact ⟨-100000, σ, σ, by rw [gx_y 0 1 rfl rfl c1, gx_y 0 10 rfl rfl c2, gx_n (-500) 500 rfl rfl c3], by rw [gm_y 0 1 rfl rfl c1, gm_y 0 10 rfl rfl c2, gm_n (-500) 500 rfl rfl c3], hI⟩
    · exact ⟨-100000, σ, σ, by rw [gx_y 0 1 rfl rfl c1, gx_n 0 10 rfl rfl c2], by rw [gm_y 0 1 rfl rfl c1, gm_n 0 10 rfl rfl c2], hI⟩
  · exact ⟨-100000, σ, σ, by rw [gx_n 0 1 rfl rfl c1], by rw [gm_n 0 1 rfl rfl c1], hI⟩
/-! wipe -/
theorem S_wipe (FU : Nat) : Sim_wipe Inv FU := by
  intro _ σ hI
  obtain ⟨len, h1, h2, h3, h4⟩ := hI.2.2.1
  refine ⟨nI len, Mm.si σ 9 1 0, Mm.si (Mm.si σ 9 1 0) 595 20 0, ?_, ?_, ?_⟩
  · unfold f_X11_wipe f_X9_empty
    rw [lt_e, lt_e, bnd_some, h2]
  · unfold f_X12_wipe
    rw [lt_e, lt_e, gi_n (by omega), h3]
  · have hF : Fx (fun o j => (o = 9 ∧ j = 1) ∨ (o = 595 ∧ j = 20)) σ (Mm.si (Mm.si σ 9 1 0) 595 20 0) := (Fx.si (Or.inl ⟨rfl, rfl⟩)).tr (Fx.si (Or.inr ⟨rfl, rfl⟩))
    exact ⟨IA_fr hI.1 (fun o j q => hF.gi (fun c => by unfold FA at q; omega)), IT_fr hI.2.1 (fun o j q => hF.gi (fun c => by unfold FT at q; omega)), ⟨0, by omega, by rw [gi_n (by omega), gi_s]; rfl, by rw [gi_s]; rfl, fun i hi => by omega⟩, IM_fr hI.2.2.2.1 (fun o j q => hF o j (fun c => by unfold FM at q; omega)), IW_fr hI.2.2.2.2 (fun o j q => ⟨hF.gi (fun c => by unfold FW at q; omega), hF.gl (fun c => by unfold FW at q; omega)⟩)⟩
/-! many -/
theorem S_many {FU : Nat} (hFU : 30 ≤ FU) : Sim_many Inv FU := by
  intro a1 σ hI
  unfold f_X11_many f_X12_many
  by_cases c1 : 0 ≤ a1.toInt ∧ a1.toInt ≤ 3
  · obtain ⟨s, hs, rfl⟩ := i_in (n := 3) c1.1 c1.2 (by decide)
    obtain ⟨t, ⟨h1, h2, h3, h4⟩, h5, h6⟩ := hI.1 s (by omega)
    obtain ⟨σ', q1, q2, q3, q4⟩ := pm_layCounts (fu := FU) (σ := σ) (s := s) (t := t) (by omega) h1 h2 (by omega)
    refine ⟨nI (PL (Mm.gi σ) s t).length, σ, σ', ?_, ?_, ?_⟩
    · rw [gxs_y c1, if_pos ((inb_iff (by omega)).mpr (by omega)), ix_nI (by omega), h5]
    · rw [gms_y c1, q1, bn1_some, q3]
      rfl
    · exact Inv_fr hI q2 (fun o k c => by unfold FA; omega) (fun o k c => by unfold FT; omega) (fun o k c => by unfold FX; omega) (fun o k c => by unfold FM; omega) (fun o k c => by unfold FW; omega)
  · exact ⟨-1, σ, σ, by rw [gxs_n c1], by rw [gms_n c1], hI⟩
