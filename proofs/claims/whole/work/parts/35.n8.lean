/-! write -/
theorem bv_byte (a : BitVec 64) (s : Nat) (h : s ≤ 56) : ((a.sshiftRight s) &&& 255#64).signExtend 32 = (a >>> s).signExtend 32 &&& 255#32 := by
  rw [BitVec.signExtend_eq_setWidth_of_le _ (by omega), BitVec.signExtend_eq_setWidth_of_le _ (by omega)]
  apply BitVec.eq_of_getLsbD_eq
  intro i hi
  have e64 : (255#64).getLsbD i = decide (i < 8) := by
    show Nat.testBit 255 i = _
    exact Nat.testBit_two_pow_sub_one 8 i
  have e32 : (255#32).getLsbD i = decide (i < 8) := by
    show Nat.testBit 255 i = _
    exact Nat.testBit_two_pow_sub_one 8 i
  rw [BitVec.getLsbD_setWidth, BitVec.getLsbD_and, BitVec.getLsbD_and, BitVec.getLsbD_setWidth, e64, e32, BitVec.getLsbD_sshiftRight, BitVec.getLsbD_ushiftRight]
  by_cases h8 : i < 8
  · have h1 : ¬ 64 ≤ i := by omega
    have h2 : s + i < 64 := by omega
    simp [h8, hi, h1, h2]
  · simp [h8]
theorem byte_eq (a : Int64) (d : Nat) (hd : d < 8) : Int64.toInt32 ((a >>> (Int32.toInt64 (8 * nI d) &&& 63)) &&& 255) = (Int64.toInt32 ((Int64.toUInt64 a >>> ((Int32.toInt64 (8 * nI d)).toUInt64 &&& Int64.toUInt64 63)).toInt64)) &&& 255 := by
  have h8 : d = 0 ∨ d = 1 ∨ d = 2 ∨ d = 3 ∨ d = 4 ∨ d = 5 ∨ d = 6 ∨ d = 7 := by omega
  rcases h8 with rfl | rfl | rfl | rfl | rfl | rfl | rfl | rfl <;>
  exact Int32.toBitVec_inj.mp (bv_byte a.toBitVec _ (by decide))
/-- byte i of what n bytes of v write -/
def byq (v : Int64) (n i : Nat) : Int32 := Int64.toInt32 ((v >>> (Int32.toInt64 (8 * nI (n - 1 - i)) &&& 63)) &&& 255)
theorem px_append {σ : Mm} {n len fu : Nat} {v : Int64} (hn : 1 ≤ n) (hn8 : n ≤ 8) (hl : len + n ≤ 200) (h1 : Mm.gi σ 9 1 = nI len) (hfu : 20 < fu) : ∃ σ', f_X9_append YF fu 9 (nI n) v σ = some (nI (len + n), σ') ∧ Fx (fun a b => (a = 9 ∧ b = 1) ∨ a = 10) σ σ' ∧ Mm.gi σ' 9 1 = nI (len + n) ∧ (∀ i, i < len → Mm.gi σ' 10 i = Mm.gi σ 10 i) ∧ ∀ i, i < n → Mm.gi σ' 10 (len + i) = byq v n i := by
  have key := lp_ind (f := s_X9_append_5 YF fu 9 (nI n) v) (a := fun _ _ => none) (fun d k => ∀ j τ, j + d = n → Fx (fun a b => (a = 9 ∧ b = 1) ∨ a = 10) σ τ → Mm.gi τ 9 1 = nI (len + j) → (∀ i, i < len → Mm.gi τ 10 i = Mm.gi σ 10 i) → (∀ i, i < j → Mm.gi τ 10 (len + i) = byq v n i) → ∃ σ', k (nI d + (-1)) τ = some (nI (len + n), σ') ∧ Fx (fun a b => (a = 9 ∧ b = 1) ∨ a = 10) σ σ' ∧ Mm.gi σ' 9 1 = nI (len + n) ∧ (∀ i, i < len → Mm.gi σ' 10 i = Mm.gi σ 10 i) ∧ ∀ i, i < n → Mm.gi σ' 10 (len + i) = byq v n i) (by
    intro d k ih j τ hj hF h9 ho hd
    unfold s_X9_append_5
    cases d with
    | zero =>
      have : j = n := by omega
      subst this
      exact ⟨τ, by rw [if_pos (by decide), h9], hF, h9, ho, hd⟩
    | succ d =>
      have hb : byq v n j = (Int64.toInt32 ((Int64.toUInt64 v >>> ((Int32.toInt64 (8 * nI d)).toUInt64 &&& Int64.toUInt64 63)).toInt64)) &&& 255 := by
        rw [← byte_eq v d (by omega)]
        unfold byq
        rw [show n - 1 - j = d by omega]
      rw [pk_m1, if_neg (nI_pos (by omega)), h9, if_pos (inb_y (by omega) (by omega)), lt_e, lt_e, lt_e, ix_nI (by omega), ← hb, gi_n (by omega), h9, i_lit 1, nI_add]
      refine ih d (by omega) (j + 1) _ (by omega) ((hF.tr (Fx.si (Or.inr rfl))).tr (Fx.si (Or.inl ⟨rfl, rfl⟩))) (by rw [gi_s]; rfl) (fun i hi => by rw [gi_n (by omega), gi_n (by omega)]; exact ho i hi) (fun i hi => ?_)
      rw [gi_n (by omega)]
      by_cases e : i = j
      · subst e; rw [gi_s]
      · rw [gi_n (by omega)]; exact hd i (by omega)) fu n (by omega)
  unfold f_X9_append
  rw [lt_e, Int32.sub_eq_add_neg]
  exact key 0 σ (by omega) Fx.rf h1 (fun i hi => rfl) (fun i hi => by omega)
theorem pm_append {σ : Mm} {n len fu : Nat} {v : Int64} (hn : 1 ≤ n) (hn8 : n ≤ 8) (hl : len + n ≤ 200) (h1 : Mm.gi σ 595 20 = nI len) (hfu : 20 < fu) : ∃ σ', b_X12_write_34 YF fu 595 (nI n) v fu (nI n - 1) σ = some (nI (len + n), σ') ∧ Fx (fun a b => (a = 595 ∧ b = 20) ∨ a = 613) σ σ' ∧ Mm.gi σ' 595 20 = nI (len + n) ∧ (∀ i, i < len → Mm.gi σ' 613 i = Mm.gi σ 613 i) ∧ ∀ i, i < n → Mm.gi σ' 613 (len + i) = byq v n i := by
  have key := lp_ind (f := s_X12_write_34 YF fu 595 (nI n) v) (a := fun _ _ => none) (fun d k => ∀ j τ, j + d = n → Fx (fun a b => (a = 595 ∧ b = 20) ∨ a = 613) σ τ → Mm.gi τ 595 20 = nI (len + j) → (∀ i, i < len → Mm.gi τ 613 i = Mm.gi σ 613 i) → (∀ i, i < j → Mm.gi τ 613 (len + i) = byq v n i) → ∃ σ', k (nI d + (-1)) τ = some (nI (len + n), σ') ∧ Fx (fun a b => (a = 595 ∧ b = 20) ∨ a = 613) σ σ' ∧ Mm.gi σ' 595 20 = nI (len + n) ∧ (∀ i, i < len → Mm.gi σ' 613 i = Mm.gi σ 613 i) ∧ ∀ i, i < n → Mm.gi σ' 613 (len + i) = byq v n i) (by
    intro d k ih j τ hj hF h9 ho hd
    unfold s_X12_write_34
    cases d with
    | zero =>
      have : j = n := by omega
      subst this
      exact ⟨τ, by rw [if_pos (by decide), h9], hF, h9, ho, hd⟩
    | succ d =>
      have hb : byq v n j = Int64.toInt32 ((v >>> (Int32.toInt64 (8 * nI d) &&& 63)) &&& 255) := by
        unfold byq
        rw [show n - 1 - j = d by omega]
      rw [pk_m1, if_neg (nI_pos (by omega)), h9, if_pos (inb_y (by omega) (by omega)), lt_e, lt_e, lt_e, ix_nI (by omega), ← hb, gi_n (by omega), h9, i_lit 1, nI_add]
      refine ih d (by omega) (j + 1) _ (by omega) ((hF.tr (Fx.si (Or.inr rfl))).tr (Fx.si (Or.inl ⟨rfl, rfl⟩))) (by rw [gi_s]; rfl) (fun i hi => by rw [gi_n (by omega), gi_n (by omega)]; exact ho i hi) (fun i hi => ?_)
      rw [gi_n (by omega)]
      by_cases e : i = j
      · subst e; rw [gi_s]
      · rw [gi_n (by omega)]; exact hd i (by omega)) fu n (by omega)
  rw [Int32.sub_eq_add_neg]
  exact key 0 σ (by omega) Fx.rf h1 (fun i hi => rfl) (fun i hi => by omega)
theorem S_write {FU : Nat} (hFU : 10100 ≤ FU) : Sim_write Inv FU := by
  intro a1 a2 σ hI
  unfold f_X11_write f_X12_write
  by_cases c1 : 1 ≤ a1.toInt ∧ a1.toInt ≤ 8
  · obtain ⟨n, hn, rfl⟩ := i_in (n := 8) (by omega) c1.2 (by decide)
    have hn1 : 1 ≤ n := by have := c1.1; rw [nI_toInt (by omega)] at this; omega
    obtain ⟨len, l1, l2, l3, l4⟩ := id hI.2.2.1
    unfold f_X9_hasRoom
    rw [gx_y 1 8 rfl rfl c1, l2, nI_add]
    by_cases c2 : len + n ≤ 200
    · obtain ⟨σ1, p1, p2, p3, p4, p5⟩ := px_append (v := a2) (fu := FU) hn1 hn c2 l2 (by omega)
      obtain ⟨σ2, q1, q2, q3, q4, q5⟩ := pm_append (σ := σ1) (v := a2) (fu := FU) hn1 hn c2 (by rw [p2.gi (by omega)]; exact l3) (by omega)
      refine ⟨nI (len + n), σ1, σ2, ?_, ?_, ?_⟩
      · rw [if_neg (show ¬ (200 : Int32) < nI (len + n) from i_nlt (a := 200) (by omega) (by omega) (by omega)), zr1, bnd_some, if_neg t10, p1, bnd_some]
      · rw [gm_y 1 8 rfl rfl c1, p2.gi (by omega), l3, nI_add, if_pos (show nI (len + n) ≤ 200 from (i_le (b := 200) (by omega) (by omega)).mpr c2), lt_e, q1]
      · have hF : Fx (fun a b => ((a = 9 ∧ b = 1) ∨ a = 10) ∨ ((a = 595 ∧ b = 20) ∨ a = 613)) σ σ2 := (p2.mono (fun o k c => Or.inl c)).tr (q2.mono (fun o k c => Or.inr c))
        refine ⟨IA_fr hI.1 (fun o j q => hF.gi (fun c => by unfold FA at q; omega)), IT_fr hI.2.1 (fun o j q => hF.gi (fun c => by unfold FT at q; omega)), ⟨len + n, c2, by rw [q2.gi (by omega)]; exact p3, q3, fun i hi => ?_⟩, IM_fr hI.2.2.2.1 (fun o j q => hF o j (fun c => by unfold FM at q; omega)), IW_fr hI.2.2.2.2 (fun o j q => ⟨hF.gi (fun c => by unfold FW at q; omega), hF.gl (fun c => by unfold FW at q; omega)⟩)⟩
        rw [q2.gi (by omega)]
        by_cases e : i < len
        · rw [p4 i e, q4 i e, p2.gi (by omega)]; exact l4 i e
        · have h1 := p5 (i - len) (by omega)
          have h2 := q5 (i - len) (by omega)
          rw [show len + (i - len) = i by omega] at h1 h2
          rw [h1, h2]
    · refine ⟨-3, σ, σ, ?_, ?_, hI⟩
      · rw [if_pos (show (200 : Int32) < nI (len + n) from (i_lt (a := 200) (by omega) (by omega)).mpr (by omega)), zr0, bnd_some, if_pos rfl]
      · rw [gm_y 1 8 rfl rfl c1, l3, nI_add, if_neg (show ¬ nI (len + n) ≤ 200 from i_nle (b := 200) (by omega) (by omega) (by omega))]
  · exact ⟨-1, σ, σ, by rw [gx_n 1 8 rfl rfl c1], by rw [gm_n 1 8 rfl rfl c1], hI⟩
