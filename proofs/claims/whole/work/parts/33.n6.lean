/-! residues in a row; moved; alarm -/
theorem rsq_t {σ : Mm} {s t md T v k w : Nat} (hS : SD σ s t md T v) (hk : k < (PL (Mm.gi σ) s t).length) (hw : w < 2) : -4000000 ≤ (rsq (Mm.gi σ) s T ((PL (Mm.gi σ) s t).getD k 0) w).toInt ∧ (rsq (Mm.gi σ) s T ((PL (Mm.gi σ) s t).getD k 0) w).toInt ≤ 4000000 := by
  obtain ⟨z, e, h1, h2⟩ := rsq_z hS hk hw
  rw [e, iI_toInt (by omega) (by omega)]
  exact ⟨h1, h2⟩
theorem Y550 : (YF 550).2 = 24 := rfl
theorem Y551 : (YF 551).2 = 24 := rfl
theorem px_residuesOf {σ τ : Mm} {s t md T v fu row : Nat} (hS : SD σ s t md T v) (hF : Fx CJ σ τ) (hr : row = 550 ∨ row = 551) (hfu : 10050 < fu) : ∃ σ', f_X11_residuesOf YF fu 1 (nI s) row τ = some (nI (PL (Mm.gi σ) s t).length, σ') ∧ Fx (fun a _ => a = row) τ σ' ∧ Fx CJ σ σ' ∧ ∀ j, j < (PL (Mm.gi σ) s t).length → Mm.gi σ' row j = rsq (Mm.gi σ) s T ((PL (Mm.gi σ) s t).getD j 0) v := by
  have hl := sd_len hS
  have hY : (YF row).2 = 24 := by rcases hr with rfl | rfl; exact Y550; exact Y551
  have hs := hS.2.1
  have hrJ : ∀ k, CJ row k := fun k => by unfold CJ; omega
  have key := lp_ind (f := s_X11_residuesOf_27 YF fu 1 (nI s) row) (a := fun _ _ _ => none) (fun d k => ∀ j ρ, j + d = (PL (Mm.gi σ) s t).length → Fx (fun a _ => a = row) τ ρ → Fx CJ σ ρ → (∀ i, i < j → Mm.gi ρ row i = rsq (Mm.gi σ) s T ((PL (Mm.gi σ) s t).getD i 0) v) → ∃ σ', k (nI (PL (Mm.gi σ) s t).length) (nI j) ρ = some (nI (PL (Mm.gi σ) s t).length, σ') ∧ Fx (fun a _ => a = row) τ σ' ∧ Fx CJ σ σ' ∧ ∀ j, j < (PL (Mm.gi σ) s t).length → Mm.gi σ' row j = rsq (Mm.gi σ) s T ((PL (Mm.gi σ) s t).getD j 0) v) (by
    intro d k ih j ρ hj hR hF hd
    unfold s_X11_residuesOf_27
    by_cases h : (PL (Mm.gi σ) s t).length ≤ j
    · exact ⟨ρ, by rw [if_pos ((i_le (by omega) (by omega)).mpr h)], hR, hF, fun i hi => hd i (by omega)⟩
    · have hS' := J_SD hF hS
      rw [if_neg (i_nle (by omega) (by omega) (by omega)), hS'.1.2.1.1, hS'.2.2.2.2.2.2.2.2, sd_x hS hF (by omega) hS.2.2.2.1 hfu, bnd_some, hY, if_pos (inb_y (by omega) (by omega)), lt_e, lt_e, ix_nI (by omega), i_lit 1, nI_add]
      refine ih (d - 1) (by omega) (j + 1) _ (by omega) (hR.tr (Fx.si rfl)) (hF.tr (Fx.si (hrJ j))) (fun i hi => ?_)
      by_cases e : i = j
      · subst e; rw [gi_s]
      · rw [gi_n (by omega)]; exact hd i (by omega)) fu (PL (Mm.gi σ) s t).length (by omega)
  unfold f_X11_residuesOf
  have hn := sd_n hS hF
  rw [if_pos (inb_y (by omega) (by omega)), ix_nI (by omega), sd_s hS hF, bnd_some, if_neg t10, if_pos (inb_y (by omega) (by omega)), lt_e, hn]
  exact key 0 τ (by omega) Fx.rf hF (fun i hi => by omega)
theorem px_residuesOfn {σ : Mm} {s fu row : Nat} (hs : s < 4) (h : Mm.gi σ (558 + 10 * s) 2 = 0) : f_X11_residuesOf YF fu 1 (nI s) row σ = some (0, σ) := by
  unfold f_X11_residuesOf
  rw [if_pos (inb_y (by omega) (by omega)), ix_nI (by omega), px_stands10n h, bnd_some, if_pos rfl]
/-- a sum -/
def sumI (f : Nat → Int) : Nat → Int
  | 0 => 0
  | n + 1 => sumI f n + f n
theorem S_moved {FU : Nat} (hFU : 10100 ≤ FU) : Sim_moved Inv FU := by
  intro a1 σ hI
  unfold f_X11_moved f_X12_moved
  by_cases c1 : 0 ≤ a1.toInt ∧ a1.toInt ≤ 3
  · obtain ⟨s, hs, rfl⟩ := i_in (n := 3) c1.1 c1.2 (by decide)
    have hb : inb (nI s) 4 = true := inb_y (by omega) (by omega)
    rw [gxs_y c1, if_pos hb, ix_nI (by omega)]
    rcases SD_of hI (show s < 4 by omega) with ⟨q1, q2⟩ | ⟨t, md, T, v, hS⟩
    · refine ⟨-2, σ, σ, by rw [px_stands10n q2, bnd_some, if_pos rfl], ?_, hI⟩
      rw [gms_y c1, pm_layRestn (by omega) q1, bnd_some, if_pos rfl]
    · have hl := sd_len hS
      have b0 := fun k (hk : k < (PL (Mm.gi σ) s t).length) => rsq_t hS hk (show 0 < 2 by omega)
      have b1 := fun k (hk : k < (PL (Mm.gi σ) s t).length) => rsq_t hS hk (show 1 < 2 by omega)
      have x0 := fun k (hk : k < (PL (Mm.gi σ) s t).length) => sd_x (fu := FU) hS Fx.rf hk (show 0 < 2 by omega) (by omega)
      have x1 := fun k (hk : k < (PL (Mm.gi σ) s t).length) => sd_x (fu := FU) hS Fx.rf hk (show 1 < 2 by omega) (by omega)
      have hn := sd_n hS Fx.rf
      obtain ⟨τ, r1, r2, r3, r4, r5, r6⟩ := sd_m (fu := FU) (w := 0) hS Fx.rf (by omega) (by omega)
      have m1 := fun τ (hF : Fx CJ σ τ) => sd_m (fu := FU) (w := 1) hS hF (by omega) (by omega)
      generalize hR0 : (fun k => rsq (Mm.gi σ) s T ((PL (Mm.gi σ) s t).getD k 0) 0) = R0
      generalize hR1 : (fun k => rsq (Mm.gi σ) s T ((PL (Mm.gi σ) s t).getD k 0) 1) = R1
      have e0 : ∀ k, rsq (Mm.gi σ) s T ((PL (Mm.gi σ) s t).getD k 0) 0 = R0 k := fun k => by rw [← hR0]
      have e1 : ∀ k, rsq (Mm.gi σ) s T ((PL (Mm.gi σ) s t).getD k 0) 1 = R1 k := fun k => by rw [← hR1]
      simp only [e0, e1] at b0 b1 x0 x1 r6 m1
      generalize (PL (Mm.gi σ) s t).length = len at hl b0 b1 x0 x1 hn r4 r5 r6 m1
      generalize hZ : (fun k => (((R1 k).toInt - (R0 k).toInt).natAbs : Int)) = Z
      have eZ : ∀ k, (((R1 k).toInt - (R0 k).toInt).natAbs : Int) = Z k := fun k => by rw [← hZ]
      have kx := lp_ind (f := s_X11_moved_32 YF FU 1 (nI s)) (a := fun _ _ _ => none) (fun d k => ∀ j, j + d = len → k (lI (sumI Z j)) (nI j) σ = some (lI (sumI Z len), σ)) (by
        intro d k ih j hj
        unfold s_X11_moved_32
        rw [if_pos hb, ix_nI (by omega), hn]
        by_cases h : len ≤ j
        · have : j = len := by omega
          subst this
          rw [if_pos ((i_le (by omega) (by omega)).mpr h)]
        · have q0 := x0 j (by omega)
          have q1 := x1 j (by omega)
          have d0 := b0 j (by omega)
          have d1 := b1 j (by omega)
          change f_X11_residueBy YF FU 1 (nI s) (nI j) 0 σ = _ at q0
          change f_X11_residueBy YF FU 1 (nI s) (nI j) 1 σ = _ at q1
          rw [if_neg (i_nle (by omega) (by omega) (by omega)), q1, bnd_some, q0, bnd_some, lt_e, lt_e, i_lit 1, nI_add]
          have e : (Int32.toInt64 (if 0 ≤ (R1 j - R0 j) then (R1 j - R0 j) else 0 - (R1 j - R0 j))) = lI (Z j) := by
            rw [← eZ j]
            generalize R0 j = x at d0
            generalize R1 j = y at d1
            rw [show x = iI x.toInt from iI_of x, show y = iI y.toInt from iI_of y, iI_sub, show (0 : Int32) = iI 0 from rfl, iI_sub, iI_toInt (by omega) (by omega), iI_toInt (by omega) (by omega)]
            by_cases q : 0 ≤ y.toInt - x.toInt
            · rw [if_pos ((iI_le (by omega) (by omega) (by omega) (by omega)).mpr q), lI_iI (by omega) (by omega)]
              congr 1; omega
            · rw [if_neg (by rw [iI_le (by omega) (by omega) (by omega) (by omega)]; exact q), lI_iI (by omega) (by omega)]
              congr 1; omega
          rw [e, lI_add]
          exact ih (d - 1) (by omega) (j + 1) (by omega)) FU len (by omega)
      have km2 : ∀ τ, Mm.gi τ 595 22 = nI len → (∀ i, i < len → Mm.gi τ 616 i = R1 i) → (∀ i, i < len → Mm.gl τ 631 i = Int32.toInt64 (R0 i)) → b_X12_moved_65 YF FU 595 (nI s) FU 0 0 τ = some (lI (sumI Z len), τ) := by
        intro τ h22 h16 h31
        exact lp_ind (f := s_X12_moved_65 YF FU 595 (nI s)) (a := fun _ _ _ => none) (fun d k => ∀ j, j + d = len → k (lI (sumI Z j)) (nI j) τ = some (lI (sumI Z len), τ)) (by
          intro d k ih j hj
          unfold s_X12_moved_65
          rw [h22]
          by_cases h : len ≤ j
          · have : j = len := by omega
            subst this
            rw [if_pos ((i_le (by omega) (by omega)).mpr h)]
          · have d0 := b0 j (by omega)
            have d1 := b1 j (by omega)
            rw [if_neg (i_nle (by omega) (by omega) (by omega)), if_pos (inb_y (by omega) (by omega)), if_pos (inb_y (by omega) (by omega)), ix_nI (by omega), h16 j (by omega), h31 j (by omega), lI_i, lI_i, lI_sub, pm_size (by omega), bnd_some, lt_e, lt_e, eZ, lI_add, i_lit 1, nI_add]
            exact ih (d - 1) (by omega) (j + 1) (by omega)) FU len (by omega) 0 (by omega)
      have km := lp_ind (f := s_X12_moved_26 YF FU 595 (nI s)) (a := fun _ _ => none) (fun d k => ∀ j τ, j + d = len → Fx CJ σ τ → Mm.gi τ 595 22 = nI len → (∀ i, i < len → Mm.gi τ 616 i = R0 i) → (∀ i, i < j → Mm.gl τ 631 i = Int32.toInt64 (R0 i)) → ∃ σ', k (nI j) τ = some (lI (sumI Z len), σ') ∧ Fx CJ σ σ') (by
        intro d k ih j τ hj hF h22 h16 h31
        unfold s_X12_moved_26
        rw [h22]
        by_cases h : len ≤ j
        · obtain ⟨τ', u1, u2, u3, u4, u5, u6⟩ := m1 τ hF
          change f_X12_layRest YF FU 595 (nI s) 1 τ = _ at u1
          refine ⟨τ', ?_, u3⟩
          rw [if_pos ((i_le (by omega) (by omega)).mpr h), u1, bnd_some, km2 τ' u4 (fun i hi => (u6 i hi).1) (fun i hi => by rw [u2.gl (by unfold CR; omega)]; exact h31 i (by omega))]
        · rw [if_neg (i_nle (by omega) (by omega) (by omega)), if_pos (inb_y (by omega) (by omega)), if_pos (inb_y (by omega) (by omega)), lt_e, lt_e, ix_nI (by omega), h16 j (by omega), i_lit 1, nI_add]
          refine ih (d - 1) (by omega) (j + 1) _ (by omega) (hF.tr (Fx.sl (by unfold CJ; omega))) h22 h16 (fun i hi => ?_)
          by_cases e : i = j
          · subst e; rw [gl_s]
          · rw [gl_n (by omega)]; exact h31 i (by omega)) FU len (by omega)
      obtain ⟨σ', w1, w2⟩ := km 0 τ (by omega) r3 r4 (fun i hi => (r6 i hi).1) (fun i hi => by omega)
      refine ⟨lI (sumI Z len), σ, σ', ?_, ?_, J_inv hI w2⟩
      · rw [sd_s hS Fx.rf, bnd_some, if_neg t10]
        exact kx 0 (by omega)
      · change f_X12_layRest YF FU 595 (nI s) 0 σ = _ at r1
        rw [gms_y c1, r1, bnd_some, if_neg t10]
        exact w1
  · exact ⟨-1, σ, σ, by rw [gxs_n c1], by rw [gms_n c1], hI⟩
/-! alarm -/
def alq (L : Nat → Bool) (K : Nat → Int32) : Nat → Option Nat
  | 0 => none
  | k + 1 => if L k = true ∧ (∀ b, alq L K k = some b → K k < K b) then some k else alq L K k
theorem alq_lt {L : Nat → Bool} {K : Nat → Int32} : ∀ {k b : Nat}, alq L K k = some b → b < k := by
  intro k
  induction k with
  | zero => intro b h; simp [alq] at h
  | succ k ih =>
    intro b h
    simp only [alq] at h
    split at h
    · injection h with h; omega
    · have := ih h; omega
def enc : Option Nat → Int32
  | none => -4
  | some b => nI b
theorem nI_n4 {b : Nat} (h : b < 2 ^ 31) : ¬ nI b = -4 := fun e => by
  have h1 : (nI b).toInt = (-4 : Int32).toInt := by rw [e]
  rw [nI_toInt h, show (-4 : Int32).toInt = -4 from rfl] at h1
  omega
theorem S_alarm {FU : Nat} (hFU : 10100 ≤ FU) : Sim_alarm Inv FU := by
  intro a1 σ hI
  unfold f_X11_alarm f_X12_alarm
  by_cases c1 : 0 ≤ a1.toInt ∧ a1.toInt ≤ 3
  · obtain ⟨s, hs, rfl⟩ := i_in (n := 3) c1.1 c1.2 (by decide)
    have hb : inb (nI s) 4 = true := inb_y (by omega) (by omega)
    rw [gxs_y c1, if_pos hb, ix_nI (by omega)]
    rcases SD_of hI (show s < 4 by omega) with ⟨q1, q2⟩ | ⟨t, md, T, v, hS⟩
    · refine ⟨-2, σ, σ, by rw [px_stands10n q2, bnd_some, if_pos rfl], ?_, hI⟩
      rw [gms_y c1, pm_layRestn (by omega) q1, bnd_some, if_pos rfl]
    · obtain ⟨h1, h2, h3, h4, h5, h6, h7, h8, h9⟩ := id hS
      have hl := sd_len hS
      have b1 := fun k (hk : k < (PL (Mm.gi σ) s t).length) => rsq_t hS hk h4
      have x1 := fun k (hk : k < (PL (Mm.gi σ) s t).length) => sd_x (fu := FU) hS Fx.rf hk h4 (by omega)
      have hn := sd_n hS Fx.rf
      obtain ⟨τ, r1, r2, r3, r4, r5, r6⟩ := sd_m (fu := FU) (w := v) hS Fx.rf h4 (by omega)
      have hpl : ∀ k, k < (PL (Mm.gi σ) s t).length → (PL (Mm.gi σ) s t).getD k 0 < t := fun k hk => PL_lt hk
      have hv1 := fun k (hk : k < (PL (Mm.gi σ) s t).length) => sd_v (w := 1) hS Fx.rf hk (by omega)
      have hv3 := fun k (hk : k < (PL (Mm.gi σ) s t).length) => sd_v (w := 3) hS Fx.rf hk (by omega)
      generalize hR1 : (fun k => rsq (Mm.gi σ) s T ((PL (Mm.gi σ) s t).getD k 0) v) = R1
      have e1 : ∀ k, rsq (Mm.gi σ) s T ((PL (Mm.gi σ) s t).getD k 0) v = R1 k := fun k => by rw [← hR1]
      simp only [e1] at b1 x1 r6
      generalize hP : (fun k => (PL (Mm.gi σ) s t).getD k 0) = P
      have eP : ∀ k, (PL (Mm.gi σ) s t).getD k 0 = P k := fun k => by rw [← hP]
      simp only [eP] at r5 hpl hv1 hv3
      generalize (PL (Mm.gi σ) s t).length = len at hl b1 x1 hn r4 r5 r6 hpl hv1 hv3
      have hav : ∀ k, k < len → AV (Mm.gi σ) s (P k) := fun k hk => h5.2.2.2 _ (hpl k hk)
      generalize hK : (fun k => Mm.gi σ 600 (24 * s + P k)) = K
      have eK : ∀ k, Mm.gi σ 600 (24 * s + P k) = K k := fun k => by rw [← hK]
      generalize hE : (fun k => Mm.gi σ 598 (24 * s + P k)) = E
      have eE : ∀ k, Mm.gi σ 598 (24 * s + P k) = E k := fun k => by rw [← hE]
      generalize hL : (fun k => decide (3 * (E k).toInt < ((R1 k).toInt.natAbs : Int))) = L
      have eL : ∀ k, decide (3 * (E k).toInt < ((R1 k).toInt.natAbs : Int)) = L k := fun k => by rw [← hL]
      have xl : ∀ k, k < len → f_X11_isLoud YF FU 1 (nI s) (nI k) σ = some (if L k = true then 1 else 0, σ) := by
        intro k hk
        have q := b1 k hk
        obtain ⟨-, a2, -, -, -, a6, -⟩ := hav k hk
        rw [eE] at a2 a6
        have hq := hv1 k hk
        change f_X7_value YF (555 + 10 * s) (nI k) 1 σ = _ at hq
        unfold f_X11_isLoud
        rw [h1.2.1.1, h9, x1 k hk, bnd_some, if_pos hb, ix_nI (by omega), hq, bnd_some, a2, ← eL k]
        generalize R1 k = y at q
        generalize E k = x at a6
        unfold rng at a6
        rw [show x = iI x.toInt from iI_of x, show y = iI y.toInt from iI_of y, show (0 : Int32) = iI 0 from rfl, show (3 : Int32) = iI 3 from rfl, iI_mul, iI_sub, iI_toInt (by omega) (by omega), iI_toInt (by omega) (by omega)]
        have e : (if iI 0 ≤ iI y.toInt then iI y.toInt else iI (0 - y.toInt)) = iI (y.toInt.natAbs : Int) := by
          by_cases c : 0 ≤ y.toInt
          · rw [if_pos ((iI_le (by omega) (by omega) (by omega) (by omega)).mpr c)]; congr 1; omega
          · rw [if_neg (by rw [iI_le (by omega) (by omega) (by omega) (by omega)]; exact c)]; congr 1; omega
        rw [e]
        by_cases c : (y.toInt.natAbs : Int) ≤ 3 * x.toInt
        · rw [if_pos ((iI_le (by omega) (by omega) (by omega) (by omega)).mpr c), if_neg (by simp; omega)]; rfl
        · rw [if_neg (by rw [iI_le (by omega) (by omega) (by omega) (by omega)]; exact c), if_pos (by simp; omega)]; rfl
      have es : ∀ j, alq L K (j + 1) = if L j = true ∧ (∀ b, alq L K j = some b → K j < K b) then some j else alq L K j := fun j => rfl
      have kx := lp_ind (f := s_X11_alarm_29 YF FU 1 (nI s)) (a := fun _ _ _ => none) (fun d k => ∀ j, j + d = len → k (enc (alq L K j)) (nI j) σ = some (enc (alq L K len), σ)) (by
        intro d k ih j hj
        unfold s_X11_alarm_29
        rw [if_pos hb, ix_nI (by omega), hn]
        by_cases h : len ≤ j
        · have : j = len := by omega
          subst this
          rw [if_pos ((i_le (by omega) (by omega)).mpr h)]
        · rw [if_neg (i_nle (by omega) (by omega) (by omega))]
          have hnx := ih (d - 1) (by omega) (j + 1) (by omega)
          rw [es j] at hnx
          have h73 : (∀ b, alq L K j = some b → K j < K b) → b_X11_alarm_73 YF FU 1 (nI s) k (enc (alq L K j)) (nI j) σ = some (enc (alq L K len), σ) := by
            intro hc
            unfold b_X11_alarm_73 b_X11_alarm_78
            rw [if_neg t10, xl j (by omega), bnd_some]
            unfold b_X11_alarm_96
            by_cases c : L j = true
            · rw [if_pos ⟨c, hc⟩] at hnx
              rw [if_pos c, if_neg t10, lt_e, i_lit 1, nI_add]
              exact hnx
            · rw [if_neg (fun q => c q.1)] at hnx
              rw [if_neg c, if_pos rfl, lt_e, i_lit 1, nI_add]
              exact hnx
          cases ha : alq L K j with
          | none =>
            rw [if_pos (show enc none = -4 from rfl)]
            rw [ha] at h73
            exact h73 (fun b hb => by cases hb)
          | some b =>
            have hbj := alq_lt ha
            rw [ha] at hnx h73
            have q3 := hv3 j (by omega)
            have q4 := hv3 b (by omega)
            change f_X7_value YF (555 + 10 * s) (nI j) 3 σ = _ at q3
            change f_X7_value YF (555 + 10 * s) (nI b) 3 σ = _ at q4
            have f3 := (hav j (by omega)).2.2.2.1
            have f4 := (hav b (by omega)).2.2.2.1
            rw [eK] at f3 f4
            show (if nI b = -4 then _ else _) = _
            rw [if_neg (nI_n4 (by omega)), if_pos hb, q3, bnd_some, if_pos hb]
            show bnd (f_X7_value YF (555 + 10 * s) (nI b) 3 σ) _ = _
            rw [q4, bnd_some, f3, f4]
            by_cases c : K b ≤ K j
            · rw [if_pos c]
              unfold b_X11_alarm_78 b_X11_alarm_96
              rw [if_neg (fun q => by have := q.2 b rfl; rw [Int32.lt_iff_toInt_lt] at this; rw [Int32.le_iff_toInt_le] at c; omega)] at hnx
              rw [if_pos rfl, lt_e, i_lit 1, nI_add]
              exact hnx
            · rw [if_neg c]
              exact h73 (fun b' e => by injection e with e; subst e; exact Int32.not_le.mp c)) FU len (by omega)
      have km := lp_ind (f := s_X12_alarm_29 YF FU 595 (nI s)) (a := fun _ _ _ => none) (fun d k => ∀ j, j + d = len → k (enc (alq L K j)) (nI j) τ = some (enc (alq L K len), τ)) (by
        intro d k ih j hj
        unfold s_X12_alarm_29
        rw [r4]
        by_cases h : len ≤ j
        · have : j = len := by omega
          subst this
          rw [if_pos ((i_le (by omega) (by omega)).mpr h)]
        · have hnx := ih (d - 1) (by omega) (j + 1) (by omega)
          rw [es j] at hnx
          have hp := hpl j (by omega)
          have q := b1 j (by omega)
          obtain ⟨-, a2, -, -, -, a6, -⟩ := hav j (by omega)
          rw [eE] at a2 a6
          have e98 : Mm.gi τ 598 (24 * s + P j) = E j := by rw [J_M r3 (by omega) (by omega), eE]
          have e600 : ∀ i, Mm.gi τ 600 (24 * s + P i) = K i := fun i => by rw [J_M r3 (by omega) (by omega), eK]
          rw [if_neg (i_nle (by omega) (by omega) (by omega)), if_pos (inb_y (by omega) (by omega)), ix_nI (by omega), (r6 j (by omega)).1, lI_i, pm_size (by omega), bnd_some, if_pos (inb_y (by omega) (by omega)), r5 j (by omega), if_pos (inb_y (by omega) (by omega)), ix_nI (by omega), e98, lI_i, show (3 : Int64) = lI 3 from rfl, lI_mul]
          unfold rng at a6
          by_cases c : 3 * (E j).toInt < ((R1 j).toInt.natAbs : Int)
          · have cL : L j = true := by rw [← eL j]; exact decide_eq_true c
            rw [if_neg (by rw [lI_le (by omega) (by omega) (by omega) (by omega)]; omega)]
            unfold b_X12_alarm_72
            rw [if_neg t10]
            cases ha : alq L K j with
            | none =>
              rw [ha, if_pos ⟨cL, fun b hb => by cases hb⟩] at hnx
              rw [if_pos (show enc none = -4 from rfl)]
              unfold b_X12_alarm_110 b_X12_alarm_115
              rw [lt_e, i_lit 1, nI_add]
              exact hnx
            | some b =>
              have hbj := alq_lt ha
              have hp2 := hpl b (by omega)
              rw [ha] at hnx
              show (if nI b = -4 then _ else _) = _
              rw [if_neg (nI_n4 (by omega)), if_pos (inb_y (by omega) (by omega)), ix_nI (by omega), r5 j (by omega), if_pos (inb_y (by omega) (by omega))]
              show (if inb (nI b) 24 = true then (if inb (Mm.gi τ 614 (ix (nI b))) 96 = true then (if Mm.gi τ 600 (ix (Mm.gi τ 614 (ix (nI b)))) ≤ Mm.gi τ 600 (ix (nI (24 * s + P j))) then b_X12_alarm_114 YF FU 595 (nI s) k (nI b) (nI j) τ else _) else _) else _) = _
              rw [if_pos (inb_y (by omega) (by omega)), ix_nI (by omega), r5 b (by omega), if_pos (inb_y (by omega) (by omega)), ix_nI (by omega), ix_nI (by omega), e600, e600]
              by_cases c2 : K b ≤ K j
              · rw [if_neg (fun q => by have := q.2 b rfl; rw [Int32.lt_iff_toInt_lt] at this; rw [Int32.le_iff_toInt_le] at c2; omega)] at hnx
                rw [if_pos c2]
                unfold b_X12_alarm_114 b_X12_alarm_115
                rw [lt_e, i_lit 1, nI_add]
                exact hnx
              · rw [if_pos ⟨cL, fun b' e => by injection e with e; subst e; exact Int32.not_le.mp c2⟩] at hnx
                rw [if_neg c2]
                unfold b_X12_alarm_110 b_X12_alarm_115
                rw [lt_e, i_lit 1, nI_add]
                exact hnx
          · have cL : ¬ L j = true := by rw [← eL j]; simp; omega
            rw [if_neg (fun q => cL q.1)] at hnx
            rw [if_pos ((lI_le (by omega) (by omega) (by omega) (by omega)).mpr (by omega))]
            unfold b_X12_alarm_72
            rw [if_pos rfl]
            unfold b_X12_alarm_114 b_X12_alarm_115
            rw [lt_e, i_lit 1, nI_add]
            exact hnx) FU len (by omega)
      refine ⟨enc (alq L K len), σ, τ, ?_, ?_, J_inv hI r3⟩
      · rw [sd_s hS Fx.rf, bnd_some, if_neg t10]
        exact kx 0 (by omega)
      · rw [gms_y c1, h9, r1, bnd_some, if_neg t10]
        exact km 0 (by omega)
  · exact ⟨-1, σ, σ, by rw [gxs_n c1], by rw [gms_n c1], hI⟩
