/-! the text read alike -/
def LPd (ρ π : Mm) (md it : Nat) : Prop := 0 < it → Mm.gi ρ md 1 = Mm.gi π 604 4 ∧ rng (Mm.gi π 604 4) 100000 100000000
def LZe (ρ π : Mm) (md : Nat) : Prop := Mm.gi ρ md 2 = Mm.gi π 605 4 ∧ rng (Mm.gi π 605 4) 0 1000000 ∧ Mm.gi ρ md 3 = Mm.gi π 595 26
def LDr (ρ π : Mm) (md : Nat) : Prop := Mm.gi ρ md 4 = Mm.gi π 606 4 ∧ rng (Mm.gi π 606 4) (-100000) 100000 ∧ Mm.gi ρ md 5 = Mm.gi π 595 27
def LSl (ρ π : Mm) (md : Nat) : Prop := ∃ ns, ns ≤ 3 ∧ Mm.gi ρ md 6 = nI ns ∧ Mm.gi π 607 4 = nI ns ∧ ∀ k, k < ns → Mm.gi ρ (md + 1) k = Mm.gi π 608 (12 + k) ∧ Mm.gi ρ (md + 2) k = Mm.gi π 609 (12 + k) ∧ rng (Mm.gi π 608 (12 + k)) 0 1000000 ∧ rng (Mm.gi π 609 (12 + k)) (-50000) 50000
def LCo (ρ π : Mm) (md : Nat) : Prop := ∃ nc, nc ≤ 2 ∧ Mm.gi ρ md 9 = nI nc ∧ Mm.gi π 610 4 = nI nc ∧ ∀ k, k < nc → Mm.gi ρ (md + 3) k = Mm.gi π 611 (8 + k) ∧ rng (Mm.gi π 611 (8 + k)) 4 1000 ∧ ∀ q, q < 4 → Mm.gi ρ (md + 4) (4 * k + q) = Mm.gi π 612 (4 * (8 + k) + q) ∧ rng (Mm.gi π 612 (4 * (8 + k) + q)) (-50000) 50000
def LK (ρ π : Mm) (md it : Nat) : Prop := LPd ρ π md it ∧ LZe ρ π md ∧ LDr ρ π md ∧ LSl ρ π md ∧ LCo ρ π md
section LC
variable {ρ ρ' π π' : Mm} {md it : Nat} {C D : Nat → Nat → Prop}
theorem LPd_c (h : LPd ρ π md it) (hi : it ≠ 0) (F : Fx C ρ ρ') (G : Fx D π π') (h1 : ¬ C md 1) (h2 : ¬ D 604 4) (it' : Nat) : LPd ρ' π' md it' := by
  intro _
  rw [F.gi h1, G.gi h2]
  exact h (by omega)
theorem LZe_c (h : LZe ρ π md) (F : Fx C ρ ρ') (G : Fx D π π') (h1 : ¬ C md 2) (h2 : ¬ C md 3) (h3 : ¬ D 605 4) (h4 : ¬ D 595 26) : LZe ρ' π' md := by
  unfold LZe at h ⊢
  rw [F.gi h1, F.gi h2, G.gi h3, G.gi h4]
  exact h
theorem LDr_c (h : LDr ρ π md) (F : Fx C ρ ρ') (G : Fx D π π') (h1 : ¬ C md 4) (h2 : ¬ C md 5) (h3 : ¬ D 606 4) (h4 : ¬ D 595 27) : LDr ρ' π' md := by
  unfold LDr at h ⊢
  rw [F.gi h1, F.gi h2, G.gi h3, G.gi h4]
  exact h
theorem LSl_c (h : LSl ρ π md) (F : Fx C ρ ρ') (G : Fx D π π') (h1 : ¬ C md 6) (h2 : ∀ k, ¬ C (md + 1) k) (h3 : ∀ k, ¬ C (md + 2) k) (h4 : ¬ D 607 4) (h5 : ∀ k, ¬ D 608 k) (h6 : ∀ k, ¬ D 609 k) : LSl ρ' π' md := by
  obtain ⟨ns, a1, a2, a3, a4⟩ := h
  refine ⟨ns, a1, by rw [F.gi h1]; exact a2, by rw [G.gi h4]; exact a3, fun k hk => ?_⟩
  rw [F.gi (h2 k), F.gi (h3 k), G.gi (h5 _), G.gi (h6 _)]
  exact a4 k hk
theorem LCo_c (h : LCo ρ π md) (F : Fx C ρ ρ') (G : Fx D π π') (h1 : ¬ C md 9) (h2 : ∀ k, ¬ C (md + 3) k) (h3 : ∀ k, ¬ C (md + 4) k) (h4 : ¬ D 610 4) (h5 : ∀ k, ¬ D 611 k) (h6 : ∀ k, ¬ D 612 k) : LCo ρ' π' md := by
  obtain ⟨nc, a1, a2, a3, a4⟩ := h
  refine ⟨nc, a1, by rw [F.gi h1]; exact a2, by rw [G.gi h4]; exact a3, fun k hk => ?_⟩
  obtain ⟨b1, b2, b3⟩ := a4 k hk
  refine ⟨by rw [F.gi (h2 k), G.gi (h5 _)]; exact b1, by rw [G.gi (h5 _)]; exact b2, fun q hq => ?_⟩
  rw [F.gi (h3 _), G.gi (h6 _)]
  exact b3 q hq
end LC
theorem nmO_r {B : Nat → Int32} {len p : Nat} {lo hi : Int} (h : nmO B len p lo hi = true) : rng (nmV B len p) lo hi := by
  unfold nmO at h
  rw [Bool.and_eq_true, decide_eq_true_iff] at h
  exact h.2
def CI (md a b : Nat) : Prop := CN a b ∨ (md ≤ a ∧ a ≤ md + 4)
def RI (a b : Nat) : Prop := (a = 595 ∧ 23 ≤ b ∧ b ≤ 27) ∨ ((a = 604 ∨ a = 605 ∨ a = 606 ∨ a = 607 ∨ a = 610) ∧ b = 4) ∨ ((a = 608 ∨ a = 609) ∧ 12 ≤ b) ∨ (a = 611 ∧ 8 ≤ b) ∨ (a = 612 ∧ 32 ≤ b)
theorem plp_up {B : Nat → Int32} {len p : Nat} : ∀ k, p ≤ plp B len p k := by
  intro k
  induction k with
  | zero => exact Nat.le_refl _
  | succ k ih => rw [plp_s]; have := (nmP_b B len (plp B len p k)).1; omega
theorem item_lock {ρ π : Mm} {B : Nat → Int32} {len p fu md it : Nat} (hm : isM md) (hit : it < 1000) (hl : len ≤ 200) (hTx : TX ρ B len) (hTm : TM π B len) (hpx : Mm.gi ρ 9 2 = nI p) (hpm : Mm.gi π 595 23 = nI p) (hpl : p < len) (h0 : Mm.gi ρ md 0 = nI it) (h25 : Mm.gi π 595 25 = nI it) (hL : LK ρ π md it) (hfu : 20 < fu) : ∃ (r : Bool) (ρ' π' : Mm), f_X9_readItem YF fu 9 md ρ = some (if r = true then 1 else 0, ρ') ∧ f_X12_item YF fu 595 π = some (if r = true then 1 else 0, π') ∧ Fx (CI md) ρ ρ' ∧ Fx RI π π' ∧ Mm.gi π' 595 25 = nI it ∧ (r = true → ∃ p', p < p' ∧ p' ≤ len ∧ Mm.gi ρ' 9 2 = nI p' ∧ Mm.gi π' 595 23 = nI p' ∧ Mm.gi ρ' md 0 = nI (it + 1) ∧ LK ρ' π' md (it + 1)) := by
  have hmd : 12 ≤ md ∧ (md ≤ 12 ∨ 560 ≤ md) ∧ md ≤ 590 := by unfold isM at hm; omega
  obtain ⟨l1, l2, l3, l4, l5⟩ := hL
  by_cases c1 : B p = 112
  · obtain ⟨ρ', u1, u2, u3⟩ := px_item_p hm hit hl hTx hpx hpl c1 h0 hfu
    obtain ⟨π', v1, v2, v3⟩ := pm_item_p hl hTm hpm hpl c1 hit h25 hfu
    refine ⟨_, ρ', π', u1, v1, u2.mono (fun a b c => by unfold CN at c; unfold CI CN; omega), v2.mono (fun a b c => by unfold CP at c; unfold RI; omega), by rw [v2.gi (by unfold CP; omega)]; exact h25, fun h => ?_⟩
    obtain ⟨x1, x2, x3⟩ := u3 h
    obtain ⟨y1, y2⟩ := v3 h
    unfold Rpp at h
    rw [Bool.and_eq_true, Bool.and_eq_true] at h
    have hq := (isq_lt h.2.2).1
    have hb := (nmP_b B len (p + 1)).1
    refine ⟨_, ?_, ?_, x1, y1, x2, ⟨fun _ => ⟨by rw [x3, y2], by rw [y2]; exact nmO_r h.2.1⟩, LZe_c l2 u2 v2 (by unfold CN; omega) (by unfold CN; omega) (by unfold CP; omega) (by unfold CP; omega), LDr_c l3 u2 v2 (by unfold CN; omega) (by unfold CN; omega) (by unfold CP; omega) (by unfold CP; omega), LSl_c l4 u2 v2 (by unfold CN; omega) (fun k => by unfold CN; omega) (fun k => by unfold CN; omega) (by unfold CP; omega) (fun k => by unfold CP; omega) (fun k => by unfold CP; omega), LCo_c l5 u2 v2 (by unfold CN; omega) (fun k => by unfold CN; omega) (fun k => by unfold CN; omega) (by unfold CP; omega) (fun k => by unfold CP; omega) (fun k => by unfold CP; omega)⟩⟩
    · omega
    · omega
  by_cases c2 : B p = 122
  · obtain ⟨ρ', u1, u2, u3⟩ := px_item_z hm hit hl hTx hpx hpl c2 h0 hfu
    obtain ⟨π', v1, v2, v3⟩ := pm_item_z hl hTm hpm hpl c2 hit h25 hfu
    rw [← l2.2.2] at v1 v3
    refine ⟨_, ρ', π', u1, v1, u2.mono (fun a b c => by unfold CN at c; unfold CI CN; omega), v2.mono (fun a b c => by unfold CP at c; unfold RI; omega), by rw [v2.gi (by unfold CP; omega)]; exact h25, fun h => ?_⟩
    obtain ⟨x1, x2, x3, x4⟩ := u3 h
    obtain ⟨y1, y2, y3⟩ := v3 h
    unfold Rzz at h
    rw [Bool.and_eq_true, Bool.and_eq_true, Bool.and_eq_true, decide_eq_true_iff] at h
    have hq := (isq_lt h.2.2.2).1
    have hb := (nmP_b B len (p + 1)).1
    refine ⟨_, ?_, ?_, x1, y1, x2, ⟨LPd_c l1 h.1 u2 v2 (by unfold CN; omega) (by unfold CP; omega) _, ⟨by rw [x3, y2], by rw [y2]; exact nmO_r h.2.2.1, by rw [x4, y3]⟩, LDr_c l3 u2 v2 (by unfold CN; omega) (by unfold CN; omega) (by unfold CP; omega) (by unfold CP; omega), LSl_c l4 u2 v2 (by unfold CN; omega) (fun k => by unfold CN; omega) (fun k => by unfold CN; omega) (by unfold CP; omega) (fun k => by unfold CP; omega) (fun k => by unfold CP; omega), LCo_c l5 u2 v2 (by unfold CN; omega) (fun k => by unfold CN; omega) (fun k => by unfold CN; omega) (by unfold CP; omega) (fun k => by unfold CP; omega) (fun k => by unfold CP; omega)⟩⟩
    · omega
    · omega
  by_cases c3 : B p = 100
  · obtain ⟨ρ', u1, u2, u3⟩ := px_item_d hm hit hl hTx hpx hpl c3 h0 hfu
    obtain ⟨π', v1, v2, v3⟩ := pm_item_d hl hTm hpm hpl c3 hit h25 hfu
    rw [← l3.2.2] at v1 v3
    refine ⟨_, ρ', π', u1, v1, u2.mono (fun a b c => by unfold CN at c; unfold CI CN; omega), v2.mono (fun a b c => by unfold CP at c; unfold RI; omega), by rw [v2.gi (by unfold CP; omega)]; exact h25, fun h => ?_⟩
    obtain ⟨x1, x2, x3, x4⟩ := u3 h
    obtain ⟨y1, y2, y3⟩ := v3 h
    unfold Rdd at h
    rw [Bool.and_eq_true, Bool.and_eq_true, Bool.and_eq_true, decide_eq_true_iff] at h
    have hq := (isq_lt h.2.2.2).1
    have hb := (nmP_b B len (p + 1)).1
    refine ⟨_, ?_, ?_, x1, y1, x2, ⟨LPd_c l1 h.1 u2 v2 (by unfold CN; omega) (by unfold CP; omega) _, LZe_c l2 u2 v2 (by unfold CN; omega) (by unfold CN; omega) (by unfold CP; omega) (by unfold CP; omega), ⟨by rw [x3, y2], by rw [y2]; exact nmO_r h.2.2.1, by rw [x4, y3]⟩, LSl_c l4 u2 v2 (by unfold CN; omega) (fun k => by unfold CN; omega) (fun k => by unfold CN; omega) (by unfold CP; omega) (fun k => by unfold CP; omega) (fun k => by unfold CP; omega), LCo_c l5 u2 v2 (by unfold CN; omega) (fun k => by unfold CN; omega) (fun k => by unfold CN; omega) (by unfold CP; omega) (fun k => by unfold CP; omega) (fun k => by unfold CP; omega)⟩⟩
    · omega
    · omega
  by_cases c4 : B p = 115
  · obtain ⟨ns, s1, s2, s3, s4⟩ := l4
    obtain ⟨ρ', u1, u2, u3⟩ := px_item_s hm hit hl hTx hpx hpl c4 h0 s1 s2 hfu
    obtain ⟨π', v1, v2, v3⟩ := pm_item_s hl hTm hpm hpl c4 hit h25 s1 s3 hfu
    refine ⟨_, ρ', π', u1, v1, u2.mono (fun a b c => by unfold CN at c; unfold CI CN; omega), v2.mono (fun a b c => by unfold C8 CP at c; unfold RI; omega), by rw [v2.gi (by unfold C8 CP; omega)]; exact h25, fun h => ?_⟩
    obtain ⟨x1, x2, x3, x4, x5⟩ := u3 h
    obtain ⟨y1, y2, y3, y4⟩ := v3 h
    unfold Rss at h
    rw [Bool.and_eq_true, Bool.and_eq_true, Bool.and_eq_true, Bool.and_eq_true, Bool.and_eq_true, decide_eq_true_iff, decide_eq_true_iff] at h
    obtain ⟨e1, e2, e3, e4, e5, e6⟩ := h
    have hq := (isq_lt e6).1
    have hb := (nmP_b B len (p + 1)).1
    have hb2 := (nmP_b B len (nmP B len (p + 1) + 1)).1
    refine ⟨_, ?_, ?_, x1, y1, x2, ⟨LPd_c l1 e1 u2 v2 (by unfold CN; omega) (by unfold C8 CP; omega) _, LZe_c l2 u2 v2 (by unfold CN; omega) (by unfold CN; omega) (by unfold C8 CP; omega) (by unfold C8 CP; omega), LDr_c l3 u2 v2 (by unfold CN; omega) (by unfold CN; omega) (by unfold C8 CP; omega) (by unfold C8 CP; omega), ⟨ns + 1, by omega, x3, y2, fun k hk => ?_⟩, LCo_c l5 u2 v2 (by unfold CN; omega) (fun k => by unfold CN; omega) (fun k => by unfold CN; omega) (by unfold C8 CP; omega) (fun k => by unfold C8 CP; omega) (fun k => by unfold C8 CP; omega)⟩⟩
    · omega
    · omega
    · by_cases e : k = ns
      · subst e
        rw [x4, x5, y3, y4]
        exact ⟨rfl, rfl, nmO_r e3, nmO_r e5⟩
      · rw [u2.gi (by unfold CN; omega), u2.gi (by unfold CN; omega), v2.gi (by unfold C8 CP; omega), v2.gi (by unfold C8 CP; omega)]
        exact s4 k (by omega)
  by_cases c5 : B p = 99
  · obtain ⟨nc, s1, s2, s3, s4⟩ := l5
    obtain ⟨ρ', u1, u2, u3⟩ := px_item_c hm hit hl hTx hpx hpl c5 h0 s1 s2 hfu
    obtain ⟨π', v1, v2, v3⟩ := pm_item_c hl hTm hpm hpl c5 hit h25 s1 s3 hfu
    refine ⟨_, ρ', π', u1, v1, u2.mono (fun a b c => by unfold CN CC at c; unfold CI CN; omega), v2.mono (fun a b c => by unfold C9 CP at c; unfold RI; omega), by rw [v2.gi (by unfold C9 CP; omega)]; exact h25, fun h => ?_⟩
    obtain ⟨x1, x2, x3, x4, x5⟩ := u3 h
    obtain ⟨y1, y2, y3, y4⟩ := v3 h
    unfold Rcc at h
    rw [Bool.and_eq_true, Bool.and_eq_true, Bool.and_eq_true, decide_eq_true_iff, decide_eq_true_iff] at h
    obtain ⟨e1, e2, e3, e4⟩ := h
    have hq := (isq_lt e4).1
    have hb := (nmP_b B len (plp B len (p + 1) 4)).1
    have hb2 := plp_up (B := B) (len := len) (p := p + 1) 4
    have r0 : nmO B len (p + 1) 4 1000 = true := okc_m (i := 0) (by omega) e3
    have rq : ∀ q, q < 4 → nmO B len (plp B len (p + 1) (q + 1)) (-50000) 50000 = true := fun q hq => by
      have := okc_m (i := q + 1) (by omega) e3
      rw [okc_s, Bool.and_eq_true, Bool.and_eq_true] at this
      exact this.2.2
    refine ⟨_, ?_, ?_, x1, y1, x2, ⟨LPd_c l1 e1 u2 v2 (by unfold CN CC; omega) (by unfold C9 CP; omega) _, LZe_c l2 u2 v2 (by unfold CN CC; omega) (by unfold CN CC; omega) (by unfold C9 CP; omega) (by unfold C9 CP; omega), LDr_c l3 u2 v2 (by unfold CN CC; omega) (by unfold CN CC; omega) (by unfold C9 CP; omega) (by unfold C9 CP; omega), LSl_c l4 u2 v2 (by unfold CN CC; omega) (fun k => by unfold CN CC; omega) (fun k => by unfold CN CC; omega) (by unfold C9 CP; omega) (fun k => by unfold C9 CP; omega) (fun k => by unfold C9 CP; omega), ⟨nc + 1, by omega, x3, y2, fun k hk => ?_⟩⟩⟩
    · omega
    · omega
    · by_cases e : k = nc
      · subst e
        refine ⟨by rw [x4, y3], by rw [y3]; exact nmO_r r0, fun q hq => ?_⟩
        rw [x5 q hq, y4 q hq]
        exact ⟨rfl, nmO_r (rq q hq)⟩
      · obtain ⟨b1, b2, b3⟩ := s4 k (by omega)
        refine ⟨by rw [u2.gi (by unfold CN CC; omega), v2.gi (by unfold C9 CP; omega)]; exact b1, by rw [v2.gi (by unfold C9 CP; omega)]; exact b2, fun q hq => ?_⟩
        rw [u2.gi (by unfold CN CC; omega), v2.gi (by unfold C9 CP; omega)]
        exact b3 q hq
  · refine ⟨false, _, _, px_item_o hl hTx hpx hpl c5 c3 c1 c4 c2 hfu, pm_item_o hl hTm hpm hpl c5 c3 c1 c4 c2, Fx.si (Or.inl (Or.inl ⟨rfl, rfl⟩)), hdq_F.mono (fun a b c => by unfold CP at c; unfold RI; omega), by rw [hdq_o (by omega)]; exact h25, fun h => by cases h⟩
theorem read_loop {B : Nat → Int32} {len fu md : Nat} (hm : isM md) (hl : len ≤ 200) (hfu : 20 < fu) : ∀ (d n1 n2 it p : Nat) (ρ π : Mm), d < n1 → d < n2 → len ≤ p + d → p ≤ len → it ≤ p → (it = 0 → p < len) → TX ρ B len → TM π B len → Mm.gi ρ 9 2 = nI p → Mm.gi π 595 23 = nI p → Mm.gi ρ md 0 = nI it → Mm.gi π 595 25 = nI it → LK ρ π md it → ∃ (r : Int32) (ρ' π' : Mm), b_X9_read_11 YF fu 9 md n1 (nI it) ρ = some (r, ρ') ∧ b_X12_fault_57 YF fu 595 n2 π = some (r, π') ∧ Fx (CI md) ρ ρ' ∧ Fx RI π π' ∧ (r = -4 → ∃ it', 0 < it' ∧ it' ≤ 200 ∧ Mm.gi ρ' md 0 = nI it' ∧ Mm.gi π' 595 25 = nI it' ∧ LK ρ' π' md it') := by
  have hmd : 12 ≤ md ∧ (md ≤ 12 ∨ 560 ≤ md) ∧ md ≤ 590 := by unfold isM at hm; omega
  intro d
  induction d with
  | zero =>
    intro n1 n2 it p ρ π h1 h2 h3 h4 h5 h6 hTx hTm hpx hpm h0 h25 hL
    obtain ⟨n1, rfl⟩ : ∃ m, n1 = m + 1 := ⟨n1 - 1, by omega⟩
    obtain ⟨n2, rfl⟩ : ∃ m, n2 = m + 1 := ⟨n2 - 1, by omega⟩
    have hpe : p = len := by omega
    have hne : it ≠ 0 := fun e => by have := h6 e; omega
    refine ⟨-4, ρ, π, ?_, ?_, Fx.rf, Fx.rf, fun _ => ⟨it, by omega, by omega, h0, h25, hL⟩⟩
    · show s_X9_read_11 YF fu 9 md (b_X9_read_11 YF fu 9 md n1) (nI it) ρ = _
      unfold s_X9_read_11 b_X9_read_50
      rw [h0, if_neg (nI_ne0 (by omega) (by omega)), hTx.1, hpx]
      by_cases c : (200 : Int32) ≤ nI it
      · rw [if_pos c]
      · rw [if_neg c, if_pos ((i_le (by omega) (by omega)).mpr (by omega))]
    · show s_X12_fault_57 YF fu 595 (b_X12_fault_57 YF fu 595 n2) π = _
      unfold s_X12_fault_57
      rw [hTm.1, hpm, if_pos ((i_le (by omega) (by omega)).mpr (by omega))]
  | succ d ih =>
    intro n1 n2 it p ρ π h1 h2 h3 h4 h5 h6 hTx hTm hpx hpm h0 h25 hL
    by_cases hpl : p = len
    · exact ih n1 n2 it p ρ π (by omega) (by omega) (by omega) h4 h5 h6 hTx hTm hpx hpm h0 h25 hL
    · obtain ⟨n1, rfl⟩ : ∃ m, n1 = m + 1 := ⟨n1 - 1, by omega⟩
      obtain ⟨n2, rfl⟩ : ∃ m, n2 = m + 1 := ⟨n2 - 1, by omega⟩
      obtain ⟨r, ρ1, π1, u1, u2, u3, u4, u5, u6⟩ := item_lock (fu := fu) hm (show it < 1000 by omega) hl hTx hTm hpx hpm (show p < len by omega) h0 h25 hL hfu
      have ex : b_X9_read_11 YF fu 9 md (n1 + 1) (nI it) ρ = (if (if r = true then (1 : Int32) else 0) = 0 then some (nI p, ρ1) else b_X9_read_11 YF fu 9 md n1 (nI (it + 1)) ρ1) := by
        show s_X9_read_11 YF fu 9 md (b_X9_read_11 YF fu 9 md n1) (nI it) ρ = _
        unfold s_X9_read_11
        rw [if_neg (show ¬ (200 : Int32) ≤ nI it from i_nle (a := 200) (by omega) (by omega) (by omega)), hTx.1, hpx, if_neg (i_nle (by omega) (by omega) (by omega)), lt_e, u1, bnd_some, lt_e, show nI it + 1 = nI (it + 1) from nI_add it 1]
      have em : b_X12_fault_57 YF fu 595 (n2 + 1) π = (if (if r = true then (1 : Int32) else 0) = 0 then some (nI p, π1) else b_X12_fault_57 YF fu 595 n2 (Mm.si π1 595 25 (nI (it + 1)))) := by
        show s_X12_fault_57 YF fu 595 (b_X12_fault_57 YF fu 595 n2) π = _
        unfold s_X12_fault_57
        rw [hTm.1, hpm, if_neg (i_nle (by omega) (by omega) (by omega)), lt_e, u2, bnd_some, lt_e, u5, show nI it + 1 = nI (it + 1) from nI_add it 1]
      rw [ex, em]
      cases r with
      | false =>
        exact ⟨nI p, ρ1, π1, by rw [if_pos (by decide)], by rw [if_pos (by decide)], u3, u4, fun h => absurd h (nI_n4 (by omega))⟩
      | true =>
        obtain ⟨p', q1, q2, q3, q4, q5, q6⟩ := u6 rfl
        have g : ∀ o k, ¬ (o = 595 ∧ k = 25) → Mm.gi (Mm.si π1 595 25 (nI (it + 1))) o k = Mm.gi π1 o k := fun o k h => gi_n h
        obtain ⟨l1, l2, l3, l4, l5⟩ := q6
        have G : Fx (fun a b => a = 595 ∧ b = 25) π1 (Mm.si π1 595 25 (nI (it + 1))) := Fx.si ⟨rfl, rfl⟩
        have hL2 : LK ρ1 (Mm.si π1 595 25 (nI (it + 1))) md (it + 1) := ⟨LPd_c l1 (by omega) (Fx.rf (C := fun _ _ => False)) G (by simp) (by omega) _, LZe_c l2 (Fx.rf (C := fun _ _ => False)) G (by simp) (by simp) (by omega) (by omega), LDr_c l3 (Fx.rf (C := fun _ _ => False)) G (by simp) (by simp) (by omega) (by omega), LSl_c l4 (Fx.rf (C := fun _ _ => False)) G (by simp) (fun k => by simp) (fun k => by simp) (by omega) (fun k => by omega) (fun k => by omega), LCo_c l5 (Fx.rf (C := fun _ _ => False)) G (by simp) (fun k => by simp) (fun k => by simp) (by omega) (fun k => by omega) (fun k => by omega)⟩
        obtain ⟨r, ρ2, π2, w1, w2, w3, w4, w5⟩ := ih n1 n2 (it + 1) p' ρ1 (Mm.si π1 595 25 (nI (it + 1))) (by omega) (by omega) (by omega) q2 (by omega) (by omega) (TX_c hTx (u3.gi (by unfold CI CN; omega)) (fun k => u3.gi (by unfold CI CN; omega))) (TM_c hTm (by rw [gi_n (by omega), u4.gi (by unfold RI; omega)]) (fun k => by rw [gi_n (by omega), u4.gi (by unfold RI; omega)])) q3 (by rw [gi_n (by omega)]; exact q4) q5 (by rw [gi_s]) hL2
        exact ⟨r, ρ2, π2, by rw [if_neg (by decide)]; exact w1, by rw [if_neg (by decide)]; exact w2, u3.tr w3, (u4.tr (Fx.si (by unfold RI; omega))).tr w4, w5⟩
theorem read_lock {ρ π : Mm} {B : Nat → Int32} {len fu md : Nat} (hm : isM md) (hl : len ≤ 200) (hTx : TX ρ B len) (hTm : TM π B len) (hfu : 300 < fu) : ∃ (r : Int32) (ρ' π' : Mm), f_X9_read YF fu 9 md ρ = some (r, ρ') ∧ f_X12_fault YF fu 595 π = some (r, π') ∧ Fx (CI md) ρ ρ' ∧ Fx RI π π' ∧ (r = -4 → ∃ it, 0 < it ∧ it ≤ 200 ∧ Mm.gi ρ' md 0 = nI it ∧ Mm.gi π' 595 25 = nI it ∧ LK ρ' π' md it) := by
  have hmd : 12 ≤ md ∧ (md ≤ 12 ∨ 560 ≤ md) ∧ md ≤ 590 := by unfold isM at hm; omega
  unfold f_X9_read f_X4_empty f_X12_fault
  rw [lt_e, lt_e, lt_e, lt_e, lt_e, lt_e, lt_e, lt_e, bn1_some, lt_e, lt_e, lt_e, lt_e, lt_e, if_pos inb4_5, lt_e, if_pos inb4_5, lt_e, if_pos inb4_5, lt_e, if_pos inb4_5, lt_e, ix4]
  generalize hρ1 : Mm.si (Mm.si (Mm.si (Mm.si (Mm.si (Mm.si (Mm.si (Mm.si (Mm.si ρ md 0 0) md 1 0) md 2 0) md 3 0) md 4 0) md 5 0) md 6 0) md 9 0) 9 2 0 = ρ1
  generalize hπ1 : Mm.si (Mm.si (Mm.si (Mm.si (Mm.si (Mm.si (Mm.si (Mm.si π 595 23 0) 595 25 0) 595 26 0) 595 27 0) 605 4 0) 606 4 0) 607 4 0) 610 4 0 = π1
  have F1 : Fx (CI md) ρ ρ1 := by
    rw [← hρ1]
    exact ((((((((Fx.si (by unfold CI CN; omega)).tr (Fx.si (by unfold CI CN; omega))).tr (Fx.si (by unfold CI CN; omega))).tr (Fx.si (by unfold CI CN; omega))).tr (Fx.si (by unfold CI CN; omega))).tr (Fx.si (by unfold CI CN; omega))).tr (Fx.si (by unfold CI CN; omega))).tr (Fx.si (by unfold CI CN; omega))).tr (Fx.si (by unfold CI CN; omega))
  have G1 : Fx RI π π1 := by
    rw [← hπ1]
    exact (((((((Fx.si (by unfold RI; omega)).tr (Fx.si (by unfold RI; omega))).tr (Fx.si (by unfold RI; omega))).tr (Fx.si (by unfold RI; omega))).tr (Fx.si (by unfold RI; omega))).tr (Fx.si (by unfold RI; omega))).tr (Fx.si (by unfold RI; omega))).tr (Fx.si (by unfold RI; omega))
  have hTx1 : TX ρ1 B len := TX_c hTx (F1.gi (by unfold CI CN; omega)) (fun k => F1.gi (by unfold CI CN; omega))
  have hTm1 : TM π1 B len := TM_c hTm (G1.gi (by unfold RI; omega)) (fun k => G1.gi (by unfold RI; omega))
  have a0 : Mm.gi ρ1 md 0 = 0 := by rw [← hρ1, gi_n (by omega), gi_n (by omega), gi_n (by omega), gi_n (by omega), gi_n (by omega), gi_n (by omega), gi_n (by omega), gi_n (by omega), gi_s]
  have a2 : Mm.gi ρ1 md 2 = 0 := by rw [← hρ1, gi_n (by omega), gi_n (by omega), gi_n (by omega), gi_n (by omega), gi_n (by omega), gi_n (by omega), gi_s]
  have a3 : Mm.gi ρ1 md 3 = 0 := by rw [← hρ1, gi_n (by omega), gi_n (by omega), gi_n (by omega), gi_n (by omega), gi_n (by omega), gi_s]
  have a4 : Mm.gi ρ1 md 4 = 0 := by rw [← hρ1, gi_n (by omega), gi_n (by omega), gi_n (by omega), gi_n (by omega), gi_s]
  have a5 : Mm.gi ρ1 md 5 = 0 := by rw [← hρ1, gi_n (by omega), gi_n (by omega), gi_n (by omega), gi_s]
  have a6 : Mm.gi ρ1 md 6 = 0 := by rw [← hρ1, gi_n (by omega), gi_n (by omega), gi_s]
  have a9 : Mm.gi ρ1 md 9 = 0 := by rw [← hρ1, gi_n (by omega), gi_s]
  have ap : Mm.gi ρ1 9 2 = 0 := by rw [← hρ1, gi_s]
  have b23 : Mm.gi π1 595 23 = 0 := by rw [← hπ1, gi_n (by omega), gi_n (by omega), gi_n (by omega), gi_n (by omega), gi_n (by omega), gi_n (by omega), gi_n (by omega), gi_s]
  have b25 : Mm.gi π1 595 25 = 0 := by rw [← hπ1, gi_n (by omega), gi_n (by omega), gi_n (by omega), gi_n (by omega), gi_n (by omega), gi_n (by omega), gi_s]
  have b26 : Mm.gi π1 595 26 = 0 := by rw [← hπ1, gi_n (by omega), gi_n (by omega), gi_n (by omega), gi_n (by omega), gi_n (by omega), gi_s]
  have b27 : Mm.gi π1 595 27 = 0 := by rw [← hπ1, gi_n (by omega), gi_n (by omega), gi_n (by omega), gi_n (by omega), gi_s]
  have b5 : Mm.gi π1 605 4 = 0 := by rw [← hπ1, gi_n (by omega), gi_n (by omega), gi_n (by omega), gi_s]
  have b6 : Mm.gi π1 606 4 = 0 := by rw [← hπ1, gi_n (by omega), gi_n (by omega), gi_s]
  have b7 : Mm.gi π1 607 4 = 0 := by rw [← hπ1, gi_n (by omega), gi_s]
  have b10 : Mm.gi π1 610 4 = 0 := by rw [← hπ1, gi_s]
  have hL : LK ρ1 π1 md 0 := ⟨fun h => by omega, ⟨by rw [a2, b5], by rw [b5]; exact ⟨by decide, by decide⟩, by rw [a3, b26]⟩, ⟨by rw [a4, b6], by rw [b6]; exact ⟨by decide, by decide⟩, by rw [a5, b27]⟩, ⟨0, by omega, a6, b7, fun k hk => by omega⟩, ⟨0, by omega, a9, b10, fun k hk => by omega⟩⟩
  clear hρ1 hπ1
  rw [hTm1.1]
  by_cases c : len = 0
  · subst c
    obtain ⟨f, rfl⟩ : ∃ f, fu = f + 1 := ⟨fu - 1, by omega⟩
    refine ⟨0, ρ1, π1, ?_, by rw [if_pos (show nI 0 = 0 from rfl)], F1, G1, fun h => absurd h (by decide)⟩
    show s_X9_read_11 YF (f + 1) 9 md (b_X9_read_11 YF (f + 1) 9 md f) 0 ρ1 = _
    unfold s_X9_read_11 b_X9_read_50
    rw [if_neg (by decide), hTx1.1, ap, if_pos (by decide), a0, if_pos rfl]
  · rw [if_neg (nI_ne0 (by omega) (by omega))]
    obtain ⟨r, ρ2, π2, w1, w2, w3, w4, w5⟩ := read_loop (B := B) (md := md) hm hl (show 20 < fu by omega) len fu fu 0 0 ρ1 π1 (by omega) (by omega) (by omega) (by omega) (by omega) (fun _ => by omega) hTx1 hTm1 ap b23 a0 b25 hL
    exact ⟨r, ρ2, π2, w1, w2, F1.tr w3, G1.tr w4, w5⟩
