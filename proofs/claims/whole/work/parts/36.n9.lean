/-! arrival -/
def plq (At : Nat → Int32) (a : Int32) : Nat → Nat
  | 0 => 0
  | x + 1 => if At x ≤ a then x + 1 else plq At a x
theorem plq_le (At : Nat → Int32) (a : Int32) : ∀ x, plq At a x ≤ x := by
  intro x
  induction x with
  | zero => exact Nat.le_refl _
  | succ x ih => simp only [plq]; split <;> omega
theorem px_place {σ : Mm} {B t fu : Nat} {a : Int32} {At : Nat → Int32} (ht : t ≤ 24) (h2 : Mm.gi σ B 2 = nI t) (hA : ∀ p, p < t → Mm.gi σ (B + 1) (4 * p) = At p) (hfu : 30 < fu) : f_X7_placeBehind YF fu B a σ = some (nI (plq At a t), σ) := by
  have key := lp_ind (f := s_X7_placeBehind_5 YF fu B a) (a := fun _ _ => none) (fun d k => d ≤ t → k (nI d) σ = some (nI (plq At a d), σ)) (by
    intro d k ih hd
    unfold s_X7_placeBehind_5
    cases d with
    | zero => rw [if_pos (by decide)]; rfl
    | succ x =>
      have e : plq At a (x + 1) = if At x ≤ a then x + 1 else plq At a x := rfl
      rw [if_neg (nI_nle (by omega) (by omega)), nI_pred, i_lit 4, i_mul, show nI (x * 4) + 0 = nI (4 * x) by rw [Nat.mul_comm]; exact nI_add _ 0, if_pos (inb_y (by omega) (by omega)), ix_nI (by omega), hA x (by omega), e]
      by_cases c : At x ≤ a
      · rw [if_pos c, if_pos c]
      · rw [if_neg c, if_neg c, pk_m1, lt_e]
        exact ih x (by omega) (by omega)) fu t (by omega)
  unfold f_X7_placeBehind
  rw [lt_e, h2]
  exact key (Nat.le_refl _)
def U4 (g : Gi) (B i : Nat) (v : Nat → Int32) : Prop := g (B + 1) (4 * i) = v 0 ∧ g (B + 1) (4 * i + 1) = v 1 ∧ g (B + 1) (4 * i + 2) = v 2 ∧ g (B + 1) (4 * i + 3) = v 3
def V4 (g : Gi) (s i : Nat) (v : Nat → Int32) : Prop := g 597 (24 * s + i) = v 0 ∧ g 598 (24 * s + i) = v 1 ∧ g 599 (24 * s + i) = v 2 ∧ g 600 (24 * s + i) = v 3
def nvq (OV : Nat → Nat → Int32) (nw : Nat → Int32) (q p : Nat) : Nat → Int32 := if p < q then OV p else if p = q then nw else OV (p - 1)
theorem cp_o {σ : Mm} {a sp b dp n o k : Nat} (h : o ≠ b) : Mm.gi (Mm.cp σ a sp b dp n) o k = Mm.gi σ o k := by
  show (if o = b then _ else _) = _
  rw [if_neg h]; rfl
theorem cp_i {σ : Mm} {a sp b dp n k : Nat} (h : dp ≤ k) (h2 : k < dp + n) : Mm.gi (Mm.cp σ a sp b dp n) b k = Mm.gi σ a (sp + (k - dp)) := by
  show (if b = b then _ else _) = _
  rw [if_pos rfl, pk_cpy_in h h2]; rfl
theorem cp_n {σ : Mm} {a sp b dp n k : Nat} (h : k < dp ∨ dp + n ≤ k) : Mm.gi (Mm.cp σ a sp b dp n) b k = Mm.gi σ b k := by
  show (if b = b then _ else _) = _
  rw [if_pos rfl, pk_cpy_out h]; rfl
theorem Fx_cp {C : Nat → Nat → Prop} {σ : Mm} {a sp b dp n : Nat} (h : ∀ k, C b k) : Fx C σ (Mm.cp σ a sp b dp n) := fun o k hc => ⟨cp_o (fun e => hc (by rw [e]; exact h k)), rfl, rfl⟩
theorem px_put {σ : Mm} {B t fu : Nat} {a1 a2 a3 a4 A : Int32} {OV : Nat → Nat → Int32} {nw : Nat → Int32} (ht : t < 24) (h2 : Mm.gi σ B 2 = nI t) (hO : ∀ p, p < t → U4 (Mm.gi σ) B p (OV p)) (hn0 : nw 0 = a1) (hn1 : nw 1 = a2) (hn2 : nw 2 = a3) (hn3 : nw 3 = a4) (hfu : 30 < fu) : ∃ σ', f_X7_put YF fu B a1 a2 a3 a4 A σ = some (nI (t + 1), σ') ∧ Fx (fun a b => a = B + 1 ∨ (a = B ∧ (b = 2 ∨ b = 3)) ∨ a = B + 2) σ σ' ∧ Mm.gi σ' B 2 = nI (t + 1) ∧ (∀ p, p < t + 1 → U4 (Mm.gi σ') B p (nvq OV nw (plq (fun p => OV p 0) a1 t) p)) ∧ Mm.gi σ' B 3 = nI (plf (fun p => nvq OV nw (plq (fun p => OV p 0) a1 t) p 3) A (t + 1)).length ∧ ∀ j, j < (plf (fun p => nvq OV nw (plq (fun p => OV p 0) a1 t) p 3) A (t + 1)).length → Mm.gi σ' (B + 2) j = nI ((plf (fun p => nvq OV nw (plq (fun p => OV p 0) a1 t) p 3) A (t + 1)).getD j 0) := by
  have hq := plq_le (fun p => OV p 0) a1 t
  have hpl := px_place (a := a1) (At := fun p => OV p 0) (show t ≤ 24 by omega) h2 (fun p hp => (hO p hp).1) hfu
  generalize plq (fun p => OV p 0) a1 t = q at hq hpl ⊢
  generalize hσ9 : Mm.si (Mm.si (Mm.si (Mm.si (Mm.si (Mm.cp σ (B + 1) (4 * q) (B + 1) (4 * q + 4) (4 * t - 4 * q)) (B + 1) (4 * q) a1) (B + 1) (4 * q + 1) a2) (B + 1) (4 * q + 2) a3) (B + 1) (4 * q + 3) a4) B 2 (nI (t + 1)) = σ9
  have F9 : Fx (fun a b => a = B + 1 ∨ (a = B ∧ (b = 2 ∨ b = 3)) ∨ a = B + 2) σ σ9 := by
    rw [← hσ9]
    exact (((((Fx_cp (fun k => Or.inl rfl)).tr (Fx.si (Or.inl rfl))).tr (Fx.si (Or.inl rfl))).tr (Fx.si (Or.inl rfl))).tr (Fx.si (Or.inl rfl))).tr (Fx.si (Or.inr (Or.inl ⟨rfl, Or.inl rfl⟩)))
  have g2 : Mm.gi σ9 B 2 = nI (t + 1) := by rw [← hσ9, gi_s]
  have gU : ∀ p, p < t + 1 → U4 (Mm.gi σ9) B p (nvq OV nw q p) := by
    intro p hp
    rw [← hσ9]
    unfold nvq U4
    by_cases c1 : p < q
    · rw [if_pos c1]
      obtain ⟨o0, o1, o2, o3⟩ := hO p (by omega)
      refine ⟨?_, ?_, ?_, ?_⟩
      · rw [gi_n (by omega), gi_n (by omega), gi_n (by omega), gi_n (by omega), gi_n (by omega), cp_n (by omega), o0]
      · rw [gi_n (by omega), gi_n (by omega), gi_n (by omega), gi_n (by omega), gi_n (by omega), cp_n (by omega), o1]
      · rw [gi_n (by omega), gi_n (by omega), gi_n (by omega), gi_n (by omega), gi_n (by omega), cp_n (by omega), o2]
      · rw [gi_n (by omega), gi_n (by omega), gi_n (by omega), gi_n (by omega), gi_n (by omega), cp_n (by omega), o3]
    · rw [if_neg c1]
      by_cases c2 : p = q
      · subst c2
        rw [if_pos rfl, hn0, hn1, hn2, hn3]
        refine ⟨?_, ?_, ?_, ?_⟩
        · rw [gi_n (by omega), gi_n (by omega), gi_n (by omega), gi_n (by omega), gi_s]
        · rw [gi_n (by omega), gi_n (by omega), gi_n (by omega), gi_s]
        · rw [gi_n (by omega), gi_n (by omega), gi_s]
        · rw [gi_n (by omega), gi_s]
      · rw [if_neg c2]
        obtain ⟨o0, o1, o2, o3⟩ := hO (p - 1) (by omega)
        refine ⟨?_, ?_, ?_, ?_⟩
        · rw [gi_n (by omega), gi_n (by omega), gi_n (by omega), gi_n (by omega), gi_n (by omega), cp_i (by omega) (by omega), ← o0]; congr 1; omega
        · rw [gi_n (by omega), gi_n (by omega), gi_n (by omega), gi_n (by omega), gi_n (by omega), cp_i (by omega) (by omega), ← o1]; congr 1; omega
        · rw [gi_n (by omega), gi_n (by omega), gi_n (by omega), gi_n (by omega), gi_n (by omega), cp_i (by omega) (by omega), ← o2]; congr 1; omega
        · rw [gi_n (by omega), gi_n (by omega), gi_n (by omega), gi_n (by omega), gi_n (by omega), cp_i (by omega) (by omega), ← o3]; congr 1; omega
  obtain ⟨σ', r1, r2, r3, r4⟩ := px_see (fu := fu) (A := A) (show t + 1 ≤ 24 by omega) g2 (by omega)
  have hK : plf (fun i => Mm.gi σ9 (B + 1) (4 * i + 3)) A (t + 1) = plf (fun p => nvq OV nw q p 3) A (t + 1) := plf_cg (fun i hi => (gU i hi).2.2.2)
  rw [hK] at r3 r4
  refine ⟨σ', ?_, F9.tr (r2.mono (fun o k c => by omega)), by rw [r2.gi (by omega)]; exact g2, fun p hp => ?_, r3, r4⟩
  · unfold f_X7_put
    rw [hpl, bnd_some, lt_e, h2, i_lit 4, i_mul, i_mul, nI_add, Nat.mul_comm q 4, Nat.mul_comm t 4, pk_sub (by omega), ix_nI (by omega), ix_nI (by omega), ix_nI (by omega), if_pos ⟨nI_pos (by omega), nI_pos (by omega), nI_pos (by omega), by omega, by omega⟩, lt_e, show nI (4 * q) + 0 = nI (4 * q) from nI_add _ 0, i_lit 1, i_lit 2, i_lit 3, nI_add, nI_add, nI_add, if_pos (inb_y (by omega) (by omega)), lt_e, if_pos (inb_y (by omega) (by omega)), lt_e, if_pos (inb_y (by omega) (by omega)), lt_e, if_pos (inb_y (by omega) (by omega)), lt_e, lt_e, ix_nI (by omega), ix_nI (by omega), ix_nI (by omega), ix_nI (by omega)]
    rw [show Mm.gi (Mm.si (Mm.si (Mm.si (Mm.si (Mm.cp σ (B + 1) (4 * q) (B + 1) (4 * q + 4) (4 * t - 4 * q)) (B + 1) (4 * q) a1) (B + 1) (4 * q + 1) a2) (B + 1) (4 * q + 2) a3) (B + 1) (4 * q + 3) a4) B 2 + nI 1 = nI (t + 1) by rw [gi_n (by omega), gi_n (by omega), gi_n (by omega), gi_n (by omega), cp_o (by omega), h2, nI_add], hσ9, r1, bn1_some, r2.gi (by omega), g2]
  · have := gU p hp
    unfold U4 at this ⊢
    rw [r2.gi (by omega), r2.gi (by omega), r2.gi (by omega), r2.gi (by omega)]
    exact this
theorem pm_put {σ : Mm} {s t fu : Nat} {a1 a2 a3 a4 : Int32} {OV : Nat → Nat → Int32} {nw : Nat → Int32} (hs : s < 4) (ht : t < 24) (h2 : Mm.gi σ 596 s = nI t) (hO : ∀ p, p < t → V4 (Mm.gi σ) s p (OV p)) (hn0 : nw 0 = a1) (hn1 : nw 1 = a2) (hn2 : nw 2 = a3) (hn3 : nw 3 = a4) (hfu : 30 < fu) : ∃ σ', b_X12_arrival_81 YF fu 595 (nI s) a1 a2 a3 a4 fu (nI (24 * s + t)) σ = some (nI (t + 1), σ') ∧ Fx (fun a b => (a = 596 ∧ b = s) ∨ (597 ≤ a ∧ a ≤ 600 ∧ 24 * s ≤ b ∧ b < 24 * s + 24)) σ σ' ∧ Mm.gi σ' 596 s = nI (t + 1) ∧ ∀ p, p < t + 1 → V4 (Mm.gi σ') s p (nvq OV nw (plq (fun p => OV p 0) a1 t) p) := by
  generalize hC : (fun a b => (a = 596 ∧ b = s) ∨ (597 ≤ a ∧ a ≤ 600 ∧ 24 * s ≤ b ∧ b < 24 * s + 24)) = C
  have hC0 : ∀ a b, C a b ↔ ((a = 596 ∧ b = s) ∨ (597 ≤ a ∧ a ≤ 600 ∧ 24 * s ≤ b ∧ b < 24 * s + 24)) := fun a b => by rw [← hC]
  generalize hQ : plq (fun p => OV p 0) a1 t = Q
  have fin : ∀ τ, Q ≤ t → Fx C σ τ → Mm.gi τ 596 s = nI t → (∀ p, p < Q → V4 (Mm.gi τ) s p (OV p)) → (∀ p, Q ≤ p → p < t → V4 (Mm.gi τ) s (p + 1) (OV p)) → ∃ σ', b_X12_arrival_173 YF fu 595 (nI s) a1 a2 a3 a4 (nI (24 * s + Q)) τ = some (nI (t + 1), σ') ∧ Fx C σ σ' ∧ Mm.gi σ' 596 s = nI (t + 1) ∧ ∀ p, p < t + 1 → V4 (Mm.gi σ') s p (nvq OV nw Q p) := by
    intro τ hq hF h6 hlo hhi
    refine ⟨Mm.si (Mm.si (Mm.si (Mm.si (Mm.si τ 597 (24 * s + Q) a1) 598 (24 * s + Q) a2) 599 (24 * s + Q) a3) 600 (24 * s + Q) a4) 596 s (nI (t + 1)), ?_, ?_, by rw [gi_s], fun p hp => ?_⟩
    · unfold b_X12_arrival_173
      rw [if_pos (inb_y (by omega) (by omega)), lt_e, if_pos (inb_y (by omega) (by omega)), lt_e, if_pos (inb_y (by omega) (by omega)), lt_e, if_pos (inb_y (by omega) (by omega)), lt_e, if_pos (inb_y (by omega) (by omega)), if_pos (inb_y (by omega) (by omega)), lt_e, if_pos (inb_y (by omega) (by omega)), ix_nI (by omega), ix_nI (by omega), gi_s, gi_n (by omega), gi_n (by omega), gi_n (by omega), gi_n (by omega), h6, i_lit 1, nI_add]
    · exact ((((hF.tr (Fx.si (by rw [hC0]; omega))).tr (Fx.si (by rw [hC0]; omega))).tr (Fx.si (by rw [hC0]; omega))).tr (Fx.si (by rw [hC0]; omega))).tr (Fx.si (by rw [hC0]; omega))
    · unfold nvq V4
      by_cases c1 : p < Q
      · rw [if_pos c1]
        obtain ⟨o0, o1, o2, o3⟩ := hlo p c1
        refine ⟨?_, ?_, ?_, ?_⟩
        · rw [gi_n (by omega), gi_n (by omega), gi_n (by omega), gi_n (by omega), gi_n (by omega), o0]
        · rw [gi_n (by omega), gi_n (by omega), gi_n (by omega), gi_n (by omega), gi_n (by omega), o1]
        · rw [gi_n (by omega), gi_n (by omega), gi_n (by omega), gi_n (by omega), gi_n (by omega), o2]
        · rw [gi_n (by omega), gi_n (by omega), gi_n (by omega), gi_n (by omega), gi_n (by omega), o3]
      · rw [if_neg c1]
        by_cases c2 : p = Q
        · rw [if_pos c2, c2, hn0, hn1, hn2, hn3]
          refine ⟨?_, ?_, ?_, ?_⟩
          · rw [gi_n (by omega), gi_n (by omega), gi_n (by omega), gi_n (by omega), gi_s]
          · rw [gi_n (by omega), gi_n (by omega), gi_n (by omega), gi_s]
          · rw [gi_n (by omega), gi_n (by omega), gi_s]
          · rw [gi_n (by omega), gi_s]
        · rw [if_neg c2]
          obtain ⟨o0, o1, o2, o3⟩ := hhi (p - 1) (by omega) (by omega)
          rw [show p - 1 + 1 = p by omega] at o0 o1 o2 o3
          refine ⟨?_, ?_, ?_, ?_⟩
          · rw [gi_n (by omega), gi_n (by omega), gi_n (by omega), gi_n (by omega), gi_n (by omega), o0]
          · rw [gi_n (by omega), gi_n (by omega), gi_n (by omega), gi_n (by omega), gi_n (by omega), o1]
          · rw [gi_n (by omega), gi_n (by omega), gi_n (by omega), gi_n (by omega), gi_n (by omega), o2]
          · rw [gi_n (by omega), gi_n (by omega), gi_n (by omega), gi_n (by omega), gi_n (by omega), o3]
  have key := lp_ind (f := s_X12_arrival_81 YF fu 595 (nI s) a1 a2 a3 a4) (a := fun _ _ => none) (fun d k => ∀ τ, d ≤ t → plq (fun p => OV p 0) a1 d = Q → Fx C σ τ → Mm.gi τ 596 s = nI t → (∀ p, p < d → V4 (Mm.gi τ) s p (OV p)) → (∀ p, d ≤ p → p < t → V4 (Mm.gi τ) s (p + 1) (OV p)) → ∃ σ', k (nI (24 * s + d)) τ = some (nI (t + 1), σ') ∧ Fx C σ σ' ∧ Mm.gi σ' 596 s = nI (t + 1) ∧ ∀ p, p < t + 1 → V4 (Mm.gi σ') s p (nvq OV nw Q p)) (by
    intro d k ih τ hd hq hF h6 hlo hhi
    unfold s_X12_arrival_81
    rw [i_lit 24, i_mul]
    cases d with
    | zero =>
      have hq0 : Q = 0 := by rw [← hq]; rfl
      rw [if_pos ((i_le (by omega) (by omega)).mpr (by omega)), ← hq0]
      exact fin τ (by omega) hF h6 (fun p hp => hlo p (by omega)) (fun p hp hp2 => hhi p (by omega) hp2)
    | succ x =>
      have e : plq (fun p => OV p 0) a1 (x + 1) = if OV x 0 ≤ a1 then x + 1 else plq (fun p => OV p 0) a1 x := rfl
      obtain ⟨o0, o1, o2, o3⟩ := hlo x (by omega)
      rw [e] at hq
      rw [if_neg (i_nle (by omega) (by omega) (by omega)), show nI (24 * s + (x + 1)) - 1 = nI (24 * s + x) from nI_pred _, if_pos (inb_y (by omega) (by omega)), ix_nI (by omega), o0]
      by_cases c : OV x 0 ≤ a1
      · rw [if_pos c] at hq
        rw [if_pos c, show nI (24 * s + (x + 1)) = nI (24 * s + Q) by rw [hq]]
        exact fin τ (by omega) hF h6 (fun p hp => hlo p (by omega)) (fun p hp hp2 => hhi p (by omega) hp2)
      · rw [if_neg c] at hq
        rw [if_neg c, if_pos (inb_y (by omega) (by omega)), if_pos (inb_y (by omega) (by omega)), lt_e, if_pos (inb_y (by omega) (by omega)), if_pos (inb_y (by omega) (by omega)), lt_e, if_pos (inb_y (by omega) (by omega)), if_pos (inb_y (by omega) (by omega)), lt_e, if_pos (inb_y (by omega) (by omega)), if_pos (inb_y (by omega) (by omega)), lt_e, lt_e, ix_nI (by omega), gi_n (by omega), o1, gi_n (by omega), gi_n (by omega), o2, gi_n (by omega), gi_n (by omega), gi_n (by omega), o3, show nI (24 * s + (x + 1)) + (-1) = nI (24 * s + x) from pk_m1 _]
        refine ih x (by omega) _ (by omega) hq ((((hF.tr (Fx.si (by rw [hC0]; omega))).tr (Fx.si (by rw [hC0]; omega))).tr (Fx.si (by rw [hC0]; omega))).tr (Fx.si (by rw [hC0]; omega))) (by rw [gi_n (by omega), gi_n (by omega), gi_n (by omega), gi_n (by omega)]; exact h6) (fun p hp => ?_) (fun p hp hp2 => ?_)
        · obtain ⟨u0, u1, u2, u3⟩ := hlo p (by omega)
          refine ⟨?_, ?_, ?_, ?_⟩
          · rw [gi_n (by omega), gi_n (by omega), gi_n (by omega), gi_n (by omega), u0]
          · rw [gi_n (by omega), gi_n (by omega), gi_n (by omega), gi_n (by omega), u1]
          · rw [gi_n (by omega), gi_n (by omega), gi_n (by omega), gi_n (by omega), u2]
          · rw [gi_n (by omega), gi_n (by omega), gi_n (by omega), gi_n (by omega), u3]
        · by_cases ep : p = x
          · subst ep
            refine ⟨?_, ?_, ?_, ?_⟩
            · rw [gi_n (by omega), gi_n (by omega), gi_n (by omega), gi_s]
            · rw [gi_n (by omega), gi_n (by omega), gi_s]
            · rw [gi_n (by omega), gi_s]
            · rw [gi_s]
          · obtain ⟨u0, u1, u2, u3⟩ := hhi p (by omega) hp2
            refine ⟨?_, ?_, ?_, ?_⟩
            · rw [gi_n (by omega), gi_n (by omega), gi_n (by omega), gi_n (by omega), u0]
            · rw [gi_n (by omega), gi_n (by omega), gi_n (by omega), gi_n (by omega), u1]
            · rw [gi_n (by omega), gi_n (by omega), gi_n (by omega), gi_n (by omega), u2]
            · rw [gi_n (by omega), gi_n (by omega), gi_n (by omega), gi_n (by omega), u3]) fu t (by omega)
  exact key σ (Nat.le_refl _) hQ Fx.rf h2 hO (fun p h1 h2 => by omega)
theorem S_arrival {FU : Nat} (hFU : 10100 ≤ FU) : Sim_arrival Inv FU := by
  intro a1 a2 a3 a4 a5 σ hI
  unfold f_X11_arrival f_X12_arrival
  by_cases c1 : 0 ≤ a1.toInt ∧ a1.toInt ≤ 3
  rotate_left
  · exact ⟨-1, σ, σ, by rw [gxs_n c1], by rw [gms_n c1], hI⟩
  by_cases c2 : 0 ≤ a2.toInt ∧ a2.toInt ≤ 1000000
  rotate_left
  · exact ⟨-1, σ, σ, by rw [gxs_y c1, gx_n 0 1000000 rfl rfl c2], by rw [gms_y c1, gm_n 0 1000000 rfl rfl c2], hI⟩
  by_cases c3 : 0 ≤ a3.toInt ∧ a3.toInt ≤ 1000
  rotate_left
  · exact ⟨-1, σ, σ, by rw [gxs_y c1, gx_y 0 1000000 rfl rfl c2, gx_n 0 1000 rfl rfl c3], by rw [gms_y c1, gm_y 0 1000000 rfl rfl c2, gm_n 0 1000 rfl rfl c3], hI⟩
  by_cases c4 : 0 ≤ a4.toInt ∧ a4.toInt ≤ 2
  rotate_left
  · exact ⟨-1, σ, σ, by rw [gxs_y c1, gx_y 0 1000000 rfl rfl c2, gx_y 0 1000 rfl rfl c3, gxi_n c4], by rw [gms_y c1, gm_y 0 1000000 rfl rfl c2, gm_y 0 1000 rfl rfl c3, gmi_n c4], hI⟩
  by_cases c5 : 0 ≤ a5.toInt ∧ a5.toInt ≤ 2000000
  rotate_left
  · exact ⟨-1, σ, σ, by rw [gxs_y c1, gx_y 0 1000000 rfl rfl c2, gx_y 0 1000 rfl rfl c3, gxi_y c4, gx_n 0 2000000 rfl rfl c5], by rw [gms_y c1, gm_y 0 1000000 rfl rfl c2, gm_y 0 1000 rfl rfl c3, gmi_y c4, gm_n 0 2000000 rfl rfl c5], hI⟩
  obtain ⟨s, hs, rfl⟩ := i_in (n := 3) c1.1 c1.2 (by decide)
  have hb : inb (nI s) 4 = true := inb_y (by omega) (by omega)
  obtain ⟨t, h1, h2⟩ := hI.1 s (by omega)
  obtain ⟨ht, t1, t2, t3⟩ := id h1
  rw [gxs_y c1, gx_y 0 1000000 rfl rfl c2, gx_y 0 1000 rfl rfl c3, gxi_y c4, gx_y 0 2000000 rfl rfl c5, if_pos hb]
  unfold f_X7_isFull
  rw [ix_nI (by omega), t2]
  by_cases c6 : t < 24
  · generalize hOV : (fun p w => Mm.gi σ (597 + w) (24 * s + p)) = OV
    have eOV : ∀ p w, Mm.gi σ (597 + w) (24 * s + p) = OV p w := fun p w => by rw [← hOV]
    have e0 : ∀ p, Mm.gi σ 597 (24 * s + p) = OV p 0 := fun p => eOV p 0
    have e1 : ∀ p, Mm.gi σ 598 (24 * s + p) = OV p 1 := fun p => eOV p 1
    have e2 : ∀ p, Mm.gi σ 599 (24 * s + p) = OV p 2 := fun p => eOV p 2
    have e3 : ∀ p, Mm.gi σ 600 (24 * s + p) = OV p 3 := fun p => eOV p 3
    have hU : ∀ p, p < t → U4 (Mm.gi σ) (555 + 10 * s) p (OV p) := fun p hp => by
      obtain ⟨q0, q1, q2, q3, -⟩ := t3 p hp
      exact ⟨q0.trans (e0 p), q1.trans (e1 p), q2.trans (e2 p), q3.trans (e3 p)⟩
    have hV : ∀ p, p < t → V4 (Mm.gi σ) s p (OV p) := fun p hp => ⟨e0 p, e1 p, e2 p, e3 p⟩
    have hR : ∀ p, p < t → rng (OV p 0) 0 1000000 ∧ rng (OV p 1) 0 1000 ∧ rng (OV p 2) 0 2 := fun p hp => by
      obtain ⟨-, -, -, -, q0, q1, q2⟩ := t3 p hp
      rw [e0] at q0; rw [e1] at q1; rw [e2] at q2
      exact ⟨q0, q1, q2⟩
    generalize hnw : (fun w : Nat => match w with | 0 => a2 | 1 => a3 | 2 => a4 | _ => a5) = nw
    have n0 : nw 0 = a2 := by rw [← hnw]; rfl
    have n1 : nw 1 = a3 := by rw [← hnw]; rfl
    have n2 : nw 2 = a4 := by rw [← hnw]; rfl
    have n3 : nw 3 = a5 := by rw [← hnw]; rfl
    obtain ⟨σ1, p1, p2, p3, p4, p5, p6⟩ := px_put (A := Mm.gi σ 2 3) (fu := FU) c6 t2 hU n0 n1 n2 n3 (by omega)
    have hV1 : ∀ p, p < t → V4 (Mm.gi σ1) s p (OV p) := fun p hp => by
      have := hV p hp
      unfold V4 at this ⊢
      rw [p2.gi (by omega), p2.gi (by omega), p2.gi (by omega), p2.gi (by omega)]
      exact this
    obtain ⟨σ2, r1, r2, r3, r4⟩ := pm_put (σ := σ1) (fu := FU) (show s < 4 by omega) c6 (by rw [p2.gi (by omega)]; exact t1) hV1 n0 n1 n2 n3 (by omega)
    have hq := plq_le (fun p => OV p 0) a2 t
    generalize plq (fun p => OV p 0) a2 t = q at hq p4 p5 p6 r4
    have hR2 : ∀ p, p < t + 1 → rng (nvq OV nw q p 0) 0 1000000 ∧ rng (nvq OV nw q p 1) 0 1000 ∧ rng (nvq OV nw q p 2) 0 2 := fun p hp => by
      unfold nvq
      by_cases c1 : p < q
      · rw [if_pos c1]; exact hR p (by omega)
      · rw [if_neg c1]
        by_cases c2' : p = q
        · rw [if_pos c2', n0, n1, n2]; exact ⟨c2, c3, c4⟩
        · rw [if_neg c2']; exact hR (p - 1) (by omega)
    have hF : Fx (fun a b => (a = 555 + 10 * s + 1 ∨ (a = 555 + 10 * s ∧ (b = 2 ∨ b = 3)) ∨ a = 555 + 10 * s + 2) ∨ ((a = 596 ∧ b = s) ∨ (597 ≤ a ∧ a ≤ 600 ∧ 24 * s ≤ b ∧ b < 24 * s + 24))) σ σ2 := (p2.mono (fun o k c => Or.inl c)).tr (r2.mono (fun o k c => Or.inr c))
    refine ⟨nI (t + 1), σ1, σ2, ?_, ?_, ?_⟩
    · rw [if_pos (show nI t < 24 from (i_lt (b := 24) (by omega) (by omega)).mpr c6), zr0, bnd_some, if_pos rfl, if_pos hb, p1, bnd_some]
    · rw [gms_y c1, gm_y 0 1000000 rfl rfl c2, gm_y 0 1000 rfl rfl c3, gmi_y c4, gm_y 0 2000000 rfl rfl c5, if_pos hb, p2.gi (by omega), t1, if_neg (show ¬ nI t = 24 from i_ne (j := 24) (by omega) (by omega) (by omega)), if_pos hb, lt_e, i_lit 24, i_mul, nI_add]
      exact r1
    · refine ⟨IA_one hI.1 s (hF.gi (by omega)) (fun q hq hne => ⟨fun k => hF.gi (by omega), fun k => hF.gi (by omega), fun k => hF.gi (by omega), hF.gi (by omega), fun o i h7 h8 h9 => hF.gi (by omega)⟩) (fun _ => ⟨t + 1, ⟨by omega, r3, by rw [r2.gi (by omega)]; exact p3, fun p hp => ?_⟩, ?_⟩), IT_fr hI.2.1 (fun o j q => hF.gi (fun c => by unfold FT at q; omega)), IX_fr hI.2.2.1 (fun o j q => hF.gi (fun c => by unfold FX at q; omega)), IM_fr hI.2.2.2.1 (fun o j q => hF o j (fun c => by unfold FM at q; omega)), IW_fr hI.2.2.2.2 (fun o j q => ⟨hF.gi (fun c => by unfold FW at q; omega), hF.gl (fun c => by unfold FW at q; omega)⟩)⟩
      · obtain ⟨u0, u1, u2, u3⟩ := p4 p hp
        obtain ⟨v0, v1, v2, v3⟩ := r4 p hp
        obtain ⟨w0, w1, w2⟩ := hR2 p hp
        unfold AV
        rw [v0, v1, v2, v3, r2.gi (by omega), r2.gi (by omega), r2.gi (by omega), r2.gi (by omega), u0, u1, u2, u3]
        exact ⟨rfl, rfl, rfl, rfl, w0, w1, w2⟩
      · have hp : PL (Mm.gi σ2) s (t + 1) = plf (fun p => nvq OV nw q p 3) (Mm.gi σ 2 3) (t + 1) := by
          unfold PL
          rw [hF.gi (o := 595) (by omega), ← hI.2.1.2.2.1]
          exact plf_cg (fun i hi => (r4 i hi).2.2.2)
        unfold IS1
        rw [hp]
        exact ⟨by rw [r2.gi (by omega)]; exact p5, fun j hj => by rw [r2.gi (by omega)]; exact p6 j hj⟩
  · have : t = 24 := by omega
    subst this
    refine ⟨-3, σ, σ, ?_, ?_, hI⟩
    · rw [if_neg (by decide), zr1, bnd_some, if_neg t10]
    · rw [gms_y c1, gm_y 0 1000000 rfl rfl c2, gm_y 0 1000 rfl rfl c3, gmi_y c4, gm_y 0 2000000 rfl rfl c5, if_pos hb, t1, if_pos (show nI 24 = 24 from rfl)]
