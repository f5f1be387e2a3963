/-! fault; where a model's turns begin -/
def FS (s o k : Nat) : Prop := (((603 ≤ o ∧ o ≤ 607) ∨ o = 610) ∧ k = s) ∨ ((o = 608 ∨ o = 609) ∧ 3 * s ≤ k ∧ k < 3 * s + 3) ∨ (o = 611 ∧ 2 * s ≤ k ∧ k < 2 * s + 2) ∨ (o = 612 ∧ 8 * s ≤ k ∧ k < 8 * s + 8)
theorem bgq_k {g g' : Gi} {s : Nat} (h4 : g' 604 s = g 604 s) (h5 : g' 605 s = g 605 s) (h6 : g' 606 s = g 606 s) (h7 : g' 607 s = g 607 s) (h8 : ∀ k, k < ix (g 607 s) → g' 608 (3 * s + k) = g 608 (3 * s + k) ∧ g' 609 (3 * s + k) = g 609 (3 * s + k)) : ∀ n, bgq g' s n = bgq g s n := by
  have hs : ∀ b k, k ≤ ix (g 607 s) → slq g' s b k = slq g s b k := by
    intro b k
    induction k with
    | zero => intro _; rfl
    | succ k ih =>
      intro hk
      rw [slq_s, slq_s, ih (by omega), (h8 k (by omega)).1, (h8 k (by omega)).2]
  have hl : ∀ n b, lnq g' s n b = lnq g s n b := fun n b => by
    unfold lnq
    rw [h4, h6, h7, hs b _ (Nat.le_refl _)]
  intro n
  induction n with
  | zero => show 1000000 * Int32.toInt64 (g' 605 s) = 1000000 * Int32.toInt64 (g 605 s); rw [h5]
  | succ n ih => rw [bgq_s, bgq_s, ih, hl]
theorem MD_k {g g' : Gi} {s md : Nat} (h : ∀ o k, FS s o k ∨ (md ≤ o ∧ o ≤ md + 4) → g' o k = g o k) (hD : MD g s md) : MD g' s md := by
  obtain ⟨a1, a2, a3, a4, a5, a6, ⟨ns, b1, b2, b3, b4⟩, nc, c1, c2, c3, c4⟩ := hD
  have m : ∀ j k, j ≤ 4 → g' (md + j) k = g (md + j) k := fun j k hj => h _ k (Or.inr ⟨by omega, by omega⟩)
  have m0 : ∀ k, g' md k = g md k := fun k => m 0 k (by omega)
  have f : ∀ o k, FS s o k → g' o k = g o k := fun o k hk => h o k (Or.inl hk)
  have e4 := f 604 s (by unfold FS; omega)
  have e5 := f 605 s (by unfold FS; omega)
  have e6 := f 606 s (by unfold FS; omega)
  have e7 := f 607 s (by unfold FS; omega)
  have e10 := f 610 s (by unfold FS; omega)
  refine ⟨by rw [m0, e4]; exact a1, by rw [m0, e5]; exact a2, by rw [m0, e6]; exact a3, by rw [e4]; exact a4, by rw [e5]; exact a5, by rw [e6]; exact a6, ⟨ns, b1, by rw [e7]; exact b2, by rw [m0]; exact b3, fun j hj => ?_⟩, nc, c1, by rw [e10]; exact c2, by rw [m0]; exact c3, fun j hj => ?_⟩
  · rw [m 1 j (by omega), m 2 j (by omega), f 608 _ (by unfold FS; omega), f 609 _ (by unfold FS; omega)]
    exact b4 j hj
  · obtain ⟨d1, d2, d3⟩ := c4 j hj
    refine ⟨by rw [m 3 j (by omega), f 611 _ (by unfold FS; omega)]; exact d1, by rw [f 611 _ (by unfold FS; omega)]; exact d2, fun q hq => ?_⟩
    rw [m 4 _ (by omega), f 612 _ (by unfold FS; omega)]
    exact d3 q hq
def IMs (σ : Mm) (md s : Nat) : Prop := Mm.gr σ (558 + 10 * s) 1 = md ∧ ((Mm.gi σ 603 s = 0 ∧ Mm.gi σ (558 + 10 * s) 2 = 0) ∨ (Mm.gi σ 603 s = 1 ∧ MD (Mm.gi σ) s md ∧ ∃ T, TQ (Mm.gi σ) s T ∧ Mm.gi σ (558 + 10 * s) 2 = nI T ∧ ∀ n, n < T → Mm.gl σ (558 + 10 * s + 1) n = bgq (Mm.gi σ) s n))
theorem IMs_k {σ σ' : Mm} {C : Nat → Nat → Prop} {md s : Nat} (h : IMs σ md s) (F : Fx C σ σ') (c1 : ∀ o k, FS s o k → ¬ C o k) (c2 : ∀ o k, md ≤ o → o ≤ md + 4 → ¬ C o k) (c3 : ∀ k, ¬ C (558 + 10 * s) k) (c4 : ∀ k, ¬ C (558 + 10 * s + 1) k) : IMs σ' md s := by
  obtain ⟨h1, h2⟩ := h
  refine ⟨by rw [F.gr (c3 1)]; exact h1, ?_⟩
  have f : ∀ o k, FS s o k → Mm.gi σ' o k = Mm.gi σ o k := fun o k hk => F.gi (c1 o k hk)
  have e3 := f 603 s (by unfold FS; omega)
  rw [F.gi (c3 2), e3]
  rcases h2 with h2 | ⟨q1, q2, T, ⟨t1, t2, t3, t4⟩, q4, q5⟩
  · exact Or.inl h2
  · have hns : ix (Mm.gi σ 607 s) ≤ 3 := by
      obtain ⟨-, -, -, -, -, -, ⟨ns, b1, b2, -⟩, -⟩ := q2
      rw [b2, ix_nI (by omega)]; exact b1
    have e := bgq_k (g := Mm.gi σ) (g' := Mm.gi σ') (s := s) (f 604 s (by unfold FS; omega)) (f 605 s (by unfold FS; omega)) (f 606 s (by unfold FS; omega)) (f 607 s (by unfold FS; omega)) (fun k hk => ⟨f 608 _ (by unfold FS; omega), f 609 _ (by unfold FS; omega)⟩)
    refine Or.inr ⟨q1, MD_k (fun o k hk => ?_) q2, T, ⟨t1, t2, fun n hn => by rw [e]; exact t3 n hn, fun h => by rw [e]; exact t4 h⟩, q4, fun n hn => by rw [F.gl (c4 n), e]; exact q5 n hn⟩
    rcases hk with hk | hk
    · exact f o k hk
    · exact F.gi (c2 o k hk.1 hk.2)
/-- the class reads; the reference, from any memory with the same text, reads alike -/
theorem read_all {σ : Mm} {fu md : Nat} (hI : Inv σ) (hm : isM md) (hfu : 300 < fu) : ∃ (B : Nat → Int32) (len : Nat) (r : Int32) (ρ : Mm), TM σ B len ∧ f_X9_read YF fu 9 md σ = some (r, ρ) ∧ Fx (CI md) σ ρ ∧ ∀ π, TM π B len → ∃ π', f_X12_fault YF fu 595 π = some (r, π') ∧ Fx RI π π' ∧ (r = -4 → ∃ it, 0 < it ∧ it ≤ 200 ∧ Mm.gi ρ md 0 = nI it ∧ Mm.gi π' 595 25 = nI it ∧ LK ρ π' md it) := by
  obtain ⟨len, h1, h2, h3, h4⟩ := hI.2.2.1
  have hTx : TX σ (fun i => Mm.gi σ 10 i) len := ⟨h2, fun i _ => rfl⟩
  have hTm : TM σ (fun i => Mm.gi σ 10 i) len := ⟨h3, fun i hi => (h4 i hi).symm⟩
  obtain ⟨r, ρ, -, u1, -, u3, -, -⟩ := read_lock (fu := fu) hm h1 hTx hTm hfu
  refine ⟨_, len, r, ρ, hTm, u1, u3, fun π hπ => ?_⟩
  obtain ⟨r', ρ', π', v1, v2, v3, v4, v5⟩ := read_lock (fu := fu) hm h1 hTx hπ hfu
  rw [u1] at v1
  injection v1 with v1
  injection v1 with e1 e2
  subst e1 e2
  exact ⟨π', v2, v4, v5⟩
theorem S_fault {FU : Nat} (hFU : 10100 ≤ FU) : Sim_fault Inv FU := by
  intro _ σ hI
  obtain ⟨md, h1, h2, h3, h4⟩ := hI.2.2.2.1
  obtain ⟨B, len, r, ρ, hT, u1, u2, u3⟩ := read_all (fu := FU) hI (h1 4 (by omega)) (by omega)
  have hm4 := h1 4 (by omega)
  have hmd : 12 ≤ md 4 ∧ (md 4 ≤ 12 ∨ 560 ≤ md 4) ∧ md 4 ≤ 590 := by unfold isM at hm4; omega
  obtain ⟨σ', v1, v2, -⟩ := u3 ρ (TM_c hT (u2.gi (by unfold CI CN; omega)) (fun k => u2.gi (by unfold CI CN; omega)))
  have F : Fx (fun o k => CI (md 4) o k ∨ RI o k) σ σ' := (u2.mono (fun o k c => Or.inl c)).tr (v2.mono (fun o k c => Or.inr c))
  refine ⟨r, ρ, σ', ?_, v1, ?_⟩
  · unfold f_X11_fault
    rw [h3, u1, bnd_some]
  · refine ⟨IA_fr hI.1 (fun o k q => F.gi (by unfold isM at hm4; unfold FA at q; unfold CI CN RI; omega)), IT_fr hI.2.1 (fun o k q => F.gi (by unfold isM at hm4; unfold FT at q; unfold CI CN RI; omega)), IX_fr hI.2.2.1 (fun o k q => F.gi (by unfold isM at hm4; unfold FX at q; unfold CI CN RI; omega)), ⟨md, h1, h2, by rw [F.gr (by unfold isM at hm4; unfold CI CN RI; omega)]; exact h3, fun s hs => ?_⟩, IW_fr hI.2.2.2.2 (fun o k q => ⟨F.gi (by unfold isM at hm4; unfold FW at q; unfold CI CN RI; omega), F.gl (by unfold isM at hm4; unfold FW at q; unfold CI CN RI; omega)⟩)⟩
    have hms := h1 s (by omega)
    have hne : md s ≠ md 4 := fun e => by have := h2 s 4 (by omega) (by omega) e; omega
    exact IMs_k (md := md s) (s := s) (h4 s hs) F (fun o k q => by unfold FS at q; unfold CI CN RI; omega) (fun o k q1 q2 => by unfold isM at hms hm4; unfold CI CN RI; omega) (fun k => by unfold isM at hm4; unfold CI CN RI; omega) (fun k => by unfold isM at hm4; unfold CI CN RI; omega)
/-! where a model's turns begin, in the class -/
def sly (g : Gi) (md : Nat) (b : Int64) : Nat → Int64
  | 0 => 0
  | k + 1 => sly g md b k + (if Int32.toInt64 (g (md + 1) k) * 1000000 ≤ b then 1000 * Int32.toInt64 (g (md + 2) k) else 0)
def lny (g : Gi) (md n : Nat) (b : Int64) : Int64 := 1000 * Int32.toInt64 (g md 1) + Int32.toInt64 (nI n) * Int32.toInt64 (g md 4) + sly g md b (ix (g md 6))
def bgy (g : Gi) (md : Nat) : Nat → Int64
  | 0 => Int32.toInt64 (g md 2) * 1000000
  | n + 1 => bgy g md n + (if lny g md n (bgy g md n) < 1000000 then 1000000 else lny g md n (bgy g md n))
theorem sly_s (g : Gi) (md : Nat) (b : Int64) (k : Nat) : sly g md b (k + 1) = sly g md b k + (if Int32.toInt64 (g (md + 1) k) * 1000000 ≤ b then 1000 * Int32.toInt64 (g (md + 2) k) else 0) := rfl
theorem bgy_s (g : Gi) (md n : Nat) : bgy g md (n + 1) = bgy g md n + (if lny g md n (bgy g md n) < 1000000 then 1000000 else lny g md n (bgy g md n)) := rfl
theorem bgy_q {g : Gi} {s md : Nat} (hD : MD g s md) : ∀ n, bgy g md n = bgq g s n := by
  obtain ⟨a1, a2, a3, a4, a5, a6, ⟨ns, b1, b2, b3, b4⟩, -⟩ := hD
  have hs : ∀ b k, k ≤ ns → sly g md b k = slq g s b k := by
    intro b k
    induction k with
    | zero => intro _; rfl
    | succ k ih =>
      intro hk
      rw [sly_s, slq_s, ih (by omega), (b4 k (by omega)).1, (b4 k (by omega)).2.1, Int64.mul_comm]
  have hl : ∀ n b, lny g md n b = lnq g s n b := fun n b => by
    unfold lny lnq
    rw [a1, a3, b3, b2, ix_nI (by omega), hs b ns (Nat.le_refl _)]
  intro n
  induction n with
  | zero => show Int32.toInt64 (g md 2) * 1000000 = 1000000 * Int32.toInt64 (g 605 s); rw [a2, Int64.mul_comm]
  | succ n ih => rw [bgy_s, bgq_s, ih, hl]
theorem bgy_c {g g' : Gi} {md : Nat} (h : ∀ j k, j ≤ 2 → g' (md + j) k = g (md + j) k) : ∀ n, bgy g' md n = bgy g md n := by
  have h0 : ∀ k, g' md k = g md k := fun k => h 0 k (by omega)
  have hs : ∀ b k, sly g' md b k = sly g md b k := by
    intro b k
    induction k with
    | zero => rfl
    | succ k ih => rw [sly_s, sly_s, ih, h 1 k (by omega), h 2 k (by omega)]
  have hl : ∀ n b, lny g' md n b = lny g md n b := fun n b => by
    unfold lny
    rw [h0, h0, h0, hs]
  intro n
  induction n with
  | zero => show Int32.toInt64 (g' md 2) * 1000000 = _; rw [h0]; rfl
  | succ n ih => rw [bgy_s, bgy_s, ih, hl]
theorem max_m (x : Int64) : (if 1000000 < x then x else 1000000) = (if x < 1000000 then 1000000 else x) := by
  by_cases c : x < 1000000
  · rw [if_pos c, if_neg (by rw [Int64.lt_iff_toInt_lt] at c ⊢; omega)]
  · rw [if_neg c]
    by_cases c2 : 1000000 < x
    · rw [if_pos c2]
    · rw [if_neg c2]
      apply Int64.toInt_inj.mp
      rw [Int64.lt_iff_toInt_lt] at c c2
      omega
theorem px_lengthOf {τ : Mm} {md n ns fu : Nat} {b : Int64} (hns : ns ≤ 3) (h6 : Mm.gi τ md 6 = nI ns) (hfu : 20 < fu) : f_X4_lengthOf YF fu md (nI n) b τ = some (if lny (Mm.gi τ) md n b < 1000000 then 1000000 else lny (Mm.gi τ) md n b, τ) := by
  have hl : lny (Mm.gi τ) md n b = 1000 * Int32.toInt64 (Mm.gi τ md 1) + Int32.toInt64 (nI n) * Int32.toInt64 (Mm.gi τ md 4) + sly (Mm.gi τ) md b ns := by unfold lny; rw [h6, ix_nI (by omega)]
  rw [hl]
  unfold f_X4_lengthOf
  rw [lt_e]
  generalize 1000 * Int32.toInt64 (Mm.gi τ md 1) + Int32.toInt64 (nI n) * Int32.toInt64 (Mm.gi τ md 4) = base
  have key := lp_ind (f := s_X4_lengthOf_23 YF fu md (nI n) b) (a := fun _ _ _ => none) (fun d K => ∀ k, k + d = ns → K (base + sly (Mm.gi τ) md b k) (nI k) τ = some (if base + sly (Mm.gi τ) md b ns < 1000000 then 1000000 else base + sly (Mm.gi τ) md b ns, τ)) (by
    intro d K ih k hk
    unfold s_X4_lengthOf_23 b_X4_lengthOf_66
    rw [h6]
    by_cases h : ns ≤ k
    · have : k = ns := by omega
      subst this
      rw [if_pos ((i_le (by omega) (by omega)).mpr h), max_m]
    · have hn := ih (d - 1) (by omega) (k + 1) (by omega)
      rw [sly_s] at hn
      rw [if_neg (i_nle (by omega) (by omega) (by omega)), if_pos (inb_y (by omega) (by omega)), ix_nI (by omega)]
      by_cases c : b < Int32.toInt64 (Mm.gi τ (md + 1) k) * 1000000
      · rw [if_neg (Int64.not_le.mpr c), Int64.add_zero] at hn
        rw [if_pos c, lt_e, show nI k + 1 = nI (k + 1) from nI_add k 1]
        exact hn
      · rw [if_pos (Int64.not_lt.mp c), ← Int64.add_assoc] at hn
        rw [if_neg c, if_pos (inb_y (by omega) (by omega)), lt_e, lt_e, show nI k + 1 = nI (k + 1) from nI_add k 1]
        exact hn) fu ns (by omega) 0 (by omega)
  rw [show sly (Mm.gi τ) md b 0 = 0 from rfl, Int64.add_zero] at key
  exact key
/-- a model exchanged: its turns are laid -/
def CX (s a b : Nat) : Prop := (a = 558 + 10 * s ∧ (b = 1 ∨ b = 2)) ∨ a = 558 + 10 * s + 1
theorem px_exchange {ρ : Mm} {s md ns fu : Nat} (hs : s < 4) (hm : isM md) (hns : ns ≤ 3) (h6 : Mm.gi ρ md 6 = nI ns) (h2 : rng (Mm.gi ρ md 2) 0 1000000) (hfu : 10050 < fu) : ∃ τ T, f_X10_exchange YF fu (558 + 10 * s) md ρ = some (Mm.gr ρ (558 + 10 * s) 1, τ) ∧ Fx (CX s) ρ τ ∧ Mm.gr τ (558 + 10 * s) 1 = md ∧ Mm.gi τ (558 + 10 * s) 2 = nI T ∧ (0 < T ∧ T ≤ 10001 ∧ (∀ n, n < T → (bgy (Mm.gi ρ) md n).toInt ≤ 2000000000000) ∧ (T < 10001 → 2000000000000 < (bgy (Mm.gi ρ) md T).toInt)) ∧ ∀ n, n < T → Mm.gl τ (558 + 10 * s + 1) n = bgy (Mm.gi ρ) md n := by
  have hmo : ∀ j, j ≤ 4 → md + j ≠ 558 + 10 * s ∧ md + j ≠ 558 + 10 * s + 1 := fun j hj => by unfold isM at hm; omega
  have hmc : ∀ j k, j ≤ 4 → ¬ CX s (md + j) k := fun j k hj => by have := hmo j hj; unfold CX; omega
  have hm0 : ∀ k, ¬ CX s md k := fun k => hmc 0 k (by omega)
  unfold f_X10_exchange
  rw [lt_e, if_pos (show inb 0 10001 = true from rfl), lt_e, lt_e, show ix 0 = 0 from rfl]
  have key := lp_ind (f := s_X10_exchange_30 YF fu (558 + 10 * s) md) (a := fun _ _ => none) (fun d K => ∀ t τ, t + d = 10001 → 0 < t → Fx (CX s) ρ τ → Mm.gr τ (558 + 10 * s) 1 = md → Mm.gi τ (558 + 10 * s) 2 = nI t → (∀ n, n < t → (bgy (Mm.gi ρ) md n).toInt ≤ 2000000000000) → (∀ n, n < t → Mm.gl τ (558 + 10 * s + 1) n = bgy (Mm.gi ρ) md n) → ∃ τ' T, K (Mm.gr ρ (558 + 10 * s) 1) τ = some (Mm.gr ρ (558 + 10 * s) 1, τ') ∧ Fx (CX s) ρ τ' ∧ Mm.gr τ' (558 + 10 * s) 1 = md ∧ Mm.gi τ' (558 + 10 * s) 2 = nI T ∧ (0 < T ∧ T ≤ 10001 ∧ (∀ n, n < T → (bgy (Mm.gi ρ) md n).toInt ≤ 2000000000000) ∧ (T < 10001 → 2000000000000 < (bgy (Mm.gi ρ) md T).toInt)) ∧ ∀ n, n < T → Mm.gl τ' (558 + 10 * s + 1) n = bgy (Mm.gi ρ) md n) (by
    intro d K ih t τ ht h0 hF hr h2 hb hl
    unfold s_X10_exchange_30
    rw [h2]
    by_cases h : 10000 < t
    · have : t = 10001 := by omega
      subst this
      exact ⟨τ, 10001, by rw [if_pos (by decide)], hF, hr, h2, ⟨by omega, by omega, hb, fun h => by omega⟩, hl⟩
    · have g6 : Mm.gi τ md 6 = nI ns := by rw [hF.gi (hm0 6)]; exact h6
      have el : lny (Mm.gi τ) md (t - 1) (bgy (Mm.gi ρ) md (t - 1)) = lny (Mm.gi ρ) md (t - 1) (bgy (Mm.gi ρ) md (t - 1)) := by
        have hs : ∀ b k, sly (Mm.gi τ) md b k = sly (Mm.gi ρ) md b k := by
          intro b k
          induction k with
          | zero => rfl
          | succ k ih => rw [sly_s, sly_s, ih, hF.gi (hmc 1 k (by omega)), hF.gi (hmc 2 k (by omega))]
        unfold lny
        rw [hs, hF.gi (hm0 1), hF.gi (hm0 4), hF.gi (hm0 6)]
      have eb := bgy_s (Mm.gi ρ) md (t - 1)
      rw [show t - 1 + 1 = t by omega] at eb
      rw [if_neg (show ¬ (10000 : Int32) < nI t from i_nlt (a := 10000) (by omega) (by omega) (by omega)), show nI t - 1 = nI (t - 1) from pk_sub (b := 1) (by omega), if_pos (inb_y (by omega) (by omega)), if_pos (inb_y (by omega) (by omega)), ix_nI (by omega), hl (t - 1) (by omega), px_lengthOf hns g6 (by omega), bnd_some, lt_e, el, ← eb]
      by_cases c : bgy (Mm.gi ρ) md t ≤ 2000000000000
      · have cI : (bgy (Mm.gi ρ) md t).toInt ≤ 2000000000000 := by rw [Int64.le_iff_toInt_le] at c; exact c
        rw [if_pos c, h2, if_pos (inb_y (by omega) (by omega)), lt_e, lt_e, ix_nI (by omega), gi_l, h2, show nI t + 1 = nI (t + 1) from nI_add t 1]
        refine ih (d - 1) (by omega) (t + 1) _ (by omega) (by omega) ((hF.tr (Fx.sl (Or.inr rfl))).tr (Fx.si (Or.inl ⟨rfl, Or.inr rfl⟩))) hr (by rw [gi_s]) (fun n hn => ?_) (fun n hn => ?_)
        · by_cases e : n = t
          · subst e; exact cI
          · exact hb n (by omega)
        · rw [gl_i]
          by_cases e : n = t
          · subst e; rw [gl_s]
          · rw [gl_n (by omega)]; exact hl n (by omega)
      · rw [if_neg c]
        exact ⟨τ, t, rfl, hF, hr, h2, ⟨h0, by omega, hb, fun _ => by rw [Int64.le_iff_toInt_le] at c; show (2000000000000 : Int) < _; have e : (2000000000000 : Int64).toInt = 2000000000000 := rfl; omega⟩, hl⟩) fu 10000 (by omega)
  refine key 1 _ (by omega) (by omega) (((Fx.sr (Or.inl ⟨rfl, Or.inl rfl⟩)).tr (Fx.sl (Or.inr rfl))).tr (Fx.si (Or.inl ⟨rfl, Or.inr rfl⟩))) ?_ (by rw [gi_s]; rfl) (fun n hn => ?_) (fun n hn => ?_)
  · rw [gr_i]
    show Mm.gr (Mm.sr ρ (558 + 10 * s) 1 md) (558 + 10 * s) 1 = md
    simp [Mm.gr, Mm.sr, Mm.u2]
  · have : n = 0 := by omega
    subst this
    unfold rng at h2
    show (Int32.toInt64 (Mm.gi ρ md 2) * 1000000).toInt ≤ _
    rw [lI_i, L1000000, lI_mul, lI_toInt (by omega) (by omega)]
    omega
  · have : n = 0 := by omega
    subst this
    rw [gl_i, gl_s]
    rfl
