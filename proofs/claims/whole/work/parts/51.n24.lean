/-! items, in the reference -/
section IM
variable {π : Mm} {B : Nat → Int32} {len p fu it : Nat}
theorem inb4_5 : inb 4 5 = true := rfl
theorem ix4 : ix 4 = 4 := rfl
def CP (a b : Nat) : Prop := a = 595 ∧ (b = 23 ∨ b = 24)
theorem pm_229n (τ : Mm) : b_X12_item_229 YF fu 595 0 τ = some (0, τ) := by
  unfold b_X12_item_229
  rw [if_pos rfl]; rfl
theorem pm_229y {τ : Mm} {q : Nat} (hl : len ≤ 200) (hT : TM τ B len) (hp : Mm.gi τ 595 23 = nI q) (hq : q < 1000) : b_X12_item_229 YF fu 595 1 τ = some (if isq B len q 59 = true then 1 else 0, Mm.si τ 595 23 (nI (if isq B len q 59 = true then q + 1 else q))) := by
  unfold b_X12_item_229
  rw [if_neg t10, pm_skip hl hT hp hq 59, bnd_some]
  by_cases c : isq B len q 59 = true
  · rw [if_pos c, if_pos c, if_neg t10]; rfl
  · rw [if_neg c, if_neg c, if_pos rfl]; rfl
/-- the head of an item -/
def hdq (π : Mm) (p : Nat) : Mm := Mm.si π 595 23 (nI (p + 1))
theorem hdq_F : Fx CP π (hdq π p) := Fx.si ⟨rfl, Or.inl rfl⟩
theorem hdq_T (hT : TM π B len) : TM (hdq π p) B len := TM_c hT (by unfold hdq; rw [gi_n (by omega)]) (fun k => by unfold hdq; rw [gi_n (by omega)])
theorem hdq_p : Mm.gi (hdq π p) 595 23 = nI (p + 1) := by unfold hdq; rw [gi_s]
theorem hdq_o {o k : Nat} (h : ¬ (o = 595 ∧ k = 23)) : Mm.gi (hdq π p) o k = Mm.gi π o k := by unfold hdq; rw [gi_n h]
theorem pm_item_p (hl : len ≤ 200) (hT : TM π B len) (hp : Mm.gi π 595 23 = nI p) (hpl : p < len) (hc : B p = 112) (hit : it < 1000) (h25 : Mm.gi π 595 25 = nI it) (hfu : 20 < fu) : ∃ π', f_X12_item YF fu 595 π = some (if Rpp B len (p + 1) it = true then 1 else 0, π') ∧ Fx (fun a b => CP a b ∨ (a = 604 ∧ b = 4)) π π' ∧ (Rpp B len (p + 1) it = true → Mm.gi π' 595 23 = nI (nmP B len (p + 1) + 1) ∧ Mm.gi π' 604 4 = nmV B len (p + 1)) := by
  unfold f_X12_item
  rw [hp, if_pos (inb_y (by omega) (by omega)), lt_e, lt_e, ix_nI (by omega), hT.2 p hpl, hc, if_pos rfl, show nI p + 1 = nI (p + 1) from nI_add p 1]
  change ∃ π', (if Mm.gi (hdq π p) 595 25 = 0 then bnd (f_X12_number YF fu 595 100000 100000000 (hdq π p)) (fun (r_37 : Int32) (σ_36 : Mm) => if r_37 = 0 then b_X12_item_50 YF fu 595 σ_36 else b_X12_item_51 YF fu 595 1 σ_36) else b_X12_item_50 YF fu 595 (hdq π p)) = _ ∧ _
  rw [hdq_o (by omega), h25]
  have no : ∀ τ, b_X12_item_50 YF fu 595 τ = some (0, Mm.si τ 604 4 (Mm.gi τ 595 24)) := fun τ => by
    unfold b_X12_item_50 b_X12_item_51
    rw [if_pos inb4_5, lt_e, pm_229n, ix4]
  have F0 : Fx (fun a b => CP a b ∨ (a = 604 ∧ b = 4)) π (hdq π p) := hdq_F.mono (fun a b c => Or.inl c)
  by_cases c0 : it = 0
  · subst c0
    obtain ⟨τ, u1, u2, u3, u4⟩ := pm_number (lo := 100000) (hi := 100000000) hl (hdq_T (p := p) hT) hdq_p (by omega) hfu
    have hb := nmP_b B len (p + 1)
    rw [if_pos (show nI 0 = 0 from rfl), u1, bnd_some]
    have hR : Rpp B len (p + 1) 0 = (nmO B len (p + 1) 100000 100000000 && isq B len (nmP B len (p + 1)) 59) := rfl
    rw [hR]
    rw [show (100000 : Int32).toInt = 100000 from rfl, show (100000000 : Int32).toInt = 100000000 from rfl]
    have F1 : Fx (fun a b => CP a b ∨ (a = 604 ∧ b = 4)) π τ := F0.tr (u2.mono (fun a b c => Or.inl c))
    by_cases c1 : nmO B len (p + 1) 100000 100000000 = true
    · have hT2 : TM (Mm.si τ 604 4 (Mm.gi τ 595 24)) B len := TM_c (TM_c (hdq_T (p := p) hT) (u2.gi (by omega)) (fun k => u2.gi (by omega))) (by rw [gi_n (by omega)]) (fun k => by rw [gi_n (by omega)])
      rw [if_pos c1, if_neg t10, c1, Bool.true_and]
      unfold b_X12_item_51
      rw [if_pos inb4_5, lt_e, ix4, pm_229y hl hT2 (by rw [gi_n (by omega)]; exact u3) (by omega)]
      refine ⟨_, rfl, (F1.tr (Fx.si (Or.inr ⟨rfl, rfl⟩))).tr (Fx.si (Or.inl ⟨rfl, Or.inl rfl⟩)), fun h => ?_⟩
      rw [if_pos h]
      exact ⟨by rw [gi_s], by rw [gi_n (by omega), gi_s]; exact u4⟩
    · rw [if_neg c1, if_pos rfl, no]
      have hb : ¬ (nmO B len (p + 1) 100000 100000000 && isq B len (nmP B len (p + 1)) 59) = true := fun h => by rw [Bool.and_eq_true] at h; exact c1 h.1
      exact ⟨_, by rw [if_neg hb], F1.tr (Fx.si (Or.inr ⟨rfl, rfl⟩)), fun h => absurd h hb⟩
  · rw [if_neg (nI_ne0 (by omega) (by omega)), no]
    have hb : ¬ Rpp B len (p + 1) it = true := by unfold Rpp; rw [decide_eq_false c0]; simp
    exact ⟨_, by rw [if_neg hb], F0.tr (Fx.si (Or.inr ⟨rfl, rfl⟩)), fun h => absurd h hb⟩
theorem pm_item_z (hl : len ≤ 200) (hT : TM π B len) (hp : Mm.gi π 595 23 = nI p) (hpl : p < len) (hc : B p = 122) (hit : it < 1000) (h25 : Mm.gi π 595 25 = nI it) (hfu : 20 < fu) : ∃ π', f_X12_item YF fu 595 π = some (if Rzz B len (p + 1) it (Mm.gi π 595 26) = true then 1 else 0, π') ∧ Fx (fun a b => CP a b ∨ (a = 605 ∧ b = 4) ∨ (a = 595 ∧ b = 26)) π π' ∧ (Rzz B len (p + 1) it (Mm.gi π 595 26) = true → Mm.gi π' 595 23 = nI (nmP B len (p + 1) + 1) ∧ Mm.gi π' 605 4 = nmV B len (p + 1) ∧ Mm.gi π' 595 26 = 1) := by
  unfold f_X12_item
  rw [hp, if_pos (inb_y (by omega) (by omega)), lt_e, lt_e, ix_nI (by omega), hT.2 p hpl, hc, if_neg (by decide), if_pos rfl, show nI p + 1 = nI (p + 1) from nI_add p 1]
  change ∃ π', (if Mm.gi (hdq π p) 595 25 ≤ 0 then b_X12_item_99 YF fu 595 (hdq π p) else if Mm.gi (hdq π p) 595 26 = 0 then bnd (f_X12_number YF fu 595 0 1000000 (hdq π p)) (fun (r_30 : Int32) (σ_29 : Mm) => if r_30 = 0 then b_X12_item_99 YF fu 595 σ_29 else b_X12_item_100 YF fu 595 1 σ_29) else b_X12_item_99 YF fu 595 (hdq π p)) = _ ∧ _
  rw [hdq_o (by omega), hdq_o (by omega), h25]
  have no : ∀ τ, b_X12_item_99 YF fu 595 τ = some (0, Mm.si (Mm.si τ 605 4 (Mm.gi τ 595 24)) 595 26 1) := fun τ => by
    unfold b_X12_item_99 b_X12_item_100
    rw [if_pos inb4_5, lt_e, lt_e, pm_229n, ix4]
  have noF : ∀ τ, Fx (fun a b => CP a b ∨ (a = 605 ∧ b = 4) ∨ (a = 595 ∧ b = 26)) τ (Mm.si (Mm.si τ 605 4 (Mm.gi τ 595 24)) 595 26 1) := fun τ => (Fx.si (Or.inr (Or.inl ⟨rfl, rfl⟩))).tr (Fx.si (Or.inr (Or.inr ⟨rfl, rfl⟩)))
  have F0 : Fx (fun a b => CP a b ∨ (a = 605 ∧ b = 4) ∨ (a = 595 ∧ b = 26)) π (hdq π p) := hdq_F.mono (fun a b c => Or.inl c)
  generalize hf : Mm.gi π 595 26 = f
  by_cases c0 : it = 0
  · have hb : ¬ Rzz B len (p + 1) it f = true := by unfold Rzz; rw [decide_eq_false (by simp [c0])]; simp
    rw [if_pos (show nI it ≤ 0 from (i_le (b := 0) (by omega) (by omega)).mpr (by omega)), no]
    exact ⟨_, by rw [if_neg hb], F0.tr (noF _), fun h => absurd h hb⟩
  · rw [if_neg (nI_nle (by omega) (by omega))]
    by_cases c2 : f = 0
    · obtain ⟨τ, u1, u2, u3, u4⟩ := pm_number (lo := 0) (hi := 1000000) hl (hdq_T (p := p) hT) hdq_p (by omega) hfu
      have hb := nmP_b B len (p + 1)
      rw [if_pos c2, u1, bnd_some]
      have hR : Rzz B len (p + 1) it f = (nmO B len (p + 1) 0 1000000 && isq B len (nmP B len (p + 1)) 59) := by unfold Rzz; rw [decide_eq_true (show it ≠ 0 from c0), decide_eq_true c2]; rfl
      rw [hR]
      rw [show (0 : Int32).toInt = 0 from rfl, show (1000000 : Int32).toInt = 1000000 from rfl]
      have F1 : Fx (fun a b => CP a b ∨ (a = 605 ∧ b = 4) ∨ (a = 595 ∧ b = 26)) π τ := F0.tr (u2.mono (fun a b c => Or.inl c))
      by_cases c1 : nmO B len (p + 1) 0 1000000 = true
      · have hT2 : TM (Mm.si (Mm.si τ 605 4 (Mm.gi τ 595 24)) 595 26 1) B len := TM_c (TM_c (hdq_T (p := p) hT) (u2.gi (by omega)) (fun k => u2.gi (by omega))) (by rw [gi_n (by omega), gi_n (by omega)]) (fun k => by rw [gi_n (by omega), gi_n (by omega)])
        rw [if_pos c1, if_neg t10, c1, Bool.true_and]
        unfold b_X12_item_100
        rw [if_pos inb4_5, lt_e, lt_e, ix4, pm_229y hl hT2 (by rw [gi_n (by omega), gi_n (by omega)]; exact u3) (by omega)]
        refine ⟨_, rfl, (F1.tr (noF τ)).tr (Fx.si (Or.inl ⟨rfl, Or.inl rfl⟩)), fun h => ?_⟩
        rw [if_pos h]
        exact ⟨by rw [gi_s], by rw [gi_n (by omega), gi_n (by omega), gi_s]; exact u4, by rw [gi_n (by omega), gi_s]⟩
      · rw [if_neg c1, if_pos rfl, no]
        have hb : ¬ (nmO B len (p + 1) 0 1000000 && isq B len (nmP B len (p + 1)) 59) = true := fun h => by rw [Bool.and_eq_true] at h; exact c1 h.1
        exact ⟨_, by rw [if_neg hb], F1.tr (noF τ), fun h => absurd h hb⟩
    · have hb : ¬ Rzz B len (p + 1) it f = true := by unfold Rzz; rw [decide_eq_false c2]; simp
      rw [if_neg c2, no]
      exact ⟨_, by rw [if_neg hb], F0.tr (noF _), fun h => absurd h hb⟩
theorem pm_item_d (hl : len ≤ 200) (hT : TM π B len) (hp : Mm.gi π 595 23 = nI p) (hpl : p < len) (hc : B p = 100) (hit : it < 1000) (h25 : Mm.gi π 595 25 = nI it) (hfu : 20 < fu) : ∃ π', f_X12_item YF fu 595 π = some (if Rdd B len (p + 1) it (Mm.gi π 595 27) = true then 1 else 0, π') ∧ Fx (fun a b => CP a b ∨ (a = 606 ∧ b = 4) ∨ (a = 595 ∧ b = 27)) π π' ∧ (Rdd B len (p + 1) it (Mm.gi π 595 27) = true → Mm.gi π' 595 23 = nI (nmP B len (p + 1) + 1) ∧ Mm.gi π' 606 4 = nmV B len (p + 1) ∧ Mm.gi π' 595 27 = 1) := by
  unfold f_X12_item
  rw [hp, if_pos (inb_y (by omega) (by omega)), lt_e, lt_e, ix_nI (by omega), hT.2 p hpl, hc, if_neg (by decide), if_neg (by decide), if_pos rfl, show nI p + 1 = nI (p + 1) from nI_add p 1]
  change ∃ π', (if Mm.gi (hdq π p) 595 25 ≤ 0 then b_X12_item_154 YF fu 595 (hdq π p) else if Mm.gi (hdq π p) 595 27 = 0 then bnd (f_X12_number YF fu 595 (-100000) 100000 (hdq π p)) (fun (r_22 : Int32) (σ_21 : Mm) => if r_22 = 0 then b_X12_item_154 YF fu 595 σ_21 else b_X12_item_155 YF fu 595 1 σ_21) else b_X12_item_154 YF fu 595 (hdq π p)) = _ ∧ _
  rw [hdq_o (by omega), hdq_o (by omega), h25]
  have no : ∀ τ, b_X12_item_154 YF fu 595 τ = some (0, Mm.si (Mm.si τ 606 4 (Mm.gi τ 595 24)) 595 27 1) := fun τ => by
    unfold b_X12_item_154 b_X12_item_155
    rw [if_pos inb4_5, lt_e, lt_e, pm_229n, ix4]
  have noF : ∀ τ, Fx (fun a b => CP a b ∨ (a = 606 ∧ b = 4) ∨ (a = 595 ∧ b = 27)) τ (Mm.si (Mm.si τ 606 4 (Mm.gi τ 595 24)) 595 27 1) := fun τ => (Fx.si (Or.inr (Or.inl ⟨rfl, rfl⟩))).tr (Fx.si (Or.inr (Or.inr ⟨rfl, rfl⟩)))
  have F0 : Fx (fun a b => CP a b ∨ (a = 606 ∧ b = 4) ∨ (a = 595 ∧ b = 27)) π (hdq π p) := hdq_F.mono (fun a b c => Or.inl c)
  generalize hf : Mm.gi π 595 27 = f
  by_cases c0 : it = 0
  · have hb : ¬ Rdd B len (p + 1) it f = true := by unfold Rdd; rw [decide_eq_false (by simp [c0])]; simp
    rw [if_pos (show nI it ≤ 0 from (i_le (b := 0) (by omega) (by omega)).mpr (by omega)), no]
    exact ⟨_, by rw [if_neg hb], F0.tr (noF _), fun h => absurd h hb⟩
  · rw [if_neg (nI_nle (by omega) (by omega))]
    by_cases c2 : f = 0
    · obtain ⟨τ, u1, u2, u3, u4⟩ := pm_number (lo := -100000) (hi := 100000) hl (hdq_T (p := p) hT) hdq_p (by omega) hfu
      have hb := nmP_b B len (p + 1)
      rw [if_pos c2, u1, bnd_some]
      have hR : Rdd B len (p + 1) it f = (nmO B len (p + 1) (-100000) 100000 && isq B len (nmP B len (p + 1)) 59) := by unfold Rdd; rw [decide_eq_true (show it ≠ 0 from c0), decide_eq_true c2]; rfl
      rw [hR]
      rw [show (-100000 : Int32).toInt = -100000 from rfl, show (100000 : Int32).toInt = 100000 from rfl]
      have F1 : Fx (fun a b => CP a b ∨ (a = 606 ∧ b = 4) ∨ (a = 595 ∧ b = 27)) π τ := F0.tr (u2.mono (fun a b c => Or.inl c))
      by_cases c1 : nmO B len (p + 1) (-100000) 100000 = true
      · have hT2 : TM (Mm.si (Mm.si τ 606 4 (Mm.gi τ 595 24)) 595 27 1) B len := TM_c (TM_c (hdq_T (p := p) hT) (u2.gi (by omega)) (fun k => u2.gi (by omega))) (by rw [gi_n (by omega), gi_n (by omega)]) (fun k => by rw [gi_n (by omega), gi_n (by omega)])
        rw [if_pos c1, if_neg t10, c1, Bool.true_and]
        unfold b_X12_item_155
        rw [if_pos inb4_5, lt_e, lt_e, ix4, pm_229y hl hT2 (by rw [gi_n (by omega), gi_n (by omega)]; exact u3) (by omega)]
        refine ⟨_, rfl, (F1.tr (noF τ)).tr (Fx.si (Or.inl ⟨rfl, Or.inl rfl⟩)), fun h => ?_⟩
        rw [if_pos h]
        exact ⟨by rw [gi_s], by rw [gi_n (by omega), gi_n (by omega), gi_s]; exact u4, by rw [gi_n (by omega), gi_s]⟩
      · rw [if_neg c1, if_pos rfl, no]
        have hb : ¬ (nmO B len (p + 1) (-100000) 100000 && isq B len (nmP B len (p + 1)) 59) = true := fun h => by rw [Bool.and_eq_true] at h; exact c1 h.1
        exact ⟨_, by rw [if_neg hb], F1.tr (noF τ), fun h => absurd h hb⟩
    · have hb : ¬ Rdd B len (p + 1) it f = true := by unfold Rdd; rw [decide_eq_false c2]; simp
      rw [if_neg c2, no]
      exact ⟨_, by rw [if_neg hb], F0.tr (noF _), fun h => absurd h hb⟩
/-- a slip's numbers -/
def Sss (B : Nat → Int32) (len p ns : Nat) : Bool := decide (ns < 3) && (nmO B len p 0 1000000 && (isq B len (nmP B len p) 44 && nmO B len (nmP B len p + 1) (-50000) 50000))
def C8 (ns a b : Nat) : Prop := CP a b ∨ ((a = 608 ∨ a = 609) ∧ b = 12 + ns) ∨ (a = 607 ∧ b = 4)
theorem pm_slipItem {ns : Nat} (hl : len ≤ 200) (hT : TM π B len) (hp : Mm.gi π 595 23 = nI p) (hpl : p ≤ len) (hns : ns ≤ 3) (h7 : Mm.gi π 607 4 = nI ns) (hfu : 20 < fu) : ∃ π', f_X12_slipItem YF fu 595 π = some (if Sss B len p ns = true then 1 else 0, π') ∧ Fx (C8 ns) π π' ∧ (Sss B len p ns = true → Mm.gi π' 595 23 = nI (nmP B len (nmP B len p + 1)) ∧ nmP B len (nmP B len p + 1) ≤ len ∧ Mm.gi π' 607 4 = nI (ns + 1) ∧ Mm.gi π' 608 (12 + ns) = nmV B len p ∧ Mm.gi π' 609 (12 + ns) = nmV B len (nmP B len p + 1)) := by
  unfold f_X12_slipItem Sss
  rw [if_pos inb4_5, ix4, h7]
  by_cases c0 : ns < 3
  · obtain ⟨τ1, u1, u2, u3, u4⟩ := pm_number (lo := 0) (hi := 1000000) hl hT hp (by omega) hfu
    have hb1 := nmP_b B len p
    rw [if_neg (fun q => by have := (i_eq (b := 3) (by omega) (by omega)).mp q; omega), u1, bnd_some, decide_eq_true c0, Bool.true_and]
    rw [show (0 : Int32).toInt = 0 from rfl, show (1000000 : Int32).toInt = 1000000 from rfl]
    have F1 : Fx (C8 ns) π τ1 := u2.mono (fun a b c => Or.inl c)
    by_cases c1 : nmO B len p 0 1000000 = true
    · have g7 : Mm.gi τ1 607 4 = nI ns := by rw [u2.gi (by omega)]; exact h7
      rw [if_pos c1, if_neg t10, if_pos inb4_5, g7, show (12 : Int32) + nI ns = nI (12 + ns) from nI_add 12 ns, if_pos (inb_y (by omega) (by omega)), lt_e, ix_nI (by omega), c1, Bool.true_and]
      generalize hτ2 : Mm.si τ1 608 (12 + ns) (Mm.gi τ1 595 24) = τ2
      have F2 : Fx (C8 ns) π τ2 := by rw [← hτ2]; exact F1.tr (Fx.si (Or.inr (Or.inl ⟨Or.inl rfl, rfl⟩)))
      have hT2 : TM τ2 B len := by rw [← hτ2]; exact TM_c (TM_c hT (u2.gi (by omega)) (fun k => u2.gi (by omega))) (by rw [gi_n (by omega)]) (fun k => by rw [gi_n (by omega)])
      have h8 : Mm.gi τ2 608 (12 + ns) = nmV B len p := by rw [← hτ2, gi_s]; exact u4
      rw [pm_skip hl hT2 (show Mm.gi τ2 595 23 = nI (nmP B len p) by rw [← hτ2, gi_n (by omega)]; exact u3) (by omega) 44, bnd_some]
      by_cases c2 : isq B len (nmP B len p) 44 = true
      · have h1 := (isq_lt c2).1
        rw [if_pos c2, if_neg t10, if_pos c2]
        generalize hτ3 : Mm.si τ2 595 23 (nI (nmP B len p + 1)) = τ3
        have F3 : Fx (C8 ns) π τ3 := by rw [← hτ3]; exact F2.tr (Fx.si (Or.inl ⟨rfl, Or.inl rfl⟩))
        have hT3 : TM τ3 B len := by rw [← hτ3]; exact TM_c hT2 (by rw [gi_n (by omega)]) (fun k => by rw [gi_n (by omega)])
        obtain ⟨τ4, w1, w2, w3, w4⟩ := pm_number (lo := -50000) (hi := 50000) hl hT3 (show Mm.gi τ3 595 23 = nI (nmP B len p + 1) by rw [← hτ3, gi_s]) (by omega) hfu
        have hb2 := nmP_b B len (nmP B len p + 1)
        rw [w1, bnd_some, c2, Bool.true_and]
        rw [show (-50000 : Int32).toInt = -50000 from rfl, show (50000 : Int32).toInt = 50000 from rfl]
        have F4 : Fx (C8 ns) π τ4 := F3.tr (w2.mono (fun a b c => Or.inl c))
        by_cases c3 : nmO B len (nmP B len p + 1) (-50000) 50000 = true
        · have k7 : Mm.gi τ4 607 4 = nI ns := by rw [w2.gi (by omega), ← hτ3, gi_n (by omega), ← hτ2, gi_n (by omega)]; exact g7
          have k8 : Mm.gi τ4 608 (12 + ns) = nmV B len p := by rw [w2.gi (by omega), ← hτ3, gi_n (by omega)]; exact h8
          rw [if_pos c3, if_neg t10, if_pos inb4_5, k7, show (12 : Int32) + nI ns = nI (12 + ns) from nI_add 12 ns, if_pos (inb_y (by omega) (by omega)), lt_e, ix_nI (by omega), if_pos inb4_5, if_pos inb4_5, lt_e, gi_n (by omega), k7, show nI ns + 1 = nI (ns + 1) from nI_add ns 1]
          exact ⟨_, rfl, (F4.tr (Fx.si (Or.inr (Or.inl ⟨Or.inr rfl, rfl⟩)))).tr (Fx.si (Or.inr (Or.inr ⟨rfl, rfl⟩))), fun _ => ⟨by rw [gi_n (by omega), gi_n (by omega)]; exact w3, by omega, by rw [gi_s], by rw [gi_n (by omega), gi_n (by omega)]; exact k8, by rw [gi_n (by omega), gi_s]; exact w4⟩⟩
        · rw [if_neg c3, if_pos rfl]
          exact ⟨τ4, rfl, F4, fun h => absurd h c3⟩
      · rw [if_neg c2, if_pos rfl, if_neg c2]
        have hb : ¬ (isq B len (nmP B len p) 44 && nmO B len (nmP B len p + 1) (-50000) 50000) = true := fun h => by rw [Bool.and_eq_true] at h; exact c2 h.1
        exact ⟨_, by rw [if_neg hb]; rfl, F2.tr (Fx.si (Or.inl ⟨rfl, Or.inl rfl⟩)), fun h => absurd h hb⟩
    · rw [if_neg c1, if_pos rfl]
      have hb : ¬ (nmO B len p 0 1000000 && (isq B len (nmP B len p) 44 && nmO B len (nmP B len p + 1) (-50000) 50000)) = true := fun h => by rw [Bool.and_eq_true] at h; exact c1 h.1
      exact ⟨τ1, by rw [if_neg hb]; rfl, F1, fun h => absurd h hb⟩
  · have e3 : ns = 3 := by omega
    subst e3
    rw [if_pos (by decide)]
    exact ⟨π, rfl, Fx.rf, fun h => absurd h (by simp)⟩
theorem pm_item_s {ns : Nat} (hl : len ≤ 200) (hT : TM π B len) (hp : Mm.gi π 595 23 = nI p) (hpl : p < len) (hc : B p = 115) (hit : it < 1000) (h25 : Mm.gi π 595 25 = nI it) (hns : ns ≤ 3) (h7 : Mm.gi π 607 4 = nI ns) (hfu : 20 < fu) : ∃ π', f_X12_item YF fu 595 π = some (if Rss B len (p + 1) it ns = true then 1 else 0, π') ∧ Fx (C8 ns) π π' ∧ (Rss B len (p + 1) it ns = true → Mm.gi π' 595 23 = nI (nmP B len (nmP B len (p + 1) + 1) + 1) ∧ Mm.gi π' 607 4 = nI (ns + 1) ∧ Mm.gi π' 608 (12 + ns) = nmV B len (p + 1) ∧ Mm.gi π' 609 (12 + ns) = nmV B len (nmP B len (p + 1) + 1)) := by
  unfold f_X12_item
  rw [hp, if_pos (inb_y (by omega) (by omega)), lt_e, lt_e, ix_nI (by omega), hT.2 p hpl, hc, if_neg (by decide), if_neg (by decide), if_neg (by decide), if_pos rfl, show nI p + 1 = nI (p + 1) from nI_add p 1]
  change ∃ π', (if Mm.gi (hdq π p) 595 25 ≤ 0 then b_X12_item_198 YF fu 595 (hdq π p) else bnd (f_X12_slipItem YF fu 595 (hdq π p)) (fun (r_14 : Int32) (σ_13 : Mm) => if r_14 = 0 then b_X12_item_198 YF fu 595 σ_13 else b_X12_item_199 YF fu 595 1 σ_13)) = _ ∧ _
  rw [hdq_o (by omega), h25]
  have no : ∀ τ, b_X12_item_198 YF fu 595 τ = some (0, τ) := fun τ => pm_229n (fu := fu) τ
  have F0 : Fx (C8 ns) π (hdq π p) := hdq_F.mono (fun a b c => Or.inl c)
  have hR : Rss B len (p + 1) it ns = (decide (it ≠ 0) && (Sss B len (p + 1) ns && isq B len (nmP B len (nmP B len (p + 1) + 1)) 59)) := by
    unfold Rss Sss
    simp only [Bool.and_assoc]
  rw [hR]
  by_cases c0 : it = 0
  · have hb : ¬ (decide (it ≠ 0) && (Sss B len (p + 1) ns && isq B len (nmP B len (nmP B len (p + 1) + 1)) 59)) = true := by rw [decide_eq_false (by simp [c0])]; simp
    rw [if_pos (show nI it ≤ 0 from (i_le (b := 0) (by omega) (by omega)).mpr (by omega)), no]
    exact ⟨_, by rw [if_neg hb], F0, fun h => absurd h hb⟩
  · obtain ⟨τ, u1, u2, u3⟩ := pm_slipItem (π := hdq π p) (p := p + 1) (ns := ns) hl (hdq_T hT) hdq_p (by omega) hns (by rw [hdq_o (by omega)]; exact h7) hfu
    rw [if_neg (nI_nle (by omega) (by omega)), u1, bnd_some, decide_eq_true (show it ≠ 0 from c0), Bool.true_and]
    by_cases c1 : Sss B len (p + 1) ns = true
    · obtain ⟨x1, x2, x3, x4, x5⟩ := u3 c1
      rw [if_pos c1, if_neg t10, c1, Bool.true_and]
      unfold b_X12_item_199
      rw [pm_229y hl (TM_c (hdq_T (p := p) hT) (u2.gi (by unfold C8 CP; omega)) (fun k => u2.gi (by unfold C8 CP; omega))) x1 (by omega)]
      refine ⟨_, rfl, (F0.tr u2).tr (Fx.si (Or.inl ⟨rfl, Or.inl rfl⟩)), fun h => ?_⟩
      rw [if_pos h]
      exact ⟨by rw [gi_s], by rw [gi_n (by omega)]; exact x3, by rw [gi_n (by omega)]; exact x4, by rw [gi_n (by omega)]; exact x5⟩
    · rw [if_neg c1, if_pos rfl, no]
      have hb : ¬ (Sss B len (p + 1) ns && isq B len (nmP B len (nmP B len (p + 1) + 1)) 59) = true := fun h => by rw [Bool.and_eq_true] at h; exact c1 h.1
      exact ⟨τ, by rw [if_neg hb], F0.tr u2, fun h => absurd h hb⟩
def C9 (nc a b : Nat) : Prop := CP a b ∨ (a = 611 ∧ b = 8 + nc) ∨ (a = 612 ∧ 4 * (8 + nc) ≤ b) ∨ (a = 610 ∧ b = 4)
theorem pm_friendItem {nc : Nat} (hl : len ≤ 200) (hT : TM π B len) (hp : Mm.gi π 595 23 = nI p) (hpl : p ≤ len) (hnc : nc ≤ 2) (h10 : Mm.gi π 610 4 = nI nc) (hfu : 20 < fu) : ∃ π', f_X12_friendItem YF fu 595 π = some (if (decide (nc < 2) && okc B len p 4) = true then 1 else 0, π') ∧ Fx (C9 nc) π π' ∧ ((decide (nc < 2) && okc B len p 4) = true → Mm.gi π' 595 23 = nI (nmP B len (plp B len p 4)) ∧ nmP B len (plp B len p 4) ≤ len ∧ Mm.gi π' 610 4 = nI (nc + 1) ∧ Mm.gi π' 611 (8 + nc) = nmV B len p ∧ ∀ q, q < 4 → Mm.gi π' 612 (4 * (8 + nc) + q) = nmV B len (plp B len p (q + 1))) := by
  unfold f_X12_friendItem
  rw [if_pos inb4_5, ix4, h10]
  by_cases c0 : nc < 2
  · obtain ⟨τ1, u1, u2, u3, u4⟩ := pm_number (lo := 4) (hi := 1000) hl hT hp (by omega) hfu
    have hb1 := nmP_b B len p
    rw [if_neg (fun q => by have := (i_eq (b := 2) (by omega) (by omega)).mp q; omega), u1, bnd_some, decide_eq_true c0, Bool.true_and]
    rw [show (4 : Int32).toInt = 4 from rfl, show (1000 : Int32).toInt = 1000 from rfl]
    have F1 : Fx (C9 nc) π τ1 := u2.mono (fun a b c => Or.inl c)
    by_cases c1 : nmO B len p 4 1000 = true
    · have g7 : Mm.gi τ1 610 4 = nI nc := by rw [u2.gi (by omega)]; exact h10
      rw [if_pos c1, if_neg t10, if_pos inb4_5, g7, show (8 : Int32) + nI nc = nI (8 + nc) from nI_add 8 nc, lt_e, if_pos (inb_y (by omega) (by omega)), lt_e, ix_nI (by omega)]
      generalize hτ2 : Mm.si τ1 611 (8 + nc) (Mm.gi τ1 595 24) = τ2
      have F2 : Fx (C9 nc) π τ2 := by rw [← hτ2]; exact F1.tr (Fx.si (Or.inr (Or.inl ⟨rfl, rfl⟩)))
      exact lp_ind (f := s_X12_friendItem_45 YF fu 595) (a := fun _ _ _ => none) (fun d K => ∀ q τ, q + d = 4 → okc B len p q = true → plp B len p q ≤ len → Fx (C9 nc) π τ → Mm.gi τ 595 23 = nI (nmP B len (plp B len p q)) → Mm.gi τ 610 4 = nI nc → Mm.gi τ 611 (8 + nc) = nmV B len p → (∀ i, i < q → Mm.gi τ 612 (4 * (8 + nc) + i) = nmV B len (plp B len p (i + 1))) → ∃ π', K (nI (8 + nc)) (nI q) τ = some (if okc B len p 4 = true then 1 else 0, π') ∧ Fx (C9 nc) π π' ∧ (okc B len p 4 = true → Mm.gi π' 595 23 = nI (nmP B len (plp B len p 4)) ∧ nmP B len (plp B len p 4) ≤ len ∧ Mm.gi π' 610 4 = nI (nc + 1) ∧ Mm.gi π' 611 (8 + nc) = nmV B len p ∧ ∀ q, q < 4 → Mm.gi π' 612 (4 * (8 + nc) + q) = nmV B len (plp B len p (q + 1)))) (by
        intro d K ih q τ hq hok hpq hF h23 h10 h11 hd
        have hb2 := nmP_b B len (plp B len p q)
        unfold s_X12_friendItem_45
        by_cases h : q = 4
        · subst h
          rw [if_pos (by decide), if_pos inb4_5, if_pos inb4_5, lt_e, ix4, h10, show nI nc + 1 = nI (nc + 1) from nI_add nc 1, if_pos hok]
          exact ⟨_, rfl, hF.tr (Fx.si (Or.inr (Or.inr (Or.inr ⟨rfl, rfl⟩)))), fun _ => ⟨by rw [gi_n (by omega)]; exact h23, by omega, by rw [gi_s], by rw [gi_n (by omega)]; exact h11, fun i hi => by rw [gi_n (by omega)]; exact hd i hi⟩⟩
        · have hTτ : TM τ B len := TM_c hT (hF.gi (by unfold C9 CP; omega)) (fun k => hF.gi (by unfold C9 CP; omega))
          have es := okc_s B len p q
          rw [hok, Bool.true_and] at es
          have bad : ¬ okc B len p (q + 1) = true → ¬ okc B len p 4 = true := fun h1 h2 => h1 (okc_m (by omega) h2)
          rw [if_neg (show ¬ (4 : Int32) ≤ nI q from i_nle (a := 4) (by omega) (by omega) (by omega)), pm_skip hl hTτ h23 (by omega) 44, bnd_some]
          by_cases c2 : isq B len (nmP B len (plp B len p q)) 44 = true
          · have h1 := (isq_lt c2).1
            rw [if_pos c2, if_neg t10, if_pos c2]
            generalize hτ3 : Mm.si τ 595 23 (nI (nmP B len (plp B len p q) + 1)) = τ3
            have F3 : Fx (C9 nc) π τ3 := by rw [← hτ3]; exact hF.tr (Fx.si (Or.inl ⟨rfl, Or.inl rfl⟩))
            have hT3 : TM τ3 B len := by rw [← hτ3]; exact TM_c hTτ (by rw [gi_n (by omega)]) (fun k => by rw [gi_n (by omega)])
            have ep : plp B len p (q + 1) = nmP B len (plp B len p q) + 1 := rfl
            obtain ⟨τ4, w1, w2, w3, w4⟩ := pm_number (lo := -50000) (hi := 50000) hl hT3 (show Mm.gi τ3 595 23 = nI (plp B len p (q + 1)) by rw [← hτ3, gi_s, ep]) (by omega) hfu
            rw [w1, bnd_some]
            rw [c2, Bool.true_and] at es
            rw [show (-50000 : Int32).toInt = -50000 from rfl, show (50000 : Int32).toInt = 50000 from rfl]
            have F4 : Fx (C9 nc) π τ4 := F3.tr (w2.mono (fun a b c => Or.inl c))
            have k10 : Mm.gi τ4 610 4 = nI nc := by rw [w2.gi (by omega), ← hτ3, gi_n (by omega)]; exact h10
            have k11 : Mm.gi τ4 611 (8 + nc) = nmV B len p := by rw [w2.gi (by omega), ← hτ3, gi_n (by omega)]; exact h11
            have k12 : ∀ i, i < q → Mm.gi τ4 612 (4 * (8 + nc) + i) = nmV B len (plp B len p (i + 1)) := fun i hi => by rw [w2.gi (by omega), ← hτ3, gi_n (by omega)]; exact hd i hi
            by_cases c3 : nmO B len (plp B len p (q + 1)) (-50000) 50000 = true
            · rw [if_pos c3, if_neg t10, i_lit 4, i_mul, nI_add, if_pos (inb_y (by omega) (by omega)), lt_e, lt_e, ix_nI (by omega), show nI q + 1 = nI (q + 1) from nI_add q 1]
              refine ih (d - 1) (by omega) (q + 1) _ (by omega) (by rw [es]; exact c3) (by omega) (F4.tr (Fx.si (Or.inr (Or.inr (Or.inl ⟨rfl, by omega⟩))))) (by rw [gi_n (by omega)]; exact w3) (by rw [gi_n (by omega)]; exact k10) (by rw [gi_n (by omega)]; exact k11) (fun i hi => ?_)
              by_cases e : i = q
              · subst e; rw [gi_s]; exact w4
              · rw [gi_n (by omega)]; exact k12 i (by omega)
            · have hb := bad (by rw [es]; exact c3)
              rw [if_neg c3, if_pos rfl]
              exact ⟨τ4, by rw [if_neg hb]; rfl, F4, fun h => absurd h hb⟩
          · have hb := bad (by rw [es, Bool.and_eq_true]; exact fun h => c2 h.1)
            rw [if_neg c2, if_pos rfl, if_neg c2]
            exact ⟨_, by rw [if_neg hb]; rfl, hF.tr (Fx.si (Or.inl ⟨rfl, Or.inl rfl⟩)), fun h => absurd h hb⟩) fu 4 (by omega) 0 τ2 (by omega) c1 hpl F2 (by rw [← hτ2, gi_n (by omega)]; exact u3) (by rw [← hτ2, gi_n (by omega)]; exact g7) (by rw [← hτ2, gi_s]; exact u4) (fun i hi => by omega)
    · have hb : ¬ okc B len p 4 = true := fun h => c1 (okc_m (i := 0) (by omega) h)
      rw [if_neg c1, if_pos rfl]
      exact ⟨τ1, by rw [if_neg hb]; rfl, F1, fun h => absurd h hb⟩
  · have e3 : nc = 2 := by omega
    subst e3
    rw [if_pos (by decide)]
    exact ⟨π, rfl, Fx.rf, fun h => absurd h (by simp)⟩
theorem pm_item_c {nc : Nat} (hl : len ≤ 200) (hT : TM π B len) (hp : Mm.gi π 595 23 = nI p) (hpl : p < len) (hc : B p = 99) (hit : it < 1000) (h25 : Mm.gi π 595 25 = nI it) (hnc : nc ≤ 2) (h10 : Mm.gi π 610 4 = nI nc) (hfu : 20 < fu) : ∃ π', f_X12_item YF fu 595 π = some (if Rcc B len (p + 1) it nc = true then 1 else 0, π') ∧ Fx (C9 nc) π π' ∧ (Rcc B len (p + 1) it nc = true → Mm.gi π' 595 23 = nI (nmP B len (plp B len (p + 1) 4) + 1) ∧ Mm.gi π' 610 4 = nI (nc + 1) ∧ Mm.gi π' 611 (8 + nc) = nmV B len (p + 1) ∧ ∀ q, q < 4 → Mm.gi π' 612 (4 * (8 + nc) + q) = nmV B len (plp B len (p + 1) (q + 1))) := by
  unfold f_X12_item
  rw [hp, if_pos (inb_y (by omega) (by omega)), lt_e, lt_e, ix_nI (by omega), hT.2 p hpl, hc, if_neg (by decide), if_neg (by decide), if_neg (by decide), if_neg (by decide), if_pos rfl, show nI p + 1 = nI (p + 1) from nI_add p 1]
  change ∃ π', (if Mm.gi (hdq π p) 595 25 ≤ 0 then b_X12_item_227 YF fu 595 (hdq π p) else bnd (f_X12_friendItem YF fu 595 (hdq π p)) (fun (r_11 : Int32) (σ_10 : Mm) => if r_11 = 0 then b_X12_item_227 YF fu 595 σ_10 else b_X12_item_228 YF fu 595 1 σ_10)) = _ ∧ _
  rw [hdq_o (by omega), h25]
  have no : ∀ τ, b_X12_item_227 YF fu 595 τ = some (0, τ) := fun τ => pm_229n (fu := fu) τ
  have F0 : Fx (C9 nc) π (hdq π p) := hdq_F.mono (fun a b c => Or.inl c)
  have hR : Rcc B len (p + 1) it nc = (decide (it ≠ 0) && ((decide (nc < 2) && okc B len (p + 1) 4) && isq B len (nmP B len (plp B len (p + 1) 4)) 59)) := by
    unfold Rcc
    simp only [Bool.and_assoc]
  rw [hR]
  by_cases c0 : it = 0
  · have hb : ¬ (decide (it ≠ 0) && ((decide (nc < 2) && okc B len (p + 1) 4) && isq B len (nmP B len (plp B len (p + 1) 4)) 59)) = true := by rw [decide_eq_false (by simp [c0])]; simp
    rw [if_pos (show nI it ≤ 0 from (i_le (b := 0) (by omega) (by omega)).mpr (by omega)), no]
    exact ⟨_, by rw [if_neg hb], F0, fun h => absurd h hb⟩
  · obtain ⟨τ, u1, u2, u3⟩ := pm_friendItem (π := hdq π p) (p := p + 1) (nc := nc) hl (hdq_T hT) hdq_p (by omega) hnc (by rw [hdq_o (by omega)]; exact h10) hfu
    rw [if_neg (nI_nle (by omega) (by omega)), u1, bnd_some, decide_eq_true (show it ≠ 0 from c0), Bool.true_and]
    by_cases c1 : (decide (nc < 2) && okc B len (p + 1) 4) = true
    · obtain ⟨x1, x2, x3, x4, x5⟩ := u3 c1
      rw [if_pos c1, if_neg t10, c1, Bool.true_and]
      unfold b_X12_item_228
      rw [pm_229y hl (TM_c (hdq_T (p := p) hT) (u2.gi (by unfold C9 CP; omega)) (fun k => u2.gi (by unfold C9 CP; omega))) x1 (by omega)]
      refine ⟨_, rfl, (F0.tr u2).tr (Fx.si (Or.inl ⟨rfl, Or.inl rfl⟩)), fun h => ?_⟩
      rw [if_pos h]
      exact ⟨by rw [gi_s], by rw [gi_n (by omega)]; exact x3, by rw [gi_n (by omega)]; exact x4, fun q hq => by rw [gi_n (by omega)]; exact x5 q hq⟩
    · rw [if_neg c1, if_pos rfl, no]
      have hb : ¬ ((decide (nc < 2) && okc B len (p + 1) 4) && isq B len (nmP B len (plp B len (p + 1) 4)) 59) = true := fun h => by rw [Bool.and_eq_true] at h; exact c1 h.1
      exact ⟨τ, by rw [if_neg hb], F0.tr u2, fun h => absurd h hb⟩
theorem pm_item_o (hl : len ≤ 200) (hT : TM π B len) (hp : Mm.gi π 595 23 = nI p) (hpl : p < len) (h1 : ¬ B p = 99) (h2 : ¬ B p = 100) (h3 : ¬ B p = 112) (h4 : ¬ B p = 115) (h5 : ¬ B p = 122) : f_X12_item YF fu 595 π = some (0, hdq π p) := by
  unfold f_X12_item
  rw [hp, if_pos (inb_y (by omega) (by omega)), lt_e, lt_e, ix_nI (by omega), hT.2 p hpl, if_neg h3, if_neg h5, if_neg h2, if_neg h4, if_neg h1, show nI p + 1 = nI (p + 1) from nI_add p 1]
  exact pm_229n _
end IM
