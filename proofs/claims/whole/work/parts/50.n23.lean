/-! items: accepted alike -/
def Rpp (B : Nat → Int32) (len p it : Nat) : Bool := decide (it = 0) && (nmO B len p 100000 100000000 && isq B len (nmP B len p) 59)
def Rzz (B : Nat → Int32) (len p it : Nat) (f : Int32) : Bool := decide (it ≠ 0) && (decide (f = 0) && (nmO B len p 0 1000000 && isq B len (nmP B len p) 59))
def Rdd (B : Nat → Int32) (len p it : Nat) (f : Int32) : Bool := decide (it ≠ 0) && (decide (f = 0) && (nmO B len p (-100000) 100000 && isq B len (nmP B len p) 59))
def Rss (B : Nat → Int32) (len p it ns : Nat) : Bool := decide (it ≠ 0) && (decide (ns < 3) && (nmO B len p 0 1000000 && (isq B len (nmP B len p) 44 && (nmO B len (nmP B len p + 1) (-50000) 50000 && isq B len (nmP B len (nmP B len p + 1)) 59))))
def okc (B : Nat → Int32) (len p : Nat) : Nat → Bool
  | 0 => nmO B len p 4 1000
  | q + 1 => okc B len p q && (isq B len (nmP B len (plp B len p q)) 44 && nmO B len (plp B len p (q + 1)) (-50000) 50000)
theorem okc_s (B : Nat → Int32) (len p q : Nat) : okc B len p (q + 1) = (okc B len p q && (isq B len (nmP B len (plp B len p q)) 44 && nmO B len (plp B len p (q + 1)) (-50000) 50000)) := rfl
theorem okc_m {B : Nat → Int32} {len p i j : Nat} (h : i ≤ j) (hj : okc B len p j = true) : okc B len p i = true := by
  induction j with
  | zero => have : i = 0 := by omega
            subst this; exact hj
  | succ j ih =>
    by_cases e : i = j + 1
    · subst e; exact hj
    · rw [okc_s, Bool.and_eq_true] at hj
      exact ih (by omega) hj.1
def Rcc (B : Nat → Int32) (len p it nc : Nat) : Bool := decide (it ≠ 0) && (decide (nc < 2) && (okc B len p 4 && isq B len (nmP B len (plp B len p 4)) 59))
theorem syq1 (B : Nat → Int32) (len p : Nat) : syq B len p 1 1 = (nmK B len p && isq B len (nmP B len p) 59) := by
  rw [syq_s]
  show (true && (nmK B len p && isq B len (nmP B len p) 59)) = _
  rw [Bool.true_and]
theorem syq2 (B : Nat → Int32) (len p : Nat) : syq B len p 2 2 = ((nmK B len p && isq B len (nmP B len p) 44) && (nmK B len (nmP B len p + 1) && isq B len (nmP B len (nmP B len p + 1)) 59)) := by
  rw [syq_s, syq_s]
  show ((true && (nmK B len p && isq B len (nmP B len p) 44)) && (nmK B len (nmP B len p + 1) && isq B len (nmP B len (nmP B len p + 1)) 59)) = _
  rw [Bool.true_and]
theorem nmO_e (B : Nat → Int32) (len p : Nat) (lo hi : Int) : nmO B len p lo hi = (nmK B len p && inq (nmV B len p) lo hi) := rfl
section IC
variable {ρ π : Mm} {B : Nat → Int32} {len p fu md it : Nat}
theorem px_item_p (hm : isM md) (hit : it < 1000) (hl : len ≤ 200) (hT : TX ρ B len) (hp : Mm.gi ρ 9 2 = nI p) (hpl : p < len) (hc : B p = 112) (h0 : Mm.gi ρ md 0 = nI it) (hfu : 20 < fu) : ∃ ρ', f_X9_readItem YF fu 9 md ρ = some (if Rpp B len (p + 1) it = true then 1 else 0, ρ') ∧ Fx (fun a b => CN a b ∨ (a = md ∧ (b = 0 ∨ b = 1))) ρ ρ' ∧ (Rpp B len (p + 1) it = true → Mm.gi ρ' 9 2 = nI (nmP B len (p + 1) + 1) ∧ Mm.gi ρ' md 0 = nI (it + 1) ∧ Mm.gi ρ' md 1 = nmV B len (p + 1)) := by
  have hmd : 12 ≤ md := by unfold isM at hm; omega
  obtain ⟨ρ1, u1, u2, u3⟩ := px_numbers (w := 1) (md := md) hl hT hp hpl hc (by omega) (by omega) (fun σ => rfl) hfu
  rw [syq1] at u1 u3
  have F1 : Fx (fun a b => CN a b ∨ (a = md ∧ (b = 0 ∨ b = 1))) ρ ρ1 := u2.mono (fun a b c => Or.inl c)
  have hR : Rpp B len (p + 1) it = ((nmK B len (p + 1) && isq B len (nmP B len (p + 1)) 59) && (decide (it = 0) && inq (nmV B len (p + 1)) 100000 100000000)) := by
    unfold Rpp; rw [nmO_e]
    cases decide (it = 0) <;> cases nmK B len (p + 1) <;> cases inq (nmV B len (p + 1)) 100000 100000000 <;> cases isq B len (nmP B len (p + 1)) 59 <;> rfl
  rw [hR]
  have g0 : Mm.gi ρ1 md 0 = nI it := by rw [u2.gi (by unfold CN; omega)]; exact h0
  by_cases c1 : (nmK B len (p + 1) && isq B len (nmP B len (p + 1)) 59) = true
  · rw [if_pos c1] at u1
    obtain ⟨v1, v2⟩ := u3 c1
    have v0 : Mm.gi ρ1 11 0 = nmV B len (p + 1) := v2 0 (by omega)
    rw [c1, Bool.true_and]
    by_cases c2 : it = 0
    · have ht := tk_p (ρ := ρ1) (fu := fu) (md := md)
      rw [v0] at ht
      have hq := putq_1 (ok := inq (nmV B len (p + 1)) 100000 100000000) hm hit g0 (by simp [c2]) ht (by rw [gi_n (by omega)]; exact g0)
      rw [hq] at u1
      rw [decide_eq_true c2, Bool.true_and]
      refine ⟨_, u1, ?_, fun h => ?_⟩
      · refine F1.tr ?_
        split
        · exact (Fx.si (Or.inr ⟨rfl, Or.inr rfl⟩)).tr (Fx.si (Or.inr ⟨rfl, Or.inl rfl⟩))
        · exact Fx.si (Or.inr ⟨rfl, Or.inr rfl⟩)
      · rw [if_pos h]
        exact ⟨by rw [gi_n (by omega), gi_n (by omega)]; exact v1, by rw [gi_s], by rw [gi_n (by omega), gi_s]⟩
    · rw [putq_0 hit g0 (by simp [c2])] at u1
      rw [decide_eq_false c2, Bool.false_and]
      exact ⟨ρ1, u1, F1, fun h => absurd h (by decide)⟩
  · rw [if_neg c1] at u1
    have hb : ¬ ((nmK B len (p + 1) && isq B len (nmP B len (p + 1)) 59) && (decide (it = 0) && inq (nmV B len (p + 1)) 100000 100000000)) = true := fun h => by
      rw [Bool.and_eq_true] at h; exact c1 h.1
    exact ⟨ρ1, by rw [u1, if_neg hb], F1, fun h => absurd h hb⟩
theorem px_item_z (hm : isM md) (hit : it < 1000) (hl : len ≤ 200) (hT : TX ρ B len) (hp : Mm.gi ρ 9 2 = nI p) (hpl : p < len) (hc : B p = 122) (h0 : Mm.gi ρ md 0 = nI it) (hfu : 20 < fu) : ∃ ρ', f_X9_readItem YF fu 9 md ρ = some (if Rzz B len (p + 1) it (Mm.gi ρ md 3) = true then 1 else 0, ρ') ∧ Fx (fun a b => CN a b ∨ (a = md ∧ (b = 0 ∨ b = 2 ∨ b = 3))) ρ ρ' ∧ (Rzz B len (p + 1) it (Mm.gi ρ md 3) = true → Mm.gi ρ' 9 2 = nI (nmP B len (p + 1) + 1) ∧ Mm.gi ρ' md 0 = nI (it + 1) ∧ Mm.gi ρ' md 2 = nmV B len (p + 1) ∧ Mm.gi ρ' md 3 = 1) := by
  have hmd : 12 ≤ md := by unfold isM at hm; omega
  obtain ⟨ρ1, u1, u2, u3⟩ := px_numbers (w := 1) (md := md) hl hT hp hpl hc (by omega) (by omega) (fun σ => rfl) hfu
  rw [syq1] at u1 u3
  have F1 : Fx (fun a b => CN a b ∨ (a = md ∧ (b = 0 ∨ b = 2 ∨ b = 3))) ρ ρ1 := u2.mono (fun a b c => Or.inl c)
  have g3 : Mm.gi ρ1 md 3 = Mm.gi ρ md 3 := u2.gi (by unfold CN; omega)
  have hR : Rzz B len (p + 1) it (Mm.gi ρ md 3) = ((nmK B len (p + 1) && isq B len (nmP B len (p + 1)) 59) && (decide (it ≠ 0) && (decide (Mm.gi ρ1 md 3 = 0) && inq (nmV B len (p + 1)) 0 1000000))) := by
    unfold Rzz; rw [nmO_e, g3]
    cases decide (it ≠ 0) <;> cases decide (Mm.gi ρ md 3 = 0) <;> cases nmK B len (p + 1) <;> cases inq (nmV B len (p + 1)) 0 1000000 <;> cases isq B len (nmP B len (p + 1)) 59 <;> rfl
  rw [hR]
  have g0 : Mm.gi ρ1 md 0 = nI it := by rw [u2.gi (by unfold CN; omega)]; exact h0
  by_cases c1 : (nmK B len (p + 1) && isq B len (nmP B len (p + 1)) 59) = true
  · rw [if_pos c1] at u1
    obtain ⟨v1, v2⟩ := u3 c1
    have v0 : Mm.gi ρ1 11 0 = nmV B len (p + 1) := v2 0 (by omega)
    rw [c1, Bool.true_and]
    by_cases c2 : it = 0
    · rw [putq_0 hit g0 (by simp [c2])] at u1
      rw [decide_eq_false (by simp [c2]), Bool.false_and]
      exact ⟨ρ1, u1, F1, fun h => absurd h (by decide)⟩
    · have ht := tk_z (ρ := ρ1) (fu := fu) (md := md)
      rw [v0] at ht
      have hq := putq_1 (ok := (decide (Mm.gi ρ1 md 3 = 0) && inq (nmV B len (p + 1)) 0 1000000)) hm hit g0 (by simp [c2]) ht (by
        split
        · rw [gi_n (by omega), gi_n (by omega)]; exact g0
        · exact g0)
      rw [hq] at u1
      rw [decide_eq_true (show it ≠ 0 from c2), Bool.true_and]
      refine ⟨_, u1, ?_, fun h => ?_⟩
      · refine F1.tr ?_
        by_cases c : (decide (Mm.gi ρ1 md 3 = 0) && inq (nmV B len (p + 1)) 0 1000000) = true
        · rw [if_pos c, if_pos c]
          exact ((Fx.si (Or.inr ⟨rfl, Or.inr (Or.inr rfl)⟩)).tr (Fx.si (Or.inr ⟨rfl, Or.inr (Or.inl rfl)⟩))).tr (Fx.si (Or.inr ⟨rfl, Or.inl rfl⟩))
        · rw [if_neg c, if_neg c]
          exact Fx.rf
      · rw [if_pos h, if_pos h]
        exact ⟨by rw [gi_n (by omega), gi_n (by omega), gi_n (by omega)]; exact v1, by rw [gi_s], by rw [gi_n (by omega), gi_s], by rw [gi_n (by omega), gi_n (by omega), gi_s]⟩
  · rw [if_neg c1] at u1
    have hb : ¬ ((nmK B len (p + 1) && isq B len (nmP B len (p + 1)) 59) && (decide (it ≠ 0) && (decide (Mm.gi ρ1 md 3 = 0) && inq (nmV B len (p + 1)) 0 1000000))) = true := fun h => by
      rw [Bool.and_eq_true] at h; exact c1 h.1
    exact ⟨ρ1, by rw [u1, if_neg hb], F1, fun h => absurd h hb⟩
theorem px_item_d (hm : isM md) (hit : it < 1000) (hl : len ≤ 200) (hT : TX ρ B len) (hp : Mm.gi ρ 9 2 = nI p) (hpl : p < len) (hc : B p = 100) (h0 : Mm.gi ρ md 0 = nI it) (hfu : 20 < fu) : ∃ ρ', f_X9_readItem YF fu 9 md ρ = some (if Rdd B len (p + 1) it (Mm.gi ρ md 5) = true then 1 else 0, ρ') ∧ Fx (fun a b => CN a b ∨ (a = md ∧ (b = 0 ∨ b = 4 ∨ b = 5))) ρ ρ' ∧ (Rdd B len (p + 1) it (Mm.gi ρ md 5) = true → Mm.gi ρ' 9 2 = nI (nmP B len (p + 1) + 1) ∧ Mm.gi ρ' md 0 = nI (it + 1) ∧ Mm.gi ρ' md 4 = nmV B len (p + 1) ∧ Mm.gi ρ' md 5 = 1) := by
  have hmd : 12 ≤ md := by unfold isM at hm; omega
  obtain ⟨ρ1, u1, u2, u3⟩ := px_numbers (w := 1) (md := md) hl hT hp hpl hc (by omega) (by omega) (fun σ => rfl) hfu
  rw [syq1] at u1 u3
  have F1 : Fx (fun a b => CN a b ∨ (a = md ∧ (b = 0 ∨ b = 4 ∨ b = 5))) ρ ρ1 := u2.mono (fun a b c => Or.inl c)
  have g3 : Mm.gi ρ1 md 5 = Mm.gi ρ md 5 := u2.gi (by unfold CN; omega)
  have hR : Rdd B len (p + 1) it (Mm.gi ρ md 5) = ((nmK B len (p + 1) && isq B len (nmP B len (p + 1)) 59) && (decide (it ≠ 0) && (decide (Mm.gi ρ1 md 5 = 0) && inq (nmV B len (p + 1)) (-100000) 100000))) := by
    unfold Rdd; rw [nmO_e, g3]
    cases decide (it ≠ 0) <;> cases decide (Mm.gi ρ md 5 = 0) <;> cases nmK B len (p + 1) <;> cases inq (nmV B len (p + 1)) (-100000) 100000 <;> cases isq B len (nmP B len (p + 1)) 59 <;> rfl
  rw [hR]
  have g0 : Mm.gi ρ1 md 0 = nI it := by rw [u2.gi (by unfold CN; omega)]; exact h0
  by_cases c1 : (nmK B len (p + 1) && isq B len (nmP B len (p + 1)) 59) = true
  · rw [if_pos c1] at u1
    obtain ⟨v1, v2⟩ := u3 c1
    have v0 : Mm.gi ρ1 11 0 = nmV B len (p + 1) := v2 0 (by omega)
    rw [c1, Bool.true_and]
    by_cases c2 : it = 0
    · rw [putq_0 hit g0 (by simp [c2])] at u1
      rw [decide_eq_false (by simp [c2]), Bool.false_and]
      exact ⟨ρ1, u1, F1, fun h => absurd h (by decide)⟩
    · have ht := tk_d (ρ := ρ1) (fu := fu) (md := md)
      rw [v0] at ht
      have hq := putq_1 (ok := (decide (Mm.gi ρ1 md 5 = 0) && inq (nmV B len (p + 1)) (-100000) 100000)) hm hit g0 (by simp [c2]) ht (by
        split
        · rw [gi_n (by omega), gi_n (by omega)]; exact g0
        · exact g0)
      rw [hq] at u1
      rw [decide_eq_true (show it ≠ 0 from c2), Bool.true_and]
      refine ⟨_, u1, ?_, fun h => ?_⟩
      · refine F1.tr ?_
        by_cases c : (decide (Mm.gi ρ1 md 5 = 0) && inq (nmV B len (p + 1)) (-100000) 100000) = true
        · rw [if_pos c, if_pos c]
          exact ((Fx.si (Or.inr ⟨rfl, Or.inr (Or.inr rfl)⟩)).tr (Fx.si (Or.inr ⟨rfl, Or.inr (Or.inl rfl)⟩))).tr (Fx.si (Or.inr ⟨rfl, Or.inl rfl⟩))
        · rw [if_neg c, if_neg c]
          exact Fx.rf
      · rw [if_pos h, if_pos h]
        exact ⟨by rw [gi_n (by omega), gi_n (by omega), gi_n (by omega)]; exact v1, by rw [gi_s], by rw [gi_n (by omega), gi_s], by rw [gi_n (by omega), gi_n (by omega), gi_s]⟩
  · rw [if_neg c1] at u1
    have hb : ¬ ((nmK B len (p + 1) && isq B len (nmP B len (p + 1)) 59) && (decide (it ≠ 0) && (decide (Mm.gi ρ1 md 5 = 0) && inq (nmV B len (p + 1)) (-100000) 100000))) = true := fun h => by
      rw [Bool.and_eq_true] at h; exact c1 h.1
    exact ⟨ρ1, by rw [u1, if_neg hb], F1, fun h => absurd h hb⟩
theorem px_item_s {ns : Nat} (hm : isM md) (hit : it < 1000) (hl : len ≤ 200) (hT : TX ρ B len) (hp : Mm.gi ρ 9 2 = nI p) (hpl : p < len) (hc : B p = 115) (h0 : Mm.gi ρ md 0 = nI it) (hns : ns ≤ 3) (h6 : Mm.gi ρ md 6 = nI ns) (hfu : 20 < fu) : ∃ ρ', f_X9_readItem YF fu 9 md ρ = some (if Rss B len (p + 1) it ns = true then 1 else 0, ρ') ∧ Fx (fun a b => CN a b ∨ (a = md ∧ (b = 0 ∨ b = 6)) ∨ ((a = md + 1 ∨ a = md + 2) ∧ b = ns)) ρ ρ' ∧ (Rss B len (p + 1) it ns = true → Mm.gi ρ' 9 2 = nI (nmP B len (nmP B len (p + 1) + 1) + 1) ∧ Mm.gi ρ' md 0 = nI (it + 1) ∧ Mm.gi ρ' md 6 = nI (ns + 1) ∧ Mm.gi ρ' (md + 1) ns = nmV B len (p + 1) ∧ Mm.gi ρ' (md + 2) ns = nmV B len (nmP B len (p + 1) + 1)) := by
  have hmd : 12 ≤ md := by unfold isM at hm; omega
  obtain ⟨ρ1, u1, u2, u3⟩ := px_numbers (w := 2) (md := md) hl hT hp hpl hc (by omega) (by omega) (fun σ => rfl) hfu
  rw [syq2] at u1 u3
  generalize hP2 : nmP B len (p + 1) + 1 = p2 at *
  have F1 : Fx (fun a b => CN a b ∨ (a = md ∧ (b = 0 ∨ b = 6)) ∨ ((a = md + 1 ∨ a = md + 2) ∧ b = ns)) ρ ρ1 := u2.mono (fun a b c => Or.inl c)
  have g6 : Mm.gi ρ1 md 6 = nI ns := by rw [u2.gi (by unfold CN; omega)]; exact h6
  have hR : Rss B len (p + 1) it ns = (((nmK B len (p + 1) && isq B len (nmP B len (p + 1)) 44) && (nmK B len p2 && isq B len (nmP B len p2) 59)) && (decide (it ≠ 0) && (decide (ns < 3) && (inq (nmV B len (p + 1)) 0 1000000 && inq (nmV B len p2) (-50000) 50000)))) := by
    unfold Rss; rw [nmO_e, hP2, nmO_e]
    cases decide (it ≠ 0) <;> cases decide (ns < 3) <;> cases nmK B len (p + 1) <;> cases inq (nmV B len (p + 1)) 0 1000000 <;> cases isq B len (nmP B len (p + 1)) 44 <;> cases nmK B len p2 <;> cases inq (nmV B len p2) (-50000) 50000 <;> cases isq B len (nmP B len p2) 59 <;> rfl
  rw [hR]
  have g0 : Mm.gi ρ1 md 0 = nI it := by rw [u2.gi (by unfold CN; omega)]; exact h0
  by_cases c1 : ((nmK B len (p + 1) && isq B len (nmP B len (p + 1)) 44) && (nmK B len p2 && isq B len (nmP B len p2) 59)) = true
  · rw [if_pos c1] at u1
    obtain ⟨v1, v2⟩ := u3 c1
    have v0 : Mm.gi ρ1 11 0 = nmV B len (p + 1) := v2 0 (by omega)
    have w1 : Mm.gi ρ1 11 1 = nmV B len p2 := by rw [v2 1 (by omega), ← hP2]; rfl
    have v1 : Mm.gi ρ1 9 2 = nI (nmP B len p2 + 1) := by rw [v1, ← hP2]; rfl
    rw [c1, Bool.true_and]
    by_cases c2 : it = 0
    · rw [putq_0 hit g0 (by simp [c2])] at u1
      rw [decide_eq_false (by simp [c2]), Bool.false_and]
      exact ⟨ρ1, u1, F1, fun h => absurd h (by decide)⟩
    · have ht := tk_s (ρ := ρ1) (fu := fu) (md := md) hns g6
      rw [v0, w1] at ht
      have hq := putq_1 (ok := (decide (ns < 3) && (inq (nmV B len (p + 1)) 0 1000000 && inq (nmV B len p2) (-50000) 50000))) hm hit g0 (by simp [c2]) ht (by
        split
        · rw [gi_n (by omega), gi_n (by omega), gi_n (by omega)]; exact g0
        · exact g0)
      rw [hq] at u1
      rw [decide_eq_true (show it ≠ 0 from c2), Bool.true_and]
      refine ⟨_, u1, ?_, fun h => ?_⟩
      · refine F1.tr ?_
        by_cases c : (decide (ns < 3) && (inq (nmV B len (p + 1)) 0 1000000 && inq (nmV B len p2) (-50000) 50000)) = true
        · rw [if_pos c, if_pos c]
          exact (((Fx.si (Or.inr (Or.inr ⟨Or.inl rfl, rfl⟩))).tr (Fx.si (Or.inr (Or.inr ⟨Or.inr rfl, rfl⟩)))).tr (Fx.si (Or.inr (Or.inl ⟨rfl, Or.inr rfl⟩)))).tr (Fx.si (Or.inr (Or.inl ⟨rfl, Or.inl rfl⟩)))
        · rw [if_neg c, if_neg c]
          exact Fx.rf
      · rw [if_pos h, if_pos h]
        exact ⟨by rw [gi_n (by omega), gi_n (by omega), gi_n (by omega), gi_n (by omega)]; exact v1, by rw [gi_s], by rw [gi_n (by omega), gi_s], by rw [gi_n (by omega), gi_n (by omega), gi_n (by omega), gi_s], by rw [gi_n (by omega), gi_n (by omega), gi_s]⟩
  · rw [if_neg c1] at u1
    have hb : ¬ (((nmK B len (p + 1) && isq B len (nmP B len (p + 1)) 44) && (nmK B len p2 && isq B len (nmP B len p2) 59)) && (decide (it ≠ 0) && (decide (ns < 3) && (inq (nmV B len (p + 1)) 0 1000000 && inq (nmV B len p2) (-50000) 50000)))) = true := fun h => by
      rw [Bool.and_eq_true] at h; exact c1 h.1
    exact ⟨ρ1, by rw [u1, if_neg hb], F1, fun h => absurd h hb⟩
/-- numbers first or one by one -/
theorem okc_e : (okc B len p 4 && isq B len (nmP B len (plp B len p 4)) 59) = (syq B len p 5 5 && (inq (nmV B len p) 4 1000 && ltc (fun k => nmV B len (plp B len p k)) 4)) := by
  have e1 : okc B len p 4 = ((((nmO B len p 4 1000 && (isq B len (nmP B len (plp B len p 0)) 44 && nmO B len (plp B len p 1) (-50000) 50000)) && (isq B len (nmP B len (plp B len p 1)) 44 && nmO B len (plp B len p 2) (-50000) 50000)) && (isq B len (nmP B len (plp B len p 2)) 44 && nmO B len (plp B len p 3) (-50000) 50000)) && (isq B len (nmP B len (plp B len p 3)) 44 && nmO B len (plp B len p 4) (-50000) 50000)) := rfl
  have e2 : syq B len p 5 5 = (((((true && (nmK B len (plp B len p 0) && isq B len (nmP B len (plp B len p 0)) 44)) && (nmK B len (plp B len p 1) && isq B len (nmP B len (plp B len p 1)) 44)) && (nmK B len (plp B len p 2) && isq B len (nmP B len (plp B len p 2)) 44)) && (nmK B len (plp B len p 3) && isq B len (nmP B len (plp B len p 3)) 44)) && (nmK B len (plp B len p 4) && isq B len (nmP B len (plp B len p 4)) 59)) := rfl
  have e3 : ltc (fun k => nmV B len (plp B len p k)) 4 = ((((true && inq (nmV B len (plp B len p 1)) (-50000) 50000) && inq (nmV B len (plp B len p 2)) (-50000) 50000) && inq (nmV B len (plp B len p 3)) (-50000) 50000) && inq (nmV B len (plp B len p 4)) (-50000) 50000) := rfl
  have e0 : plp B len p 0 = p := rfl
  rw [e1, e2, e3, nmO_e, nmO_e, nmO_e, nmO_e, nmO_e, e0, Bool.eq_iff_iff]
  simp only [Bool.and_eq_true, true_and]
  constructor
  · rintro ⟨⟨⟨⟨⟨⟨a1, a2⟩, b1, b2, b3⟩, c1, c2, c3⟩, d1, d2, d3⟩, f1, f2, f3⟩, g⟩
    exact ⟨⟨⟨⟨⟨⟨a1, b1⟩, b2, c1⟩, c2, d1⟩, d2, f1⟩, f2, g⟩, a2, ⟨⟨b3, c3⟩, d3⟩, f3⟩
  · rintro ⟨⟨⟨⟨⟨⟨a1, b1⟩, b2, c1⟩, c2, d1⟩, d2, f1⟩, f2, g⟩, a2, ⟨⟨b3, c3⟩, d3⟩, f3⟩
    exact ⟨⟨⟨⟨⟨⟨a1, a2⟩, b1, b2, b3⟩, c1, c2, c3⟩, d1, d2, d3⟩, f1, f2, f3⟩, g⟩
theorem px_item_c {nc : Nat} (hm : isM md) (hit : it < 1000) (hl : len ≤ 200) (hT : TX ρ B len) (hp : Mm.gi ρ 9 2 = nI p) (hpl : p < len) (hc : B p = 99) (h0 : Mm.gi ρ md 0 = nI it) (hnc : nc ≤ 2) (h9 : Mm.gi ρ md 9 = nI nc) (hfu : 20 < fu) : ∃ ρ', f_X9_readItem YF fu 9 md ρ = some (if Rcc B len (p + 1) it nc = true then 1 else 0, ρ') ∧ Fx (fun a b => CN a b ∨ (a = md ∧ b = 0) ∨ CC md nc a b) ρ ρ' ∧ (Rcc B len (p + 1) it nc = true → Mm.gi ρ' 9 2 = nI (nmP B len (plp B len (p + 1) 4) + 1) ∧ Mm.gi ρ' md 0 = nI (it + 1) ∧ Mm.gi ρ' md 9 = nI (nc + 1) ∧ Mm.gi ρ' (md + 3) nc = nmV B len (p + 1) ∧ ∀ q, q < 4 → Mm.gi ρ' (md + 4) (4 * nc + q) = nmV B len (plp B len (p + 1) (q + 1))) := by
  have hmd : 12 ≤ md := by unfold isM at hm; omega
  obtain ⟨ρ1, u1, u2, u3⟩ := px_numbers (w := 5) (md := md) hl hT hp hpl hc (by omega) (by omega) (fun σ => rfl) hfu
  have F1 : Fx (fun a b => CN a b ∨ (a = md ∧ b = 0) ∨ CC md nc a b) ρ ρ1 := u2.mono (fun a b c => Or.inl c)
  have g9 : Mm.gi ρ1 md 9 = nI nc := by rw [u2.gi (by unfold CN; omega)]; exact h9
  have hR : Rcc B len (p + 1) it nc = (syq B len (p + 1) 5 5 && (decide (it ≠ 0) && (decide (nc < 2) && (inq (nmV B len (p + 1)) 4 1000 && ltc (fun k => nmV B len (plp B len (p + 1) k)) 4)))) := by
    unfold Rcc; rw [okc_e]
    cases decide (it ≠ 0) <;> cases decide (nc < 2) <;> cases syq B len (p + 1) 5 5 <;> rfl
  rw [hR]
  have g0 : Mm.gi ρ1 md 0 = nI it := by rw [u2.gi (by unfold CN; omega)]; exact h0
  by_cases c1 : syq B len (p + 1) 5 5 = true
  · rw [if_pos c1] at u1
    obtain ⟨v1, v2⟩ := u3 c1
    have v1 : Mm.gi ρ1 9 2 = nI (nmP B len (plp B len (p + 1) 4) + 1) := v1
    rw [c1, Bool.true_and]
    by_cases c2 : it = 0
    · rw [putq_0 hit g0 (by simp [c2])] at u1
      rw [decide_eq_false (by simp [c2]), Bool.false_and]
      exact ⟨ρ1, u1, F1, fun h => absurd h (by decide)⟩
    · obtain ⟨ρ2, t1, t2, t3⟩ := tk_c (V := fun k => nmV B len (plp B len (p + 1) k)) (fu := fu) hm hnc g9 v2 hfu
      have hq := putq_1 (ok := (decide (nc < 2) && (inq (nmV B len (p + 1)) 4 1000 && ltc (fun k => nmV B len (plp B len (p + 1) k)) 4))) hm hit g0 (by simp [c2]) t1 (by rw [t2.gi (by unfold CC; omega)]; exact g0)
      rw [hq] at u1
      rw [decide_eq_true (show it ≠ 0 from c2), Bool.true_and]
      refine ⟨_, u1, ?_, fun h => ?_⟩
      · refine (F1.tr (t2.mono (fun a b c => Or.inr (Or.inr c)))).tr ?_
        split
        · exact Fx.si (Or.inr (Or.inl ⟨rfl, rfl⟩))
        · exact Fx.rf
      · obtain ⟨x1, x2, x3⟩ := t3 h
        rw [if_pos h]
        exact ⟨by rw [gi_n (by omega), t2.gi (by unfold CC; omega)]; exact v1, by rw [gi_s], by rw [gi_n (by omega)]; exact x1, by rw [gi_n (by omega)]; exact x2, fun q hq => by rw [gi_n (by omega)]; exact x3 q hq⟩
  · rw [if_neg c1] at u1
    have hb : ¬ (syq B len (p + 1) 5 5 && (decide (it ≠ 0) && (decide (nc < 2) && (inq (nmV B len (p + 1)) 4 1000 && ltc (fun k => nmV B len (plp B len (p + 1) k)) 4)))) = true := fun h => by
      rw [Bool.and_eq_true] at h; exact c1 h.1
    exact ⟨ρ1, by rw [u1, if_neg hb], F1, fun h => absurd h hb⟩
end IC
