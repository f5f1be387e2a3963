/-! THE PURE HALF: the law over the memory, out of a pair of steps a call -/
theorem bnd_some {α β γ : Type} (a : α) (b : β) (f : α → β → Option γ) : bnd (some (a, b)) f = f a b := rfl
theorem bn1_some {α γ : Type} (a : α) (f : α → Option γ) : bn1 (some a) f = f a := rfl
/-- from a memory with I both answer alike, and behind both I holds again -/
def Sim {α : Type} (I : Mm → Prop) (fx fm : Mm → Option (α × Mm)) : Prop := ∀ σ, I σ → ∃ r σ1 σ2, fx σ = some (r, σ1) ∧ fm σ1 = some (r, σ2) ∧ I σ2
def Sim_arrival (I : Mm → Prop) (FU : Nat) : Prop := ∀ (a1 : Int32) (a2 : Int32) (a3 : Int32) (a4 : Int32) (a5 : Int32), Sim I (f_X11_arrival YF FU 1 a1 a2 a3 a4 a5) (f_X12_arrival YF FU 595 a1 a2 a3 a4 a5)
def Sim_clear (I : Mm → Prop) (FU : Nat) : Prop := ∀ (a1 : Int32), Sim I (f_X11_clear YF 1 a1) (f_X12_clear YF 595 a1)
def Sim_offset (I : Mm → Prop) (FU : Nat) : Prop := ∀ (a1 : Int32) (a2 : Int32), Sim I (f_X11_offset YF 1 a1 a2) (f_X12_offset YF 595 a1 a2)
def Sim_shift (I : Mm → Prop) (FU : Nat) : Prop := ∀ (a1 : Int32) (a2 : Int32) (a3 : Int32), Sim I (f_X11_shift YF 1 a1 a2 a3) (f_X12_shift YF 595 a1 a2 a3)
def Sim_rule (I : Mm → Prop) (FU : Nat) : Prop := ∀ (a1 : Int32) (a2 : Int32), Sim I (f_X11_rule YF FU 1 a1 a2) (f_X12_rule YF 595 a1 a2)
def Sim_at (I : Mm → Prop) (FU : Nat) : Prop := ∀ (a1 : Int32) (a2 : Int32) (a3 : Int32), Sim I (f_X11_at YF 1 a1 a2 a3) (f_X12_at YF FU 595 a1 a2 a3)
def Sim_many (I : Mm → Prop) (FU : Nat) : Prop := ∀ (a1 : Int32), Sim I (f_X11_many YF 1 a1) (f_X12_many YF FU 595 a1)
def Sim_write (I : Mm → Prop) (FU : Nat) : Prop := ∀ (a1 : Int32) (a2 : Int64), Sim I (f_X11_write YF FU 1 a1 a2) (f_X12_write YF FU 595 a1 a2)
def Sim_wipe (I : Mm → Prop) (FU : Nat) : Prop := ∀ (_ : Unit), Sim I (f_X11_wipe YF 1) (f_X12_wipe YF 595)
def Sim_fault (I : Mm → Prop) (FU : Nat) : Prop := ∀ (_ : Unit), Sim I (f_X11_fault YF FU 1) (f_X12_fault YF FU 595)
def Sim_model (I : Mm → Prop) (FU : Nat) : Prop := ∀ (a1 : Int32), Sim I (f_X11_model YF FU 1 a1) (f_X12_model YF FU 595 a1)
def Sim_comes (I : Mm → Prop) (FU : Nat) : Prop := ∀ (a1 : Int32) (a2 : Int32), Sim I (f_X11_comes YF FU 1 a1 a2) (f_X12_comes YF FU 595 a1 a2)
def Sim_residue (I : Mm → Prop) (FU : Nat) : Prop := ∀ (a1 : Int32) (a2 : Int32), Sim I (f_X11_residue YF FU 1 a1 a2) (f_X12_residue YF FU 595 a1 a2)
def Sim_turn (I : Mm → Prop) (FU : Nat) : Prop := ∀ (a1 : Int32) (a2 : Int32), Sim I (f_X11_turn YF FU 1 a1 a2) (f_X12_turn YF FU 595 a1 a2)
def Sim_ways (I : Mm → Prop) (FU : Nat) : Prop := ∀ (a1 : Int32) (a2 : Int32) (a3 : Int32), Sim I (f_X11_ways YF FU 1 a1 a2 a3) (f_X12_ways YF FU 595 a1 a2 a3)
def Sim_way (I : Mm → Prop) (FU : Nat) : Prop := ∀ (a1 : Int32) (a2 : Int32), Sim I (f_X11_way YF 1 a1 a2) (f_X12_way YF 595 a1 a2)
def Sim_sure (I : Mm → Prop) (FU : Nat) : Prop := ∀ (a1 : Int32), Sim I (f_X11_sure YF FU 1 a1) (f_X12_sure YF FU 595 a1)
def Sim_fit (I : Mm → Prop) (FU : Nat) : Prop := ∀ (a1 : Int32) (a2 : Int32), Sim I (f_X11_fit YF FU 1 a1 a2) (f_X12_fit YF FU 595 a1 a2)
def Sim_left (I : Mm → Prop) (FU : Nat) : Prop := ∀ (a1 : Int32) (a2 : Int32), Sim I (f_X11_left YF FU 1 a1 a2) (f_X12_left YF FU 595 a1 a2)
def Sim_look (I : Mm → Prop) (FU : Nat) : Prop := ∀ (a1 : Int32) (a2 : Int32) (a3 : Int32) (a4 : Int32), Sim I (f_X11_look YF FU 1 a1 a2 a3 a4) (f_X12_look YF FU 595 a1 a2 a3 a4)
def Sim_slip (I : Mm → Prop) (FU : Nat) : Prop := ∀ (a1 : Int32), Sim I (f_X11_slip YF FU 1 a1) (f_X12_slip YF FU 595 a1)
def Sim_falseShare (I : Mm → Prop) (FU : Nat) : Prop := ∀ (a1 : Int32), Sim I (f_X11_falseShare YF FU 1 a1) (f_X12_falseShare YF FU 595 a1)
def Sim_hum (I : Mm → Prop) (FU : Nat) : Prop := ∀ (a1 : Int32) (a2 : Int32), Sim I (f_X11_hum YF FU 1 a1 a2) (f_X12_hum YF FU 595 a1 a2)
def Sim_shuffled (I : Mm → Prop) (FU : Nat) : Prop := ∀ (a1 : Int32) (a2 : Int32), Sim I (f_X11_shuffled YF FU 1 a1 a2) (f_X12_shuffled YF FU 595 a1 a2)
def Sim_between (I : Mm → Prop) (FU : Nat) : Prop := ∀ (a1 : Int32) (a2 : Int32), Sim I (f_X11_between YF FU 1 a1 a2) (f_X12_between YF FU 595 a1 a2)
def Sim_loop (I : Mm → Prop) (FU : Nat) : Prop := ∀ (a1 : Int32) (a2 : Int32) (a3 : Int32), Sim I (f_X11_loop YF FU 1 a1 a2 a3) (f_X12_loop YF FU 595 a1 a2 a3)
def Sim_moved (I : Mm → Prop) (FU : Nat) : Prop := ∀ (a1 : Int32), Sim I (f_X11_moved YF FU 1 a1) (f_X12_moved YF FU 595 a1)
def Sim_alarm (I : Mm → Prop) (FU : Nat) : Prop := ∀ (a1 : Int32), Sim I (f_X11_alarm YF FU 1 a1) (f_X12_alarm YF FU 595 a1)
def Sim_count (I : Mm → Prop) (FU : Nat) : Prop := ∀ (a1 : Int32), Sim I (f_X11_count YF FU 1 a1) (f_X12_count YF FU 595 a1)
def Sims (I : Mm → Prop) (FU : Nat) : Prop := Sim_arrival I FU ∧ Sim_clear I FU ∧ Sim_offset I FU ∧ Sim_shift I FU ∧ Sim_rule I FU ∧ Sim_at I FU ∧ Sim_many I FU ∧ Sim_write I FU ∧ Sim_wipe I FU ∧ Sim_fault I FU ∧ Sim_model I FU ∧ Sim_comes I FU ∧ Sim_residue I FU ∧ Sim_turn I FU ∧ Sim_ways I FU ∧ Sim_way I FU ∧ Sim_sure I FU ∧ Sim_fit I FU ∧ Sim_left I FU ∧ Sim_look I FU ∧ Sim_slip I FU ∧ Sim_falseShare I FU ∧ Sim_hum I FU ∧ Sim_shuffled I FU ∧ Sim_between I FU ∧ Sim_loop I FU ∧ Sim_moved I FU ∧ Sim_alarm I FU ∧ Sim_count I FU
theorem fa_lt32 (a b : Int32) : a < b ↔ a.toInt < b.toInt := Int32.lt_iff_toInt_lt
theorem nI_int {n : Nat} (h : n < 2 ^ 31) : (nI n).toInt = n := nI_toInt h
set_option maxRecDepth 100000 in
set_option maxHeartbeats 40000000 in
theorem pure_law {I : Mm → Prop} {FU : Nat} (h0 : I σF) (hs : Sims I FU) : PureLaw := by
  intro N xs hN
  obtain ⟨s_arrival, s_clear, s_offset, s_shift, s_rule, s_at, s_many, s_write, s_wipe, s_fault, s_model, s_comes, s_residue, s_turn, s_ways, s_way, s_sure, s_fit, s_left, s_look, s_slip, s_falseShare, s_hum, s_shuffled, s_between, s_loop, s_moved, s_alarm, s_count⟩ := hs
  refine ⟨FU, N + 2, ?_⟩
  have key : ∀ (nn i : Nat) (σ : Mm), I σ → 6 * i ≤ N → N + 6 ≤ 6 * (i + nn) → b_L_law_18 YF FU N xs nn 1 595 (nI (6 * i)) σ = some 1 := by
    intro nn
    induction nn with
    | zero => intro i σ _ h1 h2; omega
    | succ nn ih =>
      intro i σ hI h1 h2
      show s_L_law_18 YF FU N xs (b_L_law_18 YF FU N xs nn) 1 595 (nI (6 * i)) σ = some 1
      have hk : ∀ (τ : Mm), I τ → 6 * (i + 1) ≤ N → b_L_law_1115 YF FU N xs (b_L_law_18 YF FU N xs nn) 1 595 (nI (6 * i)) τ = some 1 := fun τ hτ hle => by
        show b_L_law_18 YF FU N xs nn 1 595 (nI (6 * i) + 6) τ = some 1
        have e6 : nI (6 * i) + 6 = nI (6 * (i + 1)) := nI_add (6 * i) 6
        rw [e6]
        exact ih (i + 1) τ hτ hle (by omega)
      generalize b_L_law_18 YF FU N xs nn = k18 at hk
      unfold s_L_law_18
      by_cases c0 : 6 * (i + 1) ≤ N
      · have n6 : ¬ (Int32.ofNat N - 6 < nI (6 * i)) := by
          intro h
          have e : Int32.ofNat N - 6 = nI (N - 6) := pk_sub (a := N) (b := 6) (by omega)
          rw [e] at h
          have := (nI_ltI (by omega) (by omega)).mp h
          omega
        have g0 : inb (nI (6 * i)) N = true := inb_nI (by omega) (by omega)
        have ga : ∀ j, j < 6 → inb (nI (6 * i) + nI j) N = true := fun j hj => by rw [nI_add]; exact inb_nI (by omega) (by omega)
        have g1 : inb (nI (6 * i) + 1) N = true := ga 1 (by omega)
        have g2 : inb (nI (6 * i) + 2) N = true := ga 2 (by omega)
        have g3 : inb (nI (6 * i) + 3) N = true := ga 3 (by omega)
        have g4 : inb (nI (6 * i) + 4) N = true := ga 4 (by omega)
        have g5 : inb (nI (6 * i) + 5) N = true := ga 5 (by omega)
        rw [if_neg n6, if_pos g0]
        by_cases c : xs (ix (nI (6 * i))) &&& 31 = 0
        · rw [if_pos c]
          obtain ⟨r, σ1, σ2, q1, q2, q3⟩ := s_arrival (xs (ix (nI (6 * i) + 1))) (xs (ix (nI (6 * i) + 2))) (xs (ix (nI (6 * i) + 3))) (xs (ix (nI (6 * i) + 4))) (xs (ix (nI (6 * i) + 5))) σ hI
          simp only [g1, g2, g3, g4, g5, if_true, bnd_some, q1, q2]
          exact hk σ2 q3 c0
        rw [if_neg c]
        clear c
        by_cases c : xs (ix (nI (6 * i))) &&& 31 = 1
        · rw [if_pos c]
          obtain ⟨r, σ1, σ2, q1, q2, q3⟩ := s_clear (xs (ix (nI (6 * i) + 1))) σ hI
          simp only [g1, g2, g3, g4, g5, if_true, bnd_some, q1, q2]
          exact hk σ2 q3 c0
        rw [if_neg c]
        clear c
        by_cases c : xs (ix (nI (6 * i))) &&& 31 = 2
        · rw [if_pos c]
          obtain ⟨r, σ1, σ2, q1, q2, q3⟩ := s_offset (xs (ix (nI (6 * i) + 1))) (xs (ix (nI (6 * i) + 2))) σ hI
          simp only [g1, g2, g3, g4, g5, if_true, bnd_some, q1, q2]
          exact hk σ2 q3 c0
        rw [if_neg c]
        clear c
        by_cases c : xs (ix (nI (6 * i))) &&& 31 = 3
        · rw [if_pos c]
          obtain ⟨r, σ1, σ2, q1, q2, q3⟩ := s_shift (xs (ix (nI (6 * i) + 1))) (xs (ix (nI (6 * i) + 2))) (xs (ix (nI (6 * i) + 3))) σ hI
          simp only [g1, g2, g3, g4, g5, if_true, bnd_some, q1, q2]
          exact hk σ2 q3 c0
        rw [if_neg c]
        clear c
        by_cases c : xs (ix (nI (6 * i))) &&& 31 = 4
        · rw [if_pos c]
          obtain ⟨r, σ1, σ2, q1, q2, q3⟩ := s_rule (xs (ix (nI (6 * i) + 1))) (xs (ix (nI (6 * i) + 2))) σ hI
          simp only [g1, g2, g3, g4, g5, if_true, bnd_some, q1, q2]
          exact hk σ2 q3 c0
        rw [if_neg c]
        clear c
        by_cases c : xs (ix (nI (6 * i))) &&& 31 = 5
        · rw [if_pos c]
          obtain ⟨r, σ1, σ2, q1, q2, q3⟩ := s_at (xs (ix (nI (6 * i) + 1))) (xs (ix (nI (6 * i) + 2))) (xs (ix (nI (6 * i) + 3))) σ hI
          simp only [g1, g2, g3, g4, g5, if_true, bnd_some, q1, q2]
          exact hk σ2 q3 c0
        rw [if_neg c]
        clear c
        by_cases c : xs (ix (nI (6 * i))) &&& 31 = 6
        · rw [if_pos c]
          obtain ⟨r, σ1, σ2, q1, q2, q3⟩ := s_many (xs (ix (nI (6 * i) + 1))) σ hI
          simp only [g1, g2, g3, g4, g5, if_true, bnd_some, q1, q2]
          exact hk σ2 q3 c0
        rw [if_neg c]
        clear c
        by_cases c : xs (ix (nI (6 * i))) &&& 31 = 7
        · rw [if_pos c]
          obtain ⟨r, σ1, σ2, q1, q2, q3⟩ := s_write (xs (ix (nI (6 * i) + 1))) (((Int32.toInt64 (xs (ix (nI (6 * i) + 2)))) <<< (Int32.toInt64 32 &&& 63)) ||| ((Int32.toInt64 (xs (ix (nI (6 * i) + 3)))) &&& 4294967295)) σ hI
          simp only [g1, g2, g3, g4, g5, if_true, bnd_some, q1, q2]
          exact hk σ2 q3 c0
        rw [if_neg c]
        clear c
        by_cases c : xs (ix (nI (6 * i))) &&& 31 = 8
        · rw [if_pos c]
          obtain ⟨r, σ1, σ2, q1, q2, q3⟩ := s_wipe () σ hI
          simp only [g1, g2, g3, g4, g5, if_true, bnd_some, q1, q2]
          exact hk σ2 q3 c0
        rw [if_neg c]
        clear c
        by_cases c : xs (ix (nI (6 * i))) &&& 31 = 9
        · rw [if_pos c]
          obtain ⟨r, σ1, σ2, q1, q2, q3⟩ := s_fault () σ hI
          simp only [g1, g2, g3, g4, g5, if_true, bnd_some, q1, q2]
          exact hk σ2 q3 c0
        rw [if_neg c]
        clear c
        by_cases c : xs (ix (nI (6 * i))) &&& 31 = 10
        · rw [if_pos c]
          obtain ⟨r, σ1, σ2, q1, q2, q3⟩ := s_model (xs (ix (nI (6 * i) + 1))) σ hI
          simp only [g1, g2, g3, g4, g5, if_true, bnd_some, q1, q2]
          exact hk σ2 q3 c0
        rw [if_neg c]
        clear c
        by_cases c : xs (ix (nI (6 * i))) &&& 31 = 11
        · rw [if_pos c]
          obtain ⟨r, σ1, σ2, q1, q2, q3⟩ := s_comes (xs (ix (nI (6 * i) + 1))) (xs (ix (nI (6 * i) + 2))) σ hI
          simp only [g1, g2, g3, g4, g5, if_true, bnd_some, q1, q2]
          exact hk σ2 q3 c0
        rw [if_neg c]
        clear c
        by_cases c : xs (ix (nI (6 * i))) &&& 31 = 12
        · rw [if_pos c]
          obtain ⟨r, σ1, σ2, q1, q2, q3⟩ := s_residue (xs (ix (nI (6 * i) + 1))) (xs (ix (nI (6 * i) + 2))) σ hI
          simp only [g1, g2, g3, g4, g5, if_true, bnd_some, q1, q2]
          exact hk σ2 q3 c0
        rw [if_neg c]
        clear c
        by_cases c : xs (ix (nI (6 * i))) &&& 31 = 13
        · rw [if_pos c]
          obtain ⟨r, σ1, σ2, q1, q2, q3⟩ := s_turn (xs (ix (nI (6 * i) + 1))) (xs (ix (nI (6 * i) + 2))) σ hI
          simp only [g1, g2, g3, g4, g5, if_true, bnd_some, q1, q2]
          exact hk σ2 q3 c0
        rw [if_neg c]
        clear c
        by_cases c : xs (ix (nI (6 * i))) &&& 31 = 14
        · rw [if_pos c]
          obtain ⟨r, σ1, σ2, q1, q2, q3⟩ := s_ways (xs (ix (nI (6 * i) + 1))) (xs (ix (nI (6 * i) + 2))) (xs (ix (nI (6 * i) + 3))) σ hI
          simp only [g1, g2, g3, g4, g5, if_true, bnd_some, q1, q2]
          exact hk σ2 q3 c0
        rw [if_neg c]
        clear c
        by_cases c : xs (ix (nI (6 * i))) &&& 31 = 15
        · rw [if_pos c]
          obtain ⟨r, σ1, σ2, q1, q2, q3⟩ := s_way (xs (ix (nI (6 * i) + 1))) (xs (ix (nI (6 * i) + 2))) σ hI
          simp only [g1, g2, g3, g4, g5, if_true, bnd_some, q1, q2]
          exact hk σ2 q3 c0
        rw [if_neg c]
        clear c
        by_cases c : xs (ix (nI (6 * i))) &&& 31 = 16
        · rw [if_pos c]
          obtain ⟨r, σ1, σ2, q1, q2, q3⟩ := s_sure (xs (ix (nI (6 * i) + 1))) σ hI
          simp only [g1, g2, g3, g4, g5, if_true, bnd_some, q1, q2]
          exact hk σ2 q3 c0
        rw [if_neg c]
        clear c
        by_cases c : xs (ix (nI (6 * i))) &&& 31 = 17
        · rw [if_pos c]
          obtain ⟨r, σ1, σ2, q1, q2, q3⟩ := s_fit (xs (ix (nI (6 * i) + 1))) (xs (ix (nI (6 * i) + 2))) σ hI
          simp only [g1, g2, g3, g4, g5, if_true, bnd_some, q1, q2]
          exact hk σ2 q3 c0
        rw [if_neg c]
        clear c
        by_cases c : xs (ix (nI (6 * i))) &&& 31 = 18
        · rw [if_pos c]
          obtain ⟨r, σ1, σ2, q1, q2, q3⟩ := s_left (xs (ix (nI (6 * i) + 1))) (xs (ix (nI (6 * i) + 2))) σ hI
          simp only [g1, g2, g3, g4, g5, if_true, bnd_some, q1, q2]
          exact hk σ2 q3 c0
        rw [if_neg c]
        clear c
        by_cases c : xs (ix (nI (6 * i))) &&& 31 = 19
        · rw [if_pos c]
          obtain ⟨r, σ1, σ2, q1, q2, q3⟩ := s_look (xs (ix (nI (6 * i) + 1))) (xs (ix (nI (6 * i) + 2))) (xs (ix (nI (6 * i) + 3))) (xs (ix (nI (6 * i) + 4))) σ hI
          simp only [g1, g2, g3, g4, g5, if_true, bnd_some, q1, q2]
          exact hk σ2 q3 c0
        rw [if_neg c]
        clear c
        by_cases c : xs (ix (nI (6 * i))) &&& 31 = 20
        · rw [if_pos c]
          obtain ⟨r, σ1, σ2, q1, q2, q3⟩ := s_slip (xs (ix (nI (6 * i) + 1))) σ hI
          simp only [g1, g2, g3, g4, g5, if_true, bnd_some, q1, q2]
          exact hk σ2 q3 c0
        rw [if_neg c]
        clear c
        by_cases c : xs (ix (nI (6 * i))) &&& 31 = 21
        · rw [if_pos c]
          obtain ⟨r, σ1, σ2, q1, q2, q3⟩ := s_falseShare (xs (ix (nI (6 * i) + 1))) σ hI
          simp only [g1, g2, g3, g4, g5, if_true, bnd_some, q1, q2]
          exact hk σ2 q3 c0
        rw [if_neg c]
        clear c
        by_cases c : xs (ix (nI (6 * i))) &&& 31 = 22
        · rw [if_pos c]
          obtain ⟨r, σ1, σ2, q1, q2, q3⟩ := s_hum (xs (ix (nI (6 * i) + 1))) (xs (ix (nI (6 * i) + 2))) σ hI
          simp only [g1, g2, g3, g4, g5, if_true, bnd_some, q1, q2]
          exact hk σ2 q3 c0
        rw [if_neg c]
        clear c
        by_cases c : xs (ix (nI (6 * i))) &&& 31 = 23
        · rw [if_pos c]
          obtain ⟨r, σ1, σ2, q1, q2, q3⟩ := s_shuffled (xs (ix (nI (6 * i) + 1))) (xs (ix (nI (6 * i) + 2))) σ hI
          simp only [g1, g2, g3, g4, g5, if_true, bnd_some, q1, q2]
          exact hk σ2 q3 c0
        rw [if_neg c]
        clear c
        by_cases c : xs (ix (nI (6 * i))) &&& 31 = 24
        · rw [if_pos c]
          obtain ⟨r, σ1, σ2, q1, q2, q3⟩ := s_between (xs (ix (nI (6 * i) + 1))) (xs (ix (nI (6 * i) + 2))) σ hI
          simp only [g1, g2, g3, g4, g5, if_true, bnd_some, q1, q2]
          exact hk σ2 q3 c0
        rw [if_neg c]
        clear c
        by_cases c : xs (ix (nI (6 * i))) &&& 31 = 25
        · rw [if_pos c]
          obtain ⟨r, σ1, σ2, q1, q2, q3⟩ := s_loop (xs (ix (nI (6 * i) + 1))) (xs (ix (nI (6 * i) + 2))) (xs (ix (nI (6 * i) + 3))) σ hI
          simp only [g1, g2, g3, g4, g5, if_true, bnd_some, q1, q2]
          exact hk σ2 q3 c0
        rw [if_neg c]
        clear c
        by_cases c : xs (ix (nI (6 * i))) &&& 31 = 26
        · rw [if_pos c]
          obtain ⟨r, σ1, σ2, q1, q2, q3⟩ := s_moved (xs (ix (nI (6 * i) + 1))) σ hI
          simp only [g1, g2, g3, g4, g5, if_true, bnd_some, q1, q2]
          exact hk σ2 q3 c0
        rw [if_neg c]
        clear c
        by_cases c : xs (ix (nI (6 * i))) &&& 31 = 27
        · rw [if_pos c]
          obtain ⟨r, σ1, σ2, q1, q2, q3⟩ := s_alarm (xs (ix (nI (6 * i) + 1))) σ hI
          simp only [g1, g2, g3, g4, g5, if_true, bnd_some, q1, q2]
          exact hk σ2 q3 c0
        rw [if_neg c]
        clear c
        by_cases c : xs (ix (nI (6 * i))) &&& 31 = 28
        · rw [if_pos c]
          obtain ⟨r, σ1, σ2, q1, q2, q3⟩ := s_count (xs (ix (nI (6 * i) + 1))) σ hI
          simp only [g1, g2, g3, g4, g5, if_true, bnd_some, q1, q2]
          exact hk σ2 q3 c0
        rw [if_neg c]
        clear c
        exact hk σ hI c0
      · have n6 : Int32.ofNat N - 6 < nI (6 * i) := by
          rcases Nat.lt_or_ge N 6 with h | h
          · rw [fa_lt32]
            have e : (Int32.ofNat N - 6).toInt = (N : Int) - 6 := pk_sub_toInt (a := N) (b := 6) (by omega) (by omega)
            rw [e, nI_toInt (by omega)]
            omega
          · have e : Int32.ofNat N - 6 = nI (N - 6) := pk_sub (a := N) (b := 6) h
            rw [e]
            exact (nI_ltI (by omega) (by omega)).mpr (by omega)
        rw [if_pos n6]
  exact key (N + 2) 0 σF h0 (by omega) (by omega)
