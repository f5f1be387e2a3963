/-! items, in the class -/
def plp (B : Nat → Int32) (len p : Nat) : Nat → Nat
  | 0 => p
  | k + 1 => nmP B len (plp B len p k) + 1
def spq (w i : Nat) : Int32 := if i + 1 < w then 44 else 59
def syq (B : Nat → Int32) (len p w : Nat) : Nat → Bool
  | 0 => true
  | i + 1 => syq B len p w i && (nmK B len (plp B len p i) && isq B len (nmP B len (plp B len p i)) (spq w i))
theorem syq_s (B : Nat → Int32) (len p w i : Nat) : syq B len p w (i + 1) = (syq B len p w i && (nmK B len (plp B len p i) && isq B len (nmP B len (plp B len p i)) (spq w i))) := rfl
theorem plp_s (B : Nat → Int32) (len p k : Nat) : plp B len p (k + 1) = nmP B len (plp B len p k) + 1 := rfl
theorem syq_m {B : Nat → Int32} {len p w i j : Nat} (h : i ≤ j) (hj : syq B len p w j = true) : syq B len p w i = true := by
  induction j with
  | zero => have : i = 0 := by omega
            subst this; exact hj
  | succ j ih =>
    by_cases e : i = j + 1
    · subst e; exact hj
    · rw [syq_s, Bool.and_eq_true] at hj
      exact ih (by omega) hj.1
theorem plp_b {B : Nat → Int32} {len p w : Nat} (hp : p ≤ len) : ∀ i, syq B len p w i = true → plp B len p i ≤ len ∧ p ≤ plp B len p i := by
  intro i
  induction i with
  | zero => intro _; exact ⟨hp, Nat.le_refl _⟩
  | succ i ih =>
    intro h
    rw [syq_s, Bool.and_eq_true, Bool.and_eq_true] at h
    have h1 := ih h.1
    have h2 := (isq_lt h.2.2).1
    have h3 := (nmP_b B len (plp B len p i)).1
    rw [plp_s]
    omega
def CN (a b : Nat) : Prop := (a = 9 ∧ b = 2) ∨ a = 11
/-- what follows the numbers of an item -/
def putq (fu md : Nat) (c : Int32) (ρ : Mm) : Option (Int32 × Mm) := bnd (f_X4_put YF fu md c 11 ρ) (fun (r_11 : Int32) (σ_10 : Mm) => if r_11 = 0 then zret 0 σ_10 else zret 1 σ_10)
section IX
variable {ρ : Mm} {B : Nat → Int32} {len p fu md : Nat}
theorem px_read13 (hl : len ≤ 200) (hT : TX ρ B len) (hp : Mm.gi ρ 9 2 = nI p) (hpb : p ≤ len) {w : Nat} {c : Int32} (hw : 1 ≤ w) (hw5 : w ≤ 5) (hfu : 20 < fu) : ∃ ρ', b_X9_readItem_13 YF fu 9 md fu c (nI w) 0 ρ = (if syq B len p w w = true then putq fu md c ρ' else some (0, ρ')) ∧ Fx CN ρ ρ' ∧ (syq B len p w w = true → Mm.gi ρ' 9 2 = nI (plp B len p w) ∧ ∀ k, k < w → Mm.gi ρ' 11 k = nmV B len (plp B len p k)) := by
  exact lp_ind (f := s_X9_readItem_13 YF fu 9 md) (a := fun _ _ _ _ => none) (fun d K => ∀ i τ, i + d = w → syq B len p w i = true → Fx CN ρ τ → Mm.gi τ 9 2 = nI (plp B len p i) → (∀ k, k < i → Mm.gi τ 11 k = nmV B len (plp B len p k)) → ∃ ρ', K c (nI w) (nI i) τ = (if syq B len p w w = true then putq fu md c ρ' else some (0, ρ')) ∧ Fx CN ρ ρ' ∧ (syq B len p w w = true → Mm.gi ρ' 9 2 = nI (plp B len p w) ∧ ∀ k, k < w → Mm.gi ρ' 11 k = nmV B len (plp B len p k))) (by
    intro d K ih i τ hi hs hF h2 hv
    unfold s_X9_readItem_13 b_X9_readItem_47
    by_cases h : w ≤ i
    · have : i = w := by omega
      subst this
      refine ⟨τ, ?_, hF, fun _ => ⟨h2, hv⟩⟩
      rw [if_pos ((i_le (by omega) (by omega)).mpr h), if_neg (nI_nle (by omega) (by omega)), if_pos hs]
      rfl
    · have hTτ : TX τ B len := TX_c hT (hF.gi (by unfold CN; omega)) (fun k => hF.gi (by unfold CN; omega))
      obtain ⟨q1, q2⟩ := plp_b (w := w) hpb i hs
      obtain ⟨τ1, u1, u2, u3, u4⟩ := px_readNumber (i := i) hl hTτ h2 (by omega) (by omega) hfu
      have hn := nmP_b B len (plp B len p i)
      have es := syq_s B len p w i
      rw [hs, Bool.true_and] at es
      have bad : ¬ syq B len p w (i + 1) = true → ¬ syq B len p w w = true := fun h1 h2 => h1 (syq_m (by omega) h2)
      have F1 : Fx CN ρ τ1 := hF.tr (u2.mono (fun a b c => by unfold CN; omega))
      rw [if_neg (i_nle (by omega) (by omega) (by omega)), u1, bnd_some]
      by_cases c1 : nmK B len (plp B len p i) = true
      · have hT1 : TX τ1 B len := TX_c hTτ (u2.gi (by omega)) (fun k => u2.gi (by omega))
        rw [if_pos c1, if_neg t10, px_nextByte hl hT1 u3 (by omega), bnd_some, show nI w - 1 = nI (w - 1) from pk_sub (b := 1) (by omega)]
        have esp : (if nI (w - 1) ≤ nI i then (if pkq B len (nmP B len (plp B len p i)) = 59 then lt_ (nI i + 1) (fun (x4_18 : Int32) => K c (nI w) x4_18 (Mm.si τ1 9 2 (nI (nmP B len (plp B len p i) + 1)))) else zret 0 (Mm.si τ1 9 2 (nI (nmP B len (plp B len p i) + 1)))) else (if pkq B len (nmP B len (plp B len p i)) = 44 then lt_ (nI i + 1) (fun (x4_18 : Int32) => K c (nI w) x4_18 (Mm.si τ1 9 2 (nI (nmP B len (plp B len p i) + 1)))) else zret 0 (Mm.si τ1 9 2 (nI (nmP B len (plp B len p i) + 1))))) = (if isq B len (nmP B len (plp B len p i)) (spq w i) = true then K c (nI w) (nI (i + 1)) (Mm.si τ1 9 2 (nI (nmP B len (plp B len p i) + 1))) else some (0, Mm.si τ1 9 2 (nI (nmP B len (plp B len p i) + 1)))) := by
          rw [lt_e, show nI i + 1 = nI (i + 1) from nI_add i 1, zr0]
          unfold spq
          by_cases c2 : i + 1 < w
          · rw [if_neg (i_nle (by omega) (by omega) (by omega)), if_pos c2]
            by_cases c3 : isq B len (nmP B len (plp B len p i)) 44 = true
            · rw [if_pos ((pkq_is (by decide)).mpr c3), if_pos c3]
            · rw [if_neg (fun q => c3 ((pkq_is (by decide)).mp q)), if_neg c3]
          · rw [if_pos ((i_le (by omega) (by omega)).mpr (by omega)), if_neg c2]
            by_cases c3 : isq B len (nmP B len (plp B len p i)) 59 = true
            · rw [if_pos ((pkq_is (by decide)).mpr c3), if_pos c3]
            · rw [if_neg (fun q => c3 ((pkq_is (by decide)).mp q)), if_neg c3]
        rw [esp]
        rw [c1, Bool.true_and] at es
        by_cases c2 : isq B len (nmP B len (plp B len p i)) (spq w i) = true
        · rw [if_pos c2]
          refine ih (d - 1) (by omega) (i + 1) _ (by omega) (by rw [es]; exact c2) (F1.tr (Fx.si (Or.inl ⟨rfl, rfl⟩))) (by rw [gi_s, plp_s]) (fun k hk => ?_)
          rw [gi_n (by omega)]
          by_cases e : k = i
          · subst e; exact u4
          · rw [u2.gi (by omega)]; exact hv k (by omega)
        · rw [if_neg c2]
          have hb := bad (by rw [es]; exact c2)
          exact ⟨_, by rw [if_neg hb], F1.tr (Fx.si (Or.inl ⟨rfl, rfl⟩)), fun h => absurd h hb⟩
      · rw [if_neg c1, if_pos rfl]
        have hb := bad (by rw [es, Bool.and_eq_true]; exact fun h => c1 h.1)
        exact ⟨τ1, by rw [if_neg hb, zr0], F1, fun h => absurd h hb⟩) fu w (by omega) 0 ρ (by omega) rfl Fx.rf hp (fun k hk => by omega)
theorem px_put_y {it : Nat} {c : Int32} (hit : it < 1000) (h0 : Mm.gi ρ md 0 = nI it) (h : it = 0 ↔ c = 112) : f_X4_put YF fu md c 11 ρ = bnd (f_X4_taken YF fu md c 11 ρ) (fun (r_3 : Int32) (σ_2 : Mm) => if r_3 = 0 then zret 0 σ_2 else lt_ (Mm.si σ_2 md 0 ((Mm.gi σ_2 md 0) + 1)) (fun (σ_4 : Mm) => zret 1 σ_4)) := by
  unfold f_X4_put b_X4_put_12 b_X4_put_25
  rw [h0]
  by_cases e : it = 0
  · rw [if_pos (by rw [e]; rfl), if_pos (h.mp e), if_pos rfl]
  · rw [if_neg (nI_ne0 (by omega) (by omega)), if_neg (fun q => e (h.mpr q)), if_pos rfl]
theorem px_put_n {it : Nat} {c : Int32} (hit : it < 1000) (h0 : Mm.gi ρ md 0 = nI it) (h : ¬ (it = 0 ↔ c = 112)) : f_X4_put YF fu md c 11 ρ = some (0, ρ) := by
  unfold f_X4_put b_X4_put_12 b_X4_put_25
  rw [h0]
  by_cases e : it = 0
  · rw [if_pos (by rw [e]; rfl), if_neg (fun q => h ⟨fun _ => q, fun _ => e⟩), if_neg t10]; rfl
  · have hc : c = 112 := Classical.byContradiction (fun q => h ⟨fun x => absurd x e, fun x => absurd x q⟩)
    rw [if_neg (nI_ne0 (by omega) (by omega)), if_pos hc, if_neg t01]; rfl
theorem px_isLate (a : Int32) (σ : Mm) : f_X4_isLate YF a σ = some (if -50000 ≤ a.toInt ∧ a.toInt ≤ 50000 then 1 else 0, σ) := by
  unfold f_X4_isLate
  rw [px_within, bnd_some]
  exact zri _ σ
/-- the head of an item -/
theorem px_head (hl : len ≤ 200) (hT : TX ρ B len) (hp : Mm.gi ρ 9 2 = nI p) (hpl : p < len) : f_X9_readItem YF fu 9 md ρ = bnd (f_X9_numbersOf YF (B p) (Mm.si ρ 9 2 (nI (p + 1)))) (fun (r_6 : Int32) (σ_5 : Mm) => b_X9_readItem_13 YF fu 9 md fu (B p) r_6 0 σ_5) := by
  unfold f_X9_readItem
  rw [px_nextByte hl hT hp (by omega), bnd_some]
  unfold pkq
  rw [if_pos hpl]
theorem px_numbers {w : Nat} {c : Int32} (hl : len ≤ 200) (hT : TX ρ B len) (hp : Mm.gi ρ 9 2 = nI p) (hpl : p < len) (hc : B p = c) (hw : 1 ≤ w) (hw5 : w ≤ 5) (hn : ∀ σ, f_X9_numbersOf YF c σ = some (nI w, σ)) (hfu : 20 < fu) : ∃ ρ', f_X9_readItem YF fu 9 md ρ = (if syq B len (p + 1) w w = true then putq fu md c ρ' else some (0, ρ')) ∧ Fx CN ρ ρ' ∧ (syq B len (p + 1) w w = true → Mm.gi ρ' 9 2 = nI (plp B len (p + 1) w) ∧ ∀ k, k < w → Mm.gi ρ' 11 k = nmV B len (plp B len (p + 1) k)) := by
  have F1 : Fx CN ρ (Mm.si ρ 9 2 (nI (p + 1))) := Fx.si (Or.inl ⟨rfl, rfl⟩)
  obtain ⟨ρ', u1, u2, u3⟩ := px_read13 (ρ := Mm.si ρ 9 2 (nI (p + 1))) (md := md) (c := c) (w := w) hl (TX_c hT (by rw [gi_n (by omega)]) (fun k => by rw [gi_n (by omega)])) (show Mm.gi (Mm.si ρ 9 2 (nI (p + 1))) 9 2 = nI (p + 1) by rw [gi_s]) (by omega) hw hw5 hfu
  refine ⟨ρ', ?_, F1.tr u2, u3⟩
  rw [px_head hl hT hp hpl, hc, hn, bnd_some, u1]
theorem px_item_o (hl : len ≤ 200) (hT : TX ρ B len) (hp : Mm.gi ρ 9 2 = nI p) (hpl : p < len) (h1 : ¬ B p = 99) (h2 : ¬ B p = 100) (h3 : ¬ B p = 112) (h4 : ¬ B p = 115) (h5 : ¬ B p = 122) (hfu : 20 < fu) : f_X9_readItem YF fu 9 md ρ = some (0, Mm.si ρ 9 2 (nI (p + 1))) := by
  obtain ⟨f, rfl⟩ : ∃ f, fu = f + 1 := ⟨fu - 1, by omega⟩
  rw [px_head hl hT hp hpl]
  unfold f_X9_numbersOf
  rw [if_neg h1, if_neg h2, if_neg h3, if_neg h4, if_neg h5, bnd_some]
  unfold b_X9_readItem_13
  rw [lp_s]
  unfold s_X9_readItem_13
  rw [if_pos (by decide), if_pos (by decide)]; rfl
/-- one number taken -/
theorem putq_1 {it : Nat} {c : Int32} {ok : Bool} {τ' : Mm} (hm : isM md) (hit : it < 1000) (h0 : Mm.gi ρ md 0 = nI it) (h : it = 0 ↔ c = 112) (ht : f_X4_taken YF fu md c 11 ρ = some (if ok = true then 1 else 0, τ')) (h0' : Mm.gi τ' md 0 = nI it) : putq fu md c ρ = some (if ok = true then 1 else 0, if ok = true then Mm.si τ' md 0 (nI (it + 1)) else τ') := by
  unfold putq
  rw [px_put_y hit h0 h, ht, bnd_some]
  cases ok with
  | true =>
    simp only [if_true]
    rw [if_neg t10, lt_e, h0', zr1, bnd_some, if_neg t10, zr1, show nI it + 1 = nI (it + 1) from nI_add it 1]
  | false =>
    simp only [Bool.false_eq_true, if_false, if_true]
    rw [zr0, bnd_some, if_pos rfl, zr0]
theorem putq_0 {it : Nat} {c : Int32} (hit : it < 1000) (h0 : Mm.gi ρ md 0 = nI it) (h : ¬ (it = 0 ↔ c = 112)) : putq fu md c ρ = some (0, ρ) := by
  unfold putq
  rw [px_put_n hit h0 h, bnd_some, if_pos rfl, zr0]
def inq (v : Int32) (lo hi : Int) : Bool := decide (lo ≤ v.toInt ∧ v.toInt ≤ hi)
theorem zr_b (b : Bool) (σ : Mm) : zret (if b = true then 1 else 0) σ = some (if b = true then 1 else 0, σ) := by cases b <;> rfl
theorem inb0_5 : inb 0 5 = true := rfl
theorem inb1_5 : inb 1 5 = true := rfl
theorem tk_p : f_X4_taken YF fu md 112 11 ρ = some (if inq (Mm.gi ρ 11 0) 100000 100000000 = true then 1 else 0, Mm.si ρ md 1 (Mm.gi ρ 11 0)) := by
  unfold f_X4_taken f_X4_putPeriod inq
  rw [if_neg (by decide), if_neg (by decide), if_pos rfl, Y11, if_pos inb0_5, lt_e, px_within, bnd_some, show ix 0 = 0 from rfl]
  rw [show (100000 : Int32).toInt = 100000 from rfl, show (100000000 : Int32).toInt = 100000000 from rfl]
  by_cases c : 100000 ≤ (Mm.gi ρ 11 0).toInt ∧ (Mm.gi ρ 11 0).toInt ≤ 100000000
  · rw [if_pos c, zr1, bnd_some, zr1, if_pos (decide_eq_true c)]
  · rw [if_neg c, zr0, bnd_some, zr0, if_neg (fun q => c (of_decide_eq_true q))]
theorem tk_z : f_X4_taken YF fu md 122 11 ρ = some (if (decide (Mm.gi ρ md 3 = 0) && inq (Mm.gi ρ 11 0) 0 1000000) = true then 1 else 0, if (decide (Mm.gi ρ md 3 = 0) && inq (Mm.gi ρ 11 0) 0 1000000) = true then Mm.si (Mm.si ρ md 3 1) md 2 (Mm.gi ρ 11 0) else ρ) := by
  unfold f_X4_taken f_X4_putZero inq
  rw [if_neg (by decide), if_neg (by decide), if_neg (by decide), if_neg (by decide), if_pos rfl, Y11, if_pos inb0_5, show ix 0 = 0 from rfl]
  by_cases c0 : Mm.gi ρ md 3 = 0
  · rw [if_pos c0, px_within, bnd_some, show (0 : Int32).toInt = 0 from rfl, show (1000000 : Int32).toInt = 1000000 from rfl]
    by_cases c : 0 ≤ (Mm.gi ρ 11 0).toInt ∧ (Mm.gi ρ 11 0).toInt ≤ 1000000
    · rw [if_pos c, if_neg t10, lt_e, lt_e, zr1, bnd_some, zr1, decide_eq_true c0, decide_eq_true c]; rfl
    · rw [if_neg c, if_pos rfl, zr0, bnd_some, zr0, decide_eq_true c0, decide_eq_false c]; rfl
  · rw [if_neg c0, zr0, bnd_some, zr0, decide_eq_false c0]; rfl
theorem tk_d : f_X4_taken YF fu md 100 11 ρ = some (if (decide (Mm.gi ρ md 5 = 0) && inq (Mm.gi ρ 11 0) (-100000) 100000) = true then 1 else 0, if (decide (Mm.gi ρ md 5 = 0) && inq (Mm.gi ρ 11 0) (-100000) 100000) = true then Mm.si (Mm.si ρ md 5 1) md 4 (Mm.gi ρ 11 0) else ρ) := by
  unfold f_X4_taken f_X4_putDrift inq
  rw [if_neg (by decide), if_pos rfl, Y11, if_pos inb0_5, show ix 0 = 0 from rfl]
  by_cases c0 : Mm.gi ρ md 5 = 0
  · rw [if_pos c0, px_within, bnd_some, show (-100000 : Int32).toInt = -100000 from rfl, show (100000 : Int32).toInt = 100000 from rfl]
    by_cases c : -100000 ≤ (Mm.gi ρ 11 0).toInt ∧ (Mm.gi ρ 11 0).toInt ≤ 100000
    · rw [if_pos c, if_neg t10, lt_e, lt_e, zr1, bnd_some, zr1, decide_eq_true c0, decide_eq_true c]; rfl
    · rw [if_neg c, if_pos rfl, zr0, bnd_some, zr0, decide_eq_true c0, decide_eq_false c]; rfl
  · rw [if_neg c0, zr0, bnd_some, zr0, decide_eq_false c0]; rfl
theorem tk_s {ns : Nat} (hns : ns ≤ 3) (h6 : Mm.gi ρ md 6 = nI ns) : f_X4_taken YF fu md 115 11 ρ = some (if (decide (ns < 3) && (inq (Mm.gi ρ 11 0) 0 1000000 && inq (Mm.gi ρ 11 1) (-50000) 50000)) = true then 1 else 0, if (decide (ns < 3) && (inq (Mm.gi ρ 11 0) 0 1000000 && inq (Mm.gi ρ 11 1) (-50000) 50000)) = true then Mm.si (Mm.si (Mm.si ρ (md + 1) ns (Mm.gi ρ 11 0)) (md + 2) ns (Mm.gi ρ 11 1)) md 6 (nI (ns + 1)) else ρ) := by
  unfold f_X4_taken f_X4_putSlip inq
  rw [if_neg (by decide), if_neg (by decide), if_neg (by decide), if_pos rfl, Y11, if_pos inb0_5, if_pos inb1_5, show ix 0 = 0 from rfl, show ix 1 = 1 from rfl, h6]
  by_cases c0 : ns < 3
  · rw [if_neg (show ¬ (3 : Int32) ≤ nI ns from i_nle (a := 3) (by omega) (by omega) (by omega)), px_within, bnd_some, show (0 : Int32).toInt = 0 from rfl, show (1000000 : Int32).toInt = 1000000 from rfl]
    by_cases c : 0 ≤ (Mm.gi ρ 11 0).toInt ∧ (Mm.gi ρ 11 0).toInt ≤ 1000000
    · rw [if_pos c, if_neg t10, px_isLate, bnd_some]
      by_cases c2 : -50000 ≤ (Mm.gi ρ 11 1).toInt ∧ (Mm.gi ρ 11 1).toInt ≤ 50000
      · rw [if_pos c2, if_neg t10, h6, if_pos (inb_y (by omega) (by omega)), lt_e, ix_nI (by omega)]
        have e1 : Mm.gi (Mm.si ρ (md + 1) ns (Mm.gi ρ 11 0)) md 6 = nI ns := by rw [gi_n (by omega)]; exact h6
        rw [e1, if_pos (inb_y (by omega) (by omega)), lt_e, lt_e, ix_nI (by omega)]
        have e2 : Mm.gi (Mm.si (Mm.si ρ (md + 1) ns (Mm.gi ρ 11 0)) (md + 2) ns (Mm.gi ρ 11 1)) md 6 = nI ns := by rw [gi_n (by omega)]; exact e1
        rw [e2, zr1, bnd_some, zr1, show nI ns + 1 = nI (ns + 1) from nI_add ns 1, decide_eq_true c0, decide_eq_true c, decide_eq_true c2]; rfl
      · rw [if_neg c2, if_pos rfl, zr0, bnd_some, zr0, decide_eq_true c0, decide_eq_true c, decide_eq_false c2]; rfl
    · rw [if_neg c, if_pos rfl, zr0, bnd_some, zr0, decide_eq_true c0, decide_eq_false c]; rfl
  · rw [if_pos (show (3 : Int32) ≤ nI ns from (i_le (a := 3) (by omega) (by omega)).mpr (by omega)), zr0, bnd_some, zr0, decide_eq_false c0]; rfl
def ltc (V : Nat → Int32) : Nat → Bool
  | 0 => true
  | q + 1 => ltc V q && inq (V (q + 1)) (-50000) 50000
theorem ltc_m {V : Nat → Int32} {i j : Nat} (h : i ≤ j) (hj : ltc V j = true) : ltc V i = true := by
  induction j with
  | zero => have : i = 0 := by omega
            subst this; exact hj
  | succ j ih =>
    by_cases e : i = j + 1
    · subst e; exact hj
    · rw [show ltc V (j + 1) = (ltc V j && inq (V (j + 1)) (-50000) 50000) from rfl, Bool.and_eq_true] at hj
      exact ih (by omega) hj.1
def CC (md nc a b : Nat) : Prop := (a = md + 4 ∧ 4 * nc ≤ b) ∨ (a = md + 3 ∧ b = nc) ∨ (a = md ∧ b = 9)
theorem tk_c {nc : Nat} {V : Nat → Int32} (hm : isM md) (hnc : nc ≤ 2) (h9 : Mm.gi ρ md 9 = nI nc) (hV : ∀ k, k < 5 → Mm.gi ρ 11 k = V k) (hfu : 20 < fu) : ∃ ρ', f_X4_taken YF fu md 99 11 ρ = some (if (decide (nc < 2) && (inq (V 0) 4 1000 && ltc V 4)) = true then 1 else 0, ρ') ∧ Fx (CC md nc) ρ ρ' ∧ ((decide (nc < 2) && (inq (V 0) 4 1000 && ltc V 4)) = true → Mm.gi ρ' md 9 = nI (nc + 1) ∧ Mm.gi ρ' (md + 3) nc = V 0 ∧ ∀ q, q < 4 → Mm.gi ρ' (md + 4) (4 * nc + q) = V (q + 1)) := by
  have hmd : 12 ≤ md := by unfold isM at hm; omega
  unfold f_X4_taken f_X4_putCompanion
  rw [if_pos rfl, Y11, h9]
  by_cases c0 : nc < 2
  · rw [if_neg (show ¬ (2 : Int32) ≤ nI nc from i_nle (a := 2) (by omega) (by omega) (by omega)), if_pos inb0_5, show ix 0 = 0 from rfl, hV 0 (by omega), px_within, bnd_some, show (4 : Int32).toInt = 4 from rfl, show (1000 : Int32).toInt = 1000 from rfl]
    by_cases c1 : 4 ≤ (V 0).toInt ∧ (V 0).toInt ≤ 1000
    · have key := lp_ind (f := s_X4_putCompanion_25 YF fu md 11) (a := fun _ _ => none) (fun d K => ∀ q τ, q + d = 4 → ltc V q = true → Fx (CC md nc) ρ τ → Mm.gi τ md 9 = nI nc → (∀ i, i < q → Mm.gi τ (md + 4) (4 * nc + i) = V (i + 1)) → ∃ ρ', K (nI q) τ = some (if ltc V 4 = true then 1 else 0, ρ') ∧ Fx (CC md nc) ρ ρ' ∧ (ltc V 4 = true → Mm.gi ρ' md 9 = nI (nc + 1) ∧ Mm.gi ρ' (md + 3) nc = V 0 ∧ ∀ q, q < 4 → Mm.gi ρ' (md + 4) (4 * nc + q) = V (q + 1))) (by
        intro d K ih q τ hq hlt hF h9 hd
        have hVτ : ∀ k, k < 5 → Mm.gi τ 11 k = V k := fun k hk => by rw [hF.gi (by unfold CC; omega)]; exact hV k hk
        unfold s_X4_putCompanion_25
        rw [Y11]
        by_cases h : q = 4
        · subst h
          refine ⟨Mm.si (Mm.si τ (md + 3) nc (V 0)) md 9 (nI (nc + 1)), ?_, (hF.tr (Fx.si (by unfold CC; omega))).tr (Fx.si (by unfold CC; omega)), fun _ => ⟨by rw [gi_s], by rw [gi_n (by omega), gi_s], fun i hi => by rw [gi_n (by omega), gi_n (by omega)]; exact hd i hi⟩⟩
          rw [if_pos (by decide), if_pos inb0_5, h9, if_pos (inb_y (by omega) (by omega)), lt_e, lt_e, ix_nI (by omega), show ix 0 = 0 from rfl, hVτ 0 (by omega), gi_n (by omega), h9, zr1, show nI nc + 1 = nI (nc + 1) from nI_add nc 1, if_pos hlt]
        · have el : ltc V (q + 1) = (ltc V q && inq (V (q + 1)) (-50000) 50000) := rfl
          rw [hlt, Bool.true_and] at el
          rw [if_neg (show ¬ (4 : Int32) ≤ nI q from i_nle (a := 4) (by omega) (by omega) (by omega)), show nI q + 1 = nI (q + 1) from nI_add q 1, if_pos (inb_y (by omega) (by omega)), ix_nI (by omega), hVτ (q + 1) (by omega), px_isLate, bnd_some]
          by_cases c2 : -50000 ≤ (V (q + 1)).toInt ∧ (V (q + 1)).toInt ≤ 50000
          · rw [if_pos c2, if_neg t10, if_pos (inb_y (by omega) (by omega)), h9, i_lit 4, i_mul, nI_add, if_pos (inb_y (by omega) (by omega)), lt_e, lt_e, ix_nI (by omega), hVτ (q + 1) (by omega), Nat.mul_comm nc 4]
            refine ih (d - 1) (by omega) (q + 1) _ (by omega) (by rw [el]; exact decide_eq_true c2) (hF.tr (Fx.si (by unfold CC; omega))) (by rw [gi_n (by omega)]; exact h9) (fun i hi => ?_)
            by_cases e : i = q
            · subst e; rw [gi_s]
            · rw [gi_n (by omega)]; exact hd i (by omega)
          · have hb : ¬ ltc V 4 = true := fun h4 => by
              have := ltc_m (show q + 1 ≤ 4 by omega) h4
              rw [el] at this
              exact c2 (of_decide_eq_true this)
            rw [if_neg c2, if_pos rfl]
            exact ⟨τ, by rw [if_neg hb, zr0], hF, fun h => absurd h hb⟩) fu 4 (by omega) 0 ρ (by omega) rfl Fx.rf h9 (fun i hi => by omega)
      obtain ⟨ρ', u1, u2, u3⟩ := key
      refine ⟨ρ', ?_, u2, fun h => ?_⟩
      · rw [if_pos c1, if_neg t10]
        change bnd (lp (s_X4_putCompanion_25 YF fu md 11) (fun _ _ => none) fu (nI 0) ρ) _ = _
        rw [u1, bnd_some, decide_eq_true c0, show inq (V 0) 4 1000 = true from decide_eq_true c1, Bool.true_and, Bool.true_and]
        exact zr_b _ _
      · rw [Bool.and_eq_true, Bool.and_eq_true] at h
        exact u3 h.2.2
    · have hb : ¬ (decide (nc < 2) && (inq (V 0) 4 1000 && ltc V 4)) = true := fun h => by
        rw [Bool.and_eq_true, Bool.and_eq_true] at h
        exact c1 (of_decide_eq_true h.2.1)
      refine ⟨ρ, ?_, Fx.rf, fun h => absurd h hb⟩
      rw [if_neg c1, if_pos rfl, zr0, bnd_some, zr0, if_neg hb]
  · have hb : ¬ (decide (nc < 2) && (inq (V 0) 4 1000 && ltc V 4)) = true := fun h => by
      rw [Bool.and_eq_true] at h
      exact c0 (of_decide_eq_true h.1)
    refine ⟨ρ, ?_, Fx.rf, fun h => absurd h hb⟩
    rw [if_pos (show (2 : Int32) ≤ nI nc from (i_le (a := 2) (by omega) (by omega)).mpr (by omega)), zr0, bnd_some, zr0, if_neg hb]
end IX
