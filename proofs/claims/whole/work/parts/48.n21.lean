/-! reading numbers -/
/-- the text: its bytes, how many -/
def TX (ρ : Mm) (B : Nat → Int32) (len : Nat) : Prop := Mm.gi ρ 9 1 = nI len ∧ ∀ i, i < len → Mm.gi ρ 10 i = B i
def TM (ρ : Mm) (B : Nat → Int32) (len : Nat) : Prop := Mm.gi ρ 595 20 = nI len ∧ ∀ i, i < len → Mm.gi ρ 613 i = B i
theorem TX_c {ρ ρ' : Mm} {B : Nat → Int32} {len : Nat} (h : TX ρ B len) (h1 : Mm.gi ρ' 9 1 = Mm.gi ρ 9 1) (h2 : ∀ k, Mm.gi ρ' 10 k = Mm.gi ρ 10 k) : TX ρ' B len := ⟨by rw [h1]; exact h.1, fun k hk => by rw [h2]; exact h.2 k hk⟩
theorem TM_c {ρ ρ' : Mm} {B : Nat → Int32} {len : Nat} (h : TM ρ B len) (h1 : Mm.gi ρ' 595 20 = Mm.gi ρ 595 20) (h2 : ∀ k, Mm.gi ρ' 613 k = Mm.gi ρ 613 k) : TM ρ' B len := ⟨by rw [h1]; exact h.1, fun k hk => by rw [h2]; exact h.2 k hk⟩
def isq (B : Nat → Int32) (len p : Nat) (c : Int32) : Bool := decide (p < len) && decide (B p = c)
def fgq (B : Nat → Int32) (len p : Nat) : Bool := decide (p < len) && (decide (48 ≤ B p) && decide (B p ≤ 57))
/-- behind the figures: how many, the number, the place -/
def dgK (B : Nat → Int32) (len : Nat) : Nat → Nat → Nat → Nat
  | 0, k, _ => k
  | r + 1, k, q => if fgq B len q = true then dgK B len r (k + 1) (q + 1) else k
def dgV (B : Nat → Int32) (len : Nat) : Nat → Int32 → Nat → Int32
  | 0, v, _ => v
  | r + 1, v, q => if fgq B len q = true then dgV B len r (10 * v + B q - 48) (q + 1) else v
def dgP (B : Nat → Int32) (len : Nat) : Nat → Nat → Nat
  | 0, q => q
  | r + 1, q => if fgq B len q = true then dgP B len r (q + 1) else q
def nmS (B : Nat → Int32) (len p : Nat) : Nat := if isq B len p 45 = true then p + 1 else p
def nmK (B : Nat → Int32) (len p : Nat) : Bool := decide (0 < dgK B len 9 0 (nmS B len p))
def nmV (B : Nat → Int32) (len p : Nat) : Int32 := if isq B len p 45 = true then -(dgV B len 9 0 (nmS B len p)) else dgV B len 9 0 (nmS B len p)
def nmP (B : Nat → Int32) (len p : Nat) : Nat := dgP B len 9 (nmS B len p)
theorem dgP_b (B : Nat → Int32) (len : Nat) : ∀ r q, q ≤ dgP B len r q ∧ (q ≤ len → dgP B len r q ≤ len) := by
  intro r
  induction r with
  | zero => intro q; exact ⟨Nat.le_refl _, fun h => h⟩
  | succ r ih =>
    intro q
    simp only [dgP]
    by_cases h : fgq B len q = true
    · rw [if_pos h]
      have h2 := h
      unfold fgq at h2
      rw [Bool.and_eq_true, decide_eq_true_iff] at h2
      have := ih (q + 1)
      exact ⟨by omega, fun _ => this.2 (by omega)⟩
    · rw [if_neg h]; exact ⟨Nat.le_refl _, fun h => h⟩
theorem isq_lt {B : Nat → Int32} {len p : Nat} {c : Int32} (h : isq B len p c = true) : p < len ∧ B p = c := by
  unfold isq at h
  rw [Bool.and_eq_true, decide_eq_true_iff, decide_eq_true_iff] at h
  exact h
theorem nmP_b (B : Nat → Int32) (len p : Nat) : p ≤ nmP B len p ∧ (p ≤ len → nmP B len p ≤ len) := by
  unfold nmP nmS
  by_cases h : isq B len p 45 = true
  · rw [if_pos h]
    have h1 := (isq_lt h).1
    have := dgP_b B len 9 (p + 1)
    exact ⟨by omega, fun _ => this.2 (by omega)⟩
  · rw [if_neg h]; exact dgP_b B len 9 p
theorem lp_zn {c : Prop} [Decidable c] {v : Int32} {σ : Mm} (h : (if c then (1 : Int32) else 0) = v) : zret v σ = some (v, σ) := by
  rw [← h]; exact zri c σ
section RN
variable {ρ : Mm} {B : Nat → Int32} {len p fu : Nat}
/-- what stands at the place, in the class -/
def pkq (B : Nat → Int32) (len p : Nat) : Int32 := if p < len then B p else -1
theorem px_peek (hl : len ≤ 200) (hT : TX ρ B len) (hp : Mm.gi ρ 9 2 = nI p) (hpb : p < 1000) : f_X9_peek YF 9 ρ = some (pkq B len p, ρ) := by
  unfold f_X9_peek pkq
  rw [hT.1, hp]
  by_cases c : p < len
  · rw [if_neg (i_nle (by omega) (by omega) (by omega)), if_pos (inb_y (by omega) (by omega)), ix_nI (by omega), hT.2 p c, if_pos c]
  · rw [if_pos ((i_le (by omega) (by omega)).mpr (by omega)), if_neg c]
theorem px_nextByte (hl : len ≤ 200) (hT : TX ρ B len) (hp : Mm.gi ρ 9 2 = nI p) (hpb : p < 1000) : f_X9_nextByte YF 9 ρ = some (pkq B len p, Mm.si ρ 9 2 (nI (p + 1))) := by
  unfold f_X9_nextByte
  rw [px_peek hl hT hp hpb, bnd_some, lt_e, hp, show nI p + 1 = nI (p + 1) from nI_add p 1]
theorem pkq_is {c : Int32} (hc : c ≠ -1) : (pkq B len p = c) ↔ isq B len p c = true := by
  unfold pkq isq
  by_cases h : p < len
  · rw [if_pos h]; simp [h]
  · rw [if_neg h]; simp [h]; exact fun e => hc e.symm
theorem px_isFig : f_X9_isFigure YF (pkq B len p) ρ = some (if fgq B len p = true then 1 else 0, ρ) := by
  unfold f_X9_isFigure pkq fgq
  by_cases h : p < len
  · rw [if_pos h]
    by_cases c1 : B p < 48
    · rw [if_pos c1, if_neg (by simp [h]; intro q; rw [Int32.lt_iff_toInt_lt] at c1; rw [Int32.le_iff_toInt_le] at q; omega)]; rfl
    · rw [if_neg c1]
      by_cases c2 : 57 < B p
      · rw [if_pos c2, if_neg (by simp [h]; intro q; rw [Int32.lt_iff_toInt_lt] at c2 ⊢; omega)]; rfl
      · rw [if_neg c2, if_pos (by simp [h]; exact ⟨Int32.not_lt.mp c1, Int32.not_lt.mp c2⟩)]; rfl
  · rw [if_neg h, if_pos (by decide), if_neg (by simp [h])]; rfl
theorem Y11 : (YF 11).2 = 5 := rfl
theorem px_readNumber (hl : len ≤ 200) (hT : TX ρ B len) (hp : Mm.gi ρ 9 2 = nI p) (hpb : p ≤ len + 1) {i : Nat} (hi : i < 5) (hfu : 20 < fu) : ∃ ρ', f_X9_readNumber YF fu 9 (nI i) ρ = some (if nmK B len p = true then 1 else 0, ρ') ∧ Fx (fun a b => (a = 9 ∧ b = 2) ∨ (a = 11 ∧ b = i)) ρ ρ' ∧ Mm.gi ρ' 9 2 = nI (nmP B len p) ∧ Mm.gi ρ' 11 i = nmV B len p := by
  have key : ∀ (neg : Int32) (τ : Mm) (q : Nat), Fx (fun a b => (a = 9 ∧ b = 2) ∨ (a = 11 ∧ b = i)) ρ τ → Mm.gi τ 9 2 = nI q → q ≤ len + 1 → ∃ ρ', b_X9_readNumber_29 YF fu 9 (nI i) neg τ = some (if 0 < dgK B len 9 0 q then 1 else 0, ρ') ∧ Fx (fun a b => (a = 9 ∧ b = 2) ∨ (a = 11 ∧ b = i)) ρ ρ' ∧ Mm.gi ρ' 9 2 = nI (dgP B len 9 q) ∧ Mm.gi ρ' 11 i = if neg = 0 then dgV B len 9 0 q else -(dgV B len 9 0 q) := by
    intro neg τ q hF hq hqb
    have fin : ∀ (k : Nat) (v : Int32) (τ : Mm) (q2 : Nat), k ≤ 9 → Fx (fun a b => (a = 9 ∧ b = 2) ∨ (a = 11 ∧ b = i)) ρ τ → Mm.gi τ 9 2 = nI q2 → ∃ ρ', b_X9_readNumber_70 YF fu 9 (nI i) neg v (nI k) τ = some (if 0 < k then 1 else 0, ρ') ∧ Fx (fun a b => (a = 9 ∧ b = 2) ∨ (a = 11 ∧ b = i)) ρ ρ' ∧ Mm.gi ρ' 9 2 = nI q2 ∧ Mm.gi ρ' 11 i = if neg = 0 then v else -v := by
      intro k v τ q2 hk hF hq2
      have g85 : ∀ t0 : Int32, ∃ ρ', b_X9_readNumber_85 YF fu 9 (nI i) (nI k) t0 (nI i) 11 τ = some (if 0 < k then 1 else 0, ρ') ∧ Fx (fun a b => (a = 9 ∧ b = 2) ∨ (a = 11 ∧ b = i)) ρ ρ' ∧ Mm.gi ρ' 9 2 = nI q2 ∧ Mm.gi ρ' 11 i = t0 := by
        intro t0
        refine ⟨Mm.si τ 11 i t0, ?_, hF.tr (Fx.si (Or.inr ⟨rfl, rfl⟩)), by rw [gi_n (by omega)]; exact hq2, by rw [gi_s]⟩
        unfold b_X9_readNumber_85
        rw [Y11, if_pos (inb_y (by omega) (by omega)), lt_e, ix_nI (by omega)]
        by_cases c : 0 < k
        · rw [if_neg (nI_nle c (by omega)), if_pos c]; rfl
        · rw [if_pos (show nI k ≤ 0 from (i_le (b := 0) (by omega) (by omega)).mpr (by omega)), if_neg c]; rfl
      unfold b_X9_readNumber_70
      by_cases c : neg = 0
      · rw [if_pos c, if_pos c]; exact g85 v
      · rw [if_neg c, if_neg c]; exact g85 (-v)
    have loop := lp_ind (f := s_X9_readNumber_34 YF fu 9 (nI i)) (a := fun _ _ _ _ => none) (fun d K => ∀ (k q : Nat) (v : Int32) (τ : Mm), k + d = 9 → Fx (fun a b => (a = 9 ∧ b = 2) ∨ (a = 11 ∧ b = i)) ρ τ → Mm.gi τ 9 2 = nI q → q ≤ len + 1 → ∃ ρ', K neg v (nI k) τ = some (if 0 < dgK B len d k q then 1 else 0, ρ') ∧ Fx (fun a b => (a = 9 ∧ b = 2) ∨ (a = 11 ∧ b = i)) ρ ρ' ∧ Mm.gi ρ' 9 2 = nI (dgP B len d q) ∧ Mm.gi ρ' 11 i = if neg = 0 then dgV B len d v q else -(dgV B len d v q)) (by
      intro d K ih k q v τ hk hF hq hqb
      unfold s_X9_readNumber_34
      cases d with
      | zero =>
        rw [if_pos (show (9 : Int32) ≤ nI k from (i_le (a := 9) (by omega) (by omega)).mpr (by omega))]
        exact fin k v τ q (by omega) hF hq
      | succ d =>
        have hTτ : TX τ B len := TX_c hT (hF.gi (by omega)) (fun k => hF.gi (by omega))
        rw [if_neg (show ¬ (9 : Int32) ≤ nI k from i_nle (a := 9) (by omega) (by omega) (by omega)), px_peek hl hTτ hq (by omega), bnd_some, px_isFig, bnd_some]
        simp only [dgK, dgV, dgP]
        by_cases c : fgq B len q = true
        · have hql : q < len := by
            unfold fgq at c
            rw [Bool.and_eq_true, decide_eq_true_iff] at c
            exact c.1
          have hpk : pkq B len q = B q := by unfold pkq; rw [if_pos hql]
          simp only [c, if_true]
          rw [if_neg t10, px_nextByte hl hTτ hq (by omega), bnd_some, lt_e, lt_e, hpk, show nI k + 1 = nI (k + 1) from nI_add k 1]
          exact ih d (by omega) (k + 1) (q + 1) _ _ (by omega) (hF.tr (Fx.si (Or.inl ⟨rfl, rfl⟩))) (by rw [gi_s]) (by omega)
        · simp only [c, if_false]
          rw [if_pos (by decide)]
          exact fin k v τ q (by omega) hF hq) fu 9 (by omega)
    exact loop 0 q 0 τ (by omega) hF hq hqb
  unfold f_X9_readNumber b_X9_readNumber_14
  rw [px_peek hl hT hp (by omega), bnd_some]
  unfold nmK nmP nmV nmS
  by_cases c : isq B len p 45 = true
  · have h1 := (isq_lt c).1
    simp only [c, if_true]
    rw [if_pos ((pkq_is (by decide)).mpr c), if_neg t10, lt_e, hp, show nI p + 1 = nI (p + 1) from nI_add p 1]
    obtain ⟨ρ', u1, u2, u3, u4⟩ := key 1 (Mm.si ρ 9 2 (nI (p + 1))) (p + 1) (Fx.si (Or.inl ⟨rfl, rfl⟩)) (by rw [gi_s]) (by omega)
    refine ⟨ρ', ?_, u2, u3, by rw [u4, if_neg t10]⟩
    rw [u1]
    by_cases k : 0 < dgK B len 9 0 (p + 1) <;> simp [k]
  · rw [if_neg (fun q => c ((pkq_is (by decide)).mp q)), if_pos rfl]
    simp only [c, Bool.false_eq_true, if_false]
    obtain ⟨ρ', u1, u2, u3, u4⟩ := key 0 ρ p Fx.rf hp hpb
    refine ⟨ρ', ?_, u2, u3, by rw [u4, if_pos rfl]⟩
    rw [u1]
    by_cases k : 0 < dgK B len 9 0 p <;> simp [k]
/-! the same in the reference -/
theorem pm_isAt (hl : len ≤ 200) (hT : TM ρ B len) (hp : Mm.gi ρ 595 23 = nI p) (hpb : p < 1000) (c : Int32) : f_X12_isAt YF 595 c ρ = some (if isq B len p c = true then 1 else 0, ρ) := by
  unfold f_X12_isAt isq
  rw [hT.1, hp]
  by_cases h : p < len
  · rw [if_neg (i_nle (by omega) (by omega) (by omega)), if_pos (inb_y (by omega) (by omega)), ix_nI (by omega), hT.2 p h]
    by_cases e : B p = c
    · rw [if_pos e, if_pos (by simp [h, e])]; rfl
    · rw [if_neg e, if_neg (by simp [h, e])]; rfl
  · rw [if_pos ((i_le (by omega) (by omega)).mpr (by omega)), if_neg (by simp [h])]; rfl
theorem pm_skip (hl : len ≤ 200) (hT : TM ρ B len) (hp : Mm.gi ρ 595 23 = nI p) (hpb : p < 1000) (c : Int32) : f_X12_skip YF 595 c ρ = some (if isq B len p c = true then 1 else 0, Mm.si ρ 595 23 (nI (if isq B len p c = true then p + 1 else p))) := by
  unfold f_X12_skip
  rw [pm_isAt hl hT hp hpb c, bnd_some]
  by_cases h : isq B len p c = true
  · rw [if_pos h, if_pos h, if_neg t10, lt_e, hp, show nI p + 1 = nI (p + 1) from nI_add p 1]; rfl
  · rw [if_neg h, if_neg h, if_pos rfl, lt_e, hp, show nI p + 0 = nI p from nI_add p 0]; rfl
theorem pm_isFig (hl : len ≤ 200) (hT : TM ρ B len) (hp : Mm.gi ρ 595 23 = nI p) (hpb : p < 1000) : f_X12_isFigure YF 595 ρ = some (if fgq B len p = true then 1 else 0, ρ) := by
  unfold f_X12_isFigure fgq
  rw [hT.1, hp]
  by_cases h : p < len
  · rw [if_neg (i_nle (by omega) (by omega) (by omega)), if_pos (inb_y (by omega) (by omega)), ix_nI (by omega), hT.2 p h]
    by_cases c1 : B p < 48
    · rw [if_pos c1, if_neg (by simp [h]; intro q; rw [Int32.lt_iff_toInt_lt] at c1; rw [Int32.le_iff_toInt_le] at q; omega)]; rfl
    · rw [if_neg c1, if_pos (inb_y (by omega) (by omega))]
      by_cases c2 : 57 < B p
      · rw [if_pos c2, if_neg (by simp [h]; intro q; rw [Int32.lt_iff_toInt_lt] at c2 ⊢; omega)]; rfl
      · rw [if_neg c2, if_pos (by simp [h]; exact ⟨Int32.not_lt.mp c1, Int32.not_lt.mp c2⟩)]; rfl
  · rw [if_pos ((i_le (by omega) (by omega)).mpr (by omega)), if_neg (by simp [h])]; rfl
/-- a number between two bounds -/
def nmO (B : Nat → Int32) (len p : Nat) (lo hi : Int) : Bool := nmK B len p && decide (lo ≤ (nmV B len p).toInt ∧ (nmV B len p).toInt ≤ hi)
theorem pm_number (hl : len ≤ 200) (hT : TM ρ B len) (hp : Mm.gi ρ 595 23 = nI p) (hpb : p ≤ len + 1) {lo hi : Int32} (hfu : 20 < fu) : ∃ ρ', f_X12_number YF fu 595 lo hi ρ = some (if nmO B len p lo.toInt hi.toInt = true then 1 else 0, ρ') ∧ Fx (fun a b => a = 595 ∧ (b = 23 ∨ b = 24)) ρ ρ' ∧ Mm.gi ρ' 595 23 = nI (nmP B len p) ∧ Mm.gi ρ' 595 24 = nmV B len p := by
  have key : ∀ (neg : Int32) (τ : Mm) (q : Nat), Fx (fun a b => a = 595 ∧ (b = 23 ∨ b = 24)) ρ τ → Mm.gi τ 595 23 = nI q → q ≤ len + 1 → ∃ ρ', b_X12_number_13 YF fu 595 lo hi fu neg 0 0 τ = some (if (decide (0 < dgK B len 9 0 q) && decide (lo.toInt ≤ (if neg = 0 then dgV B len 9 0 q else -(dgV B len 9 0 q)).toInt ∧ (if neg = 0 then dgV B len 9 0 q else -(dgV B len 9 0 q)).toInt ≤ hi.toInt)) = true then 1 else 0, ρ') ∧ Fx (fun a b => a = 595 ∧ (b = 23 ∨ b = 24)) ρ ρ' ∧ Mm.gi ρ' 595 23 = nI (dgP B len 9 q) ∧ Mm.gi ρ' 595 24 = if neg = 0 then dgV B len 9 0 q else -(dgV B len 9 0 q) := by
    intro neg τ q hF hq hqb
    have fin : ∀ (k : Nat) (v : Int32) (τ : Mm) (q2 : Nat), k ≤ 9 → Fx (fun a b => a = 595 ∧ (b = 23 ∨ b = 24)) ρ τ → Mm.gi τ 595 23 = nI q2 → ∃ ρ', b_X12_number_63 YF fu 595 lo hi neg (nI k) v τ = some (if (decide (0 < k) && decide (lo.toInt ≤ (if neg = 0 then v else -v).toInt ∧ (if neg = 0 then v else -v).toInt ≤ hi.toInt)) = true then 1 else 0, ρ') ∧ Fx (fun a b => a = 595 ∧ (b = 23 ∨ b = 24)) ρ ρ' ∧ Mm.gi ρ' 595 23 = nI q2 ∧ Mm.gi ρ' 595 24 = if neg = 0 then v else -v := by
      intro k v τ q2 hk hF hq2
      have g76 : ∀ t0 : Int32, ∃ ρ', b_X12_number_76 YF fu 595 lo hi (nI k) t0 595 τ = some (if (decide (0 < k) && decide (lo.toInt ≤ t0.toInt ∧ t0.toInt ≤ hi.toInt)) = true then 1 else 0, ρ') ∧ Fx (fun a b => a = 595 ∧ (b = 23 ∨ b = 24)) ρ ρ' ∧ Mm.gi ρ' 595 23 = nI q2 ∧ Mm.gi ρ' 595 24 = t0 := by
        intro t0
        refine ⟨Mm.si τ 595 24 t0, ?_, hF.tr (Fx.si ⟨rfl, Or.inr rfl⟩), by rw [gi_n (by omega)]; exact hq2, by rw [gi_s]⟩
        unfold b_X12_number_76
        rw [lt_e, gi_s, pm_in, bnd_some, Int32.toInt_toInt64, Int32.toInt_toInt64, Int32.toInt_toInt64]
        by_cases c : 0 < k
        · rw [if_neg (nI_nle c (by omega))]
          by_cases c2 : lo.toInt ≤ t0.toInt ∧ t0.toInt ≤ hi.toInt
          · rw [if_pos c2, if_neg t10, if_pos (by simp [c, c2])]; rfl
          · rw [if_neg c2, if_pos rfl, if_neg (by rw [Bool.and_eq_true, decide_eq_true_iff, decide_eq_true_iff]; exact fun h => c2 h.2)]; rfl
        · rw [if_pos (show nI k ≤ 0 from (i_le (b := 0) (by omega) (by omega)).mpr (by omega)), if_neg (by simp [c])]; rfl
      unfold b_X12_number_63
      by_cases c : neg = 0
      · simp only [c, if_true]; exact g76 v
      · simp only [c, if_false]; exact g76 (-v)
    have loop := lp_ind (f := s_X12_number_13 YF fu 595 lo hi) (a := fun _ _ _ _ => none) (fun d K => ∀ (k q : Nat) (v : Int32) (τ : Mm), k + d = 9 → Fx (fun a b => a = 595 ∧ (b = 23 ∨ b = 24)) ρ τ → Mm.gi τ 595 23 = nI q → q ≤ len + 1 → ∃ ρ', K neg (nI k) v τ = some (if (decide (0 < dgK B len d k q) && decide (lo.toInt ≤ (if neg = 0 then dgV B len d v q else -(dgV B len d v q)).toInt ∧ (if neg = 0 then dgV B len d v q else -(dgV B len d v q)).toInt ≤ hi.toInt)) = true then 1 else 0, ρ') ∧ Fx (fun a b => a = 595 ∧ (b = 23 ∨ b = 24)) ρ ρ' ∧ Mm.gi ρ' 595 23 = nI (dgP B len d q) ∧ Mm.gi ρ' 595 24 = if neg = 0 then dgV B len d v q else -(dgV B len d v q)) (by
      intro d K ih k q v τ hk hF hq hqb
      unfold s_X12_number_13
      cases d with
      | zero =>
        rw [if_pos (show (9 : Int32) ≤ nI k from (i_le (a := 9) (by omega) (by omega)).mpr (by omega))]
        exact fin k v τ q (by omega) hF hq
      | succ d =>
        have hTτ : TM τ B len := TM_c hT (hF.gi (by omega)) (fun k => hF.gi (by omega))
        rw [if_neg (show ¬ (9 : Int32) ≤ nI k from i_nle (a := 9) (by omega) (by omega) (by omega)), pm_isFig hl hTτ hq (by omega), bnd_some]
        by_cases c : fgq B len q = true
        · have hql : q < len := by
            unfold fgq at c
            rw [Bool.and_eq_true, decide_eq_true_iff] at c
            exact c.1
          simp only [dgK, dgV, dgP, c, if_true]
          rw [if_neg t10, hq, if_pos (inb_y (by omega) (by omega)), lt_e, lt_e, lt_e, ix_nI (by omega), hTτ.2 q hql, show nI k + 1 = nI (k + 1) from nI_add k 1, show nI q + 1 = nI (q + 1) from nI_add q 1]
          exact ih d (by omega) (k + 1) (q + 1) _ _ (by omega) (hF.tr (Fx.si ⟨rfl, Or.inl rfl⟩)) (by rw [gi_s]) (by omega)
        · simp only [dgK, dgV, dgP, c, if_false]
          rw [if_pos (by decide)]
          exact fin k v τ q (by omega) hF hq) fu 9 (by omega)
    exact loop 0 q 0 τ (by omega) hF hq hqb
  unfold f_X12_number
  rw [pm_skip hl hT hp (by omega), bnd_some]
  unfold nmO nmK nmP nmV nmS
  by_cases c : isq B len p 45 = true
  · have h1 := (isq_lt c).1
    simp only [c, if_true]
    obtain ⟨ρ', u1, u2, u3, u4⟩ := key 1 (Mm.si ρ 595 23 (nI (p + 1))) (p + 1) (Fx.si ⟨rfl, Or.inl rfl⟩) (by rw [gi_s]) (by omega)
    simp only [show ¬ (1 : Int32) = 0 by decide, if_false] at u1 u4
    exact ⟨ρ', u1, u2, u3, u4⟩
  · simp only [c, if_false]
    obtain ⟨ρ', u1, u2, u3, u4⟩ := key 0 (Mm.si ρ 595 23 (nI p)) p (Fx.si ⟨rfl, Or.inl rfl⟩) (by rw [gi_s]) hpb
    simp only [if_true] at u1 u4
    exact ⟨ρ', u1, u2, u3, u4⟩
end RN
