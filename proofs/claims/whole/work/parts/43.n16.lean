/-! orders -/
theorem nx_or (a b : Nat) : nI a ||| nI b = nI (a ||| b) := by
  apply Int32.toBitVec_inj.mp
  rw [Int32.toBitVec_or]
  show BitVec.ofNat 32 a ||| BitVec.ofNat 32 b = BitVec.ofNat 32 (a ||| b)
  apply BitVec.eq_of_getLsbD_eq
  intro i hi
  simp [BitVec.getLsbD_or, BitVec.getLsbD_ofNat, hi]
theorem sw_bit0 {s i : Nat} (hs : s < 2 ^ 31) (hi : i < 32) : (((nI s >>> (nI i &&& 31)) &&& 1) = 0) ↔ s.testBit i = false := by
  have h1 : s / 2 ^ i ≤ s := Nat.div_le_self _ _
  rw [pk_shrN hs (nI i &&& 31) i (sw_s i hi), pk_andN (by omega) (m := 1) 1 rfl, Nat.testBit_eq_decide_div_mod_eq, decide_eq_false_iff_not]
  have h2 := i_eq (a := s / 2 ^ i % 2 ^ 1) (b := 0) (by omega) (by omega)
  constructor
  · intro h
    have := h2.mp h
    omega
  · intro h
    exact h2.mpr (by omega)
def frq (u : Nat) : Nat → Nat
  | 0 => 0
  | m + 1 => frq u m + if u.testBit m = true then 0 else 1
theorem frq_s (u m : Nat) : frq u (m + 1) = frq u m + if u.testBit m = true then 0 else 1 := rfl
def nthq (u w : Nat) : Nat → Nat
  | 0 => 0
  | m + 1 => if u.testBit m = false ∧ frq u m = w then m else nthq u w m
theorem nthq_s (u w m : Nat) : nthq u w (m + 1) = if u.testBit m = false ∧ frq u m = w then m else nthq u w m := rfl
theorem frq_m (u : Nat) {a b : Nat} (h : a ≤ b) : frq u a ≤ frq u b := by
  induction b with
  | zero => have : a = 0 := by omega
            subst this; exact Nat.le_refl _
  | succ b ih =>
    by_cases e : a = b + 1
    · subst e; exact Nat.le_refl _
    · rw [frq_s]; have := ih (by omega); omega
theorem frq_f {u a b : Nat} (h : a < b) (hf : u.testBit a = false) : frq u a < frq u b := by
  have h1 := frq_m u (show a + 1 ≤ b from h)
  rw [frq_s, hf] at h1
  simp at h1
  omega
theorem nthq_of {u w j : Nat} (hf : u.testBit j = false) (hw : frq u j = w) : ∀ {n : Nat}, j < n → nthq u w n = j := by
  intro n
  induction n with
  | zero => intro h; omega
  | succ n ih =>
    intro h
    rw [nthq_s]
    by_cases c : u.testBit n = false ∧ frq u n = w
    · rw [if_pos c]
      by_cases e : j = n
      · exact e.symm
      · have := frq_f (show j < n by omega) hf
        omega
    · rw [if_neg c]
      by_cases e : j = n
      · subst e; exact absurd ⟨hf, hw⟩ c
      · exact ih (by omega)
theorem nthq_p {u w : Nat} : ∀ {n : Nat}, w < frq u n → nthq u w n < n ∧ u.testBit (nthq u w n) = false ∧ frq u (nthq u w n) = w := by
  intro n
  induction n with
  | zero => intro h; simp [frq] at h
  | succ n ih =>
    intro h
    rw [nthq_s]
    by_cases c : u.testBit n = false ∧ frq u n = w
    · rw [if_pos c]; exact ⟨by omega, c.1, c.2⟩
    · rw [if_neg c]
      have h2 : w < frq u n := by
        rw [frq_s] at h
        cases hb : u.testBit n with
        | false => rw [hb] at h c; simp at h c; omega
        | true => rw [hb] at h; simpa using h
      obtain ⟨a, b⟩ := ih h2
      exact ⟨by omega, b⟩
theorem tb_or {u j i : Nat} : (u ||| 2 ^ j).testBit i = (u.testBit i || decide (j = i)) := by rw [Nat.testBit_or, Nat.testBit_two_pow]
theorem frq_or {u j : Nat} (hf : u.testBit j = false) : ∀ m, frq (u ||| 2 ^ j) m + (if j < m then 1 else 0) = frq u m := by
  intro m
  induction m with
  | zero => simp [frq]
  | succ m ih =>
    rw [frq_s, frq_s, tb_or]
    by_cases e : j = m
    · subst e
      rw [hf]
      simp at ih ⊢
      omega
    · have : decide (j = m) = false := decide_eq_false e
      rw [this, Bool.or_false]
      by_cases c : j < m
      · rw [if_pos c] at ih
        rw [if_pos (show j < m + 1 by omega)]
        omega
      · rw [if_neg c] at ih
        rw [if_neg (show ¬ j < m + 1 by omega)]
        omega
def sfq (u : Nat) (f : Nat → Nat) : Nat → Nat
  | 0 => 0
  | m + 1 => sfq u f m + if u.testBit m = true then 0 else f m
theorem sfq_s (u : Nat) (f : Nat → Nat) (m : Nat) : sfq u f (m + 1) = sfq u f m + if u.testBit m = true then 0 else f m := rfl
def smq (g : Nat → Nat) : Nat → Nat
  | 0 => 0
  | m + 1 => smq g m + g m
theorem sfq_e {u : Nat} {f g : Nat → Nat} : ∀ {n : Nat}, (∀ j, j < n → u.testBit j = false → g (frq u j) = f j) → smq g (frq u n) = sfq u f n := by
  intro n
  induction n with
  | zero => intro _; rfl
  | succ n ih =>
    intro h
    rw [frq_s, sfq_s, ← ih (fun j hj => h j (by omega))]
    cases hb : u.testBit n with
    | true => simp
    | false =>
      simp only [Bool.false_eq_true, if_false]
      rw [← h n (by omega) hb]
      rfl
theorem smq_add (f g : Nat → Nat) : ∀ c, smq (fun w => f w + g w) c = smq f c + smq g c := by
  intro c
  induction c with
  | zero => rfl
  | succ c ih => simp only [smq, ih]; omega
theorem smq_0 : ∀ c, smq (fun _ => 0) c = 0 := by
  intro c
  induction c with
  | zero => rfl
  | succ c ih => simp only [smq, ih]
theorem cnt_sm (P : Nat → Bool) : ∀ c, cntq P c = smq (fun s => if P s = true then 1 else 0) c := by
  intro c
  induction c with
  | zero => rfl
  | succ c ih => rw [cntq_s, ih]; rfl
theorem cnt_mod (P : Nat → Bool) (c : Nat) : ∀ m, cntq P (c * m) = smq (fun w => cntq (fun q => P (w + c * q)) m) c := by
  intro m
  induction m with
  | zero => exact (smq_0 c).symm
  | succ m ih =>
    rw [Nat.mul_succ, cntq_add, ih, cnt_sm (fun s => P (c * m + s)), ← smq_add]
    congr 1
    funext w
    rw [cntq_s, Nat.add_comm (c * m) w]
def pvq (R S : Nat → Int) (n : Nat) : Nat → Nat → Nat → Nat → Int
  | 0, _, _, _ => 0
  | d + 1, k, u, num => R k * S (nthq u (num % (d + 1)) n) + pvq R S n d (k + 1) (u ||| 2 ^ nthq u (num % (d + 1)) n) (num / (d + 1))
theorem pvq_s (R S : Nat → Int) (n d k u num : Nat) : pvq R S n (d + 1) k u num = R k * S (nthq u (num % (d + 1)) n) + pvq R S n d (k + 1) (u ||| 2 ^ nthq u (num % (d + 1)) n) (num / (d + 1)) := rfl
def acq (R S : Nat → Int) (n : Nat) : Nat → Nat → Nat → Int → Nat
  | 0, _, _, goal => if goal ≤ 0 then 1 else 0
  | d + 1, k, u, goal => sfq u (fun j => acq R S n d (k + 1) (u ||| 2 ^ j) (goal - R k * S j)) n
theorem acq_s (R S : Nat → Int) (n d k u : Nat) (goal : Int) : acq R S n (d + 1) k u goal = sfq u (fun j => acq R S n d (k + 1) (u ||| 2 ^ j) (goal - R k * S j)) n := rfl
def fcq : Nat → Nat
  | 0 => 1
  | d + 1 => (d + 1) * fcq d
theorem acq_e {R S : Nat → Int} {n : Nat} : ∀ (d k u : Nat) (goal : Int), frq u n = d → acq R S n d k u goal = cntq (fun num => decide (goal ≤ pvq R S n d k u num)) (fcq d) := by
  intro d
  induction d with
  | zero =>
    intro k u goal _
    show (if goal ≤ 0 then 1 else 0) = 0 + (if decide (goal ≤ 0) = true then 1 else 0)
    by_cases c : goal ≤ 0 <;> simp [c]
  | succ d ih =>
    intro k u goal hfr
    rw [acq_s]
    show _ = cntq (fun num => decide (goal ≤ pvq R S n (d + 1) k u num)) ((d + 1) * fcq d)
    rw [cnt_mod]
    have h := sfq_e (u := u) (n := n) (f := fun j => acq R S n d (k + 1) (u ||| 2 ^ j) (goal - R k * S j)) (g := fun w => cntq (fun q => decide (goal ≤ pvq R S n (d + 1) k u (w + (d + 1) * q))) (fcq d)) (by
      intro j hj hf
      have hw : frq u j < d + 1 := by rw [← hfr]; exact frq_f hj hf
      have ho := frq_or hf n
      rw [if_pos hj] at ho
      show cntq (fun q => decide (goal ≤ pvq R S n (d + 1) k u (frq u j + (d + 1) * q))) (fcq d) = acq R S n d (k + 1) (u ||| 2 ^ j) (goal - R k * S j)
      rw [ih (k + 1) (u ||| 2 ^ j) (goal - R k * S j) (by omega)]
      refine cntq_cg (fun q _ => ?_)
      rw [pvq_s, Nat.add_mul_mod_self_left, Nat.mod_eq_of_lt hw, Nat.add_mul_div_left _ _ (Nat.succ_pos d), Nat.div_eq_of_lt hw, Nat.zero_add, nthq_of hf rfl hj]
      generalize R k * S j = a
      generalize pvq R S n d (k + 1) (u ||| 2 ^ j) q = b
      exact decide_eq_decide.mpr (by omega))
    rw [hfr] at h
    exact h.symm
theorem two_or (k : Nat) : (2 ^ k - 1) ||| 2 ^ k = 2 ^ (k + 1) - 1 := by
  apply Nat.eq_of_testBit_eq
  intro i
  rw [tb_or, Nat.testBit_two_pow_sub_one, Nat.testBit_two_pow_sub_one]
  by_cases h : i < k
  · simp [h, show i < k + 1 by omega]
  · by_cases e : k = i
    · simp [e]
    · simp [h, e, show ¬ i < k + 1 by omega]
theorem frq_1 (k : Nat) : ∀ m, m ≤ k → frq (2 ^ k - 1) m = 0 := by
  intro m
  induction m with
  | zero => intro _; rfl
  | succ m ih => intro h; rw [frq_s, ih (by omega), Nat.testBit_two_pow_sub_one]; simp; omega
theorem pvq_0 {R S : Nat → Int} {n : Nat} : ∀ (d k : Nat), k + d = n → sumI (fun i => R i * S i) k + pvq R S n d k (2 ^ k - 1) 0 = sumI (fun i => R i * S i) n := by
  intro d
  induction d with
  | zero => intro k h; have : k = n := by omega
            subst this; simp [pvq]
  | succ d ih =>
    intro k h
    have hn : nthq (2 ^ k - 1) 0 n = k := nthq_of (by rw [Nat.testBit_two_pow_sub_one]; simp) (frq_1 k k (Nat.le_refl _)) (by omega)
    rw [pvq_s, Nat.zero_mod, Nat.zero_div, hn, two_or, ← ih (k + 1) (by omega)]
    simp only [sumI]
    omega
theorem frq_0 : ∀ n, frq 0 n = n := by
  intro n
  induction n with
  | zero => rfl
  | succ n ih => rw [frq_s, ih]; simp
theorem or_lt {u j n : Nat} (hu : u < 2 ^ n) (hj : j < n) : u ||| 2 ^ j < 2 ^ n := Nat.or_lt_two_pow hu (Nat.pow_lt_pow_right (by decide) hj)
section OR
variable {σ : Mm} {R S : Nat → Int} {n fu : Nat}
/-- the reference's orders, by number -/
theorem pm_productsBy (hn : n ≤ 7) (h54 : Mm.gi σ 595 54 = nI n) (hR : RB R n) (hS : RB S n) (hA : ∀ i, i < n → Mm.gi σ 632 i = iI (R i)) (hB : ∀ i, i < n → Mm.gi σ 633 i = iI (S i)) {num : Nat} (hnum : num < 2 ^ 31) (hfu : 100 < fu) : f_X12_productsBy YF fu 595 (nI num) σ = some (lI (pvq R S n n 0 0 num), σ) := by
  have hp : 2 ^ n ≤ 2 ^ 7 := Nat.pow_le_pow_right (by decide) hn
  have key := lp_ind (f := s_X12_productsBy_10 YF fu 595 (nI num)) (a := fun _ _ _ _ _ => none) (fun d K => ∀ k u q acc, k + d = n → frq u n = d → u < 2 ^ n → q < 2 ^ 31 → K (nI q) (nI u) (lI acc) (nI k) σ = some (lI (acc + pvq R S n d k u q), σ)) (by
    intro d K ih k u q acc hk hfr hu hq
    unfold s_X12_productsBy_10
    rw [h54]
    cases d with
    | zero =>
      rw [if_pos ((i_le (by omega) (by omega)).mpr (by omega))]
      simp [pvq]
    | succ d =>
      have hwd : q % (d + 1) < d + 1 := Nat.mod_lt _ (Nat.succ_pos d)
      have hqd : q / (d + 1) ≤ q := Nat.div_le_self _ _
      obtain ⟨j1, j2, j3⟩ := nthq_p (u := u) (w := q % (d + 1)) (n := n) (by omega)
      have hpv := pvq_s R S n d k u q
      have hor := frq_or j2 n
      have hol := or_lt hu j1
      rw [hpv, show nI n - nI k = nI (d + 1) by rw [pk_sub (by omega)]; congr 1; omega, if_neg (i_nle (by omega) (by omega) (by omega)), if_neg (nI_ne0 (by omega) (by omega)), lt_e, if_neg (nI_ne0 (by omega) (by omega)), lt_e, pk_rem hq (by omega) (by omega), pk_div hq (by omega) (by omega)]
      clear hpv
      generalize hw : q % (d + 1) = w at *
      generalize nthq u w n = j at *
      rw [if_pos j1] at hor
      have inner := lp_ind (f := s_X12_productsBy_43 YF fu 595 (nI num) K) (a := fun _ _ _ _ _ _ _ => none) (fun e K2 => ∀ a, a + e = j → K2 (nI (q / (d + 1))) (nI u) (lI acc) (nI k) (nI (w - frq u a)) (nI a) σ = K (nI (q / (d + 1))) (nI (u ||| 2 ^ j)) (lI (acc + R k * S j)) (nI (k + 1)) σ) (by
        intro e K2 ih2 a ha
        have hm := frq_m u (show a ≤ j by omega)
        unfold s_X12_productsBy_43 b_X12_productsBy_58 b_X12_productsBy_75
        cases hb : u.testBit a with
        | true =>
          have hne : a ≠ j := fun e => by rw [e, j2] at hb; cases hb
          have hs : frq u (a + 1) = frq u a := by rw [frq_s, hb]; rfl
          rw [if_pos ((sw_bit (by omega) (by omega)).mpr hb), if_pos ((sw_bit (by omega) (by omega)).mpr hb), lt_e, lt_e, Int32.sub_zero, show nI a + 1 = nI (a + 1) from nI_add a 1, ← hs]
          exact ih2 (e - 1) (by omega) (a + 1) (by omega)
        | false =>
          have hs : frq u (a + 1) = frq u a + 1 := by rw [frq_s, hb]; rfl
          have hnb : ¬ (((nI u >>> (nI a &&& 31)) &&& 1) = 1) := fun c => by rw [(sw_bit (by omega) (by omega)).mp c] at hb; cases hb
          rw [if_neg hnb]
          by_cases c : w - frq u a = 0
          · have ea : a = j := by
              rcases Nat.lt_or_ge a j with h | h
              · have := frq_f h hb; omega
              · omega
            subst ea
            have hRk := hR k (by omega)
            have hSj := hS a (by omega)
            rw [c, if_pos (show nI 0 ≤ 0 by decide), lt_e, if_pos (inb_y (by omega) (by omega)), if_pos (inb_y (by omega) (by omega)), lt_e, lt_e, sw_shl (by omega), nx_or, ix_nI (by omega), ix_nI (by omega), hA k (by omega), hB a (by omega), lI_iI (by omega) (by omega), lI_iI (by omega) (by omega), lI_mul, lI_add, show nI k + 1 = nI (k + 1) from nI_add k 1]
          · have hlt : a < j := by
              rcases Nat.lt_or_ge a j with h | h
              · exact h
              · have : a = j := by omega
                subst this; omega
            rw [if_neg (nI_nle (by omega) (by omega)), if_neg hnb, lt_e, lt_e, show nI (w - frq u a) - 1 = nI (w - frq u (a + 1)) by rw [show nI (w - frq u a) - 1 = nI (w - frq u a - 1) from pk_sub (b := 1) (by omega)]; congr 1; omega, show nI a + 1 = nI (a + 1) from nI_add a 1]
            exact ih2 (e - 1) (by omega) (a + 1) (by omega)) fu j (by omega) 0 (by omega)
      change lp (s_X12_productsBy_43 YF fu 595 (nI num) K) (fun _ _ _ _ _ _ _ => none) fu (nI (q / (d + 1))) (nI u) (lI acc) (nI k) (nI (w - 0)) (nI 0) σ = _ at inner
      rw [Nat.sub_zero] at inner
      refine inner.trans ?_
      rw [← Int.add_assoc]
      exact ih d (by omega) (k + 1) (u ||| 2 ^ j) (q / (d + 1)) (acc + R k * S j) (by omega) (by omega) hol (by omega)) fu n (by omega)
  have h0 := key 0 0 num 0 (by omega) (frq_0 n) (Nat.pow_pos (by decide)) hnum
  rw [Int.zero_add] at h0
  exact h0
/-- the class's orders -/
theorem px_from (hn : n ≤ 7) (hR : RB R n) (hS : RB S n) (hA : ∀ i, i < n → Mm.gi σ 550 i = iI (R i)) (hB : ∀ i, i < n → Mm.gi σ 551 i = iI (S i)) (hfu : 100 < fu) : ∀ (d k u : Nat) (goal : Int) (dp : Nat), k + d = n → u < 2 ^ n → d < dp → goal.natAbs ≤ (7 + k) * 1003402890000 → f_X3_asGreatFrom YF fu dp 550 551 (nI n) (nI k) (nI u) (lI goal) σ = some (nI (acq R S n d k u goal), σ) := by
  have hp : 2 ^ n ≤ 2 ^ 7 := Nat.pow_le_pow_right (by decide) hn
  intro d
  induction d with
  | zero =>
    intro k u goal dp hk hu hdp hg
    obtain ⟨dp, rfl⟩ : ∃ m, dp = m + 1 := ⟨dp - 1, by omega⟩
    show g_X3_asGreatFrom YF fu (f_X3_asGreatFrom YF fu dp) 550 551 (nI n) (nI k) (nI u) (lI goal) σ = _
    unfold g_X3_asGreatFrom b_X3_asGreatFrom_11 acq
    rw [if_pos ((i_le (by omega) (by omega)).mpr (by omega))]
    by_cases c : goal ≤ 0
    · rw [if_neg (by rw [L0, lI_lt (by omega) (by omega) (by omega) (by omega)]; omega), if_pos c]; rfl
    · rw [if_pos (by rw [L0, lI_lt (by omega) (by omega) (by omega) (by omega)]; omega), if_neg c]; rfl
  | succ d ihd =>
    intro k u goal dp hk hu hdp hg
    obtain ⟨dp, rfl⟩ : ∃ m, dp = m + 1 := ⟨dp - 1, by omega⟩
    show g_X3_asGreatFrom YF fu (f_X3_asGreatFrom YF fu dp) 550 551 (nI n) (nI k) (nI u) (lI goal) σ = _
    unfold g_X3_asGreatFrom
    rw [if_neg (i_nle (by omega) (by omega) (by omega)), if_pos (show nI k < 7 from (i_lt (b := 7) (by omega) (by omega)).mpr (by omega)), acq_s]
    exact lp_ind (f := s_X3_asGreatFrom_30 YF fu (f_X3_asGreatFrom YF fu dp) 550 551 (nI n) (nI k) (nI u) (lI goal)) (a := fun _ _ _ => none) (fun e K => ∀ j, j + e = n → K (nI (sfq u (fun j => acq R S n d (k + 1) (u ||| 2 ^ j) (goal - R k * S j)) j)) (nI j) σ = some (nI (sfq u (fun j => acq R S n d (k + 1) (u ||| 2 ^ j) (goal - R k * S j)) n), σ)) (by
      intro e K ih j hj
      unfold s_X3_asGreatFrom_30 b_X3_asGreatFrom_80
      by_cases h : n ≤ j
      · have : j = n := by omega
        subst this
        rw [if_pos ((i_le (by omega) (by omega)).mpr h)]
      · have hnx := ih (e - 1) (by omega) (j + 1) (by omega)
        rw [sfq_s] at hnx
        rw [if_neg (i_nle (by omega) (by omega) (by omega))]
        cases hb : u.testBit j with
        | true =>
          rw [hb, if_pos rfl, Nat.add_zero] at hnx
          rw [if_neg (fun c => by rw [(sw_bit0 (by omega) (by omega)).mp c] at hb; cases hb), lt_e, show nI j + 1 = nI (j + 1) from nI_add j 1]
          exact hnx
        | false =>
          have hRk := hR k (by omega)
          have hSj := hS j (by omega)
          have hm := mul_b hRk hSj
          rw [hb, if_neg (by decide)] at hnx
          rw [if_pos ((sw_bit0 (by omega) (by omega)).mpr hb), Y550, Y551, if_pos (inb_y (by omega) (by omega)), if_pos (inb_y (by omega) (by omega)), sw_shl (by omega), nx_or, ix_nI (by omega), ix_nI (by omega), hA k (by omega), hB j (by omega), lI_iI (by omega) (by omega), lI_iI (by omega) (by omega), lI_mul, lI_sub, show nI k + 1 = nI (k + 1) from nI_add k 1, ihd (k + 1) (u ||| 2 ^ j) (goal - R k * S j) dp (by omega) (or_lt hu (by omega)) (by omega) (by omega), bnd_some, lt_e, lt_e, nI_add, show nI j + 1 = nI (j + 1) from nI_add j 1]
          exact hnx) fu n (by omega) 0 (by omega)
theorem px_products (hn : n ≤ 7) (hR : RB R n) (hS : RB S n) (hA : ∀ i, i < n → Mm.gi σ 550 i = iI (R i)) (hB : ∀ i, i < n → Mm.gi σ 551 i = iI (S i)) (hfu : 100 < fu) : f_X3_products YF fu 550 551 (nI n) σ = some (lI (sumI (fun i => R i * S i) n), σ) := by
  exact lp_ind (f := s_X3_products_5 YF fu 550 551 (nI n)) (a := fun _ _ _ => none) (fun d K => ∀ j, j + d = n → K (lI (sumI (fun i => R i * S i) j)) (nI j) σ = some (lI (sumI (fun i => R i * S i) n), σ)) (by
    intro d K ih j hj
    unfold s_X3_products_5
    by_cases h : n ≤ j
    · have : j = n := by omega
      subst this
      rw [if_pos ((i_le (by omega) (by omega)).mpr h)]
    · have hRk := hR j (by omega)
      have hSj := hS j (by omega)
      rw [if_neg (i_nle (by omega) (by omega) (by omega)), Y550, Y551, if_pos (inb_y (by omega) (by omega)), if_pos (inb_y (by omega) (by omega)), lt_e, lt_e, ix_nI (by omega), hA j (by omega), hB j (by omega), lI_iI (by omega) (by omega), lI_iI (by omega) (by omega), lI_mul, lI_add, show nI j + 1 = nI (j + 1) from nI_add j 1]
      exact ih (d - 1) (by omega) (j + 1) (by omega)) fu n (by omega) 0 (by omega)
theorem px_asGreatOrders (hn : n ≤ 7) (hR : RB R n) (hS : RB S n) (hA : ∀ i, i < n → Mm.gi σ 550 i = iI (R i)) (hB : ∀ i, i < n → Mm.gi σ 551 i = iI (S i)) (hfu : 100 < fu) : f_X3_asGreatOrders YF fu 550 551 (nI n) σ = some (nI (cntq (fun num => decide (sumI (fun i => R i * S i) n ≤ pvq R S n n 0 0 num)) (fcq n)), σ) := by
  have hb := sumI_b (f := fun i => R i * S i) (B := 1003402890000) (n := n) (fun i hi => mul_b (hR i hi) (hS i hi))
  have hb2 := Nat.le_trans hb (Nat.mul_le_mul_right 1003402890000 (show n ≤ 7 + 0 from hn))
  have h := px_from hn hR hS hA hB hfu n 0 0 (sumI (fun i => R i * S i) n) 9 (Nat.zero_add n) (Nat.pow_pos (by decide)) (by omega) hb2
  unfold f_X3_asGreatOrders
  rw [px_products hn hR hS hA hB hfu, bnd_some]
  change f_X3_asGreatFrom YF fu 9 550 551 (nI n) 0 0 (lI (sumI (fun i => R i * S i) n)) σ = _ at h
  rw [h, bnd_some, acq_e n 0 0 _ (frq_0 n)]
end OR
