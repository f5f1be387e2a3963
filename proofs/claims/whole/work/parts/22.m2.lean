/-! memory words -/
theorem gi_s (σ : Mm) (o k : Nat) (v : Int32) : Mm.gi (Mm.si σ o k v) o k = v := by simp [Mm.gi, Mm.si, Mm.u2]
theorem gi_n {σ : Mm} {o k a b : Nat} {v : Int32} (h : ¬ (a = o ∧ b = k)) : Mm.gi (Mm.si σ o k v) a b = Mm.gi σ a b := by
  simp only [Mm.gi, Mm.si, Mm.u2]
  by_cases h1 : a = o
  · by_cases h2 : b = k
    · exact absurd ⟨h1, h2⟩ h
    · simp [h1, h2]
  · simp [h1]
theorem gl_i (σ : Mm) (o k a b : Nat) (v : Int32) : Mm.gl (Mm.si σ o k v) a b = Mm.gl σ a b := rfl
theorem gr_i (σ : Mm) (o k a b : Nat) (v : Int32) : Mm.gr (Mm.si σ o k v) a b = Mm.gr σ a b := rfl
theorem gi_l (σ : Mm) (o k a b : Nat) (v : Int64) : Mm.gi (Mm.sl σ o k v) a b = Mm.gi σ a b := rfl
theorem gr_l (σ : Mm) (o k a b : Nat) (v : Int64) : Mm.gr (Mm.sl σ o k v) a b = Mm.gr σ a b := rfl
theorem gi_r (σ : Mm) (o k a b v : Nat) : Mm.gi (Mm.sr σ o k v) a b = Mm.gi σ a b := rfl
theorem gl_r (σ : Mm) (o k a b v : Nat) : Mm.gl (Mm.sr σ o k v) a b = Mm.gl σ a b := rfl
theorem gl_s (σ : Mm) (o k : Nat) (v : Int64) : Mm.gl (Mm.sl σ o k v) o k = v := by simp [Mm.gl, Mm.sl, Mm.u2]
theorem gl_n {σ : Mm} {o k a b : Nat} {v : Int64} (h : ¬ (a = o ∧ b = k)) : Mm.gl (Mm.sl σ o k v) a b = Mm.gl σ a b := by
  simp only [Mm.gl, Mm.sl, Mm.u2]
  by_cases h1 : a = o
  · by_cases h2 : b = k
    · exact absurd ⟨h1, h2⟩ h
    · simp [h1, h2]
  · simp [h1]
theorem gr_s (σ : Mm) (o k v : Nat) : Mm.gr (Mm.sr σ o k v) o k = v := by simp [Mm.gr, Mm.sr, Mm.u2]
theorem gr_n {σ : Mm} {o k a b v : Nat} (h : ¬ (a = o ∧ b = k)) : Mm.gr (Mm.sr σ o k v) a b = Mm.gr σ a b := by
  simp only [Mm.gr, Mm.sr, Mm.u2]
  by_cases h1 : a = o
  · by_cases h2 : b = k
    · exact absurd ⟨h1, h2⟩ h
    · simp [h1, h2]
  · simp [h1]
/-- from σ to σ' nothing changes outside C -/
def Fx (C : Nat → Nat → Prop) (σ σ' : Mm) : Prop := ∀ o k, ¬ C o k → Mm.gi σ' o k = Mm.gi σ o k ∧ Mm.gl σ' o k = Mm.gl σ o k ∧ Mm.gr σ' o k = Mm.gr σ o k
theorem Fx.rf {C : Nat → Nat → Prop} {σ : Mm} : Fx C σ σ := fun _ _ _ => ⟨rfl, rfl, rfl⟩
theorem Fx.tr {C : Nat → Nat → Prop} {σ σ1 σ2 : Mm} (h : Fx C σ σ1) (h2 : Fx C σ1 σ2) : Fx C σ σ2 := fun o k hc => ⟨(h2 o k hc).1.trans (h o k hc).1, (h2 o k hc).2.1.trans (h o k hc).2.1, (h2 o k hc).2.2.trans (h o k hc).2.2⟩
theorem Fx.mono {C D : Nat → Nat → Prop} {σ σ' : Mm} (h : Fx C σ σ') (hCD : ∀ o k, C o k → D o k) : Fx D σ σ' := fun o k hd => h o k (fun hc => hd (hCD o k hc))
theorem Fx.si {C : Nat → Nat → Prop} {σ : Mm} {o k : Nat} {v : Int32} (h : C o k) : Fx C σ (Mm.si σ o k v) := fun a b hc => ⟨gi_n (fun e => hc (by rw [e.1, e.2]; exact h)), rfl, rfl⟩
theorem Fx.sl {C : Nat → Nat → Prop} {σ : Mm} {o k : Nat} {v : Int64} (h : C o k) : Fx C σ (Mm.sl σ o k v) := fun a b hc => ⟨rfl, gl_n (fun e => hc (by rw [e.1, e.2]; exact h)), rfl⟩
theorem Fx.sr {C : Nat → Nat → Prop} {σ : Mm} {o k v : Nat} (h : C o k) : Fx C σ (Mm.sr σ o k v) := fun a b hc => ⟨rfl, rfl, gr_n (fun e => hc (by rw [e.1, e.2]; exact h))⟩
theorem Fx.gi {C : Nat → Nat → Prop} {σ σ' : Mm} (h : Fx C σ σ') {o k : Nat} (hc : ¬ C o k) : Mm.gi σ' o k = Mm.gi σ o k := (h o k hc).1
theorem Fx.gl {C : Nat → Nat → Prop} {σ σ' : Mm} (h : Fx C σ σ') {o k : Nat} (hc : ¬ C o k) : Mm.gl σ' o k = Mm.gl σ o k := (h o k hc).2.1
theorem Fx.gr {C : Nat → Nat → Prop} {σ σ' : Mm} (h : Fx C σ σ') {o k : Nat} (hc : ¬ C o k) : Mm.gr σ' o k = Mm.gr σ o k := (h o k hc).2.2
/-! numbers -/
theorem i_lit (n : Nat) : (OfNat.ofNat n : Int32) = nI n := rfl
theorem i_mul (a b : Nat) : nI a * nI b = nI (a * b) := pk_mul a b
theorem ix_nI {n : Nat} (h : n < 2 ^ 31) : ix (nI n) = n := nI_clamp h
theorem inb_iff {n N : Nat} (h : n < 2 ^ 31) : (inb (nI n) N = true) ↔ n < N := by
  unfold inb
  rw [nI_clamp h]
  simp [nI_pos h]
theorem i_le {a b : Nat} (ha : a < 2 ^ 31) (hb : b < 2 ^ 31) : nI a ≤ nI b ↔ a ≤ b := nI_leI ha hb
theorem i_lt {a b : Nat} (ha : a < 2 ^ 31) (hb : b < 2 ^ 31) : nI a < nI b ↔ a < b := nI_ltI ha hb
theorem i_eq {a b : Nat} (ha : a < 2 ^ 31) (hb : b < 2 ^ 31) : nI a = nI b ↔ a = b := nI_eq ha hb
/-! small steps -/
theorem zr0 (σ : Mm) : zret 0 σ = some (0, σ) := rfl
theorem zr1 (σ : Mm) : zret 1 σ = some (1, σ) := rfl
theorem zri (c : Prop) [Decidable c] (σ : Mm) : zret (if c then 1 else 0) σ = some (if c then 1 else 0, σ) := by
  by_cases h : c
  · simp only [if_pos h]; rfl
  · simp only [if_neg h]; rfl
theorem px_within (a b c : Int32) (σ : Mm) : f_X11_within YF a b c σ = some (if b.toInt ≤ a.toInt ∧ a.toInt ≤ c.toInt then 1 else 0, σ) := by
  unfold f_X11_within
  by_cases h1 : a < b
  · rw [if_pos h1, if_neg (by rw [Int32.lt_iff_toInt_lt] at h1; omega)]; rfl
  · rw [if_neg h1]
    by_cases h2 : c < a
    · rw [if_pos h2, if_neg (by rw [Int32.lt_iff_toInt_lt] at h2; omega)]; rfl
    · rw [if_neg h2, if_pos (by rw [Int32.lt_iff_toInt_lt] at h1 h2; omega)]; rfl
theorem pm_in (a b c : Int64) (σ : Mm) : f_X12_in YF a b c σ = some (if b.toInt ≤ a.toInt ∧ a.toInt ≤ c.toInt then 1 else 0, σ) := by
  unfold f_X12_in
  by_cases h1 : a < b
  · rw [if_pos h1, if_neg (by rw [Int64.lt_iff_toInt_lt] at h1; omega)]; rfl
  · rw [if_neg h1]
    by_cases h2 : c < a
    · rw [if_pos h2, if_neg (by rw [Int64.lt_iff_toInt_lt] at h2; omega)]; rfl
    · rw [if_neg h2, if_pos (by rw [Int64.lt_iff_toInt_lt] at h1 h2; omega)]; rfl
theorem px_isStar (a : Int32) (σ : Mm) : f_X11_isStar YF a σ = some (if 0 ≤ a.toInt ∧ a.toInt ≤ 3 then 1 else 0, σ) := by
  unfold f_X11_isStar
  rw [px_within, bnd_some]
  exact zri _ σ
theorem px_isInstrument (a : Int32) (σ : Mm) : f_X11_isInstrument YF a σ = some (if 0 ≤ a.toInt ∧ a.toInt ≤ 2 then 1 else 0, σ) := by
  unfold f_X11_isInstrument
  rw [px_within, bnd_some]
  exact zri _ σ
theorem px_isPlace (a : Int32) (σ : Mm) : f_X11_isPlace YF a σ = some (if 0 ≤ a.toInt ∧ a.toInt ≤ 23 then 1 else 0, σ) := by
  unfold f_X11_isPlace
  rw [px_within, bnd_some]
  exact zri _ σ
theorem pm_isStar (a : Int32) (σ : Mm) : f_X12_isStar YF a σ = some (if 0 ≤ a.toInt ∧ a.toInt ≤ 3 then 1 else 0, σ) := by
  unfold f_X12_isStar
  rw [pm_in, bnd_some, Int32.toInt_toInt64]
  exact zri _ σ
theorem pm_isTool (a : Int32) (σ : Mm) : f_X12_isTool YF a σ = some (if 0 ≤ a.toInt ∧ a.toInt ≤ 2 then 1 else 0, σ) := by
  unfold f_X12_isTool
  rw [pm_in, bnd_some, Int32.toInt_toInt64]
  exact zri _ σ
theorem b10 {c : Prop} [Decidable c] : ((if c then (1 : Int32) else 0) = 0) ↔ ¬ c := by
  by_cases h : c <;> simp [h]
/-- a number between 0 and n, as nI -/
theorem i_in {a : Int32} {n : Nat} (h0 : 0 ≤ a.toInt) (h1 : a.toInt ≤ n) (hn : n < 2 ^ 31) : ∃ k, k ≤ n ∧ a = nI k := by
  refine ⟨a.toInt.toNat, by omega, ?_⟩
  apply Int32.toInt_inj.mp
  rw [nI_toInt (by omega)]
  omega
