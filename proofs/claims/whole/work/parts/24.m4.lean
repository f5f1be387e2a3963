/-! THE INVARIANT: what ties the class's memory to the reference's -/
abbrev Gi : Type := Nat → Nat → Int32
def rng (a : Int32) (lo hi : Int) : Prop := lo ≤ a.toInt ∧ a.toInt ≤ hi
/-- arrival i of star s -/
def AV (g : Gi) (s i : Nat) : Prop := g (555 + 10 * s + 1) (4 * i) = g 597 (24 * s + i) ∧ g (555 + 10 * s + 1) (4 * i + 1) = g 598 (24 * s + i) ∧ g (555 + 10 * s + 1) (4 * i + 2) = g 599 (24 * s + i) ∧ g (555 + 10 * s + 1) (4 * i + 3) = g 600 (24 * s + i) ∧ rng (g 597 (24 * s + i)) 0 1000000 ∧ rng (g 598 (24 * s + i)) 0 1000 ∧ rng (g 599 (24 * s + i)) 0 2
/-- the arrivals of star s that count, by their places -/
def PL (g : Gi) (s t : Nat) : List Nat := plf (fun i => g 600 (24 * s + i)) (g 595 8) t
/-- star s: t arrivals, and those that count laid out -/
def IA1 (g : Gi) (s t : Nat) : Prop := t ≤ 24 ∧ g 596 s = nI t ∧ g (555 + 10 * s) 2 = nI t ∧ (∀ i, i < t → AV g s i)
def IS1 (g : Gi) (s t : Nat) : Prop := g (555 + 10 * s) 3 = nI (PL g s t).length ∧ ∀ j, j < (PL g s t).length → g (555 + 10 * s + 2) j = nI ((PL g s t).getD j 0)
def IA (σ : Mm) : Prop := ∀ s, s < 4 → ∃ t, IA1 (Mm.gi σ) s t ∧ IS1 (Mm.gi σ) s t
def IT (σ : Mm) : Prop := Mm.gi σ 2 2 = Mm.gi σ 595 7 ∧ rng (Mm.gi σ 595 7) 0 1 ∧ Mm.gi σ 2 3 = Mm.gi σ 595 8 ∧ (∀ i, i < 3 → Mm.gi σ 3 i = Mm.gi σ 601 i ∧ rng (Mm.gi σ 601 i) (-1000) 1000) ∧ ∀ v b, v < 2 → b < 11 → Mm.gi σ (5 + v) b = Mm.gi σ 602 (11 * v + b) ∧ rng (Mm.gi σ 602 (11 * v + b)) (-500) 500
def IX (σ : Mm) : Prop := ∃ len, len ≤ 200 ∧ Mm.gi σ 9 1 = nI len ∧ Mm.gi σ 595 20 = nI len ∧ ∀ i, i < len → Mm.gi σ 10 i = Mm.gi σ 613 i
/-- the slips that are in force where a turn begins -/
def slq (g : Gi) (s : Nat) (b : Int64) : Nat → Int64
  | 0 => 0
  | k + 1 => slq g s b k + (if 1000000 * Int32.toInt64 (g 608 (3 * s + k)) ≤ b then 1000 * Int32.toInt64 (g 609 (3 * s + k)) else 0)
/-- how far behind turn n, which begins at b, the next begins -/
def lnq (g : Gi) (s n : Nat) (b : Int64) : Int64 := 1000 * Int32.toInt64 (g 604 s) + Int32.toInt64 (nI n) * Int32.toInt64 (g 606 s) + slq g s b (ix (g 607 s))
def bgq (g : Gi) (s : Nat) : Nat → Int64
  | 0 => 1000000 * Int32.toInt64 (g 605 s)
  | n + 1 => bgq g s n + (if lnq g s n (bgq g s n) < 1000000 then 1000000 else lnq g s n (bgq g s n))
/-- the model of star s, at md in the class -/
def MD (g : Gi) (s md : Nat) : Prop := g md 1 = g 604 s ∧ g md 2 = g 605 s ∧ g md 4 = g 606 s ∧ rng (g 604 s) 100000 100000000 ∧ rng (g 605 s) 0 1000000 ∧ rng (g 606 s) (-100000) 100000 ∧
  (∃ k, k ≤ 3 ∧ g 607 s = nI k ∧ g md 6 = nI k ∧ ∀ j, j < k → g (md + 1) j = g 608 (3 * s + j) ∧ g (md + 2) j = g 609 (3 * s + j) ∧ rng (g 608 (3 * s + j)) 0 1000000 ∧ rng (g 609 (3 * s + j)) (-50000) 50000) ∧
  ∃ k, k ≤ 2 ∧ g 610 s = nI k ∧ g md 9 = nI k ∧ ∀ j, j < k → g (md + 3) j = g 611 (2 * s + j) ∧ rng (g 611 (2 * s + j)) 4 1000 ∧ ∀ q, q < 4 → g (md + 4) (4 * j + q) = g 612 (4 * (2 * s + j) + q) ∧ rng (g 612 (4 * (2 * s + j) + q)) (-50000) 50000
/-- T turns begin in time -/
def TQ (g : Gi) (s T : Nat) : Prop := 0 < T ∧ T ≤ 10001 ∧ (∀ n, n < T → (bgq g s n).toInt ≤ 2000000000000) ∧ (T < 10001 → 2000000000000 < (bgq g s T).toInt)
def isM (m : Nat) : Prop := m = 12 ∨ m = 560 ∨ m = 570 ∨ m = 580 ∨ m = 590
def IM (σ : Mm) : Prop := ∃ md : Nat → Nat, (∀ i, i < 5 → isM (md i)) ∧ (∀ i j, i < 5 → j < 5 → md i = md j → i = j) ∧ Mm.gr σ 1 4 = md 4 ∧ ∀ s, s < 4 → Mm.gr σ (558 + 10 * s) 1 = md s ∧
  ((Mm.gi σ 603 s = 0 ∧ Mm.gi σ (558 + 10 * s) 2 = 0) ∨ (Mm.gi σ 603 s = 1 ∧ MD (Mm.gi σ) s (md s) ∧ ∃ T, TQ (Mm.gi σ) s T ∧ Mm.gi σ (558 + 10 * s) 2 = nI T ∧ ∀ n, n < T → Mm.gl σ (558 + 10 * s + 1) n = bgq (Mm.gi σ) s n))
/-- the ways that stand: n arrivals, w ways -/
def WY (σ : Mm) (n w : Nat) : Prop := 2 ≤ n ∧ n ≤ 24 ∧ w ≤ 500 ∧ Mm.gi σ 17 2 = nI n ∧ Mm.gi σ 595 34 = nI n ∧ Mm.gi σ 17 3 = nI w ∧ Mm.gi σ 595 33 = nI w ∧
  (∀ k, k < n → Mm.gi σ 18 k = Mm.gi σ 618 k ∧ Mm.gi σ 19 k = Mm.gi σ 619 k ∧ rng (Mm.gi σ 618 k) (-1500) 1001500 ∧ rng (Mm.gi σ 619 k) 0 1000) ∧
  (∀ i, i < w → (∀ k, k < n → Mm.gi σ 24 (24 * i + k) = Mm.gi σ 620 (24 * i + k) ∧ rng (Mm.gi σ 620 (24 * i + k)) 0 20000) ∧ Mm.gi σ 620 (24 * i) = 0 ∧ (∀ k, k + 1 < n → (Mm.gi σ 620 (24 * i + k)).toInt < (Mm.gi σ 620 (24 * i + (k + 1))).toInt) ∧
    Mm.gl σ (50 + i) 0 = Mm.gl σ 621 i ∧ Mm.gl σ (50 + i) 1 = Mm.gl σ 622 i ∧ Mm.gl σ (50 + i) 2 = Mm.gl σ 623 i ∧ Mm.gl σ (50 + i) 3 = Mm.gl σ 624 i ∧
    (0 < (Mm.gl σ 621 i).toInt ∧ (Mm.gl σ 621 i).toInt ≤ 2000000000) ∧ (0 < (Mm.gl σ 622 i).toInt ∧ (Mm.gl σ 622 i).toInt ≤ 20000) ∧ (0 < (Mm.gl σ 623 i).toInt ∧ (Mm.gl σ 623 i).toInt ≤ 2000000000) ∧ (0 < (Mm.gl σ 624 i).toInt ∧ (Mm.gl σ 624 i).toInt ≤ 20000))
def IW (σ : Mm) : Prop := (Mm.gi σ 595 32 = 0 ∧ Mm.gi σ 17 0 = 0 ∧ Mm.gi σ 17 3 = 0) ∨ (Mm.gi σ 595 32 = 2 ∧ Mm.gi σ 17 0 = 1 ∧ Mm.gi σ 17 1 = 1 ∧ Mm.gi σ 17 3 = 0) ∨ (Mm.gi σ 595 32 = 1 ∧ Mm.gi σ 17 0 = 1 ∧ Mm.gi σ 17 1 = 0 ∧ ∃ n w, WY σ n w)
def Inv (σ : Mm) : Prop := IA σ ∧ IT σ ∧ IX σ ∧ IM σ ∧ IW σ
/-! what each part stands on -/
def FA (o k : Nat) : Prop := (o = 555 ∨ o = 565 ∨ o = 575 ∨ o = 585) ∨ (o = 556 ∨ o = 566 ∨ o = 576 ∨ o = 586) ∨ (o = 557 ∨ o = 567 ∨ o = 577 ∨ o = 587) ∨ (596 ≤ o ∧ o ≤ 600) ∨ (o = 595 ∧ k = 8)
def FT (o k : Nat) : Prop := o = 2 ∨ o = 3 ∨ o = 5 ∨ o = 6 ∨ (o = 595 ∧ (k = 7 ∨ k = 8)) ∨ o = 601 ∨ o = 602
def FX (o k : Nat) : Prop := (o = 9 ∧ k = 1) ∨ o = 10 ∨ (o = 595 ∧ k = 20) ∨ o = 613
def FM (o k : Nat) : Prop := (o = 1 ∧ k = 4) ∨ (o = 558 ∨ o = 568 ∨ o = 578 ∨ o = 588) ∨ (o = 559 ∨ o = 569 ∨ o = 579 ∨ o = 589) ∨ (12 ≤ o ∧ o ≤ 16) ∨ (560 ≤ o ∧ o ≤ 564) ∨ (570 ≤ o ∧ o ≤ 574) ∨ (580 ≤ o ∧ o ≤ 584) ∨ (590 ≤ o ∧ o ≤ 594) ∨ (603 ≤ o ∧ o ≤ 612)
def FW (o k : Nat) : Prop := (o = 17 ∧ k ≤ 3) ∨ o = 18 ∨ o = 19 ∨ o = 24 ∨ (50 ≤ o ∧ o < 550) ∨ (o = 595 ∧ (k = 32 ∨ k = 33 ∨ k = 34)) ∨ (618 ≤ o ∧ o ≤ 624)
theorem IA_fr {σ σ' : Mm} (h : IA σ) (hg : ∀ o k, FA o k → Mm.gi σ' o k = Mm.gi σ o k) : IA σ' := by
  intro s hs
  obtain ⟨t, ⟨h1, h2, h3, h4⟩, h5, h6⟩ := h s hs
  have hs4 : s = 0 ∨ s = 1 ∨ s = 2 ∨ s = 3 := by omega
  have e1 : ∀ k, Mm.gi σ' (555 + 10 * s) k = Mm.gi σ (555 + 10 * s) k := fun k => hg _ k (by unfold FA; omega)
  have e2 : ∀ k, Mm.gi σ' (555 + 10 * s + 1) k = Mm.gi σ (555 + 10 * s + 1) k := fun k => hg _ k (by unfold FA; omega)
  have e3 : ∀ k, Mm.gi σ' (555 + 10 * s + 2) k = Mm.gi σ (555 + 10 * s + 2) k := fun k => hg _ k (by unfold FA; omega)
  have m6 : ∀ k, Mm.gi σ' 596 k = Mm.gi σ 596 k := fun k => hg _ k (by unfold FA; omega)
  have m7 : ∀ k, Mm.gi σ' 597 k = Mm.gi σ 597 k := fun k => hg _ k (by unfold FA; omega)
  have m8 : ∀ k, Mm.gi σ' 598 k = Mm.gi σ 598 k := fun k => hg _ k (by unfold FA; omega)
  have m9 : ∀ k, Mm.gi σ' 599 k = Mm.gi σ 599 k := fun k => hg _ k (by unfold FA; omega)
  have m0 : ∀ k, Mm.gi σ' 600 k = Mm.gi σ 600 k := fun k => hg _ k (by unfold FA; omega)
  have mA : Mm.gi σ' 595 8 = Mm.gi σ 595 8 := hg _ _ (by unfold FA; omega)
  have hp : PL (Mm.gi σ') s t = PL (Mm.gi σ) s t := by
    unfold PL
    rw [mA]
    exact plf_cg (fun i _ => m0 _)
  refine ⟨t, ⟨h1, by rw [m6]; exact h2, by rw [e1]; exact h3, fun i hi => ?_⟩, by rw [hp, e1]; exact h5, fun j hj => by rw [hp] at hj ⊢; rw [e3]; exact h6 j hj⟩
  have h7 := h4 i hi
  unfold AV at h7 ⊢
  simp only [e2, m7, m8, m9, m0]
  exact h7
theorem IT_fr {σ σ' : Mm} (h : IT σ) (hg : ∀ o k, FT o k → Mm.gi σ' o k = Mm.gi σ o k) : IT σ' := by
  obtain ⟨h1, h2, h3, h4, h5⟩ := h
  have m1 : ∀ k, Mm.gi σ' 2 k = Mm.gi σ 2 k := fun k => hg _ k (by unfold FT; omega)
  have m2 : ∀ k, Mm.gi σ' 3 k = Mm.gi σ 3 k := fun k => hg _ k (by unfold FT; omega)
  have m3 : ∀ k, Mm.gi σ' 601 k = Mm.gi σ 601 k := fun k => hg _ k (by unfold FT; omega)
  have m4 : ∀ k, Mm.gi σ' 602 k = Mm.gi σ 602 k := fun k => hg _ k (by unfold FT; omega)
  have m5 : Mm.gi σ' 595 7 = Mm.gi σ 595 7 := hg _ _ (by unfold FT; omega)
  have m6 : Mm.gi σ' 595 8 = Mm.gi σ 595 8 := hg _ _ (by unfold FT; omega)
  refine ⟨by rw [m1, m5]; exact h1, by rw [m5]; exact h2, by rw [m1, m6]; exact h3, fun i hi => by rw [m2, m3]; exact h4 i hi, fun v b hv hb => ?_⟩
  rw [m4, hg (5 + v) b (by unfold FT; omega)]
  exact h5 v b hv hb
theorem IX_fr {σ σ' : Mm} (h : IX σ) (hg : ∀ o k, FX o k → Mm.gi σ' o k = Mm.gi σ o k) : IX σ' := by
  obtain ⟨len, h1, h2, h3, h4⟩ := h
  have m1 : ∀ k, Mm.gi σ' 10 k = Mm.gi σ 10 k := fun k => hg _ k (by unfold FX; omega)
  have m2 : ∀ k, Mm.gi σ' 613 k = Mm.gi σ 613 k := fun k => hg _ k (by unfold FX; omega)
  refine ⟨len, h1, by rw [hg 9 1 (by unfold FX; omega)]; exact h2, by rw [hg 595 20 (by unfold FX; omega)]; exact h3, fun i hi => by rw [m1, m2]; exact h4 i hi⟩
theorem slq_cg {g g' : Gi} {s : Nat} (h8 : ∀ k, g' 608 k = g 608 k) (h9 : ∀ k, g' 609 k = g 609 k) (b : Int64) : ∀ k, slq g' s b k = slq g s b k := by
  intro k
  induction k with
  | zero => rfl
  | succ k ih => simp only [slq, ih, h8, h9]
theorem bgq_cg {g g' : Gi} {s : Nat} (h : ∀ o k, 604 ≤ o → o ≤ 609 → g' o k = g o k) : ∀ n, bgq g' s n = bgq g s n := by
  have e : ∀ n b, lnq g' s n b = lnq g s n b := fun n b => by
    unfold lnq
    rw [h 604 s (by omega) (by omega), h 606 s (by omega) (by omega), h 607 s (by omega) (by omega), slq_cg (fun k => h 608 k (by omega) (by omega)) (fun k => h 609 k (by omega) (by omega))]
  intro n
  induction n with
  | zero => simp only [bgq]; rw [h 605 s (by omega) (by omega)]
  | succ n ih => simp only [bgq, ih, e]
theorem IM_fr {σ σ' : Mm} (h : IM σ) (hg : ∀ o k, FM o k → Mm.gi σ' o k = Mm.gi σ o k ∧ Mm.gl σ' o k = Mm.gl σ o k ∧ Mm.gr σ' o k = Mm.gr σ o k) : IM σ' := by
  obtain ⟨md, h1, h2, h3, h4⟩ := h
  refine ⟨md, h1, h2, by rw [(hg 1 4 (by unfold FM; omega)).2.2]; exact h3, fun s hs => ?_⟩
  obtain ⟨h5, h6⟩ := h4 s hs
  have hmd := h1 s (by omega)
  have hs4 : s = 0 ∨ s = 1 ∨ s = 2 ∨ s = 3 := by omega
  have eT : ∀ k, Mm.gi σ' (558 + 10 * s) k = Mm.gi σ (558 + 10 * s) k := fun k => (hg _ k (by unfold FM; omega)).1
  have eM : ∀ o k, 603 ≤ o → o ≤ 612 → Mm.gi σ' o k = Mm.gi σ o k := fun o k q1 q2 => (hg o k (by unfold FM; omega)).1
  have eD : ∀ j k, j ≤ 4 → Mm.gi σ' (md s + j) k = Mm.gi σ (md s + j) k := fun j k hj => (hg _ k (by unfold FM; unfold isM at hmd; omega)).1
  have eL : ∀ k, Mm.gl σ' (558 + 10 * s + 1) k = Mm.gl σ (558 + 10 * s + 1) k := fun k => (hg _ k (by unfold FM; omega)).2.1
  have eB := bgq_cg (g := Mm.gi σ) (g' := Mm.gi σ') (s := s) (fun o k q1 q2 => eM o k (by omega) (by omega))
  refine ⟨by rw [(hg (558 + 10 * s) 1 (by unfold FM; omega)).2.2]; exact h5, ?_⟩
  rcases h6 with ⟨h7, h8⟩ | ⟨h7, h8, T, h9, h10, h11⟩
  · exact Or.inl ⟨by rw [eM 603 s (by omega) (by omega)]; exact h7, by rw [eT]; exact h8⟩
  · refine Or.inr ⟨by rw [eM 603 s (by omega) (by omega)]; exact h7, ?_, T, ?_, by rw [eT]; exact h10, fun n hn => by rw [eL, eB]; exact h11 n hn⟩
    · have d0 : ∀ k, Mm.gi σ' (md s) k = Mm.gi σ (md s) k := fun k => eD 0 k (by omega)
      have d1 : ∀ k, Mm.gi σ' (md s + 1) k = Mm.gi σ (md s + 1) k := fun k => eD 1 k (by omega)
      have d2 : ∀ k, Mm.gi σ' (md s + 2) k = Mm.gi σ (md s + 2) k := fun k => eD 2 k (by omega)
      have d3 : ∀ k, Mm.gi σ' (md s + 3) k = Mm.gi σ (md s + 3) k := fun k => eD 3 k (by omega)
      have d4 : ∀ k, Mm.gi σ' (md s + 4) k = Mm.gi σ (md s + 4) k := fun k => eD 4 k (by omega)
      have c4 : ∀ k, Mm.gi σ' 604 k = Mm.gi σ 604 k := fun k => eM 604 k (by omega) (by omega)
      have c5 : ∀ k, Mm.gi σ' 605 k = Mm.gi σ 605 k := fun k => eM 605 k (by omega) (by omega)
      have c6 : ∀ k, Mm.gi σ' 606 k = Mm.gi σ 606 k := fun k => eM 606 k (by omega) (by omega)
      have c7 : ∀ k, Mm.gi σ' 607 k = Mm.gi σ 607 k := fun k => eM 607 k (by omega) (by omega)
      have c8 : ∀ k, Mm.gi σ' 608 k = Mm.gi σ 608 k := fun k => eM 608 k (by omega) (by omega)
      have c9 : ∀ k, Mm.gi σ' 609 k = Mm.gi σ 609 k := fun k => eM 609 k (by omega) (by omega)
      have c10 : ∀ k, Mm.gi σ' 610 k = Mm.gi σ 610 k := fun k => eM 610 k (by omega) (by omega)
      have c11 : ∀ k, Mm.gi σ' 611 k = Mm.gi σ 611 k := fun k => eM 611 k (by omega) (by omega)
      have c12 : ∀ k, Mm.gi σ' 612 k = Mm.gi σ 612 k := fun k => eM 612 k (by omega) (by omega)
      unfold MD at h8 ⊢
      simp only [d0, d1, d2, d3, d4, c4, c5, c6, c7, c8, c9, c10, c11, c12]
      exact h8
    · unfold TQ at h9 ⊢
      simp only [eB]
      exact h9
theorem IW_fr {σ σ' : Mm} (h : IW σ) (hg : ∀ o k, FW o k → Mm.gi σ' o k = Mm.gi σ o k ∧ Mm.gl σ' o k = Mm.gl σ o k) : IW σ' := by
  have m32 : Mm.gi σ' 595 32 = Mm.gi σ 595 32 := (hg _ _ (by unfold FW; omega)).1
  have m33 : Mm.gi σ' 595 33 = Mm.gi σ 595 33 := (hg _ _ (by unfold FW; omega)).1
  have m34 : Mm.gi σ' 595 34 = Mm.gi σ 595 34 := (hg _ _ (by unfold FW; omega)).1
  have x0 : Mm.gi σ' 17 0 = Mm.gi σ 17 0 := (hg _ _ (by unfold FW; omega)).1
  have x1 : Mm.gi σ' 17 1 = Mm.gi σ 17 1 := (hg _ _ (by unfold FW; omega)).1
  have x2 : Mm.gi σ' 17 2 = Mm.gi σ 17 2 := (hg _ _ (by unfold FW; omega)).1
  have x3 : Mm.gi σ' 17 3 = Mm.gi σ 17 3 := (hg _ _ (by unfold FW; omega)).1
  have e18 : ∀ k, Mm.gi σ' 18 k = Mm.gi σ 18 k := fun k => (hg _ k (by unfold FW; omega)).1
  have e19 : ∀ k, Mm.gi σ' 19 k = Mm.gi σ 19 k := fun k => (hg _ k (by unfold FW; omega)).1
  have e24 : ∀ k, Mm.gi σ' 24 k = Mm.gi σ 24 k := fun k => (hg _ k (by unfold FW; omega)).1
  have e618 : ∀ k, Mm.gi σ' 618 k = Mm.gi σ 618 k := fun k => (hg _ k (by unfold FW; omega)).1
  have e619 : ∀ k, Mm.gi σ' 619 k = Mm.gi σ 619 k := fun k => (hg _ k (by unfold FW; omega)).1
  have e620 : ∀ k, Mm.gi σ' 620 k = Mm.gi σ 620 k := fun k => (hg _ k (by unfold FW; omega)).1
  have l621 : ∀ k, Mm.gl σ' 621 k = Mm.gl σ 621 k := fun k => (hg _ k (by unfold FW; omega)).2
  have l622 : ∀ k, Mm.gl σ' 622 k = Mm.gl σ 622 k := fun k => (hg _ k (by unfold FW; omega)).2
  have l623 : ∀ k, Mm.gl σ' 623 k = Mm.gl σ 623 k := fun k => (hg _ k (by unfold FW; omega)).2
  have l624 : ∀ k, Mm.gl σ' 624 k = Mm.gl σ 624 k := fun k => (hg _ k (by unfold FW; omega)).2
  unfold IW at h ⊢
  rw [m32, x0, x1, x3]
  rcases h with h | h | ⟨h1, h2, h3, n, w, h4⟩
  · exact Or.inl h
  · exact Or.inr (Or.inl h)
  · refine Or.inr (Or.inr ⟨h1, h2, h3, n, w, ?_⟩)
    obtain ⟨a1, a2, a3, a4, a5, a6, a7, a8, a9⟩ := h4
    refine ⟨a1, a2, a3, by rw [x2]; exact a4, by rw [m34]; exact a5, by rw [x3]; exact a6, by rw [m33]; exact a7, fun k hk => by rw [e18, e19, e618, e619]; exact a8 k hk, fun i hi => ?_⟩
    have lp : ∀ j, Mm.gl σ' (50 + i) j = Mm.gl σ (50 + i) j := fun j => (hg _ j (by unfold FW; omega)).2
    have b := a9 i hi
    simp only [e24, e620, l621, l622, l623, l624, lp]
    exact b
theorem Inv_fr {σ σ' : Mm} {C : Nat → Nat → Prop} (h : Inv σ) (hF : Fx C σ σ') (hA : ∀ o k, C o k → ¬ FA o k) (hT : ∀ o k, C o k → ¬ FT o k) (hX : ∀ o k, C o k → ¬ FX o k) (hM : ∀ o k, C o k → ¬ FM o k) (hW : ∀ o k, C o k → ¬ FW o k) : Inv σ' :=
  ⟨IA_fr h.1 (fun o k q => hF.gi (fun c => hA o k c q)), IT_fr h.2.1 (fun o k q => hF.gi (fun c => hT o k c q)), IX_fr h.2.2.1 (fun o k q => hF.gi (fun c => hX o k c q)), IM_fr h.2.2.2.1 (fun o k q => hF o k (fun c => hM o k c q)), IW_fr h.2.2.2.2 (fun o k q => ⟨hF.gi (fun c => hW o k c q), hF.gl (fun c => hW o k c q)⟩)⟩
