def yl : List (Nat × Nat) := [(99, 0), (8, 0), (5, 0), (10, 3), (16, 2), (10, 11), (10, 11), (14, 4), (15, 4), (6, 0), (10, 200), (10, 5), (2, 0), (10, 3), (10, 3), (10, 2), (10, 8), (0, 0), (10, 24), (10, 24), (10, 24), (11, 24), (11, 24), (13, 24), (10, 12000), (13, 500), (10, 24), (10, 24), (10, 24), (1, 0), (10, 576), (4, 0), (10, 96), (10, 24), (7, 0), (11, 10001), (2, 0), (10, 3), (10, 3), (10, 2), (10, 8), (4, 0), (10, 96), (10, 24), (7, 0), (11, 10001), (2, 0), (10, 3), (10, 3), (10, 2), (10, 8), (4, 0), (10, 96), (10, 24), (7, 0), (11, 10001), (2, 0), (10, 3), (10, 3), (10, 2), (10, 8), (4, 0), (10, 96), (10, 24), (7, 0), (11, 10001), (2, 0), (10, 3), (10, 3), (10, 2), (10, 8), (9, 0), (10, 4), (10, 96), (10, 96), (10, 96), (10, 96), (10, 3), (10, 22), (12, 4), (10, 5), (10, 5), (10, 5), (10, 5), (10, 15), (10, 15), (10, 5), (10, 10), (10, 40), (10, 200), (10, 24), (11, 10001), (10, 24), (10, 24), (10, 24), (10, 24), (10, 12000), (11, 500), (11, 500), (11, 500), (11, 500), (10, 24), (11, 24), (11, 24), (11, 24), (11, 24), (11, 24), (11, 24), (10, 7), (10, 7), (10, 2304)]
/-- what each object of the world is -/
def YF (o : Nat) : Nat × Nat := if 26 ≤ o ∧ o < 550 then (3, 0) else yl.getD (if o < 26 then o else o - 524) (99, 0)
theorem YF_p : ∀ j, 26 ≤ j → j < 550 → YF j = (3, 0) := fun j h1 h2 => if_pos ⟨h1, h2⟩
def σz : Mm := (fun _ _ => 0, fun _ _ => 0, fun _ _ => 0)
/-- the memory behind both constructors -/
def σF : Mm := i_X12_init (i_X11_init σz)
def okb (Y : Yt) (n t v : Nat) : Bool := decide (0 < v) && decide (v < n) && decide ((Y v).1 = t)
theorem okb_ok {Y : Yt} {n t v : Nat} (h : okb Y n t v = true) : okk Y n t v := by
  simp only [okb, Bool.and_eq_true, decide_eq_true_eq] at h
  exact ⟨h.1.1, h.1.2, h.2⟩
def slb (Y : Yt) (n : Nat) (r : Nat → Nat) : Nat → List Nat → Bool
  | _, [] => true
  | k, t :: l => (match t with | 0 => true | 1 => true | t + 2 => okb Y n t (r k)) && slb Y n r (k + 1) l
theorem slb_ok {Y : Yt} {n : Nat} {r : Nat → Nat} : ∀ (l : List Nat) (k : Nat), slb Y n r k l = true → ∀ j t, l[j]? = some (t + 2) → okk Y n t (r (k + j)) := by
  intro l
  induction l with
  | nil => intro k _ j t h; simp at h
  | cons a l ih =>
    intro k h j t hj
    simp only [slb, Bool.and_eq_true] at h
    cases j with
    | zero =>
      rw [List.getElem?_cons_zero] at hj
      have ha := Option.some.inj hj
      subst ha
      exact okb_ok h.1
    | succ j =>
      rw [List.getElem?_cons_succ] at hj
      have h2 := ih (k + 1) h.2 j t hj
      rw [show k + (j + 1) = k + 1 + j by omega]
      exact h2
def tyd (Y : Yt) (n : Nat) (r : Nat → Nat → Nat) : Bool := (List.range n).all fun o => ((List.range 57).all fun k => match ptf (Y o).1 k with | none => true | some (b, a, len) => decide (r o k = ptv b a o) && decide ((Y (r o k)).2 = len)) && (match arf o with | none => true | some (m, b, len) => (List.range (Y o).2).all fun j => decide (13 ≤ (Y o).1) && decide (r o j = b + m * j) && decide ((Y (r o j)).2 = len))
def tyc (Y : Yt) (n : Nat) (r : Nat → Nat → Nat) : Bool := (List.range n).all fun o => slb Y n (r o) 0 (kd (Y o).1) && (match aK (Y o).1 with | none => true | some t => (List.range (Y o).2).all fun j => okb Y n t (r o j))
theorem ptf_lt {c k : Nat} {w : Bool × Nat × Nat} (h : ptf c k = some w) : k < 57 := by
  unfold ptf at h
  split at h <;> first | omega | cases h
theorem tyc_ok {Y : Yt} {n : Nat} {r : Nat → Nat → Nat} (h : tyc Y n r = true) (hd : tyd Y n r = true) : TY Y n r := by
  have d1 : ∀ o, o < n → (((List.range 57).all fun k => match ptf (Y o).1 k with | none => true | some (b, a, len) => decide (r o k = ptv b a o) && decide ((Y (r o k)).2 = len)) && (match arf o with | none => true | some (m, b, len) => (List.range (Y o).2).all fun j => decide (13 ≤ (Y o).1) && decide (r o j = b + m * j) && decide ((Y (r o j)).2 = len))) = true := fun o ho => List.all_eq_true.mp hd o (List.mem_range.mpr ho)
  have h1 : ∀ o, o < n → (slb Y n (r o) 0 (kd (Y o).1) && (match aK (Y o).1 with | none => true | some t => (List.range (Y o).2).all fun j => okb Y n t (r o j))) = true := fun o ho => List.all_eq_true.mp h o (List.mem_range.mpr ho)
  refine ⟨fun o c k t ho hk => ?_, fun o c t ho ht j hj => ?_, fun o c k b a len ho hp => ?_, fun o c m b len ho hp j hj => ?_⟩
  · have h2 := h1 o ho.2.1
    simp only [Bool.and_eq_true] at h2
    have h3 := slb_ok _ 0 h2.1 k t (by rw [ho.2.2]; exact hk)
    rw [Nat.zero_add] at h3
    exact h3
  · have h2 := h1 o ho.2.1
    simp only [Bool.and_eq_true] at h2
    have h3 := h2.2
    rw [ho.2.2, ht] at h3
    exact okb_ok (List.all_eq_true.mp h3 j (List.mem_range.mpr hj))
  · have h2 := d1 o ho.2.1
    simp only [Bool.and_eq_true] at h2
    have h3 := List.all_eq_true.mp h2.1 k (List.mem_range.mpr (ptf_lt hp))
    rw [ho.2.2, hp] at h3
    simp only [Bool.and_eq_true, decide_eq_true_eq] at h3
    exact h3
  · have h2 := d1 o ho.2.1
    simp only [Bool.and_eq_true] at h2
    have h3 := h2.2
    rw [hp] at h3
    have h4 := List.all_eq_true.mp h3 j (List.mem_range.mpr hj)
    simp only [Bool.and_eq_true, decide_eq_true_eq] at h4
    exact ⟨h4.1.1, h4.1.2, h4.2⟩
set_option maxRecDepth 100000 in
theorem tyF : TY YF 635 σF.2.2 := tyc_ok (by decide +kernel) (by decide +kernel)
