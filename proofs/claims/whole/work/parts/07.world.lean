/-! THE MEMORY: numbers i, longs l, references r by (object, place); objects are numbered from 1 on (0: null), object o lies at z + o. -/
abbrev Mm : Type := (Nat → Nat → Int32) × (Nat → Nat → Int64) × (Nat → Nat → Nat)
def Mm.gi (σ : Mm) (o k : Nat) : Int32 := σ.1 o k
def Mm.gl (σ : Mm) (o k : Nat) : Int64 := σ.2.1 o k
def Mm.gr (σ : Mm) (o k : Nat) : Nat := σ.2.2 o k
def Mm.u2 {α : Type} (f : Nat → Nat → α) (o k : Nat) (v : α) : Nat → Nat → α := fun a b => if a = o then (if b = k then v else f a b) else f a b
def Mm.si (σ : Mm) (o k : Nat) (v : Int32) : Mm := (Mm.u2 σ.1 o k v, σ.2)
def Mm.sl (σ : Mm) (o k : Nat) (v : Int64) : Mm := (σ.1, Mm.u2 σ.2.1 o k v, σ.2.2)
def Mm.sr (σ : Mm) (o k : Nat) (v : Nat) : Mm := (σ.1, σ.2.1, Mm.u2 σ.2.2 o k v)
def Mm.cp (σ : Mm) (src sp dst dp n : Nat) : Mm := (fun a b => if a = dst then va_cpy (σ.1 src) (σ.1 dst) sp dp n b else σ.1 a b, σ.2)
/-- kinds: 0 .. 9 the classes as vwCl has them; 10 int[], 11 long[], 12 boolean[], 13 Periods[], 14 Star[], 15 Turns[], 16 int[][] -/
abbrev Yt : Type := Nat → Nat × Nat
def okk (Y : Yt) (n c o : Nat) : Prop := 0 < o ∧ o < n ∧ (Y o).1 = c
/-- the places of a class: 0 a number, 1 a long, k + 2 a reference to kind k -/
def kd : Nat → List Nat
  | 0 => [0, 0, 0, 0, 0, 12, 12, 12, 13, 13, 15, 12, 15]
  | 1 => [12, 0]
  | 2 => [0, 0, 0, 0, 0, 0, 0, 12, 12, 0, 12, 12]
  | 3 => [1, 1, 1, 1]
  | 4 => [12, 12, 0, 0]
  | 5 => [12, 18, 0, 0]
  | 6 => [12, 0, 0, 12]
  | 7 => [13, 4, 0]
  | 8 => [7, 16, 17, 8, 4, 2, 12, 12, 12, 3]
  | 9 => [12, 12, 12, 12, 12, 12, 12, 0, 0, 14, 12, 12, 12, 12, 12, 12, 12, 12, 12, 12, 0, 12, 0, 0, 0, 0, 0, 0, 13, 0, 12, 12, 0, 0, 0, 12, 12, 12, 13, 13, 13, 13, 12, 13, 13, 13, 13, 13, 13, 1, 1, 0, 12, 12, 0, 12, 0]
  | _ => []
def aK : Nat → Option Nat
  | 13 => some 3
  | 14 => some 4
  | 15 => some 7
  | 16 => some 10
  | _ => none
/-- where a field's reference leads, where that never changes: (from the object's own number?, number, length of the row there) -/
def ptf : Nat → Nat → Option (Bool × Nat × Nat)
  | 0, 5 => some (false, 18, 24)
  | 0, 6 => some (false, 19, 24)
  | 0, 7 => some (false, 20, 24)
  | 0, 8 => some (false, 21, 24)
  | 0, 9 => some (false, 22, 24)
  | 0, 10 => some (false, 23, 24)
  | 0, 11 => some (false, 24, 12000)
  | 0, 12 => some (false, 25, 500)
  | 1, 0 => some (false, 554, 576)
  | 2, 7 => some (true, 1, 3)
  | 2, 8 => some (true, 2, 3)
  | 2, 10 => some (true, 3, 2)
  | 2, 11 => some (true, 4, 8)
  | 4, 0 => some (true, 1, 96)
  | 4, 1 => some (true, 2, 24)
  | 5, 0 => some (false, 3, 3)
  | 5, 1 => some (false, 4, 2)
  | 6, 0 => some (false, 10, 200)
  | 6, 3 => some (false, 11, 5)
  | 7, 0 => some (true, 1, 10001)
  | 8, 0 => some (false, 2, 0)
  | 8, 1 => some (false, 7, 4)
  | 8, 2 => some (false, 8, 4)
  | 8, 3 => some (false, 9, 0)
  | 8, 5 => some (false, 17, 0)
  | 8, 6 => some (false, 550, 24)
  | 8, 7 => some (false, 551, 24)
  | 8, 8 => some (false, 552, 24)
  | 8, 9 => some (false, 553, 0)
  | 9, 0 => some (false, 596, 4)
  | 9, 1 => some (false, 597, 96)
  | 9, 2 => some (false, 598, 96)
  | 9, 3 => some (false, 599, 96)
  | 9, 4 => some (false, 600, 96)
  | 9, 5 => some (false, 601, 3)
  | 9, 6 => some (false, 602, 22)
  | 9, 9 => some (false, 603, 4)
  | 9, 10 => some (false, 604, 5)
  | 9, 11 => some (false, 605, 5)
  | 9, 12 => some (false, 606, 5)
  | 9, 13 => some (false, 607, 5)
  | 9, 14 => some (false, 608, 15)
  | 9, 15 => some (false, 609, 15)
  | 9, 16 => some (false, 610, 5)
  | 9, 17 => some (false, 611, 10)
  | 9, 18 => some (false, 612, 40)
  | 9, 19 => some (false, 613, 200)
  | 9, 21 => some (false, 614, 24)
  | 9, 28 => some (false, 615, 10001)
  | 9, 30 => some (false, 616, 24)
  | 9, 31 => some (false, 617, 24)
  | 9, 35 => some (false, 618, 24)
  | 9, 36 => some (false, 619, 24)
  | 9, 37 => some (false, 620, 12000)
  | 9, 38 => some (false, 621, 500)
  | 9, 39 => some (false, 622, 500)
  | 9, 40 => some (false, 623, 500)
  | 9, 41 => some (false, 624, 500)
  | 9, 42 => some (false, 625, 24)
  | 9, 43 => some (false, 626, 24)
  | 9, 44 => some (false, 627, 24)
  | 9, 45 => some (false, 628, 24)
  | 9, 46 => some (false, 629, 24)
  | 9, 47 => some (false, 630, 24)
  | 9, 48 => some (false, 631, 24)
  | 9, 52 => some (false, 632, 7)
  | 9, 53 => some (false, 633, 7)
  | 9, 55 => some (false, 634, 2304)
  | _, _ => none
def ptv (b : Bool) (a o : Nat) : Nat := match b with
  | false => a
  | true => o + a
/-- the arrays of references: entry j leads to base + step j -/
def arf : Nat → Option (Nat × Nat × Nat)
  | 4 => some (1, 5, 11)
  | 7 => some (10, 555, 0)
  | 8 => some (10, 558, 0)
  | 23 => some (1, 26, 0)
  | 25 => some (1, 50, 0)
  | _ => none
def TY (Y : Yt) (n : Nat) (r : Nat → Nat → Nat) : Prop := (∀ o c k t, okk Y n c o → (kd c)[k]? = some (t + 2) → okk Y n t (r o k)) ∧ (∀ o c t, okk Y n c o → aK c = some t → ∀ j, j < (Y o).2 → okk Y n t (r o j)) ∧ (∀ o c k b a len, okk Y n c o → ptf c k = some (b, a, len) → r o k = ptv b a o ∧ (Y (r o k)).2 = len) ∧ ∀ o c m b len, okk Y n c o → arf o = some (m, b, len) → ∀ j, j < (Y o).2 → 13 ≤ (Y o).1 ∧ r o j = b + m * j ∧ (Y (r o j)).2 = len
def rq (z v : Nat) : Option Nat := if v = 0 then none else some (z + v)
def fv1 (z : Nat) (σ : Mm) (o k : Nat) : Nat → Value
  | 0 => .int (σ.1 o k)
  | 1 => .long (σ.2.1 o k)
  | _ => va_rf (rq z (σ.2.2 o k))
def fvs (z : Nat) (σ : Mm) (o : Nat) : Nat → List Nat → List Value
  | _, [] => []
  | k, t :: l => fv1 z σ o k t :: fvs z σ o (k + 1) l
theorem fvs_get (z : Nat) (σ : Mm) (o : Nat) : ∀ (l : List Nat) (k j : Nat), (fvs z σ o k l)[j]? = (l[j]?).map (fv1 z σ o (k + j)) := by
  intro l
  induction l with
  | nil => intro k j; simp [fvs]
  | cons t l ih =>
    intro k j
    cases j with
    | zero => simp [fvs]
    | succ j =>
      rw [fvs, List.getElem?_cons_succ, List.getElem?_cons_succ, ih, show k + 1 + j = k + (j + 1) by omega]
theorem fvs_len (z : Nat) (σ : Mm) (o : Nat) : ∀ (l : List Nat) (k : Nat), (fvs z σ o k l).length = l.length := by
  intro l
  induction l with
  | nil => intro k; rfl
  | cons t l ih => intro k; simp [fvs, ih]
theorem fvs_set {z : Nat} {σ σ' : Mm} {o : Nat} {l : List Nat} {k t : Nat} {v : Value} (ht : l[k]? = some t) (hv : fv1 z σ' o k t = v) (ho : ∀ j u, j ≠ k → fv1 z σ' o j u = fv1 z σ o j u) : (fvs z σ o 0 l).set k v = fvs z σ' o 0 l := by
  have hk : k < l.length := (List.getElem?_eq_some_iff.mp ht).1
  apply List.ext_getElem?
  intro j
  by_cases hj : j = k
  · subst hj
    rw [List.getElem?_set_self (by rw [fvs_len]; exact hk), fvs_get, ht, Nat.zero_add]
    simp [hv]
  · rw [List.getElem?_set_ne (Ne.symm hj), fvs_get, fvs_get, Nat.zero_add]
    cases l[j]? with
    | none => rfl
    | some u => simp [ho j u hj]
def cel (z : Nat) (cy : Nat → ClassId) (Y : Yt) (σ : Mm) (o : Nat) : va_E :=
  if (Y o).1 < 10 then .inr ((Y o).1, fvs z σ o 0 (kd (Y o).1))
  else if (Y o).1 = 11 then .inl (cy 1, (Y o).2, .inr (.inl (σ.2.1 o)))
  else if 13 ≤ (Y o).1 then .inl (cy ((Y o).1 - 10), (Y o).2, .inr (.inr (.inr (.inr (fun j => rq z (σ.2.2 o j))))))
  else .inl (cy ((Y o).1 - 10), (Y o).2, .inl (σ.1 o))
theorem cel_obj {z : Nat} {cy : Nat → ClassId} {Y : Yt} {σ : Mm} {o c : Nat} (h : (Y o).1 = c) (hc : c < 10) : cel z cy Y σ o = .inr (c, fvs z σ o 0 (kd c)) := by
  subst h; simp only [cel, if_pos hc]
theorem cel_i {z : Nat} {cy : Nat → ClassId} {Y : Yt} {σ : Mm} {o : Nat} (h : (Y o).1 = 10) : cel z cy Y σ o = .inl (cy 0, (Y o).2, .inl (σ.1 o)) := by simp [cel, h]
theorem cel_l {z : Nat} {cy : Nat → ClassId} {Y : Yt} {σ : Mm} {o : Nat} (h : (Y o).1 = 11) : cel z cy Y σ o = .inl (cy 1, (Y o).2, .inr (.inl (σ.2.1 o))) := by simp [cel, h]
theorem cel_z {z : Nat} {cy : Nat → ClassId} {Y : Yt} {σ : Mm} {o : Nat} (h : (Y o).1 = 12) : cel z cy Y σ o = .inl (cy 2, (Y o).2, .inl (σ.1 o)) := by simp [cel, h]
theorem cel_q {z : Nat} {cy : Nat → ClassId} {Y : Yt} {σ : Mm} {o c : Nat} (h : (Y o).1 = c) (hc : 13 ≤ c) : cel z cy Y σ o = .inl (cy (c - 10), (Y o).2, .inr (.inr (.inr (.inr (fun j => rq z (σ.2.2 o j)))))) := by
  subst h
  simp only [cel]
  rw [if_neg (by omega), if_neg (by omega), if_pos hc]
def wl (z : Nat) (cy : Nat → ClassId) (Y : Yt) (σ : Mm) (n : Nat) : va_W := (List.range (n - 1)).map (fun i => (z + (i + 1), cel z cy Y σ (i + 1)))
theorem wl_get {z : Nat} {cy : Nat → ClassId} {Y : Yt} {σ : Mm} {n c o : Nat} (h : okk Y n c o) : (wl z cy Y σ n)[o - 1]? = some (z + o, cel z cy Y σ o) := by
  obtain ⟨h0, h1, -⟩ := h
  unfold wl
  rw [List.getElem?_map, List.getElem?_range (by omega)]
  simp [show o - 1 + 1 = o by omega]
theorem wl_inv {z : Nat} {cy : Nat → ClassId} {Y : Yt} {σ : Mm} {n k : Nat} {q : Nat × va_E} (h : (wl z cy Y σ n)[k]? = some q) : k + 1 < n ∧ q = (z + (k + 1), cel z cy Y σ (k + 1)) := by
  unfold wl at h
  rw [List.getElem?_map] at h
  by_cases hk : k < n - 1
  · rw [List.getElem?_range hk] at h
    simp at h
    exact ⟨by omega, h.symm⟩
  · rw [List.getElem?_eq_none (by simp; omega)] at h
    simp at h
theorem wl_set {z : Nat} {cy : Nat → ClassId} {Y : Yt} {σ σ' : Mm} {n c o : Nat} {e : va_E} (h : okk Y n c o) (he : cel z cy Y σ' o = e) (ho : ∀ q, q ≠ o → cel z cy Y σ' q = cel z cy Y σ q) : (wl z cy Y σ n).set (o - 1) (z + o, e) = wl z cy Y σ' n := by
  have hl : ∀ (τ : Mm), (wl z cy Y τ n).length = n - 1 := fun τ => by simp [wl]
  apply List.ext_getElem?
  intro j
  by_cases hj : j = o - 1
  · subst hj
    rw [List.getElem?_set_self (by rw [hl]; have := h.1; have := h.2.1; omega), wl_get (σ := σ') h, he]
  · rw [List.getElem?_set_ne (Ne.symm hj)]
    by_cases hk : j < n - 1
    · unfold wl
      rw [List.getElem?_map, List.getElem?_map, List.getElem?_range hk]
      simp [ho (j + 1) (by have := h.1; omega)]
    · rw [List.getElem?_eq_none (by rw [hl]; omega), List.getElem?_eq_none (by rw [hl]; omega)]
def Az (z : Nat) : Nat → Prop := fun q => z < q
theorem wl_D {z : Nat} {cy : Nat → ClassId} {Y : Yt} {σ : Mm} {n : Nat} : va_D (Az z) (wl z cy Y σ n) := by
  refine ⟨fun i j p q hp hq e => ?_, fun k q hq => ?_⟩
  · have h1 := (wl_inv hp).2
    have h2 := (wl_inv hq).2
    subst h1; subst h2
    have e' : z + (i + 1) = z + (j + 1) := e
    omega
  · have h1 := (wl_inv hq).2
    subst h1
    show z < z + (k + 1)
    omega
/-- the cells of a world in a heap, its references of their kinds -/
def WH (z n : Nat) (D : va_G) (cy : Nat → ClassId) (Y : Yt) (σ : Mm) (H : Heap) : Prop := va_P D vwCl (wl z cy Y σ n) H ∧ TY Y n σ.2.2 ∧ z < H.size
abbrev tyA (cy : Nat → ClassId) : List (ClassId × FieldType) := [(cy 0, .int), (cy 1, .long), (cy 2, .boolean), (cy 3, .object RX5), (cy 4, .object RX7), (cy 5, .object RX10), (cy 6, .array .int)]
/-- the links between nest mates -/
def nwl : List Cond := [.fieldLinkNest RX11 98 "SkyClocks$Tables" "offsets" "[I" "SkyClocks", .fieldLinkNest RX11 101 "SkyClocks$Tables" "shifts" "[[I" "SkyClocks", .fieldLinkNest RX11 105 "SkyClocks$Tables" "version" "I" "SkyClocks", .fieldLinkNest RX11 85 "SkyClocks$Tables" "asOf" "I" "SkyClocks", .fieldLinkNest RX11 262 "SkyClocks$Text" "length" "I" "SkyClocks", .fieldLinkNest RX9 34 "SkyClocks$Model" "items" "I" "SkyClocks", .fieldLinkNest RX11 140 "SkyClocks$Model" "items" "I" "SkyClocks", .fieldLinkNest RX10 26 "SkyClocks$Model" "zero" "I" "SkyClocks", .fieldLinkNest RX11 185 "SkyClocks$Carried" "arrivals" "I" "SkyClocks", .fieldLinkNest RX11 188 "SkyClocks$Carried" "found" "I" "SkyClocks", .fieldLinkNest RX11 288 "SkyClocks$Gaps" "many" "I" "SkyClocks", .fieldLinkNest RX11 114 "SkyClocks$Star" "seen" "I" "SkyClocks", .fieldLinkNest RX11 149 "SkyClocks$Turns" "turns" "I" "SkyClocks", .methodLinkNest RX11 9 yX8_init "SkyClocks", .methodLinkNest RX11 30 yX9_init "SkyClocks", .methodLinkNest RX11 37 yX4_init "SkyClocks", .methodLinkNest RX0 40 yX5_init "SkyClocks", .methodLinkNest RX11 61 yX2_init "SkyClocks", .methodLinkNest RX11 66 yX7_init "SkyClocks", .methodLinkNest RX11 67 yX10_init "SkyClocks", .methodLinkNest RX10 17 yX4_init "SkyClocks", .methodLinkNest RX4 74 yX11_within "SkyClocks"]
def NW (U : State) : Prop := ∀ w ∈ nwl, va_Nw w U
theorem NW.warm {s U : State} (hW : s.WarmedH U.vm) (h : NW s) : NW U := by
  intro w hw
  have h1 := h w hw
  simp only [nwl, List.mem_cons, List.not_mem_nil, or_false] at hw
  rcases hw with rfl | rfl | rfl | rfl | rfl | rfl | rfl | rfl | rfl | rfl | rfl | rfl | rfl | rfl | rfl | rfl | rfl | rfl | rfl | rfl | rfl | rfl <;> first | exact va_Nw.warmF hW h1 | exact va_Nw.warmM hW h1
theorem NW.same {u U : State} (hvm : u.vm = U.vm) (h : NW u) : NW U := by
  intro w hw
  have h1 := h w hw
  have ht : w.onTables = true := by
    simp only [nwl, List.mem_cons, List.not_mem_nil, or_false] at hw
    rcases hw with rfl | rfl | rfl | rfl | rfl | rfl | rfl | rfl | rfl | rfl | rfl | rfl | rfl | rfl | rfl | rfl | rfl | rfl | rfl | rfl | rfl | rfl <;> rfl
  exact h1.same ht hvm
def WX (z n : Nat) (D : va_G) (cy : Nat → ClassId) (Y : Yt) (σ : Mm) (U : State) : Prop := WH z n D cy Y σ U.heap ∧ va_K D vwCl (tyA cy) U ∧ NW U
theorem WX.blind {z n : Nat} {D : va_G} {cy : Nat → ClassId} {Y : Yt} {σ : Mm} {av : List Value} : FrameBlind (va_Pc av (WX z n D cy Y σ)) := by
  intro a U g mk h
  exact ⟨h.1, h.2.1, va_K.moved (u := U) (U := U.calling g mk a) (Vm.Alike.refl U.vm) h.2.2.1, NW.same (u := U) (U := U.calling g mk a) rfl h.2.2.2⟩
/-! contracts: at memory σ with these arguments the answer is r, the memory then is σ1 -/
abbrev Ki (l : Launch) (y : MethodName) (ws : List Cond) (rm : Room) (z n : Nat) (D : va_G) (cy : Nat → ClassId) (Y : Yt) (av : List Value) (σ : Mm) (r : Int32) (σ1 : Mm) : Prop := Met l y ws rm (va_Pc av (WX z n D cy Y σ)) (va_Qi (fun (x : Int32) (_ : Unit) => x = r) (fun _ t => WH z n D cy Y σ1 t.heap) (Az z)) 0 0 (Az z)
abbrev Kl (l : Launch) (y : MethodName) (ws : List Cond) (rm : Room) (z n : Nat) (D : va_G) (cy : Nat → ClassId) (Y : Yt) (av : List Value) (σ : Mm) (r : Int64) (σ1 : Mm) : Prop := Met l y ws rm (va_Pc av (WX z n D cy Y σ)) (va_Ql (fun (x : Int64) (_ : Unit) => x = r) (fun _ t => WH z n D cy Y σ1 t.heap) (Az z)) 0 0 (Az z)
abbrev Kv (l : Launch) (y : MethodName) (ws : List Cond) (rm : Room) (z n : Nat) (D : va_G) (cy : Nat → ClassId) (Y : Yt) (av : List Value) (σ : Mm) (σ1 : Mm) : Prop := Met l y ws rm (va_Pc av (WX z n D cy Y σ)) (va_Qv (fun (_ : Unit) => True) (fun _ t => WH z n D cy Y σ1 t.heap) (Az z)) 0 0 (Az z)
/-- an answer that is an object of kind ck -/
abbrev Kr (ck : Nat) (l : Launch) (y : MethodName) (ws : List Cond) (rm : Room) (z n : Nat) (D : va_G) (cy : Nat → ClassId) (Y : Yt) (av : List Value) (σ : Mm) (r : Nat) (σ1 : Mm) : Prop := Met l y ws rm (va_Pc av (WX z n D cy Y σ)) (va_Qr (fun (_ : Unit) => True) (fun _ a t => a = z + r ∧ okk Y n ck r ∧ WH z n D cy Y σ1 t.heap) (Az z)) 0 0 (Az z)
/-! pure words -/
abbrev ix (i : Int32) : Nat := i.toNatClampNeg
def inb (i : Int32) (n : Nat) : Bool := !(decide (i < 0)) && decide (i.toNatClampNeg < n)
theorem inb_in {i : Int32} {n : Nat} (h : inb i n = true) : vp_in i n := by
  simp only [inb, Bool.and_eq_true, Bool.not_eq_true', decide_eq_false_iff_not, decide_eq_true_eq] at h
  intro q
  rcases q with q | q
  · exact h.1 q
  · omega
theorem inb_lt {i : Int32} {n : Nat} (h : inb i n = true) : ix i < n := by
  simp only [inb, Bool.and_eq_true, decide_eq_true_eq] at h
  exact h.2
def bnd {α β γ : Type} (x : Option (α × β)) (f : α → β → Option γ) : Option γ := match x with
  | some (a, b) => f a b
  | none => none
def bn1 {α γ : Type} (x : Option α) (f : α → Option γ) : Option γ := match x with
  | some a => f a
  | none => none
theorem g_bnd {α β γ : Type} {x : Option (α × β)} {f : α → β → Option γ} {y : γ} (h : bnd x f = some y) : ∃ a b, x = some (a, b) ∧ f a b = some y := by
  unfold bnd at h
  split at h
  · exact ⟨_, _, rfl, h⟩
  · cases h
theorem g_bn1 {α γ : Type} {x : Option α} {f : α → Option γ} {y : γ} (h : bn1 x f = some y) : ∃ a, x = some a ∧ f a = some y := by
  unfold bn1 at h
  split at h
  · exact ⟨_, rfl, h⟩
  · cases h
theorem g_pos {α : Type} {c : Prop} [Decidable c] {A B x : α} (h : c) (hf : (if c then A else B) = x) : A = x := by rw [if_pos h] at hf; exact hf
theorem g_neg {α : Type} {c : Prop} [Decidable c] {A B x : α} (h : ¬ c) (hf : (if c then A else B) = x) : B = x := by rw [if_neg h] at hf; exact hf
theorem g_in {α : Type} {b : Bool} {A : Option α} {x : α} (hf : (if b = true then A else none) = some x) : b = true ∧ A = some x := by
  cases b with
  | true => exact ⟨rfl, by simpa using hf⟩
  | false => simp at hf
theorem g_ne {α : Type} {c : Prop} [Decidable c] {A : Option α} {x : α} (hf : (if c then none else A) = some x) : ¬ c ∧ A = some x := by
  by_cases h : c
  · rw [if_pos h] at hf; cases hf
  · rw [if_neg h] at hf; exact ⟨h, hf⟩
theorem g_if {α : Type} {c : Prop} [Decidable c] {A : Option α} {x : α} (hf : (if c then A else none) = some x) : c ∧ A = some x := by
  by_cases h : c
  · rw [if_pos h] at hf; exact ⟨h, hf⟩
  · rw [if_neg h] at hf; cases hf
/-- a contract out of a walk, for a method of a class of the JDK (its class isn't plainly named) -/
theorem Met.ofJ {l : Launch} {y : MethodName} {ws ws' : List Cond} {rm : Room} {Pc : Array Value → State → Prop} {Qc : Array Value → State → Outcome → State → Prop} {mc ms : Nat} {free : Addr → Prop} {cc : ByteArray} {maxL : Nat} {ret : Option FieldType}
    (hy : plainFor y = true) (hw : ws = Cond.code y cc maxL ret :: ws')
    (body : ∀ p e s m args below meth c s₁, BodyLoose p l y (headSpec ws rm) cc maxL ret e s m args below meth c s₁ → c.maxLocals = maxL → Pc args s →
      W p l e (headSpec ws rm).room s m args below meth c s.heap [] 0 0 (MQ below Qc args s mc ms free) (entryFrame m args maxL)) : Met l y ws rm Pc Qc mc ms free := by
  refine MetFree.of_bodySF (code := cc) (maxLocals := maxL) (ret := ret) hy (fun args s m h hn => ?_) (fun p e s m args below meth c s₁ B hml hP _ => ?_)
  · have hc := atoms_spec (ws := ws) h (Cond.code y cc maxL ret) (by rw [hw]; exact List.mem_cons_self)
    obtain ⟨meth, c, h1, h2, h3, h4, h5, h6, -, -⟩ := Cond.code_spec hn hc
    exact ⟨meth, c, h1, h2, h3, h4, h5, h6⟩
  · have hh : s₁.heap = s.heap := by rw [B.state]; rfl
    obtain ⟨t, st, o, g1, g2, g3, g4⟩ := body p e s m args below meth c s₁ B hml hP s₁ hh (Stand.of_body B)
    exact ⟨t, o, st, g1, g2, g3, g4⟩
def lt_ {α β : Type} (x : α) (f : α → β) : β := f x
theorem g_lt {α β : Type} {x y : α} {f : α → β} {o : β} (e : y = x) (h : lt_ x f = o) : f y = o := by rw [e]; exact h
def lp {α : Type} (f : α → α) (a : α) : Nat → α
  | 0 => a
  | n + 1 => f (lp f a n)
theorem lp_0 {α : Type} (f : α → α) (a : α) : lp f a 0 = a := rfl
theorem lp_s {α : Type} (f : α → α) (a : α) (n : Nat) : lp f a (n + 1) = f (lp f a n) := rfl
/-! rows of the machine over a world -/
section QROWS
variable {p : Program} {l : Launch} {e : Env} {R : Room} {s : State} {m : MethodId} {args : Array Value} {below : List Frame} {meth : Method} {c : Code} {H : Heap} {locs : List Loc} {cells slots : Nat} {Q : State → Prop}
variable {cc : ByteArray} {pc : Nat} {ls : Array Slot} {rest : List Value} {z n : Nat} {D : va_G} {cy : Nat → ClassId} {Y : Yt} {σ : Mm} {H0 : Heap}
theorem q_get (hx : p.tables.exec = Jvm.exec) (hb : c.code = cc) {own ref C : String} {T : u_T} {N ci index : Nat} {Ts : List Cond} (hts : ∀ w ∈ Ts, w.before args s = true) (hin : ∀ w ∈ u_ws C T N, w ∈ Ts) (hown : s.vm.findClass own = some m.cls) (hK : va_K D vwCl (tyA cy) s) (hW : WH z n D cy Y σ H) {o kc : Nat} (ho : okk Y n kc o) (h10 : kc < 10) (hc : vwCl[kc]? = some (C, T, N)) (k : Nat) (hk : k < N) (hlink : (Cond.fieldLink own index ref (T k).2.1 (T k).2.2.1).before args s = true) (hsame : ref = (T k).1) {t : Nat} (ht : (kd kc)[k]? = some t) (hdg : decode cc pc = .ok (.getfield index, 3))
    (kk : W p l e R s m args below meth c H locs cells slots Q (F0 m (pc + 3) ls (fv1 z σ o k t :: rest))) : W p l e R s m args below meth c H locs cells slots Q (F0 m pc ls (.ref (z + o) :: rest)) := by
  refine va_get hx hb hts hin hown hK hW.1 (o - 1) (fs := fvs z σ o 0 (kd kc)) ?_ hc k hk hlink (fun _ h9 => by rw [hsame]; exact h9) (v := fv1 z σ o k t) ?_ hdg kk
  · rw [wl_get ho, cel_obj ho.2.2 h10]
  · rw [fvs_get, ht, Nat.zero_add]; rfl
theorem q_geti (hx : p.tables.exec = Jvm.exec) (hb : c.code = cc) {own ref C : String} {T : u_T} {N ci index : Nat} {Ts : List Cond} (hts : ∀ w ∈ Ts, w.before args s = true) (hin : ∀ w ∈ u_ws C T N, w ∈ Ts) (hown : s.vm.findClass own = some m.cls) (hK : va_K D vwCl (tyA cy) s) (hW : WH z n D cy Y σ H) {o kc : Nat} (ho : okk Y n kc o) (h10 : kc < 10) (hc : vwCl[kc]? = some (C, T, N)) (k : Nat) (hk : k < N) (hlink : (Cond.fieldLink own index ref (T k).2.1 (T k).2.2.1).before args s = true) (hsame : ref = (T k).1) (ht : (kd kc)[k]? = some 0) (hdg : decode cc pc = .ok (.getfield index, 3))
    (kk : W p l e R s m args below meth c H locs cells slots Q (F0 m (pc + 3) ls (.int (Mm.gi σ o k) :: rest))) : W p l e R s m args below meth c H locs cells slots Q (F0 m pc ls (.ref (z + o) :: rest)) := q_get (ci := 0) hx hb hts hin hown hK hW ho h10 hc k hk hlink hsame ht hdg kk
theorem q_getl (hx : p.tables.exec = Jvm.exec) (hb : c.code = cc) {own ref C : String} {T : u_T} {N ci index : Nat} {Ts : List Cond} (hts : ∀ w ∈ Ts, w.before args s = true) (hin : ∀ w ∈ u_ws C T N, w ∈ Ts) (hown : s.vm.findClass own = some m.cls) (hK : va_K D vwCl (tyA cy) s) (hW : WH z n D cy Y σ H) {o kc : Nat} (ho : okk Y n kc o) (h10 : kc < 10) (hc : vwCl[kc]? = some (C, T, N)) (k : Nat) (hk : k < N) (hlink : (Cond.fieldLink own index ref (T k).2.1 (T k).2.2.1).before args s = true) (hsame : ref = (T k).1) (ht : (kd kc)[k]? = some 1) (hdg : decode cc pc = .ok (.getfield index, 3))
    (kk : W p l e R s m args below meth c H locs cells slots Q (F0 m (pc + 3) ls (.long (Mm.gl σ o k) :: rest))) : W p l e R s m args below meth c H locs cells slots Q (F0 m pc ls (.ref (z + o) :: rest)) := q_get (ci := 0) hx hb hts hin hown hK hW ho h10 hc k hk hlink hsame ht hdg kk
theorem rq_pos {v : Nat} (h : 0 < v) : va_rf (rq z v) = .ref (z + v) := by
  unfold rq
  rw [if_neg (by omega)]
  rfl
theorem q_getr (hx : p.tables.exec = Jvm.exec) (hb : c.code = cc) {own ref C : String} {T : u_T} {N ci index : Nat} {Ts : List Cond} (hts : ∀ w ∈ Ts, w.before args s = true) (hin : ∀ w ∈ u_ws C T N, w ∈ Ts) (hown : s.vm.findClass own = some m.cls) (hK : va_K D vwCl (tyA cy) s) (hW : WH z n D cy Y σ H) {o kc : Nat} (ho : okk Y n kc o) (h10 : kc < 10) (hc : vwCl[kc]? = some (C, T, N)) (k : Nat) (hk : k < N) (hlink : (Cond.fieldLink own index ref (T k).2.1 (T k).2.2.1).before args s = true) (hsame : ref = (T k).1) {t : Nat} (ht : (kd kc)[k]? = some (t + 2)) (hdg : decode cc pc = .ok (.getfield index, 3))
    (kk : okk Y n t (Mm.gr σ o k) → W p l e R s m args below meth c H locs cells slots Q (F0 m (pc + 3) ls (.ref (z + Mm.gr σ o k) :: rest))) : W p l e R s m args below meth c H locs cells slots Q (F0 m pc ls (.ref (z + o) :: rest)) := by
  have h1 : okk Y n t (Mm.gr σ o k) := hW.2.1.1 o kc k t ho ht
  refine q_get (ci := 0) hx hb hts hin hown hK hW ho h10 hc k hk hlink hsame ht hdg ?_
  show W p l e R s m args below meth c H locs cells slots Q (F0 m (pc + 3) ls (va_rf (rq z (Mm.gr σ o k)) :: rest))
  rw [rq_pos h1.1]
  exact kk h1
theorem q_getp (hx : p.tables.exec = Jvm.exec) (hb : c.code = cc) {own ref C : String} {T : u_T} {N ci index : Nat} {Ts : List Cond} (hts : ∀ w ∈ Ts, w.before args s = true) (hin : ∀ w ∈ u_ws C T N, w ∈ Ts) (hown : s.vm.findClass own = some m.cls) (hK : va_K D vwCl (tyA cy) s) (hW : WH z n D cy Y σ H) {o kc : Nat} (ho : okk Y n kc o) (h10 : kc < 10) (hc : vwCl[kc]? = some (C, T, N)) (k : Nat) (hk : k < N) (hlink : (Cond.fieldLink own index ref (T k).2.1 (T k).2.2.1).before args s = true) (hsame : ref = (T k).1) {t : Nat} (ht : (kd kc)[k]? = some (t + 2)) {b9 : Bool} {a9 len v : Nat} (hp : ptf kc k = some (b9, a9, len)) (hv : ptv b9 a9 o = v) (hdg : decode cc pc = .ok (.getfield index, 3))
    (kk : okk Y n t v → (Y v).2 = len → W p l e R s m args below meth c H locs cells slots Q (F0 m (pc + 3) ls (.ref (z + v) :: rest))) : W p l e R s m args below meth c H locs cells slots Q (F0 m pc ls (.ref (z + o) :: rest)) := by
  obtain ⟨h8, h9⟩ := hW.2.1.2.2.1 o kc k b9 a9 len ho hp
  have h7 : Mm.gr σ o k = v := h8.trans hv
  refine q_getr (ci := 0) hx hb hts hin hown hK hW ho h10 hc k hk hlink hsame ht hdg fun h1 => ?_
  rw [h7] at h1 ⊢
  exact kk h1 (by rw [← h7]; exact h9)
theorem q_getN (hx : p.tables.exec = Jvm.exec) (hb : c.code = cc) {own ref C host : String} {T : u_T} {N ci index : Nat} {Ts : List Cond} (hts : ∀ w ∈ Ts, w.before args s = true) (hin : ∀ w ∈ u_ws C T N, w ∈ Ts) (hown : s.vm.findClass own = some m.cls) (hK : va_K D vwCl (tyA cy) s) (hW : WH z n D cy Y σ H) {o kc : Nat} (ho : okk Y n kc o) (h10 : kc < 10) (hc : vwCl[kc]? = some (C, T, N)) (k : Nat) (hk : k < N) (hlink : va_Nw (.fieldLinkNest own index ref (T k).2.1 (T k).2.2.1 host) s) (hsame : ref = (T k).1) {t : Nat} (ht : (kd kc)[k]? = some t) (hdg : decode cc pc = .ok (.getfield index, 3))
    (kk : W p l e R s m args below meth c H locs cells slots Q (F0 m (pc + 3) ls (fv1 z σ o k t :: rest))) : W p l e R s m args below meth c H locs cells slots Q (F0 m pc ls (.ref (z + o) :: rest)) := by
  refine va_getN hx hb hts hin hown hK hW.1 (o - 1) (fs := fvs z σ o 0 (kd kc)) ?_ hc k hk (va_Nw.use rfl hlink) (fun _ h9 => by rw [hsame]; exact h9) (v := fv1 z σ o k t) ?_ hdg kk
  · rw [wl_get ho, cel_obj ho.2.2 h10]
  · rw [fvs_get, ht, Nat.zero_add]; rfl
theorem q_getiN (hx : p.tables.exec = Jvm.exec) (hb : c.code = cc) {own ref C host : String} {T : u_T} {N ci index : Nat} {Ts : List Cond} (hts : ∀ w ∈ Ts, w.before args s = true) (hin : ∀ w ∈ u_ws C T N, w ∈ Ts) (hown : s.vm.findClass own = some m.cls) (hK : va_K D vwCl (tyA cy) s) (hW : WH z n D cy Y σ H) {o kc : Nat} (ho : okk Y n kc o) (h10 : kc < 10) (hc : vwCl[kc]? = some (C, T, N)) (k : Nat) (hk : k < N) (hlink : va_Nw (.fieldLinkNest own index ref (T k).2.1 (T k).2.2.1 host) s) (hsame : ref = (T k).1) (ht : (kd kc)[k]? = some 0) (hdg : decode cc pc = .ok (.getfield index, 3))
    (kk : W p l e R s m args below meth c H locs cells slots Q (F0 m (pc + 3) ls (.int (Mm.gi σ o k) :: rest))) : W p l e R s m args below meth c H locs cells slots Q (F0 m pc ls (.ref (z + o) :: rest)) := q_getN (ci := 0) hx hb hts hin hown hK hW ho h10 hc k hk hlink hsame ht hdg kk
theorem q_getrN (hx : p.tables.exec = Jvm.exec) (hb : c.code = cc) {own ref C host : String} {T : u_T} {N ci index : Nat} {Ts : List Cond} (hts : ∀ w ∈ Ts, w.before args s = true) (hin : ∀ w ∈ u_ws C T N, w ∈ Ts) (hown : s.vm.findClass own = some m.cls) (hK : va_K D vwCl (tyA cy) s) (hW : WH z n D cy Y σ H) {o kc : Nat} (ho : okk Y n kc o) (h10 : kc < 10) (hc : vwCl[kc]? = some (C, T, N)) (k : Nat) (hk : k < N) (hlink : va_Nw (.fieldLinkNest own index ref (T k).2.1 (T k).2.2.1 host) s) (hsame : ref = (T k).1) {t : Nat} (ht : (kd kc)[k]? = some (t + 2)) (hdg : decode cc pc = .ok (.getfield index, 3))
    (kk : okk Y n t (Mm.gr σ o k) → W p l e R s m args below meth c H locs cells slots Q (F0 m (pc + 3) ls (.ref (z + Mm.gr σ o k) :: rest))) : W p l e R s m args below meth c H locs cells slots Q (F0 m pc ls (.ref (z + o) :: rest)) := by
  have h1 : okk Y n t (Mm.gr σ o k) := hW.2.1.1 o kc k t ho ht
  refine q_getN (ci := 0) hx hb hts hin hown hK hW ho h10 hc k hk hlink hsame ht hdg ?_
  show W p l e R s m args below meth c H locs cells slots Q (F0 m (pc + 3) ls (va_rf (rq z (Mm.gr σ o k)) :: rest))
  rw [rq_pos h1.1]
  exact kk h1
theorem q_getpN (hx : p.tables.exec = Jvm.exec) (hb : c.code = cc) {own ref C host : String} {T : u_T} {N ci index : Nat} {Ts : List Cond} (hts : ∀ w ∈ Ts, w.before args s = true) (hin : ∀ w ∈ u_ws C T N, w ∈ Ts) (hown : s.vm.findClass own = some m.cls) (hK : va_K D vwCl (tyA cy) s) (hW : WH z n D cy Y σ H) {o kc : Nat} (ho : okk Y n kc o) (h10 : kc < 10) (hc : vwCl[kc]? = some (C, T, N)) (k : Nat) (hk : k < N) (hlink : va_Nw (.fieldLinkNest own index ref (T k).2.1 (T k).2.2.1 host) s) (hsame : ref = (T k).1) {t : Nat} (ht : (kd kc)[k]? = some (t + 2)) {b9 : Bool} {a9 len v : Nat} (hp : ptf kc k = some (b9, a9, len)) (hv : ptv b9 a9 o = v) (hdg : decode cc pc = .ok (.getfield index, 3))
    (kk : okk Y n t v → (Y v).2 = len → W p l e R s m args below meth c H locs cells slots Q (F0 m (pc + 3) ls (.ref (z + v) :: rest))) : W p l e R s m args below meth c H locs cells slots Q (F0 m pc ls (.ref (z + o) :: rest)) := by
  obtain ⟨h8, h9⟩ := hW.2.1.2.2.1 o kc k b9 a9 len ho hp
  have h7 : Mm.gr σ o k = v := h8.trans hv
  refine q_getrN (ci := 0) hx hb hts hin hown hK hW ho h10 hc k hk hlink hsame ht hdg fun h1 => ?_
  rw [h7] at h1 ⊢
  exact kk h1 (by rw [← h7]; exact h9)
/-! stores: what a changed memory does to the cells -/
theorem fv1_si {o k : Nat} {v : Int32} : fv1 z (Mm.si σ o k v) o k 0 = .int v := by simp [fv1, Mm.si, Mm.u2]
theorem fv1_sl {o k : Nat} {v : Int64} : fv1 z (Mm.sl σ o k v) o k 1 = .long v := by simp [fv1, Mm.sl, Mm.u2]
theorem fv1_sr {o k t v : Nat} (h : 0 < v) : fv1 z (Mm.sr σ o k v) o k (t + 2) = .ref (z + v) := by
  show va_rf (rq z ((Mm.sr σ o k v).2.2 o k)) = _
  rw [show (Mm.sr σ o k v).2.2 o k = v by simp [Mm.sr, Mm.u2], rq_pos h]
theorem fv1_nei {o k a j u : Nat} {v : Int32} (h : a ≠ o ∨ j ≠ k) : fv1 z (Mm.si σ o k v) a j u = fv1 z σ a j u := by
  match u with
  | 0 => rcases h with h | h <;> simp [fv1, Mm.si, Mm.u2, h]
  | 1 => rfl
  | u + 2 => rfl
theorem fv1_nel {o k a j u : Nat} {v : Int64} (h : a ≠ o ∨ j ≠ k) : fv1 z (Mm.sl σ o k v) a j u = fv1 z σ a j u := by
  match u with
  | 0 => rfl
  | 1 => rcases h with h | h <;> simp [fv1, Mm.sl, Mm.u2, h]
  | u + 2 => rfl
theorem fv1_ner {o k a j u v : Nat} (h : a ≠ o ∨ j ≠ k) : fv1 z (Mm.sr σ o k v) a j u = fv1 z σ a j u := by
  match u with
  | 0 => rfl
  | 1 => rfl
  | u + 2 => rcases h with h | h <;> simp [fv1, Mm.sr, Mm.u2, h]
theorem fvs_cg {σ' : Mm} {a : Nat} (h : ∀ j u, fv1 z σ' a j u = fv1 z σ a j u) (l : List Nat) : fvs z σ' a 0 l = fvs z σ a 0 l := by
  apply List.ext_getElem?
  intro j
  rw [fvs_get, fvs_get, Nat.zero_add]
  cases l[j]? with
  | none => rfl
  | some u => simp [h]
theorem cel_ne {σ' : Mm} {a : Nat} (h1 : σ'.1 a = σ.1 a) (h2 : σ'.2.1 a = σ.2.1 a) (h3 : σ'.2.2 a = σ.2.2 a) : cel z cy Y σ' a = cel z cy Y σ a := by
  have hf : fvs z σ' a 0 (kd (Y a).1) = fvs z σ a 0 (kd (Y a).1) := fvs_cg (fun j u => by
    match u with
    | 0 => simp [fv1, h1]
    | 1 => simp [fv1, h2]
    | u + 2 => simp [fv1, h3]) _
  unfold cel
  rw [hf, h1, h2, h3]
theorem u2_ne {α : Type} {f : Nat → Nat → α} {o k a : Nat} {v : α} (h : a ≠ o) : Mm.u2 f o k v a = f a := by
  funext b; simp [Mm.u2, h]
theorem u2_eq {f : Nat → Nat → Int32} {o k : Nat} {v : Int32} : Mm.u2 f o k v o = upd (f o) k v := by
  funext b; simp [Mm.u2, upd]
theorem u2_eqL {f : Nat → Nat → Int64} {o k : Nat} {v : Int64} : Mm.u2 f o k v o = vp_updL (f o) k v := by
  funext b; simp [Mm.u2, vp_updL]
theorem si_ne {o k a : Nat} {v : Int32} (h : a ≠ o) : cel z cy Y (Mm.si σ o k v) a = cel z cy Y σ a := cel_ne (u2_ne h) rfl rfl
theorem sl_ne {o k a : Nat} {v : Int64} (h : a ≠ o) : cel z cy Y (Mm.sl σ o k v) a = cel z cy Y σ a := cel_ne rfl (u2_ne h) rfl
theorem sr_ne {o k a v : Nat} (h : a ≠ o) : cel z cy Y (Mm.sr σ o k v) a = cel z cy Y σ a := cel_ne rfl rfl (u2_ne h)
theorem q_puti (hx : p.tables.exec = Jvm.exec) (hb : c.code = cc) {own ref C : String} {T : u_T} {N ci index : Nat} {Ts : List Cond} (hts : ∀ w ∈ Ts, w.before args s = true) (hin : ∀ w ∈ u_ws C T N, w ∈ Ts) {ty0 : Nat → FieldType} (hty : ∀ k, k < N → parseFieldDescriptor (T k).2.2.1 = some (ty0 k)) (hnm : ∀ a, a < N → ∀ b, b < N → a ≠ b → (T a).2.1 ≠ (T b).2.1) (hown : s.vm.findClass own = some m.cls) (hK : va_K D vwCl (tyA cy) s) (hW : WH z n D cy Y σ H) (hS : va_S (Az z) H0 H locs) {o kc : Nat} (ho : okk Y n kc o) (h10 : kc < 10) (hc : vwCl[kc]? = some (C, T, N)) (k : Nat) (hk : k < N) (hlink : (Cond.fieldLink own index ref (T k).2.1 (T k).2.2.1).before args s = true) (hsame : ref = (T k).1) (hfin : (T k).2.2.2 = false) {ty : FieldType} {x : Int32} (hd : parseFieldDescriptor (T k).2.2.1 = some ty) (hn : narrow ty (.int x) = .int x) (hfit : fits ty (.int x) = true) (ht : (kd kc)[k]? = some 0) (hdg : decode cc pc = .ok (.putfield index, 3))
    (kk : ∀ (H1 : Heap) (locs1 : List Loc), WH z n D cy Y (Mm.si σ o k x) H1 → va_S (Az z) H0 H1 locs1 → W p l e R s m args below meth c H1 locs1 cells slots Q (F0 m (pc + 3) ls rest)) : W p l e R s m args below meth c H locs cells slots Q (F0 m pc ls (.int x :: .ref (z + o) :: rest)) := by
  have hl : k < (kd kc).length := (List.getElem?_eq_some_iff.mp ht).1
  refine va_put hx hb hts hin ty0 hty hnm hown hK hW.1 wl_D hS (o - 1) (fs := fvs z σ o 0 (kd kc)) ?_ hc k hk hlink (fun _ h9 => by rw [hsame]; exact h9) hfin hd hn hfit (by rw [fvs_len]; exact hl) hdg fun H1 locs1 hP _ hS1 => ?_
  · rw [wl_get ho, cel_obj ho.2.2 h10]
  · refine kk H1 locs1 ⟨?_, hW.2.1, Nat.lt_of_lt_of_le (Nat.lt_of_lt_of_le (show z < z + o by have := ho.1; omega) (Nat.le_of_lt (hP (o - 1) _ (List.getElem?_set_self (by have := (List.getElem?_eq_some_iff.mp (wl_get (z := z) (cy := cy) (σ := σ) ho)).1; exact this))).lt)) (Nat.le_refl _)⟩ hS1
    rw [← wl_set (σ := σ) (σ' := Mm.si σ o k x) ho (cel_obj ho.2.2 h10) (fun q hq => si_ne hq), ← fvs_set (σ := σ) (σ' := Mm.si σ o k x) ht fv1_si (fun j u hj => fv1_nei (Or.inr hj))]
    exact hP
theorem q_putiN (hx : p.tables.exec = Jvm.exec) (hb : c.code = cc) {own ref C host : String} {T : u_T} {N ci index : Nat} {Ts : List Cond} (hts : ∀ w ∈ Ts, w.before args s = true) (hin : ∀ w ∈ u_ws C T N, w ∈ Ts) {ty0 : Nat → FieldType} (hty : ∀ k, k < N → parseFieldDescriptor (T k).2.2.1 = some (ty0 k)) (hnm : ∀ a, a < N → ∀ b, b < N → a ≠ b → (T a).2.1 ≠ (T b).2.1) (hown : s.vm.findClass own = some m.cls) (hK : va_K D vwCl (tyA cy) s) (hW : WH z n D cy Y σ H) (hS : va_S (Az z) H0 H locs) {o kc : Nat} (ho : okk Y n kc o) (h10 : kc < 10) (hc : vwCl[kc]? = some (C, T, N)) (k : Nat) (hk : k < N) (hlink : va_Nw (.fieldLinkNest own index ref (T k).2.1 (T k).2.2.1 host) s) (hsame : ref = (T k).1) (hfin : (T k).2.2.2 = false) {ty : FieldType} {x : Int32} (hd : parseFieldDescriptor (T k).2.2.1 = some ty) (hn : narrow ty (.int x) = .int x) (hfit : fits ty (.int x) = true) (ht : (kd kc)[k]? = some 0) (hdg : decode cc pc = .ok (.putfield index, 3))
    (kk : ∀ (H1 : Heap) (locs1 : List Loc), WH z n D cy Y (Mm.si σ o k x) H1 → va_S (Az z) H0 H1 locs1 → W p l e R s m args below meth c H1 locs1 cells slots Q (F0 m (pc + 3) ls rest)) : W p l e R s m args below meth c H locs cells slots Q (F0 m pc ls (.int x :: .ref (z + o) :: rest)) := by
  have hl : k < (kd kc).length := (List.getElem?_eq_some_iff.mp ht).1
  refine va_putN hx hb hts hin ty0 hty hnm hown hK hW.1 wl_D hS (o - 1) (fs := fvs z σ o 0 (kd kc)) ?_ hc k hk (va_Nw.use rfl hlink) (fun _ h9 => by rw [hsame]; exact h9) hfin hd hn hfit (by rw [fvs_len]; exact hl) hdg fun H1 locs1 hP _ hS1 => ?_
  · rw [wl_get ho, cel_obj ho.2.2 h10]
  · refine kk H1 locs1 ⟨?_, hW.2.1, Nat.lt_of_lt_of_le (Nat.lt_of_lt_of_le (show z < z + o by have := ho.1; omega) (Nat.le_of_lt (hP (o - 1) _ (List.getElem?_set_self (by have := (List.getElem?_eq_some_iff.mp (wl_get (z := z) (cy := cy) (σ := σ) ho)).1; exact this))).lt)) (Nat.le_refl _)⟩ hS1
    rw [← wl_set (σ := σ) (σ' := Mm.si σ o k x) ho (cel_obj ho.2.2 h10) (fun q hq => si_ne hq), ← fvs_set (σ := σ) (σ' := Mm.si σ o k x) ht fv1_si (fun j u hj => fv1_nei (Or.inr hj))]
    exact hP
theorem q_putl (hx : p.tables.exec = Jvm.exec) (hb : c.code = cc) {own ref C : String} {T : u_T} {N ci index : Nat} {Ts : List Cond} (hts : ∀ w ∈ Ts, w.before args s = true) (hin : ∀ w ∈ u_ws C T N, w ∈ Ts) {ty0 : Nat → FieldType} (hty : ∀ k, k < N → parseFieldDescriptor (T k).2.2.1 = some (ty0 k)) (hnm : ∀ a, a < N → ∀ b, b < N → a ≠ b → (T a).2.1 ≠ (T b).2.1) (hown : s.vm.findClass own = some m.cls) (hK : va_K D vwCl (tyA cy) s) (hW : WH z n D cy Y σ H) (hS : va_S (Az z) H0 H locs) {o kc : Nat} (ho : okk Y n kc o) (h10 : kc < 10) (hc : vwCl[kc]? = some (C, T, N)) (k : Nat) (hk : k < N) (hlink : (Cond.fieldLink own index ref (T k).2.1 (T k).2.2.1).before args s = true) (hsame : ref = (T k).1) (hfin : (T k).2.2.2 = false) {x : Int64} (hd : parseFieldDescriptor (T k).2.2.1 = some .long) (ht : (kd kc)[k]? = some 1) (hdg : decode cc pc = .ok (.putfield index, 3))
    (kk : ∀ (H1 : Heap) (locs1 : List Loc), WH z n D cy Y (Mm.sl σ o k x) H1 → va_S (Az z) H0 H1 locs1 → W p l e R s m args below meth c H1 locs1 cells slots Q (F0 m (pc + 3) ls rest)) : W p l e R s m args below meth c H locs cells slots Q (F0 m pc ls (.long x :: .ref (z + o) :: rest)) := by
  have hl : k < (kd kc).length := (List.getElem?_eq_some_iff.mp ht).1
  refine va_put hx hb hts hin ty0 hty hnm hown hK hW.1 wl_D hS (o - 1) (fs := fvs z σ o 0 (kd kc)) ?_ hc k hk hlink (fun _ h9 => by rw [hsame]; exact h9) hfin hd rfl rfl (by rw [fvs_len]; exact hl) hdg fun H1 locs1 hP _ hS1 => ?_
  · rw [wl_get ho, cel_obj ho.2.2 h10]
  · refine kk H1 locs1 ⟨?_, hW.2.1, Nat.lt_of_lt_of_le (show z < z + o by have := ho.1; omega) (Nat.le_of_lt (hP (o - 1) _ (List.getElem?_set_self (by have := (List.getElem?_eq_some_iff.mp (wl_get (z := z) (cy := cy) (σ := σ) ho)).1; exact this))).lt)⟩ hS1
    rw [← wl_set (σ := σ) (σ' := Mm.sl σ o k x) ho (cel_obj ho.2.2 h10) (fun q hq => sl_ne hq), ← fvs_set (σ := σ) (σ' := Mm.sl σ o k x) ht fv1_sl (fun j u hj => fv1_nel (Or.inr hj))]
    exact hP
theorem TY_sr {o kc k t v : Nat} (h : TY Y n σ.2.2) (hkc : kc < 10) (ho : okk Y n kc o) (ht : (kd kc)[k]? = some (t + 2)) (hd : ptf kc k = none) (hv : okk Y n t v) : TY Y n (Mm.sr σ o k v).2.2 := by
  have low : ∀ c, okk Y n c o → c = kc := fun c hc => by rw [← hc.2.2, ho.2.2]
  have noA : ∀ c u, okk Y n c o → aK c = some u → False := fun c u hc hu => by
    have hcc := low c hc
    subst hcc
    match c, hkc, hu with
    | 0, _, hu => cases hu
    | 1, _, hu => cases hu
    | 2, _, hu => cases hu
    | 3, _, hu => cases hu
    | 4, _, hu => cases hu
    | 5, _, hu => cases hu
    | 6, _, hu => cases hu
    | 7, _, hu => cases hu
    | 8, _, hu => cases hu
    | 9, _, hu => cases hu
  have ne : ∀ a j, (a ≠ o ∨ j ≠ k) → (Mm.sr σ o k v).2.2 a j = σ.2.2 a j := fun a j hh => by
    show Mm.u2 σ.2.2 o k v a j = _
    unfold Mm.u2
    rcases hh with hh | hh <;> simp [hh]
  have eqv : (Mm.sr σ o k v).2.2 o k = v := by show Mm.u2 σ.2.2 o k v o k = v; simp [Mm.u2]
  refine ⟨fun a c j u ha hj => ?_, fun a c u ha hu j hj => ?_, fun a c j b x len ha hp => ?_, fun a c m b len ha hp j hj => ?_⟩
  · by_cases e1 : a = o ∧ j = k
    · obtain ⟨rfl, rfl⟩ := e1
      have hcc := low c ha
      subst hcc
      rw [ht] at hj
      have hu : u = t := by have := Option.some.inj hj; omega
      subst hu
      rw [eqv]; exact hv
    · rw [ne a j (by omega)]; exact h.1 a c j u ha hj
  · by_cases e1 : a = o
    · subst e1; exact (noA c u ha hu).elim
    · rw [ne a j (Or.inl e1)]; exact h.2.1 a c u ha hu j hj
  · by_cases e1 : a = o ∧ j = k
    · obtain ⟨rfl, rfl⟩ := e1
      have hcc := low c ha
      subst hcc
      rw [hd] at hp; cases hp
    · rw [ne a j (by omega)]; exact h.2.2.1 a c j b x len ha hp
  · by_cases e1 : a = o
    · subst e1
      have hcc := low c ha
      exfalso
      have h17 := (h.2.2.2 a c m b len ha hp j hj).1
      have h18 := ho.2.2
      omega
    · rw [ne a j (Or.inl e1)]; exact h.2.2.2 a c m b len ha hp j hj
theorem q_putr (hx : p.tables.exec = Jvm.exec) (hb : c.code = cc) {own ref C : String} {T : u_T} {N ci index : Nat} {Ts : List Cond} (hts : ∀ w ∈ Ts, w.before args s = true) (hin : ∀ w ∈ u_ws C T N, w ∈ Ts) {ty0 : Nat → FieldType} (hty : ∀ k, k < N → parseFieldDescriptor (T k).2.2.1 = some (ty0 k)) (hnm : ∀ a, a < N → ∀ b, b < N → a ≠ b → (T a).2.1 ≠ (T b).2.1) (hown : s.vm.findClass own = some m.cls) (hK : va_K D vwCl (tyA cy) s) (hW : WH z n D cy Y σ H) (hS : va_S (Az z) H0 H locs) {o kc : Nat} (ho : okk Y n kc o) (h10 : kc < 10) (hc : vwCl[kc]? = some (C, T, N)) (k : Nat) (hk : k < N) (hlink : (Cond.fieldLink own index ref (T k).2.1 (T k).2.2.1).before args s = true) (hsame : ref = (T k).1) (hfin : (T k).2.2.2 = false) {ty : FieldType} {v t : Nat} (hd : parseFieldDescriptor (T k).2.2.1 = some ty) (hn : narrow ty (.ref (z + v)) = .ref (z + v)) (hfit : fits ty (.ref (z + v)) = true) (ht : (kd kc)[k]? = some (t + 2)) (hd0 : ptf kc k = none) (hv : okk Y n t v) (hdg : decode cc pc = .ok (.putfield index, 3))
    (kk : ∀ (H1 : Heap) (locs1 : List Loc), WH z n D cy Y (Mm.sr σ o k v) H1 → va_S (Az z) H0 H1 locs1 → W p l e R s m args below meth c H1 locs1 cells slots Q (F0 m (pc + 3) ls rest)) : W p l e R s m args below meth c H locs cells slots Q (F0 m pc ls (.ref (z + v) :: .ref (z + o) :: rest)) := by
  have hl : k < (kd kc).length := (List.getElem?_eq_some_iff.mp ht).1
  refine va_put hx hb hts hin ty0 hty hnm hown hK hW.1 wl_D hS (o - 1) (fs := fvs z σ o 0 (kd kc)) ?_ hc k hk hlink (fun _ h9 => by rw [hsame]; exact h9) hfin hd hn hfit (by rw [fvs_len]; exact hl) hdg fun H1 locs1 hP _ hS1 => ?_
  · rw [wl_get ho, cel_obj ho.2.2 h10]
  · refine kk H1 locs1 ⟨?_, TY_sr hW.2.1 h10 ho ht hd0 hv, Nat.lt_of_lt_of_le (show z < z + o by have := ho.1; omega) (Nat.le_of_lt (hP (o - 1) _ (List.getElem?_set_self (by have := (List.getElem?_eq_some_iff.mp (wl_get (z := z) (cy := cy) (σ := σ) ho)).1; exact this))).lt)⟩ hS1
    rw [← wl_set (σ := σ) (σ' := Mm.sr σ o k v) ho (cel_obj ho.2.2 h10) (fun q hq => sr_ne hq), ← fvs_set (σ := σ) (σ' := Mm.sr σ o k v) ht (fv1_sr hv.1) (fun j u hj => fv1_ner (Or.inr hj))]
    exact hP
/-! rows of arrays -/
theorem q_iald (hx : p.tables.exec = Jvm.exec) (hb : c.code = cc) (hK : va_K D vwCl (tyA cy) s) (hW : WH z n D cy Y σ H) {a : Nat} (ha : okk Y n 10 a) {i : Int32} (hin : inb i (Y a).2 = true) (hdg : decode cc pc = .ok (.iaload, 1))
    (kk : W p l e R s m args below meth c H locs cells slots Q (F0 m (pc + 1) ls (.int (Mm.gi σ a (ix i)) :: rest))) : W p l e R s m args below meth c H locs cells slots Q (F0 m pc ls (.int i :: .ref (z + a) :: rest)) :=
  va_iald hx hb hK hW.1 (a - 1) 0 (f := σ.1 a) (by rw [wl_get ha, cel_i ha.2.2]) rfl (inb_in hin) hdg kk
theorem q_zald (hx : p.tables.exec = Jvm.exec) (hb : c.code = cc) (hK : va_K D vwCl (tyA cy) s) (hW : WH z n D cy Y σ H) {a : Nat} (ha : okk Y n 12 a) {i : Int32} (hin : inb i (Y a).2 = true) (hdg : decode cc pc = .ok (.baload, 1))
    (kk : W p l e R s m args below meth c H locs cells slots Q (F0 m (pc + 1) ls (.int (Mm.gi σ a (ix i)) :: rest))) : W p l e R s m args below meth c H locs cells slots Q (F0 m pc ls (.int i :: .ref (z + a) :: rest)) :=
  va_zald hx hb hK hW.1 (a - 1) 2 (f := σ.1 a) (by rw [wl_get ha, cel_z ha.2.2]) rfl (inb_in hin) hdg kk
theorem q_lald (hx : p.tables.exec = Jvm.exec) (hb : c.code = cc) (hK : va_K D vwCl (tyA cy) s) (hW : WH z n D cy Y σ H) {a : Nat} (ha : okk Y n 11 a) {i : Int32} (hin : inb i (Y a).2 = true) (hdg : decode cc pc = .ok (.laload, 1))
    (kk : W p l e R s m args below meth c H locs cells slots Q (F0 m (pc + 1) ls (.long (Mm.gl σ a (ix i)) :: rest))) : W p l e R s m args below meth c H locs cells slots Q (F0 m pc ls (.int i :: .ref (z + a) :: rest)) :=
  va_lald hx hb hK hW.1 (a - 1) 1 (f := σ.2.1 a) (by rw [wl_get ha, cel_l ha.2.2]) rfl (inb_in hin) hdg kk
/-- a reference out of an array of kind c -/
theorem q_aald (hx : p.tables.exec = Jvm.exec) (hb : c.code = cc) (hK : va_K D vwCl (tyA cy) s) (hW : WH z n D cy Y σ H) {a kc t : Nat} (ha : okk Y n kc a) (ht : aK kc = some t) {i : Int32} (hin : inb i (Y a).2 = true) (hdg : decode cc pc = .ok (.aaload, 1))
    (kk : okk Y n t (Mm.gr σ a (ix i)) → W p l e R s m args below meth c H locs cells slots Q (F0 m (pc + 1) ls (.ref (z + Mm.gr σ a (ix i)) :: rest))) : W p l e R s m args below meth c H locs cells slots Q (F0 m pc ls (.int i :: .ref (z + a) :: rest)) := by
  have h1 : okk Y n t (Mm.gr σ a (ix i)) := hW.2.1.2.1 a kc t ha ht _ (inb_lt hin)
  have h13 : 13 ≤ kc ∧ kc ≤ 16 := by
    rcases Nat.lt_or_ge kc 13 with h | h
    · match kc, h, ht with
      | 0, _, ht => cases ht
      | 1, _, ht => cases ht
      | 2, _, ht => cases ht
      | 3, _, ht => cases ht
      | 4, _, ht => cases ht
      | 5, _, ht => cases ht
      | 6, _, ht => cases ht
      | 7, _, ht => cases ht
      | 8, _, ht => cases ht
      | 9, _, ht => cases ht
      | 10, _, ht => cases ht
      | 11, _, ht => cases ht
      | 12, _, ht => cases ht
    · rcases Nat.lt_or_ge 16 kc with h2 | h2
      · match kc, h2, ht with
        | k + 17, _, ht => cases ht
      · exact ⟨h, h2⟩
  have hcell := hW.1 _ _ (wl_get ha)
  rw [cel_q ha.2.2 h13.1] at hcell
  have hv := kk h1
  have hlt : i.toNatClampNeg < (Y a).2 := inb_lt hin
  have hni := inb_in hin
  have fin : ∀ (k0 : Nat) (ty : FieldType), (tyA cy)[k0]? = some (cy (kc - 10), ty) → ty.isReference = true → W p l e R s m args below meth c H locs cells slots Q (F0 m pc ls (.int i :: .ref (z + a) :: rest)) := by
    intro k0 ty hk0 hty
    refine W.aald (v := va_rf (rq z (σ.2.2 a i.toNatClampNeg))) (ty := ty) hx hb hcell ((hK.2 k0 _ hk0).1 _ (fun j => va_rf (rq z (σ.2.2 a j)))) hty (fun q => by cases q) (by show ¬ (i < 0 ∨ (arrV _ _ _).slots.size ≤ _); rw [arrV_size]; exact hni) (by show (arrV _ _ _).slots[_]? = _; rw [arrV_read _ _ hlt]) rfl rfl hdg ?_
    show W p l e R s m args below meth c H locs cells slots Q (F0 m (pc + 1) ls (va_rf (rq z (Mm.gr σ a (ix i))) :: rest))
    rw [rq_pos h1.1]
    exact hv
  have h4 : kc = 13 ∨ kc = 14 ∨ kc = 15 ∨ kc = 16 := by omega
  rcases h4 with rfl | rfl | rfl | rfl
  · exact fin 3 (.object RX5) rfl rfl
  · exact fin 4 (.object RX7) rfl rfl
  · exact fin 5 (.object RX10) rfl rfl
  · exact fin 6 (.array .int) rfl rfl
theorem q_aalp (hx : p.tables.exec = Jvm.exec) (hb : c.code = cc) (hK : va_K D vwCl (tyA cy) s) (hW : WH z n D cy Y σ H) {a kc t : Nat} (ha : okk Y n kc a) (ht : aK kc = some t) {i : Int32} (hin : inb i (Y a).2 = true) {m9 b9 len : Nat} (hp : arf a = some (m9, b9, len)) (hdg : decode cc pc = .ok (.aaload, 1))
    (kk : okk Y n t (b9 + m9 * ix i) → (Y (b9 + m9 * ix i)).2 = len → W p l e R s m args below meth c H locs cells slots Q (F0 m (pc + 1) ls (.ref (z + (b9 + m9 * ix i)) :: rest))) : W p l e R s m args below meth c H locs cells slots Q (F0 m pc ls (.int i :: .ref (z + a) :: rest)) := by
  obtain ⟨-, h8, h9⟩ := hW.2.1.2.2.2 a kc m9 b9 len ha hp _ (inb_lt hin)
  have h7 : Mm.gr σ a (ix i) = b9 + m9 * ix i := h8
  refine q_aald hx hb hK hW ha ht hin hdg fun h1 => ?_
  rw [h7] at h1 ⊢
  exact kk h1 (by rw [← h7]; exact h9)
theorem inb_of {a len : Nat} {i : Int32} (h : (Y a).2 = len) (hi : inb i len = true) : inb i (Y a).2 = true := by rw [h]; exact hi
theorem le_of {a len q : Nat} (h : (Y a).2 = len) (hi : q ≤ len) : q ≤ (Y a).2 := by rw [h]; exact hi
theorem cel_sI {o k : Nat} {v : Int32} (h : (Y o).1 = 10) : cel z cy Y (Mm.si σ o k v) o = .inl (cy 0, (Y o).2, .inl (upd (σ.1 o) k v)) := by
  rw [cel_i h]; show Sum.inl (cy 0, (Y o).2, Sum.inl (Mm.u2 σ.1 o k v o)) = _; rw [u2_eq]
theorem cel_sZ {o k : Nat} {v : Int32} (h : (Y o).1 = 12) : cel z cy Y (Mm.si σ o k v) o = .inl (cy 2, (Y o).2, .inl (upd (σ.1 o) k v)) := by
  rw [cel_z h]; show Sum.inl (cy 2, (Y o).2, Sum.inl (Mm.u2 σ.1 o k v o)) = _; rw [u2_eq]
theorem cel_sL {o k : Nat} {v : Int64} (h : (Y o).1 = 11) : cel z cy Y (Mm.sl σ o k v) o = .inl (cy 1, (Y o).2, .inr (.inl (vp_updL (σ.2.1 o) k v))) := by
  rw [cel_l h]; show Sum.inl (cy 1, (Y o).2, Sum.inr (Sum.inl (Mm.u2 σ.2.1 o k v o))) = _; rw [u2_eqL]
theorem WH_of {σ' : Mm} {c0 o : Nat} {H1 : Heap} (ho : okk Y n c0 o) (hP : va_P D vwCl (wl z cy Y σ' n) H1) (hT : TY Y n σ'.2.2) : WH z n D cy Y σ' H1 :=
  ⟨hP, hT, Nat.lt_of_lt_of_le (show z < z + o by have := ho.1; omega) (Nat.le_of_lt (hP (o - 1) _ (wl_get ho)).lt)⟩
theorem q_iast (hx : p.tables.exec = Jvm.exec) (hb : c.code = cc) (hK : va_K D vwCl (tyA cy) s) (hW : WH z n D cy Y σ H) (hS : va_S (Az z) H0 H locs) {a : Nat} (ha : okk Y n 10 a) {i x : Int32} (hin : inb i (Y a).2 = true) (hdg : decode cc pc = .ok (.iastore, 1))
    (kk : ∀ (H1 : Heap) (locs1 : List Loc), WH z n D cy Y (Mm.si σ a (ix i) x) H1 → va_S (Az z) H0 H1 locs1 → W p l e R s m args below meth c H1 locs1 cells slots Q (F0 m (pc + 1) ls rest)) : W p l e R s m args below meth c H locs cells slots Q (F0 m pc ls (.int x :: .int i :: .ref (z + a) :: rest)) := by
  refine va_iast hx hb hK hW.1 wl_D hS (a - 1) 0 (f := σ.1 a) (by rw [wl_get ha, cel_i ha.2.2]) rfl (inb_in hin) hdg fun H1 locs1 hP _ hS1 => kk H1 locs1 (WH_of ha ?_ hW.2.1) hS1
  rw [← wl_set (σ := σ) (σ' := Mm.si σ a (ix i) x) ha (cel_sI ha.2.2) (fun q hq => si_ne hq)]
  exact hP
theorem q_zast (hx : p.tables.exec = Jvm.exec) (hb : c.code = cc) (hK : va_K D vwCl (tyA cy) s) (hW : WH z n D cy Y σ H) (hS : va_S (Az z) H0 H locs) {a : Nat} (ha : okk Y n 12 a) {i x : Int32} (hn : vp_nar .boolean x = x) (hin : inb i (Y a).2 = true) (hdg : decode cc pc = .ok (.bastore, 1))
    (kk : ∀ (H1 : Heap) (locs1 : List Loc), WH z n D cy Y (Mm.si σ a (ix i) x) H1 → va_S (Az z) H0 H1 locs1 → W p l e R s m args below meth c H1 locs1 cells slots Q (F0 m (pc + 1) ls rest)) : W p l e R s m args below meth c H locs cells slots Q (F0 m pc ls (.int x :: .int i :: .ref (z + a) :: rest)) := by
  refine va_zast hx hb hK hW.1 wl_D hS (a - 1) 2 (f := σ.1 a) (by rw [wl_get ha, cel_z ha.2.2]) rfl (inb_in hin) hdg fun H1 locs1 hP _ hS1 => kk H1 locs1 (WH_of ha ?_ hW.2.1) hS1
  rw [← wl_set (σ := σ) (σ' := Mm.si σ a (ix i) x) ha (cel_sZ ha.2.2) (fun q hq => si_ne hq)]
  rw [hn] at hP
  exact hP
theorem q_last (hx : p.tables.exec = Jvm.exec) (hb : c.code = cc) (hK : va_K D vwCl (tyA cy) s) (hW : WH z n D cy Y σ H) (hS : va_S (Az z) H0 H locs) {a : Nat} (ha : okk Y n 11 a) {i : Int32} {x : Int64} (hin : inb i (Y a).2 = true) (hdg : decode cc pc = .ok (.lastore, 1))
    (kk : ∀ (H1 : Heap) (locs1 : List Loc), WH z n D cy Y (Mm.sl σ a (ix i) x) H1 → va_S (Az z) H0 H1 locs1 → W p l e R s m args below meth c H1 locs1 cells slots Q (F0 m (pc + 1) ls rest)) : W p l e R s m args below meth c H locs cells slots Q (F0 m pc ls (.long x :: .int i :: .ref (z + a) :: rest)) := by
  refine va_last hx hb hK hW.1 wl_D hS (a - 1) 1 (f := σ.2.1 a) (by rw [wl_get ha, cel_l ha.2.2]) rfl (inb_in hin) hdg fun H1 locs1 hP _ hS1 => kk H1 locs1 (WH_of ha ?_ hW.2.1) hS1
  rw [← wl_set (σ := σ) (σ' := Mm.sl σ a (ix i) x) ha (cel_sL ha.2.2) (fun q hq => sl_ne hq)]
  exact hP
/-- System.arraycopy among rows of numbers -/
theorem q_copy (hx : p.tables.exec = Jvm.exec) (hb : c.code = cc) (hml : c.maxLocals = ls.size) {own : String} {index : Nat} (hown : s.vm.findClass own = some m.cls) (hlink : (Cond.methodLink own index arraycopyName).before args s = true) (hnat : (Cond.native arraycopyName).before args s = true) (hstat : (Cond.static arraycopyName).before args s = true) (hini : (Cond.initialized "java/lang/System").before args s = true) (hK : va_K D vwCl (tyA cy) s) (hW : WH z n D cy Y σ H) (hS : va_S (Az z) H0 H locs) {a0 a : Nat} (ha0 : okk Y n 10 a0) (ha : okk Y n 10 a)
    {sp dp k : Int32} (h1 : ¬ sp < 0) (h2 : ¬ dp < 0) (h3 : ¬ k < 0) (h4 : ix sp + ix k ≤ (Y a0).2) (h5 : ix dp + ix k ≤ (Y a).2) (hframes : 1 ≤ R.frames) (hlocals : (rest.map fun v => v.category).sum + (nativeFrameWords "java/lang/System" "arraycopy" 5 + 11) ≤ R.locals) (hdg : decode cc pc = .ok (.invokestatic index, 3))
    (kk : ∀ (H1 : Heap) (locs1 : List Loc), WH z n D cy Y (Mm.cp σ a0 (ix sp) a (ix dp) (ix k)) H1 → va_S (Az z) H0 H1 locs1 → W p l e R s m args below meth c H1 locs1 cells slots Q (F0 m (pc + 3) ls rest)) : W p l e R s m args below meth c H locs cells slots Q (F0 m pc ls (.int k :: .int dp :: .ref (z + a) :: .int sp :: .ref (z + a0) :: rest)) := by
  refine va_copyi hx hb hml hown hlink hnat hstat hini hK hW.1 wl_D hS (a0 - 1) (a - 1) 0 0 (f := σ.1 a0) (g := σ.1 a) (ty := .int) (by rw [wl_get ha0, cel_i ha0.2.2]) (by rw [wl_get ha, cel_i ha.2.2]) rfl rfl rfl h1 h2 h3 h4 h5 (fun _ _ => rfl) hframes hlocals hdg fun H1 locs1 hP _ hS1 => kk H1 locs1 (WH_of ha ?_ hW.2.1) hS1
  have e1 : cel z cy Y (Mm.cp σ a0 (ix sp) a (ix dp) (ix k)) a = .inl (cy 0, (Y a).2, .inl (va_cpy (σ.1 a0) (σ.1 a) (ix sp) (ix dp) (ix k))) := by
    rw [cel_i ha.2.2]
    show Sum.inl (cy 0, (Y a).2, Sum.inl (fun b => if a = a then va_cpy (σ.1 a0) (σ.1 a) (ix sp) (ix dp) (ix k) b else σ.1 a b)) = _
    simp
  rw [← wl_set (σ := σ) (σ' := Mm.cp σ a0 (ix sp) a (ix dp) (ix k)) ha e1 (fun q hq => cel_ne (by funext b; simp [Mm.cp, hq]) rfl rfl)]
  exact hP
/-! calls -/
theorem q_calli {st0 : List Value} {a : Array Value} {r : Int32} {σ1 : Mm} (hr : va_Run p l e R s m args below meth c H locs cells slots 0 0 (F0 m pc ls st0) rest (va_Qi (fun (x : Int32) (_ : Unit) => x = r) (fun _ t => WH z n D cy Y σ1 t.heap) (Az z) a) (Az z)) (hS : va_S (Az z) H0 H locs)
    (kk : ∀ (H1 : Heap) (locs1 : List Loc), WH z n D cy Y σ1 H1 → va_S (Az z) H0 H1 locs1 → W p l e R s m args below meth c H1 locs1 cells slots Q (F0 m (pc + 3) ls (.int r :: rest))) : W p l e R s m args below meth c H locs cells slots Q (F0 m pc ls st0) := by
  refine va_calli hr hS (fun _ _ h => h) (fun _ h => h) fun r1 u t H1 locs1 ht _ hp hB _ _ hS1 => ?_
  rw [hp]
  exact kk H1 locs1 (by rw [← ht]; exact hB) hS1
theorem q_calll {st0 : List Value} {a : Array Value} {r : Int64} {σ1 : Mm} (hr : va_Run p l e R s m args below meth c H locs cells slots 0 0 (F0 m pc ls st0) rest (va_Ql (fun (x : Int64) (_ : Unit) => x = r) (fun _ t => WH z n D cy Y σ1 t.heap) (Az z) a) (Az z)) (hS : va_S (Az z) H0 H locs)
    (kk : ∀ (H1 : Heap) (locs1 : List Loc), WH z n D cy Y σ1 H1 → va_S (Az z) H0 H1 locs1 → W p l e R s m args below meth c H1 locs1 cells slots Q (F0 m (pc + 3) ls (.long r :: rest))) : W p l e R s m args below meth c H locs cells slots Q (F0 m pc ls st0) := by
  refine va_calll hr hS (fun _ _ h => h) (fun _ h => h) fun r1 u t H1 locs1 ht _ hp hB _ _ hS1 => ?_
  rw [hp]
  exact kk H1 locs1 (by rw [← ht]; exact hB) hS1
theorem q_callv {st0 : List Value} {a : Array Value} {σ1 : Mm} (hr : va_Run p l e R s m args below meth c H locs cells slots 0 0 (F0 m pc ls st0) rest (va_Qv (fun (_ : Unit) => True) (fun _ t => WH z n D cy Y σ1 t.heap) (Az z) a) (Az z)) (hS : va_S (Az z) H0 H locs)
    (kk : ∀ (H1 : Heap) (locs1 : List Loc), WH z n D cy Y σ1 H1 → va_S (Az z) H0 H1 locs1 → W p l e R s m args below meth c H1 locs1 cells slots Q (F0 m (pc + 3) ls rest)) : W p l e R s m args below meth c H locs cells slots Q (F0 m pc ls st0) := by
  refine va_callv hr hS (fun _ _ h => h) (fun _ h => h) fun u t H1 locs1 ht _ hp hB _ _ hS1 => ?_
  exact kk H1 locs1 (by rw [← ht]; exact hB) hS1
theorem q_callr {st0 : List Value} {a : Array Value} {r ck : Nat} {σ1 : Mm} (hr : va_Run p l e R s m args below meth c H locs cells slots 0 0 (F0 m pc ls st0) rest (va_Qr (fun (_ : Unit) => True) (fun _ b t => b = z + r ∧ okk Y n ck r ∧ WH z n D cy Y σ1 t.heap) (Az z) a) (Az z)) (hS : va_S (Az z) H0 H locs)
    (kk : ∀ (H1 : Heap) (locs1 : List Loc), okk Y n ck r → WH z n D cy Y σ1 H1 → va_S (Az z) H0 H1 locs1 → W p l e R s m args below meth c H1 locs1 cells slots Q (F0 m (pc + 3) ls (.ref (z + r) :: rest))) : W p l e R s m args below meth c H locs cells slots Q (F0 m pc ls st0) := by
  refine va_callr hr hS (fun _ _ h => h) (fun _ h => h) fun u b t H1 locs1 ht _ hp hB _ _ hS1 => ?_
  obtain ⟨rfl, hk, hw⟩ := hB
  exact kk H1 locs1 hk (by rw [← ht]; exact hw) hS1
theorem WX.at {s U : State} (hK : va_K D vwCl (tyA cy) s) (hN : NW s) (hW : WH z n D cy Y σ H) (hU : U.heap = H) (hw : s.WarmedH U.vm) : WX z n D cy Y σ U := ⟨by rw [hU]; exact hW, va_K.moved hw.alike hK, NW.warm hw hN⟩
/-- what a call of an object of kind kc needs -/
theorem q_PV {C : String} {T : u_T} {N kc o : Nat} {As : List Value} (hK : va_K D vwCl (tyA cy) s) (hN : NW s) (hW : WH z n D cy Y σ H) (ho : okk Y n kc o) (h10 : kc < 10) (hc : vwCl[kc]? = some (C, T, N)) : PreV s H C (z + o) (va_Pc (.ref (z + o) :: As) (WX z n D cy Y σ)) As := by
  refine ⟨WX.blind, va_recv (q0 := o - 1) (ci := kc) (fs := fvs z σ o 0 (kd kc)) hK hW.1 hc (by rw [wl_get ho, cel_obj ho.2.2 h10]), fun U hU hw => ⟨rfl, WX.at hK hN hW hU hw⟩⟩
theorem q_PS {As : List Value} (hK : va_K D vwCl (tyA cy) s) (hN : NW s) (hW : WH z n D cy Y σ H) : PreS s H (va_Pc As (WX z n D cy Y σ)) As :=
  ⟨WX.blind, fun U hU hw => ⟨rfl, WX.at hK hN hW hU hw⟩⟩
/-! ends -/
theorem q_iret {r v : Int32} {σ1 : Mm} (hx : p.tables.exec = Jvm.exec) (hb : c.code = cc) (hr : meth.sig.returnType = some .int) (hlocks : meth.locks = false) (hW : WH z n D cy Y σ H) (hS : va_S (Az z) s.heap H locs) (hf : (some (v, σ) : Option (Int32 × Mm)) = some (r, σ1)) (hdg : decode cc pc = .ok (.ireturn, 1)) : W p l e R s m args below meth c H locs cells slots (MQ below (va_Qi (fun (x : Int32) (_ : Unit) => x = r) (fun _ t => WH z n D cy Y σ1 t.heap) (Az z)) args s cells slots (Az z)) (F0 m pc ls [.int v]) := by
  have h := Option.some.inj hf
  have e1 : v = r := congrArg Prod.fst h
  have e2 : σ = σ1 := congrArg Prod.snd h
  subst e1; subst e2
  exact W.iret hx hb hr (fun t ht hw => ⟨⟨v, (), rfl, rfl, by show WH z n D cy Y σ t.heap; rw [ht]; exact hW⟩, hS.F ht⟩) hS.2.2 hdg hlocks
def zret (v : Int32) (σ : Mm) : Option (Int32 × Mm) := if v &&& 1 = v then some (v, σ) else none
theorem nar_z {v : Int32} (h : v &&& 1 = v) : narrow .boolean (.int v) = .int v := by
  show Value.int (v &&& 1) = .int v
  rw [h]
theorem q_zret {r v : Int32} {σ1 : Mm} (hx : p.tables.exec = Jvm.exec) (hb : c.code = cc) (hr : meth.sig.returnType = some .boolean) (hlocks : meth.locks = false) (hW : WH z n D cy Y σ H) (hS : va_S (Az z) s.heap H locs) (hf : zret v σ = some (r, σ1)) (hdg : decode cc pc = .ok (.ireturn, 1)) : W p l e R s m args below meth c H locs cells slots (MQ below (va_Qi (fun (x : Int32) (_ : Unit) => x = r) (fun _ t => WH z n D cy Y σ1 t.heap) (Az z)) args s cells slots (Az z)) (F0 m pc ls [.int v]) := by
  obtain ⟨hn, hf⟩ := g_if hf
  have h := Option.some.inj hf
  have e1 : v = r := congrArg Prod.fst h
  have e2 : σ = σ1 := congrArg Prod.snd h
  subst e1; subst e2
  exact W.zret hx hb hr (nar_z hn) (fun t ht hw => ⟨⟨v, (), rfl, rfl, by show WH z n D cy Y σ t.heap; rw [ht]; exact hW⟩, hS.F ht⟩) hS.2.2 hdg hlocks
theorem q_lret {r v : Int64} {σ1 : Mm} (hx : p.tables.exec = Jvm.exec) (hb : c.code = cc) (hr : meth.sig.returnType = some .long) (hlocks : meth.locks = false) (hW : WH z n D cy Y σ H) (hS : va_S (Az z) s.heap H locs) (hf : (some (v, σ) : Option (Int64 × Mm)) = some (r, σ1)) (hdg : decode cc pc = .ok (.lreturn, 1)) : W p l e R s m args below meth c H locs cells slots (MQ below (va_Ql (fun (x : Int64) (_ : Unit) => x = r) (fun _ t => WH z n D cy Y σ1 t.heap) (Az z)) args s cells slots (Az z)) (F0 m pc ls [.long v]) := by
  have h := Option.some.inj hf
  have e1 : v = r := congrArg Prod.fst h
  have e2 : σ = σ1 := congrArg Prod.snd h
  subst e1; subst e2
  exact W.lret hx hb hr (fun t ht hw => ⟨⟨v, (), rfl, rfl, by show WH z n D cy Y σ t.heap; rw [ht]; exact hW⟩, hS.F ht⟩) hS.2.2 hdg hlocks
theorem q_vret {σ1 : Mm} (hx : p.tables.exec = Jvm.exec) (hb : c.code = cc) (hr : meth.sig.returnType = none) (hlocks : meth.locks = false) (hW : WH z n D cy Y σ H) (hS : va_S (Az z) s.heap H locs) (hf : (some σ : Option Mm) = some σ1) (hdg : decode cc pc = .ok (.return_, 1)) : W p l e R s m args below meth c H locs cells slots (MQ below (va_Qv (fun (_ : Unit) => True) (fun _ t => WH z n D cy Y σ1 t.heap) (Az z)) args s cells slots (Az z)) (F0 m pc ls []) := by
  have e2 : σ = σ1 := Option.some.inj hf
  subst e2
  exact W.vret hx hb hr (fun t ht hw => ⟨⟨(), rfl, trivial, by show WH z n D cy Y σ t.heap; rw [ht]; exact hW⟩, hS.F ht⟩) hS.2.2 hdg hlocks
theorem q_aret {r v ck : Nat} {σ1 : Mm} {rt : FieldType} (hx : p.tables.exec = Jvm.exec) (hb : c.code = cc) (hr : meth.sig.returnType = some rt) (hrt : (∃ n, rt = .object n) ∨ ∃ t, rt = .array t) (hlocks : meth.locks = false) (hk : okk Y n ck v) (hW : WH z n D cy Y σ H) (hS : va_S (Az z) s.heap H locs) (hf : (some (v, σ) : Option (Nat × Mm)) = some (r, σ1)) (hdg : decode cc pc = .ok (.areturn, 1)) : W p l e R s m args below meth c H locs cells slots (MQ below (va_Qr (fun (_ : Unit) => True) (fun _ b t => b = z + r ∧ okk Y n ck r ∧ WH z n D cy Y σ1 t.heap) (Az z)) args s cells slots (Az z)) (F0 m pc ls [.ref (z + v)]) := by
  have h := Option.some.inj hf
  have e1 : v = r := congrArg Prod.fst h
  have e2 : σ = σ1 := congrArg Prod.snd h
  subst e1; subst e2
  exact W.aret hx hb hr hrt (Or.inr ⟨_, rfl⟩) (fun t ht hw => ⟨⟨(), z + v, rfl, trivial, rfl, hk, by show WH z n D cy Y σ t.heap; rw [ht]; exact hW⟩, hS.F ht⟩) hS.2.2 hdg hlocks
/-! switches -/
theorem q_tcase {x k : Int32} {dflt lo hi : Int} {offs : Array Int} {len : Nat} {off : Int} {tgt : Nat} (hx : p.tables.exec = Jvm.exec) (hb : c.code = cc) (hdg : decode cc pc = .ok (.tableswitch dflt lo hi offs, len)) (ek : x = k) (h1 : ¬ k.toInt < lo) (h2 : ¬ hi < k.toInt) (ho : offs[(k.toInt - lo).toNat]? = some off) (ht : (pc : Int) + off = (tgt : Int))
    (kk : W p l e R s m args below meth c H locs cells slots Q (F0 m tgt ls rest)) : W p l e R s m args below meth c H locs cells slots Q (F0 m pc ls (.int x :: rest)) := by
  rw [ek]; exact lv_tableIn hx hb hdg h1 h2 ho ht kk
theorem q_lcase {x k : Int32} {dflt : Int} {ps : Array (Int × Int)} {len : Nat} {off : Int} {tgt : Nat} (hx : p.tables.exec = Jvm.exec) (hb : c.code = cc) (hdg : decode cc pc = .ok (.lookupswitch dflt ps, len)) (hp : (ps.toList.zip (ps.toList.drop 1)).all (fun (a, next) => a.1 < next.1) = true) (ek : x = k) (ho : Op.lookupswitch.offset ps.toList dflt k.toInt = off) (ht : (pc : Int) + off = (tgt : Int))
    (kk : W p l e R s m args below meth c H locs cells slots Q (F0 m tgt ls rest)) : W p l e R s m args below meth c H locs cells slots Q (F0 m pc ls (.int x :: rest)) := by
  rw [ek]; exact lv_lookup hx hb hdg hp ho ht kk
end QROWS
