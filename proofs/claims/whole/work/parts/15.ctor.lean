/-! THE MAKING OF THE WORLD: n objects are there (1 .. n - 1), behind them nothing -/
def WC (z n : Nat) (D : va_G) (cy : Nat → ClassId) (Y : Yt) (σ : Mm) (H : Heap) : Prop := va_P D vwCl (wl z cy Y σ n) H ∧ H.size = z + n ∧ 0 < n ∧ ∀ o, n ≤ o → σ.1 o = (fun _ => 0) ∧ σ.2.1 o = (fun _ => 0) ∧ σ.2.2 o = (fun _ => 0)
def va_AI (U : State) : Prop := (Cond.arrayOver (.array .int)).before #[] U = true
theorem va_AI.moved {u U : State} (hvm : u.vm.Alike U.vm) (h : va_AI u) : va_AI U := by
  obtain ⟨comp, c, k, h1, h2, h3, h4, h5⟩ := arrayOverA_spec h
  obtain ⟨k', hk', he⟩ := hvm.2.2 _ _ h3
  have hi : (U.vm.classes.findIdx? fun (x : Class) => match x.kind with | .array component _ => component == comp | _ => false) = some c := by
    have e1 := va_idx_bare U.vm comp
    have e2 := va_idx_bare u.vm comp
    first
      | (rw [hvm.bare_eq] at e1; exact (e1.symm.trans e2).trans h2)
      | (rw [← hvm.bare_eq] at e1; exact (e1.symm.trans e2).trans h2)
  have hkind : k'.kind = .array comp (.array .int) := by rw [he]; exact h4
  have f1 : U.vm.findClass (FieldType.array .int).toString = some comp := by rw [hvm.findClass]; exact h1
  have f2 : U.vm.findClass ("[" ++ (FieldType.array .int).toString) = some c := by rw [hvm.findClass]; exact h5
  unfold va_AI Cond.before Cond.holds
  simp only [Cond.value]
  rw [f1, Option.bind_some]
  refine (congrArg (fun o : Option Nat => (o.bind (fun c => (U.vm.classes[c]?).map fun (k : Class) => match k.kind with | .array _ ty => decide (ty = FieldType.array .int) && decide (U.vm.findClass ("[" ++ (FieldType.array .int).toString) = some c) | _ => false) == some true)) hi).trans ?_
  simp [hk', hkind, f2]
def KO (U : State) : Prop := va_AO RX5 U ∧ va_AO RX7 U ∧ va_AO RX10 U ∧ va_AI U
theorem KO.moved {u U : State} (hvm : u.vm.Alike U.vm) (h : KO u) : KO U := ⟨h.1.moved hvm, h.2.1.moved hvm, h.2.2.1.moved hvm, h.2.2.2.moved hvm⟩
def WXc (z n : Nat) (D : va_G) (cy : Nat → ClassId) (Y : Yt) (σ : Mm) (U : State) : Prop := WC z n D cy Y σ U.heap ∧ va_K D vwCl (tyA cy) U ∧ NW U ∧ KO U
theorem WXc.blind {z n : Nat} {D : va_G} {cy : Nat → ClassId} {Y : Yt} {σ : Mm} {av : List Value} : FrameBlind (va_Pc av (WXc z n D cy Y σ)) := by
  intro a U g mk h
  exact ⟨h.1, h.2.1, va_K.moved (u := U) (U := U.calling g mk a) (Vm.Alike.refl U.vm) h.2.2.1, NW.same (u := U) (U := U.calling g mk a) rfl h.2.2.2.1, KO.moved (u := U) (U := U.calling g mk a) (Vm.Alike.refl U.vm) h.2.2.2.2⟩
/-- a constructor: n objects before, n1 behind; mc cells of ms slots made -/
abbrev Kc (l : Launch) (y : MethodName) (ws : List Cond) (rm : Room) (z : Nat) (D : va_G) (cy : Nat → ClassId) (Y : Yt) (av : List Value) (n : Nat) (σ : Mm) (n1 : Nat) (σ1 : Mm) (mc ms : Nat) : Prop := Met l y ws rm (va_Pc av (WXc z n D cy Y σ)) (va_Qv (fun (_ : Unit) => True) (fun _ t => WC z n1 D cy Y σ1 t.heap) (Az z)) mc ms (Az z)
theorem okk.mono {Y : Yt} {n m c o : Nat} (h : okk Y n c o) (hm : n ≤ m) : okk Y m c o := ⟨h.1, Nat.lt_of_lt_of_le h.2.1 hm, h.2.2⟩
theorem okk.new {Y : Yt} {n c len : Nat} (h0 : 0 < n) (h : Y n = (c, len)) : okk Y (n + 1) c n := ⟨h0, Nat.lt_succ_self n, by rw [h]⟩
theorem WC_push {z n : Nat} {D : va_G} {cy : Nat → ClassId} {Y : Yt} {σ : Mm} {H H1 : Heap} (hC : WC z n D cy Y σ H) (o1 : ∀ q, q < H.size → H1[q]? = H[q]?) (z1 : H1.size = H.size + 1) (hn : va_at D vwCl (z + n, cel z cy Y σ n) H1) : WC z (n + 1) D cy Y σ H1 := by
  obtain ⟨hP, hs, h0, hz⟩ := hC
  refine ⟨fun k q hq => ?_, by rw [z1, hs]; omega, by omega, fun o ho => hz o (by omega)⟩
  obtain ⟨hk, rfl⟩ := wl_inv hq
  by_cases hkn : k + 1 = n
  · rw [hkn]; exact hn
  · have hlt : k + 1 < n := by omega
    have hold : (wl z cy Y σ n)[k]? = some (z + (k + 1), cel z cy Y σ (k + 1)) := by
      unfold wl
      rw [List.getElem?_map, List.getElem?_range (by omega)]
      rfl
    have h1 := hP k _ hold
    exact h1.kept (o1 _ h1.lt)
theorem WC.setσ {z n : Nat} {D : va_G} {cy : Nat → ClassId} {Y : Yt} {σ σ' : Mm} {H H1 : Heap} {o kc : Nat} {e : va_E} (hC : WC z n D cy Y σ H) (ho : okk Y n kc o) (he : cel z cy Y σ' o = e) (hne : ∀ q, q ≠ o → cel z cy Y σ' q = cel z cy Y σ q) (hat : va_at D vwCl (z + o, e) H1) (oq : ∀ q : Nat, q ≠ z + o → H1[q]? = H[q]?) (z1 : H1.size = H.size) (hzz : ∀ q, n ≤ q → σ'.1 q = σ.1 q ∧ σ'.2.1 q = σ.2.1 q ∧ σ'.2.2 q = σ.2.2 q) : WC z n D cy Y σ' H1 := by
  obtain ⟨hP, hs, h0, hz⟩ := hC
  refine ⟨?_, by rw [z1, hs], h0, fun q hq => by rw [(hzz q hq).1, (hzz q hq).2.1, (hzz q hq).2.2]; exact hz q hq⟩
  rw [← wl_set (σ := σ) (σ' := σ') ho he hne]
  exact hP.set (A := Az z) wl_D (wl_get ho) hat oq
theorem fvs_zero {z n : Nat} {σ : Mm} (h : σ.1 n = (fun _ => 0) ∧ σ.2.1 n = (fun _ => 0) ∧ σ.2.2 n = (fun _ => 0)) (l : List Nat) : fvs z σ n 0 l = l.map (fun t => match t with | 0 => Value.int 0 | 1 => .long 0 | _ => .null) := by
  apply List.ext_getElem?
  intro j
  rw [fvs_get, List.getElem?_map, Nat.zero_add]
  cases l[j]? with
  | none => rfl
  | some u =>
    match u with
    | 0 => simp [fv1, h.1]
    | 1 => simp [fv1, h.2.1]
    | u + 2 => simp [fv1, h.2.2, rq, va_rf]
section CROWS
variable {p : Program} {l : Launch} {e : Env} {R : Room} {s : State} {m : MethodId} {args : Array Value} {below : List Frame} {meth : Method} {c : Code} {H : Heap} {locs : List Loc} {cells slots : Nat} {Q : State → Prop}
variable {cc : ByteArray} {pc : Nat} {ls : Array Slot} {rest : List Value} {z n : Nat} {D : va_G} {cy : Nat → ClassId} {Y : Yt} {σ : Mm} {H0 : Heap}
theorem va_S.grow {A : Nat → Prop} {H0 H H1 : Heap} {locs : List Loc} (hS : va_S A H0 H locs) (o1 : ∀ q, q < H.size → H1[q]? = H[q]?) (z1 : H.size ≤ H1.size) : va_S A H0 H1 locs := ⟨Nat.le_trans hS.1 z1, fun x h1 h2 => (o1 x (Nat.lt_of_lt_of_le h1 hS.1)).trans (hS.2.1 x h1 h2), hS.2.2⟩
theorem c_new (hx : p.tables.exec = Jvm.exec) (hb : c.code = cc) {own C : String} {T : u_T} {N kc index : Nat} {Ts : List Cond} (hts : ∀ w ∈ Ts, w.before args s = true) (hin : ∀ w ∈ u_ws C T N, w ∈ Ts) (ty : Nat → FieldType) (hty : ∀ k, k < N → parseFieldDescriptor (T k).2.2.1 = some (ty k)) (hown : s.vm.findClass own = some m.cls) (hcl : (Cond.classLink own index C).before args s = true) (hinst : (Cond.instantiable C N).before args s = true) (hini : (Cond.initialized C).before args s = true)
    (hK : va_K D vwCl (tyA cy) s) (hC : WC z n D cy Y σ H) (hS : va_S (Az z) H0 H locs) (hc : vwCl[kc]? = some (C, T, N)) (h10 : kc < 10) {len : Nat} (hY : Y n = (kc, len)) (hfs : ∀ j, j < N → defaultValue (ty j) = vp_V ((kd kc).map (fun t => match t with | 0 => Value.int 0 | 1 => .long 0 | _ => .null)) j) (hcells : cells + 1 ≤ R.cells) (hslots : slots + N ≤ R.slots) (hdg : decode cc pc = .ok (.new index, 3))
    (kk : ∀ (H1 : Heap), WC z (n + 1) D cy Y σ H1 → okk Y (n + 1) kc n → va_S (Az z) H0 H1 locs → W p l e R s m args below meth c H1 locs (cells + 1) (slots + N) Q (F0 m (pc + 3) ls (.ref (z + n) :: rest))) : W p l e R s m args below meth c H locs cells slots Q (F0 m pc ls rest) := by
  have hKn := hK.1 kc _ hc
  refine W.newcK hx hb hown hcl hinst hini rfl hdg hcells hslots hKn.2.1 rfl fun H1 kC hkC e1 z1 o1 => ?_
  have hs := hC.2.1
  have hY1 : (Y n).1 = kc := by rw [hY]
  have hw : WC z (n + 1) D cy Y σ H1 := WC_push hC o1 z1 (by
    rw [cel_obj hY1 h10, fvs_zero (hC.2.2.2 n (Nat.le_refl n))]
    rw [hs] at e1
    exact ⟨_, hc, (u_born ty hts hin hKn hkC e1 hty).to hfs⟩)
  have hk := kk H1 hw (okk.new hC.2.2.1 hY) (hS.grow o1 (by omega))
  rw [← hs] at hk
  exact hk
theorem c_newa (hx : p.tables.exec = Jvm.exec) (hb : c.code = cc) {atype : ArrayType} (harr : (Cond.arrayClass (newarray.typeOf atype)).before args s = true) {ty : FieldType} (hty : newarray.typeOf atype = ty) (hK : va_K D vwCl (tyA cy) s) (hC : WC z n D cy Y σ H) (hS : va_S (Az z) H0 H locs) {kc j N' : Nat} (hY : Y n = (kc, N')) (hj : (tyA cy)[j]? = some (cy j, ty)) (hft : va_RA s (cy j) ty → s.vm.findClass ("[" ++ ty.toString) = some (cy j))
    (hcel : ∀ τ : Mm, τ.1 n = (fun _ => 0) → τ.2.1 n = (fun _ => 0) → va_at D vwCl (z + n, cel z cy Y τ n) = fun H1 => H1[z + n]? = some (arrV (cy j) N' (fun _ => defaultValue ty)))
    {k : Int32} (hn : ¬ k < 0) (hN : k.toNatClampNeg = N') (hbytes : N' * componentBytes ty ≤ 536870912) (hcells : cells + 1 ≤ R.cells) (hslots : slots + N' ≤ R.slots) (hdg : decode cc pc = .ok (.newarray atype, 2))
    (kk : ∀ (H1 : Heap), WC z (n + 1) D cy Y σ H1 → okk Y (n + 1) kc n → va_S (Az z) H0 H1 locs → W p l e R s m args below meth c H1 locs (cells + 1) (slots + N') Q (F0 m (pc + 2) ls (.ref (z + n) :: rest))) : W p l e R s m args below meth c H locs cells slots Q (F0 m pc ls (.int k :: rest)) := by
  subst hty
  refine va_newaK hx hb harr rfl hdg rfl hn hN hbytes hcells hslots rfl fun H1 cA e1 z1 o1 hAr hNm => ?_
  have hs := hC.2.1
  have hcA : cA = cy j := by
    have h1 := hft (hK.2 j _ hj).2
    rw [hNm] at h1
    exact Option.some.inj h1
  subst hcA
  have hz := hC.2.2.2 n (Nat.le_refl n)
  have hw : WC z (n + 1) D cy Y σ H1 := WC_push hC o1 z1 (by
    rw [hcel σ hz.1 hz.2.1]
    rw [hs] at e1
    exact e1)
  have hk := kk H1 hw (okk.new hC.2.2.1 hY) (hS.grow o1 (by omega))
  rw [← hs] at hk
  exact hk
theorem c_newi (hx : p.tables.exec = Jvm.exec) (hb : c.code = cc) (harr : (Cond.arrayClass .int).before args s = true) (hK : va_K D vwCl (tyA cy) s) (hC : WC z n D cy Y σ H) (hS : va_S (Az z) H0 H locs) {N' : Nat} (hY : Y n = (10, N'))
    {k : Int32} (hn : ¬ k < 0) (hN : k.toNatClampNeg = N') (hbytes : N' * 4 ≤ 536870912) (hcells : cells + 1 ≤ R.cells) (hslots : slots + N' ≤ R.slots) (hdg : decode cc pc = .ok (.newarray .int, 2))
    (kk : ∀ (H1 : Heap), WC z (n + 1) D cy Y σ H1 → okk Y (n + 1) 10 n → va_S (Az z) H0 H1 locs → W p l e R s m args below meth c H1 locs (cells + 1) (slots + N') Q (F0 m (pc + 2) ls (.ref (z + n) :: rest))) : W p l e R s m args below meth c H locs cells slots Q (F0 m pc ls (.int k :: rest)) := by
  refine c_newa hx hb (atype := .int) harr rfl hK hC hS hY (j := 0) rfl (fun h => h) (fun τ h1 h2 => ?_) hn hN hbytes hcells hslots hdg kk
  have hY1 : (Y n).1 = 10 := by rw [hY]
  have hY2 : (Y n).2 = N' := by rw [hY]
  rw [cel_i hY1, h1, hY2]
  rfl
theorem c_newl (hx : p.tables.exec = Jvm.exec) (hb : c.code = cc) (harr : (Cond.arrayClass .long).before args s = true) (hK : va_K D vwCl (tyA cy) s) (hC : WC z n D cy Y σ H) (hS : va_S (Az z) H0 H locs) {N' : Nat} (hY : Y n = (11, N'))
    {k : Int32} (hn : ¬ k < 0) (hN : k.toNatClampNeg = N') (hbytes : N' * 8 ≤ 536870912) (hcells : cells + 1 ≤ R.cells) (hslots : slots + N' ≤ R.slots) (hdg : decode cc pc = .ok (.newarray .long, 2))
    (kk : ∀ (H1 : Heap), WC z (n + 1) D cy Y σ H1 → okk Y (n + 1) 11 n → va_S (Az z) H0 H1 locs → W p l e R s m args below meth c H1 locs (cells + 1) (slots + N') Q (F0 m (pc + 2) ls (.ref (z + n) :: rest))) : W p l e R s m args below meth c H locs cells slots Q (F0 m pc ls (.int k :: rest)) := by
  refine c_newa hx hb (atype := .long) harr rfl hK hC hS hY (j := 1) rfl (fun h => h) (fun τ h1 h2 => ?_) hn hN hbytes hcells hslots hdg kk
  have hY1 : (Y n).1 = 11 := by rw [hY]
  have hY2 : (Y n).2 = N' := by rw [hY]
  rw [cel_l hY1, h2, hY2]
  rfl
theorem c_newz (hx : p.tables.exec = Jvm.exec) (hb : c.code = cc) (harr : (Cond.arrayClass .boolean).before args s = true) (hK : va_K D vwCl (tyA cy) s) (hC : WC z n D cy Y σ H) (hS : va_S (Az z) H0 H locs) {N' : Nat} (hY : Y n = (12, N'))
    {k : Int32} (hn : ¬ k < 0) (hN : k.toNatClampNeg = N') (hbytes : N' * 1 ≤ 536870912) (hcells : cells + 1 ≤ R.cells) (hslots : slots + N' ≤ R.slots) (hdg : decode cc pc = .ok (.newarray .boolean, 2))
    (kk : ∀ (H1 : Heap), WC z (n + 1) D cy Y σ H1 → okk Y (n + 1) 12 n → va_S (Az z) H0 H1 locs → W p l e R s m args below meth c H1 locs (cells + 1) (slots + N') Q (F0 m (pc + 2) ls (.ref (z + n) :: rest))) : W p l e R s m args below meth c H locs cells slots Q (F0 m pc ls (.int k :: rest)) := by
  refine c_newa hx hb (atype := .boolean) harr rfl hK hC hS hY (j := 2) rfl (fun h => h) (fun τ h1 h2 => ?_) hn hN hbytes hcells hslots hdg kk
  have hY1 : (Y n).1 = 12 := by rw [hY]
  have hY2 : (Y n).2 = N' := by rw [hY]
  rw [cel_z hY1, h1, hY2]
  rfl
theorem c_newq (hx : p.tables.exec = Jvm.exec) (hb : c.code = cc) {own C : String} {index : Nat} (hown : s.vm.findClass own = some m.cls) (hclink : (Cond.classLink own index C).before args s = true) (hover : va_AO C s) (hK : va_K D vwCl (tyA cy) s) (hC : WC z n D cy Y σ H) (hS : va_S (Az z) H0 H locs) {kc N' : Nat} (hY : Y n = (kc, N')) (h13 : 13 ≤ kc) (hj : (tyA cy)[kc - 10]? = some (cy (kc - 10), .object C))
    {k : Int32} (hn : ¬ k < 0) (hN : k.toNatClampNeg = N') (hbytes : N' * 4 ≤ 536870912) (hcells : cells + 1 ≤ R.cells) (hslots : slots + N' ≤ R.slots) (hdg : decode cc pc = .ok (.anewarray index, 3))
    (kk : ∀ (H1 : Heap), WC z (n + 1) D cy Y σ H1 → okk Y (n + 1) kc n → va_S (Az z) H0 H1 locs → W p l e R s m args below meth c H1 locs (cells + 1) (slots + N') Q (F0 m (pc + 3) ls (.ref (z + n) :: rest))) : W p l e R s m args below meth c H locs cells slots Q (F0 m pc ls (.int k :: rest)) := by
  subst hN
  refine W.anew hx hb hown hclink (va_AO.use hover) rfl hdg rfl hn hbytes hcells hslots fun cA kA comp f1 f2 f3 f4 => ?_
  generalize hH1 : H.push ({ cls := cA, slots := Array.replicate k.toNatClampNeg .null, vm := .none } : Cell) = H1
  have z1 : H1.size = H.size + 1 := by rw [← hH1, Array.size_push]
  have e1 : H1[H.size]? = some (arrV cA k.toNatClampNeg (fun _ => .null)) := by rw [← hH1, Array.getElem?_push_size, ← arrV_new]
  have o1 : ∀ q : Nat, q < H.size → H1[q]? = H[q]? := fun q hq => by rw [← hH1, Array.getElem?_push, if_neg (Nat.ne_of_lt hq)]
  have hs := hC.2.1
  have hcA : cA = cy (kc - 10) := by
    obtain ⟨kA', comp', g1, g2, g3, g4⟩ := (hK.2 (kc - 10) _ hj).2
    rw [f1] at g4
    exact Option.some.inj g4
  subst hcA
  have hY1 : (Y n).1 = kc := by rw [hY]
  have hY2 : (Y n).2 = k.toNatClampNeg := by rw [hY]
  have hw : WC z (n + 1) D cy Y σ H1 := WC_push hC o1 z1 (by
    rw [cel_q hY1 h13, (hC.2.2.2 n (Nat.le_refl n)).2.2, hY2]
    rw [hs] at e1
    show H1[z + n]? = some (vp_cell _ _)
    rw [vp_cell_q]
    exact e1)
  have hk := kk H1 hw (okk.new hC.2.2.1 hY) (hS.grow o1 (by omega))
  rw [← hs] at hk
  exact hk
theorem va_S.put1 {A : Nat → Prop} {H0 H H1 : Heap} {locs : List Loc} {a k : Nat} (hS : va_S A H0 H locs) (e2 : H1.size = H.size) (e3 : ∀ q : Nat, q ≠ a → H1[q]? = H[q]?) (ha : A a) : va_S A H0 H1 (locs ++ [⟨a, k⟩]) := hS.put e2 e3 ha
/-- a reference into a field that is final, in a constructor of its class -/
theorem c_putF (hx : p.tables.exec = Jvm.exec) (hb : c.code = cc) {own C : String} {T : u_T} {N kc index : Nat} {Ts : List Cond} (hts : ∀ w ∈ Ts, w.before args s = true) (hin : ∀ w ∈ u_ws C T N, w ∈ Ts) {ty0 : Nat → FieldType} (hty : ∀ k, k < N → parseFieldDescriptor (T k).2.2.1 = some (ty0 k)) (hnm : ∀ a, a < N → ∀ b, b < N → a ≠ b → (T a).2.1 ≠ (T b).2.1) (hown : s.vm.findClass own = some m.cls) (hK : va_K D vwCl (tyA cy) s) (hC : WC z n D cy Y σ H) (hS : va_S (Az z) H0 H locs) {o : Nat} (ho : okk Y n kc o) (h10 : kc < 10) (hc : vwCl[kc]? = some (C, T, N)) (k : Nat) (hk : k < N) (hlink : (Cond.fieldLink own index (T k).1 (T k).2.1 (T k).2.2.1).before args s = true) (hfin : (T k).2.2.2 = true) (hin2 : meth.name = "<init>") (hdecl : (T k).1 = own) {ty : FieldType} {v t : Nat} (hd : parseFieldDescriptor (T k).2.2.1 = some ty) (hn : narrow ty (.ref (z + v)) = .ref (z + v)) (hfit : fits ty (.ref (z + v)) = true) (ht : (kd kc)[k]? = some (t + 2)) (hv : 0 < v) (hdg : decode cc pc = .ok (.putfield index, 3))
    (kk : ∀ (H1 : Heap) (locs1 : List Loc), WC z n D cy Y (Mm.sr σ o k v) H1 → va_S (Az z) H0 H1 locs1 → W p l e R s m args below meth c H1 locs1 cells slots Q (F0 m (pc + 3) ls rest)) : W p l e R s m args below meth c H locs cells slots Q (F0 m pc ls (.ref (z + v) :: .ref (z + o) :: rest)) := by
  have hap := va_apart (own := own) hts hin ty0 hty hnm hK hc
  have hat := hC.1 _ _ (wl_get ho)
  rw [cel_obj ho.2.2 h10] at hat
  obtain ⟨r, h1, cell, q1, q2, q3, q4⟩ := hat
  have hr : r = (C, T, N) := Option.some.inj (h1.symm.trans hc)
  subst hr
  obtain ⟨hSl, hfc, kC, hkC, hkind⟩ := hK.1 kc _ hc
  obtain ⟨cf, kf, fi, f, hi, hsl⟩ := hSl k hk
  have hlay := hts _ (hin _ (u_in_lay hk))
  unfold u_lay at hlay
  rw [if_pos hfin] at hlay
  have hst := (u_facts hfc hkC (u_lays hts hin hk) hi).1
  have hcf : m.cls = cf := by
    obtain ⟨_, _, c', _, _, _, -, -, hf', -, -, -, hown2, -⟩ := Cond.laysFinal_spec hlay
    have e1 : c' = cf := by have := hi.symm.trans hf'; simp at this; exact this.1.symm
    rw [hdecl] at hown2
    rw [← e1]; exact Option.some.inj (hown.symm.trans hown2)
  have h6 := u_fits hfc hkC hkind (Or.inr hlay) hi hd hn hfit
  refine W.putFinK hx hb hown hlink hi hst hcf hin2 (by rw [q2]; exact h6) q1 q3 (by rw [hsl]; exact k2_hasslot (q4 k hk)) rfl rfl hdg fun H' e1 e2 e3 => ?_
  rw [hsl] at e1 ⊢
  have hlen : k < (fvs z σ o 0 (kd kc)).length := by rw [fvs_len]; exact (List.getElem?_eq_some_iff.mp ht).1
  refine kk H' _ (hC.setσ (e := .inr (kc, (fvs z σ o 0 (kd kc)).set k (.ref (z + v)))) ho ?_ (fun q hq => sr_ne hq) ⟨_, hc, t_OB.to (V := updV (vp_V (fvs z σ o 0 (kd kc))) k (.ref (z + v))) ⟨_, e1, q2, q3, t_set q4 hap hk _⟩ (fun j _ => vp_updV_set hlen _ j)⟩ e3 e2 (fun q hq => ⟨rfl, rfl, u2_ne (by have := ho.2.1; omega)⟩)) (hS.put1 e2 e3 (show z < z + o by have := ho.1; omega))
  rw [cel_obj ho.2.2 h10, fvs_set (σ := σ) (σ' := Mm.sr σ o k v) ht (fv1_sr hv) (fun j u hj => fv1_ner (Or.inr hj))]
/-- into a field that isn't final -/
theorem c_putK (hx : p.tables.exec = Jvm.exec) (hb : c.code = cc) {own C : String} {T : u_T} {N kc index : Nat} {Ts : List Cond} (hts : ∀ w ∈ Ts, w.before args s = true) (hin : ∀ w ∈ u_ws C T N, w ∈ Ts) {ty0 : Nat → FieldType} (hty : ∀ k, k < N → parseFieldDescriptor (T k).2.2.1 = some (ty0 k)) (hnm : ∀ a, a < N → ∀ b, b < N → a ≠ b → (T a).2.1 ≠ (T b).2.1) (hown : s.vm.findClass own = some m.cls) (hK : va_K D vwCl (tyA cy) s) (hC : WC z n D cy Y σ H) (hS : va_S (Az z) H0 H locs) {o : Nat} (ho : okk Y n kc o) (h10 : kc < 10) (hc : vwCl[kc]? = some (C, T, N)) (k : Nat) (hk : k < N) (hlink : (Cond.fieldLink own index (T k).1 (T k).2.1 (T k).2.2.1).before args s = true) (hfin : (T k).2.2.2 = false) {ty : FieldType} {v : Value} {t : Nat} (hd : parseFieldDescriptor (T k).2.2.1 = some ty) (hn : narrow ty v = v) (hfit : fits ty v = true) (ht : (kd kc)[k]? = some t) {σ' : Mm} (hv : fv1 z σ' o k t = v) (hne : ∀ j u, j ≠ k → fv1 z σ' o j u = fv1 z σ o j u) (hq : ∀ q, q ≠ o → σ'.1 q = σ.1 q ∧ σ'.2.1 q = σ.2.1 q ∧ σ'.2.2 q = σ.2.2 q) (hdg : decode cc pc = .ok (.putfield index, 3))
    (kk : ∀ (H1 : Heap) (locs1 : List Loc), WC z n D cy Y σ' H1 → va_S (Az z) H0 H1 locs1 → W p l e R s m args below meth c H1 locs1 cells slots Q (F0 m (pc + 3) ls rest)) : W p l e R s m args below meth c H locs cells slots Q (F0 m pc ls (v :: .ref (z + o) :: rest)) := by
  have hap := va_apart (own := own) hts hin ty0 hty hnm hK hc
  have hat := hC.1 _ _ (wl_get ho)
  rw [cel_obj ho.2.2 h10] at hat
  obtain ⟨r, h1, cell, q1, q2, q3, q4⟩ := hat
  have hr : r = (C, T, N) := Option.some.inj (h1.symm.trans hc)
  subst hr
  obtain ⟨hSl, hfc, kC, hkC, hkind⟩ := hK.1 kc _ hc
  obtain ⟨cf, kf, fi, f, hi, hsl⟩ := hSl k hk
  have hlay := hts _ (hin _ (u_in_lay hk))
  unfold u_lay at hlay
  rw [if_neg (by rw [hfin]; decide)] at hlay
  have hst := (u_facts hfc hkC (u_lays hts hin hk) hi).1
  have h6 := u_store hfc hkC hkind hlay hi hd hn hfit
  refine W.putK hx hb (f := f) ⟨hown, hlink, ⟨_, _, _, hi⟩, hst⟩ (by rw [q2]; exact h6) q1 q3 (by rw [hsl]; exact k2_hasslot (q4 k hk)) rfl rfl hdg fun H' e1 e2 e3 => ?_
  rw [hsl] at e1 ⊢
  have hlen : k < (fvs z σ o 0 (kd kc)).length := by rw [fvs_len]; exact (List.getElem?_eq_some_iff.mp ht).1
  refine kk H' _ (hC.setσ (e := .inr (kc, (fvs z σ o 0 (kd kc)).set k v)) ho ?_ (fun q h => cel_ne (hq q h).1 (hq q h).2.1 (hq q h).2.2) ⟨_, hc, t_OB.to (V := updV (vp_V (fvs z σ o 0 (kd kc))) k v) ⟨_, e1, q2, q3, t_set q4 hap hk _⟩ (fun j _ => vp_updV_set hlen _ j)⟩ e3 e2 (fun q h => hq q (by have := ho.2.1; omega))) (hS.put1 e2 e3 (show z < z + o by have := ho.1; omega))
  rw [cel_obj ho.2.2 h10, fvs_set (σ := σ) (σ' := σ') ht hv hne]
theorem c_putI (hx : p.tables.exec = Jvm.exec) (hb : c.code = cc) {own C : String} {T : u_T} {N kc index : Nat} {Ts : List Cond} (hts : ∀ w ∈ Ts, w.before args s = true) (hin : ∀ w ∈ u_ws C T N, w ∈ Ts) {ty0 : Nat → FieldType} (hty : ∀ k, k < N → parseFieldDescriptor (T k).2.2.1 = some (ty0 k)) (hnm : ∀ a, a < N → ∀ b, b < N → a ≠ b → (T a).2.1 ≠ (T b).2.1) (hown : s.vm.findClass own = some m.cls) (hK : va_K D vwCl (tyA cy) s) (hC : WC z n D cy Y σ H) (hS : va_S (Az z) H0 H locs) {o : Nat} (ho : okk Y n kc o) (h10 : kc < 10) (hc : vwCl[kc]? = some (C, T, N)) (k : Nat) (hk : k < N) (hlink : (Cond.fieldLink own index (T k).1 (T k).2.1 (T k).2.2.1).before args s = true) (hfin : (T k).2.2.2 = false) {x : Int32} (hd : parseFieldDescriptor (T k).2.2.1 = some .int) (ht : (kd kc)[k]? = some 0) (hdg : decode cc pc = .ok (.putfield index, 3))
    (kk : ∀ (H1 : Heap) (locs1 : List Loc), WC z n D cy Y (Mm.si σ o k x) H1 → va_S (Az z) H0 H1 locs1 → W p l e R s m args below meth c H1 locs1 cells slots Q (F0 m (pc + 3) ls rest)) : W p l e R s m args below meth c H locs cells slots Q (F0 m pc ls (.int x :: .ref (z + o) :: rest)) :=
  c_putK hx hb hts hin hty hnm hown hK hC hS ho h10 hc k hk hlink hfin hd rfl rfl ht (σ' := Mm.si σ o k x) fv1_si (fun j u hj => fv1_nei (Or.inr hj)) (fun q hq => ⟨u2_ne hq, rfl, rfl⟩) hdg kk
theorem c_putR (hx : p.tables.exec = Jvm.exec) (hb : c.code = cc) {own C : String} {T : u_T} {N kc index : Nat} {Ts : List Cond} (hts : ∀ w ∈ Ts, w.before args s = true) (hin : ∀ w ∈ u_ws C T N, w ∈ Ts) {ty0 : Nat → FieldType} (hty : ∀ k, k < N → parseFieldDescriptor (T k).2.2.1 = some (ty0 k)) (hnm : ∀ a, a < N → ∀ b, b < N → a ≠ b → (T a).2.1 ≠ (T b).2.1) (hown : s.vm.findClass own = some m.cls) (hK : va_K D vwCl (tyA cy) s) (hC : WC z n D cy Y σ H) (hS : va_S (Az z) H0 H locs) {o : Nat} (ho : okk Y n kc o) (h10 : kc < 10) (hc : vwCl[kc]? = some (C, T, N)) (k : Nat) (hk : k < N) (hlink : (Cond.fieldLink own index (T k).1 (T k).2.1 (T k).2.2.1).before args s = true) (hfin : (T k).2.2.2 = false) {ty : FieldType} {v t : Nat} (hd : parseFieldDescriptor (T k).2.2.1 = some ty) (hn : narrow ty (.ref (z + v)) = .ref (z + v)) (hfit : fits ty (.ref (z + v)) = true) (ht : (kd kc)[k]? = some (t + 2)) (hv : 0 < v) (hdg : decode cc pc = .ok (.putfield index, 3))
    (kk : ∀ (H1 : Heap) (locs1 : List Loc), WC z n D cy Y (Mm.sr σ o k v) H1 → va_S (Az z) H0 H1 locs1 → W p l e R s m args below meth c H1 locs1 cells slots Q (F0 m (pc + 3) ls rest)) : W p l e R s m args below meth c H locs cells slots Q (F0 m pc ls (.ref (z + v) :: .ref (z + o) :: rest)) :=
  c_putK hx hb hts hin hty hnm hown hK hC hS ho h10 hc k hk hlink hfin hd hn hfit ht (σ' := Mm.sr σ o k v) (fv1_sr hv) (fun j u hj => fv1_ner (Or.inr hj)) (fun q hq => ⟨rfl, rfl, u2_ne hq⟩) hdg kk
theorem c_getr (hx : p.tables.exec = Jvm.exec) (hb : c.code = cc) {own C : String} {T : u_T} {N kc index : Nat} {Ts : List Cond} (hts : ∀ w ∈ Ts, w.before args s = true) (hin : ∀ w ∈ u_ws C T N, w ∈ Ts) (hown : s.vm.findClass own = some m.cls) (hK : va_K D vwCl (tyA cy) s) (hC : WC z n D cy Y σ H) {o : Nat} (ho : okk Y n kc o) (h10 : kc < 10) (hc : vwCl[kc]? = some (C, T, N)) (k : Nat) (hk : k < N) (hlink : (Cond.fieldLink own index (T k).1 (T k).2.1 (T k).2.2.1).before args s = true) {t v : Nat} (ht : (kd kc)[k]? = some (t + 2)) (hv : σ.2.2 o k = v) (h0 : 0 < v) (hdg : decode cc pc = .ok (.getfield index, 3))
    (kk : W p l e R s m args below meth c H locs cells slots Q (F0 m (pc + 3) ls (.ref (z + v) :: rest))) : W p l e R s m args below meth c H locs cells slots Q (F0 m pc ls (.ref (z + o) :: rest)) := by
  refine va_get hx hb hts hin hown hK hC.1 (o - 1) (ci := kc) (fs := fvs z σ o 0 (kd kc)) ?_ hc k hk hlink (fun _ h9 => h9) (v := .ref (z + v)) ?_ hdg kk
  · rw [wl_get ho, cel_obj ho.2.2 h10]
  · rw [fvs_get, ht, Nat.zero_add]
    show some (va_rf (rq z (σ.2.2 o k))) = _
    rw [hv, rq_pos h0]
/-- a made object into an array of its kind -/
theorem c_aast (hx : p.tables.exec = Jvm.exec) (hb : c.code = cc) (hK : va_K D vwCl (tyA cy) s) (hC : WC z n D cy Y σ H) (hS : va_S (Az z) H0 H locs) {a kc v t : Nat} {r : vw_C} (ha : okk Y n kc a) (h13 : 13 ≤ kc) (hv : okk Y n t v) (h10 : t < 10) (hc : vwCl[t]? = some r) (hj : (tyA cy)[kc - 10]? = some (cy (kc - 10), .object r.1)) {i : Int32} (hin : inb i (Y a).2 = true) (hdg : decode cc pc = .ok (.aastore, 1))
    (kk : ∀ (H1 : Heap) (locs1 : List Loc), WC z n D cy Y (Mm.sr σ a (ix i) v) H1 → va_S (Az z) H0 H1 locs1 → W p l e R s m args below meth c H1 locs1 cells slots Q (F0 m (pc + 1) ls rest)) : W p l e R s m args below meth c H locs cells slots Q (F0 m pc ls (.ref (z + v) :: .int i :: .ref (z + a) :: rest)) := by
  have hlt : i.toNatClampNeg < (Y a).2 := inb_lt hin
  have hni := inb_in hin
  have h0 : ¬ i < 0 := fun q => hni (Or.inl q)
  have hatv := hC.1 _ _ (wl_get hv)
  rw [cel_obj hv.2.2 h10] at hatv
  obtain ⟨r', hr', cellV, g1, g2, g3, -⟩ := hatv
  have hata := hC.1 _ _ (wl_get ha)
  rw [cel_q ha.2.2 h13] at hata
  have hcls := (hK.1 t r hc).2
  obtain ⟨kA, comp, k1, k2, k3, -⟩ := (hK.2 (kc - 10) _ hj).2
  have hcomp : comp = D.1 t := Option.some.inj (k3.symm.trans hcls.1)
  subst hcomp
  obtain ⟨kC, hkC, -⟩ := hcls.2
  refine W.aast hx hb hata (fun q h => by cases h) (fun h => by cases h) k1 k2 rfl hkC ⟨h0, by show _ < (arrV _ _ _).slots.size; rw [arrV_size]; exact hlt⟩ g1 (fun q h => by rw [g3] at h; cases h) (by rw [g2]; exact hkC) (by rw [g2]; exact va_assign hcls) rfl rfl hdg fun H1 e z1 oq => ?_
  refine kk H1 _ (hC.setσ ha rfl (fun q hq => sr_ne hq) ?_ oq z1 (fun q hq => ⟨rfl, rfl, u2_ne (by have := ha.2.1; omega)⟩)) (hS.put1 z1 oq (show z < z + a by have := ha.1; omega))
  rw [cel_q ha.2.2 h13]
  show H1[z + a]? = some (vp_cell _ _)
  rw [e, vp_cell_q, vp_cell_q, arrV_store]
  congr 2
  funext q
  by_cases hq : q = i.toNatClampNeg
  · subst hq
    show _ = va_rf (rq z ((Mm.u2 σ.2.2 a (ix i) v) a i.toNatClampNeg))
    simp [updV, Mm.u2, ix, rq_pos hv.1]
  · show _ = va_rf (rq z ((Mm.u2 σ.2.2 a (ix i) v) a q))
    simp [updV, Mm.u2, hq]
/-- new int[2][11]-like: the outer array, then its rows -/
theorem c_mna (hx : p.tables.exec = Jvm.exec) (hb : c.code = cc) {own : String} {index : Nat} (hown : s.vm.findClass own = some m.cls) (hclink : (Cond.classLink own index "[[I").before args s = true) (hover : va_AI s) (harr : (Cond.arrayClass .int).before args s = true)
    (hK : va_K D vwCl (tyA cy) s) (hC : WC z n D cy Y σ H) (hS : va_S (Az z) H0 H locs) {K' : Nat} (hY : Y n = (16, 2)) (hY1 : Y (n + 1) = (10, K')) (hY2 : Y (n + 2) = (10, K')) {k : Int32} (hk0 : ¬ k < 0) (hk : k.toNatClampNeg = K') (hb2 : K' * 4 ≤ 536870912) (hb3 : K' ≤ 536870912) (hcells : cells + (1 + 2) ≤ R.cells) (hslots : slots + (2 + 2 * K') ≤ R.slots) (hdg : decode cc pc = .ok (.multianewarray index 2, 4))
    (kk : ∀ (H1 : Heap), WC z (n + 3) D cy Y (Mm.sr (Mm.sr σ n 0 (n + 1)) n 1 (n + 2)) H1 → va_S (Az z) H0 H1 locs → W p l e R s m args below meth c H1 locs (cells + 1 + 2) (slots + 2 + 2 * K') Q (F0 m (pc + 4) ls (.ref (z + n) :: rest))) : W p l e R s m args below meth c H locs cells slots Q (F0 m pc ls (.int k :: .int 2 :: rest)) := by
  subst hk
  intro T hT Xs
  obtain ⟨vm₁, cA, comp, -, fA, fC, hO, -, X', step⟩ := Xs.multianewarray2F (ty := .int) (n := 2) (k := k) hx hown hclink hover harr (g := F0 m pc ls (.int k :: .int 2 :: rest)) rfl (by rw [hb]; exact hdg) rfl (by decide) hk0 (by decide) hb2 hb3 rfl rfl hcells hslots
  have hcA : cA = cy 6 := by
    have h1 : va_RA s (cy 6) (.array .int) := (hK.2 6 _ rfl).2
    have h2 : s.vm.findClass ("[" ++ (FieldType.array .int).toString) = some (cy 6) := h1
    exact Option.some.inj (fA.symm.trans h2)
  have hco : comp = cy 0 := by
    have h1 : va_RA s (cy 0) .int := (hK.2 0 _ rfl).2
    have h2 : s.vm.findClass ("[" ++ (FieldType.int).toString) = some (cy 0) := h1
    exact Option.some.inj (fC.symm.trans h2)
  subst hcA; subst hco
  have n2 : (2 : Int32).toNatClampNeg = 2 := by decide
  generalize hF : Jvm.Free.Multi.fill (T.setVm vm₁) (cy 6) (cy 0) (2 : Int32).toNatClampNeg k.toNatClampNeg (defaultValue .int) (2 : Int32).toNatClampNeg = F at X' step
  have hTh : (T.setVm vm₁).heap = H := hT
  obtain ⟨f1, f2, -, -⟩ := Jvm.Free.Multi.fill_facts (T.setVm vm₁) (cy 6) (cy 0) (2 : Int32).toNatClampNeg k.toNatClampNeg (defaultValue .int) (2 : Int32).toNatClampNeg
  rw [hF, hTh] at f1 f2
  have hold : ∀ x : Nat, x < H.size → F.heap[x]? = H[x]? := fun x hx9 => by
    have := Jvm.Free.Multi.fill_old (T.setVm vm₁) (cy 6) (cy 0) (2 : Int32).toNatClampNeg k.toNatClampNeg (defaultValue .int) (a := x) (by rw [hTh]; exact hx9) (2 : Int32).toNatClampNeg
    rw [hF, hTh] at this
    exact this
  have hrow : ∀ j : Nat, j < 2 → F.heap[H.size + 1 + j]? = some (Jvm.Free.Multi.innerC (cy 0) k.toNatClampNeg (defaultValue .int)) := fun j hj => by
    have := Jvm.Free.Multi.fill_inner (T.setVm vm₁) (cy 6) (cy 0) (2 : Int32).toNatClampNeg k.toNatClampNeg (defaultValue .int) (2 : Int32).toNatClampNeg j (by rw [n2]; exact hj)
    rw [hF, hTh] at this
    exact this
  have hs := hC.2.1
  have h0 := hC.2.2.1
  have hsz : F.heap.size = H.size + 3 := by rw [f1, n2]
  rw [n2, vr_outer (cy 6) 2 H.size 2] at f2
  generalize hσ : Mm.sr (Mm.sr σ n 0 (n + 1)) n 1 (n + 2) = σ' at kk
  have hlow : ∀ q, q ≠ n → σ'.1 q = σ.1 q ∧ σ'.2.1 q = σ.2.1 q ∧ σ'.2.2 q = σ.2.2 q := fun q hq => by
    rw [← hσ]
    exact ⟨rfl, rfl, by show Mm.u2 (Mm.u2 σ.2.2 n 0 (n + 1)) n 1 (n + 2) q = _; rw [u2_ne hq, u2_ne hq]⟩
  have hzero : ∀ q, n ≤ q → σ.1 q = (fun _ => 0) ∧ σ.2.1 q = (fun _ => 0) ∧ σ.2.2 q = (fun _ => 0) := hC.2.2.2
  have rowcell : ∀ j, j < 2 → Y (n + 1 + j) = (10, k.toNatClampNeg) → va_at D vwCl (z + (n + 1 + j), cel z cy Y σ' (n + 1 + j)) F.heap := fun j hj hYj => by
    have h1 : (Y (n + 1 + j)).1 = 10 := by rw [hYj]
    have h2 : (Y (n + 1 + j)).2 = k.toNatClampNeg := by rw [hYj]
    rw [cel_i h1, h2, (hlow (n + 1 + j) (by omega)).1, (hzero (n + 1 + j) (by omega)).1]
    show F.heap[z + (n + 1 + j)]? = some (vp_cell _ _)
    rw [show z + (n + 1 + j) = H.size + 1 + j by omega, hrow j hj, vp_cell_i, ← arrV_new]
    rfl
  have hw : WC z (n + 3) D cy Y σ' F.heap := by
    refine ⟨fun q9 q hq => ?_, by rw [hsz]; omega, by omega, fun o ho => by rw [(hlow o (by omega)).1, (hlow o (by omega)).2.1, (hlow o (by omega)).2.2]; exact hzero o (by omega)⟩
    obtain ⟨hk9, rfl⟩ := wl_inv hq
    by_cases e1 : q9 + 1 < n
    · have hold9 : (wl z cy Y σ n)[q9]? = some (z + (q9 + 1), cel z cy Y σ (q9 + 1)) := by
        unfold wl
        rw [List.getElem?_map, List.getElem?_range (by omega)]
        rfl
      have h1 := hC.1 q9 _ hold9
      rw [cel_ne (hlow (q9 + 1) (by omega)).1 (hlow (q9 + 1) (by omega)).2.1 (hlow (q9 + 1) (by omega)).2.2]
      exact h1.kept (hold _ h1.lt)
    · by_cases e2 : q9 + 1 = n
      · rw [e2]
        have h1 : (Y n).1 = 16 := by rw [hY]
        have h2 : (Y n).2 = 2 := by rw [hY]
        rw [cel_q h1 (by decide), h2]
        show F.heap[z + n]? = some (vp_cell _ _)
        rw [← hs, f2, vp_cell_q]
        refine congrArg some ?_
        show arrV (cy 6) 2 _ = arrV (cy 6) 2 _
        unfold arrV
        congr 1
        apply Array.ext
        · simp
        · intro i hi1 hi2
          simp only [Array.size_ofFn] at hi1
          have hi3 : i = 0 ∨ i = 1 := by omega
          simp only [Array.getElem_ofFn]
          rcases hi3 with rfl | rfl
          · show va_rf (if 0 < 2 then some (H.size + 1 + 0) else none) = va_rf (rq z (σ'.2.2 n 0))
            rw [show σ'.2.2 n 0 = n + 1 by rw [← hσ]; simp [Mm.sr, Mm.u2], rq_pos (by omega), hs]
            rfl
          · show va_rf (if 1 < 2 then some (H.size + 1 + 1) else none) = va_rf (rq z (σ'.2.2 n 1))
            rw [show σ'.2.2 n 1 = n + 2 by rw [← hσ]; simp [Mm.sr, Mm.u2], rq_pos (by omega), hs]
            rfl
      · by_cases e3 : q9 + 1 = n + 1
        · rw [e3]; exact rowcell 0 (by omega) hY1
        · have e4 : q9 + 1 = n + 1 + 1 := by omega
          rw [e4]; exact rowcell 1 (by omega) hY2
  obtain ⟨t, a1, b1⟩ := kk F.heap hw (hS.grow hold (by omega)) F rfl X'
  refine ⟨t, step t ?_, b1⟩
  have e9 : T.heap.size = z + n := by rw [hT]; exact hs
  rw [e9]
  exact a1
/-- a constructor's call -/
theorem c_call {st0 : List Value} {a : Array Value} {n1 mc ms : Nat} {σ1 : Mm} (hr : va_Run p l e R s m args below meth c H locs cells slots mc ms (F0 m pc ls st0) rest (va_Qv (fun (_ : Unit) => True) (fun _ t => WC z n1 D cy Y σ1 t.heap) (Az z) a) (Az z)) (hS : va_S (Az z) H0 H locs)
    (kk : ∀ (H1 : Heap) (locs1 : List Loc), WC z n1 D cy Y σ1 H1 → va_S (Az z) H0 H1 locs1 → W p l e R s m args below meth c H1 locs1 (cells + mc) (slots + ms) Q (F0 m (pc + 3) ls rest)) : W p l e R s m args below meth c H locs cells slots Q (F0 m pc ls st0) := by
  refine va_callv hr hS (fun _ _ h => h) (fun _ h => h) fun u t H1 locs1 ht _ hp hB _ _ hS1 => ?_
  exact kk H1 locs1 (by rw [← ht]; exact hB) hS1
theorem c_PS {As : List Value} (hK : va_K D vwCl (tyA cy) s) (hN : NW s) (hO : KO s) (hC : WC z n D cy Y σ H) : PreS s H (va_Pc As (WXc z n D cy Y σ)) As :=
  ⟨WXc.blind, fun U hU hw => ⟨rfl, by rw [hU]; exact hC, va_K.moved hw.alike hK, NW.warm hw hN, KO.moved hw.alike hO⟩⟩
theorem c_ret {n1 : Nat} {σ1 : Mm} (hx : p.tables.exec = Jvm.exec) (hb : c.code = cc) (hr : meth.sig.returnType = none) (hlocks : meth.locks = false) (hC : WC z n1 D cy Y σ1 H) (hS : va_S (Az z) s.heap H locs) (hdg : decode cc pc = .ok (.return_, 1)) : W p l e R s m args below meth c H locs cells slots (MQ below (va_Qv (fun (_ : Unit) => True) (fun _ t => WC z n1 D cy Y σ1 t.heap) (Az z)) args s cells slots (Az z)) (F0 m pc ls []) :=
  W.vret hx hb hr (fun t ht hw => ⟨⟨(), rfl, trivial, by show WC z n1 D cy Y σ1 t.heap; rw [ht]; exact hC⟩, hS.F ht⟩) hS.2.2 hdg hlocks
end CROWS
