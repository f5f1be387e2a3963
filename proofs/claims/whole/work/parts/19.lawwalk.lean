/-! THE CLAIM OUT OF ONE WALK OF THE LAW'S BODY. Your part is whole_start (and what it stands on); all else here is the same for every law, but numbers. -/
def R_law : String := "SkyClocksLaw"
def lw_P (b : Addr) (xs : List Int32) (args : Array Value) (s : State) : Prop := args = #[.ref b] ∧ s.IntsAt b xs ∧ xs.length ≤ 3072 ∧ (Jvm.Cond.and given_1 narrow_1).before args s = true
def lw_Q (_ : Array Value) (s : State) (o : Outcome) (t : State) : Prop := o = .returned (some (.int 1)) ∧ Framed s o t [] 600000 7302250
def lw_Z (below : List Frame) (a : Array Value) (s : State) : State → Prop := fun t => ∃ o, t.status = .running ∧ Ended t below o ∧ lw_Q a s o t
/-- the law's own end, with 1 on the stack, nothing written that was there before, its room as the claim has it -/
theorem lw_ret {p : Program} {l : Launch} {e : Env} {s : State} {m : MethodId} {below : List Frame} {meth : Method} {c : Code} {b : Nat} (hx : p.tables.exec = Jvm.exec) (hb : c.code = code) (hr : meth.sig.returnType = ret) (hlocks : meth.locks = false) {pc : Nat} {H : Heap} {ls : Array Slot} (hdg : decode code pc = .ok (.ireturn, 1)) : W p l e room_1 s m #[Value.ref b] below meth c H [] 600000 7302250 (lw_Z below #[Value.ref b] s) (F0 m pc ls [.int 1]) := by
  intro T hT X
  obtain ⟨fs, hret, hrun, hended, hW, hframe⟩ := X.leave (v := some (.int 1)) (hlocks := hlocks) (fun h => by rw [hr] at h; cases h)
  have hmeth' : T.vm.method? m = some meth := X.method'
  refine ⟨T.setFrames fs, ?_, .returned (some (.int 1)), hrun, hended, rfl, ⟨_, rfl⟩, hW, hframe⟩
  jvm_step X.here [X.here.top, hx, hb, hdg, hmeth', hr, ret, narrow_b1]
  (try refine ⟨rfl, ?_⟩); (try refine ⟨rfl, ?_⟩)
  first | (intro acts; rw [hret _ acts rfl rfl rfl]) | rw [hret _ _ rfl rfl rfl]
  exact Steps.refl _
/-- what holds at the law's entry: the machine, the code, the tables' words (any of lw_tbl by 'hts w (by decide +kernel)'), the script of L ints xs at the cell b, what the Statement gives of the start (any of its parts by flat_of_before) -/
def lw_At (p : Program) (s : State) (m : MethodId) (meth : Method) (c : Code) (b L : Nat) (xs : Nat → Int32) : Prop :=
  p.tables.exec = Jvm.exec ∧ c.code = code ∧ meth.sig.returnType = ret ∧ c.maxLocals = 4 ∧ s.vm.findClass R_law = some m.cls ∧ (∀ w ∈ lw_tbl, w.before #[Value.ref b] s = true) ∧ va_X b L xs s s.heap ∧ b < s.heap.size ∧ meth.locks = false ∧ (Jvm.Cond.and given_1 narrow_1).before #[Value.ref b] s = true

theorem lw_end {p : Program} {l : Launch} {e : Env} {s : State} {m : MethodId} {below : List Frame} {meth : Method} {c : Code} {b z : Nat} (hx : p.tables.exec = Jvm.exec) (hb : c.code = code) (hr : meth.sig.returnType = ret) (hlocks : meth.locks = false) (hzs : s.heap.size = z + 1) {pc : Nat} {H : Heap} {locs : List Loc} {ls : Array Slot} (hS : va_S (Az z) s.heap H locs) (hdg : decode code pc = .ok (.ireturn, 1)) : W p l e room_1 s m #[Value.ref b] below meth c H locs 634 83699 (lw_Z below #[Value.ref b] s) (F0 m pc ls [.int 1]) := by
  refine va_forget (fun q hq => ?_) ?_
  · have h2 : z < q.base := hS.2.2 q hq
    omega
  refine W.widen (k := 600000) (n := 7302250) (Nat.le_of_ble_eq_true rfl) (Nat.le_of_ble_eq_true rfl) ?_
  exact lw_ret hx hb hr hlocks hdg
def b_L_law_1115 (Y : Yt) (fu : Nat) (N : Nat) (xs : Nat → Int32) (k18 : Nat → Nat → Int32 → Mm → Option (Int32)) (x1 : Nat) (x2 : Nat) (x3 : Int32) (σ : Mm) : Option (Int32) :=
  lt_ (x3 + 6) (fun (x3_2 : Int32) =>
    k18 x1 x2 x3_2 σ)
def s_L_law_18 (Y : Yt) (fu : Nat) (N : Nat) (xs : Nat → Int32) (k18 : Nat → Nat → Int32 → Mm → Option (Int32)) (x1 : Nat) (x2 : Nat) (x3 : Int32) (σ : Mm) : Option (Int32) :=
  if ((Int32.ofNat N) - 6) < x3 then
    some 1
  else
    if inb x3 N = true then
    if ((xs (ix x3)) &&& 31) = 0 then
    if inb (x3 + 1) N = true then
    if inb (x3 + 2) N = true then
    if inb (x3 + 3) N = true then
    if inb (x3 + 4) N = true then
    if inb (x3 + 5) N = true then
    bnd (f_X11_arrival Y fu x1 (xs (ix (x3 + 1))) (xs (ix (x3 + 2))) (xs (ix (x3 + 3))) (xs (ix (x3 + 4))) (xs (ix (x3 + 5))) σ) (fun (r_10 : Int32) (σ_9 : Mm) =>
    if inb (x3 + 1) N = true then
    if inb (x3 + 2) N = true then
    if inb (x3 + 3) N = true then
    if inb (x3 + 4) N = true then
    if inb (x3 + 5) N = true then
    bnd (f_X12_arrival Y fu x2 (xs (ix (x3 + 1))) (xs (ix (x3 + 2))) (xs (ix (x3 + 3))) (xs (ix (x3 + 4))) (xs (ix (x3 + 5))) σ_9) (fun (r_18 : Int32) (σ_17 : Mm) =>
    if r_10 = r_18 then
    b_L_law_1115 Y fu N xs k18 x1 x2 x3 σ_17
  else
    some 0)
  else none
  else none
  else none
  else none
  else none)
  else none
  else none
  else none
  else none
  else none
  else
    if ((xs (ix x3)) &&& 31) = 1 then
    if inb (x3 + 1) N = true then
    bnd (f_X11_clear Y x1 (xs (ix (x3 + 1))) σ) (fun (r_22 : Int32) (σ_21 : Mm) =>
    if inb (x3 + 1) N = true then
    bnd (f_X12_clear Y x2 (xs (ix (x3 + 1))) σ_21) (fun (r_26 : Int32) (σ_25 : Mm) =>
    if r_22 = r_26 then
    b_L_law_1115 Y fu N xs k18 x1 x2 x3 σ_25
  else
    some 0)
  else none)
  else none
  else
    if ((xs (ix x3)) &&& 31) = 2 then
    if inb (x3 + 1) N = true then
    if inb (x3 + 2) N = true then
    bnd (f_X11_offset Y x1 (xs (ix (x3 + 1))) (xs (ix (x3 + 2))) σ) (fun (r_31 : Int32) (σ_30 : Mm) =>
    if inb (x3 + 1) N = true then
    if inb (x3 + 2) N = true then
    bnd (f_X12_offset Y x2 (xs (ix (x3 + 1))) (xs (ix (x3 + 2))) σ_30) (fun (r_36 : Int32) (σ_35 : Mm) =>
    if r_31 = r_36 then
    b_L_law_1115 Y fu N xs k18 x1 x2 x3 σ_35
  else
    some 0)
  else none
  else none)
  else none
  else none
  else
    if ((xs (ix x3)) &&& 31) = 3 then
    if inb (x3 + 1) N = true then
    if inb (x3 + 2) N = true then
    if inb (x3 + 3) N = true then
    bnd (f_X11_shift Y x1 (xs (ix (x3 + 1))) (xs (ix (x3 + 2))) (xs (ix (x3 + 3))) σ) (fun (r_42 : Int32) (σ_41 : Mm) =>
    if inb (x3 + 1) N = true then
    if inb (x3 + 2) N = true then
    if inb (x3 + 3) N = true then
    bnd (f_X12_shift Y x2 (xs (ix (x3 + 1))) (xs (ix (x3 + 2))) (xs (ix (x3 + 3))) σ_41) (fun (r_48 : Int32) (σ_47 : Mm) =>
    if r_42 = r_48 then
    b_L_law_1115 Y fu N xs k18 x1 x2 x3 σ_47
  else
    some 0)
  else none
  else none
  else none)
  else none
  else none
  else none
  else
    if ((xs (ix x3)) &&& 31) = 4 then
    if inb (x3 + 1) N = true then
    if inb (x3 + 2) N = true then
    bnd (f_X11_rule Y fu x1 (xs (ix (x3 + 1))) (xs (ix (x3 + 2))) σ) (fun (r_53 : Int32) (σ_52 : Mm) =>
    if inb (x3 + 1) N = true then
    if inb (x3 + 2) N = true then
    bnd (f_X12_rule Y x2 (xs (ix (x3 + 1))) (xs (ix (x3 + 2))) σ_52) (fun (r_58 : Int32) (σ_57 : Mm) =>
    if r_53 = r_58 then
    b_L_law_1115 Y fu N xs k18 x1 x2 x3 σ_57
  else
    some 0)
  else none
  else none)
  else none
  else none
  else
    if ((xs (ix x3)) &&& 31) = 5 then
    if inb (x3 + 1) N = true then
    if inb (x3 + 2) N = true then
    if inb (x3 + 3) N = true then
    bnd (f_X11_at Y x1 (xs (ix (x3 + 1))) (xs (ix (x3 + 2))) (xs (ix (x3 + 3))) σ) (fun (r_64 : Int32) (σ_63 : Mm) =>
    if inb (x3 + 1) N = true then
    if inb (x3 + 2) N = true then
    if inb (x3 + 3) N = true then
    bnd (f_X12_at Y fu x2 (xs (ix (x3 + 1))) (xs (ix (x3 + 2))) (xs (ix (x3 + 3))) σ_63) (fun (r_70 : Int32) (σ_69 : Mm) =>
    if r_64 = r_70 then
    b_L_law_1115 Y fu N xs k18 x1 x2 x3 σ_69
  else
    some 0)
  else none
  else none
  else none)
  else none
  else none
  else none
  else
    if ((xs (ix x3)) &&& 31) = 6 then
    if inb (x3 + 1) N = true then
    bnd (f_X11_many Y x1 (xs (ix (x3 + 1))) σ) (fun (r_74 : Int32) (σ_73 : Mm) =>
    if inb (x3 + 1) N = true then
    bnd (f_X12_many Y fu x2 (xs (ix (x3 + 1))) σ_73) (fun (r_78 : Int32) (σ_77 : Mm) =>
    if r_74 = r_78 then
    b_L_law_1115 Y fu N xs k18 x1 x2 x3 σ_77
  else
    some 0)
  else none)
  else none
  else
    if ((xs (ix x3)) &&& 31) = 7 then
    if inb (x3 + 1) N = true then
    if inb (x3 + 2) N = true then
    if inb (x3 + 3) N = true then
    bnd (f_X11_write Y fu x1 (xs (ix (x3 + 1))) (((Int32.toInt64 (xs (ix (x3 + 2)))) <<< (Int32.toInt64 32 &&& 63)) ||| ((Int32.toInt64 (xs (ix (x3 + 3)))) &&& 4294967295)) σ) (fun (r_84 : Int32) (σ_83 : Mm) =>
    if inb (x3 + 1) N = true then
    if inb (x3 + 2) N = true then
    if inb (x3 + 3) N = true then
    bnd (f_X12_write Y fu x2 (xs (ix (x3 + 1))) (((Int32.toInt64 (xs (ix (x3 + 2)))) <<< (Int32.toInt64 32 &&& 63)) ||| ((Int32.toInt64 (xs (ix (x3 + 3)))) &&& 4294967295)) σ_83) (fun (r_90 : Int32) (σ_89 : Mm) =>
    if r_84 = r_90 then
    b_L_law_1115 Y fu N xs k18 x1 x2 x3 σ_89
  else
    some 0)
  else none
  else none
  else none)
  else none
  else none
  else none
  else
    if ((xs (ix x3)) &&& 31) = 8 then
    bnd (f_X11_wipe Y x1 σ) (fun (r_93 : Int32) (σ_92 : Mm) =>
    bnd (f_X12_wipe Y x2 σ_92) (fun (r_96 : Int32) (σ_95 : Mm) =>
    if r_93 = r_96 then
    b_L_law_1115 Y fu N xs k18 x1 x2 x3 σ_95
  else
    some 0))
  else
    if ((xs (ix x3)) &&& 31) = 9 then
    bnd (f_X11_fault Y fu x1 σ) (fun (r_99 : Int32) (σ_98 : Mm) =>
    bnd (f_X12_fault Y fu x2 σ_98) (fun (r_102 : Int32) (σ_101 : Mm) =>
    if r_99 = r_102 then
    b_L_law_1115 Y fu N xs k18 x1 x2 x3 σ_101
  else
    some 0))
  else
    if ((xs (ix x3)) &&& 31) = 10 then
    if inb (x3 + 1) N = true then
    bnd (f_X11_model Y fu x1 (xs (ix (x3 + 1))) σ) (fun (r_106 : Int32) (σ_105 : Mm) =>
    if inb (x3 + 1) N = true then
    bnd (f_X12_model Y fu x2 (xs (ix (x3 + 1))) σ_105) (fun (r_110 : Int32) (σ_109 : Mm) =>
    if r_106 = r_110 then
    b_L_law_1115 Y fu N xs k18 x1 x2 x3 σ_109
  else
    some 0)
  else none)
  else none
  else
    if ((xs (ix x3)) &&& 31) = 11 then
    if inb (x3 + 1) N = true then
    if inb (x3 + 2) N = true then
    bnd (f_X11_comes Y fu x1 (xs (ix (x3 + 1))) (xs (ix (x3 + 2))) σ) (fun (r_115 : Int64) (σ_114 : Mm) =>
    if inb (x3 + 1) N = true then
    if inb (x3 + 2) N = true then
    bnd (f_X12_comes Y fu x2 (xs (ix (x3 + 1))) (xs (ix (x3 + 2))) σ_114) (fun (r_120 : Int64) (σ_119 : Mm) =>
    if r_115 = r_120 then
    b_L_law_1115 Y fu N xs k18 x1 x2 x3 σ_119
  else
    some 0)
  else none
  else none)
  else none
  else none
  else
    if ((xs (ix x3)) &&& 31) = 12 then
    if inb (x3 + 1) N = true then
    if inb (x3 + 2) N = true then
    bnd (f_X11_residue Y fu x1 (xs (ix (x3 + 1))) (xs (ix (x3 + 2))) σ) (fun (r_125 : Int32) (σ_124 : Mm) =>
    if inb (x3 + 1) N = true then
    if inb (x3 + 2) N = true then
    bnd (f_X12_residue Y fu x2 (xs (ix (x3 + 1))) (xs (ix (x3 + 2))) σ_124) (fun (r_130 : Int32) (σ_129 : Mm) =>
    if r_125 = r_130 then
    b_L_law_1115 Y fu N xs k18 x1 x2 x3 σ_129
  else
    some 0)
  else none
  else none)
  else none
  else none
  else
    if ((xs (ix x3)) &&& 31) = 13 then
    if inb (x3 + 1) N = true then
    if inb (x3 + 2) N = true then
    bnd (f_X11_turn Y fu x1 (xs (ix (x3 + 1))) (xs (ix (x3 + 2))) σ) (fun (r_135 : Int32) (σ_134 : Mm) =>
    if inb (x3 + 1) N = true then
    if inb (x3 + 2) N = true then
    bnd (f_X12_turn Y fu x2 (xs (ix (x3 + 1))) (xs (ix (x3 + 2))) σ_134) (fun (r_140 : Int32) (σ_139 : Mm) =>
    if r_135 = r_140 then
    b_L_law_1115 Y fu N xs k18 x1 x2 x3 σ_139
  else
    some 0)
  else none
  else none)
  else none
  else none
  else
    if ((xs (ix x3)) &&& 31) = 14 then
    if inb (x3 + 1) N = true then
    if inb (x3 + 2) N = true then
    if inb (x3 + 3) N = true then
    bnd (f_X11_ways Y fu x1 (xs (ix (x3 + 1))) (xs (ix (x3 + 2))) (xs (ix (x3 + 3))) σ) (fun (r_146 : Int32) (σ_145 : Mm) =>
    if inb (x3 + 1) N = true then
    if inb (x3 + 2) N = true then
    if inb (x3 + 3) N = true then
    bnd (f_X12_ways Y fu x2 (xs (ix (x3 + 1))) (xs (ix (x3 + 2))) (xs (ix (x3 + 3))) σ_145) (fun (r_152 : Int32) (σ_151 : Mm) =>
    if r_146 = r_152 then
    b_L_law_1115 Y fu N xs k18 x1 x2 x3 σ_151
  else
    some 0)
  else none
  else none
  else none)
  else none
  else none
  else none
  else
    if ((xs (ix x3)) &&& 31) = 15 then
    if inb (x3 + 1) N = true then
    if inb (x3 + 2) N = true then
    bnd (f_X11_way Y x1 (xs (ix (x3 + 1))) (xs (ix (x3 + 2))) σ) (fun (r_157 : Int32) (σ_156 : Mm) =>
    if inb (x3 + 1) N = true then
    if inb (x3 + 2) N = true then
    bnd (f_X12_way Y x2 (xs (ix (x3 + 1))) (xs (ix (x3 + 2))) σ_156) (fun (r_162 : Int32) (σ_161 : Mm) =>
    if r_157 = r_162 then
    b_L_law_1115 Y fu N xs k18 x1 x2 x3 σ_161
  else
    some 0)
  else none
  else none)
  else none
  else none
  else
    if ((xs (ix x3)) &&& 31) = 16 then
    if inb (x3 + 1) N = true then
    bnd (f_X11_sure Y fu x1 (xs (ix (x3 + 1))) σ) (fun (r_166 : Int32) (σ_165 : Mm) =>
    if inb (x3 + 1) N = true then
    bnd (f_X12_sure Y fu x2 (xs (ix (x3 + 1))) σ_165) (fun (r_170 : Int32) (σ_169 : Mm) =>
    if r_166 = r_170 then
    b_L_law_1115 Y fu N xs k18 x1 x2 x3 σ_169
  else
    some 0)
  else none)
  else none
  else
    if ((xs (ix x3)) &&& 31) = 17 then
    if inb (x3 + 1) N = true then
    if inb (x3 + 2) N = true then
    bnd (f_X11_fit Y fu x1 (xs (ix (x3 + 1))) (xs (ix (x3 + 2))) σ) (fun (r_175 : Int64) (σ_174 : Mm) =>
    if inb (x3 + 1) N = true then
    if inb (x3 + 2) N = true then
    bnd (f_X12_fit Y fu x2 (xs (ix (x3 + 1))) (xs (ix (x3 + 2))) σ_174) (fun (r_180 : Int64) (σ_179 : Mm) =>
    if r_175 = r_180 then
    b_L_law_1115 Y fu N xs k18 x1 x2 x3 σ_179
  else
    some 0)
  else none
  else none)
  else none
  else none
  else
    if ((xs (ix x3)) &&& 31) = 18 then
    if inb (x3 + 1) N = true then
    if inb (x3 + 2) N = true then
    bnd (f_X11_left Y fu x1 (xs (ix (x3 + 1))) (xs (ix (x3 + 2))) σ) (fun (r_185 : Int32) (σ_184 : Mm) =>
    if inb (x3 + 1) N = true then
    if inb (x3 + 2) N = true then
    bnd (f_X12_left Y fu x2 (xs (ix (x3 + 1))) (xs (ix (x3 + 2))) σ_184) (fun (r_190 : Int32) (σ_189 : Mm) =>
    if r_185 = r_190 then
    b_L_law_1115 Y fu N xs k18 x1 x2 x3 σ_189
  else
    some 0)
  else none
  else none)
  else none
  else none
  else
    if ((xs (ix x3)) &&& 31) = 19 then
    if inb (x3 + 1) N = true then
    if inb (x3 + 2) N = true then
    if inb (x3 + 3) N = true then
    if inb (x3 + 4) N = true then
    bnd (f_X11_look Y fu x1 (xs (ix (x3 + 1))) (xs (ix (x3 + 2))) (xs (ix (x3 + 3))) (xs (ix (x3 + 4))) σ) (fun (r_197 : Int32) (σ_196 : Mm) =>
    if inb (x3 + 1) N = true then
    if inb (x3 + 2) N = true then
    if inb (x3 + 3) N = true then
    if inb (x3 + 4) N = true then
    bnd (f_X12_look Y fu x2 (xs (ix (x3 + 1))) (xs (ix (x3 + 2))) (xs (ix (x3 + 3))) (xs (ix (x3 + 4))) σ_196) (fun (r_204 : Int32) (σ_203 : Mm) =>
    if r_197 = r_204 then
    b_L_law_1115 Y fu N xs k18 x1 x2 x3 σ_203
  else
    some 0)
  else none
  else none
  else none
  else none)
  else none
  else none
  else none
  else none
  else
    if ((xs (ix x3)) &&& 31) = 20 then
    if inb (x3 + 1) N = true then
    bnd (f_X11_slip Y fu x1 (xs (ix (x3 + 1))) σ) (fun (r_208 : Int32) (σ_207 : Mm) =>
    if inb (x3 + 1) N = true then
    bnd (f_X12_slip Y fu x2 (xs (ix (x3 + 1))) σ_207) (fun (r_212 : Int32) (σ_211 : Mm) =>
    if r_208 = r_212 then
    b_L_law_1115 Y fu N xs k18 x1 x2 x3 σ_211
  else
    some 0)
  else none)
  else none
  else
    if ((xs (ix x3)) &&& 31) = 21 then
    if inb (x3 + 1) N = true then
    bnd (f_X11_falseShare Y fu x1 (xs (ix (x3 + 1))) σ) (fun (r_216 : Int32) (σ_215 : Mm) =>
    if inb (x3 + 1) N = true then
    bnd (f_X12_falseShare Y fu x2 (xs (ix (x3 + 1))) σ_215) (fun (r_220 : Int32) (σ_219 : Mm) =>
    if r_216 = r_220 then
    b_L_law_1115 Y fu N xs k18 x1 x2 x3 σ_219
  else
    some 0)
  else none)
  else none
  else
    if ((xs (ix x3)) &&& 31) = 22 then
    if inb (x3 + 1) N = true then
    if inb (x3 + 2) N = true then
    bnd (f_X11_hum Y fu x1 (xs (ix (x3 + 1))) (xs (ix (x3 + 2))) σ) (fun (r_225 : Int64) (σ_224 : Mm) =>
    if inb (x3 + 1) N = true then
    if inb (x3 + 2) N = true then
    bnd (f_X12_hum Y fu x2 (xs (ix (x3 + 1))) (xs (ix (x3 + 2))) σ_224) (fun (r_230 : Int64) (σ_229 : Mm) =>
    if r_225 = r_230 then
    b_L_law_1115 Y fu N xs k18 x1 x2 x3 σ_229
  else
    some 0)
  else none
  else none)
  else none
  else none
  else
    if ((xs (ix x3)) &&& 31) = 23 then
    if inb (x3 + 1) N = true then
    if inb (x3 + 2) N = true then
    bnd (f_X11_shuffled Y fu x1 (xs (ix (x3 + 1))) (xs (ix (x3 + 2))) σ) (fun (r_235 : Int32) (σ_234 : Mm) =>
    if inb (x3 + 1) N = true then
    if inb (x3 + 2) N = true then
    bnd (f_X12_shuffled Y fu x2 (xs (ix (x3 + 1))) (xs (ix (x3 + 2))) σ_234) (fun (r_240 : Int32) (σ_239 : Mm) =>
    if r_235 = r_240 then
    b_L_law_1115 Y fu N xs k18 x1 x2 x3 σ_239
  else
    some 0)
  else none
  else none)
  else none
  else none
  else
    if ((xs (ix x3)) &&& 31) = 24 then
    if inb (x3 + 1) N = true then
    if inb (x3 + 2) N = true then
    bnd (f_X11_between Y fu x1 (xs (ix (x3 + 1))) (xs (ix (x3 + 2))) σ) (fun (r_245 : Int32) (σ_244 : Mm) =>
    if inb (x3 + 1) N = true then
    if inb (x3 + 2) N = true then
    bnd (f_X12_between Y fu x2 (xs (ix (x3 + 1))) (xs (ix (x3 + 2))) σ_244) (fun (r_250 : Int32) (σ_249 : Mm) =>
    if r_245 = r_250 then
    b_L_law_1115 Y fu N xs k18 x1 x2 x3 σ_249
  else
    some 0)
  else none
  else none)
  else none
  else none
  else
    if ((xs (ix x3)) &&& 31) = 25 then
    if inb (x3 + 1) N = true then
    if inb (x3 + 2) N = true then
    if inb (x3 + 3) N = true then
    bnd (f_X11_loop Y fu x1 (xs (ix (x3 + 1))) (xs (ix (x3 + 2))) (xs (ix (x3 + 3))) σ) (fun (r_256 : Int32) (σ_255 : Mm) =>
    if inb (x3 + 1) N = true then
    if inb (x3 + 2) N = true then
    if inb (x3 + 3) N = true then
    bnd (f_X12_loop Y fu x2 (xs (ix (x3 + 1))) (xs (ix (x3 + 2))) (xs (ix (x3 + 3))) σ_255) (fun (r_262 : Int32) (σ_261 : Mm) =>
    if r_256 = r_262 then
    b_L_law_1115 Y fu N xs k18 x1 x2 x3 σ_261
  else
    some 0)
  else none
  else none
  else none)
  else none
  else none
  else none
  else
    if ((xs (ix x3)) &&& 31) = 26 then
    if inb (x3 + 1) N = true then
    bnd (f_X11_moved Y fu x1 (xs (ix (x3 + 1))) σ) (fun (r_266 : Int64) (σ_265 : Mm) =>
    if inb (x3 + 1) N = true then
    bnd (f_X12_moved Y fu x2 (xs (ix (x3 + 1))) σ_265) (fun (r_270 : Int64) (σ_269 : Mm) =>
    if r_266 = r_270 then
    b_L_law_1115 Y fu N xs k18 x1 x2 x3 σ_269
  else
    some 0)
  else none)
  else none
  else
    if ((xs (ix x3)) &&& 31) = 27 then
    if inb (x3 + 1) N = true then
    bnd (f_X11_alarm Y fu x1 (xs (ix (x3 + 1))) σ) (fun (r_274 : Int32) (σ_273 : Mm) =>
    if inb (x3 + 1) N = true then
    bnd (f_X12_alarm Y fu x2 (xs (ix (x3 + 1))) σ_273) (fun (r_278 : Int32) (σ_277 : Mm) =>
    if r_274 = r_278 then
    b_L_law_1115 Y fu N xs k18 x1 x2 x3 σ_277
  else
    some 0)
  else none)
  else none
  else
    if ((xs (ix x3)) &&& 31) = 28 then
    if inb (x3 + 1) N = true then
    bnd (f_X11_count Y fu x1 (xs (ix (x3 + 1))) σ) (fun (r_282 : Int32) (σ_281 : Mm) =>
    if inb (x3 + 1) N = true then
    bnd (f_X12_count Y fu x2 (xs (ix (x3 + 1))) σ_281) (fun (r_286 : Int32) (σ_285 : Mm) =>
    if r_282 = r_286 then
    b_L_law_1115 Y fu N xs k18 x1 x2 x3 σ_285
  else
    some 0)
  else none)
  else none
  else
    b_L_law_1115 Y fu N xs k18 x1 x2 x3 σ
  else none
def b_L_law_18 (Y : Yt) (fu : Nat) (N : Nat) (xs : Nat → Int32) (n : Nat) : Nat → Nat → Int32 → Mm → Option (Int32) := lp (s_L_law_18 Y fu N xs) (fun _ _ _ _ => none) n

set_option maxRecDepth 100000 in
set_option maxHeartbeats 400000000 in
theorem law_loop (l : Launch) (z n : Nat) (D : va_G) (cy : Nat → ClassId) (Y : Yt) {fu N b : Nat} {xs : Nat → Int32} {p : Program} {e : Env} {s : State} {m : MethodId} {below : List Frame} {meth : Method} {c : Code} (hx : p.tables.exec = Jvm.exec) (hb : c.code = code) (hr : meth.sig.returnType = ret) (hml : c.maxLocals = 4) (hown : s.vm.findClass RL = some m.cls) (hts : ∀ w ∈ lw_tbl, w.before #[Value.ref b] s = true) (hX : va_X b N xs s s.heap) (hbl : b < s.heap.size) (hzs : s.heap.size = z + 1) (hlocks : meth.locks = false) (hK : va_K D vwCl (tyA cy) s) (hN : NW s) : ∀ (nn : Nat) (x1 : Nat) (x2 : Nat) (x3 : Int32) (σ : Mm), okk Y n 8 x1 → okk Y n 9 x2 → b_L_law_18 Y fu N xs nn x1 x2 x3 σ = some 1 → ∀ (H : Heap) (locs : List Loc) (ls : Array Slot), WH z n D cy Y σ H → va_S (Az z) s.heap H locs → lv_has ls 4 [(0, .ref b), (1, .ref (z + x1)), (2, .ref (z + x2)), (3, .int x3)] → W p l e room_1 s m #[Value.ref b] below meth c H locs 634 83699 (lw_Z below #[Value.ref b] s) (F0 m 18 ls []) := by
  have hbA : ¬ Az z b := by show ¬ z < b; omega
  have hw0 := hts (.constantLong RL 45 (4294967295)) tm_1298
  have B1115 : ∀ (k18 : Nat → Nat → Int32 → Mm → Option (Int32)) (H18 : ∀ (x1 : Nat) (x2 : Nat) (x3 : Int32) (σ : Mm), okk Y n 8 x1 → okk Y n 9 x2 → k18 x1 x2 x3 σ = some 1 → ∀ (H : Heap) (locs : List Loc) (ls : Array Slot), WH z n D cy Y σ H → va_S (Az z) s.heap H locs → lv_has ls 4 [(0, .ref b), (1, .ref (z + x1)), (2, .ref (z + x2)), (3, .int x3)] → W p l e room_1 s m #[Value.ref b] below meth c H locs 634 83699 (lw_Z below #[Value.ref b] s) (F0 m 18 ls [])) (x1 : Nat) (x2 : Nat) (x3 : Int32) (σ : Mm), okk Y n 8 x1 → okk Y n 9 x2 → b_L_law_1115 Y fu N xs k18 x1 x2 x3 σ = some 1 → ∀ (H : Heap) (locs : List Loc) (ls : Array Slot), WH z n D cy Y σ H → va_S (Az z) s.heap H locs → lv_has ls 4 [(0, .ref b), (1, .ref (z + x1)), (2, .ref (z + x2)), (3, .int x3)] → W p l e room_1 s m #[Value.ref b] below meth c H locs 634 83699 (lw_Z below #[Value.ref b] s) (F0 m 1115 ls []) := by
    intro k18 H18 x1 x2 x3 σ h_x1 h_x2 hf H locs ls hW hS hl
    obtain ⟨x3_2, ex3_2⟩ : ∃ y : Int32, y = x3 + 6 := ⟨_, rfl⟩
    have hf := g_lt ex3_2 hf
    refine lv_iinc (v := x3_2) (lv' := [(3, .int x3_2), (0, .ref b), (1, .ref (z + x1)), (2, .ref (z + x2))]) hx hb dL_law_1115 hl (k := 3) rfl (by rw [ex3_2]; rfl) (by decide) rfl (fun ls hl => ?_)
    refine lv_goto (tgt := 18) hx hb dL_law_1118 (by decide) ?_
    exact H18 x1 x2 x3_2 σ h_x1 h_x2 hf _ _ _ hW hS (lv_sub hl [1, 2, 3, 0] rfl)
  have B18 : ∀ (nn : Nat) (x1 : Nat) (x2 : Nat) (x3 : Int32) (σ : Mm), okk Y n 8 x1 → okk Y n 9 x2 → b_L_law_18 Y fu N xs nn x1 x2 x3 σ = some 1 → ∀ (H : Heap) (locs : List Loc) (ls : Array Slot), WH z n D cy Y σ H → va_S (Az z) s.heap H locs → lv_has ls 4 [(0, .ref b), (1, .ref (z + x1)), (2, .ref (z + x2)), (3, .int x3)] → W p l e room_1 s m #[Value.ref b] below meth c H locs 634 83699 (lw_Z below #[Value.ref b] s) (F0 m 18 ls []) := by
    intro nn
    induction nn with
    | zero =>
      intro x1 x2 x3 σ h_x1 h_x2 hf
      have h9 : (none : Option Int32) = some 1 := hf
      cases h9
    | succ nn H18 =>
      intro x1 x2 x3 σ h_x1 h_x2 hf H locs ls hW hS hl
      have hf : s_L_law_18 Y fu N xs (b_L_law_18 Y fu N xs nn) x1 x2 x3 σ = some 1 := hf
      generalize hkk : b_L_law_18 Y fu N xs nn = k18 at hf H18
      refine lv_iload_n hx hb dL_law_18 rfl (lv_at hl 3 rfl) ?_
      refine lv_aload_n hx hb dL_law_19 rfl (lv_at hl 0 rfl) ?_
      refine va_slen hx hb hX hbl hbA hS dL_law_20 ?_
      refine lv_bipush (v := 6) hx hb dL_law_21 (by decide) ?_
      refine lv_isub hx hb dL_law_23 ?_
      refine lv_icmp_gt (tgt := 1121) hx hb dL_law_24 (by decide) (fun c => ?_) (fun c => ?_)
      · have hf := g_pos c hf
        refine lv_iconst (v := 1) hx hb dL_law_1121 (by decide) ?_
        exact lw_end hx hb hr hlocks hzs hS dL_law_1122
      · have hf := g_neg c hf
        refine lv_aload_n hx hb dL_law_27 rfl (lv_at hl 0 rfl) ?_
        refine lv_iload_n hx hb dL_law_28 rfl (lv_at hl 3 rfl) ?_
        obtain ⟨hi_1, hf⟩ := g_in hf
        refine va_sld hx hb hX hbl hbA hS (inb_in hi_1) dL_law_29 ?_
        refine lv_bipush (v := 31) hx hb dL_law_30 (by decide) ?_
        refine lv_iand hx hb dL_law_32 ?_
        by_cases c0 : ((xs (ix x3)) &&& 31) = 0
        · have hf := g_pos c0 hf
          refine q_tcase (k := 0) (off := 131) (tgt := 164) hx hb dL_law_33 c0 (by decide) (by decide) rfl (by decide) ?_
          refine lv_aload_n hx hb dL_law_164 rfl (lv_at hl 1 rfl) ?_
          refine lv_aload_n hx hb dL_law_165 rfl (lv_at hl 0 rfl) ?_
          refine lv_iload_n hx hb dL_law_166 rfl (lv_at hl 3 rfl) ?_
          refine lv_iconst (v := 1) hx hb dL_law_167 (by decide) ?_
          refine lv_iadd hx hb dL_law_168 ?_
          obtain ⟨hi_3, hf⟩ := g_in hf
          refine va_sld hx hb hX hbl hbA hS (inb_in hi_3) dL_law_169 ?_
          refine lv_aload_n hx hb dL_law_170 rfl (lv_at hl 0 rfl) ?_
          refine lv_iload_n hx hb dL_law_171 rfl (lv_at hl 3 rfl) ?_
          refine lv_iconst (v := 2) hx hb dL_law_172 (by decide) ?_
          refine lv_iadd hx hb dL_law_173 ?_
          obtain ⟨hi_4, hf⟩ := g_in hf
          refine va_sld hx hb hX hbl hbA hS (inb_in hi_4) dL_law_174 ?_
          refine lv_aload_n hx hb dL_law_175 rfl (lv_at hl 0 rfl) ?_
          refine lv_iload_n hx hb dL_law_176 rfl (lv_at hl 3 rfl) ?_
          refine lv_iconst (v := 3) hx hb dL_law_177 (by decide) ?_
          refine lv_iadd hx hb dL_law_178 ?_
          obtain ⟨hi_5, hf⟩ := g_in hf
          refine va_sld hx hb hX hbl hbA hS (inb_in hi_5) dL_law_179 ?_
          refine lv_aload_n hx hb dL_law_180 rfl (lv_at hl 0 rfl) ?_
          refine lv_iload_n hx hb dL_law_181 rfl (lv_at hl 3 rfl) ?_
          refine lv_iconst (v := 4) hx hb dL_law_182 (by decide) ?_
          refine lv_iadd hx hb dL_law_183 ?_
          obtain ⟨hi_6, hf⟩ := g_in hf
          refine va_sld hx hb hX hbl hbA hS (inb_in hi_6) dL_law_184 ?_
          refine lv_aload_n hx hb dL_law_185 rfl (lv_at hl 0 rfl) ?_
          refine lv_iload_n hx hb dL_law_186 rfl (lv_at hl 3 rfl) ?_
          refine lv_iconst (v := 5) hx hb dL_law_187 (by decide) ?_
          refine lv_iadd hx hb dL_law_188 ?_
          obtain ⟨hi_7, hf⟩ := g_in hf
          refine va_sld hx hb hX hbl hbA hS (inb_in hi_7) dL_law_189 ?_
          obtain ⟨r_10, σ_9, hc_8, hf⟩ := g_bnd hf
          refine q_calli (va_runV (As := [.int (xs (ix (x3 + 1))), .int (xs (ix (x3 + 2))), .int (xs (ix (x3 + 3))), .int (xs (ix (x3 + 4))), .int (xs (ix (x3 + 5)))]) (rest := []) ⟨hx, hb, hml, hown, hts⟩ (k_X11_arrival l z n D cy Y h_x1 hc_8) (cwV 5 hts gT_X11_arrival rfl rfl rfl (by decide +kernel) ⟨Nat.le_of_ble_eq_true rfl, Nat.le_of_ble_eq_true rfl⟩) (q_PV (T := TX11) (N := 10) hK hN hW h_x1 (by decide) rfl) rfl rfl hl.1 rfl (lv_room (Nat.le_of_ble_eq_true rfl)) dL_law_190 ⟨Nat.le_of_ble_eq_true rfl, Nat.le_of_ble_eq_true rfl⟩) hS (fun H locs hW hS => ?_)
          refine lv_aload_n hx hb dL_law_193 rfl (lv_at hl 2 rfl) ?_
          refine lv_aload_n hx hb dL_law_194 rfl (lv_at hl 0 rfl) ?_
          refine lv_iload_n hx hb dL_law_195 rfl (lv_at hl 3 rfl) ?_
          refine lv_iconst (v := 1) hx hb dL_law_196 (by decide) ?_
          refine lv_iadd hx hb dL_law_197 ?_
          obtain ⟨hi_11, hf⟩ := g_in hf
          refine va_sld hx hb hX hbl hbA hS (inb_in hi_11) dL_law_198 ?_
          refine lv_aload_n hx hb dL_law_199 rfl (lv_at hl 0 rfl) ?_
          refine lv_iload_n hx hb dL_law_200 rfl (lv_at hl 3 rfl) ?_
          refine lv_iconst (v := 2) hx hb dL_law_201 (by decide) ?_
          refine lv_iadd hx hb dL_law_202 ?_
          obtain ⟨hi_12, hf⟩ := g_in hf
          refine va_sld hx hb hX hbl hbA hS (inb_in hi_12) dL_law_203 ?_
          refine lv_aload_n hx hb dL_law_204 rfl (lv_at hl 0 rfl) ?_
          refine lv_iload_n hx hb dL_law_205 rfl (lv_at hl 3 rfl) ?_
          refine lv_iconst (v := 3) hx hb dL_law_206 (by decide) ?_
          refine lv_iadd hx hb dL_law_207 ?_
          obtain ⟨hi_13, hf⟩ := g_in hf
          refine va_sld hx hb hX hbl hbA hS (inb_in hi_13) dL_law_208 ?_
          refine lv_aload_n hx hb dL_law_209 rfl (lv_at hl 0 rfl) ?_
          refine lv_iload_n hx hb dL_law_210 rfl (lv_at hl 3 rfl) ?_
          refine lv_iconst (v := 4) hx hb dL_law_211 (by decide) ?_
          refine lv_iadd hx hb dL_law_212 ?_
          obtain ⟨hi_14, hf⟩ := g_in hf
          refine va_sld hx hb hX hbl hbA hS (inb_in hi_14) dL_law_213 ?_
          refine lv_aload_n hx hb dL_law_214 rfl (lv_at hl 0 rfl) ?_
          refine lv_iload_n hx hb dL_law_215 rfl (lv_at hl 3 rfl) ?_
          refine lv_iconst (v := 5) hx hb dL_law_216 (by decide) ?_
          refine lv_iadd hx hb dL_law_217 ?_
          obtain ⟨hi_15, hf⟩ := g_in hf
          refine va_sld hx hb hX hbl hbA hS (inb_in hi_15) dL_law_218 ?_
          obtain ⟨r_18, σ_17, hc_16, hf⟩ := g_bnd hf
          refine q_calli (va_runV (As := [.int (xs (ix (x3 + 1))), .int (xs (ix (x3 + 2))), .int (xs (ix (x3 + 3))), .int (xs (ix (x3 + 4))), .int (xs (ix (x3 + 5)))]) (rest := [.int r_10]) ⟨hx, hb, hml, hown, hts⟩ (k_X12_arrival l z n D cy Y h_x2 hc_16) (cwV 5 hts gT_X12_arrival rfl rfl rfl (by decide +kernel) ⟨Nat.le_of_ble_eq_true rfl, Nat.le_of_ble_eq_true rfl⟩) (q_PV (T := TX12) (N := 57) hK hN hW h_x2 (by decide) rfl) rfl rfl hl.1 rfl (lv_room (Nat.le_of_ble_eq_true rfl)) dL_law_219 ⟨Nat.le_of_ble_eq_true rfl, Nat.le_of_ble_eq_true rfl⟩) hS (fun H locs hW hS => ?_)
          refine lv_icmp_eq (tgt := 1115) hx hb dL_law_222 (by decide) (fun c => ?_) (fun c => ?_)
          · have hf := g_pos c hf
            exact B1115 k18 H18 x1 x2 x3 σ_17 h_x1 h_x2 hf _ _ _ hW hS (lv_sub hl [0, 1, 2, 3] rfl)
          · have hf := g_neg c hf
            refine lv_iconst (v := 0) hx hb dL_law_225 (by decide) ?_
            exact absurd hf (by decide)
        · have hf := g_neg c0 hf
          by_cases c1 : ((xs (ix x3)) &&& 31) = 1
          · have hf := g_pos c1 hf
            refine q_tcase (k := 1) (off := 194) (tgt := 227) hx hb dL_law_33 c1 (by decide) (by decide) rfl (by decide) ?_
            refine lv_aload_n hx hb dL_law_227 rfl (lv_at hl 1 rfl) ?_
            refine lv_aload_n hx hb dL_law_228 rfl (lv_at hl 0 rfl) ?_
            refine lv_iload_n hx hb dL_law_229 rfl (lv_at hl 3 rfl) ?_
            refine lv_iconst (v := 1) hx hb dL_law_230 (by decide) ?_
            refine lv_iadd hx hb dL_law_231 ?_
            obtain ⟨hi_19, hf⟩ := g_in hf
            refine va_sld hx hb hX hbl hbA hS (inb_in hi_19) dL_law_232 ?_
            obtain ⟨r_22, σ_21, hc_20, hf⟩ := g_bnd hf
            refine q_calli (va_runV (As := [.int (xs (ix (x3 + 1)))]) (rest := []) ⟨hx, hb, hml, hown, hts⟩ (k_X11_clear l z n D cy Y h_x1 hc_20) (cwV 1 hts gT_X11_clear rfl rfl rfl (by decide +kernel) ⟨Nat.le_of_ble_eq_true rfl, Nat.le_of_ble_eq_true rfl⟩) (q_PV (T := TX11) (N := 10) hK hN hW h_x1 (by decide) rfl) rfl rfl hl.1 rfl (lv_room (Nat.le_of_ble_eq_true rfl)) dL_law_233 ⟨Nat.le_of_ble_eq_true rfl, Nat.le_of_ble_eq_true rfl⟩) hS (fun H locs hW hS => ?_)
            refine lv_aload_n hx hb dL_law_236 rfl (lv_at hl 2 rfl) ?_
            refine lv_aload_n hx hb dL_law_237 rfl (lv_at hl 0 rfl) ?_
            refine lv_iload_n hx hb dL_law_238 rfl (lv_at hl 3 rfl) ?_
            refine lv_iconst (v := 1) hx hb dL_law_239 (by decide) ?_
            refine lv_iadd hx hb dL_law_240 ?_
            obtain ⟨hi_23, hf⟩ := g_in hf
            refine va_sld hx hb hX hbl hbA hS (inb_in hi_23) dL_law_241 ?_
            obtain ⟨r_26, σ_25, hc_24, hf⟩ := g_bnd hf
            refine q_calli (va_runV (As := [.int (xs (ix (x3 + 1)))]) (rest := [.int r_22]) ⟨hx, hb, hml, hown, hts⟩ (k_X12_clear l z n D cy Y h_x2 hc_24) (cwV 1 hts gT_X12_clear rfl rfl rfl (by decide +kernel) ⟨Nat.le_of_ble_eq_true rfl, Nat.le_of_ble_eq_true rfl⟩) (q_PV (T := TX12) (N := 57) hK hN hW h_x2 (by decide) rfl) rfl rfl hl.1 rfl (lv_room (Nat.le_of_ble_eq_true rfl)) dL_law_242 ⟨Nat.le_of_ble_eq_true rfl, Nat.le_of_ble_eq_true rfl⟩) hS (fun H locs hW hS => ?_)
            refine lv_icmp_eq (tgt := 1115) hx hb dL_law_245 (by decide) (fun c => ?_) (fun c => ?_)
            · have hf := g_pos c hf
              exact B1115 k18 H18 x1 x2 x3 σ_25 h_x1 h_x2 hf _ _ _ hW hS (lv_sub hl [0, 1, 2, 3] rfl)
            · have hf := g_neg c hf
              refine lv_iconst (v := 0) hx hb dL_law_248 (by decide) ?_
              exact absurd hf (by decide)
          · have hf := g_neg c1 hf
            by_cases c2 : ((xs (ix x3)) &&& 31) = 2
            · have hf := g_pos c2 hf
              refine q_tcase (k := 2) (off := 217) (tgt := 250) hx hb dL_law_33 c2 (by decide) (by decide) rfl (by decide) ?_
              refine lv_aload_n hx hb dL_law_250 rfl (lv_at hl 1 rfl) ?_
              refine lv_aload_n hx hb dL_law_251 rfl (lv_at hl 0 rfl) ?_
              refine lv_iload_n hx hb dL_law_252 rfl (lv_at hl 3 rfl) ?_
              refine lv_iconst (v := 1) hx hb dL_law_253 (by decide) ?_
              refine lv_iadd hx hb dL_law_254 ?_
              obtain ⟨hi_27, hf⟩ := g_in hf
              refine va_sld hx hb hX hbl hbA hS (inb_in hi_27) dL_law_255 ?_
              refine lv_aload_n hx hb dL_law_256 rfl (lv_at hl 0 rfl) ?_
              refine lv_iload_n hx hb dL_law_257 rfl (lv_at hl 3 rfl) ?_
              refine lv_iconst (v := 2) hx hb dL_law_258 (by decide) ?_
              refine lv_iadd hx hb dL_law_259 ?_
              obtain ⟨hi_28, hf⟩ := g_in hf
              refine va_sld hx hb hX hbl hbA hS (inb_in hi_28) dL_law_260 ?_
              obtain ⟨r_31, σ_30, hc_29, hf⟩ := g_bnd hf
              refine q_calli (va_runV (As := [.int (xs (ix (x3 + 1))), .int (xs (ix (x3 + 2)))]) (rest := []) ⟨hx, hb, hml, hown, hts⟩ (k_X11_offset l z n D cy Y h_x1 hc_29) (cwV 2 hts gT_X11_offset rfl rfl rfl (by decide +kernel) ⟨Nat.le_of_ble_eq_true rfl, Nat.le_of_ble_eq_true rfl⟩) (q_PV (T := TX11) (N := 10) hK hN hW h_x1 (by decide) rfl) rfl rfl hl.1 rfl (lv_room (Nat.le_of_ble_eq_true rfl)) dL_law_261 ⟨Nat.le_of_ble_eq_true rfl, Nat.le_of_ble_eq_true rfl⟩) hS (fun H locs hW hS => ?_)
              refine lv_aload_n hx hb dL_law_264 rfl (lv_at hl 2 rfl) ?_
              refine lv_aload_n hx hb dL_law_265 rfl (lv_at hl 0 rfl) ?_
              refine lv_iload_n hx hb dL_law_266 rfl (lv_at hl 3 rfl) ?_
              refine lv_iconst (v := 1) hx hb dL_law_267 (by decide) ?_
              refine lv_iadd hx hb dL_law_268 ?_
              obtain ⟨hi_32, hf⟩ := g_in hf
              refine va_sld hx hb hX hbl hbA hS (inb_in hi_32) dL_law_269 ?_
              refine lv_aload_n hx hb dL_law_270 rfl (lv_at hl 0 rfl) ?_
              refine lv_iload_n hx hb dL_law_271 rfl (lv_at hl 3 rfl) ?_
              refine lv_iconst (v := 2) hx hb dL_law_272 (by decide) ?_
              refine lv_iadd hx hb dL_law_273 ?_
              obtain ⟨hi_33, hf⟩ := g_in hf
              refine va_sld hx hb hX hbl hbA hS (inb_in hi_33) dL_law_274 ?_
              obtain ⟨r_36, σ_35, hc_34, hf⟩ := g_bnd hf
              refine q_calli (va_runV (As := [.int (xs (ix (x3 + 1))), .int (xs (ix (x3 + 2)))]) (rest := [.int r_31]) ⟨hx, hb, hml, hown, hts⟩ (k_X12_offset l z n D cy Y h_x2 hc_34) (cwV 2 hts gT_X12_offset rfl rfl rfl (by decide +kernel) ⟨Nat.le_of_ble_eq_true rfl, Nat.le_of_ble_eq_true rfl⟩) (q_PV (T := TX12) (N := 57) hK hN hW h_x2 (by decide) rfl) rfl rfl hl.1 rfl (lv_room (Nat.le_of_ble_eq_true rfl)) dL_law_275 ⟨Nat.le_of_ble_eq_true rfl, Nat.le_of_ble_eq_true rfl⟩) hS (fun H locs hW hS => ?_)
              refine lv_icmp_eq (tgt := 1115) hx hb dL_law_278 (by decide) (fun c => ?_) (fun c => ?_)
              · have hf := g_pos c hf
                exact B1115 k18 H18 x1 x2 x3 σ_35 h_x1 h_x2 hf _ _ _ hW hS (lv_sub hl [0, 1, 2, 3] rfl)
              · have hf := g_neg c hf
                refine lv_iconst (v := 0) hx hb dL_law_281 (by decide) ?_
                exact absurd hf (by decide)
            · have hf := g_neg c2 hf
              by_cases c3 : ((xs (ix x3)) &&& 31) = 3
              · have hf := g_pos c3 hf
                refine q_tcase (k := 3) (off := 250) (tgt := 283) hx hb dL_law_33 c3 (by decide) (by decide) rfl (by decide) ?_
                refine lv_aload_n hx hb dL_law_283 rfl (lv_at hl 1 rfl) ?_
                refine lv_aload_n hx hb dL_law_284 rfl (lv_at hl 0 rfl) ?_
                refine lv_iload_n hx hb dL_law_285 rfl (lv_at hl 3 rfl) ?_
                refine lv_iconst (v := 1) hx hb dL_law_286 (by decide) ?_
                refine lv_iadd hx hb dL_law_287 ?_
                obtain ⟨hi_37, hf⟩ := g_in hf
                refine va_sld hx hb hX hbl hbA hS (inb_in hi_37) dL_law_288 ?_
                refine lv_aload_n hx hb dL_law_289 rfl (lv_at hl 0 rfl) ?_
                refine lv_iload_n hx hb dL_law_290 rfl (lv_at hl 3 rfl) ?_
                refine lv_iconst (v := 2) hx hb dL_law_291 (by decide) ?_
                refine lv_iadd hx hb dL_law_292 ?_
                obtain ⟨hi_38, hf⟩ := g_in hf
                refine va_sld hx hb hX hbl hbA hS (inb_in hi_38) dL_law_293 ?_
                refine lv_aload_n hx hb dL_law_294 rfl (lv_at hl 0 rfl) ?_
                refine lv_iload_n hx hb dL_law_295 rfl (lv_at hl 3 rfl) ?_
                refine lv_iconst (v := 3) hx hb dL_law_296 (by decide) ?_
                refine lv_iadd hx hb dL_law_297 ?_
                obtain ⟨hi_39, hf⟩ := g_in hf
                refine va_sld hx hb hX hbl hbA hS (inb_in hi_39) dL_law_298 ?_
                obtain ⟨r_42, σ_41, hc_40, hf⟩ := g_bnd hf
                refine q_calli (va_runV (As := [.int (xs (ix (x3 + 1))), .int (xs (ix (x3 + 2))), .int (xs (ix (x3 + 3)))]) (rest := []) ⟨hx, hb, hml, hown, hts⟩ (k_X11_shift l z n D cy Y h_x1 hc_40) (cwV 3 hts gT_X11_shift rfl rfl rfl (by decide +kernel) ⟨Nat.le_of_ble_eq_true rfl, Nat.le_of_ble_eq_true rfl⟩) (q_PV (T := TX11) (N := 10) hK hN hW h_x1 (by decide) rfl) rfl rfl hl.1 rfl (lv_room (Nat.le_of_ble_eq_true rfl)) dL_law_299 ⟨Nat.le_of_ble_eq_true rfl, Nat.le_of_ble_eq_true rfl⟩) hS (fun H locs hW hS => ?_)
                refine lv_aload_n hx hb dL_law_302 rfl (lv_at hl 2 rfl) ?_
                refine lv_aload_n hx hb dL_law_303 rfl (lv_at hl 0 rfl) ?_
                refine lv_iload_n hx hb dL_law_304 rfl (lv_at hl 3 rfl) ?_
                refine lv_iconst (v := 1) hx hb dL_law_305 (by decide) ?_
                refine lv_iadd hx hb dL_law_306 ?_
                obtain ⟨hi_43, hf⟩ := g_in hf
                refine va_sld hx hb hX hbl hbA hS (inb_in hi_43) dL_law_307 ?_
                refine lv_aload_n hx hb dL_law_308 rfl (lv_at hl 0 rfl) ?_
                refine lv_iload_n hx hb dL_law_309 rfl (lv_at hl 3 rfl) ?_
                refine lv_iconst (v := 2) hx hb dL_law_310 (by decide) ?_
                refine lv_iadd hx hb dL_law_311 ?_
                obtain ⟨hi_44, hf⟩ := g_in hf
                refine va_sld hx hb hX hbl hbA hS (inb_in hi_44) dL_law_312 ?_
                refine lv_aload_n hx hb dL_law_313 rfl (lv_at hl 0 rfl) ?_
                refine lv_iload_n hx hb dL_law_314 rfl (lv_at hl 3 rfl) ?_
                refine lv_iconst (v := 3) hx hb dL_law_315 (by decide) ?_
                refine lv_iadd hx hb dL_law_316 ?_
                obtain ⟨hi_45, hf⟩ := g_in hf
                refine va_sld hx hb hX hbl hbA hS (inb_in hi_45) dL_law_317 ?_
                obtain ⟨r_48, σ_47, hc_46, hf⟩ := g_bnd hf
                refine q_calli (va_runV (As := [.int (xs (ix (x3 + 1))), .int (xs (ix (x3 + 2))), .int (xs (ix (x3 + 3)))]) (rest := [.int r_42]) ⟨hx, hb, hml, hown, hts⟩ (k_X12_shift l z n D cy Y h_x2 hc_46) (cwV 3 hts gT_X12_shift rfl rfl rfl (by decide +kernel) ⟨Nat.le_of_ble_eq_true rfl, Nat.le_of_ble_eq_true rfl⟩) (q_PV (T := TX12) (N := 57) hK hN hW h_x2 (by decide) rfl) rfl rfl hl.1 rfl (lv_room (Nat.le_of_ble_eq_true rfl)) dL_law_318 ⟨Nat.le_of_ble_eq_true rfl, Nat.le_of_ble_eq_true rfl⟩) hS (fun H locs hW hS => ?_)
                refine lv_icmp_eq (tgt := 1115) hx hb dL_law_321 (by decide) (fun c => ?_) (fun c => ?_)
                · have hf := g_pos c hf
                  exact B1115 k18 H18 x1 x2 x3 σ_47 h_x1 h_x2 hf _ _ _ hW hS (lv_sub hl [0, 1, 2, 3] rfl)
                · have hf := g_neg c hf
                  refine lv_iconst (v := 0) hx hb dL_law_324 (by decide) ?_
                  exact absurd hf (by decide)
              · have hf := g_neg c3 hf
                by_cases c4 : ((xs (ix x3)) &&& 31) = 4
                · have hf := g_pos c4 hf
                  refine q_tcase (k := 4) (off := 293) (tgt := 326) hx hb dL_law_33 c4 (by decide) (by decide) rfl (by decide) ?_
                  refine lv_aload_n hx hb dL_law_326 rfl (lv_at hl 1 rfl) ?_
                  refine lv_aload_n hx hb dL_law_327 rfl (lv_at hl 0 rfl) ?_
                  refine lv_iload_n hx hb dL_law_328 rfl (lv_at hl 3 rfl) ?_
                  refine lv_iconst (v := 1) hx hb dL_law_329 (by decide) ?_
                  refine lv_iadd hx hb dL_law_330 ?_
                  obtain ⟨hi_49, hf⟩ := g_in hf
                  refine va_sld hx hb hX hbl hbA hS (inb_in hi_49) dL_law_331 ?_
                  refine lv_aload_n hx hb dL_law_332 rfl (lv_at hl 0 rfl) ?_
                  refine lv_iload_n hx hb dL_law_333 rfl (lv_at hl 3 rfl) ?_
                  refine lv_iconst (v := 2) hx hb dL_law_334 (by decide) ?_
                  refine lv_iadd hx hb dL_law_335 ?_
                  obtain ⟨hi_50, hf⟩ := g_in hf
                  refine va_sld hx hb hX hbl hbA hS (inb_in hi_50) dL_law_336 ?_
                  obtain ⟨r_53, σ_52, hc_51, hf⟩ := g_bnd hf
                  refine q_calli (va_runV (As := [.int (xs (ix (x3 + 1))), .int (xs (ix (x3 + 2)))]) (rest := []) ⟨hx, hb, hml, hown, hts⟩ (k_X11_rule l z n D cy Y h_x1 hc_51) (cwV 2 hts gT_X11_rule rfl rfl rfl (by decide +kernel) ⟨Nat.le_of_ble_eq_true rfl, Nat.le_of_ble_eq_true rfl⟩) (q_PV (T := TX11) (N := 10) hK hN hW h_x1 (by decide) rfl) rfl rfl hl.1 rfl (lv_room (Nat.le_of_ble_eq_true rfl)) dL_law_337 ⟨Nat.le_of_ble_eq_true rfl, Nat.le_of_ble_eq_true rfl⟩) hS (fun H locs hW hS => ?_)
                  refine lv_aload_n hx hb dL_law_340 rfl (lv_at hl 2 rfl) ?_
                  refine lv_aload_n hx hb dL_law_341 rfl (lv_at hl 0 rfl) ?_
                  refine lv_iload_n hx hb dL_law_342 rfl (lv_at hl 3 rfl) ?_
                  refine lv_iconst (v := 1) hx hb dL_law_343 (by decide) ?_
                  refine lv_iadd hx hb dL_law_344 ?_
                  obtain ⟨hi_54, hf⟩ := g_in hf
                  refine va_sld hx hb hX hbl hbA hS (inb_in hi_54) dL_law_345 ?_
                  refine lv_aload_n hx hb dL_law_346 rfl (lv_at hl 0 rfl) ?_
                  refine lv_iload_n hx hb dL_law_347 rfl (lv_at hl 3 rfl) ?_
                  refine lv_iconst (v := 2) hx hb dL_law_348 (by decide) ?_
                  refine lv_iadd hx hb dL_law_349 ?_
                  obtain ⟨hi_55, hf⟩ := g_in hf
                  refine va_sld hx hb hX hbl hbA hS (inb_in hi_55) dL_law_350 ?_
                  obtain ⟨r_58, σ_57, hc_56, hf⟩ := g_bnd hf
                  refine q_calli (va_runV (As := [.int (xs (ix (x3 + 1))), .int (xs (ix (x3 + 2)))]) (rest := [.int r_53]) ⟨hx, hb, hml, hown, hts⟩ (k_X12_rule l z n D cy Y h_x2 hc_56) (cwV 2 hts gT_X12_rule rfl rfl rfl (by decide +kernel) ⟨Nat.le_of_ble_eq_true rfl, Nat.le_of_ble_eq_true rfl⟩) (q_PV (T := TX12) (N := 57) hK hN hW h_x2 (by decide) rfl) rfl rfl hl.1 rfl (lv_room (Nat.le_of_ble_eq_true rfl)) dL_law_351 ⟨Nat.le_of_ble_eq_true rfl, Nat.le_of_ble_eq_true rfl⟩) hS (fun H locs hW hS => ?_)
                  refine lv_icmp_eq (tgt := 1115) hx hb dL_law_354 (by decide) (fun c => ?_) (fun c => ?_)
                  · have hf := g_pos c hf
                    exact B1115 k18 H18 x1 x2 x3 σ_57 h_x1 h_x2 hf _ _ _ hW hS (lv_sub hl [0, 1, 2, 3] rfl)
                  · have hf := g_neg c hf
                    refine lv_iconst (v := 0) hx hb dL_law_357 (by decide) ?_
                    exact absurd hf (by decide)
                · have hf := g_neg c4 hf
                  by_cases c5 : ((xs (ix x3)) &&& 31) = 5
                  · have hf := g_pos c5 hf
                    refine q_tcase (k := 5) (off := 326) (tgt := 359) hx hb dL_law_33 c5 (by decide) (by decide) rfl (by decide) ?_
                    refine lv_aload_n hx hb dL_law_359 rfl (lv_at hl 1 rfl) ?_
                    refine lv_aload_n hx hb dL_law_360 rfl (lv_at hl 0 rfl) ?_
                    refine lv_iload_n hx hb dL_law_361 rfl (lv_at hl 3 rfl) ?_
                    refine lv_iconst (v := 1) hx hb dL_law_362 (by decide) ?_
                    refine lv_iadd hx hb dL_law_363 ?_
                    obtain ⟨hi_59, hf⟩ := g_in hf
                    refine va_sld hx hb hX hbl hbA hS (inb_in hi_59) dL_law_364 ?_
                    refine lv_aload_n hx hb dL_law_365 rfl (lv_at hl 0 rfl) ?_
                    refine lv_iload_n hx hb dL_law_366 rfl (lv_at hl 3 rfl) ?_
                    refine lv_iconst (v := 2) hx hb dL_law_367 (by decide) ?_
                    refine lv_iadd hx hb dL_law_368 ?_
                    obtain ⟨hi_60, hf⟩ := g_in hf
                    refine va_sld hx hb hX hbl hbA hS (inb_in hi_60) dL_law_369 ?_
                    refine lv_aload_n hx hb dL_law_370 rfl (lv_at hl 0 rfl) ?_
                    refine lv_iload_n hx hb dL_law_371 rfl (lv_at hl 3 rfl) ?_
                    refine lv_iconst (v := 3) hx hb dL_law_372 (by decide) ?_
                    refine lv_iadd hx hb dL_law_373 ?_
                    obtain ⟨hi_61, hf⟩ := g_in hf
                    refine va_sld hx hb hX hbl hbA hS (inb_in hi_61) dL_law_374 ?_
                    obtain ⟨r_64, σ_63, hc_62, hf⟩ := g_bnd hf
                    refine q_calli (va_runV (As := [.int (xs (ix (x3 + 1))), .int (xs (ix (x3 + 2))), .int (xs (ix (x3 + 3)))]) (rest := []) ⟨hx, hb, hml, hown, hts⟩ (k_X11_at l z n D cy Y h_x1 hc_62) (cwV 3 hts gT_X11_at rfl rfl rfl (by decide +kernel) ⟨Nat.le_of_ble_eq_true rfl, Nat.le_of_ble_eq_true rfl⟩) (q_PV (T := TX11) (N := 10) hK hN hW h_x1 (by decide) rfl) rfl rfl hl.1 rfl (lv_room (Nat.le_of_ble_eq_true rfl)) dL_law_375 ⟨Nat.le_of_ble_eq_true rfl, Nat.le_of_ble_eq_true rfl⟩) hS (fun H locs hW hS => ?_)
                    refine lv_aload_n hx hb dL_law_378 rfl (lv_at hl 2 rfl) ?_
                    refine lv_aload_n hx hb dL_law_379 rfl (lv_at hl 0 rfl) ?_
                    refine lv_iload_n hx hb dL_law_380 rfl (lv_at hl 3 rfl) ?_
                    refine lv_iconst (v := 1) hx hb dL_law_381 (by decide) ?_
                    refine lv_iadd hx hb dL_law_382 ?_
                    obtain ⟨hi_65, hf⟩ := g_in hf
                    refine va_sld hx hb hX hbl hbA hS (inb_in hi_65) dL_law_383 ?_
                    refine lv_aload_n hx hb dL_law_384 rfl (lv_at hl 0 rfl) ?_
                    refine lv_iload_n hx hb dL_law_385 rfl (lv_at hl 3 rfl) ?_
                    refine lv_iconst (v := 2) hx hb dL_law_386 (by decide) ?_
                    refine lv_iadd hx hb dL_law_387 ?_
                    obtain ⟨hi_66, hf⟩ := g_in hf
                    refine va_sld hx hb hX hbl hbA hS (inb_in hi_66) dL_law_388 ?_
                    refine lv_aload_n hx hb dL_law_389 rfl (lv_at hl 0 rfl) ?_
                    refine lv_iload_n hx hb dL_law_390 rfl (lv_at hl 3 rfl) ?_
                    refine lv_iconst (v := 3) hx hb dL_law_391 (by decide) ?_
                    refine lv_iadd hx hb dL_law_392 ?_
                    obtain ⟨hi_67, hf⟩ := g_in hf
                    refine va_sld hx hb hX hbl hbA hS (inb_in hi_67) dL_law_393 ?_
                    obtain ⟨r_70, σ_69, hc_68, hf⟩ := g_bnd hf
                    refine q_calli (va_runV (As := [.int (xs (ix (x3 + 1))), .int (xs (ix (x3 + 2))), .int (xs (ix (x3 + 3)))]) (rest := [.int r_64]) ⟨hx, hb, hml, hown, hts⟩ (k_X12_at l z n D cy Y h_x2 hc_68) (cwV 3 hts gT_X12_at rfl rfl rfl (by decide +kernel) ⟨Nat.le_of_ble_eq_true rfl, Nat.le_of_ble_eq_true rfl⟩) (q_PV (T := TX12) (N := 57) hK hN hW h_x2 (by decide) rfl) rfl rfl hl.1 rfl (lv_room (Nat.le_of_ble_eq_true rfl)) dL_law_394 ⟨Nat.le_of_ble_eq_true rfl, Nat.le_of_ble_eq_true rfl⟩) hS (fun H locs hW hS => ?_)
                    refine lv_icmp_eq (tgt := 1115) hx hb dL_law_397 (by decide) (fun c => ?_) (fun c => ?_)
                    · have hf := g_pos c hf
                      exact B1115 k18 H18 x1 x2 x3 σ_69 h_x1 h_x2 hf _ _ _ hW hS (lv_sub hl [0, 1, 2, 3] rfl)
                    · have hf := g_neg c hf
                      refine lv_iconst (v := 0) hx hb dL_law_400 (by decide) ?_
                      exact absurd hf (by decide)
                  · have hf := g_neg c5 hf
                    by_cases c6 : ((xs (ix x3)) &&& 31) = 6
                    · have hf := g_pos c6 hf
                      refine q_tcase (k := 6) (off := 369) (tgt := 402) hx hb dL_law_33 c6 (by decide) (by decide) rfl (by decide) ?_
                      refine lv_aload_n hx hb dL_law_402 rfl (lv_at hl 1 rfl) ?_
                      refine lv_aload_n hx hb dL_law_403 rfl (lv_at hl 0 rfl) ?_
                      refine lv_iload_n hx hb dL_law_404 rfl (lv_at hl 3 rfl) ?_
                      refine lv_iconst (v := 1) hx hb dL_law_405 (by decide) ?_
                      refine lv_iadd hx hb dL_law_406 ?_
                      obtain ⟨hi_71, hf⟩ := g_in hf
                      refine va_sld hx hb hX hbl hbA hS (inb_in hi_71) dL_law_407 ?_
                      obtain ⟨r_74, σ_73, hc_72, hf⟩ := g_bnd hf
                      refine q_calli (va_runV (As := [.int (xs (ix (x3 + 1)))]) (rest := []) ⟨hx, hb, hml, hown, hts⟩ (k_X11_many l z n D cy Y h_x1 hc_72) (cwV 1 hts gT_X11_many rfl rfl rfl (by decide +kernel) ⟨Nat.le_of_ble_eq_true rfl, Nat.le_of_ble_eq_true rfl⟩) (q_PV (T := TX11) (N := 10) hK hN hW h_x1 (by decide) rfl) rfl rfl hl.1 rfl (lv_room (Nat.le_of_ble_eq_true rfl)) dL_law_408 ⟨Nat.le_of_ble_eq_true rfl, Nat.le_of_ble_eq_true rfl⟩) hS (fun H locs hW hS => ?_)
                      refine lv_aload_n hx hb dL_law_411 rfl (lv_at hl 2 rfl) ?_
                      refine lv_aload_n hx hb dL_law_412 rfl (lv_at hl 0 rfl) ?_
                      refine lv_iload_n hx hb dL_law_413 rfl (lv_at hl 3 rfl) ?_
                      refine lv_iconst (v := 1) hx hb dL_law_414 (by decide) ?_
                      refine lv_iadd hx hb dL_law_415 ?_
                      obtain ⟨hi_75, hf⟩ := g_in hf
                      refine va_sld hx hb hX hbl hbA hS (inb_in hi_75) dL_law_416 ?_
                      obtain ⟨r_78, σ_77, hc_76, hf⟩ := g_bnd hf
                      refine q_calli (va_runV (As := [.int (xs (ix (x3 + 1)))]) (rest := [.int r_74]) ⟨hx, hb, hml, hown, hts⟩ (k_X12_many l z n D cy Y h_x2 hc_76) (cwV 1 hts gT_X12_many rfl rfl rfl (by decide +kernel) ⟨Nat.le_of_ble_eq_true rfl, Nat.le_of_ble_eq_true rfl⟩) (q_PV (T := TX12) (N := 57) hK hN hW h_x2 (by decide) rfl) rfl rfl hl.1 rfl (lv_room (Nat.le_of_ble_eq_true rfl)) dL_law_417 ⟨Nat.le_of_ble_eq_true rfl, Nat.le_of_ble_eq_true rfl⟩) hS (fun H locs hW hS => ?_)
                      refine lv_icmp_eq (tgt := 1115) hx hb dL_law_420 (by decide) (fun c => ?_) (fun c => ?_)
                      · have hf := g_pos c hf
                        exact B1115 k18 H18 x1 x2 x3 σ_77 h_x1 h_x2 hf _ _ _ hW hS (lv_sub hl [0, 1, 2, 3] rfl)
                      · have hf := g_neg c hf
                        refine lv_iconst (v := 0) hx hb dL_law_423 (by decide) ?_
                        exact absurd hf (by decide)
                    · have hf := g_neg c6 hf
                      by_cases c7 : ((xs (ix x3)) &&& 31) = 7
                      · have hf := g_pos c7 hf
                        refine q_tcase (k := 7) (off := 392) (tgt := 425) hx hb dL_law_33 c7 (by decide) (by decide) rfl (by decide) ?_
                        refine lv_aload_n hx hb dL_law_425 rfl (lv_at hl 1 rfl) ?_
                        refine lv_aload_n hx hb dL_law_426 rfl (lv_at hl 0 rfl) ?_
                        refine lv_iload_n hx hb dL_law_427 rfl (lv_at hl 3 rfl) ?_
                        refine lv_iconst (v := 1) hx hb dL_law_428 (by decide) ?_
                        refine lv_iadd hx hb dL_law_429 ?_
                        obtain ⟨hi_79, hf⟩ := g_in hf
                        refine va_sld hx hb hX hbl hbA hS (inb_in hi_79) dL_law_430 ?_
                        refine lv_aload_n hx hb dL_law_431 rfl (lv_at hl 0 rfl) ?_
                        refine lv_iload_n hx hb dL_law_432 rfl (lv_at hl 3 rfl) ?_
                        refine lv_iconst (v := 2) hx hb dL_law_433 (by decide) ?_
                        refine lv_iadd hx hb dL_law_434 ?_
                        obtain ⟨hi_80, hf⟩ := g_in hf
                        refine va_sld hx hb hX hbl hbA hS (inb_in hi_80) dL_law_435 ?_
                        refine lv_i2l hx hb dL_law_436 rfl ?_
                        refine lv_bipush (v := 32) hx hb dL_law_437 (by decide) ?_
                        refine lv_lshl hx hb dL_law_439 rfl ?_
                        refine lv_aload_n hx hb dL_law_440 rfl (lv_at hl 0 rfl) ?_
                        refine lv_iload_n hx hb dL_law_441 rfl (lv_at hl 3 rfl) ?_
                        refine lv_iconst (v := 3) hx hb dL_law_442 (by decide) ?_
                        refine lv_iadd hx hb dL_law_443 ?_
                        obtain ⟨hi_81, hf⟩ := g_in hf
                        refine va_sld hx hb hX hbl hbA hS (inb_in hi_81) dL_law_444 ?_
                        refine lv_i2l hx hb dL_law_445 rfl ?_
                        refine lv_ldc2 hx hb hown hw0 dL_law_446 ?_
                        refine lv_land hx hb dL_law_449 ?_
                        refine lv_lor hx hb dL_law_450 ?_
                        obtain ⟨r_84, σ_83, hc_82, hf⟩ := g_bnd hf
                        refine q_calli (va_runV (As := [.int (xs (ix (x3 + 1))), .long (((Int32.toInt64 (xs (ix (x3 + 2)))) <<< (Int32.toInt64 32 &&& 63)) ||| ((Int32.toInt64 (xs (ix (x3 + 3)))) &&& 4294967295))]) (rest := []) ⟨hx, hb, hml, hown, hts⟩ (k_X11_write l z n D cy Y h_x1 hc_82) (cwV 2 hts gT_X11_write rfl rfl rfl (by decide +kernel) ⟨Nat.le_of_ble_eq_true rfl, Nat.le_of_ble_eq_true rfl⟩) (q_PV (T := TX11) (N := 10) hK hN hW h_x1 (by decide) rfl) rfl rfl hl.1 rfl (lv_room (Nat.le_of_ble_eq_true rfl)) dL_law_451 ⟨Nat.le_of_ble_eq_true rfl, Nat.le_of_ble_eq_true rfl⟩) hS (fun H locs hW hS => ?_)
                        refine lv_aload_n hx hb dL_law_454 rfl (lv_at hl 2 rfl) ?_
                        refine lv_aload_n hx hb dL_law_455 rfl (lv_at hl 0 rfl) ?_
                        refine lv_iload_n hx hb dL_law_456 rfl (lv_at hl 3 rfl) ?_
                        refine lv_iconst (v := 1) hx hb dL_law_457 (by decide) ?_
                        refine lv_iadd hx hb dL_law_458 ?_
                        obtain ⟨hi_85, hf⟩ := g_in hf
                        refine va_sld hx hb hX hbl hbA hS (inb_in hi_85) dL_law_459 ?_
                        refine lv_aload_n hx hb dL_law_460 rfl (lv_at hl 0 rfl) ?_
                        refine lv_iload_n hx hb dL_law_461 rfl (lv_at hl 3 rfl) ?_
                        refine lv_iconst (v := 2) hx hb dL_law_462 (by decide) ?_
                        refine lv_iadd hx hb dL_law_463 ?_
                        obtain ⟨hi_86, hf⟩ := g_in hf
                        refine va_sld hx hb hX hbl hbA hS (inb_in hi_86) dL_law_464 ?_
                        refine lv_i2l hx hb dL_law_465 rfl ?_
                        refine lv_bipush (v := 32) hx hb dL_law_466 (by decide) ?_
                        refine lv_lshl hx hb dL_law_468 rfl ?_
                        refine lv_aload_n hx hb dL_law_469 rfl (lv_at hl 0 rfl) ?_
                        refine lv_iload_n hx hb dL_law_470 rfl (lv_at hl 3 rfl) ?_
                        refine lv_iconst (v := 3) hx hb dL_law_471 (by decide) ?_
                        refine lv_iadd hx hb dL_law_472 ?_
                        obtain ⟨hi_87, hf⟩ := g_in hf
                        refine va_sld hx hb hX hbl hbA hS (inb_in hi_87) dL_law_473 ?_
                        refine lv_i2l hx hb dL_law_474 rfl ?_
                        refine lv_ldc2 hx hb hown hw0 dL_law_475 ?_
                        refine lv_land hx hb dL_law_478 ?_
                        refine lv_lor hx hb dL_law_479 ?_
                        obtain ⟨r_90, σ_89, hc_88, hf⟩ := g_bnd hf
                        refine q_calli (va_runV (As := [.int (xs (ix (x3 + 1))), .long (((Int32.toInt64 (xs (ix (x3 + 2)))) <<< (Int32.toInt64 32 &&& 63)) ||| ((Int32.toInt64 (xs (ix (x3 + 3)))) &&& 4294967295))]) (rest := [.int r_84]) ⟨hx, hb, hml, hown, hts⟩ (k_X12_write l z n D cy Y h_x2 hc_88) (cwV 2 hts gT_X12_write rfl rfl rfl (by decide +kernel) ⟨Nat.le_of_ble_eq_true rfl, Nat.le_of_ble_eq_true rfl⟩) (q_PV (T := TX12) (N := 57) hK hN hW h_x2 (by decide) rfl) rfl rfl hl.1 rfl (lv_room (Nat.le_of_ble_eq_true rfl)) dL_law_480 ⟨Nat.le_of_ble_eq_true rfl, Nat.le_of_ble_eq_true rfl⟩) hS (fun H locs hW hS => ?_)
                        refine lv_icmp_eq (tgt := 1115) hx hb dL_law_483 (by decide) (fun c => ?_) (fun c => ?_)
                        · have hf := g_pos c hf
                          exact B1115 k18 H18 x1 x2 x3 σ_89 h_x1 h_x2 hf _ _ _ hW hS (lv_sub hl [0, 1, 2, 3] rfl)
                        · have hf := g_neg c hf
                          refine lv_iconst (v := 0) hx hb dL_law_486 (by decide) ?_
                          exact absurd hf (by decide)
                      · have hf := g_neg c7 hf
                        by_cases c8 : ((xs (ix x3)) &&& 31) = 8
                        · have hf := g_pos c8 hf
                          refine q_tcase (k := 8) (off := 455) (tgt := 488) hx hb dL_law_33 c8 (by decide) (by decide) rfl (by decide) ?_
                          refine lv_aload_n hx hb dL_law_488 rfl (lv_at hl 1 rfl) ?_
                          obtain ⟨r_93, σ_92, hc_91, hf⟩ := g_bnd hf
                          refine q_calli (va_runV (As := []) (rest := []) ⟨hx, hb, hml, hown, hts⟩ (k_X11_wipe l z n D cy Y h_x1 hc_91) (cwV 0 hts gT_X11_wipe rfl rfl rfl (by decide +kernel) ⟨Nat.le_of_ble_eq_true rfl, Nat.le_of_ble_eq_true rfl⟩) (q_PV (T := TX11) (N := 10) hK hN hW h_x1 (by decide) rfl) rfl rfl hl.1 rfl (lv_room (Nat.le_of_ble_eq_true rfl)) dL_law_489 ⟨Nat.le_of_ble_eq_true rfl, Nat.le_of_ble_eq_true rfl⟩) hS (fun H locs hW hS => ?_)
                          refine lv_aload_n hx hb dL_law_492 rfl (lv_at hl 2 rfl) ?_
                          obtain ⟨r_96, σ_95, hc_94, hf⟩ := g_bnd hf
                          refine q_calli (va_runV (As := []) (rest := [.int r_93]) ⟨hx, hb, hml, hown, hts⟩ (k_X12_wipe l z n D cy Y h_x2 hc_94) (cwV 0 hts gT_X12_wipe rfl rfl rfl (by decide +kernel) ⟨Nat.le_of_ble_eq_true rfl, Nat.le_of_ble_eq_true rfl⟩) (q_PV (T := TX12) (N := 57) hK hN hW h_x2 (by decide) rfl) rfl rfl hl.1 rfl (lv_room (Nat.le_of_ble_eq_true rfl)) dL_law_493 ⟨Nat.le_of_ble_eq_true rfl, Nat.le_of_ble_eq_true rfl⟩) hS (fun H locs hW hS => ?_)
                          refine lv_icmp_eq (tgt := 1115) hx hb dL_law_496 (by decide) (fun c => ?_) (fun c => ?_)
                          · have hf := g_pos c hf
                            exact B1115 k18 H18 x1 x2 x3 σ_95 h_x1 h_x2 hf _ _ _ hW hS (lv_sub hl [0, 1, 2, 3] rfl)
                          · have hf := g_neg c hf
                            refine lv_iconst (v := 0) hx hb dL_law_499 (by decide) ?_
                            exact absurd hf (by decide)
                        · have hf := g_neg c8 hf
                          by_cases c9 : ((xs (ix x3)) &&& 31) = 9
                          · have hf := g_pos c9 hf
                            refine q_tcase (k := 9) (off := 468) (tgt := 501) hx hb dL_law_33 c9 (by decide) (by decide) rfl (by decide) ?_
                            refine lv_aload_n hx hb dL_law_501 rfl (lv_at hl 1 rfl) ?_
                            obtain ⟨r_99, σ_98, hc_97, hf⟩ := g_bnd hf
                            refine q_calli (va_runV (As := []) (rest := []) ⟨hx, hb, hml, hown, hts⟩ (k_X11_fault l z n D cy Y h_x1 hc_97) (cwV 0 hts gT_X11_fault rfl rfl rfl (by decide +kernel) ⟨Nat.le_of_ble_eq_true rfl, Nat.le_of_ble_eq_true rfl⟩) (q_PV (T := TX11) (N := 10) hK hN hW h_x1 (by decide) rfl) rfl rfl hl.1 rfl (lv_room (Nat.le_of_ble_eq_true rfl)) dL_law_502 ⟨Nat.le_of_ble_eq_true rfl, Nat.le_of_ble_eq_true rfl⟩) hS (fun H locs hW hS => ?_)
                            refine lv_aload_n hx hb dL_law_505 rfl (lv_at hl 2 rfl) ?_
                            obtain ⟨r_102, σ_101, hc_100, hf⟩ := g_bnd hf
                            refine q_calli (va_runV (As := []) (rest := [.int r_99]) ⟨hx, hb, hml, hown, hts⟩ (k_X12_fault l z n D cy Y h_x2 hc_100) (cwV 0 hts gT_X12_fault rfl rfl rfl (by decide +kernel) ⟨Nat.le_of_ble_eq_true rfl, Nat.le_of_ble_eq_true rfl⟩) (q_PV (T := TX12) (N := 57) hK hN hW h_x2 (by decide) rfl) rfl rfl hl.1 rfl (lv_room (Nat.le_of_ble_eq_true rfl)) dL_law_506 ⟨Nat.le_of_ble_eq_true rfl, Nat.le_of_ble_eq_true rfl⟩) hS (fun H locs hW hS => ?_)
                            refine lv_icmp_eq (tgt := 1115) hx hb dL_law_509 (by decide) (fun c => ?_) (fun c => ?_)
                            · have hf := g_pos c hf
                              exact B1115 k18 H18 x1 x2 x3 σ_101 h_x1 h_x2 hf _ _ _ hW hS (lv_sub hl [0, 1, 2, 3] rfl)
                            · have hf := g_neg c hf
                              refine lv_iconst (v := 0) hx hb dL_law_512 (by decide) ?_
                              exact absurd hf (by decide)
                          · have hf := g_neg c9 hf
                            by_cases c10 : ((xs (ix x3)) &&& 31) = 10
                            · have hf := g_pos c10 hf
                              refine q_tcase (k := 10) (off := 481) (tgt := 514) hx hb dL_law_33 c10 (by decide) (by decide) rfl (by decide) ?_
                              refine lv_aload_n hx hb dL_law_514 rfl (lv_at hl 1 rfl) ?_
                              refine lv_aload_n hx hb dL_law_515 rfl (lv_at hl 0 rfl) ?_
                              refine lv_iload_n hx hb dL_law_516 rfl (lv_at hl 3 rfl) ?_
                              refine lv_iconst (v := 1) hx hb dL_law_517 (by decide) ?_
                              refine lv_iadd hx hb dL_law_518 ?_
                              obtain ⟨hi_103, hf⟩ := g_in hf
                              refine va_sld hx hb hX hbl hbA hS (inb_in hi_103) dL_law_519 ?_
                              obtain ⟨r_106, σ_105, hc_104, hf⟩ := g_bnd hf
                              refine q_calli (va_runV (As := [.int (xs (ix (x3 + 1)))]) (rest := []) ⟨hx, hb, hml, hown, hts⟩ (k_X11_model l z n D cy Y h_x1 hc_104) (cwV 1 hts gT_X11_model rfl rfl rfl (by decide +kernel) ⟨Nat.le_of_ble_eq_true rfl, Nat.le_of_ble_eq_true rfl⟩) (q_PV (T := TX11) (N := 10) hK hN hW h_x1 (by decide) rfl) rfl rfl hl.1 rfl (lv_room (Nat.le_of_ble_eq_true rfl)) dL_law_520 ⟨Nat.le_of_ble_eq_true rfl, Nat.le_of_ble_eq_true rfl⟩) hS (fun H locs hW hS => ?_)
                              refine lv_aload_n hx hb dL_law_523 rfl (lv_at hl 2 rfl) ?_
                              refine lv_aload_n hx hb dL_law_524 rfl (lv_at hl 0 rfl) ?_
                              refine lv_iload_n hx hb dL_law_525 rfl (lv_at hl 3 rfl) ?_
                              refine lv_iconst (v := 1) hx hb dL_law_526 (by decide) ?_
                              refine lv_iadd hx hb dL_law_527 ?_
                              obtain ⟨hi_107, hf⟩ := g_in hf
                              refine va_sld hx hb hX hbl hbA hS (inb_in hi_107) dL_law_528 ?_
                              obtain ⟨r_110, σ_109, hc_108, hf⟩ := g_bnd hf
                              refine q_calli (va_runV (As := [.int (xs (ix (x3 + 1)))]) (rest := [.int r_106]) ⟨hx, hb, hml, hown, hts⟩ (k_X12_model l z n D cy Y h_x2 hc_108) (cwV 1 hts gT_X12_model rfl rfl rfl (by decide +kernel) ⟨Nat.le_of_ble_eq_true rfl, Nat.le_of_ble_eq_true rfl⟩) (q_PV (T := TX12) (N := 57) hK hN hW h_x2 (by decide) rfl) rfl rfl hl.1 rfl (lv_room (Nat.le_of_ble_eq_true rfl)) dL_law_529 ⟨Nat.le_of_ble_eq_true rfl, Nat.le_of_ble_eq_true rfl⟩) hS (fun H locs hW hS => ?_)
                              refine lv_icmp_eq (tgt := 1115) hx hb dL_law_532 (by decide) (fun c => ?_) (fun c => ?_)
                              · have hf := g_pos c hf
                                exact B1115 k18 H18 x1 x2 x3 σ_109 h_x1 h_x2 hf _ _ _ hW hS (lv_sub hl [0, 1, 2, 3] rfl)
                              · have hf := g_neg c hf
                                refine lv_iconst (v := 0) hx hb dL_law_535 (by decide) ?_
                                exact absurd hf (by decide)
                            · have hf := g_neg c10 hf
                              by_cases c11 : ((xs (ix x3)) &&& 31) = 11
                              · have hf := g_pos c11 hf
                                refine q_tcase (k := 11) (off := 504) (tgt := 537) hx hb dL_law_33 c11 (by decide) (by decide) rfl (by decide) ?_
                                refine lv_aload_n hx hb dL_law_537 rfl (lv_at hl 1 rfl) ?_
                                refine lv_aload_n hx hb dL_law_538 rfl (lv_at hl 0 rfl) ?_
                                refine lv_iload_n hx hb dL_law_539 rfl (lv_at hl 3 rfl) ?_
                                refine lv_iconst (v := 1) hx hb dL_law_540 (by decide) ?_
                                refine lv_iadd hx hb dL_law_541 ?_
                                obtain ⟨hi_111, hf⟩ := g_in hf
                                refine va_sld hx hb hX hbl hbA hS (inb_in hi_111) dL_law_542 ?_
                                refine lv_aload_n hx hb dL_law_543 rfl (lv_at hl 0 rfl) ?_
                                refine lv_iload_n hx hb dL_law_544 rfl (lv_at hl 3 rfl) ?_
                                refine lv_iconst (v := 2) hx hb dL_law_545 (by decide) ?_
                                refine lv_iadd hx hb dL_law_546 ?_
                                obtain ⟨hi_112, hf⟩ := g_in hf
                                refine va_sld hx hb hX hbl hbA hS (inb_in hi_112) dL_law_547 ?_
                                obtain ⟨r_115, σ_114, hc_113, hf⟩ := g_bnd hf
                                refine q_calll (va_runV (As := [.int (xs (ix (x3 + 1))), .int (xs (ix (x3 + 2)))]) (rest := []) ⟨hx, hb, hml, hown, hts⟩ (k_X11_comes l z n D cy Y h_x1 hc_113) (cwV 2 hts gT_X11_comes rfl rfl rfl (by decide +kernel) ⟨Nat.le_of_ble_eq_true rfl, Nat.le_of_ble_eq_true rfl⟩) (q_PV (T := TX11) (N := 10) hK hN hW h_x1 (by decide) rfl) rfl rfl hl.1 rfl (lv_room (Nat.le_of_ble_eq_true rfl)) dL_law_548 ⟨Nat.le_of_ble_eq_true rfl, Nat.le_of_ble_eq_true rfl⟩) hS (fun H locs hW hS => ?_)
                                refine lv_aload_n hx hb dL_law_551 rfl (lv_at hl 2 rfl) ?_
                                refine lv_aload_n hx hb dL_law_552 rfl (lv_at hl 0 rfl) ?_
                                refine lv_iload_n hx hb dL_law_553 rfl (lv_at hl 3 rfl) ?_
                                refine lv_iconst (v := 1) hx hb dL_law_554 (by decide) ?_
                                refine lv_iadd hx hb dL_law_555 ?_
                                obtain ⟨hi_116, hf⟩ := g_in hf
                                refine va_sld hx hb hX hbl hbA hS (inb_in hi_116) dL_law_556 ?_
                                refine lv_aload_n hx hb dL_law_557 rfl (lv_at hl 0 rfl) ?_
                                refine lv_iload_n hx hb dL_law_558 rfl (lv_at hl 3 rfl) ?_
                                refine lv_iconst (v := 2) hx hb dL_law_559 (by decide) ?_
                                refine lv_iadd hx hb dL_law_560 ?_
                                obtain ⟨hi_117, hf⟩ := g_in hf
                                refine va_sld hx hb hX hbl hbA hS (inb_in hi_117) dL_law_561 ?_
                                obtain ⟨r_120, σ_119, hc_118, hf⟩ := g_bnd hf
                                refine q_calll (va_runV (As := [.int (xs (ix (x3 + 1))), .int (xs (ix (x3 + 2)))]) (rest := [.long r_115]) ⟨hx, hb, hml, hown, hts⟩ (k_X12_comes l z n D cy Y h_x2 hc_118) (cwV 2 hts gT_X12_comes rfl rfl rfl (by decide +kernel) ⟨Nat.le_of_ble_eq_true rfl, Nat.le_of_ble_eq_true rfl⟩) (q_PV (T := TX12) (N := 57) hK hN hW h_x2 (by decide) rfl) rfl rfl hl.1 rfl (lv_room (Nat.le_of_ble_eq_true rfl)) dL_law_562 ⟨Nat.le_of_ble_eq_true rfl, Nat.le_of_ble_eq_true rfl⟩) hS (fun H locs hW hS => ?_)
                                refine W.lcmp hx hb dL_law_565 ?_
                                refine lv_if_eq (tgt := 1115) hx hb dL_law_566 (by decide) (fun c => ?_) (fun c => ?_)
                                · have hf := g_pos ((lg_cmp_eq _ _).mp c) hf
                                  exact B1115 k18 H18 x1 x2 x3 σ_119 h_x1 h_x2 hf _ _ _ hW hS (lv_sub hl [0, 1, 2, 3] rfl)
                                · have hf := g_neg (fun h => c ((lg_cmp_eq _ _).mpr h)) hf
                                  refine lv_iconst (v := 0) hx hb dL_law_569 (by decide) ?_
                                  exact absurd hf (by decide)
                              · have hf := g_neg c11 hf
                                by_cases c12 : ((xs (ix x3)) &&& 31) = 12
                                · have hf := g_pos c12 hf
                                  refine q_tcase (k := 12) (off := 538) (tgt := 571) hx hb dL_law_33 c12 (by decide) (by decide) rfl (by decide) ?_
                                  refine lv_aload_n hx hb dL_law_571 rfl (lv_at hl 1 rfl) ?_
                                  refine lv_aload_n hx hb dL_law_572 rfl (lv_at hl 0 rfl) ?_
                                  refine lv_iload_n hx hb dL_law_573 rfl (lv_at hl 3 rfl) ?_
                                  refine lv_iconst (v := 1) hx hb dL_law_574 (by decide) ?_
                                  refine lv_iadd hx hb dL_law_575 ?_
                                  obtain ⟨hi_121, hf⟩ := g_in hf
                                  refine va_sld hx hb hX hbl hbA hS (inb_in hi_121) dL_law_576 ?_
                                  refine lv_aload_n hx hb dL_law_577 rfl (lv_at hl 0 rfl) ?_
                                  refine lv_iload_n hx hb dL_law_578 rfl (lv_at hl 3 rfl) ?_
                                  refine lv_iconst (v := 2) hx hb dL_law_579 (by decide) ?_
                                  refine lv_iadd hx hb dL_law_580 ?_
                                  obtain ⟨hi_122, hf⟩ := g_in hf
                                  refine va_sld hx hb hX hbl hbA hS (inb_in hi_122) dL_law_581 ?_
                                  obtain ⟨r_125, σ_124, hc_123, hf⟩ := g_bnd hf
                                  refine q_calli (va_runV (As := [.int (xs (ix (x3 + 1))), .int (xs (ix (x3 + 2)))]) (rest := []) ⟨hx, hb, hml, hown, hts⟩ (k_X11_residue l z n D cy Y h_x1 hc_123) (cwV 2 hts gT_X11_residue rfl rfl rfl (by decide +kernel) ⟨Nat.le_of_ble_eq_true rfl, Nat.le_of_ble_eq_true rfl⟩) (q_PV (T := TX11) (N := 10) hK hN hW h_x1 (by decide) rfl) rfl rfl hl.1 rfl (lv_room (Nat.le_of_ble_eq_true rfl)) dL_law_582 ⟨Nat.le_of_ble_eq_true rfl, Nat.le_of_ble_eq_true rfl⟩) hS (fun H locs hW hS => ?_)
                                  refine lv_aload_n hx hb dL_law_585 rfl (lv_at hl 2 rfl) ?_
                                  refine lv_aload_n hx hb dL_law_586 rfl (lv_at hl 0 rfl) ?_
                                  refine lv_iload_n hx hb dL_law_587 rfl (lv_at hl 3 rfl) ?_
                                  refine lv_iconst (v := 1) hx hb dL_law_588 (by decide) ?_
                                  refine lv_iadd hx hb dL_law_589 ?_
                                  obtain ⟨hi_126, hf⟩ := g_in hf
                                  refine va_sld hx hb hX hbl hbA hS (inb_in hi_126) dL_law_590 ?_
                                  refine lv_aload_n hx hb dL_law_591 rfl (lv_at hl 0 rfl) ?_
                                  refine lv_iload_n hx hb dL_law_592 rfl (lv_at hl 3 rfl) ?_
                                  refine lv_iconst (v := 2) hx hb dL_law_593 (by decide) ?_
                                  refine lv_iadd hx hb dL_law_594 ?_
                                  obtain ⟨hi_127, hf⟩ := g_in hf
                                  refine va_sld hx hb hX hbl hbA hS (inb_in hi_127) dL_law_595 ?_
                                  obtain ⟨r_130, σ_129, hc_128, hf⟩ := g_bnd hf
                                  refine q_calli (va_runV (As := [.int (xs (ix (x3 + 1))), .int (xs (ix (x3 + 2)))]) (rest := [.int r_125]) ⟨hx, hb, hml, hown, hts⟩ (k_X12_residue l z n D cy Y h_x2 hc_128) (cwV 2 hts gT_X12_residue rfl rfl rfl (by decide +kernel) ⟨Nat.le_of_ble_eq_true rfl, Nat.le_of_ble_eq_true rfl⟩) (q_PV (T := TX12) (N := 57) hK hN hW h_x2 (by decide) rfl) rfl rfl hl.1 rfl (lv_room (Nat.le_of_ble_eq_true rfl)) dL_law_596 ⟨Nat.le_of_ble_eq_true rfl, Nat.le_of_ble_eq_true rfl⟩) hS (fun H locs hW hS => ?_)
                                  refine lv_icmp_eq (tgt := 1115) hx hb dL_law_599 (by decide) (fun c => ?_) (fun c => ?_)
                                  · have hf := g_pos c hf
                                    exact B1115 k18 H18 x1 x2 x3 σ_129 h_x1 h_x2 hf _ _ _ hW hS (lv_sub hl [0, 1, 2, 3] rfl)
                                  · have hf := g_neg c hf
                                    refine lv_iconst (v := 0) hx hb dL_law_602 (by decide) ?_
                                    exact absurd hf (by decide)
                                · have hf := g_neg c12 hf
                                  by_cases c13 : ((xs (ix x3)) &&& 31) = 13
                                  · have hf := g_pos c13 hf
                                    refine q_tcase (k := 13) (off := 571) (tgt := 604) hx hb dL_law_33 c13 (by decide) (by decide) rfl (by decide) ?_
                                    refine lv_aload_n hx hb dL_law_604 rfl (lv_at hl 1 rfl) ?_
                                    refine lv_aload_n hx hb dL_law_605 rfl (lv_at hl 0 rfl) ?_
                                    refine lv_iload_n hx hb dL_law_606 rfl (lv_at hl 3 rfl) ?_
                                    refine lv_iconst (v := 1) hx hb dL_law_607 (by decide) ?_
                                    refine lv_iadd hx hb dL_law_608 ?_
                                    obtain ⟨hi_131, hf⟩ := g_in hf
                                    refine va_sld hx hb hX hbl hbA hS (inb_in hi_131) dL_law_609 ?_
                                    refine lv_aload_n hx hb dL_law_610 rfl (lv_at hl 0 rfl) ?_
                                    refine lv_iload_n hx hb dL_law_611 rfl (lv_at hl 3 rfl) ?_
                                    refine lv_iconst (v := 2) hx hb dL_law_612 (by decide) ?_
                                    refine lv_iadd hx hb dL_law_613 ?_
                                    obtain ⟨hi_132, hf⟩ := g_in hf
                                    refine va_sld hx hb hX hbl hbA hS (inb_in hi_132) dL_law_614 ?_
                                    obtain ⟨r_135, σ_134, hc_133, hf⟩ := g_bnd hf
                                    refine q_calli (va_runV (As := [.int (xs (ix (x3 + 1))), .int (xs (ix (x3 + 2)))]) (rest := []) ⟨hx, hb, hml, hown, hts⟩ (k_X11_turn l z n D cy Y h_x1 hc_133) (cwV 2 hts gT_X11_turn rfl rfl rfl (by decide +kernel) ⟨Nat.le_of_ble_eq_true rfl, Nat.le_of_ble_eq_true rfl⟩) (q_PV (T := TX11) (N := 10) hK hN hW h_x1 (by decide) rfl) rfl rfl hl.1 rfl (lv_room (Nat.le_of_ble_eq_true rfl)) dL_law_615 ⟨Nat.le_of_ble_eq_true rfl, Nat.le_of_ble_eq_true rfl⟩) hS (fun H locs hW hS => ?_)
                                    refine lv_aload_n hx hb dL_law_618 rfl (lv_at hl 2 rfl) ?_
                                    refine lv_aload_n hx hb dL_law_619 rfl (lv_at hl 0 rfl) ?_
                                    refine lv_iload_n hx hb dL_law_620 rfl (lv_at hl 3 rfl) ?_
                                    refine lv_iconst (v := 1) hx hb dL_law_621 (by decide) ?_
                                    refine lv_iadd hx hb dL_law_622 ?_
                                    obtain ⟨hi_136, hf⟩ := g_in hf
                                    refine va_sld hx hb hX hbl hbA hS (inb_in hi_136) dL_law_623 ?_
                                    refine lv_aload_n hx hb dL_law_624 rfl (lv_at hl 0 rfl) ?_
                                    refine lv_iload_n hx hb dL_law_625 rfl (lv_at hl 3 rfl) ?_
                                    refine lv_iconst (v := 2) hx hb dL_law_626 (by decide) ?_
                                    refine lv_iadd hx hb dL_law_627 ?_
                                    obtain ⟨hi_137, hf⟩ := g_in hf
                                    refine va_sld hx hb hX hbl hbA hS (inb_in hi_137) dL_law_628 ?_
                                    obtain ⟨r_140, σ_139, hc_138, hf⟩ := g_bnd hf
                                    refine q_calli (va_runV (As := [.int (xs (ix (x3 + 1))), .int (xs (ix (x3 + 2)))]) (rest := [.int r_135]) ⟨hx, hb, hml, hown, hts⟩ (k_X12_turn l z n D cy Y h_x2 hc_138) (cwV 2 hts gT_X12_turn rfl rfl rfl (by decide +kernel) ⟨Nat.le_of_ble_eq_true rfl, Nat.le_of_ble_eq_true rfl⟩) (q_PV (T := TX12) (N := 57) hK hN hW h_x2 (by decide) rfl) rfl rfl hl.1 rfl (lv_room (Nat.le_of_ble_eq_true rfl)) dL_law_629 ⟨Nat.le_of_ble_eq_true rfl, Nat.le_of_ble_eq_true rfl⟩) hS (fun H locs hW hS => ?_)
                                    refine lv_icmp_eq (tgt := 1115) hx hb dL_law_632 (by decide) (fun c => ?_) (fun c => ?_)
                                    · have hf := g_pos c hf
                                      exact B1115 k18 H18 x1 x2 x3 σ_139 h_x1 h_x2 hf _ _ _ hW hS (lv_sub hl [0, 1, 2, 3] rfl)
                                    · have hf := g_neg c hf
                                      refine lv_iconst (v := 0) hx hb dL_law_635 (by decide) ?_
                                      exact absurd hf (by decide)
                                  · have hf := g_neg c13 hf
                                    by_cases c14 : ((xs (ix x3)) &&& 31) = 14
                                    · have hf := g_pos c14 hf
                                      refine q_tcase (k := 14) (off := 604) (tgt := 637) hx hb dL_law_33 c14 (by decide) (by decide) rfl (by decide) ?_
                                      refine lv_aload_n hx hb dL_law_637 rfl (lv_at hl 1 rfl) ?_
                                      refine lv_aload_n hx hb dL_law_638 rfl (lv_at hl 0 rfl) ?_
                                      refine lv_iload_n hx hb dL_law_639 rfl (lv_at hl 3 rfl) ?_
                                      refine lv_iconst (v := 1) hx hb dL_law_640 (by decide) ?_
                                      refine lv_iadd hx hb dL_law_641 ?_
                                      obtain ⟨hi_141, hf⟩ := g_in hf
                                      refine va_sld hx hb hX hbl hbA hS (inb_in hi_141) dL_law_642 ?_
                                      refine lv_aload_n hx hb dL_law_643 rfl (lv_at hl 0 rfl) ?_
                                      refine lv_iload_n hx hb dL_law_644 rfl (lv_at hl 3 rfl) ?_
                                      refine lv_iconst (v := 2) hx hb dL_law_645 (by decide) ?_
                                      refine lv_iadd hx hb dL_law_646 ?_
                                      obtain ⟨hi_142, hf⟩ := g_in hf
                                      refine va_sld hx hb hX hbl hbA hS (inb_in hi_142) dL_law_647 ?_
                                      refine lv_aload_n hx hb dL_law_648 rfl (lv_at hl 0 rfl) ?_
                                      refine lv_iload_n hx hb dL_law_649 rfl (lv_at hl 3 rfl) ?_
                                      refine lv_iconst (v := 3) hx hb dL_law_650 (by decide) ?_
                                      refine lv_iadd hx hb dL_law_651 ?_
                                      obtain ⟨hi_143, hf⟩ := g_in hf
                                      refine va_sld hx hb hX hbl hbA hS (inb_in hi_143) dL_law_652 ?_
                                      obtain ⟨r_146, σ_145, hc_144, hf⟩ := g_bnd hf
                                      refine q_calli (va_runV (As := [.int (xs (ix (x3 + 1))), .int (xs (ix (x3 + 2))), .int (xs (ix (x3 + 3)))]) (rest := []) ⟨hx, hb, hml, hown, hts⟩ (k_X11_ways l z n D cy Y h_x1 hc_144) (cwV 3 hts gT_X11_ways rfl rfl rfl (by decide +kernel) ⟨Nat.le_of_ble_eq_true rfl, Nat.le_of_ble_eq_true rfl⟩) (q_PV (T := TX11) (N := 10) hK hN hW h_x1 (by decide) rfl) rfl rfl hl.1 rfl (lv_room (Nat.le_of_ble_eq_true rfl)) dL_law_653 ⟨Nat.le_of_ble_eq_true rfl, Nat.le_of_ble_eq_true rfl⟩) hS (fun H locs hW hS => ?_)
                                      refine lv_aload_n hx hb dL_law_656 rfl (lv_at hl 2 rfl) ?_
                                      refine lv_aload_n hx hb dL_law_657 rfl (lv_at hl 0 rfl) ?_
                                      refine lv_iload_n hx hb dL_law_658 rfl (lv_at hl 3 rfl) ?_
                                      refine lv_iconst (v := 1) hx hb dL_law_659 (by decide) ?_
                                      refine lv_iadd hx hb dL_law_660 ?_
                                      obtain ⟨hi_147, hf⟩ := g_in hf
                                      refine va_sld hx hb hX hbl hbA hS (inb_in hi_147) dL_law_661 ?_
                                      refine lv_aload_n hx hb dL_law_662 rfl (lv_at hl 0 rfl) ?_
                                      refine lv_iload_n hx hb dL_law_663 rfl (lv_at hl 3 rfl) ?_
                                      refine lv_iconst (v := 2) hx hb dL_law_664 (by decide) ?_
                                      refine lv_iadd hx hb dL_law_665 ?_
                                      obtain ⟨hi_148, hf⟩ := g_in hf
                                      refine va_sld hx hb hX hbl hbA hS (inb_in hi_148) dL_law_666 ?_
                                      refine lv_aload_n hx hb dL_law_667 rfl (lv_at hl 0 rfl) ?_
                                      refine lv_iload_n hx hb dL_law_668 rfl (lv_at hl 3 rfl) ?_
                                      refine lv_iconst (v := 3) hx hb dL_law_669 (by decide) ?_
                                      refine lv_iadd hx hb dL_law_670 ?_
                                      obtain ⟨hi_149, hf⟩ := g_in hf
                                      refine va_sld hx hb hX hbl hbA hS (inb_in hi_149) dL_law_671 ?_
                                      obtain ⟨r_152, σ_151, hc_150, hf⟩ := g_bnd hf
                                      refine q_calli (va_runV (As := [.int (xs (ix (x3 + 1))), .int (xs (ix (x3 + 2))), .int (xs (ix (x3 + 3)))]) (rest := [.int r_146]) ⟨hx, hb, hml, hown, hts⟩ (k_X12_ways l z n D cy Y h_x2 hc_150) (cwV 3 hts gT_X12_ways rfl rfl rfl (by decide +kernel) ⟨Nat.le_of_ble_eq_true rfl, Nat.le_of_ble_eq_true rfl⟩) (q_PV (T := TX12) (N := 57) hK hN hW h_x2 (by decide) rfl) rfl rfl hl.1 rfl (lv_room (Nat.le_of_ble_eq_true rfl)) dL_law_672 ⟨Nat.le_of_ble_eq_true rfl, Nat.le_of_ble_eq_true rfl⟩) hS (fun H locs hW hS => ?_)
                                      refine lv_icmp_eq (tgt := 1115) hx hb dL_law_675 (by decide) (fun c => ?_) (fun c => ?_)
                                      · have hf := g_pos c hf
                                        exact B1115 k18 H18 x1 x2 x3 σ_151 h_x1 h_x2 hf _ _ _ hW hS (lv_sub hl [0, 1, 2, 3] rfl)
                                      · have hf := g_neg c hf
                                        refine lv_iconst (v := 0) hx hb dL_law_678 (by decide) ?_
                                        exact absurd hf (by decide)
                                    · have hf := g_neg c14 hf
                                      by_cases c15 : ((xs (ix x3)) &&& 31) = 15
                                      · have hf := g_pos c15 hf
                                        refine q_tcase (k := 15) (off := 647) (tgt := 680) hx hb dL_law_33 c15 (by decide) (by decide) rfl (by decide) ?_
                                        refine lv_aload_n hx hb dL_law_680 rfl (lv_at hl 1 rfl) ?_
                                        refine lv_aload_n hx hb dL_law_681 rfl (lv_at hl 0 rfl) ?_
                                        refine lv_iload_n hx hb dL_law_682 rfl (lv_at hl 3 rfl) ?_
                                        refine lv_iconst (v := 1) hx hb dL_law_683 (by decide) ?_
                                        refine lv_iadd hx hb dL_law_684 ?_
                                        obtain ⟨hi_153, hf⟩ := g_in hf
                                        refine va_sld hx hb hX hbl hbA hS (inb_in hi_153) dL_law_685 ?_
                                        refine lv_aload_n hx hb dL_law_686 rfl (lv_at hl 0 rfl) ?_
                                        refine lv_iload_n hx hb dL_law_687 rfl (lv_at hl 3 rfl) ?_
                                        refine lv_iconst (v := 2) hx hb dL_law_688 (by decide) ?_
                                        refine lv_iadd hx hb dL_law_689 ?_
                                        obtain ⟨hi_154, hf⟩ := g_in hf
                                        refine va_sld hx hb hX hbl hbA hS (inb_in hi_154) dL_law_690 ?_
                                        obtain ⟨r_157, σ_156, hc_155, hf⟩ := g_bnd hf
                                        refine q_calli (va_runV (As := [.int (xs (ix (x3 + 1))), .int (xs (ix (x3 + 2)))]) (rest := []) ⟨hx, hb, hml, hown, hts⟩ (k_X11_way l z n D cy Y h_x1 hc_155) (cwV 2 hts gT_X11_way rfl rfl rfl (by decide +kernel) ⟨Nat.le_of_ble_eq_true rfl, Nat.le_of_ble_eq_true rfl⟩) (q_PV (T := TX11) (N := 10) hK hN hW h_x1 (by decide) rfl) rfl rfl hl.1 rfl (lv_room (Nat.le_of_ble_eq_true rfl)) dL_law_691 ⟨Nat.le_of_ble_eq_true rfl, Nat.le_of_ble_eq_true rfl⟩) hS (fun H locs hW hS => ?_)
                                        refine lv_aload_n hx hb dL_law_694 rfl (lv_at hl 2 rfl) ?_
                                        refine lv_aload_n hx hb dL_law_695 rfl (lv_at hl 0 rfl) ?_
                                        refine lv_iload_n hx hb dL_law_696 rfl (lv_at hl 3 rfl) ?_
                                        refine lv_iconst (v := 1) hx hb dL_law_697 (by decide) ?_
                                        refine lv_iadd hx hb dL_law_698 ?_
                                        obtain ⟨hi_158, hf⟩ := g_in hf
                                        refine va_sld hx hb hX hbl hbA hS (inb_in hi_158) dL_law_699 ?_
                                        refine lv_aload_n hx hb dL_law_700 rfl (lv_at hl 0 rfl) ?_
                                        refine lv_iload_n hx hb dL_law_701 rfl (lv_at hl 3 rfl) ?_
                                        refine lv_iconst (v := 2) hx hb dL_law_702 (by decide) ?_
                                        refine lv_iadd hx hb dL_law_703 ?_
                                        obtain ⟨hi_159, hf⟩ := g_in hf
                                        refine va_sld hx hb hX hbl hbA hS (inb_in hi_159) dL_law_704 ?_
                                        obtain ⟨r_162, σ_161, hc_160, hf⟩ := g_bnd hf
                                        refine q_calli (va_runV (As := [.int (xs (ix (x3 + 1))), .int (xs (ix (x3 + 2)))]) (rest := [.int r_157]) ⟨hx, hb, hml, hown, hts⟩ (k_X12_way l z n D cy Y h_x2 hc_160) (cwV 2 hts gT_X12_way rfl rfl rfl (by decide +kernel) ⟨Nat.le_of_ble_eq_true rfl, Nat.le_of_ble_eq_true rfl⟩) (q_PV (T := TX12) (N := 57) hK hN hW h_x2 (by decide) rfl) rfl rfl hl.1 rfl (lv_room (Nat.le_of_ble_eq_true rfl)) dL_law_705 ⟨Nat.le_of_ble_eq_true rfl, Nat.le_of_ble_eq_true rfl⟩) hS (fun H locs hW hS => ?_)
                                        refine lv_icmp_eq (tgt := 1115) hx hb dL_law_708 (by decide) (fun c => ?_) (fun c => ?_)
                                        · have hf := g_pos c hf
                                          exact B1115 k18 H18 x1 x2 x3 σ_161 h_x1 h_x2 hf _ _ _ hW hS (lv_sub hl [0, 1, 2, 3] rfl)
                                        · have hf := g_neg c hf
                                          refine lv_iconst (v := 0) hx hb dL_law_711 (by decide) ?_
                                          exact absurd hf (by decide)
                                      · have hf := g_neg c15 hf
                                        by_cases c16 : ((xs (ix x3)) &&& 31) = 16
                                        · have hf := g_pos c16 hf
                                          refine q_tcase (k := 16) (off := 680) (tgt := 713) hx hb dL_law_33 c16 (by decide) (by decide) rfl (by decide) ?_
                                          refine lv_aload_n hx hb dL_law_713 rfl (lv_at hl 1 rfl) ?_
                                          refine lv_aload_n hx hb dL_law_714 rfl (lv_at hl 0 rfl) ?_
                                          refine lv_iload_n hx hb dL_law_715 rfl (lv_at hl 3 rfl) ?_
                                          refine lv_iconst (v := 1) hx hb dL_law_716 (by decide) ?_
                                          refine lv_iadd hx hb dL_law_717 ?_
                                          obtain ⟨hi_163, hf⟩ := g_in hf
                                          refine va_sld hx hb hX hbl hbA hS (inb_in hi_163) dL_law_718 ?_
                                          obtain ⟨r_166, σ_165, hc_164, hf⟩ := g_bnd hf
                                          refine q_calli (va_runV (As := [.int (xs (ix (x3 + 1)))]) (rest := []) ⟨hx, hb, hml, hown, hts⟩ (k_X11_sure l z n D cy Y h_x1 hc_164) (cwV 1 hts gT_X11_sure rfl rfl rfl (by decide +kernel) ⟨Nat.le_of_ble_eq_true rfl, Nat.le_of_ble_eq_true rfl⟩) (q_PV (T := TX11) (N := 10) hK hN hW h_x1 (by decide) rfl) rfl rfl hl.1 rfl (lv_room (Nat.le_of_ble_eq_true rfl)) dL_law_719 ⟨Nat.le_of_ble_eq_true rfl, Nat.le_of_ble_eq_true rfl⟩) hS (fun H locs hW hS => ?_)
                                          refine lv_aload_n hx hb dL_law_722 rfl (lv_at hl 2 rfl) ?_
                                          refine lv_aload_n hx hb dL_law_723 rfl (lv_at hl 0 rfl) ?_
                                          refine lv_iload_n hx hb dL_law_724 rfl (lv_at hl 3 rfl) ?_
                                          refine lv_iconst (v := 1) hx hb dL_law_725 (by decide) ?_
                                          refine lv_iadd hx hb dL_law_726 ?_
                                          obtain ⟨hi_167, hf⟩ := g_in hf
                                          refine va_sld hx hb hX hbl hbA hS (inb_in hi_167) dL_law_727 ?_
                                          obtain ⟨r_170, σ_169, hc_168, hf⟩ := g_bnd hf
                                          refine q_calli (va_runV (As := [.int (xs (ix (x3 + 1)))]) (rest := [.int r_166]) ⟨hx, hb, hml, hown, hts⟩ (k_X12_sure l z n D cy Y h_x2 hc_168) (cwV 1 hts gT_X12_sure rfl rfl rfl (by decide +kernel) ⟨Nat.le_of_ble_eq_true rfl, Nat.le_of_ble_eq_true rfl⟩) (q_PV (T := TX12) (N := 57) hK hN hW h_x2 (by decide) rfl) rfl rfl hl.1 rfl (lv_room (Nat.le_of_ble_eq_true rfl)) dL_law_728 ⟨Nat.le_of_ble_eq_true rfl, Nat.le_of_ble_eq_true rfl⟩) hS (fun H locs hW hS => ?_)
                                          refine lv_icmp_eq (tgt := 1115) hx hb dL_law_731 (by decide) (fun c => ?_) (fun c => ?_)
                                          · have hf := g_pos c hf
                                            exact B1115 k18 H18 x1 x2 x3 σ_169 h_x1 h_x2 hf _ _ _ hW hS (lv_sub hl [0, 1, 2, 3] rfl)
                                          · have hf := g_neg c hf
                                            refine lv_iconst (v := 0) hx hb dL_law_734 (by decide) ?_
                                            exact absurd hf (by decide)
                                        · have hf := g_neg c16 hf
                                          by_cases c17 : ((xs (ix x3)) &&& 31) = 17
                                          · have hf := g_pos c17 hf
                                            refine q_tcase (k := 17) (off := 703) (tgt := 736) hx hb dL_law_33 c17 (by decide) (by decide) rfl (by decide) ?_
                                            refine lv_aload_n hx hb dL_law_736 rfl (lv_at hl 1 rfl) ?_
                                            refine lv_aload_n hx hb dL_law_737 rfl (lv_at hl 0 rfl) ?_
                                            refine lv_iload_n hx hb dL_law_738 rfl (lv_at hl 3 rfl) ?_
                                            refine lv_iconst (v := 1) hx hb dL_law_739 (by decide) ?_
                                            refine lv_iadd hx hb dL_law_740 ?_
                                            obtain ⟨hi_171, hf⟩ := g_in hf
                                            refine va_sld hx hb hX hbl hbA hS (inb_in hi_171) dL_law_741 ?_
                                            refine lv_aload_n hx hb dL_law_742 rfl (lv_at hl 0 rfl) ?_
                                            refine lv_iload_n hx hb dL_law_743 rfl (lv_at hl 3 rfl) ?_
                                            refine lv_iconst (v := 2) hx hb dL_law_744 (by decide) ?_
                                            refine lv_iadd hx hb dL_law_745 ?_
                                            obtain ⟨hi_172, hf⟩ := g_in hf
                                            refine va_sld hx hb hX hbl hbA hS (inb_in hi_172) dL_law_746 ?_
                                            obtain ⟨r_175, σ_174, hc_173, hf⟩ := g_bnd hf
                                            refine q_calll (va_runV (As := [.int (xs (ix (x3 + 1))), .int (xs (ix (x3 + 2)))]) (rest := []) ⟨hx, hb, hml, hown, hts⟩ (k_X11_fit l z n D cy Y h_x1 hc_173) (cwV 2 hts gT_X11_fit rfl rfl rfl (by decide +kernel) ⟨Nat.le_of_ble_eq_true rfl, Nat.le_of_ble_eq_true rfl⟩) (q_PV (T := TX11) (N := 10) hK hN hW h_x1 (by decide) rfl) rfl rfl hl.1 rfl (lv_room (Nat.le_of_ble_eq_true rfl)) dL_law_747 ⟨Nat.le_of_ble_eq_true rfl, Nat.le_of_ble_eq_true rfl⟩) hS (fun H locs hW hS => ?_)
                                            refine lv_aload_n hx hb dL_law_750 rfl (lv_at hl 2 rfl) ?_
                                            refine lv_aload_n hx hb dL_law_751 rfl (lv_at hl 0 rfl) ?_
                                            refine lv_iload_n hx hb dL_law_752 rfl (lv_at hl 3 rfl) ?_
                                            refine lv_iconst (v := 1) hx hb dL_law_753 (by decide) ?_
                                            refine lv_iadd hx hb dL_law_754 ?_
                                            obtain ⟨hi_176, hf⟩ := g_in hf
                                            refine va_sld hx hb hX hbl hbA hS (inb_in hi_176) dL_law_755 ?_
                                            refine lv_aload_n hx hb dL_law_756 rfl (lv_at hl 0 rfl) ?_
                                            refine lv_iload_n hx hb dL_law_757 rfl (lv_at hl 3 rfl) ?_
                                            refine lv_iconst (v := 2) hx hb dL_law_758 (by decide) ?_
                                            refine lv_iadd hx hb dL_law_759 ?_
                                            obtain ⟨hi_177, hf⟩ := g_in hf
                                            refine va_sld hx hb hX hbl hbA hS (inb_in hi_177) dL_law_760 ?_
                                            obtain ⟨r_180, σ_179, hc_178, hf⟩ := g_bnd hf
                                            refine q_calll (va_runV (As := [.int (xs (ix (x3 + 1))), .int (xs (ix (x3 + 2)))]) (rest := [.long r_175]) ⟨hx, hb, hml, hown, hts⟩ (k_X12_fit l z n D cy Y h_x2 hc_178) (cwV 2 hts gT_X12_fit rfl rfl rfl (by decide +kernel) ⟨Nat.le_of_ble_eq_true rfl, Nat.le_of_ble_eq_true rfl⟩) (q_PV (T := TX12) (N := 57) hK hN hW h_x2 (by decide) rfl) rfl rfl hl.1 rfl (lv_room (Nat.le_of_ble_eq_true rfl)) dL_law_761 ⟨Nat.le_of_ble_eq_true rfl, Nat.le_of_ble_eq_true rfl⟩) hS (fun H locs hW hS => ?_)
                                            refine W.lcmp hx hb dL_law_764 ?_
                                            refine lv_if_eq (tgt := 1115) hx hb dL_law_765 (by decide) (fun c => ?_) (fun c => ?_)
                                            · have hf := g_pos ((lg_cmp_eq _ _).mp c) hf
                                              exact B1115 k18 H18 x1 x2 x3 σ_179 h_x1 h_x2 hf _ _ _ hW hS (lv_sub hl [0, 1, 2, 3] rfl)
                                            · have hf := g_neg (fun h => c ((lg_cmp_eq _ _).mpr h)) hf
                                              refine lv_iconst (v := 0) hx hb dL_law_768 (by decide) ?_
                                              exact absurd hf (by decide)
                                          · have hf := g_neg c17 hf
                                            by_cases c18 : ((xs (ix x3)) &&& 31) = 18
                                            · have hf := g_pos c18 hf
                                              refine q_tcase (k := 18) (off := 737) (tgt := 770) hx hb dL_law_33 c18 (by decide) (by decide) rfl (by decide) ?_
                                              refine lv_aload_n hx hb dL_law_770 rfl (lv_at hl 1 rfl) ?_
                                              refine lv_aload_n hx hb dL_law_771 rfl (lv_at hl 0 rfl) ?_
                                              refine lv_iload_n hx hb dL_law_772 rfl (lv_at hl 3 rfl) ?_
                                              refine lv_iconst (v := 1) hx hb dL_law_773 (by decide) ?_
                                              refine lv_iadd hx hb dL_law_774 ?_
                                              obtain ⟨hi_181, hf⟩ := g_in hf
                                              refine va_sld hx hb hX hbl hbA hS (inb_in hi_181) dL_law_775 ?_
                                              refine lv_aload_n hx hb dL_law_776 rfl (lv_at hl 0 rfl) ?_
                                              refine lv_iload_n hx hb dL_law_777 rfl (lv_at hl 3 rfl) ?_
                                              refine lv_iconst (v := 2) hx hb dL_law_778 (by decide) ?_
                                              refine lv_iadd hx hb dL_law_779 ?_
                                              obtain ⟨hi_182, hf⟩ := g_in hf
                                              refine va_sld hx hb hX hbl hbA hS (inb_in hi_182) dL_law_780 ?_
                                              obtain ⟨r_185, σ_184, hc_183, hf⟩ := g_bnd hf
                                              refine q_calli (va_runV (As := [.int (xs (ix (x3 + 1))), .int (xs (ix (x3 + 2)))]) (rest := []) ⟨hx, hb, hml, hown, hts⟩ (k_X11_left l z n D cy Y h_x1 hc_183) (cwV 2 hts gT_X11_left rfl rfl rfl (by decide +kernel) ⟨Nat.le_of_ble_eq_true rfl, Nat.le_of_ble_eq_true rfl⟩) (q_PV (T := TX11) (N := 10) hK hN hW h_x1 (by decide) rfl) rfl rfl hl.1 rfl (lv_room (Nat.le_of_ble_eq_true rfl)) dL_law_781 ⟨Nat.le_of_ble_eq_true rfl, Nat.le_of_ble_eq_true rfl⟩) hS (fun H locs hW hS => ?_)
                                              refine lv_aload_n hx hb dL_law_784 rfl (lv_at hl 2 rfl) ?_
                                              refine lv_aload_n hx hb dL_law_785 rfl (lv_at hl 0 rfl) ?_
                                              refine lv_iload_n hx hb dL_law_786 rfl (lv_at hl 3 rfl) ?_
                                              refine lv_iconst (v := 1) hx hb dL_law_787 (by decide) ?_
                                              refine lv_iadd hx hb dL_law_788 ?_
                                              obtain ⟨hi_186, hf⟩ := g_in hf
                                              refine va_sld hx hb hX hbl hbA hS (inb_in hi_186) dL_law_789 ?_
                                              refine lv_aload_n hx hb dL_law_790 rfl (lv_at hl 0 rfl) ?_
                                              refine lv_iload_n hx hb dL_law_791 rfl (lv_at hl 3 rfl) ?_
                                              refine lv_iconst (v := 2) hx hb dL_law_792 (by decide) ?_
                                              refine lv_iadd hx hb dL_law_793 ?_
                                              obtain ⟨hi_187, hf⟩ := g_in hf
                                              refine va_sld hx hb hX hbl hbA hS (inb_in hi_187) dL_law_794 ?_
                                              obtain ⟨r_190, σ_189, hc_188, hf⟩ := g_bnd hf
                                              refine q_calli (va_runV (As := [.int (xs (ix (x3 + 1))), .int (xs (ix (x3 + 2)))]) (rest := [.int r_185]) ⟨hx, hb, hml, hown, hts⟩ (k_X12_left l z n D cy Y h_x2 hc_188) (cwV 2 hts gT_X12_left rfl rfl rfl (by decide +kernel) ⟨Nat.le_of_ble_eq_true rfl, Nat.le_of_ble_eq_true rfl⟩) (q_PV (T := TX12) (N := 57) hK hN hW h_x2 (by decide) rfl) rfl rfl hl.1 rfl (lv_room (Nat.le_of_ble_eq_true rfl)) dL_law_795 ⟨Nat.le_of_ble_eq_true rfl, Nat.le_of_ble_eq_true rfl⟩) hS (fun H locs hW hS => ?_)
                                              refine lv_icmp_eq (tgt := 1115) hx hb dL_law_798 (by decide) (fun c => ?_) (fun c => ?_)
                                              · have hf := g_pos c hf
                                                exact B1115 k18 H18 x1 x2 x3 σ_189 h_x1 h_x2 hf _ _ _ hW hS (lv_sub hl [0, 1, 2, 3] rfl)
                                              · have hf := g_neg c hf
                                                refine lv_iconst (v := 0) hx hb dL_law_801 (by decide) ?_
                                                exact absurd hf (by decide)
                                            · have hf := g_neg c18 hf
                                              by_cases c19 : ((xs (ix x3)) &&& 31) = 19
                                              · have hf := g_pos c19 hf
                                                refine q_tcase (k := 19) (off := 770) (tgt := 803) hx hb dL_law_33 c19 (by decide) (by decide) rfl (by decide) ?_
                                                refine lv_aload_n hx hb dL_law_803 rfl (lv_at hl 1 rfl) ?_
                                                refine lv_aload_n hx hb dL_law_804 rfl (lv_at hl 0 rfl) ?_
                                                refine lv_iload_n hx hb dL_law_805 rfl (lv_at hl 3 rfl) ?_
                                                refine lv_iconst (v := 1) hx hb dL_law_806 (by decide) ?_
                                                refine lv_iadd hx hb dL_law_807 ?_
                                                obtain ⟨hi_191, hf⟩ := g_in hf
                                                refine va_sld hx hb hX hbl hbA hS (inb_in hi_191) dL_law_808 ?_
                                                refine lv_aload_n hx hb dL_law_809 rfl (lv_at hl 0 rfl) ?_
                                                refine lv_iload_n hx hb dL_law_810 rfl (lv_at hl 3 rfl) ?_
                                                refine lv_iconst (v := 2) hx hb dL_law_811 (by decide) ?_
                                                refine lv_iadd hx hb dL_law_812 ?_
                                                obtain ⟨hi_192, hf⟩ := g_in hf
                                                refine va_sld hx hb hX hbl hbA hS (inb_in hi_192) dL_law_813 ?_
                                                refine lv_aload_n hx hb dL_law_814 rfl (lv_at hl 0 rfl) ?_
                                                refine lv_iload_n hx hb dL_law_815 rfl (lv_at hl 3 rfl) ?_
                                                refine lv_iconst (v := 3) hx hb dL_law_816 (by decide) ?_
                                                refine lv_iadd hx hb dL_law_817 ?_
                                                obtain ⟨hi_193, hf⟩ := g_in hf
                                                refine va_sld hx hb hX hbl hbA hS (inb_in hi_193) dL_law_818 ?_
                                                refine lv_aload_n hx hb dL_law_819 rfl (lv_at hl 0 rfl) ?_
                                                refine lv_iload_n hx hb dL_law_820 rfl (lv_at hl 3 rfl) ?_
                                                refine lv_iconst (v := 4) hx hb dL_law_821 (by decide) ?_
                                                refine lv_iadd hx hb dL_law_822 ?_
                                                obtain ⟨hi_194, hf⟩ := g_in hf
                                                refine va_sld hx hb hX hbl hbA hS (inb_in hi_194) dL_law_823 ?_
                                                obtain ⟨r_197, σ_196, hc_195, hf⟩ := g_bnd hf
                                                refine q_calli (va_runV (As := [.int (xs (ix (x3 + 1))), .int (xs (ix (x3 + 2))), .int (xs (ix (x3 + 3))), .int (xs (ix (x3 + 4)))]) (rest := []) ⟨hx, hb, hml, hown, hts⟩ (k_X11_look l z n D cy Y h_x1 hc_195) (cwV 4 hts gT_X11_look rfl rfl rfl (by decide +kernel) ⟨Nat.le_of_ble_eq_true rfl, Nat.le_of_ble_eq_true rfl⟩) (q_PV (T := TX11) (N := 10) hK hN hW h_x1 (by decide) rfl) rfl rfl hl.1 rfl (lv_room (Nat.le_of_ble_eq_true rfl)) dL_law_824 ⟨Nat.le_of_ble_eq_true rfl, Nat.le_of_ble_eq_true rfl⟩) hS (fun H locs hW hS => ?_)
                                                refine lv_aload_n hx hb dL_law_827 rfl (lv_at hl 2 rfl) ?_
                                                refine lv_aload_n hx hb dL_law_828 rfl (lv_at hl 0 rfl) ?_
                                                refine lv_iload_n hx hb dL_law_829 rfl (lv_at hl 3 rfl) ?_
                                                refine lv_iconst (v := 1) hx hb dL_law_830 (by decide) ?_
                                                refine lv_iadd hx hb dL_law_831 ?_
                                                obtain ⟨hi_198, hf⟩ := g_in hf
                                                refine va_sld hx hb hX hbl hbA hS (inb_in hi_198) dL_law_832 ?_
                                                refine lv_aload_n hx hb dL_law_833 rfl (lv_at hl 0 rfl) ?_
                                                refine lv_iload_n hx hb dL_law_834 rfl (lv_at hl 3 rfl) ?_
                                                refine lv_iconst (v := 2) hx hb dL_law_835 (by decide) ?_
                                                refine lv_iadd hx hb dL_law_836 ?_
                                                obtain ⟨hi_199, hf⟩ := g_in hf
                                                refine va_sld hx hb hX hbl hbA hS (inb_in hi_199) dL_law_837 ?_
                                                refine lv_aload_n hx hb dL_law_838 rfl (lv_at hl 0 rfl) ?_
                                                refine lv_iload_n hx hb dL_law_839 rfl (lv_at hl 3 rfl) ?_
                                                refine lv_iconst (v := 3) hx hb dL_law_840 (by decide) ?_
                                                refine lv_iadd hx hb dL_law_841 ?_
                                                obtain ⟨hi_200, hf⟩ := g_in hf
                                                refine va_sld hx hb hX hbl hbA hS (inb_in hi_200) dL_law_842 ?_
                                                refine lv_aload_n hx hb dL_law_843 rfl (lv_at hl 0 rfl) ?_
                                                refine lv_iload_n hx hb dL_law_844 rfl (lv_at hl 3 rfl) ?_
                                                refine lv_iconst (v := 4) hx hb dL_law_845 (by decide) ?_
                                                refine lv_iadd hx hb dL_law_846 ?_
                                                obtain ⟨hi_201, hf⟩ := g_in hf
                                                refine va_sld hx hb hX hbl hbA hS (inb_in hi_201) dL_law_847 ?_
                                                obtain ⟨r_204, σ_203, hc_202, hf⟩ := g_bnd hf
                                                refine q_calli (va_runV (As := [.int (xs (ix (x3 + 1))), .int (xs (ix (x3 + 2))), .int (xs (ix (x3 + 3))), .int (xs (ix (x3 + 4)))]) (rest := [.int r_197]) ⟨hx, hb, hml, hown, hts⟩ (k_X12_look l z n D cy Y h_x2 hc_202) (cwV 4 hts gT_X12_look rfl rfl rfl (by decide +kernel) ⟨Nat.le_of_ble_eq_true rfl, Nat.le_of_ble_eq_true rfl⟩) (q_PV (T := TX12) (N := 57) hK hN hW h_x2 (by decide) rfl) rfl rfl hl.1 rfl (lv_room (Nat.le_of_ble_eq_true rfl)) dL_law_848 ⟨Nat.le_of_ble_eq_true rfl, Nat.le_of_ble_eq_true rfl⟩) hS (fun H locs hW hS => ?_)
                                                refine lv_icmp_eq (tgt := 1115) hx hb dL_law_851 (by decide) (fun c => ?_) (fun c => ?_)
                                                · have hf := g_pos c hf
                                                  exact B1115 k18 H18 x1 x2 x3 σ_203 h_x1 h_x2 hf _ _ _ hW hS (lv_sub hl [0, 1, 2, 3] rfl)
                                                · have hf := g_neg c hf
                                                  refine lv_iconst (v := 0) hx hb dL_law_854 (by decide) ?_
                                                  exact absurd hf (by decide)
                                              · have hf := g_neg c19 hf
                                                by_cases c20 : ((xs (ix x3)) &&& 31) = 20
                                                · have hf := g_pos c20 hf
                                                  refine q_tcase (k := 20) (off := 823) (tgt := 856) hx hb dL_law_33 c20 (by decide) (by decide) rfl (by decide) ?_
                                                  refine lv_aload_n hx hb dL_law_856 rfl (lv_at hl 1 rfl) ?_
                                                  refine lv_aload_n hx hb dL_law_857 rfl (lv_at hl 0 rfl) ?_
                                                  refine lv_iload_n hx hb dL_law_858 rfl (lv_at hl 3 rfl) ?_
                                                  refine lv_iconst (v := 1) hx hb dL_law_859 (by decide) ?_
                                                  refine lv_iadd hx hb dL_law_860 ?_
                                                  obtain ⟨hi_205, hf⟩ := g_in hf
                                                  refine va_sld hx hb hX hbl hbA hS (inb_in hi_205) dL_law_861 ?_
                                                  obtain ⟨r_208, σ_207, hc_206, hf⟩ := g_bnd hf
                                                  refine q_calli (va_runV (As := [.int (xs (ix (x3 + 1)))]) (rest := []) ⟨hx, hb, hml, hown, hts⟩ (k_X11_slip l z n D cy Y h_x1 hc_206) (cwV 1 hts gT_X11_slip rfl rfl rfl (by decide +kernel) ⟨Nat.le_of_ble_eq_true rfl, Nat.le_of_ble_eq_true rfl⟩) (q_PV (T := TX11) (N := 10) hK hN hW h_x1 (by decide) rfl) rfl rfl hl.1 rfl (lv_room (Nat.le_of_ble_eq_true rfl)) dL_law_862 ⟨Nat.le_of_ble_eq_true rfl, Nat.le_of_ble_eq_true rfl⟩) hS (fun H locs hW hS => ?_)
                                                  refine lv_aload_n hx hb dL_law_865 rfl (lv_at hl 2 rfl) ?_
                                                  refine lv_aload_n hx hb dL_law_866 rfl (lv_at hl 0 rfl) ?_
                                                  refine lv_iload_n hx hb dL_law_867 rfl (lv_at hl 3 rfl) ?_
                                                  refine lv_iconst (v := 1) hx hb dL_law_868 (by decide) ?_
                                                  refine lv_iadd hx hb dL_law_869 ?_
                                                  obtain ⟨hi_209, hf⟩ := g_in hf
                                                  refine va_sld hx hb hX hbl hbA hS (inb_in hi_209) dL_law_870 ?_
                                                  obtain ⟨r_212, σ_211, hc_210, hf⟩ := g_bnd hf
                                                  refine q_calli (va_runV (As := [.int (xs (ix (x3 + 1)))]) (rest := [.int r_208]) ⟨hx, hb, hml, hown, hts⟩ (k_X12_slip l z n D cy Y h_x2 hc_210) (cwV 1 hts gT_X12_slip rfl rfl rfl (by decide +kernel) ⟨Nat.le_of_ble_eq_true rfl, Nat.le_of_ble_eq_true rfl⟩) (q_PV (T := TX12) (N := 57) hK hN hW h_x2 (by decide) rfl) rfl rfl hl.1 rfl (lv_room (Nat.le_of_ble_eq_true rfl)) dL_law_871 ⟨Nat.le_of_ble_eq_true rfl, Nat.le_of_ble_eq_true rfl⟩) hS (fun H locs hW hS => ?_)
                                                  refine lv_icmp_eq (tgt := 1115) hx hb dL_law_874 (by decide) (fun c => ?_) (fun c => ?_)
                                                  · have hf := g_pos c hf
                                                    exact B1115 k18 H18 x1 x2 x3 σ_211 h_x1 h_x2 hf _ _ _ hW hS (lv_sub hl [0, 1, 2, 3] rfl)
                                                  · have hf := g_neg c hf
                                                    refine lv_iconst (v := 0) hx hb dL_law_877 (by decide) ?_
                                                    exact absurd hf (by decide)
                                                · have hf := g_neg c20 hf
                                                  by_cases c21 : ((xs (ix x3)) &&& 31) = 21
                                                  · have hf := g_pos c21 hf
                                                    refine q_tcase (k := 21) (off := 846) (tgt := 879) hx hb dL_law_33 c21 (by decide) (by decide) rfl (by decide) ?_
                                                    refine lv_aload_n hx hb dL_law_879 rfl (lv_at hl 1 rfl) ?_
                                                    refine lv_aload_n hx hb dL_law_880 rfl (lv_at hl 0 rfl) ?_
                                                    refine lv_iload_n hx hb dL_law_881 rfl (lv_at hl 3 rfl) ?_
                                                    refine lv_iconst (v := 1) hx hb dL_law_882 (by decide) ?_
                                                    refine lv_iadd hx hb dL_law_883 ?_
                                                    obtain ⟨hi_213, hf⟩ := g_in hf
                                                    refine va_sld hx hb hX hbl hbA hS (inb_in hi_213) dL_law_884 ?_
                                                    obtain ⟨r_216, σ_215, hc_214, hf⟩ := g_bnd hf
                                                    refine q_calli (va_runV (As := [.int (xs (ix (x3 + 1)))]) (rest := []) ⟨hx, hb, hml, hown, hts⟩ (k_X11_falseShare l z n D cy Y h_x1 hc_214) (cwV 1 hts gT_X11_falseShare rfl rfl rfl (by decide +kernel) ⟨Nat.le_of_ble_eq_true rfl, Nat.le_of_ble_eq_true rfl⟩) (q_PV (T := TX11) (N := 10) hK hN hW h_x1 (by decide) rfl) rfl rfl hl.1 rfl (lv_room (Nat.le_of_ble_eq_true rfl)) dL_law_885 ⟨Nat.le_of_ble_eq_true rfl, Nat.le_of_ble_eq_true rfl⟩) hS (fun H locs hW hS => ?_)
                                                    refine lv_aload_n hx hb dL_law_888 rfl (lv_at hl 2 rfl) ?_
                                                    refine lv_aload_n hx hb dL_law_889 rfl (lv_at hl 0 rfl) ?_
                                                    refine lv_iload_n hx hb dL_law_890 rfl (lv_at hl 3 rfl) ?_
                                                    refine lv_iconst (v := 1) hx hb dL_law_891 (by decide) ?_
                                                    refine lv_iadd hx hb dL_law_892 ?_
                                                    obtain ⟨hi_217, hf⟩ := g_in hf
                                                    refine va_sld hx hb hX hbl hbA hS (inb_in hi_217) dL_law_893 ?_
                                                    obtain ⟨r_220, σ_219, hc_218, hf⟩ := g_bnd hf
                                                    refine q_calli (va_runV (As := [.int (xs (ix (x3 + 1)))]) (rest := [.int r_216]) ⟨hx, hb, hml, hown, hts⟩ (k_X12_falseShare l z n D cy Y h_x2 hc_218) (cwV 1 hts gT_X12_falseShare rfl rfl rfl (by decide +kernel) ⟨Nat.le_of_ble_eq_true rfl, Nat.le_of_ble_eq_true rfl⟩) (q_PV (T := TX12) (N := 57) hK hN hW h_x2 (by decide) rfl) rfl rfl hl.1 rfl (lv_room (Nat.le_of_ble_eq_true rfl)) dL_law_894 ⟨Nat.le_of_ble_eq_true rfl, Nat.le_of_ble_eq_true rfl⟩) hS (fun H locs hW hS => ?_)
                                                    refine lv_icmp_eq (tgt := 1115) hx hb dL_law_897 (by decide) (fun c => ?_) (fun c => ?_)
                                                    · have hf := g_pos c hf
                                                      exact B1115 k18 H18 x1 x2 x3 σ_219 h_x1 h_x2 hf _ _ _ hW hS (lv_sub hl [0, 1, 2, 3] rfl)
                                                    · have hf := g_neg c hf
                                                      refine lv_iconst (v := 0) hx hb dL_law_900 (by decide) ?_
                                                      exact absurd hf (by decide)
                                                  · have hf := g_neg c21 hf
                                                    by_cases c22 : ((xs (ix x3)) &&& 31) = 22
                                                    · have hf := g_pos c22 hf
                                                      refine q_tcase (k := 22) (off := 869) (tgt := 902) hx hb dL_law_33 c22 (by decide) (by decide) rfl (by decide) ?_
                                                      refine lv_aload_n hx hb dL_law_902 rfl (lv_at hl 1 rfl) ?_
                                                      refine lv_aload_n hx hb dL_law_903 rfl (lv_at hl 0 rfl) ?_
                                                      refine lv_iload_n hx hb dL_law_904 rfl (lv_at hl 3 rfl) ?_
                                                      refine lv_iconst (v := 1) hx hb dL_law_905 (by decide) ?_
                                                      refine lv_iadd hx hb dL_law_906 ?_
                                                      obtain ⟨hi_221, hf⟩ := g_in hf
                                                      refine va_sld hx hb hX hbl hbA hS (inb_in hi_221) dL_law_907 ?_
                                                      refine lv_aload_n hx hb dL_law_908 rfl (lv_at hl 0 rfl) ?_
                                                      refine lv_iload_n hx hb dL_law_909 rfl (lv_at hl 3 rfl) ?_
                                                      refine lv_iconst (v := 2) hx hb dL_law_910 (by decide) ?_
                                                      refine lv_iadd hx hb dL_law_911 ?_
                                                      obtain ⟨hi_222, hf⟩ := g_in hf
                                                      refine va_sld hx hb hX hbl hbA hS (inb_in hi_222) dL_law_912 ?_
                                                      obtain ⟨r_225, σ_224, hc_223, hf⟩ := g_bnd hf
                                                      refine q_calll (va_runV (As := [.int (xs (ix (x3 + 1))), .int (xs (ix (x3 + 2)))]) (rest := []) ⟨hx, hb, hml, hown, hts⟩ (k_X11_hum l z n D cy Y h_x1 hc_223) (cwV 2 hts gT_X11_hum rfl rfl rfl (by decide +kernel) ⟨Nat.le_of_ble_eq_true rfl, Nat.le_of_ble_eq_true rfl⟩) (q_PV (T := TX11) (N := 10) hK hN hW h_x1 (by decide) rfl) rfl rfl hl.1 rfl (lv_room (Nat.le_of_ble_eq_true rfl)) dL_law_913 ⟨Nat.le_of_ble_eq_true rfl, Nat.le_of_ble_eq_true rfl⟩) hS (fun H locs hW hS => ?_)
                                                      refine lv_aload_n hx hb dL_law_916 rfl (lv_at hl 2 rfl) ?_
                                                      refine lv_aload_n hx hb dL_law_917 rfl (lv_at hl 0 rfl) ?_
                                                      refine lv_iload_n hx hb dL_law_918 rfl (lv_at hl 3 rfl) ?_
                                                      refine lv_iconst (v := 1) hx hb dL_law_919 (by decide) ?_
                                                      refine lv_iadd hx hb dL_law_920 ?_
                                                      obtain ⟨hi_226, hf⟩ := g_in hf
                                                      refine va_sld hx hb hX hbl hbA hS (inb_in hi_226) dL_law_921 ?_
                                                      refine lv_aload_n hx hb dL_law_922 rfl (lv_at hl 0 rfl) ?_
                                                      refine lv_iload_n hx hb dL_law_923 rfl (lv_at hl 3 rfl) ?_
                                                      refine lv_iconst (v := 2) hx hb dL_law_924 (by decide) ?_
                                                      refine lv_iadd hx hb dL_law_925 ?_
                                                      obtain ⟨hi_227, hf⟩ := g_in hf
                                                      refine va_sld hx hb hX hbl hbA hS (inb_in hi_227) dL_law_926 ?_
                                                      obtain ⟨r_230, σ_229, hc_228, hf⟩ := g_bnd hf
                                                      refine q_calll (va_runV (As := [.int (xs (ix (x3 + 1))), .int (xs (ix (x3 + 2)))]) (rest := [.long r_225]) ⟨hx, hb, hml, hown, hts⟩ (k_X12_hum l z n D cy Y h_x2 hc_228) (cwV 2 hts gT_X12_hum rfl rfl rfl (by decide +kernel) ⟨Nat.le_of_ble_eq_true rfl, Nat.le_of_ble_eq_true rfl⟩) (q_PV (T := TX12) (N := 57) hK hN hW h_x2 (by decide) rfl) rfl rfl hl.1 rfl (lv_room (Nat.le_of_ble_eq_true rfl)) dL_law_927 ⟨Nat.le_of_ble_eq_true rfl, Nat.le_of_ble_eq_true rfl⟩) hS (fun H locs hW hS => ?_)
                                                      refine W.lcmp hx hb dL_law_930 ?_
                                                      refine lv_if_eq (tgt := 1115) hx hb dL_law_931 (by decide) (fun c => ?_) (fun c => ?_)
                                                      · have hf := g_pos ((lg_cmp_eq _ _).mp c) hf
                                                        exact B1115 k18 H18 x1 x2 x3 σ_229 h_x1 h_x2 hf _ _ _ hW hS (lv_sub hl [0, 1, 2, 3] rfl)
                                                      · have hf := g_neg (fun h => c ((lg_cmp_eq _ _).mpr h)) hf
                                                        refine lv_iconst (v := 0) hx hb dL_law_934 (by decide) ?_
                                                        exact absurd hf (by decide)
                                                    · have hf := g_neg c22 hf
                                                      by_cases c23 : ((xs (ix x3)) &&& 31) = 23
                                                      · have hf := g_pos c23 hf
                                                        refine q_tcase (k := 23) (off := 903) (tgt := 936) hx hb dL_law_33 c23 (by decide) (by decide) rfl (by decide) ?_
                                                        refine lv_aload_n hx hb dL_law_936 rfl (lv_at hl 1 rfl) ?_
                                                        refine lv_aload_n hx hb dL_law_937 rfl (lv_at hl 0 rfl) ?_
                                                        refine lv_iload_n hx hb dL_law_938 rfl (lv_at hl 3 rfl) ?_
                                                        refine lv_iconst (v := 1) hx hb dL_law_939 (by decide) ?_
                                                        refine lv_iadd hx hb dL_law_940 ?_
                                                        obtain ⟨hi_231, hf⟩ := g_in hf
                                                        refine va_sld hx hb hX hbl hbA hS (inb_in hi_231) dL_law_941 ?_
                                                        refine lv_aload_n hx hb dL_law_942 rfl (lv_at hl 0 rfl) ?_
                                                        refine lv_iload_n hx hb dL_law_943 rfl (lv_at hl 3 rfl) ?_
                                                        refine lv_iconst (v := 2) hx hb dL_law_944 (by decide) ?_
                                                        refine lv_iadd hx hb dL_law_945 ?_
                                                        obtain ⟨hi_232, hf⟩ := g_in hf
                                                        refine va_sld hx hb hX hbl hbA hS (inb_in hi_232) dL_law_946 ?_
                                                        obtain ⟨r_235, σ_234, hc_233, hf⟩ := g_bnd hf
                                                        refine q_calli (va_runV (As := [.int (xs (ix (x3 + 1))), .int (xs (ix (x3 + 2)))]) (rest := []) ⟨hx, hb, hml, hown, hts⟩ (k_X11_shuffled l z n D cy Y h_x1 hc_233) (cwV 2 hts gT_X11_shuffled rfl rfl rfl (by decide +kernel) ⟨Nat.le_of_ble_eq_true rfl, Nat.le_of_ble_eq_true rfl⟩) (q_PV (T := TX11) (N := 10) hK hN hW h_x1 (by decide) rfl) rfl rfl hl.1 rfl (lv_room (Nat.le_of_ble_eq_true rfl)) dL_law_947 ⟨Nat.le_of_ble_eq_true rfl, Nat.le_of_ble_eq_true rfl⟩) hS (fun H locs hW hS => ?_)
                                                        refine lv_aload_n hx hb dL_law_950 rfl (lv_at hl 2 rfl) ?_
                                                        refine lv_aload_n hx hb dL_law_951 rfl (lv_at hl 0 rfl) ?_
                                                        refine lv_iload_n hx hb dL_law_952 rfl (lv_at hl 3 rfl) ?_
                                                        refine lv_iconst (v := 1) hx hb dL_law_953 (by decide) ?_
                                                        refine lv_iadd hx hb dL_law_954 ?_
                                                        obtain ⟨hi_236, hf⟩ := g_in hf
                                                        refine va_sld hx hb hX hbl hbA hS (inb_in hi_236) dL_law_955 ?_
                                                        refine lv_aload_n hx hb dL_law_956 rfl (lv_at hl 0 rfl) ?_
                                                        refine lv_iload_n hx hb dL_law_957 rfl (lv_at hl 3 rfl) ?_
                                                        refine lv_iconst (v := 2) hx hb dL_law_958 (by decide) ?_
                                                        refine lv_iadd hx hb dL_law_959 ?_
                                                        obtain ⟨hi_237, hf⟩ := g_in hf
                                                        refine va_sld hx hb hX hbl hbA hS (inb_in hi_237) dL_law_960 ?_
                                                        obtain ⟨r_240, σ_239, hc_238, hf⟩ := g_bnd hf
                                                        refine q_calli (va_runV (As := [.int (xs (ix (x3 + 1))), .int (xs (ix (x3 + 2)))]) (rest := [.int r_235]) ⟨hx, hb, hml, hown, hts⟩ (k_X12_shuffled l z n D cy Y h_x2 hc_238) (cwV 2 hts gT_X12_shuffled rfl rfl rfl (by decide +kernel) ⟨Nat.le_of_ble_eq_true rfl, Nat.le_of_ble_eq_true rfl⟩) (q_PV (T := TX12) (N := 57) hK hN hW h_x2 (by decide) rfl) rfl rfl hl.1 rfl (lv_room (Nat.le_of_ble_eq_true rfl)) dL_law_961 ⟨Nat.le_of_ble_eq_true rfl, Nat.le_of_ble_eq_true rfl⟩) hS (fun H locs hW hS => ?_)
                                                        refine lv_icmp_eq (tgt := 1115) hx hb dL_law_964 (by decide) (fun c => ?_) (fun c => ?_)
                                                        · have hf := g_pos c hf
                                                          exact B1115 k18 H18 x1 x2 x3 σ_239 h_x1 h_x2 hf _ _ _ hW hS (lv_sub hl [0, 1, 2, 3] rfl)
                                                        · have hf := g_neg c hf
                                                          refine lv_iconst (v := 0) hx hb dL_law_967 (by decide) ?_
                                                          exact absurd hf (by decide)
                                                      · have hf := g_neg c23 hf
                                                        by_cases c24 : ((xs (ix x3)) &&& 31) = 24
                                                        · have hf := g_pos c24 hf
                                                          refine q_tcase (k := 24) (off := 936) (tgt := 969) hx hb dL_law_33 c24 (by decide) (by decide) rfl (by decide) ?_
                                                          refine lv_aload_n hx hb dL_law_969 rfl (lv_at hl 1 rfl) ?_
                                                          refine lv_aload_n hx hb dL_law_970 rfl (lv_at hl 0 rfl) ?_
                                                          refine lv_iload_n hx hb dL_law_971 rfl (lv_at hl 3 rfl) ?_
                                                          refine lv_iconst (v := 1) hx hb dL_law_972 (by decide) ?_
                                                          refine lv_iadd hx hb dL_law_973 ?_
                                                          obtain ⟨hi_241, hf⟩ := g_in hf
                                                          refine va_sld hx hb hX hbl hbA hS (inb_in hi_241) dL_law_974 ?_
                                                          refine lv_aload_n hx hb dL_law_975 rfl (lv_at hl 0 rfl) ?_
                                                          refine lv_iload_n hx hb dL_law_976 rfl (lv_at hl 3 rfl) ?_
                                                          refine lv_iconst (v := 2) hx hb dL_law_977 (by decide) ?_
                                                          refine lv_iadd hx hb dL_law_978 ?_
                                                          obtain ⟨hi_242, hf⟩ := g_in hf
                                                          refine va_sld hx hb hX hbl hbA hS (inb_in hi_242) dL_law_979 ?_
                                                          obtain ⟨r_245, σ_244, hc_243, hf⟩ := g_bnd hf
                                                          refine q_calli (va_runV (As := [.int (xs (ix (x3 + 1))), .int (xs (ix (x3 + 2)))]) (rest := []) ⟨hx, hb, hml, hown, hts⟩ (k_X11_between l z n D cy Y h_x1 hc_243) (cwV 2 hts gT_X11_between rfl rfl rfl (by decide +kernel) ⟨Nat.le_of_ble_eq_true rfl, Nat.le_of_ble_eq_true rfl⟩) (q_PV (T := TX11) (N := 10) hK hN hW h_x1 (by decide) rfl) rfl rfl hl.1 rfl (lv_room (Nat.le_of_ble_eq_true rfl)) dL_law_980 ⟨Nat.le_of_ble_eq_true rfl, Nat.le_of_ble_eq_true rfl⟩) hS (fun H locs hW hS => ?_)
                                                          refine lv_aload_n hx hb dL_law_983 rfl (lv_at hl 2 rfl) ?_
                                                          refine lv_aload_n hx hb dL_law_984 rfl (lv_at hl 0 rfl) ?_
                                                          refine lv_iload_n hx hb dL_law_985 rfl (lv_at hl 3 rfl) ?_
                                                          refine lv_iconst (v := 1) hx hb dL_law_986 (by decide) ?_
                                                          refine lv_iadd hx hb dL_law_987 ?_
                                                          obtain ⟨hi_246, hf⟩ := g_in hf
                                                          refine va_sld hx hb hX hbl hbA hS (inb_in hi_246) dL_law_988 ?_
                                                          refine lv_aload_n hx hb dL_law_989 rfl (lv_at hl 0 rfl) ?_
                                                          refine lv_iload_n hx hb dL_law_990 rfl (lv_at hl 3 rfl) ?_
                                                          refine lv_iconst (v := 2) hx hb dL_law_991 (by decide) ?_
                                                          refine lv_iadd hx hb dL_law_992 ?_
                                                          obtain ⟨hi_247, hf⟩ := g_in hf
                                                          refine va_sld hx hb hX hbl hbA hS (inb_in hi_247) dL_law_993 ?_
                                                          obtain ⟨r_250, σ_249, hc_248, hf⟩ := g_bnd hf
                                                          refine q_calli (va_runV (As := [.int (xs (ix (x3 + 1))), .int (xs (ix (x3 + 2)))]) (rest := [.int r_245]) ⟨hx, hb, hml, hown, hts⟩ (k_X12_between l z n D cy Y h_x2 hc_248) (cwV 2 hts gT_X12_between rfl rfl rfl (by decide +kernel) ⟨Nat.le_of_ble_eq_true rfl, Nat.le_of_ble_eq_true rfl⟩) (q_PV (T := TX12) (N := 57) hK hN hW h_x2 (by decide) rfl) rfl rfl hl.1 rfl (lv_room (Nat.le_of_ble_eq_true rfl)) dL_law_994 ⟨Nat.le_of_ble_eq_true rfl, Nat.le_of_ble_eq_true rfl⟩) hS (fun H locs hW hS => ?_)
                                                          refine lv_icmp_eq (tgt := 1115) hx hb dL_law_997 (by decide) (fun c => ?_) (fun c => ?_)
                                                          · have hf := g_pos c hf
                                                            exact B1115 k18 H18 x1 x2 x3 σ_249 h_x1 h_x2 hf _ _ _ hW hS (lv_sub hl [0, 1, 2, 3] rfl)
                                                          · have hf := g_neg c hf
                                                            refine lv_iconst (v := 0) hx hb dL_law_1000 (by decide) ?_
                                                            exact absurd hf (by decide)
                                                        · have hf := g_neg c24 hf
                                                          by_cases c25 : ((xs (ix x3)) &&& 31) = 25
                                                          · have hf := g_pos c25 hf
                                                            refine q_tcase (k := 25) (off := 969) (tgt := 1002) hx hb dL_law_33 c25 (by decide) (by decide) rfl (by decide) ?_
                                                            refine lv_aload_n hx hb dL_law_1002 rfl (lv_at hl 1 rfl) ?_
                                                            refine lv_aload_n hx hb dL_law_1003 rfl (lv_at hl 0 rfl) ?_
                                                            refine lv_iload_n hx hb dL_law_1004 rfl (lv_at hl 3 rfl) ?_
                                                            refine lv_iconst (v := 1) hx hb dL_law_1005 (by decide) ?_
                                                            refine lv_iadd hx hb dL_law_1006 ?_
                                                            obtain ⟨hi_251, hf⟩ := g_in hf
                                                            refine va_sld hx hb hX hbl hbA hS (inb_in hi_251) dL_law_1007 ?_
                                                            refine lv_aload_n hx hb dL_law_1008 rfl (lv_at hl 0 rfl) ?_
                                                            refine lv_iload_n hx hb dL_law_1009 rfl (lv_at hl 3 rfl) ?_
                                                            refine lv_iconst (v := 2) hx hb dL_law_1010 (by decide) ?_
                                                            refine lv_iadd hx hb dL_law_1011 ?_
                                                            obtain ⟨hi_252, hf⟩ := g_in hf
                                                            refine va_sld hx hb hX hbl hbA hS (inb_in hi_252) dL_law_1012 ?_
                                                            refine lv_aload_n hx hb dL_law_1013 rfl (lv_at hl 0 rfl) ?_
                                                            refine lv_iload_n hx hb dL_law_1014 rfl (lv_at hl 3 rfl) ?_
                                                            refine lv_iconst (v := 3) hx hb dL_law_1015 (by decide) ?_
                                                            refine lv_iadd hx hb dL_law_1016 ?_
                                                            obtain ⟨hi_253, hf⟩ := g_in hf
                                                            refine va_sld hx hb hX hbl hbA hS (inb_in hi_253) dL_law_1017 ?_
                                                            obtain ⟨r_256, σ_255, hc_254, hf⟩ := g_bnd hf
                                                            refine q_calli (va_runV (As := [.int (xs (ix (x3 + 1))), .int (xs (ix (x3 + 2))), .int (xs (ix (x3 + 3)))]) (rest := []) ⟨hx, hb, hml, hown, hts⟩ (k_X11_loop l z n D cy Y h_x1 hc_254) (cwV 3 hts gT_X11_loop rfl rfl rfl (by decide +kernel) ⟨Nat.le_of_ble_eq_true rfl, Nat.le_of_ble_eq_true rfl⟩) (q_PV (T := TX11) (N := 10) hK hN hW h_x1 (by decide) rfl) rfl rfl hl.1 rfl (lv_room (Nat.le_of_ble_eq_true rfl)) dL_law_1018 ⟨Nat.le_of_ble_eq_true rfl, Nat.le_of_ble_eq_true rfl⟩) hS (fun H locs hW hS => ?_)
                                                            refine lv_aload_n hx hb dL_law_1021 rfl (lv_at hl 2 rfl) ?_
                                                            refine lv_aload_n hx hb dL_law_1022 rfl (lv_at hl 0 rfl) ?_
                                                            refine lv_iload_n hx hb dL_law_1023 rfl (lv_at hl 3 rfl) ?_
                                                            refine lv_iconst (v := 1) hx hb dL_law_1024 (by decide) ?_
                                                            refine lv_iadd hx hb dL_law_1025 ?_
                                                            obtain ⟨hi_257, hf⟩ := g_in hf
                                                            refine va_sld hx hb hX hbl hbA hS (inb_in hi_257) dL_law_1026 ?_
                                                            refine lv_aload_n hx hb dL_law_1027 rfl (lv_at hl 0 rfl) ?_
                                                            refine lv_iload_n hx hb dL_law_1028 rfl (lv_at hl 3 rfl) ?_
                                                            refine lv_iconst (v := 2) hx hb dL_law_1029 (by decide) ?_
                                                            refine lv_iadd hx hb dL_law_1030 ?_
                                                            obtain ⟨hi_258, hf⟩ := g_in hf
                                                            refine va_sld hx hb hX hbl hbA hS (inb_in hi_258) dL_law_1031 ?_
                                                            refine lv_aload_n hx hb dL_law_1032 rfl (lv_at hl 0 rfl) ?_
                                                            refine lv_iload_n hx hb dL_law_1033 rfl (lv_at hl 3 rfl) ?_
                                                            refine lv_iconst (v := 3) hx hb dL_law_1034 (by decide) ?_
                                                            refine lv_iadd hx hb dL_law_1035 ?_
                                                            obtain ⟨hi_259, hf⟩ := g_in hf
                                                            refine va_sld hx hb hX hbl hbA hS (inb_in hi_259) dL_law_1036 ?_
                                                            obtain ⟨r_262, σ_261, hc_260, hf⟩ := g_bnd hf
                                                            refine q_calli (va_runV (As := [.int (xs (ix (x3 + 1))), .int (xs (ix (x3 + 2))), .int (xs (ix (x3 + 3)))]) (rest := [.int r_256]) ⟨hx, hb, hml, hown, hts⟩ (k_X12_loop l z n D cy Y h_x2 hc_260) (cwV 3 hts gT_X12_loop rfl rfl rfl (by decide +kernel) ⟨Nat.le_of_ble_eq_true rfl, Nat.le_of_ble_eq_true rfl⟩) (q_PV (T := TX12) (N := 57) hK hN hW h_x2 (by decide) rfl) rfl rfl hl.1 rfl (lv_room (Nat.le_of_ble_eq_true rfl)) dL_law_1037 ⟨Nat.le_of_ble_eq_true rfl, Nat.le_of_ble_eq_true rfl⟩) hS (fun H locs hW hS => ?_)
                                                            refine lv_icmp_eq (tgt := 1115) hx hb dL_law_1040 (by decide) (fun c => ?_) (fun c => ?_)
                                                            · have hf := g_pos c hf
                                                              exact B1115 k18 H18 x1 x2 x3 σ_261 h_x1 h_x2 hf _ _ _ hW hS (lv_sub hl [0, 1, 2, 3] rfl)
                                                            · have hf := g_neg c hf
                                                              refine lv_iconst (v := 0) hx hb dL_law_1043 (by decide) ?_
                                                              exact absurd hf (by decide)
                                                          · have hf := g_neg c25 hf
                                                            by_cases c26 : ((xs (ix x3)) &&& 31) = 26
                                                            · have hf := g_pos c26 hf
                                                              refine q_tcase (k := 26) (off := 1012) (tgt := 1045) hx hb dL_law_33 c26 (by decide) (by decide) rfl (by decide) ?_
                                                              refine lv_aload_n hx hb dL_law_1045 rfl (lv_at hl 1 rfl) ?_
                                                              refine lv_aload_n hx hb dL_law_1046 rfl (lv_at hl 0 rfl) ?_
                                                              refine lv_iload_n hx hb dL_law_1047 rfl (lv_at hl 3 rfl) ?_
                                                              refine lv_iconst (v := 1) hx hb dL_law_1048 (by decide) ?_
                                                              refine lv_iadd hx hb dL_law_1049 ?_
                                                              obtain ⟨hi_263, hf⟩ := g_in hf
                                                              refine va_sld hx hb hX hbl hbA hS (inb_in hi_263) dL_law_1050 ?_
                                                              obtain ⟨r_266, σ_265, hc_264, hf⟩ := g_bnd hf
                                                              refine q_calll (va_runV (As := [.int (xs (ix (x3 + 1)))]) (rest := []) ⟨hx, hb, hml, hown, hts⟩ (k_X11_moved l z n D cy Y h_x1 hc_264) (cwV 1 hts gT_X11_moved rfl rfl rfl (by decide +kernel) ⟨Nat.le_of_ble_eq_true rfl, Nat.le_of_ble_eq_true rfl⟩) (q_PV (T := TX11) (N := 10) hK hN hW h_x1 (by decide) rfl) rfl rfl hl.1 rfl (lv_room (Nat.le_of_ble_eq_true rfl)) dL_law_1051 ⟨Nat.le_of_ble_eq_true rfl, Nat.le_of_ble_eq_true rfl⟩) hS (fun H locs hW hS => ?_)
                                                              refine lv_aload_n hx hb dL_law_1054 rfl (lv_at hl 2 rfl) ?_
                                                              refine lv_aload_n hx hb dL_law_1055 rfl (lv_at hl 0 rfl) ?_
                                                              refine lv_iload_n hx hb dL_law_1056 rfl (lv_at hl 3 rfl) ?_
                                                              refine lv_iconst (v := 1) hx hb dL_law_1057 (by decide) ?_
                                                              refine lv_iadd hx hb dL_law_1058 ?_
                                                              obtain ⟨hi_267, hf⟩ := g_in hf
                                                              refine va_sld hx hb hX hbl hbA hS (inb_in hi_267) dL_law_1059 ?_
                                                              obtain ⟨r_270, σ_269, hc_268, hf⟩ := g_bnd hf
                                                              refine q_calll (va_runV (As := [.int (xs (ix (x3 + 1)))]) (rest := [.long r_266]) ⟨hx, hb, hml, hown, hts⟩ (k_X12_moved l z n D cy Y h_x2 hc_268) (cwV 1 hts gT_X12_moved rfl rfl rfl (by decide +kernel) ⟨Nat.le_of_ble_eq_true rfl, Nat.le_of_ble_eq_true rfl⟩) (q_PV (T := TX12) (N := 57) hK hN hW h_x2 (by decide) rfl) rfl rfl hl.1 rfl (lv_room (Nat.le_of_ble_eq_true rfl)) dL_law_1060 ⟨Nat.le_of_ble_eq_true rfl, Nat.le_of_ble_eq_true rfl⟩) hS (fun H locs hW hS => ?_)
                                                              refine W.lcmp hx hb dL_law_1063 ?_
                                                              refine lv_if_eq (tgt := 1115) hx hb dL_law_1064 (by decide) (fun c => ?_) (fun c => ?_)
                                                              · have hf := g_pos ((lg_cmp_eq _ _).mp c) hf
                                                                exact B1115 k18 H18 x1 x2 x3 σ_269 h_x1 h_x2 hf _ _ _ hW hS (lv_sub hl [0, 1, 2, 3] rfl)
                                                              · have hf := g_neg (fun h => c ((lg_cmp_eq _ _).mpr h)) hf
                                                                refine lv_iconst (v := 0) hx hb dL_law_1067 (by decide) ?_
                                                                exact absurd hf (by decide)
                                                            · have hf := g_neg c26 hf
                                                              by_cases c27 : ((xs (ix x3)) &&& 31) = 27
                                                              · have hf := g_pos c27 hf
                                                                refine q_tcase (k := 27) (off := 1036) (tgt := 1069) hx hb dL_law_33 c27 (by decide) (by decide) rfl (by decide) ?_
                                                                refine lv_aload_n hx hb dL_law_1069 rfl (lv_at hl 1 rfl) ?_
                                                                refine lv_aload_n hx hb dL_law_1070 rfl (lv_at hl 0 rfl) ?_
                                                                refine lv_iload_n hx hb dL_law_1071 rfl (lv_at hl 3 rfl) ?_
                                                                refine lv_iconst (v := 1) hx hb dL_law_1072 (by decide) ?_
                                                                refine lv_iadd hx hb dL_law_1073 ?_
                                                                obtain ⟨hi_271, hf⟩ := g_in hf
                                                                refine va_sld hx hb hX hbl hbA hS (inb_in hi_271) dL_law_1074 ?_
                                                                obtain ⟨r_274, σ_273, hc_272, hf⟩ := g_bnd hf
                                                                refine q_calli (va_runV (As := [.int (xs (ix (x3 + 1)))]) (rest := []) ⟨hx, hb, hml, hown, hts⟩ (k_X11_alarm l z n D cy Y h_x1 hc_272) (cwV 1 hts gT_X11_alarm rfl rfl rfl (by decide +kernel) ⟨Nat.le_of_ble_eq_true rfl, Nat.le_of_ble_eq_true rfl⟩) (q_PV (T := TX11) (N := 10) hK hN hW h_x1 (by decide) rfl) rfl rfl hl.1 rfl (lv_room (Nat.le_of_ble_eq_true rfl)) dL_law_1075 ⟨Nat.le_of_ble_eq_true rfl, Nat.le_of_ble_eq_true rfl⟩) hS (fun H locs hW hS => ?_)
                                                                refine lv_aload_n hx hb dL_law_1078 rfl (lv_at hl 2 rfl) ?_
                                                                refine lv_aload_n hx hb dL_law_1079 rfl (lv_at hl 0 rfl) ?_
                                                                refine lv_iload_n hx hb dL_law_1080 rfl (lv_at hl 3 rfl) ?_
                                                                refine lv_iconst (v := 1) hx hb dL_law_1081 (by decide) ?_
                                                                refine lv_iadd hx hb dL_law_1082 ?_
                                                                obtain ⟨hi_275, hf⟩ := g_in hf
                                                                refine va_sld hx hb hX hbl hbA hS (inb_in hi_275) dL_law_1083 ?_
                                                                obtain ⟨r_278, σ_277, hc_276, hf⟩ := g_bnd hf
                                                                refine q_calli (va_runV (As := [.int (xs (ix (x3 + 1)))]) (rest := [.int r_274]) ⟨hx, hb, hml, hown, hts⟩ (k_X12_alarm l z n D cy Y h_x2 hc_276) (cwV 1 hts gT_X12_alarm rfl rfl rfl (by decide +kernel) ⟨Nat.le_of_ble_eq_true rfl, Nat.le_of_ble_eq_true rfl⟩) (q_PV (T := TX12) (N := 57) hK hN hW h_x2 (by decide) rfl) rfl rfl hl.1 rfl (lv_room (Nat.le_of_ble_eq_true rfl)) dL_law_1084 ⟨Nat.le_of_ble_eq_true rfl, Nat.le_of_ble_eq_true rfl⟩) hS (fun H locs hW hS => ?_)
                                                                refine lv_icmp_eq (tgt := 1115) hx hb dL_law_1087 (by decide) (fun c => ?_) (fun c => ?_)
                                                                · have hf := g_pos c hf
                                                                  exact B1115 k18 H18 x1 x2 x3 σ_277 h_x1 h_x2 hf _ _ _ hW hS (lv_sub hl [0, 1, 2, 3] rfl)
                                                                · have hf := g_neg c hf
                                                                  refine lv_iconst (v := 0) hx hb dL_law_1090 (by decide) ?_
                                                                  exact absurd hf (by decide)
                                                              · have hf := g_neg c27 hf
                                                                by_cases c28 : ((xs (ix x3)) &&& 31) = 28
                                                                · have hf := g_pos c28 hf
                                                                  refine q_tcase (k := 28) (off := 1059) (tgt := 1092) hx hb dL_law_33 c28 (by decide) (by decide) rfl (by decide) ?_
                                                                  refine lv_aload_n hx hb dL_law_1092 rfl (lv_at hl 1 rfl) ?_
                                                                  refine lv_aload_n hx hb dL_law_1093 rfl (lv_at hl 0 rfl) ?_
                                                                  refine lv_iload_n hx hb dL_law_1094 rfl (lv_at hl 3 rfl) ?_
                                                                  refine lv_iconst (v := 1) hx hb dL_law_1095 (by decide) ?_
                                                                  refine lv_iadd hx hb dL_law_1096 ?_
                                                                  obtain ⟨hi_279, hf⟩ := g_in hf
                                                                  refine va_sld hx hb hX hbl hbA hS (inb_in hi_279) dL_law_1097 ?_
                                                                  obtain ⟨r_282, σ_281, hc_280, hf⟩ := g_bnd hf
                                                                  refine q_calli (va_runV (As := [.int (xs (ix (x3 + 1)))]) (rest := []) ⟨hx, hb, hml, hown, hts⟩ (k_X11_count l z n D cy Y h_x1 hc_280) (cwV 1 hts gT_X11_count rfl rfl rfl (by decide +kernel) ⟨Nat.le_of_ble_eq_true rfl, Nat.le_of_ble_eq_true rfl⟩) (q_PV (T := TX11) (N := 10) hK hN hW h_x1 (by decide) rfl) rfl rfl hl.1 rfl (lv_room (Nat.le_of_ble_eq_true rfl)) dL_law_1098 ⟨Nat.le_of_ble_eq_true rfl, Nat.le_of_ble_eq_true rfl⟩) hS (fun H locs hW hS => ?_)
                                                                  refine lv_aload_n hx hb dL_law_1101 rfl (lv_at hl 2 rfl) ?_
                                                                  refine lv_aload_n hx hb dL_law_1102 rfl (lv_at hl 0 rfl) ?_
                                                                  refine lv_iload_n hx hb dL_law_1103 rfl (lv_at hl 3 rfl) ?_
                                                                  refine lv_iconst (v := 1) hx hb dL_law_1104 (by decide) ?_
                                                                  refine lv_iadd hx hb dL_law_1105 ?_
                                                                  obtain ⟨hi_283, hf⟩ := g_in hf
                                                                  refine va_sld hx hb hX hbl hbA hS (inb_in hi_283) dL_law_1106 ?_
                                                                  obtain ⟨r_286, σ_285, hc_284, hf⟩ := g_bnd hf
                                                                  refine q_calli (va_runV (As := [.int (xs (ix (x3 + 1)))]) (rest := [.int r_282]) ⟨hx, hb, hml, hown, hts⟩ (k_X12_count l z n D cy Y h_x2 hc_284) (cwV 1 hts gT_X12_count rfl rfl rfl (by decide +kernel) ⟨Nat.le_of_ble_eq_true rfl, Nat.le_of_ble_eq_true rfl⟩) (q_PV (T := TX12) (N := 57) hK hN hW h_x2 (by decide) rfl) rfl rfl hl.1 rfl (lv_room (Nat.le_of_ble_eq_true rfl)) dL_law_1107 ⟨Nat.le_of_ble_eq_true rfl, Nat.le_of_ble_eq_true rfl⟩) hS (fun H locs hW hS => ?_)
                                                                  refine lv_icmp_eq (tgt := 1115) hx hb dL_law_1110 (by decide) (fun c => ?_) (fun c => ?_)
                                                                  · have hf := g_pos c hf
                                                                    exact B1115 k18 H18 x1 x2 x3 σ_285 h_x1 h_x2 hf _ _ _ hW hS (lv_sub hl [0, 1, 2, 3] rfl)
                                                                  · have hf := g_neg c hf
                                                                    refine lv_iconst (v := 0) hx hb dL_law_1113 (by decide) ?_
                                                                    exact absurd hf (by decide)
                                                                · have hf := g_neg c28 hf
                                                                  refine lv_tableOut (tgt := 1115) hx hb dL_law_33 (by have t0 := lv_neT (k := 0) c0 (a := 0) rfl; have t1 := lv_neT (k := 1) c1 (a := 1) rfl; have t2 := lv_neT (k := 2) c2 (a := 2) rfl; have t3 := lv_neT (k := 3) c3 (a := 3) rfl; have t4 := lv_neT (k := 4) c4 (a := 4) rfl; have t5 := lv_neT (k := 5) c5 (a := 5) rfl; have t6 := lv_neT (k := 6) c6 (a := 6) rfl; have t7 := lv_neT (k := 7) c7 (a := 7) rfl; have t8 := lv_neT (k := 8) c8 (a := 8) rfl; have t9 := lv_neT (k := 9) c9 (a := 9) rfl; have t10 := lv_neT (k := 10) c10 (a := 10) rfl; have t11 := lv_neT (k := 11) c11 (a := 11) rfl; have t12 := lv_neT (k := 12) c12 (a := 12) rfl; have t13 := lv_neT (k := 13) c13 (a := 13) rfl; have t14 := lv_neT (k := 14) c14 (a := 14) rfl; have t15 := lv_neT (k := 15) c15 (a := 15) rfl; have t16 := lv_neT (k := 16) c16 (a := 16) rfl; have t17 := lv_neT (k := 17) c17 (a := 17) rfl; have t18 := lv_neT (k := 18) c18 (a := 18) rfl; have t19 := lv_neT (k := 19) c19 (a := 19) rfl; have t20 := lv_neT (k := 20) c20 (a := 20) rfl; have t21 := lv_neT (k := 21) c21 (a := 21) rfl; have t22 := lv_neT (k := 22) c22 (a := 22) rfl; have t23 := lv_neT (k := 23) c23 (a := 23) rfl; have t24 := lv_neT (k := 24) c24 (a := 24) rfl; have t25 := lv_neT (k := 25) c25 (a := 25) rfl; have t26 := lv_neT (k := 26) c26 (a := 26) rfl; have t27 := lv_neT (k := 27) c27 (a := 27) rfl; have t28 := lv_neT (k := 28) c28 (a := 28) rfl; show Int32.toInt ((xs (ix x3)) &&& 31) < 0 ∨ 28 < Int32.toInt ((xs (ix x3)) &&& 31); omega) (by decide) ?_
                                                                  exact B1115 k18 H18 x1 x2 x3 σ h_x1 h_x2 hf _ _ _ hW hS (lv_sub hl [0, 1, 2, 3] rfl)
  exact B18

