set_option maxRecDepth 100000 in
set_option maxHeartbeats 40000000 in
theorem k_X12_layTurns (l : Launch) (z n : Nat) (D : va_G) (cy : Nat → ClassId) (Y : Yt) {fu : Nat} {this : Nat} {a1 : Int32} {σ : Mm} {σ1 : Mm} (h_this : okk Y n 9 this) (hf : f_X12_layTurns Y fu this a1 σ = some σ1) : Kv l yX12_layTurns wsX12_layTurns ({ frames := 1, cells := 0, slots := 0, locals := 26 } : Room) z n D cy Y [.ref (z + this), .int a1] σ σ1 := by
  refine Met.ofW (cc := cX12_layTurns) (maxL := 7) (ret := none) (by decide +kernel) rfl ?_
  intro p e s m args below meth c s₁ B hml hv
  obtain ⟨rfl, hW, hK, hN⟩ := hv
  have hx := B.exec
  have hb := B.bytes
  have hr := B.returns
  have hts := atoms_spec (ws := wsX12_layTurns) B.pre
  have hown : s.vm.findClass RX12 = some m.cls := findClass_of_methodNamed B.named
  have hlocks := B.notSynchronized
  have hS : va_S (Az z) s.heap s.heap [] := va_S.rf
  have hin12 : ∀ w ∈ wsX120, w ∈ wsX12_layTurns := fun w h => List.mem_cons_of_mem _ (List.mem_append_right _ h)
  have hw0 := hts (.fieldLink RX12 238 "SkyClocksModel" "turns" "I") (List.mem_of_getElem? (i := 1) rfl)
  have hw1 := hts (.constantLong RX12 146 (1000000)) (List.mem_of_getElem? (i := 2) rfl)
  have hw2 := hts (.fieldLink RX12 43 "SkyClocksModel" "zero" "[I") (List.mem_of_getElem? (i := 3) rfl)
  have hw3 := hts (.constantLong RX12 241 (2000000000000)) (List.mem_of_getElem? (i := 4) rfl)
  have hw4 := hts (.fieldLink RX12 73 "SkyClocksModel" "come" "[J") (List.mem_of_getElem? (i := 5) rfl)
  have hw5 := hts (.constantLong RX12 148 (1000)) (List.mem_of_getElem? (i := 6) rfl)
  have hw6 := hts (.fieldLink RX12 40 "SkyClocksModel" "period" "[I") (List.mem_of_getElem? (i := 7) rfl)
  have hw7 := hts (.fieldLink RX12 46 "SkyClocksModel" "longer" "[I") (List.mem_of_getElem? (i := 8) rfl)
  have hw8 := hts (.fieldLink RX12 49 "SkyClocksModel" "slipMany" "[I") (List.mem_of_getElem? (i := 9) rfl)
  have hw9 := hts (.fieldLink RX12 52 "SkyClocksModel" "slipAt" "[I") (List.mem_of_getElem? (i := 10) rfl)
  have hw10 := hts (.fieldLink RX12 55 "SkyClocksModel" "slipBy" "[I") (List.mem_of_getElem? (i := 11) rfl)
  have hl := lv_entry ([.ref (z + this), .int a1]) (n := 7) (Nat.le_of_ble_eq_true rfl)
  rw [lg_entry_eq]
  generalize (lg_sl ([.ref (z + this), .int a1]) ++ List.replicate (7 - (lg_sl ([.ref (z + this), .int a1])).length) Slot.unset).toArray = ls at hl ⊢
  have hl : lv_has ls 7 [(0, .ref (z + this)), (1, .int a1)] := hl
  have B166 : ∀ (k17 : Int64 → Mm → Option (Mm)) (H17 : ∀ (x2 : Int64) (σ : Mm), k17 x2 σ = some σ1 → ∀ (H : Heap) (locs : List Loc) (ls : Array Slot), WH z n D cy Y σ H → va_S (Az z) s.heap H locs → lv_has ls 7 [(0, .ref (z + this)), (1, .int a1), (2, .long x2)] → W p l e ({ frames := 1, cells := 0, slots := 0, locals := 26 } : Room) s m ([.ref (z + this), .int a1] : List Value).toArray below meth c H locs 0 0 (MQ below (va_Qv (fun (_ : Unit) => True) (fun _ t => WH z n D cy Y σ1 t.heap) (Az z)) ([.ref (z + this), .int a1] : List Value).toArray s 0 0 (Az z)) (F0 m 17 ls [])) (t0 : Int64) (t1 : Int64) (σ : Mm), b_X12_layTurns_166 Y fu this a1 k17 t0 t1 σ = some σ1 → ∀ (H : Heap) (locs : List Loc) (ls : Array Slot), WH z n D cy Y σ H → va_S (Az z) s.heap H locs → lv_has ls 7 [(0, .ref (z + this)), (1, .int a1)] → W p l e ({ frames := 1, cells := 0, slots := 0, locals := 26 } : Room) s m ([.ref (z + this), .int a1] : List Value).toArray below meth c H locs 0 0 (MQ below (va_Qv (fun (_ : Unit) => True) (fun _ t => WH z n D cy Y σ1 t.heap) (Az z)) ([.ref (z + this), .int a1] : List Value).toArray s 0 0 (Az z)) (F0 m 166 ls [.long t0, .long t1]) := by
    intro k17 H17 t0 t1 σ  hf H locs ls hW hS hl
    refine lv_ladd hx hb dX12_layTurns_166 ?_
    refine lv_topl (fun x2_23 ex2_23 => ?_)
    have hf := g_lt ex2_23 hf
    refine lv_lstore_n (lv' := [(2, .long x2_23), (0, .ref (z + this)), (1, .int a1)]) hx hb dX12_layTurns_167 rfl hl (by decide) rfl (fun ls hl => ?_)
    refine lv_aload_n hx hb dX12_layTurns_168 rfl (lv_at hl 1 rfl) ?_
    refine lv_dup hx hb dX12_layTurns_169 rfl ?_
    refine q_geti (own := RX12) (ref := RX12) (C := RX12) (T := TX12) (N := 57) (kc := 9) (ci := 0) hx hb hts hin12 hown hK hW h_this (by decide) rfl 29 (by decide) hw0 rfl rfl dX12_layTurns_170 ?_
    refine lv_iconst (v := 1) hx hb dX12_layTurns_173 (by decide) ?_
    refine lv_iadd hx hb dX12_layTurns_174 ?_
    refine q_puti (own := RX12) (ref := RX12) (C := RX12) (T := TX12) (N := 57) (kc := 9) (ci := 0) hx hb hts hin12 tyX12_ok nmX12 hown hK hW hS h_this (by decide) rfl 29 (by decide) hw0 rfl rfl (ty := .int) (tyX12_ok 29 (by decide)) rfl rfl rfl dX12_layTurns_175 (fun H locs hW hS => ?_)
    obtain ⟨σ_24, eσ_24⟩ : ∃ y : Mm, y = (Mm.si σ this 29 ((Mm.gi σ this 29) + 1)) := ⟨_, rfl⟩
    rw [← eσ_24] at hW
    have hf := g_lt eσ_24 hf
    refine lv_goto (tgt := 17) hx hb dX12_layTurns_178 (by decide) ?_
    exact H17 x2_23 σ_24 hf _ _ _ hW hS (lv_sub hl [1, 2, 0] rfl)
  have B139 : ∀ (k17 : Int64 → Mm → Option (Mm)) (H17 : ∀ (x2 : Int64) (σ : Mm), k17 x2 σ = some σ1 → ∀ (H : Heap) (locs : List Loc) (ls : Array Slot), WH z n D cy Y σ H → va_S (Az z) s.heap H locs → lv_has ls 7 [(0, .ref (z + this)), (1, .int a1), (2, .long x2)] → W p l e ({ frames := 1, cells := 0, slots := 0, locals := 26 } : Room) s m ([.ref (z + this), .int a1] : List Value).toArray below meth c H locs 0 0 (MQ below (va_Qv (fun (_ : Unit) => True) (fun _ t => WH z n D cy Y σ1 t.heap) (Az z)) ([.ref (z + this), .int a1] : List Value).toArray s 0 0 (Az z)) (F0 m 17 ls [])) (k85 : Int64 → Int64 → Int32 → Mm → Option (Mm)) (H85 : ∀ (x2 : Int64) (x4 : Int64) (x6 : Int32) (σ : Mm), k85 x2 x4 x6 σ = some σ1 → ∀ (H : Heap) (locs : List Loc) (ls : Array Slot), WH z n D cy Y σ H → va_S (Az z) s.heap H locs → lv_has ls 7 [(0, .ref (z + this)), (1, .int a1), (2, .long x2), (4, .long x4), (6, .int x6)] → W p l e ({ frames := 1, cells := 0, slots := 0, locals := 26 } : Room) s m ([.ref (z + this), .int a1] : List Value).toArray below meth c H locs 0 0 (MQ below (va_Qv (fun (_ : Unit) => True) (fun _ t => WH z n D cy Y σ1 t.heap) (Az z)) ([.ref (z + this), .int a1] : List Value).toArray s 0 0 (Az z)) (F0 m 85 ls [])) (x2 : Int64) (x6 : Int32) (t0 : Int64) (t1 : Int64) (σ : Mm), b_X12_layTurns_139 Y fu this a1 k17 k85 x2 x6 t0 t1 σ = some σ1 → ∀ (H : Heap) (locs : List Loc) (ls : Array Slot), WH z n D cy Y σ H → va_S (Az z) s.heap H locs → lv_has ls 7 [(0, .ref (z + this)), (1, .int a1), (2, .long x2), (6, .int x6)] → W p l e ({ frames := 1, cells := 0, slots := 0, locals := 26 } : Room) s m ([.ref (z + this), .int a1] : List Value).toArray below meth c H locs 0 0 (MQ below (va_Qv (fun (_ : Unit) => True) (fun _ t => WH z n D cy Y σ1 t.heap) (Az z)) ([.ref (z + this), .int a1] : List Value).toArray s 0 0 (Az z)) (F0 m 139 ls [.long t0, .long t1]) := by
    intro k17 H17 k85 H85 x2 x6 t0 t1 σ  hf H locs ls hW hS hl
    refine lv_ladd hx hb dX12_layTurns_139 ?_
    refine lv_topl (fun x4_28 ex4_28 => ?_)
    have hf := g_lt ex4_28 hf
    refine lv_lstore (lv' := [(4, .long x4_28), (0, .ref (z + this)), (1, .int a1), (2, .long x2), (6, .int x6)]) hx hb dX12_layTurns_140 hl (by decide) rfl (fun ls hl => ?_)
    obtain ⟨x6_29, ex6_29⟩ : ∃ y : Int32, y = x6 + 1 := ⟨_, rfl⟩
    have hf := g_lt ex6_29 hf
    refine lv_iinc (v := x6_29) (lv' := [(6, .int x6_29), (4, .long x4_28), (0, .ref (z + this)), (1, .int a1), (2, .long x2)]) hx hb dX12_layTurns_142 hl (k := 4) rfl (by rw [ex6_29]; rfl) (by decide) rfl (fun ls hl => ?_)
    refine lv_goto (tgt := 85) hx hb dX12_layTurns_145 (by decide) ?_
    exact H85 x2 x4_28 x6_29 σ hf _ _ _ hW hS (lv_sub hl [2, 3, 4, 1, 0] rfl)
  have B85 : ∀ (k17 : Int64 → Mm → Option (Mm)) (H17 : ∀ (x2 : Int64) (σ : Mm), k17 x2 σ = some σ1 → ∀ (H : Heap) (locs : List Loc) (ls : Array Slot), WH z n D cy Y σ H → va_S (Az z) s.heap H locs → lv_has ls 7 [(0, .ref (z + this)), (1, .int a1), (2, .long x2)] → W p l e ({ frames := 1, cells := 0, slots := 0, locals := 26 } : Room) s m ([.ref (z + this), .int a1] : List Value).toArray below meth c H locs 0 0 (MQ below (va_Qv (fun (_ : Unit) => True) (fun _ t => WH z n D cy Y σ1 t.heap) (Az z)) ([.ref (z + this), .int a1] : List Value).toArray s 0 0 (Az z)) (F0 m 17 ls [])) (nn : Nat) (x2 : Int64) (x4 : Int64) (x6 : Int32) (σ : Mm), b_X12_layTurns_85 Y fu this a1 k17 nn x2 x4 x6 σ = some σ1 → ∀ (H : Heap) (locs : List Loc) (ls : Array Slot), WH z n D cy Y σ H → va_S (Az z) s.heap H locs → lv_has ls 7 [(0, .ref (z + this)), (1, .int a1), (2, .long x2), (4, .long x4), (6, .int x6)] → W p l e ({ frames := 1, cells := 0, slots := 0, locals := 26 } : Room) s m ([.ref (z + this), .int a1] : List Value).toArray below meth c H locs 0 0 (MQ below (va_Qv (fun (_ : Unit) => True) (fun _ t => WH z n D cy Y σ1 t.heap) (Az z)) ([.ref (z + this), .int a1] : List Value).toArray s 0 0 (Az z)) (F0 m 85 ls []) := by
    intro k17 H17
    intro nn
    induction nn with
    | zero =>
      intro x2 x4 x6 σ  hf
      have h9 : (none : Option (Mm)) = some σ1 := hf
      cases h9
    | succ nn H85 =>
      intro x2 x4 x6 σ  hf H locs ls hW hS hl
      have hf : s_X12_layTurns_85 Y fu this a1 k17 (b_X12_layTurns_85 Y fu this a1 k17 nn) x2 x4 x6 σ = some σ1 := hf
      generalize hkk : b_X12_layTurns_85 Y fu this a1 k17 nn = k85 at hf H85
      refine lv_iload hx hb dX12_layTurns_85 (lv_at hl 4 rfl) ?_
      refine lv_aload_n hx hb dX12_layTurns_87 rfl (lv_at hl 0 rfl) ?_
      refine q_getp (own := RX12) (ref := RX12) (C := RX12) (T := TX12) (N := 57) (kc := 9) (ci := 0) hx hb hts hin12 hown hK hW h_this (by decide) rfl 13 (by decide) hw8 rfl rfl rfl (v := 607) rfl dX12_layTurns_88 (fun hk_20 hq_21 => ?_)
      refine lv_iload_n hx hb dX12_layTurns_91 rfl (lv_at hl 1 rfl) ?_
      obtain ⟨hi_22, hf⟩ := g_in hf
      refine q_iald hx hb hK hW hk_20 (inb_of hq_21 hi_22) dX12_layTurns_92 ?_
      refine lv_icmp_ge (tgt := 148) hx hb dX12_layTurns_93 (by decide) (fun c => ?_) (fun c => ?_)
      · have hf := g_pos c hf
        refine lv_lload_n hx hb dX12_layTurns_148 rfl (lv_at hl 2 rfl) ?_
        refine lv_lload hx hb dX12_layTurns_149 (lv_at hl 3 rfl) ?_
        refine lv_ldc2 hx hb hown hw1 dX12_layTurns_151 ?_
        refine W.lcmp hx hb dX12_layTurns_154 ?_
        refine lv_if_ge (tgt := 164) hx hb dX12_layTurns_155 (by decide) (fun c => ?_) (fun c => ?_)
        · have hf := g_pos ((lg_cmp_ge _ _).mp c) hf
          refine lv_lload hx hb dX12_layTurns_164 (lv_at hl 3 rfl) ?_
          exact B166 k17 H17 x4 x2 σ hf _ _ _ hW hS (lv_sub hl [0, 1] rfl)
        · have hf := g_neg (fun h => c ((lg_cmp_ge _ _).mpr h)) hf
          refine lv_ldc2 hx hb hown hw1 dX12_layTurns_158 ?_
          refine lv_goto (tgt := 166) hx hb dX12_layTurns_161 (by decide) ?_
          exact B166 k17 H17 1000000 x2 σ hf _ _ _ hW hS (lv_sub hl [0, 1] rfl)
      · have hf := g_neg c hf
        refine lv_lload hx hb dX12_layTurns_96 (lv_at hl 3 rfl) ?_
        refine lv_ldc2 hx hb hown hw1 dX12_layTurns_98 ?_
        refine lv_aload_n hx hb dX12_layTurns_101 rfl (lv_at hl 0 rfl) ?_
        refine q_getp (own := RX12) (ref := RX12) (C := RX12) (T := TX12) (N := 57) (kc := 9) (ci := 0) hx hb hts hin12 hown hK hW h_this (by decide) rfl 14 (by decide) hw9 rfl rfl rfl (v := 608) rfl dX12_layTurns_102 (fun hk_25 hq_26 => ?_)
        refine lv_iconst (v := 3) hx hb dX12_layTurns_105 (by decide) ?_
        refine lv_iload_n hx hb dX12_layTurns_106 rfl (lv_at hl 1 rfl) ?_
        refine lv_imul hx hb dX12_layTurns_107 ?_
        refine lv_iload hx hb dX12_layTurns_108 (lv_at hl 4 rfl) ?_
        refine lv_iadd hx hb dX12_layTurns_110 ?_
        obtain ⟨hi_27, hf⟩ := g_in hf
        refine q_iald hx hb hK hW hk_25 (inb_of hq_26 hi_27) dX12_layTurns_111 ?_
        refine lv_i2l hx hb dX12_layTurns_112 rfl ?_
        refine lv_lmul hx hb dX12_layTurns_113 ?_
        refine lv_lload_n hx hb dX12_layTurns_114 rfl (lv_at hl 2 rfl) ?_
        refine W.lcmp hx hb dX12_layTurns_115 ?_
        refine lv_if_gt (tgt := 138) hx hb dX12_layTurns_116 (by decide) (fun c => ?_) (fun c => ?_)
        · have hf := g_pos ((lg_cmp_gt _ _).mp c) hf
          refine lv_lconst (v := 0) hx hb dX12_layTurns_138 (by decide) ?_
          exact B139 k17 H17 k85 H85 x2 x6 0 x4 σ hf _ _ _ hW hS (lv_sub hl [0, 1, 2, 4] rfl)
        · have hf := g_neg (fun h => c ((lg_cmp_gt _ _).mpr h)) hf
          refine lv_ldc2 hx hb hown hw5 dX12_layTurns_119 ?_
          refine lv_aload_n hx hb dX12_layTurns_122 rfl (lv_at hl 0 rfl) ?_
          refine q_getp (own := RX12) (ref := RX12) (C := RX12) (T := TX12) (N := 57) (kc := 9) (ci := 0) hx hb hts hin12 hown hK hW h_this (by decide) rfl 15 (by decide) hw10 rfl rfl rfl (v := 609) rfl dX12_layTurns_123 (fun hk_30 hq_31 => ?_)
          refine lv_iconst (v := 3) hx hb dX12_layTurns_126 (by decide) ?_
          refine lv_iload_n hx hb dX12_layTurns_127 rfl (lv_at hl 1 rfl) ?_
          refine lv_imul hx hb dX12_layTurns_128 ?_
          refine lv_iload hx hb dX12_layTurns_129 (lv_at hl 4 rfl) ?_
          refine lv_iadd hx hb dX12_layTurns_131 ?_
          obtain ⟨hi_32, hf⟩ := g_in hf
          refine q_iald hx hb hK hW hk_30 (inb_of hq_31 hi_32) dX12_layTurns_132 ?_
          refine lv_i2l hx hb dX12_layTurns_133 rfl ?_
          refine lv_lmul hx hb dX12_layTurns_134 ?_
          refine lv_goto (tgt := 139) hx hb dX12_layTurns_135 (by decide) ?_
          exact B139 k17 H17 k85 H85 x2 x6 (1000 * (Int32.toInt64 (Mm.gi σ 609 (ix ((3 * a1) + x6))))) x4 σ hf _ _ _ hW hS (lv_sub hl [0, 1, 2, 4] rfl)
  have B17 : ∀ (nn : Nat) (x2 : Int64) (σ : Mm), b_X12_layTurns_17 Y fu this a1 nn x2 σ = some σ1 → ∀ (H : Heap) (locs : List Loc) (ls : Array Slot), WH z n D cy Y σ H → va_S (Az z) s.heap H locs → lv_has ls 7 [(0, .ref (z + this)), (1, .int a1), (2, .long x2)] → W p l e ({ frames := 1, cells := 0, slots := 0, locals := 26 } : Room) s m ([.ref (z + this), .int a1] : List Value).toArray below meth c H locs 0 0 (MQ below (va_Qv (fun (_ : Unit) => True) (fun _ t => WH z n D cy Y σ1 t.heap) (Az z)) ([.ref (z + this), .int a1] : List Value).toArray s 0 0 (Az z)) (F0 m 17 ls []) := by
    intro nn
    induction nn with
    | zero =>
      intro x2 σ  hf
      have h9 : (none : Option (Mm)) = some σ1 := hf
      cases h9
    | succ nn H17 =>
      intro x2 σ  hf H locs ls hW hS hl
      have hf : s_X12_layTurns_17 Y fu this a1 (b_X12_layTurns_17 Y fu this a1 nn) x2 σ = some σ1 := hf
      generalize hkk : b_X12_layTurns_17 Y fu this a1 nn = k17 at hf H17
      refine lv_aload_n hx hb dX12_layTurns_17 rfl (lv_at hl 0 rfl) ?_
      refine q_geti (own := RX12) (ref := RX12) (C := RX12) (T := TX12) (N := 57) (kc := 9) (ci := 0) hx hb hts hin12 hown hK hW h_this (by decide) rfl 29 (by decide) hw0 rfl rfl dX12_layTurns_18 ?_
      refine lv_sipush (v := 10001) hx hb dX12_layTurns_21 (by decide) ?_
      refine lv_icmp_ge (tgt := 181) hx hb dX12_layTurns_24 (by decide) (fun c => ?_) (fun c => ?_)
      · have hf := g_pos c hf
        exact q_vret hx hb hr hlocks hW hS hf dX12_layTurns_181
      · have hf := g_neg c hf
        refine lv_lload_n hx hb dX12_layTurns_27 rfl (lv_at hl 2 rfl) ?_
        refine lv_ldc2 hx hb hown hw3 dX12_layTurns_28 ?_
        refine W.lcmp hx hb dX12_layTurns_31 ?_
        refine lv_if_gt (tgt := 181) hx hb dX12_layTurns_32 (by decide) (fun c => ?_) (fun c => ?_)
        · have hf := g_pos ((lg_cmp_gt _ _).mp c) hf
          exact q_vret hx hb hr hlocks hW hS hf dX12_layTurns_181
        · have hf := g_neg (fun h => c ((lg_cmp_gt _ _).mpr h)) hf
          refine lv_aload_n hx hb dX12_layTurns_35 rfl (lv_at hl 0 rfl) ?_
          refine q_getp (own := RX12) (ref := RX12) (C := RX12) (T := TX12) (N := 57) (kc := 9) (ci := 0) hx hb hts hin12 hown hK hW h_this (by decide) rfl 28 (by decide) hw4 rfl rfl rfl (v := 615) rfl dX12_layTurns_36 (fun hk_6 hq_7 => ?_)
          refine lv_aload_n hx hb dX12_layTurns_39 rfl (lv_at hl 0 rfl) ?_
          refine q_geti (own := RX12) (ref := RX12) (C := RX12) (T := TX12) (N := 57) (kc := 9) (ci := 0) hx hb hts hin12 hown hK hW h_this (by decide) rfl 29 (by decide) hw0 rfl rfl dX12_layTurns_40 ?_
          refine lv_lload_n hx hb dX12_layTurns_43 rfl (lv_at hl 2 rfl) ?_
          refine lv_aload_n hx hb dX12_layTurns_44 rfl (lv_at hl 0 rfl) ?_
          refine lv_iload_n hx hb dX12_layTurns_45 rfl (lv_at hl 1 rfl) ?_
          refine lv_aload_n hx hb dX12_layTurns_46 rfl (lv_at hl 0 rfl) ?_
          refine q_geti (own := RX12) (ref := RX12) (C := RX12) (T := TX12) (N := 57) (kc := 9) (ci := 0) hx hb hts hin12 hown hK hW h_this (by decide) rfl 29 (by decide) hw0 rfl rfl dX12_layTurns_47 ?_
          obtain ⟨r_10, σ_9, hc_8, hf⟩ := g_bnd hf
          refine q_calll (va_runV (As := [.int a1, .int (Mm.gi σ this 29)]) (rest := [.long x2, .int (Mm.gi σ this 29), .ref (z + 615)]) ⟨hx, hb, hml, hown, hts⟩ (k_X12_later l z n D cy Y h_this hc_8) (cwV 2 hts gX12_layTurns_X12_later rfl rfl rfl (by decide +kernel) ⟨Nat.le_of_ble_eq_true rfl, Nat.le_of_ble_eq_true rfl⟩) (q_PV (T := TX12) (N := 57) hK hN hW h_this (by decide) rfl) rfl rfl hl.1 rfl (lv_room (Nat.le_of_ble_eq_true rfl)) dX12_layTurns_50 ⟨Nat.le_refl _, Nat.le_refl _⟩) hS (fun H locs hW hS => ?_)
          refine lv_ladd hx hb dX12_layTurns_53 ?_
          obtain ⟨hi_11, hf⟩ := g_in hf
          refine q_last hx hb hK hW hS hk_6 (inb_of hq_7 hi_11) dX12_layTurns_54 (fun H locs hW hS => ?_)
          obtain ⟨σ_12, eσ_12⟩ : ∃ y : Mm, y = (Mm.sl σ_9 615 (ix (Mm.gi σ this 29)) (x2 + r_10)) := ⟨_, rfl⟩
          rw [← eσ_12] at hW
          have hf := g_lt eσ_12 hf
          refine lv_ldc2 hx hb hown hw5 dX12_layTurns_55 ?_
          refine lv_aload_n hx hb dX12_layTurns_58 rfl (lv_at hl 0 rfl) ?_
          refine q_getp (own := RX12) (ref := RX12) (C := RX12) (T := TX12) (N := 57) (kc := 9) (ci := 0) hx hb hts hin12 hown hK hW h_this (by decide) rfl 10 (by decide) hw6 rfl rfl rfl (v := 604) rfl dX12_layTurns_59 (fun hk_13 hq_14 => ?_)
          refine lv_iload_n hx hb dX12_layTurns_62 rfl (lv_at hl 1 rfl) ?_
          obtain ⟨hi_15, hf⟩ := g_in hf
          refine q_iald hx hb hK hW hk_13 (inb_of hq_14 hi_15) dX12_layTurns_63 ?_
          refine lv_i2l hx hb dX12_layTurns_64 rfl ?_
          refine lv_lmul hx hb dX12_layTurns_65 ?_
          refine lv_aload_n hx hb dX12_layTurns_66 rfl (lv_at hl 0 rfl) ?_
          refine q_geti (own := RX12) (ref := RX12) (C := RX12) (T := TX12) (N := 57) (kc := 9) (ci := 0) hx hb hts hin12 hown hK hW h_this (by decide) rfl 29 (by decide) hw0 rfl rfl dX12_layTurns_67 ?_
          refine lv_i2l hx hb dX12_layTurns_70 rfl ?_
          refine lv_aload_n hx hb dX12_layTurns_71 rfl (lv_at hl 0 rfl) ?_
          refine q_getp (own := RX12) (ref := RX12) (C := RX12) (T := TX12) (N := 57) (kc := 9) (ci := 0) hx hb hts hin12 hown hK hW h_this (by decide) rfl 12 (by decide) hw7 rfl rfl rfl (v := 606) rfl dX12_layTurns_72 (fun hk_16 hq_17 => ?_)
          refine lv_iload_n hx hb dX12_layTurns_75 rfl (lv_at hl 1 rfl) ?_
          obtain ⟨hi_18, hf⟩ := g_in hf
          refine q_iald hx hb hK hW hk_16 (inb_of hq_17 hi_18) dX12_layTurns_76 ?_
          refine lv_i2l hx hb dX12_layTurns_77 rfl ?_
          refine lv_lmul hx hb dX12_layTurns_78 ?_
          refine lv_ladd hx hb dX12_layTurns_79 ?_
          refine lv_topl (fun x4_19 ex4_19 => ?_)
          have hf := g_lt ex4_19 hf
          refine lv_lstore (lv' := [(4, .long x4_19), (0, .ref (z + this)), (1, .int a1), (2, .long x2)]) hx hb dX12_layTurns_80 hl (by decide) rfl (fun ls hl => ?_)
          refine lv_iconst (v := 0) hx hb dX12_layTurns_82 (by decide) ?_
          refine lv_istore (lv' := [(6, .int 0), (4, .long x4_19), (0, .ref (z + this)), (1, .int a1), (2, .long x2)]) hx hb dX12_layTurns_83 hl (by decide) rfl (fun ls hl => ?_)
          exact B85 k17 H17 fu x2 x4_19 0 σ_12 hf _ _ _ hW hS (lv_sub hl [2, 3, 4, 1, 0] rfl)
  refine lv_aload_n hx hb dX12_layTurns_0 rfl (lv_at hl 0 rfl) ?_
  refine lv_iconst (v := 0) hx hb dX12_layTurns_1 (by decide) ?_
  refine q_puti (own := RX12) (ref := RX12) (C := RX12) (T := TX12) (N := 57) (kc := 9) (ci := 0) hx hb hts hin12 tyX12_ok nmX12 hown hK hW hS h_this (by decide) rfl 29 (by decide) hw0 rfl rfl (ty := .int) (tyX12_ok 29 (by decide)) rfl rfl rfl dX12_layTurns_2 (fun H locs hW hS => ?_)
  obtain ⟨σ_1, eσ_1⟩ : ∃ y : Mm, y = (Mm.si σ this 29 0) := ⟨_, rfl⟩
  rw [← eσ_1] at hW
  have hf := g_lt eσ_1 hf
  refine lv_ldc2 hx hb hown hw1 dX12_layTurns_5 ?_
  refine lv_aload_n hx hb dX12_layTurns_8 rfl (lv_at hl 0 rfl) ?_
  refine q_getp (own := RX12) (ref := RX12) (C := RX12) (T := TX12) (N := 57) (kc := 9) (ci := 0) hx hb hts hin12 hown hK hW h_this (by decide) rfl 11 (by decide) hw2 rfl rfl rfl (v := 605) rfl dX12_layTurns_9 (fun hk_2 hq_3 => ?_)
  refine lv_iload_n hx hb dX12_layTurns_12 rfl (lv_at hl 1 rfl) ?_
  obtain ⟨hi_4, hf⟩ := g_in hf
  refine q_iald hx hb hK hW hk_2 (inb_of hq_3 hi_4) dX12_layTurns_13 ?_
  refine lv_i2l hx hb dX12_layTurns_14 rfl ?_
  refine lv_lmul hx hb dX12_layTurns_15 ?_
  refine lv_topl (fun x2_5 ex2_5 => ?_)
  have hf := g_lt ex2_5 hf
  refine lv_lstore_n (lv' := [(2, .long x2_5), (0, .ref (z + this)), (1, .int a1)]) hx hb dX12_layTurns_16 rfl hl (by decide) rfl (fun ls hl => ?_)
  exact B17 fu x2_5 σ_1 hf _ _ _ hW hS (lv_sub hl [1, 2, 0] rfl)
set_option maxRecDepth 100000 in
set_option maxHeartbeats 40000000 in
theorem k_X12_size (l : Launch) (z n : Nat) (D : va_G) (cy : Nat → ClassId) (Y : Yt) {a0 : Int64} {σ : Mm} {r : Int64} {σ1 : Mm} (hf : f_X12_size Y a0 σ = some (r, σ1)) : Kl l yX12_size wsX12_size ({ frames := 0, cells := 0, slots := 0, locals := 0 } : Room) z n D cy Y [.long a0] σ r σ1 := by
  refine Met.ofW (cc := cX12_size) (maxL := 2) (ret := (some .long)) (by decide +kernel) rfl ?_
  intro p e s m args below meth c s₁ B hml hv
  obtain ⟨rfl, hW, hK, hN⟩ := hv
  have hx := B.exec
  have hb := B.bytes
  have hr := B.returns
  have hts := atoms_spec (ws := wsX12_size) B.pre
  have hown : s.vm.findClass RX12 = some m.cls := findClass_of_methodNamed B.named
  have hlocks := B.notSynchronized
  have hS : va_S (Az z) s.heap s.heap [] := va_S.rf
  have hl := lv_entry ([.long a0]) (n := 2) (Nat.le_of_ble_eq_true rfl)
  rw [lg_entry_eq]
  generalize (lg_sl ([.long a0]) ++ List.replicate (2 - (lg_sl ([.long a0])).length) Slot.unset).toArray = ls at hl ⊢
  have hl : lv_has ls 2 [(0, .long a0)] := hl
  refine lv_lload_n hx hb dX12_size_0 rfl (lv_at hl 0 rfl) ?_
  refine lv_lconst (v := 0) hx hb dX12_size_1 (by decide) ?_
  refine W.lcmp hx hb dX12_size_2 ?_
  refine lv_if_ge (tgt := 11) hx hb dX12_size_3 (by decide) (fun c => ?_) (fun c => ?_)
  · have hf := g_pos ((lg_cmp_ge _ _).mp c) hf
    refine lv_lload_n hx hb dX12_size_11 rfl (lv_at hl 0 rfl) ?_
    exact q_lret hx hb hr hlocks hW hS hf dX12_size_12
  · have hf := g_neg (fun h => c ((lg_cmp_ge _ _).mpr h)) hf
    refine lv_lload_n hx hb dX12_size_6 rfl (lv_at hl 0 rfl) ?_
    refine lv_lneg hx hb dX12_size_7 ?_
    refine lv_goto (tgt := 12) hx hb dX12_size_8 (by decide) ?_
    exact q_lret hx hb hr hlocks hW hS hf dX12_size_12
set_option maxRecDepth 100000 in
set_option maxHeartbeats 40000000 in
theorem k_X12_layRest (l : Launch) (z n : Nat) (D : va_G) (cy : Nat → ClassId) (Y : Yt) {fu : Nat} {this : Nat} {a1 : Int32} {a2 : Int32} {σ : Mm} {r : Int32} {σ1 : Mm} (h_this : okk Y n 9 this) (hf : f_X12_layRest Y fu this a1 a2 σ = some (r, σ1)) : Ki l yX12_layRest wsX12_layRest ({ frames := 2, cells := 0, slots := 0, locals := 52 } : Room) z n D cy Y [.ref (z + this), .int a1, .int a2] σ r σ1 := by
  refine Met.ofW (cc := cX12_layRest) (maxL := 8) (ret := (some .boolean)) (by decide +kernel) rfl ?_
  intro p e s m args below meth c s₁ B hml hv
  obtain ⟨rfl, hW, hK, hN⟩ := hv
  have hx := B.exec
  have hb := B.bytes
  have hr := B.returns
  have hts := atoms_spec (ws := wsX12_layRest) B.pre
  have hown : s.vm.findClass RX12 = some m.cls := findClass_of_methodNamed B.named
  have hlocks := B.notSynchronized
  have hS : va_S (Az z) s.heap s.heap [] := va_S.rf
  have hin12 : ∀ w ∈ wsX120, w ∈ wsX12_layRest := fun w h => List.mem_cons_of_mem _ (List.mem_append_right _ h)
  have hw0 := hts (.fieldLink RX12 36 "SkyClocksModel" "hasModel" "[Z") (List.mem_of_getElem? (i := 1) rfl)
  have hw1 := hts (.fieldLink RX12 167 "SkyClocksModel" "counts" "I") (List.mem_of_getElem? (i := 2) rfl)
  have hw2 := hts (.constantLong RX12 146 (1000000)) (List.mem_of_getElem? (i := 3) rfl)
  have hw3 := hts (.fieldLink RX12 70 "SkyClocksModel" "place" "[I") (List.mem_of_getElem? (i := 4) rfl)
  have hw4 := hts (.fieldLink RX12 238 "SkyClocksModel" "turns" "I") (List.mem_of_getElem? (i := 5) rfl)
  have hw5 := hts (.fieldLink RX12 77 "SkyClocksModel" "rest" "[I") (List.mem_of_getElem? (i := 7) rfl)
  have hw6 := hts (.fieldLink RX12 73 "SkyClocksModel" "come" "[J") (List.mem_of_getElem? (i := 6) rfl)
  have hw7 := hts (.fieldLink RX12 80 "SkyClocksModel" "turnOf" "[I") (List.mem_of_getElem? (i := 8) rfl)
  have hl := lv_entry ([.ref (z + this), .int a1, .int a2]) (n := 8) (Nat.le_of_ble_eq_true rfl)
  rw [lg_entry_eq]
  generalize (lg_sl ([.ref (z + this), .int a1, .int a2]) ++ List.replicate (8 - (lg_sl ([.ref (z + this), .int a1, .int a2])).length) Slot.unset).toArray = ls at hl ⊢
  have hl : lv_has ls 8 [(0, .ref (z + this)), (1, .int a1), (2, .int a2)] := hl
  have B101 : ∀ (k23 : Int32 → Mm → Option (Int32 × Mm)) (H23 : ∀ (x3 : Int32) (σ : Mm), k23 x3 σ = some (r, σ1) → ∀ (H : Heap) (locs : List Loc) (ls : Array Slot), WH z n D cy Y σ H → va_S (Az z) s.heap H locs → lv_has ls 8 [(0, .ref (z + this)), (1, .int a1), (2, .int a2), (3, .int x3)] → W p l e ({ frames := 2, cells := 0, slots := 0, locals := 52 } : Room) s m ([.ref (z + this), .int a1, .int a2] : List Value).toArray below meth c H locs 0 0 (MQ below (va_Qi (fun (x : Int32) (_ : Unit) => x = r) (fun _ t => WH z n D cy Y σ1 t.heap) (Az z)) ([.ref (z + this), .int a1, .int a2] : List Value).toArray s 0 0 (Az z)) (F0 m 23 ls [])) (k55 : Int32 → Int64 → Int32 → Int32 → Mm → Option (Int32 × Mm)) (H55 : ∀ (x3 : Int32) (x4 : Int64) (x6 : Int32) (x7 : Int32) (σ : Mm), k55 x3 x4 x6 x7 σ = some (r, σ1) → ∀ (H : Heap) (locs : List Loc) (ls : Array Slot), WH z n D cy Y σ H → va_S (Az z) s.heap H locs → lv_has ls 8 [(0, .ref (z + this)), (1, .int a1), (2, .int a2), (3, .int x3), (4, .long x4), (6, .int x6), (7, .int x7)] → W p l e ({ frames := 2, cells := 0, slots := 0, locals := 52 } : Room) s m ([.ref (z + this), .int a1, .int a2] : List Value).toArray below meth c H locs 0 0 (MQ below (va_Qi (fun (x : Int32) (_ : Unit) => x = r) (fun _ t => WH z n D cy Y σ1 t.heap) (Az z)) ([.ref (z + this), .int a1, .int a2] : List Value).toArray s 0 0 (Az z)) (F0 m 55 ls [])) (x3 : Int32) (x4 : Int64) (x7 : Int32) (t0 : Int32) (σ : Mm), b_X12_layRest_101 Y fu this a1 a2 k23 k55 x3 x4 x7 t0 σ = some (r, σ1) → ∀ (H : Heap) (locs : List Loc) (ls : Array Slot), WH z n D cy Y σ H → va_S (Az z) s.heap H locs → lv_has ls 8 [(0, .ref (z + this)), (1, .int a1), (2, .int a2), (3, .int x3), (4, .long x4), (7, .int x7)] → W p l e ({ frames := 2, cells := 0, slots := 0, locals := 52 } : Room) s m ([.ref (z + this), .int a1, .int a2] : List Value).toArray below meth c H locs 0 0 (MQ below (va_Qi (fun (x : Int32) (_ : Unit) => x = r) (fun _ t => WH z n D cy Y σ1 t.heap) (Az z)) ([.ref (z + this), .int a1, .int a2] : List Value).toArray s 0 0 (Az z)) (F0 m 101 ls [.int t0]) := by
    intro k23 H23 k55 H55 x3 x4 x7 t0 σ  hf H locs ls hW hS hl
    refine lv_istore (lv' := [(6, .int t0), (0, .ref (z + this)), (1, .int a1), (2, .int a2), (3, .int x3), (4, .long x4), (7, .int x7)]) hx hb dX12_layRest_101 hl (by decide) rfl (fun ls hl => ?_)
    obtain ⟨x7_39, ex7_39⟩ : ∃ y : Int32, y = x7 + 1 := ⟨_, rfl⟩
    have hf := g_lt ex7_39 hf
    refine lv_iinc (v := x7_39) (lv' := [(7, .int x7_39), (6, .int t0), (0, .ref (z + this)), (1, .int a1), (2, .int a2), (3, .int x3), (4, .long x4)]) hx hb dX12_layRest_103 hl (k := 6) rfl (by rw [ex7_39]; rfl) (by decide) rfl (fun ls hl => ?_)
    refine lv_goto (tgt := 55) hx hb dX12_layRest_106 (by decide) ?_
    exact H55 x3 x4 t0 x7_39 σ hf _ _ _ hW hS (lv_sub hl [2, 3, 4, 5, 6, 1, 0] rfl)
  have B55 : ∀ (k23 : Int32 → Mm → Option (Int32 × Mm)) (H23 : ∀ (x3 : Int32) (σ : Mm), k23 x3 σ = some (r, σ1) → ∀ (H : Heap) (locs : List Loc) (ls : Array Slot), WH z n D cy Y σ H → va_S (Az z) s.heap H locs → lv_has ls 8 [(0, .ref (z + this)), (1, .int a1), (2, .int a2), (3, .int x3)] → W p l e ({ frames := 2, cells := 0, slots := 0, locals := 52 } : Room) s m ([.ref (z + this), .int a1, .int a2] : List Value).toArray below meth c H locs 0 0 (MQ below (va_Qi (fun (x : Int32) (_ : Unit) => x = r) (fun _ t => WH z n D cy Y σ1 t.heap) (Az z)) ([.ref (z + this), .int a1, .int a2] : List Value).toArray s 0 0 (Az z)) (F0 m 23 ls [])) (nn : Nat) (x3 : Int32) (x4 : Int64) (x6 : Int32) (x7 : Int32) (σ : Mm), b_X12_layRest_55 Y fu this a1 a2 k23 nn x3 x4 x6 x7 σ = some (r, σ1) → ∀ (H : Heap) (locs : List Loc) (ls : Array Slot), WH z n D cy Y σ H → va_S (Az z) s.heap H locs → lv_has ls 8 [(0, .ref (z + this)), (1, .int a1), (2, .int a2), (3, .int x3), (4, .long x4), (6, .int x6), (7, .int x7)] → W p l e ({ frames := 2, cells := 0, slots := 0, locals := 52 } : Room) s m ([.ref (z + this), .int a1, .int a2] : List Value).toArray below meth c H locs 0 0 (MQ below (va_Qi (fun (x : Int32) (_ : Unit) => x = r) (fun _ t => WH z n D cy Y σ1 t.heap) (Az z)) ([.ref (z + this), .int a1, .int a2] : List Value).toArray s 0 0 (Az z)) (F0 m 55 ls []) := by
    intro k23 H23
    intro nn
    induction nn with
    | zero =>
      intro x3 x4 x6 x7 σ  hf
      have h9 : (none : Option (Int32 × Mm)) = some (r, σ1) := hf
      cases h9
    | succ nn H55 =>
      intro x3 x4 x6 x7 σ  hf H locs ls hW hS hl
      have hf : s_X12_layRest_55 Y fu this a1 a2 k23 (b_X12_layRest_55 Y fu this a1 a2 k23 nn) x3 x4 x6 x7 σ = some (r, σ1) := hf
      generalize hkk : b_X12_layRest_55 Y fu this a1 a2 k23 nn = k55 at hf H55
      refine lv_iload hx hb dX12_layRest_55 (lv_at hl 6 rfl) ?_
      refine lv_aload_n hx hb dX12_layRest_57 rfl (lv_at hl 0 rfl) ?_
      refine q_geti (own := RX12) (ref := RX12) (C := RX12) (T := TX12) (N := 57) (kc := 9) (ci := 0) hx hb hts hin12 hown hK hW h_this (by decide) rfl 29 (by decide) hw4 rfl rfl dX12_layRest_58 ?_
      refine lv_icmp_ge (tgt := 109) hx hb dX12_layRest_61 (by decide) (fun c => ?_) (fun c => ?_)
      · have hf := g_pos c hf
        refine lv_aload_n hx hb dX12_layRest_109 rfl (lv_at hl 0 rfl) ?_
        refine q_getp (own := RX12) (ref := RX12) (C := RX12) (T := TX12) (N := 57) (kc := 9) (ci := 0) hx hb hts hin12 hown hK hW h_this (by decide) rfl 30 (by decide) hw5 rfl rfl rfl (v := 616) rfl dX12_layRest_110 (fun hk_15 hq_16 => ?_)
        refine lv_iload_n hx hb dX12_layRest_113 rfl (lv_at hl 3 rfl) ?_
        refine lv_lload hx hb dX12_layRest_114 (lv_at hl 4 rfl) ?_
        refine lv_aload_n hx hb dX12_layRest_116 rfl (lv_at hl 0 rfl) ?_
        refine q_getp (own := RX12) (ref := RX12) (C := RX12) (T := TX12) (N := 57) (kc := 9) (ci := 0) hx hb hts hin12 hown hK hW h_this (by decide) rfl 28 (by decide) hw6 rfl rfl rfl (v := 615) rfl dX12_layRest_117 (fun hk_17 hq_18 => ?_)
        refine lv_iload hx hb dX12_layRest_120 (lv_at hl 5 rfl) ?_
        obtain ⟨hi_19, hf⟩ := g_in hf
        refine q_lald hx hb hK hW hk_17 (inb_of hq_18 hi_19) dX12_layRest_122 ?_
        refine lv_lsub hx hb dX12_layRest_123 ?_
        refine lv_ldc2 hx hb hown hw2 dX12_layRest_124 ?_
        refine lv_ldiv hx hb dX12_layRest_127 (by decide) ?_
        refine lv_l2i hx hb dX12_layRest_128 rfl ?_
        obtain ⟨hi_20, hf⟩ := g_in hf
        refine q_iast hx hb hK hW hS hk_15 (inb_of hq_16 hi_20) dX12_layRest_129 (fun H locs hW hS => ?_)
        obtain ⟨σ_21, eσ_21⟩ : ∃ y : Mm, y = (Mm.si σ 616 (ix x3) (Int64.toInt32 ((x4 - (Mm.gl σ 615 (ix x6))) / 1000000))) := ⟨_, rfl⟩
        rw [← eσ_21] at hW
        have hf := g_lt eσ_21 hf
        refine lv_aload_n hx hb dX12_layRest_130 rfl (lv_at hl 0 rfl) ?_
        refine q_getp (own := RX12) (ref := RX12) (C := RX12) (T := TX12) (N := 57) (kc := 9) (ci := 0) hx hb hts hin12 hown hK hW h_this (by decide) rfl 31 (by decide) hw7 rfl rfl rfl (v := 617) rfl dX12_layRest_131 (fun hk_22 hq_23 => ?_)
        refine lv_iload_n hx hb dX12_layRest_134 rfl (lv_at hl 3 rfl) ?_
        refine lv_iload hx hb dX12_layRest_135 (lv_at hl 5 rfl) ?_
        obtain ⟨hi_24, hf⟩ := g_in hf
        refine q_iast hx hb hK hW hS hk_22 (inb_of hq_23 hi_24) dX12_layRest_137 (fun H locs hW hS => ?_)
        obtain ⟨σ_25, eσ_25⟩ : ∃ y : Mm, y = (Mm.si σ_21 617 (ix x3) x6) := ⟨_, rfl⟩
        rw [← eσ_25] at hW
        have hf := g_lt eσ_25 hf
        obtain ⟨x3_26, ex3_26⟩ : ∃ y : Int32, y = x3 + 1 := ⟨_, rfl⟩
        have hf := g_lt ex3_26 hf
        refine lv_iinc (v := x3_26) (lv' := [(3, .int x3_26), (0, .ref (z + this)), (1, .int a1), (2, .int a2), (4, .long x4), (6, .int x6), (7, .int x7)]) hx hb dX12_layRest_138 hl (k := 3) rfl (by rw [ex3_26]; rfl) (by decide) rfl (fun ls hl => ?_)
        refine lv_goto (tgt := 23) hx hb dX12_layRest_141 (by decide) ?_
        exact H23 x3_26 σ_25 hf _ _ _ hW hS (lv_sub hl [1, 2, 3, 0] rfl)
      · have hf := g_neg c hf
        refine lv_lload hx hb dX12_layRest_64 (lv_at hl 4 rfl) ?_
        refine lv_aload_n hx hb dX12_layRest_66 rfl (lv_at hl 0 rfl) ?_
        refine q_getp (own := RX12) (ref := RX12) (C := RX12) (T := TX12) (N := 57) (kc := 9) (ci := 0) hx hb hts hin12 hown hK hW h_this (by decide) rfl 28 (by decide) hw6 rfl rfl rfl (v := 615) rfl dX12_layRest_67 (fun hk_27 hq_28 => ?_)
        refine lv_iload hx hb dX12_layRest_70 (lv_at hl 6 rfl) ?_
        obtain ⟨hi_29, hf⟩ := g_in hf
        refine q_lald hx hb hK hW hk_27 (inb_of hq_28 hi_29) dX12_layRest_72 ?_
        refine lv_lsub hx hb dX12_layRest_73 ?_
        obtain ⟨r_32, σ_31, hc_30, hf⟩ := g_bnd hf
        refine q_calll (va_runS (As := [.long (x4 - (Mm.gl σ 615 (ix x7)))]) (rest := []) ⟨hx, hb, hml, hown, hts⟩ (k_X12_size l z n D cy Y hc_30) (va_cwS 1 hts gX12_layRest_X12_size rfl rfl rfl (by decide +kernel) ⟨Nat.le_of_ble_eq_true rfl, Nat.le_of_ble_eq_true rfl⟩) (q_PS hK hN hW) rfl rfl hl.1 rfl (lv_room (Nat.le_of_ble_eq_true rfl)) dX12_layRest_74 ⟨Nat.le_refl _, Nat.le_refl _⟩) hS (fun H locs hW hS => ?_)
        refine lv_lload hx hb dX12_layRest_77 (lv_at hl 4 rfl) ?_
        refine lv_aload_n hx hb dX12_layRest_79 rfl (lv_at hl 0 rfl) ?_
        refine q_getp (own := RX12) (ref := RX12) (C := RX12) (T := TX12) (N := 57) (kc := 9) (ci := 0) hx hb hts hin12 hown hK hW h_this (by decide) rfl 28 (by decide) hw6 rfl rfl rfl (v := 615) rfl dX12_layRest_80 (fun hk_33 hq_34 => ?_)
        refine lv_iload hx hb dX12_layRest_83 (lv_at hl 5 rfl) ?_
        obtain ⟨hi_35, hf⟩ := g_in hf
        refine q_lald hx hb hK hW hk_33 (inb_of hq_34 hi_35) dX12_layRest_85 ?_
        refine lv_lsub hx hb dX12_layRest_86 ?_
        obtain ⟨r_38, σ_37, hc_36, hf⟩ := g_bnd hf
        refine q_calll (va_runS (As := [.long (x4 - (Mm.gl σ_31 615 (ix x6)))]) (rest := [.long r_32]) ⟨hx, hb, hml, hown, hts⟩ (k_X12_size l z n D cy Y hc_36) (va_cwS 1 hts gX12_layRest_X12_size rfl rfl rfl (by decide +kernel) ⟨Nat.le_of_ble_eq_true rfl, Nat.le_of_ble_eq_true rfl⟩) (q_PS hK hN hW) rfl rfl hl.1 rfl (lv_room (Nat.le_of_ble_eq_true rfl)) dX12_layRest_87 ⟨Nat.le_refl _, Nat.le_refl _⟩) hS (fun H locs hW hS => ?_)
        refine W.lcmp hx hb dX12_layRest_90 ?_
        refine lv_if_ge (tgt := 99) hx hb dX12_layRest_91 (by decide) (fun c => ?_) (fun c => ?_)
        · have hf := g_pos ((lg_cmp_ge _ _).mp c) hf
          refine lv_iload hx hb dX12_layRest_99 (lv_at hl 5 rfl) ?_
          exact B101 k23 H23 k55 H55 x3 x4 x7 x6 σ_37 hf _ _ _ hW hS (lv_sub hl [0, 1, 2, 3, 4, 6] rfl)
        · have hf := g_neg (fun h => c ((lg_cmp_ge _ _).mpr h)) hf
          refine lv_iload hx hb dX12_layRest_94 (lv_at hl 6 rfl) ?_
          refine lv_goto (tgt := 101) hx hb dX12_layRest_96 (by decide) ?_
          exact B101 k23 H23 k55 H55 x3 x4 x7 x7 σ_37 hf _ _ _ hW hS (lv_sub hl [0, 1, 2, 3, 4, 6] rfl)
  have B23 : ∀ (nn : Nat) (x3 : Int32) (σ : Mm), b_X12_layRest_23 Y fu this a1 a2 nn x3 σ = some (r, σ1) → ∀ (H : Heap) (locs : List Loc) (ls : Array Slot), WH z n D cy Y σ H → va_S (Az z) s.heap H locs → lv_has ls 8 [(0, .ref (z + this)), (1, .int a1), (2, .int a2), (3, .int x3)] → W p l e ({ frames := 2, cells := 0, slots := 0, locals := 52 } : Room) s m ([.ref (z + this), .int a1, .int a2] : List Value).toArray below meth c H locs 0 0 (MQ below (va_Qi (fun (x : Int32) (_ : Unit) => x = r) (fun _ t => WH z n D cy Y σ1 t.heap) (Az z)) ([.ref (z + this), .int a1, .int a2] : List Value).toArray s 0 0 (Az z)) (F0 m 23 ls []) := by
    intro nn
    induction nn with
    | zero =>
      intro x3 σ  hf
      have h9 : (none : Option (Int32 × Mm)) = some (r, σ1) := hf
      cases h9
    | succ nn H23 =>
      intro x3 σ  hf H locs ls hW hS hl
      have hf : s_X12_layRest_23 Y fu this a1 a2 (b_X12_layRest_23 Y fu this a1 a2 nn) x3 σ = some (r, σ1) := hf
      generalize hkk : b_X12_layRest_23 Y fu this a1 a2 nn = k23 at hf H23
      refine lv_iload_n hx hb dX12_layRest_23 rfl (lv_at hl 3 rfl) ?_
      refine lv_aload_n hx hb dX12_layRest_24 rfl (lv_at hl 0 rfl) ?_
      refine q_geti (own := RX12) (ref := RX12) (C := RX12) (T := TX12) (N := 57) (kc := 9) (ci := 0) hx hb hts hin12 hown hK hW h_this (by decide) rfl 22 (by decide) hw1 rfl rfl dX12_layRest_25 ?_
      refine lv_icmp_ge (tgt := 144) hx hb dX12_layRest_28 (by decide) (fun c => ?_) (fun c => ?_)
      · have hf := g_pos c hf
        refine lv_iconst (v := 1) hx hb dX12_layRest_144 (by decide) ?_
        exact q_zret hx hb hr hlocks hW hS hf dX12_layRest_145
      · have hf := g_neg c hf
        refine lv_ldc2 hx hb hown hw2 dX12_layRest_31 ?_
        refine lv_aload_n hx hb dX12_layRest_34 rfl (lv_at hl 0 rfl) ?_
        refine lv_aload_n hx hb dX12_layRest_35 rfl (lv_at hl 0 rfl) ?_
        refine q_getp (own := RX12) (ref := RX12) (C := RX12) (T := TX12) (N := 57) (kc := 9) (ci := 0) hx hb hts hin12 hown hK hW h_this (by decide) rfl 21 (by decide) hw3 rfl rfl rfl (v := 614) rfl dX12_layRest_36 (fun hk_8 hq_9 => ?_)
        refine lv_iload_n hx hb dX12_layRest_39 rfl (lv_at hl 3 rfl) ?_
        obtain ⟨hi_10, hf⟩ := g_in hf
        refine q_iald hx hb hK hW hk_8 (inb_of hq_9 hi_10) dX12_layRest_40 ?_
        refine lv_iload_n hx hb dX12_layRest_41 rfl (lv_at hl 2 rfl) ?_
        obtain ⟨r_13, σ_12, hc_11, hf⟩ := g_bnd hf
        refine q_calli (va_runV (As := [.int (Mm.gi σ 614 (ix x3)), .int a2]) (rest := [.long 1000000]) ⟨hx, hb, hml, hown, hts⟩ (k_X12_corrected l z n D cy Y h_this hc_11) (cwV 2 hts gX12_layRest_X12_corrected rfl rfl rfl (by decide +kernel) ⟨Nat.le_of_ble_eq_true rfl, Nat.le_of_ble_eq_true rfl⟩) (q_PV (T := TX12) (N := 57) hK hN hW h_this (by decide) rfl) rfl rfl hl.1 rfl (lv_room (Nat.le_of_ble_eq_true rfl)) dX12_layRest_42 ⟨Nat.le_refl _, Nat.le_refl _⟩) hS (fun H locs hW hS => ?_)
        refine lv_i2l hx hb dX12_layRest_45 rfl ?_
        refine lv_lmul hx hb dX12_layRest_46 ?_
        refine lv_topl (fun x4_14 ex4_14 => ?_)
        have hf := g_lt ex4_14 hf
        refine lv_lstore (lv' := [(4, .long x4_14), (0, .ref (z + this)), (1, .int a1), (2, .int a2), (3, .int x3)]) hx hb dX12_layRest_47 hl (by decide) rfl (fun ls hl => ?_)
        refine lv_iconst (v := 0) hx hb dX12_layRest_49 (by decide) ?_
        refine lv_istore (lv' := [(6, .int 0), (4, .long x4_14), (0, .ref (z + this)), (1, .int a1), (2, .int a2), (3, .int x3)]) hx hb dX12_layRest_50 hl (by decide) rfl (fun ls hl => ?_)
        refine lv_iconst (v := 1) hx hb dX12_layRest_52 (by decide) ?_
        refine lv_istore (lv' := [(7, .int 1), (6, .int 0), (4, .long x4_14), (0, .ref (z + this)), (1, .int a1), (2, .int a2), (3, .int x3)]) hx hb dX12_layRest_53 hl (by decide) rfl (fun ls hl => ?_)
        exact B55 k23 H23 fu x3 x4_14 0 1 σ_12 hf _ _ _ hW hS (lv_sub hl [3, 4, 5, 6, 2, 1, 0] rfl)
  refine lv_aload_n hx hb dX12_layRest_0 rfl (lv_at hl 0 rfl) ?_
  refine q_getp (own := RX12) (ref := RX12) (C := RX12) (T := TX12) (N := 57) (kc := 9) (ci := 0) hx hb hts hin12 hown hK hW h_this (by decide) rfl 9 (by decide) hw0 rfl rfl rfl (v := 603) rfl dX12_layRest_1 (fun hk_1 hq_2 => ?_)
  refine lv_iload_n hx hb dX12_layRest_4 rfl (lv_at hl 1 rfl) ?_
  obtain ⟨hi_3, hf⟩ := g_in hf
  refine q_zald hx hb hK hW hk_1 (inb_of hq_2 hi_3) dX12_layRest_5 ?_
  refine lv_if_ne (tgt := 11) hx hb dX12_layRest_6 (by decide) (fun c => ?_) (fun c => ?_)
  · have hf := g_neg c hf
    refine lv_aload_n hx hb dX12_layRest_11 rfl (lv_at hl 0 rfl) ?_
    refine lv_iload_n hx hb dX12_layRest_12 rfl (lv_at hl 1 rfl) ?_
    obtain ⟨σ_5, hc_4, hf⟩ := g_bn1 hf
    refine q_callv (va_runV (As := [.int a1]) (rest := []) ⟨hx, hb, hml, hown, hts⟩ (k_X12_layCounts l z n D cy Y h_this hc_4) (cwV 1 hts gX12_layRest_X12_layCounts rfl rfl rfl (by decide +kernel) ⟨Nat.le_of_ble_eq_true rfl, Nat.le_of_ble_eq_true rfl⟩) (q_PV (T := TX12) (N := 57) hK hN hW h_this (by decide) rfl) rfl rfl hl.1 rfl (lv_room (Nat.le_of_ble_eq_true rfl)) dX12_layRest_13 ⟨Nat.le_refl _, Nat.le_refl _⟩) hS (fun H locs hW hS => ?_)
    refine lv_aload_n hx hb dX12_layRest_16 rfl (lv_at hl 0 rfl) ?_
    refine lv_iload_n hx hb dX12_layRest_17 rfl (lv_at hl 1 rfl) ?_
    obtain ⟨σ_7, hc_6, hf⟩ := g_bn1 hf
    refine q_callv (va_runV (As := [.int a1]) (rest := []) ⟨hx, hb, hml, hown, hts⟩ (k_X12_layTurns l z n D cy Y h_this hc_6) (cwV 1 hts gX12_layRest_X12_layTurns rfl rfl rfl (by decide +kernel) ⟨Nat.le_of_ble_eq_true rfl, Nat.le_of_ble_eq_true rfl⟩) (q_PV (T := TX12) (N := 57) hK hN hW h_this (by decide) rfl) rfl rfl hl.1 rfl (lv_room (Nat.le_of_ble_eq_true rfl)) dX12_layRest_18 ⟨Nat.le_refl _, Nat.le_refl _⟩) hS (fun H locs hW hS => ?_)
    refine lv_iconst (v := 0) hx hb dX12_layRest_21 (by decide) ?_
    refine lv_istore_n (lv' := [(3, .int 0), (0, .ref (z + this)), (1, .int a1), (2, .int a2)]) hx hb dX12_layRest_22 rfl hl (by decide) rfl (fun ls hl => ?_)
    exact B23 fu 0 σ_7 hf _ _ _ hW hS (lv_sub hl [1, 2, 3, 0] rfl)
  · have hf := g_pos c hf
    refine lv_iconst (v := 0) hx hb dX12_layRest_9 (by decide) ?_
    exact q_zret hx hb hr hlocks hW hS hf dX12_layRest_10
set_option maxRecDepth 100000 in
set_option maxHeartbeats 40000000 in
theorem k_X12_alarm (l : Launch) (z n : Nat) (D : va_G) (cy : Nat → ClassId) (Y : Yt) {fu : Nat} {this : Nat} {a1 : Int32} {σ : Mm} {r : Int32} {σ1 : Mm} (h_this : okk Y n 9 this) (hf : f_X12_alarm Y fu this a1 σ = some (r, σ1)) : Ki l yX12_alarm wsX12_alarm ({ frames := 3, cells := 0, slots := 0, locals := 79 } : Room) z n D cy Y [.ref (z + this), .int a1] σ r σ1 := by
  refine Met.ofW (cc := cX12_alarm) (maxL := 5) (ret := (some .int)) (by decide +kernel) rfl ?_
  intro p e s m args below meth c s₁ B hml hv
  obtain ⟨rfl, hW, hK, hN⟩ := hv
  have hx := B.exec
  have hb := B.bytes
  have hr := B.returns
  have hts := atoms_spec (ws := wsX12_alarm) B.pre
  have hown : s.vm.findClass RX12 = some m.cls := findClass_of_methodNamed B.named
  have hlocks := B.notSynchronized
  have hS : va_S (Az z) s.heap s.heap [] := va_S.rf
  have hin12 : ∀ w ∈ wsX120, w ∈ wsX12_alarm := fun w h => List.mem_cons_of_mem _ (List.mem_append_right _ h)
  have hw0 := hts (.fieldLink RX12 164 "SkyClocksModel" "version" "I") (List.mem_of_getElem? (i := 1) rfl)
  have hw1 := hts (.fieldLink RX12 167 "SkyClocksModel" "counts" "I") (List.mem_of_getElem? (i := 2) rfl)
  have hw2 := hts (.fieldLink RX12 77 "SkyClocksModel" "rest" "[I") (List.mem_of_getElem? (i := 3) rfl)
  have hw3 := hts (.constantLong RX12 134 (3)) (List.mem_of_getElem? (i := 4) rfl)
  have hw4 := hts (.fieldLink RX12 16 "SkyClocksModel" "errs" "[I") (List.mem_of_getElem? (i := 5) rfl)
  have hw5 := hts (.fieldLink RX12 70 "SkyClocksModel" "place" "[I") (List.mem_of_getElem? (i := 6) rfl)
  have hw6 := hts (.fieldLink RX12 22 "SkyClocksModel" "knowns" "[I") (List.mem_of_getElem? (i := 7) rfl)
  have hl := lv_entry ([.ref (z + this), .int a1]) (n := 5) (Nat.le_of_ble_eq_true rfl)
  rw [lg_entry_eq]
  generalize (lg_sl ([.ref (z + this), .int a1]) ++ List.replicate (5 - (lg_sl ([.ref (z + this), .int a1])).length) Slot.unset).toArray = ls at hl ⊢
  have hl : lv_has ls 5 [(0, .ref (z + this)), (1, .int a1)] := hl
  have B115 : ∀ (k29 : Int32 → Int32 → Mm → Option (Int32 × Mm)) (H29 : ∀ (x2 : Int32) (x3 : Int32) (σ : Mm), k29 x2 x3 σ = some (r, σ1) → ∀ (H : Heap) (locs : List Loc) (ls : Array Slot), WH z n D cy Y σ H → va_S (Az z) s.heap H locs → lv_has ls 5 [(0, .ref (z + this)), (1, .int a1), (2, .int x2), (3, .int x3)] → W p l e ({ frames := 3, cells := 0, slots := 0, locals := 79 } : Room) s m ([.ref (z + this), .int a1] : List Value).toArray below meth c H locs 0 0 (MQ below (va_Qi (fun (x : Int32) (_ : Unit) => x = r) (fun _ t => WH z n D cy Y σ1 t.heap) (Az z)) ([.ref (z + this), .int a1] : List Value).toArray s 0 0 (Az z)) (F0 m 29 ls [])) (x3 : Int32) (t0 : Int32) (σ : Mm), b_X12_alarm_115 Y fu this a1 k29 x3 t0 σ = some (r, σ1) → ∀ (H : Heap) (locs : List Loc) (ls : Array Slot), WH z n D cy Y σ H → va_S (Az z) s.heap H locs → lv_has ls 5 [(0, .ref (z + this)), (1, .int a1), (3, .int x3)] → W p l e ({ frames := 3, cells := 0, slots := 0, locals := 79 } : Room) s m ([.ref (z + this), .int a1] : List Value).toArray below meth c H locs 0 0 (MQ below (va_Qi (fun (x : Int32) (_ : Unit) => x = r) (fun _ t => WH z n D cy Y σ1 t.heap) (Az z)) ([.ref (z + this), .int a1] : List Value).toArray s 0 0 (Az z)) (F0 m 115 ls [.int t0]) := by
    intro k29 H29 x3 t0 σ  hf H locs ls hW hS hl
    refine lv_istore_n (lv' := [(2, .int t0), (0, .ref (z + this)), (1, .int a1), (3, .int x3)]) hx hb dX12_alarm_115 rfl hl (by decide) rfl (fun ls hl => ?_)
    obtain ⟨x3_19, ex3_19⟩ : ∃ y : Int32, y = x3 + 1 := ⟨_, rfl⟩
    have hf := g_lt ex3_19 hf
    refine lv_iinc (v := x3_19) (lv' := [(3, .int x3_19), (2, .int t0), (0, .ref (z + this)), (1, .int a1)]) hx hb dX12_alarm_116 hl (k := 3) rfl (by rw [ex3_19]; rfl) (by decide) rfl (fun ls hl => ?_)
    refine lv_goto (tgt := 29) hx hb dX12_alarm_119 (by decide) ?_
    exact H29 t0 x3_19 σ hf _ _ _ hW hS (lv_sub hl [2, 3, 1, 0] rfl)
  have B114 : ∀ (k29 : Int32 → Int32 → Mm → Option (Int32 × Mm)) (H29 : ∀ (x2 : Int32) (x3 : Int32) (σ : Mm), k29 x2 x3 σ = some (r, σ1) → ∀ (H : Heap) (locs : List Loc) (ls : Array Slot), WH z n D cy Y σ H → va_S (Az z) s.heap H locs → lv_has ls 5 [(0, .ref (z + this)), (1, .int a1), (2, .int x2), (3, .int x3)] → W p l e ({ frames := 3, cells := 0, slots := 0, locals := 79 } : Room) s m ([.ref (z + this), .int a1] : List Value).toArray below meth c H locs 0 0 (MQ below (va_Qi (fun (x : Int32) (_ : Unit) => x = r) (fun _ t => WH z n D cy Y σ1 t.heap) (Az z)) ([.ref (z + this), .int a1] : List Value).toArray s 0 0 (Az z)) (F0 m 29 ls [])) (x2 : Int32) (x3 : Int32) (σ : Mm), b_X12_alarm_114 Y fu this a1 k29 x2 x3 σ = some (r, σ1) → ∀ (H : Heap) (locs : List Loc) (ls : Array Slot), WH z n D cy Y σ H → va_S (Az z) s.heap H locs → lv_has ls 5 [(0, .ref (z + this)), (1, .int a1), (2, .int x2), (3, .int x3)] → W p l e ({ frames := 3, cells := 0, slots := 0, locals := 79 } : Room) s m ([.ref (z + this), .int a1] : List Value).toArray below meth c H locs 0 0 (MQ below (va_Qi (fun (x : Int32) (_ : Unit) => x = r) (fun _ t => WH z n D cy Y σ1 t.heap) (Az z)) ([.ref (z + this), .int a1] : List Value).toArray s 0 0 (Az z)) (F0 m 114 ls []) := by
    intro k29 H29 x2 x3 σ  hf H locs ls hW hS hl
    refine lv_iload_n hx hb dX12_alarm_114 rfl (lv_at hl 2 rfl) ?_
    exact B115 k29 H29 x3 x2 σ hf _ _ _ hW hS (lv_sub hl [0, 1, 3] rfl)
  have B110 : ∀ (k29 : Int32 → Int32 → Mm → Option (Int32 × Mm)) (H29 : ∀ (x2 : Int32) (x3 : Int32) (σ : Mm), k29 x2 x3 σ = some (r, σ1) → ∀ (H : Heap) (locs : List Loc) (ls : Array Slot), WH z n D cy Y σ H → va_S (Az z) s.heap H locs → lv_has ls 5 [(0, .ref (z + this)), (1, .int a1), (2, .int x2), (3, .int x3)] → W p l e ({ frames := 3, cells := 0, slots := 0, locals := 79 } : Room) s m ([.ref (z + this), .int a1] : List Value).toArray below meth c H locs 0 0 (MQ below (va_Qi (fun (x : Int32) (_ : Unit) => x = r) (fun _ t => WH z n D cy Y σ1 t.heap) (Az z)) ([.ref (z + this), .int a1] : List Value).toArray s 0 0 (Az z)) (F0 m 29 ls [])) (x3 : Int32) (σ : Mm), b_X12_alarm_110 Y fu this a1 k29 x3 σ = some (r, σ1) → ∀ (H : Heap) (locs : List Loc) (ls : Array Slot), WH z n D cy Y σ H → va_S (Az z) s.heap H locs → lv_has ls 5 [(0, .ref (z + this)), (1, .int a1), (3, .int x3)] → W p l e ({ frames := 3, cells := 0, slots := 0, locals := 79 } : Room) s m ([.ref (z + this), .int a1] : List Value).toArray below meth c H locs 0 0 (MQ below (va_Qi (fun (x : Int32) (_ : Unit) => x = r) (fun _ t => WH z n D cy Y σ1 t.heap) (Az z)) ([.ref (z + this), .int a1] : List Value).toArray s 0 0 (Az z)) (F0 m 110 ls []) := by
    intro k29 H29 x3 σ  hf H locs ls hW hS hl
    refine lv_iload_n hx hb dX12_alarm_110 rfl (lv_at hl 2 rfl) ?_
    refine lv_goto (tgt := 115) hx hb dX12_alarm_111 (by decide) ?_
    exact B115 k29 H29 x3 x3 σ hf _ _ _ hW hS (lv_sub hl [0, 1, 2] rfl)
  have B72 : ∀ (k29 : Int32 → Int32 → Mm → Option (Int32 × Mm)) (H29 : ∀ (x2 : Int32) (x3 : Int32) (σ : Mm), k29 x2 x3 σ = some (r, σ1) → ∀ (H : Heap) (locs : List Loc) (ls : Array Slot), WH z n D cy Y σ H → va_S (Az z) s.heap H locs → lv_has ls 5 [(0, .ref (z + this)), (1, .int a1), (2, .int x2), (3, .int x3)] → W p l e ({ frames := 3, cells := 0, slots := 0, locals := 79 } : Room) s m ([.ref (z + this), .int a1] : List Value).toArray below meth c H locs 0 0 (MQ below (va_Qi (fun (x : Int32) (_ : Unit) => x = r) (fun _ t => WH z n D cy Y σ1 t.heap) (Az z)) ([.ref (z + this), .int a1] : List Value).toArray s 0 0 (Az z)) (F0 m 29 ls [])) (x2 : Int32) (x3 : Int32) (t0 : Int32) (σ : Mm), b_X12_alarm_72 Y fu this a1 k29 x2 x3 t0 σ = some (r, σ1) → ∀ (H : Heap) (locs : List Loc) (ls : Array Slot), WH z n D cy Y σ H → va_S (Az z) s.heap H locs → lv_has ls 5 [(0, .ref (z + this)), (1, .int a1), (2, .int x2), (3, .int x3)] → W p l e ({ frames := 3, cells := 0, slots := 0, locals := 79 } : Room) s m ([.ref (z + this), .int a1] : List Value).toArray below meth c H locs 0 0 (MQ below (va_Qi (fun (x : Int32) (_ : Unit) => x = r) (fun _ t => WH z n D cy Y σ1 t.heap) (Az z)) ([.ref (z + this), .int a1] : List Value).toArray s 0 0 (Az z)) (F0 m 72 ls [.int t0]) := by
    intro k29 H29 x2 x3 t0 σ  hf H locs ls hW hS hl
    refine lv_istore (lv' := [(4, .int t0), (0, .ref (z + this)), (1, .int a1), (2, .int x2), (3, .int x3)]) hx hb dX12_alarm_72 hl (by decide) rfl (fun ls hl => ?_)
    refine lv_iload hx hb dX12_alarm_74 (lv_at hl 0 rfl) ?_
    refine lv_if_eq (tgt := 114) hx hb dX12_alarm_76 (by decide) (fun c => ?_) (fun c => ?_)
    · have hf := g_pos c hf
      exact B114 k29 H29 x2 x3 σ hf _ _ _ hW hS (lv_sub hl [1, 2, 3, 4] rfl)
    · have hf := g_neg c hf
      refine lv_iload_n hx hb dX12_alarm_79 rfl (lv_at hl 3 rfl) ?_
      refine lv_bipush (v := (-4)) hx hb dX12_alarm_80 (by decide) ?_
      refine lv_icmp_eq (tgt := 110) hx hb dX12_alarm_82 (by decide) (fun c => ?_) (fun c => ?_)
      · have hf := g_pos c hf
        exact B110 k29 H29 x3 σ hf _ _ _ hW hS (lv_sub hl [1, 2, 4] rfl)
      · have hf := g_neg c hf
        refine lv_aload_n hx hb dX12_alarm_85 rfl (lv_at hl 1 rfl) ?_
        refine q_getp (own := RX12) (ref := RX12) (C := RX12) (T := TX12) (N := 57) (kc := 9) (ci := 0) hx hb hts hin12 hown hK hW h_this (by decide) rfl 4 (by decide) hw6 rfl rfl rfl (v := 600) rfl dX12_alarm_86 (fun hk_20 hq_21 => ?_)
        refine lv_aload_n hx hb dX12_alarm_89 rfl (lv_at hl 1 rfl) ?_
        refine q_getp (own := RX12) (ref := RX12) (C := RX12) (T := TX12) (N := 57) (kc := 9) (ci := 0) hx hb hts hin12 hown hK hW h_this (by decide) rfl 21 (by decide) hw5 rfl rfl rfl (v := 614) rfl dX12_alarm_90 (fun hk_22 hq_23 => ?_)
        refine lv_iload_n hx hb dX12_alarm_93 rfl (lv_at hl 4 rfl) ?_
        obtain ⟨hi_24, hf⟩ := g_in hf
        refine q_iald hx hb hK hW hk_22 (inb_of hq_23 hi_24) dX12_alarm_94 ?_
        obtain ⟨hi_25, hf⟩ := g_in hf
        refine q_iald hx hb hK hW hk_20 (inb_of hq_21 hi_25) dX12_alarm_95 ?_
        refine lv_aload_n hx hb dX12_alarm_96 rfl (lv_at hl 1 rfl) ?_
        refine q_getp (own := RX12) (ref := RX12) (C := RX12) (T := TX12) (N := 57) (kc := 9) (ci := 0) hx hb hts hin12 hown hK hW h_this (by decide) rfl 4 (by decide) hw6 rfl rfl rfl (v := 600) rfl dX12_alarm_97 (fun hk_26 hq_27 => ?_)
        refine lv_aload_n hx hb dX12_alarm_100 rfl (lv_at hl 1 rfl) ?_
        refine q_getp (own := RX12) (ref := RX12) (C := RX12) (T := TX12) (N := 57) (kc := 9) (ci := 0) hx hb hts hin12 hown hK hW h_this (by decide) rfl 21 (by decide) hw5 rfl rfl rfl (v := 614) rfl dX12_alarm_101 (fun hk_28 hq_29 => ?_)
        refine lv_iload_n hx hb dX12_alarm_104 rfl (lv_at hl 3 rfl) ?_
        obtain ⟨hi_30, hf⟩ := g_in hf
        refine q_iald hx hb hK hW hk_28 (inb_of hq_29 hi_30) dX12_alarm_105 ?_
        obtain ⟨hi_31, hf⟩ := g_in hf
        refine q_iald hx hb hK hW hk_26 (inb_of hq_27 hi_31) dX12_alarm_106 ?_
        refine lv_icmp_ge (tgt := 114) hx hb dX12_alarm_107 (by decide) (fun c => ?_) (fun c => ?_)
        · have hf := g_pos c hf
          exact B114 k29 H29 x2 x3 σ hf _ _ _ hW hS (lv_sub hl [1, 2, 3, 4] rfl)
        · have hf := g_neg c hf
          exact B110 k29 H29 x3 σ hf _ _ _ hW hS (lv_sub hl [1, 2, 4] rfl)
  have B29 : ∀ (nn : Nat) (x2 : Int32) (x3 : Int32) (σ : Mm), b_X12_alarm_29 Y fu this a1 nn x2 x3 σ = some (r, σ1) → ∀ (H : Heap) (locs : List Loc) (ls : Array Slot), WH z n D cy Y σ H → va_S (Az z) s.heap H locs → lv_has ls 5 [(0, .ref (z + this)), (1, .int a1), (2, .int x2), (3, .int x3)] → W p l e ({ frames := 3, cells := 0, slots := 0, locals := 79 } : Room) s m ([.ref (z + this), .int a1] : List Value).toArray below meth c H locs 0 0 (MQ below (va_Qi (fun (x : Int32) (_ : Unit) => x = r) (fun _ t => WH z n D cy Y σ1 t.heap) (Az z)) ([.ref (z + this), .int a1] : List Value).toArray s 0 0 (Az z)) (F0 m 29 ls []) := by
    intro nn
    induction nn with
    | zero =>
      intro x2 x3 σ  hf
      have h9 : (none : Option (Int32 × Mm)) = some (r, σ1) := hf
      cases h9
    | succ nn H29 =>
      intro x2 x3 σ  hf H locs ls hW hS hl
      have hf : s_X12_alarm_29 Y fu this a1 (b_X12_alarm_29 Y fu this a1 nn) x2 x3 σ = some (r, σ1) := hf
      generalize hkk : b_X12_alarm_29 Y fu this a1 nn = k29 at hf H29
      refine lv_iload_n hx hb dX12_alarm_29 rfl (lv_at hl 3 rfl) ?_
      refine lv_aload_n hx hb dX12_alarm_30 rfl (lv_at hl 0 rfl) ?_
      refine q_geti (own := RX12) (ref := RX12) (C := RX12) (T := TX12) (N := 57) (kc := 9) (ci := 0) hx hb hts hin12 hown hK hW h_this (by decide) rfl 22 (by decide) hw1 rfl rfl dX12_alarm_31 ?_
      refine lv_icmp_ge (tgt := 122) hx hb dX12_alarm_34 (by decide) (fun c => ?_) (fun c => ?_)
      · have hf := g_pos c hf
        refine lv_iload_n hx hb dX12_alarm_122 rfl (lv_at hl 2 rfl) ?_
        exact q_iret hx hb hr hlocks hW hS hf dX12_alarm_123
      · have hf := g_neg c hf
        refine lv_aload_n hx hb dX12_alarm_37 rfl (lv_at hl 0 rfl) ?_
        refine q_getp (own := RX12) (ref := RX12) (C := RX12) (T := TX12) (N := 57) (kc := 9) (ci := 0) hx hb hts hin12 hown hK hW h_this (by decide) rfl 30 (by decide) hw2 rfl rfl rfl (v := 616) rfl dX12_alarm_38 (fun hk_7 hq_8 => ?_)
        refine lv_iload_n hx hb dX12_alarm_41 rfl (lv_at hl 3 rfl) ?_
        obtain ⟨hi_9, hf⟩ := g_in hf
        refine q_iald hx hb hK hW hk_7 (inb_of hq_8 hi_9) dX12_alarm_42 ?_
        refine lv_i2l hx hb dX12_alarm_43 rfl ?_
        obtain ⟨r_12, σ_11, hc_10, hf⟩ := g_bnd hf
        refine q_calll (va_runS (As := [.long (Int32.toInt64 (Mm.gi σ 616 (ix x3)))]) (rest := []) ⟨hx, hb, hml, hown, hts⟩ (k_X12_size l z n D cy Y hc_10) (va_cwS 1 hts gX12_alarm_X12_size rfl rfl rfl (by decide +kernel) ⟨Nat.le_of_ble_eq_true rfl, Nat.le_of_ble_eq_true rfl⟩) (q_PS hK hN hW) rfl rfl hl.1 rfl (lv_room (Nat.le_of_ble_eq_true rfl)) dX12_alarm_44 ⟨Nat.le_refl _, Nat.le_refl _⟩) hS (fun H locs hW hS => ?_)
        refine lv_ldc2 hx hb hown hw3 dX12_alarm_47 ?_
        refine lv_aload_n hx hb dX12_alarm_50 rfl (lv_at hl 0 rfl) ?_
        refine q_getp (own := RX12) (ref := RX12) (C := RX12) (T := TX12) (N := 57) (kc := 9) (ci := 0) hx hb hts hin12 hown hK hW h_this (by decide) rfl 2 (by decide) hw4 rfl rfl rfl (v := 598) rfl dX12_alarm_51 (fun hk_13 hq_14 => ?_)
        refine lv_aload_n hx hb dX12_alarm_54 rfl (lv_at hl 0 rfl) ?_
        refine q_getp (own := RX12) (ref := RX12) (C := RX12) (T := TX12) (N := 57) (kc := 9) (ci := 0) hx hb hts hin12 hown hK hW h_this (by decide) rfl 21 (by decide) hw5 rfl rfl rfl (v := 614) rfl dX12_alarm_55 (fun hk_15 hq_16 => ?_)
        refine lv_iload_n hx hb dX12_alarm_58 rfl (lv_at hl 3 rfl) ?_
        obtain ⟨hi_17, hf⟩ := g_in hf
        refine q_iald hx hb hK hW hk_15 (inb_of hq_16 hi_17) dX12_alarm_59 ?_
        obtain ⟨hi_18, hf⟩ := g_in hf
        refine q_iald hx hb hK hW hk_13 (inb_of hq_14 hi_18) dX12_alarm_60 ?_
        refine lv_i2l hx hb dX12_alarm_61 rfl ?_
        refine lv_lmul hx hb dX12_alarm_62 ?_
        refine W.lcmp hx hb dX12_alarm_63 ?_
        refine lv_if_le (tgt := 71) hx hb dX12_alarm_64 (by decide) (fun c => ?_) (fun c => ?_)
        · have hf := g_pos ((lg_cmp_le _ _).mp c) hf
          refine lv_iconst (v := 0) hx hb dX12_alarm_71 (by decide) ?_
          exact B72 k29 H29 x2 x3 0 σ_11 hf _ _ _ hW hS (lv_sub hl [0, 1, 2, 3] rfl)
        · have hf := g_neg (fun h => c ((lg_cmp_le _ _).mpr h)) hf
          refine lv_iconst (v := 1) hx hb dX12_alarm_67 (by decide) ?_
          refine lv_goto (tgt := 72) hx hb dX12_alarm_68 (by decide) ?_
          exact B72 k29 H29 x2 x3 1 σ_11 hf _ _ _ hW hS (lv_sub hl [0, 1, 2, 3] rfl)
  refine lv_iload_n hx hb dX12_alarm_0 rfl (lv_at hl 1 rfl) ?_
  obtain ⟨r_3, σ_2, hc_1, hf⟩ := g_bnd hf
  refine q_calli (va_runS (As := [.int a1]) (rest := []) ⟨hx, hb, hml, hown, hts⟩ (k_X12_isStar l z n D cy Y hc_1) (va_cwS 1 hts gX12_alarm_X12_isStar rfl rfl rfl (by decide +kernel) ⟨Nat.le_of_ble_eq_true rfl, Nat.le_of_ble_eq_true rfl⟩) (q_PS hK hN hW) rfl rfl hl.1 rfl (lv_room (Nat.le_of_ble_eq_true rfl)) dX12_alarm_1 ⟨Nat.le_refl _, Nat.le_refl _⟩) hS (fun H locs hW hS => ?_)
  refine lv_if_ne (tgt := 9) hx hb dX12_alarm_4 (by decide) (fun c => ?_) (fun c => ?_)
  · have hf := g_neg c hf
    refine lv_aload_n hx hb dX12_alarm_9 rfl (lv_at hl 0 rfl) ?_
    refine lv_iload_n hx hb dX12_alarm_10 rfl (lv_at hl 1 rfl) ?_
    refine lv_aload_n hx hb dX12_alarm_11 rfl (lv_at hl 0 rfl) ?_
    refine q_geti (own := RX12) (ref := RX12) (C := RX12) (T := TX12) (N := 57) (kc := 9) (ci := 0) hx hb hts hin12 hown hK hW h_this (by decide) rfl 7 (by decide) hw0 rfl rfl dX12_alarm_12 ?_
    obtain ⟨r_6, σ_5, hc_4, hf⟩ := g_bnd hf
    refine q_calli (va_runV (As := [.int a1, .int (Mm.gi σ_2 this 7)]) (rest := []) ⟨hx, hb, hml, hown, hts⟩ (k_X12_layRest l z n D cy Y h_this hc_4) (cwV 2 hts gX12_alarm_X12_layRest rfl rfl rfl (by decide +kernel) ⟨Nat.le_of_ble_eq_true rfl, Nat.le_of_ble_eq_true rfl⟩) (q_PV (T := TX12) (N := 57) hK hN hW h_this (by decide) rfl) rfl rfl hl.1 rfl (lv_room (Nat.le_of_ble_eq_true rfl)) dX12_alarm_15 ⟨Nat.le_refl _, Nat.le_refl _⟩) hS (fun H locs hW hS => ?_)
    refine lv_if_ne (tgt := 24) hx hb dX12_alarm_18 (by decide) (fun c => ?_) (fun c => ?_)
    · have hf := g_neg c hf
      refine lv_bipush (v := (-4)) hx hb dX12_alarm_24 (by decide) ?_
      refine lv_istore_n (lv' := [(2, .int (-4)), (0, .ref (z + this)), (1, .int a1)]) hx hb dX12_alarm_26 rfl hl (by decide) rfl (fun ls hl => ?_)
      refine lv_iconst (v := 0) hx hb dX12_alarm_27 (by decide) ?_
      refine lv_istore_n (lv' := [(3, .int 0), (2, .int (-4)), (0, .ref (z + this)), (1, .int a1)]) hx hb dX12_alarm_28 rfl hl (by decide) rfl (fun ls hl => ?_)
      exact B29 fu (-4) 0 σ_5 hf _ _ _ hW hS (lv_sub hl [2, 3, 1, 0] rfl)
    · have hf := g_pos c hf
      refine lv_bipush (v := (-2)) hx hb dX12_alarm_21 (by decide) ?_
      exact q_iret hx hb hr hlocks hW hS hf dX12_alarm_23
  · have hf := g_pos c hf
    refine lv_iconst (v := (-1)) hx hb dX12_alarm_7 (by decide) ?_
    exact q_iret hx hb hr hlocks hW hS hf dX12_alarm_8
set_option maxRecDepth 100000 in
set_option maxHeartbeats 40000000 in
theorem k_X12_isTool (l : Launch) (z n : Nat) (D : va_G) (cy : Nat → ClassId) (Y : Yt) {a0 : Int32} {σ : Mm} {r : Int32} {σ1 : Mm} (hf : f_X12_isTool Y a0 σ = some (r, σ1)) : Ki l yX12_isTool wsX12_isTool ({ frames := 1, cells := 0, slots := 0, locals := 25 } : Room) z n D cy Y [.int a0] σ r σ1 := by
  refine Met.ofW (cc := cX12_isTool) (maxL := 1) (ret := (some .boolean)) (by decide +kernel) rfl ?_
  intro p e s m args below meth c s₁ B hml hv
  obtain ⟨rfl, hW, hK, hN⟩ := hv
  have hx := B.exec
  have hb := B.bytes
  have hr := B.returns
  have hts := atoms_spec (ws := wsX12_isTool) B.pre
  have hown : s.vm.findClass RX12 = some m.cls := findClass_of_methodNamed B.named
  have hlocks := B.notSynchronized
  have hS : va_S (Az z) s.heap s.heap [] := va_S.rf
  have hw0 := hts (.constantLong RX12 140 (2)) (List.mem_of_getElem? (i := 1) rfl)
  have hl := lv_entry ([.int a0]) (n := 1) (Nat.le_of_ble_eq_true rfl)
  rw [lg_entry_eq]
  generalize (lg_sl ([.int a0]) ++ List.replicate (1 - (lg_sl ([.int a0])).length) Slot.unset).toArray = ls at hl ⊢
  have hl : lv_has ls 1 [(0, .int a0)] := hl
  refine lv_iload_n hx hb dX12_isTool_0 rfl (lv_at hl 0 rfl) ?_
  refine lv_i2l hx hb dX12_isTool_1 rfl ?_
  refine lv_lconst (v := 0) hx hb dX12_isTool_2 (by decide) ?_
  refine lv_ldc2 hx hb hown hw0 dX12_isTool_3 ?_
  obtain ⟨r_3, σ_2, hc_1, hf⟩ := g_bnd hf
  refine q_calli (va_runS (As := [.long (Int32.toInt64 a0), .long 0, .long 2]) (rest := []) ⟨hx, hb, hml, hown, hts⟩ (k_X12_in l z n D cy Y hc_1) (va_cwS 3 hts gX12_isTool_X12_in rfl rfl rfl (by decide +kernel) ⟨Nat.le_of_ble_eq_true rfl, Nat.le_of_ble_eq_true rfl⟩) (q_PS hK hN hW) rfl rfl hl.1 rfl (lv_room (Nat.le_of_ble_eq_true rfl)) dX12_isTool_6 ⟨Nat.le_refl _, Nat.le_refl _⟩) hS (fun H locs hW hS => ?_)
  exact q_zret hx hb hr hlocks hW hS hf dX12_isTool_9
set_option maxRecDepth 100000 in
set_option maxHeartbeats 40000000 in
theorem k_X12_arrival (l : Launch) (z n : Nat) (D : va_G) (cy : Nat → ClassId) (Y : Yt) {fu : Nat} {this : Nat} {a1 : Int32} {a2 : Int32} {a3 : Int32} {a4 : Int32} {a5 : Int32} {σ : Mm} {r : Int32} {σ1 : Mm} (h_this : okk Y n 9 this) (hf : f_X12_arrival Y fu this a1 a2 a3 a4 a5 σ = some (r, σ1)) : Ki l yX12_arrival wsX12_arrival ({ frames := 2, cells := 0, slots := 0, locals := 45 } : Room) z n D cy Y [.ref (z + this), .int a1, .int a2, .int a3, .int a4, .int a5] σ r σ1 := by
  refine Met.ofW (cc := cX12_arrival) (maxL := 7) (ret := (some .int)) (by decide +kernel) rfl ?_
  intro p e s m args below meth c s₁ B hml hv
  obtain ⟨rfl, hW, hK, hN⟩ := hv
  have hx := B.exec
  have hb := B.bytes
  have hr := B.returns
  have hts := atoms_spec (ws := wsX12_arrival) B.pre
  have hown : s.vm.findClass RX12 = some m.cls := findClass_of_methodNamed B.named
  have hlocks := B.notSynchronized
  have hS : va_S (Az z) s.heap s.heap [] := va_S.rf
  have hin12 : ∀ w ∈ wsX120, w ∈ wsX12_arrival := fun w h => List.mem_cons_of_mem _ (List.mem_append_right _ h)
  have hw0 := hts (.constantLong RX12 146 (1000000)) (List.mem_of_getElem? (i := 1) rfl)
  have hw1 := hts (.constantLong RX12 148 (1000)) (List.mem_of_getElem? (i := 2) rfl)
  have hw2 := hts (.constantLong RX12 153 (2000000)) (List.mem_of_getElem? (i := 3) rfl)
  have hw3 := hts (.fieldLink RX12 7 "SkyClocksModel" "manyOf" "[I") (List.mem_of_getElem? (i := 4) rfl)
  have hw4 := hts (.fieldLink RX12 13 "SkyClocksModel" "ats" "[I") (List.mem_of_getElem? (i := 5) rfl)
  have hw5 := hts (.fieldLink RX12 16 "SkyClocksModel" "errs" "[I") (List.mem_of_getElem? (i := 6) rfl)
  have hw6 := hts (.fieldLink RX12 19 "SkyClocksModel" "tools" "[I") (List.mem_of_getElem? (i := 7) rfl)
  have hw7 := hts (.fieldLink RX12 22 "SkyClocksModel" "knowns" "[I") (List.mem_of_getElem? (i := 8) rfl)
  have hl := lv_entry ([.ref (z + this), .int a1, .int a2, .int a3, .int a4, .int a5]) (n := 7) (Nat.le_of_ble_eq_true rfl)
  rw [lg_entry_eq]
  generalize (lg_sl ([.ref (z + this), .int a1, .int a2, .int a3, .int a4, .int a5]) ++ List.replicate (7 - (lg_sl ([.ref (z + this), .int a1, .int a2, .int a3, .int a4, .int a5])).length) Slot.unset).toArray = ls at hl ⊢
  have hl : lv_has ls 7 [(0, .ref (z + this)), (1, .int a1), (2, .int a2), (3, .int a3), (4, .int a4), (5, .int a5)] := hl
  have B173 : ∀ (x6 : Int32) (σ : Mm), b_X12_arrival_173 Y fu this a1 a2 a3 a4 a5 x6 σ = some (r, σ1) → ∀ (H : Heap) (locs : List Loc) (ls : Array Slot), WH z n D cy Y σ H → va_S (Az z) s.heap H locs → lv_has ls 7 [(0, .ref (z + this)), (1, .int a1), (2, .int a2), (3, .int a3), (4, .int a4), (5, .int a5), (6, .int x6)] → W p l e ({ frames := 2, cells := 0, slots := 0, locals := 45 } : Room) s m ([.ref (z + this), .int a1, .int a2, .int a3, .int a4, .int a5] : List Value).toArray below meth c H locs 0 0 (MQ below (va_Qi (fun (x : Int32) (_ : Unit) => x = r) (fun _ t => WH z n D cy Y σ1 t.heap) (Az z)) ([.ref (z + this), .int a1, .int a2, .int a3, .int a4, .int a5] : List Value).toArray s 0 0 (Az z)) (F0 m 173 ls []) := by
    intro  x6 σ  hf H locs ls hW hS hl
    refine lv_aload_n hx hb dX12_arrival_173 rfl (lv_at hl 0 rfl) ?_
    refine q_getp (own := RX12) (ref := RX12) (C := RX12) (T := TX12) (N := 57) (kc := 9) (ci := 0) hx hb hts hin12 hown hK hW h_this (by decide) rfl 1 (by decide) hw4 rfl rfl rfl (v := 597) rfl dX12_arrival_174 (fun hk_23 hq_24 => ?_)
    refine lv_iload hx hb dX12_arrival_177 (lv_at hl 6 rfl) ?_
    refine lv_iload_n hx hb dX12_arrival_179 rfl (lv_at hl 2 rfl) ?_
    obtain ⟨hi_25, hf⟩ := g_in hf
    refine q_iast hx hb hK hW hS hk_23 (inb_of hq_24 hi_25) dX12_arrival_180 (fun H locs hW hS => ?_)
    obtain ⟨σ_26, eσ_26⟩ : ∃ y : Mm, y = (Mm.si σ 597 (ix x6) a2) := ⟨_, rfl⟩
    rw [← eσ_26] at hW
    have hf := g_lt eσ_26 hf
    refine lv_aload_n hx hb dX12_arrival_181 rfl (lv_at hl 0 rfl) ?_
    refine q_getp (own := RX12) (ref := RX12) (C := RX12) (T := TX12) (N := 57) (kc := 9) (ci := 0) hx hb hts hin12 hown hK hW h_this (by decide) rfl 2 (by decide) hw5 rfl rfl rfl (v := 598) rfl dX12_arrival_182 (fun hk_27 hq_28 => ?_)
    refine lv_iload hx hb dX12_arrival_185 (lv_at hl 6 rfl) ?_
    refine lv_iload_n hx hb dX12_arrival_187 rfl (lv_at hl 3 rfl) ?_
    obtain ⟨hi_29, hf⟩ := g_in hf
    refine q_iast hx hb hK hW hS hk_27 (inb_of hq_28 hi_29) dX12_arrival_188 (fun H locs hW hS => ?_)
    obtain ⟨σ_30, eσ_30⟩ : ∃ y : Mm, y = (Mm.si σ_26 598 (ix x6) a3) := ⟨_, rfl⟩
    rw [← eσ_30] at hW
    have hf := g_lt eσ_30 hf
    refine lv_aload_n hx hb dX12_arrival_189 rfl (lv_at hl 0 rfl) ?_
    refine q_getp (own := RX12) (ref := RX12) (C := RX12) (T := TX12) (N := 57) (kc := 9) (ci := 0) hx hb hts hin12 hown hK hW h_this (by decide) rfl 3 (by decide) hw6 rfl rfl rfl (v := 599) rfl dX12_arrival_190 (fun hk_31 hq_32 => ?_)
    refine lv_iload hx hb dX12_arrival_193 (lv_at hl 6 rfl) ?_
    refine lv_iload hx hb dX12_arrival_195 (lv_at hl 4 rfl) ?_
    obtain ⟨hi_33, hf⟩ := g_in hf
    refine q_iast hx hb hK hW hS hk_31 (inb_of hq_32 hi_33) dX12_arrival_197 (fun H locs hW hS => ?_)
    obtain ⟨σ_34, eσ_34⟩ : ∃ y : Mm, y = (Mm.si σ_30 599 (ix x6) a4) := ⟨_, rfl⟩
    rw [← eσ_34] at hW
    have hf := g_lt eσ_34 hf
    refine lv_aload_n hx hb dX12_arrival_198 rfl (lv_at hl 0 rfl) ?_
    refine q_getp (own := RX12) (ref := RX12) (C := RX12) (T := TX12) (N := 57) (kc := 9) (ci := 0) hx hb hts hin12 hown hK hW h_this (by decide) rfl 4 (by decide) hw7 rfl rfl rfl (v := 600) rfl dX12_arrival_199 (fun hk_35 hq_36 => ?_)
    refine lv_iload hx hb dX12_arrival_202 (lv_at hl 6 rfl) ?_
    refine lv_iload hx hb dX12_arrival_204 (lv_at hl 5 rfl) ?_
    obtain ⟨hi_37, hf⟩ := g_in hf
    refine q_iast hx hb hK hW hS hk_35 (inb_of hq_36 hi_37) dX12_arrival_206 (fun H locs hW hS => ?_)
    obtain ⟨σ_38, eσ_38⟩ : ∃ y : Mm, y = (Mm.si σ_34 600 (ix x6) a5) := ⟨_, rfl⟩
    rw [← eσ_38] at hW
    have hf := g_lt eσ_38 hf
    refine lv_aload_n hx hb dX12_arrival_207 rfl (lv_at hl 0 rfl) ?_
    refine q_getp (own := RX12) (ref := RX12) (C := RX12) (T := TX12) (N := 57) (kc := 9) (ci := 0) hx hb hts hin12 hown hK hW h_this (by decide) rfl 0 (by decide) hw3 rfl rfl rfl (v := 596) rfl dX12_arrival_208 (fun hk_39 hq_40 => ?_)
    refine lv_iload_n hx hb dX12_arrival_211 rfl (lv_at hl 1 rfl) ?_
    refine lv_dup2_11 hx hb dX12_arrival_212 rfl rfl ?_
    obtain ⟨hi_41, hf⟩ := g_in hf
    refine q_iald hx hb hK hW hk_39 (inb_of hq_40 hi_41) dX12_arrival_213 ?_
    refine lv_iconst (v := 1) hx hb dX12_arrival_214 (by decide) ?_
    refine lv_iadd hx hb dX12_arrival_215 ?_
    obtain ⟨hi_42, hf⟩ := g_in hf
    refine q_iast hx hb hK hW hS hk_39 (inb_of hq_40 hi_42) dX12_arrival_216 (fun H locs hW hS => ?_)
    obtain ⟨σ_43, eσ_43⟩ : ∃ y : Mm, y = (Mm.si σ_38 596 (ix a1) ((Mm.gi σ_38 596 (ix a1)) + 1)) := ⟨_, rfl⟩
    rw [← eσ_43] at hW
    have hf := g_lt eσ_43 hf
    refine lv_aload_n hx hb dX12_arrival_217 rfl (lv_at hl 0 rfl) ?_
    refine q_getp (own := RX12) (ref := RX12) (C := RX12) (T := TX12) (N := 57) (kc := 9) (ci := 0) hx hb hts hin12 hown hK hW h_this (by decide) rfl 0 (by decide) hw3 rfl rfl rfl (v := 596) rfl dX12_arrival_218 (fun hk_44 hq_45 => ?_)
    refine lv_iload_n hx hb dX12_arrival_221 rfl (lv_at hl 1 rfl) ?_
    obtain ⟨hi_46, hf⟩ := g_in hf
    refine q_iald hx hb hK hW hk_44 (inb_of hq_45 hi_46) dX12_arrival_222 ?_
    exact q_iret hx hb hr hlocks hW hS hf dX12_arrival_223
  have B81 : ∀ (nn : Nat) (x6 : Int32) (σ : Mm), b_X12_arrival_81 Y fu this a1 a2 a3 a4 a5 nn x6 σ = some (r, σ1) → ∀ (H : Heap) (locs : List Loc) (ls : Array Slot), WH z n D cy Y σ H → va_S (Az z) s.heap H locs → lv_has ls 7 [(0, .ref (z + this)), (1, .int a1), (2, .int a2), (3, .int a3), (4, .int a4), (5, .int a5), (6, .int x6)] → W p l e ({ frames := 2, cells := 0, slots := 0, locals := 45 } : Room) s m ([.ref (z + this), .int a1, .int a2, .int a3, .int a4, .int a5] : List Value).toArray below meth c H locs 0 0 (MQ below (va_Qi (fun (x : Int32) (_ : Unit) => x = r) (fun _ t => WH z n D cy Y σ1 t.heap) (Az z)) ([.ref (z + this), .int a1, .int a2, .int a3, .int a4, .int a5] : List Value).toArray s 0 0 (Az z)) (F0 m 81 ls []) := by
    intro nn
    induction nn with
    | zero =>
      intro x6 σ  hf
      have h9 : (none : Option (Int32 × Mm)) = some (r, σ1) := hf
      cases h9
    | succ nn H81 =>
      intro x6 σ  hf H locs ls hW hS hl
      have hf : s_X12_arrival_81 Y fu this a1 a2 a3 a4 a5 (b_X12_arrival_81 Y fu this a1 a2 a3 a4 a5 nn) x6 σ = some (r, σ1) := hf
      generalize hkk : b_X12_arrival_81 Y fu this a1 a2 a3 a4 a5 nn = k81 at hf H81
      refine lv_iload hx hb dX12_arrival_81 (lv_at hl 6 rfl) ?_
      refine lv_bipush (v := 24) hx hb dX12_arrival_83 (by decide) ?_
      refine lv_iload_n hx hb dX12_arrival_85 rfl (lv_at hl 1 rfl) ?_
      refine lv_imul hx hb dX12_arrival_86 ?_
      refine lv_icmp_le (tgt := 173) hx hb dX12_arrival_87 (by decide) (fun c => ?_) (fun c => ?_)
      · have hf := g_pos c hf
        exact B173 x6 σ hf _ _ _ hW hS (lv_sub hl [0, 1, 2, 3, 4, 5, 6] rfl)
      · have hf := g_neg c hf
        refine lv_aload_n hx hb dX12_arrival_90 rfl (lv_at hl 0 rfl) ?_
        refine q_getp (own := RX12) (ref := RX12) (C := RX12) (T := TX12) (N := 57) (kc := 9) (ci := 0) hx hb hts hin12 hown hK hW h_this (by decide) rfl 1 (by decide) hw4 rfl rfl rfl (v := 597) rfl dX12_arrival_91 (fun hk_47 hq_48 => ?_)
        refine lv_iload hx hb dX12_arrival_94 (lv_at hl 6 rfl) ?_
        refine lv_iconst (v := 1) hx hb dX12_arrival_96 (by decide) ?_
        refine lv_isub hx hb dX12_arrival_97 ?_
        obtain ⟨hi_49, hf⟩ := g_in hf
        refine q_iald hx hb hK hW hk_47 (inb_of hq_48 hi_49) dX12_arrival_98 ?_
        refine lv_iload_n hx hb dX12_arrival_99 rfl (lv_at hl 2 rfl) ?_
        refine lv_icmp_le (tgt := 173) hx hb dX12_arrival_100 (by decide) (fun c => ?_) (fun c => ?_)
        · have hf := g_pos c hf
          exact B173 x6 σ hf _ _ _ hW hS (lv_sub hl [0, 1, 2, 3, 4, 5, 6] rfl)
        · have hf := g_neg c hf
          refine lv_aload_n hx hb dX12_arrival_103 rfl (lv_at hl 0 rfl) ?_
          refine q_getp (own := RX12) (ref := RX12) (C := RX12) (T := TX12) (N := 57) (kc := 9) (ci := 0) hx hb hts hin12 hown hK hW h_this (by decide) rfl 1 (by decide) hw4 rfl rfl rfl (v := 597) rfl dX12_arrival_104 (fun hk_50 hq_51 => ?_)
          refine lv_iload hx hb dX12_arrival_107 (lv_at hl 6 rfl) ?_
          refine lv_aload_n hx hb dX12_arrival_109 rfl (lv_at hl 0 rfl) ?_
          refine q_getp (own := RX12) (ref := RX12) (C := RX12) (T := TX12) (N := 57) (kc := 9) (ci := 0) hx hb hts hin12 hown hK hW h_this (by decide) rfl 1 (by decide) hw4 rfl rfl rfl (v := 597) rfl dX12_arrival_110 (fun hk_52 hq_53 => ?_)
          refine lv_iload hx hb dX12_arrival_113 (lv_at hl 6 rfl) ?_
          refine lv_iconst (v := 1) hx hb dX12_arrival_115 (by decide) ?_
          refine lv_isub hx hb dX12_arrival_116 ?_
          obtain ⟨hi_54, hf⟩ := g_in hf
          refine q_iald hx hb hK hW hk_52 (inb_of hq_53 hi_54) dX12_arrival_117 ?_
          obtain ⟨hi_55, hf⟩ := g_in hf
          refine q_iast hx hb hK hW hS hk_50 (inb_of hq_51 hi_55) dX12_arrival_118 (fun H locs hW hS => ?_)
          obtain ⟨σ_56, eσ_56⟩ : ∃ y : Mm, y = (Mm.si σ 597 (ix x6) (Mm.gi σ 597 (ix (x6 - 1)))) := ⟨_, rfl⟩
          rw [← eσ_56] at hW
          have hf := g_lt eσ_56 hf
          refine lv_aload_n hx hb dX12_arrival_119 rfl (lv_at hl 0 rfl) ?_
          refine q_getp (own := RX12) (ref := RX12) (C := RX12) (T := TX12) (N := 57) (kc := 9) (ci := 0) hx hb hts hin12 hown hK hW h_this (by decide) rfl 2 (by decide) hw5 rfl rfl rfl (v := 598) rfl dX12_arrival_120 (fun hk_57 hq_58 => ?_)
          refine lv_iload hx hb dX12_arrival_123 (lv_at hl 6 rfl) ?_
          refine lv_aload_n hx hb dX12_arrival_125 rfl (lv_at hl 0 rfl) ?_
          refine q_getp (own := RX12) (ref := RX12) (C := RX12) (T := TX12) (N := 57) (kc := 9) (ci := 0) hx hb hts hin12 hown hK hW h_this (by decide) rfl 2 (by decide) hw5 rfl rfl rfl (v := 598) rfl dX12_arrival_126 (fun hk_59 hq_60 => ?_)
          refine lv_iload hx hb dX12_arrival_129 (lv_at hl 6 rfl) ?_
          refine lv_iconst (v := 1) hx hb dX12_arrival_131 (by decide) ?_
          refine lv_isub hx hb dX12_arrival_132 ?_
          obtain ⟨hi_61, hf⟩ := g_in hf
          refine q_iald hx hb hK hW hk_59 (inb_of hq_60 hi_61) dX12_arrival_133 ?_
          obtain ⟨hi_62, hf⟩ := g_in hf
          refine q_iast hx hb hK hW hS hk_57 (inb_of hq_58 hi_62) dX12_arrival_134 (fun H locs hW hS => ?_)
          obtain ⟨σ_63, eσ_63⟩ : ∃ y : Mm, y = (Mm.si σ_56 598 (ix x6) (Mm.gi σ_56 598 (ix (x6 - 1)))) := ⟨_, rfl⟩
          rw [← eσ_63] at hW
          have hf := g_lt eσ_63 hf
          refine lv_aload_n hx hb dX12_arrival_135 rfl (lv_at hl 0 rfl) ?_
          refine q_getp (own := RX12) (ref := RX12) (C := RX12) (T := TX12) (N := 57) (kc := 9) (ci := 0) hx hb hts hin12 hown hK hW h_this (by decide) rfl 3 (by decide) hw6 rfl rfl rfl (v := 599) rfl dX12_arrival_136 (fun hk_64 hq_65 => ?_)
          refine lv_iload hx hb dX12_arrival_139 (lv_at hl 6 rfl) ?_
          refine lv_aload_n hx hb dX12_arrival_141 rfl (lv_at hl 0 rfl) ?_
          refine q_getp (own := RX12) (ref := RX12) (C := RX12) (T := TX12) (N := 57) (kc := 9) (ci := 0) hx hb hts hin12 hown hK hW h_this (by decide) rfl 3 (by decide) hw6 rfl rfl rfl (v := 599) rfl dX12_arrival_142 (fun hk_66 hq_67 => ?_)
          refine lv_iload hx hb dX12_arrival_145 (lv_at hl 6 rfl) ?_
          refine lv_iconst (v := 1) hx hb dX12_arrival_147 (by decide) ?_
          refine lv_isub hx hb dX12_arrival_148 ?_
          obtain ⟨hi_68, hf⟩ := g_in hf
          refine q_iald hx hb hK hW hk_66 (inb_of hq_67 hi_68) dX12_arrival_149 ?_
          obtain ⟨hi_69, hf⟩ := g_in hf
          refine q_iast hx hb hK hW hS hk_64 (inb_of hq_65 hi_69) dX12_arrival_150 (fun H locs hW hS => ?_)
          obtain ⟨σ_70, eσ_70⟩ : ∃ y : Mm, y = (Mm.si σ_63 599 (ix x6) (Mm.gi σ_63 599 (ix (x6 - 1)))) := ⟨_, rfl⟩
          rw [← eσ_70] at hW
          have hf := g_lt eσ_70 hf
          refine lv_aload_n hx hb dX12_arrival_151 rfl (lv_at hl 0 rfl) ?_
          refine q_getp (own := RX12) (ref := RX12) (C := RX12) (T := TX12) (N := 57) (kc := 9) (ci := 0) hx hb hts hin12 hown hK hW h_this (by decide) rfl 4 (by decide) hw7 rfl rfl rfl (v := 600) rfl dX12_arrival_152 (fun hk_71 hq_72 => ?_)
          refine lv_iload hx hb dX12_arrival_155 (lv_at hl 6 rfl) ?_
          refine lv_aload_n hx hb dX12_arrival_157 rfl (lv_at hl 0 rfl) ?_
          refine q_getp (own := RX12) (ref := RX12) (C := RX12) (T := TX12) (N := 57) (kc := 9) (ci := 0) hx hb hts hin12 hown hK hW h_this (by decide) rfl 4 (by decide) hw7 rfl rfl rfl (v := 600) rfl dX12_arrival_158 (fun hk_73 hq_74 => ?_)
          refine lv_iload hx hb dX12_arrival_161 (lv_at hl 6 rfl) ?_
          refine lv_iconst (v := 1) hx hb dX12_arrival_163 (by decide) ?_
          refine lv_isub hx hb dX12_arrival_164 ?_
          obtain ⟨hi_75, hf⟩ := g_in hf
          refine q_iald hx hb hK hW hk_73 (inb_of hq_74 hi_75) dX12_arrival_165 ?_
          obtain ⟨hi_76, hf⟩ := g_in hf
          refine q_iast hx hb hK hW hS hk_71 (inb_of hq_72 hi_76) dX12_arrival_166 (fun H locs hW hS => ?_)
          obtain ⟨σ_77, eσ_77⟩ : ∃ y : Mm, y = (Mm.si σ_70 600 (ix x6) (Mm.gi σ_70 600 (ix (x6 - 1)))) := ⟨_, rfl⟩
          rw [← eσ_77] at hW
          have hf := g_lt eσ_77 hf
          obtain ⟨x6_78, ex6_78⟩ : ∃ y : Int32, y = x6 + (-1) := ⟨_, rfl⟩
          have hf := g_lt ex6_78 hf
          refine lv_iinc (v := x6_78) (lv' := [(6, .int x6_78), (0, .ref (z + this)), (1, .int a1), (2, .int a2), (3, .int a3), (4, .int a4), (5, .int a5)]) hx hb dX12_arrival_167 hl (k := 6) rfl (by rw [ex6_78]; rfl) (by decide) rfl (fun ls hl => ?_)
          refine lv_goto (tgt := 81) hx hb dX12_arrival_170 (by decide) ?_
          exact H81 x6_78 σ_77 hf _ _ _ hW hS (lv_sub hl [1, 2, 3, 4, 5, 6, 0] rfl)
  refine lv_iload_n hx hb dX12_arrival_0 rfl (lv_at hl 1 rfl) ?_
  obtain ⟨r_3, σ_2, hc_1, hf⟩ := g_bnd hf
  refine q_calli (va_runS (As := [.int a1]) (rest := []) ⟨hx, hb, hml, hown, hts⟩ (k_X12_isStar l z n D cy Y hc_1) (va_cwS 1 hts gX12_arrival_X12_isStar rfl rfl rfl (by decide +kernel) ⟨Nat.le_of_ble_eq_true rfl, Nat.le_of_ble_eq_true rfl⟩) (q_PS hK hN hW) rfl rfl hl.1 rfl (lv_room (Nat.le_of_ble_eq_true rfl)) dX12_arrival_1 ⟨Nat.le_refl _, Nat.le_refl _⟩) hS (fun H locs hW hS => ?_)
  refine lv_if_eq (tgt := 52) hx hb dX12_arrival_4 (by decide) (fun c => ?_) (fun c => ?_)
  · have hf := g_pos c hf
    refine lv_iconst (v := (-1)) hx hb dX12_arrival_52 (by decide) ?_
    exact q_iret hx hb hr hlocks hW hS hf dX12_arrival_53
  · have hf := g_neg c hf
    refine lv_iload_n hx hb dX12_arrival_7 rfl (lv_at hl 2 rfl) ?_
    refine lv_i2l hx hb dX12_arrival_8 rfl ?_
    refine lv_lconst (v := 0) hx hb dX12_arrival_9 (by decide) ?_
    refine lv_ldc2 hx hb hown hw0 dX12_arrival_10 ?_
    obtain ⟨r_6, σ_5, hc_4, hf⟩ := g_bnd hf
    refine q_calli (va_runS (As := [.long (Int32.toInt64 a2), .long 0, .long 1000000]) (rest := []) ⟨hx, hb, hml, hown, hts⟩ (k_X12_in l z n D cy Y hc_4) (va_cwS 3 hts gX12_arrival_X12_in rfl rfl rfl (by decide +kernel) ⟨Nat.le_of_ble_eq_true rfl, Nat.le_of_ble_eq_true rfl⟩) (q_PS hK hN hW) rfl rfl hl.1 rfl (lv_room (Nat.le_of_ble_eq_true rfl)) dX12_arrival_13 ⟨Nat.le_refl _, Nat.le_refl _⟩) hS (fun H locs hW hS => ?_)
    refine lv_if_eq (tgt := 52) hx hb dX12_arrival_16 (by decide) (fun c => ?_) (fun c => ?_)
    · have hf := g_pos c hf
      refine lv_iconst (v := (-1)) hx hb dX12_arrival_52 (by decide) ?_
      exact q_iret hx hb hr hlocks hW hS hf dX12_arrival_53
    · have hf := g_neg c hf
      refine lv_iload_n hx hb dX12_arrival_19 rfl (lv_at hl 3 rfl) ?_
      refine lv_i2l hx hb dX12_arrival_20 rfl ?_
      refine lv_lconst (v := 0) hx hb dX12_arrival_21 (by decide) ?_
      refine lv_ldc2 hx hb hown hw1 dX12_arrival_22 ?_
      obtain ⟨r_9, σ_8, hc_7, hf⟩ := g_bnd hf
      refine q_calli (va_runS (As := [.long (Int32.toInt64 a3), .long 0, .long 1000]) (rest := []) ⟨hx, hb, hml, hown, hts⟩ (k_X12_in l z n D cy Y hc_7) (va_cwS 3 hts gX12_arrival_X12_in rfl rfl rfl (by decide +kernel) ⟨Nat.le_of_ble_eq_true rfl, Nat.le_of_ble_eq_true rfl⟩) (q_PS hK hN hW) rfl rfl hl.1 rfl (lv_room (Nat.le_of_ble_eq_true rfl)) dX12_arrival_25 ⟨Nat.le_refl _, Nat.le_refl _⟩) hS (fun H locs hW hS => ?_)
      refine lv_if_eq (tgt := 52) hx hb dX12_arrival_28 (by decide) (fun c => ?_) (fun c => ?_)
      · have hf := g_pos c hf
        refine lv_iconst (v := (-1)) hx hb dX12_arrival_52 (by decide) ?_
        exact q_iret hx hb hr hlocks hW hS hf dX12_arrival_53
      · have hf := g_neg c hf
        refine lv_iload hx hb dX12_arrival_31 (lv_at hl 4 rfl) ?_
        obtain ⟨r_12, σ_11, hc_10, hf⟩ := g_bnd hf
        refine q_calli (va_runS (As := [.int a4]) (rest := []) ⟨hx, hb, hml, hown, hts⟩ (k_X12_isTool l z n D cy Y hc_10) (va_cwS 1 hts gX12_arrival_X12_isTool rfl rfl rfl (by decide +kernel) ⟨Nat.le_of_ble_eq_true rfl, Nat.le_of_ble_eq_true rfl⟩) (q_PS hK hN hW) rfl rfl hl.1 rfl (lv_room (Nat.le_of_ble_eq_true rfl)) dX12_arrival_33 ⟨Nat.le_refl _, Nat.le_refl _⟩) hS (fun H locs hW hS => ?_)
        refine lv_if_eq (tgt := 52) hx hb dX12_arrival_36 (by decide) (fun c => ?_) (fun c => ?_)
        · have hf := g_pos c hf
          refine lv_iconst (v := (-1)) hx hb dX12_arrival_52 (by decide) ?_
          exact q_iret hx hb hr hlocks hW hS hf dX12_arrival_53
        · have hf := g_neg c hf
          refine lv_iload hx hb dX12_arrival_39 (lv_at hl 5 rfl) ?_
          refine lv_i2l hx hb dX12_arrival_41 rfl ?_
          refine lv_lconst (v := 0) hx hb dX12_arrival_42 (by decide) ?_
          refine lv_ldc2 hx hb hown hw2 dX12_arrival_43 ?_
          obtain ⟨r_15, σ_14, hc_13, hf⟩ := g_bnd hf
          refine q_calli (va_runS (As := [.long (Int32.toInt64 a5), .long 0, .long 2000000]) (rest := []) ⟨hx, hb, hml, hown, hts⟩ (k_X12_in l z n D cy Y hc_13) (va_cwS 3 hts gX12_arrival_X12_in rfl rfl rfl (by decide +kernel) ⟨Nat.le_of_ble_eq_true rfl, Nat.le_of_ble_eq_true rfl⟩) (q_PS hK hN hW) rfl rfl hl.1 rfl (lv_room (Nat.le_of_ble_eq_true rfl)) dX12_arrival_46 ⟨Nat.le_refl _, Nat.le_refl _⟩) hS (fun H locs hW hS => ?_)
          refine lv_if_ne (tgt := 54) hx hb dX12_arrival_49 (by decide) (fun c => ?_) (fun c => ?_)
          · have hf := g_neg c hf
            refine lv_aload_n hx hb dX12_arrival_54 rfl (lv_at hl 0 rfl) ?_
            refine q_getp (own := RX12) (ref := RX12) (C := RX12) (T := TX12) (N := 57) (kc := 9) (ci := 0) hx hb hts hin12 hown hK hW h_this (by decide) rfl 0 (by decide) hw3 rfl rfl rfl (v := 596) rfl dX12_arrival_55 (fun hk_16 hq_17 => ?_)
            refine lv_iload_n hx hb dX12_arrival_58 rfl (lv_at hl 1 rfl) ?_
            obtain ⟨hi_18, hf⟩ := g_in hf
            refine q_iald hx hb hK hW hk_16 (inb_of hq_17 hi_18) dX12_arrival_59 ?_
            refine lv_bipush (v := 24) hx hb dX12_arrival_60 (by decide) ?_
            refine lv_icmp_ne (tgt := 68) hx hb dX12_arrival_62 (by decide) (fun c => ?_) (fun c => ?_)
            · have hf := g_neg c hf
              refine lv_bipush (v := 24) hx hb dX12_arrival_68 (by decide) ?_
              refine lv_iload_n hx hb dX12_arrival_70 rfl (lv_at hl 1 rfl) ?_
              refine lv_imul hx hb dX12_arrival_71 ?_
              refine lv_aload_n hx hb dX12_arrival_72 rfl (lv_at hl 0 rfl) ?_
              refine q_getp (own := RX12) (ref := RX12) (C := RX12) (T := TX12) (N := 57) (kc := 9) (ci := 0) hx hb hts hin12 hown hK hW h_this (by decide) rfl 0 (by decide) hw3 rfl rfl rfl (v := 596) rfl dX12_arrival_73 (fun hk_19 hq_20 => ?_)
              refine lv_iload_n hx hb dX12_arrival_76 rfl (lv_at hl 1 rfl) ?_
              obtain ⟨hi_21, hf⟩ := g_in hf
              refine q_iald hx hb hK hW hk_19 (inb_of hq_20 hi_21) dX12_arrival_77 ?_
              refine lv_iadd hx hb dX12_arrival_78 ?_
              refine lv_topi (fun x6_22 ex6_22 => ?_)
              have hf := g_lt ex6_22 hf
              refine lv_istore (lv' := [(6, .int x6_22), (0, .ref (z + this)), (1, .int a1), (2, .int a2), (3, .int a3), (4, .int a4), (5, .int a5)]) hx hb dX12_arrival_79 hl (by decide) rfl (fun ls hl => ?_)
              exact B81 fu x6_22 σ_14 hf _ _ _ hW hS (lv_sub hl [1, 2, 3, 4, 5, 6, 0] rfl)
            · have hf := g_pos c hf
              refine lv_bipush (v := (-3)) hx hb dX12_arrival_65 (by decide) ?_
              exact q_iret hx hb hr hlocks hW hS hf dX12_arrival_67
          · have hf := g_pos c hf
            refine lv_iconst (v := (-1)) hx hb dX12_arrival_52 (by decide) ?_
            exact q_iret hx hb hr hlocks hW hS hf dX12_arrival_53
set_option maxRecDepth 100000 in
set_option maxHeartbeats 40000000 in
theorem k_X12_at (l : Launch) (z n : Nat) (D : va_G) (cy : Nat → ClassId) (Y : Yt) {fu : Nat} {this : Nat} {a1 : Int32} {a2 : Int32} {a3 : Int32} {σ : Mm} {r : Int32} {σ1 : Mm} (h_this : okk Y n 9 this) (hf : f_X12_at Y fu this a1 a2 a3 σ = some (r, σ1)) : Ki l yX12_at wsX12_at ({ frames := 2, cells := 0, slots := 0, locals := 45 } : Room) z n D cy Y [.ref (z + this), .int a1, .int a2, .int a3] σ r σ1 := by
  refine Met.ofW (cc := cX12_at) (maxL := 5) (ret := (some .int)) (by decide +kernel) rfl ?_
  intro p e s m args below meth c s₁ B hml hv
  obtain ⟨rfl, hW, hK, hN⟩ := hv
  have hx := B.exec
  have hb := B.bytes
  have hr := B.returns
  have hts := atoms_spec (ws := wsX12_at) B.pre
  have hown : s.vm.findClass RX12 = some m.cls := findClass_of_methodNamed B.named
  have hlocks := B.notSynchronized
  have hS : va_S (Az z) s.heap s.heap [] := va_S.rf
  have hin12 : ∀ w ∈ wsX120, w ∈ wsX12_at := fun w h => List.mem_cons_of_mem _ (List.mem_append_right _ h)
  have hw0 := hts (.constant RX12 157 (-100000)) (List.mem_of_getElem? (i := 3) rfl)
  have hw1 := hts (.constantLong RX12 171 (23)) (List.mem_of_getElem? (i := 1) rfl)
  have hw2 := hts (.constantLong RX12 173 (4)) (List.mem_of_getElem? (i := 2) rfl)
  have hw3 := hts (.fieldLink RX12 167 "SkyClocksModel" "counts" "I") (List.mem_of_getElem? (i := 4) rfl)
  have hw4 := hts (.fieldLink RX12 70 "SkyClocksModel" "place" "[I") (List.mem_of_getElem? (i := 6) rfl)
  have hw5 := hts (.fieldLink RX12 164 "SkyClocksModel" "version" "I") (List.mem_of_getElem? (i := 11) rfl)
  have hw6 := hts (.fieldLink RX12 22 "SkyClocksModel" "knowns" "[I") (List.mem_of_getElem? (i := 10) rfl)
  have hw7 := hts (.fieldLink RX12 19 "SkyClocksModel" "tools" "[I") (List.mem_of_getElem? (i := 9) rfl)
  have hw8 := hts (.fieldLink RX12 16 "SkyClocksModel" "errs" "[I") (List.mem_of_getElem? (i := 8) rfl)
  have hw9 := hts (.fieldLink RX12 13 "SkyClocksModel" "ats" "[I") (List.mem_of_getElem? (i := 7) rfl)
  have hw10 := hts (.constant RX12 179 (-100002)) (List.mem_of_getElem? (i := 5) rfl)
  have hl := lv_entry ([.ref (z + this), .int a1, .int a2, .int a3]) (n := 5) (Nat.le_of_ble_eq_true rfl)
  rw [lg_entry_eq]
  generalize (lg_sl ([.ref (z + this), .int a1, .int a2, .int a3]) ++ List.replicate (5 - (lg_sl ([.ref (z + this), .int a1, .int a2, .int a3])).length) Slot.unset).toArray = ls at hl ⊢
  have hl : lv_has ls 5 [(0, .ref (z + this)), (1, .int a1), (2, .int a2), (3, .int a3)] := hl
  refine lv_iload_n hx hb dX12_at_0 rfl (lv_at hl 1 rfl) ?_
  obtain ⟨r_3, σ_2, hc_1, hf⟩ := g_bnd hf
  refine q_calli (va_runS (As := [.int a1]) (rest := []) ⟨hx, hb, hml, hown, hts⟩ (k_X12_isStar l z n D cy Y hc_1) (va_cwS 1 hts gX12_at_X12_isStar rfl rfl rfl (by decide +kernel) ⟨Nat.le_of_ble_eq_true rfl, Nat.le_of_ble_eq_true rfl⟩) (q_PS hK hN hW) rfl rfl hl.1 rfl (lv_room (Nat.le_of_ble_eq_true rfl)) dX12_at_1 ⟨Nat.le_refl _, Nat.le_refl _⟩) hS (fun H locs hW hS => ?_)
  refine lv_if_eq (tgt := 31) hx hb dX12_at_4 (by decide) (fun c => ?_) (fun c => ?_)
  · have hf := g_pos c hf
    refine lv_ldc hx hb hown hw0 dX12_at_31 ?_
    exact q_iret hx hb hr hlocks hW hS hf dX12_at_33
  · have hf := g_neg c hf
    refine lv_iload_n hx hb dX12_at_7 rfl (lv_at hl 2 rfl) ?_
    refine lv_i2l hx hb dX12_at_8 rfl ?_
    refine lv_lconst (v := 0) hx hb dX12_at_9 (by decide) ?_
    refine lv_ldc2 hx hb hown hw1 dX12_at_10 ?_
    obtain ⟨r_6, σ_5, hc_4, hf⟩ := g_bnd hf
    refine q_calli (va_runS (As := [.long (Int32.toInt64 a2), .long 0, .long 23]) (rest := []) ⟨hx, hb, hml, hown, hts⟩ (k_X12_in l z n D cy Y hc_4) (va_cwS 3 hts gX12_at_X12_in rfl rfl rfl (by decide +kernel) ⟨Nat.le_of_ble_eq_true rfl, Nat.le_of_ble_eq_true rfl⟩) (q_PS hK hN hW) rfl rfl hl.1 rfl (lv_room (Nat.le_of_ble_eq_true rfl)) dX12_at_13 ⟨Nat.le_refl _, Nat.le_refl _⟩) hS (fun H locs hW hS => ?_)
    refine lv_if_eq (tgt := 31) hx hb dX12_at_16 (by decide) (fun c => ?_) (fun c => ?_)
    · have hf := g_pos c hf
      refine lv_ldc hx hb hown hw0 dX12_at_31 ?_
      exact q_iret hx hb hr hlocks hW hS hf dX12_at_33
    · have hf := g_neg c hf
      refine lv_iload_n hx hb dX12_at_19 rfl (lv_at hl 3 rfl) ?_
      refine lv_i2l hx hb dX12_at_20 rfl ?_
      refine lv_lconst (v := 0) hx hb dX12_at_21 (by decide) ?_
      refine lv_ldc2 hx hb hown hw2 dX12_at_22 ?_
      obtain ⟨r_9, σ_8, hc_7, hf⟩ := g_bnd hf
      refine q_calli (va_runS (As := [.long (Int32.toInt64 a3), .long 0, .long 4]) (rest := []) ⟨hx, hb, hml, hown, hts⟩ (k_X12_in l z n D cy Y hc_7) (va_cwS 3 hts gX12_at_X12_in rfl rfl rfl (by decide +kernel) ⟨Nat.le_of_ble_eq_true rfl, Nat.le_of_ble_eq_true rfl⟩) (q_PS hK hN hW) rfl rfl hl.1 rfl (lv_room (Nat.le_of_ble_eq_true rfl)) dX12_at_25 ⟨Nat.le_refl _, Nat.le_refl _⟩) hS (fun H locs hW hS => ?_)
      refine lv_if_ne (tgt := 34) hx hb dX12_at_28 (by decide) (fun c => ?_) (fun c => ?_)
      · have hf := g_neg c hf
        refine lv_aload_n hx hb dX12_at_34 rfl (lv_at hl 0 rfl) ?_
        refine lv_iload_n hx hb dX12_at_35 rfl (lv_at hl 1 rfl) ?_
        obtain ⟨σ_11, hc_10, hf⟩ := g_bn1 hf
        refine q_callv (va_runV (As := [.int a1]) (rest := []) ⟨hx, hb, hml, hown, hts⟩ (k_X12_layCounts l z n D cy Y h_this hc_10) (cwV 1 hts gX12_at_X12_layCounts rfl rfl rfl (by decide +kernel) ⟨Nat.le_of_ble_eq_true rfl, Nat.le_of_ble_eq_true rfl⟩) (q_PV (T := TX12) (N := 57) hK hN hW h_this (by decide) rfl) rfl rfl hl.1 rfl (lv_room (Nat.le_of_ble_eq_true rfl)) dX12_at_36 ⟨Nat.le_refl _, Nat.le_refl _⟩) hS (fun H locs hW hS => ?_)
        refine lv_iload_n hx hb dX12_at_39 rfl (lv_at hl 2 rfl) ?_
        refine lv_aload_n hx hb dX12_at_40 rfl (lv_at hl 0 rfl) ?_
        refine q_geti (own := RX12) (ref := RX12) (C := RX12) (T := TX12) (N := 57) (kc := 9) (ci := 0) hx hb hts hin12 hown hK hW h_this (by decide) rfl 22 (by decide) hw3 rfl rfl dX12_at_41 ?_
        refine lv_icmp_lt (tgt := 50) hx hb dX12_at_44 (by decide) (fun c => ?_) (fun c => ?_)
        · have hf := g_pos c hf
          refine lv_aload_n hx hb dX12_at_50 rfl (lv_at hl 0 rfl) ?_
          refine q_getp (own := RX12) (ref := RX12) (C := RX12) (T := TX12) (N := 57) (kc := 9) (ci := 0) hx hb hts hin12 hown hK hW h_this (by decide) rfl 21 (by decide) hw4 rfl rfl rfl (v := 614) rfl dX12_at_51 (fun hk_12 hq_13 => ?_)
          refine lv_iload_n hx hb dX12_at_54 rfl (lv_at hl 2 rfl) ?_
          obtain ⟨hi_14, hf⟩ := g_in hf
          refine q_iald hx hb hK hW hk_12 (inb_of hq_13 hi_14) dX12_at_55 ?_
          refine lv_topi (fun x4_15 ex4_15 => ?_)
          have hf := g_lt ex4_15 hf
          refine lv_istore (lv' := [(4, .int x4_15), (0, .ref (z + this)), (1, .int a1), (2, .int a2), (3, .int a3)]) hx hb dX12_at_56 hl (by decide) rfl (fun ls hl => ?_)
          refine lv_iload_n hx hb dX12_at_58 rfl (lv_at hl 4 rfl) ?_
          refine lv_if_ne (tgt := 72) hx hb dX12_at_59 (by decide) (fun c => ?_) (fun c => ?_)
          · have hf := g_neg c hf
            refine lv_iload_n hx hb dX12_at_72 rfl (lv_at hl 4 rfl) ?_
            refine lv_iconst (v := 1) hx hb dX12_at_73 (by decide) ?_
            refine lv_icmp_ne (tgt := 87) hx hb dX12_at_74 (by decide) (fun c => ?_) (fun c => ?_)
            · have hf := g_neg c hf
              refine lv_iload_n hx hb dX12_at_87 rfl (lv_at hl 4 rfl) ?_
              refine lv_iconst (v := 2) hx hb dX12_at_88 (by decide) ?_
              refine lv_icmp_ne (tgt := 102) hx hb dX12_at_89 (by decide) (fun c => ?_) (fun c => ?_)
              · have hf := g_neg c hf
                refine lv_iload_n hx hb dX12_at_102 rfl (lv_at hl 4 rfl) ?_
                refine lv_iconst (v := 3) hx hb dX12_at_103 (by decide) ?_
                refine lv_icmp_ne (tgt := 117) hx hb dX12_at_104 (by decide) (fun c => ?_) (fun c => ?_)
                · have hf := g_neg c hf
                  refine lv_aload_n hx hb dX12_at_117 rfl (lv_at hl 1 rfl) ?_
                  refine lv_iload hx hb dX12_at_118 (lv_at hl 0 rfl) ?_
                  refine lv_aload_n hx hb dX12_at_120 rfl (lv_at hl 1 rfl) ?_
                  refine q_geti (own := RX12) (ref := RX12) (C := RX12) (T := TX12) (N := 57) (kc := 9) (ci := 0) hx hb hts hin12 hown hK hW h_this (by decide) rfl 7 (by decide) hw5 rfl rfl dX12_at_121 ?_
                  obtain ⟨r_18, σ_17, hc_16, hf⟩ := g_bnd hf
                  refine q_calli (va_runV (As := [.int x4_15, .int (Mm.gi σ_11 this 7)]) (rest := []) ⟨hx, hb, hml, hown, hts⟩ (k_X12_corrected l z n D cy Y h_this hc_16) (cwV 2 hts gX12_at_X12_corrected rfl rfl rfl (by decide +kernel) ⟨Nat.le_of_ble_eq_true rfl, Nat.le_of_ble_eq_true rfl⟩) (q_PV (T := TX12) (N := 57) hK hN hW h_this (by decide) rfl) rfl rfl hl.1 rfl (lv_room (Nat.le_of_ble_eq_true rfl)) dX12_at_124 ⟨Nat.le_refl _, Nat.le_refl _⟩) hS (fun H locs hW hS => ?_)
                  exact q_iret hx hb hr hlocks hW hS hf dX12_at_127
                · have hf := g_pos c hf
                  refine lv_aload_n hx hb dX12_at_107 rfl (lv_at hl 1 rfl) ?_
                  refine q_getp (own := RX12) (ref := RX12) (C := RX12) (T := TX12) (N := 57) (kc := 9) (ci := 0) hx hb hts hin12 hown hK hW h_this (by decide) rfl 4 (by decide) hw6 rfl rfl rfl (v := 600) rfl dX12_at_108 (fun hk_19 hq_20 => ?_)
                  refine lv_iload hx hb dX12_at_111 (lv_at hl 0 rfl) ?_
                  obtain ⟨hi_21, hf⟩ := g_in hf
                  refine q_iald hx hb hK hW hk_19 (inb_of hq_20 hi_21) dX12_at_113 ?_
                  refine lv_goto (tgt := 127) hx hb dX12_at_114 (by decide) ?_
                  exact q_iret hx hb hr hlocks hW hS hf dX12_at_127
              · have hf := g_pos c hf
                refine lv_aload_n hx hb dX12_at_92 rfl (lv_at hl 1 rfl) ?_
                refine q_getp (own := RX12) (ref := RX12) (C := RX12) (T := TX12) (N := 57) (kc := 9) (ci := 0) hx hb hts hin12 hown hK hW h_this (by decide) rfl 3 (by decide) hw7 rfl rfl rfl (v := 599) rfl dX12_at_93 (fun hk_22 hq_23 => ?_)
                refine lv_iload hx hb dX12_at_96 (lv_at hl 0 rfl) ?_
                obtain ⟨hi_24, hf⟩ := g_in hf
                refine q_iald hx hb hK hW hk_22 (inb_of hq_23 hi_24) dX12_at_98 ?_
                refine lv_goto (tgt := 127) hx hb dX12_at_99 (by decide) ?_
                exact q_iret hx hb hr hlocks hW hS hf dX12_at_127
            · have hf := g_pos c hf
              refine lv_aload_n hx hb dX12_at_77 rfl (lv_at hl 1 rfl) ?_
              refine q_getp (own := RX12) (ref := RX12) (C := RX12) (T := TX12) (N := 57) (kc := 9) (ci := 0) hx hb hts hin12 hown hK hW h_this (by decide) rfl 2 (by decide) hw8 rfl rfl rfl (v := 598) rfl dX12_at_78 (fun hk_25 hq_26 => ?_)
              refine lv_iload hx hb dX12_at_81 (lv_at hl 0 rfl) ?_
              obtain ⟨hi_27, hf⟩ := g_in hf
              refine q_iald hx hb hK hW hk_25 (inb_of hq_26 hi_27) dX12_at_83 ?_
              refine lv_goto (tgt := 127) hx hb dX12_at_84 (by decide) ?_
              exact q_iret hx hb hr hlocks hW hS hf dX12_at_127
          · have hf := g_pos c hf
            refine lv_aload_n hx hb dX12_at_62 rfl (lv_at hl 1 rfl) ?_
            refine q_getp (own := RX12) (ref := RX12) (C := RX12) (T := TX12) (N := 57) (kc := 9) (ci := 0) hx hb hts hin12 hown hK hW h_this (by decide) rfl 1 (by decide) hw9 rfl rfl rfl (v := 597) rfl dX12_at_63 (fun hk_28 hq_29 => ?_)
            refine lv_iload hx hb dX12_at_66 (lv_at hl 0 rfl) ?_
            obtain ⟨hi_30, hf⟩ := g_in hf
            refine q_iald hx hb hK hW hk_28 (inb_of hq_29 hi_30) dX12_at_68 ?_
            refine lv_goto (tgt := 127) hx hb dX12_at_69 (by decide) ?_
            exact q_iret hx hb hr hlocks hW hS hf dX12_at_127
        · have hf := g_neg c hf
          refine lv_ldc hx hb hown hw10 dX12_at_47 ?_
          exact q_iret hx hb hr hlocks hW hS hf dX12_at_49
      · have hf := g_pos c hf
        refine lv_ldc hx hb hown hw0 dX12_at_31 ?_
        exact q_iret hx hb hr hlocks hW hS hf dX12_at_33
set_option maxRecDepth 100000 in
set_option maxHeartbeats 40000000 in
theorem k_X12_layPairs (l : Launch) (z n : Nat) (D : va_G) (cy : Nat → ClassId) (Y : Yt) {fu : Nat} {this : Nat} {a1 : Int32} {a2 : Int32} {σ : Mm} {σ1 : Mm} (h_this : okk Y n 9 this) (hf : f_X12_layPairs Y fu this a1 a2 σ = some σ1) : Kv l yX12_layPairs wsX12_layPairs ({ frames := 3, cells := 0, slots := 0, locals := 79 } : Room) z n D cy Y [.ref (z + this), .int a1, .int a2] σ σ1 := by
  refine Met.ofW (cc := cX12_layPairs) (maxL := 7) (ret := none) (by decide +kernel) rfl ?_
  intro p e s m args below meth c s₁ B hml hv
  obtain ⟨rfl, hW, hK, hN⟩ := hv
  have hx := B.exec
  have hb := B.bytes
  have hr := B.returns
  have hts := atoms_spec (ws := wsX12_layPairs) B.pre
  have hown : s.vm.findClass RX12 = some m.cls := findClass_of_methodNamed B.named
  have hlocks := B.notSynchronized
  have hS : va_S (Az z) s.heap s.heap [] := va_S.rf
  have hin12 : ∀ w ∈ wsX120, w ∈ wsX12_layPairs := fun w h => List.mem_cons_of_mem _ (List.mem_append_right _ h)
  have hw0 := hts (.fieldLink RX12 346 "SkyClocksModel" "pairs" "I") (List.mem_of_getElem? (i := 1) rfl)
  have hw1 := hts (.fieldLink RX12 164 "SkyClocksModel" "version" "I") (List.mem_of_getElem? (i := 2) rfl)
  have hw2 := hts (.fieldLink RX12 167 "SkyClocksModel" "counts" "I") (List.mem_of_getElem? (i := 3) rfl)
  have hw3 := hts (.fieldLink RX12 19 "SkyClocksModel" "tools" "[I") (List.mem_of_getElem? (i := 4) rfl)
  have hw4 := hts (.fieldLink RX12 70 "SkyClocksModel" "place" "[I") (List.mem_of_getElem? (i := 5) rfl)
  have hw5 := hts (.fieldLink RX12 80 "SkyClocksModel" "turnOf" "[I") (List.mem_of_getElem? (i := 6) rfl)
  have hw6 := hts (.fieldLink RX12 131 "SkyClocksModel" "between" "[I") (List.mem_of_getElem? (i := 7) rfl)
  have hw7 := hts (.fieldLink RX12 13 "SkyClocksModel" "ats" "[I") (List.mem_of_getElem? (i := 8) rfl)
  have hl := lv_entry ([.ref (z + this), .int a1, .int a2]) (n := 7) (Nat.le_of_ble_eq_true rfl)
  rw [lg_entry_eq]
  generalize (lg_sl ([.ref (z + this), .int a1, .int a2]) ++ List.replicate (7 - (lg_sl ([.ref (z + this), .int a1, .int a2])).length) Slot.unset).toArray = ls at hl ⊢
  have hl : lv_has ls 7 [(0, .ref (z + this)), (1, .int a1), (2, .int a2)] := hl
  have B165 : ∀ (k7 : Int32 → Mm → Option (Mm)) (H7 : ∀ (x3 : Int32) (σ : Mm), k7 x3 σ = some σ1 → ∀ (H : Heap) (locs : List Loc) (ls : Array Slot), WH z n D cy Y σ H → va_S (Az z) s.heap H locs → lv_has ls 7 [(0, .ref (z + this)), (1, .int a1), (2, .int a2), (3, .int x3)] → W p l e ({ frames := 3, cells := 0, slots := 0, locals := 79 } : Room) s m ([.ref (z + this), .int a1, .int a2] : List Value).toArray below meth c H locs 0 0 (MQ below (va_Qv (fun (_ : Unit) => True) (fun _ t => WH z n D cy Y σ1 t.heap) (Az z)) ([.ref (z + this), .int a1, .int a2] : List Value).toArray s 0 0 (Az z)) (F0 m 7 ls [])) (x3 : Int32) (σ : Mm), b_X12_layPairs_165 Y fu this a1 a2 k7 x3 σ = some σ1 → ∀ (H : Heap) (locs : List Loc) (ls : Array Slot), WH z n D cy Y σ H → va_S (Az z) s.heap H locs → lv_has ls 7 [(0, .ref (z + this)), (1, .int a1), (2, .int a2), (3, .int x3)] → W p l e ({ frames := 3, cells := 0, slots := 0, locals := 79 } : Room) s m ([.ref (z + this), .int a1, .int a2] : List Value).toArray below meth c H locs 0 0 (MQ below (va_Qv (fun (_ : Unit) => True) (fun _ t => WH z n D cy Y σ1 t.heap) (Az z)) ([.ref (z + this), .int a1, .int a2] : List Value).toArray s 0 0 (Az z)) (F0 m 165 ls []) := by
    intro k7 H7 x3 σ  hf H locs ls hW hS hl
    obtain ⟨x3_5, ex3_5⟩ : ∃ y : Int32, y = x3 + 1 := ⟨_, rfl⟩
    have hf := g_lt ex3_5 hf
    refine lv_iinc (v := x3_5) (lv' := [(3, .int x3_5), (0, .ref (z + this)), (1, .int a1), (2, .int a2)]) hx hb dX12_layPairs_165 hl (k := 3) rfl (by rw [ex3_5]; rfl) (by decide) rfl (fun ls hl => ?_)
    refine lv_goto (tgt := 7) hx hb dX12_layPairs_168 (by decide) ?_
    exact H7 x3_5 σ hf _ _ _ hW hS (lv_sub hl [1, 2, 3, 0] rfl)
  have B159 : ∀ (k7 : Int32 → Mm → Option (Mm)) (H7 : ∀ (x3 : Int32) (σ : Mm), k7 x3 σ = some σ1 → ∀ (H : Heap) (locs : List Loc) (ls : Array Slot), WH z n D cy Y σ H → va_S (Az z) s.heap H locs → lv_has ls 7 [(0, .ref (z + this)), (1, .int a1), (2, .int a2), (3, .int x3)] → W p l e ({ frames := 3, cells := 0, slots := 0, locals := 79 } : Room) s m ([.ref (z + this), .int a1, .int a2] : List Value).toArray below meth c H locs 0 0 (MQ below (va_Qv (fun (_ : Unit) => True) (fun _ t => WH z n D cy Y σ1 t.heap) (Az z)) ([.ref (z + this), .int a1, .int a2] : List Value).toArray s 0 0 (Az z)) (F0 m 7 ls [])) (k27 : Int32 → Int32 → Mm → Option (Mm)) (H27 : ∀ (x3 : Int32) (x4 : Int32) (σ : Mm), k27 x3 x4 σ = some σ1 → ∀ (H : Heap) (locs : List Loc) (ls : Array Slot), WH z n D cy Y σ H → va_S (Az z) s.heap H locs → lv_has ls 7 [(0, .ref (z + this)), (1, .int a1), (2, .int a2), (3, .int x3), (4, .int x4)] → W p l e ({ frames := 3, cells := 0, slots := 0, locals := 79 } : Room) s m ([.ref (z + this), .int a1, .int a2] : List Value).toArray below meth c H locs 0 0 (MQ below (va_Qv (fun (_ : Unit) => True) (fun _ t => WH z n D cy Y σ1 t.heap) (Az z)) ([.ref (z + this), .int a1, .int a2] : List Value).toArray s 0 0 (Az z)) (F0 m 27 ls [])) (x3 : Int32) (x4 : Int32) (σ : Mm), b_X12_layPairs_159 Y fu this a1 a2 k7 k27 x3 x4 σ = some σ1 → ∀ (H : Heap) (locs : List Loc) (ls : Array Slot), WH z n D cy Y σ H → va_S (Az z) s.heap H locs → lv_has ls 7 [(0, .ref (z + this)), (1, .int a1), (2, .int a2), (3, .int x3), (4, .int x4)] → W p l e ({ frames := 3, cells := 0, slots := 0, locals := 79 } : Room) s m ([.ref (z + this), .int a1, .int a2] : List Value).toArray below meth c H locs 0 0 (MQ below (va_Qv (fun (_ : Unit) => True) (fun _ t => WH z n D cy Y σ1 t.heap) (Az z)) ([.ref (z + this), .int a1, .int a2] : List Value).toArray s 0 0 (Az z)) (F0 m 159 ls []) := by
    intro k7 H7 k27 H27 x3 x4 σ  hf H locs ls hW hS hl
    obtain ⟨x4_10, ex4_10⟩ : ∃ y : Int32, y = x4 + 1 := ⟨_, rfl⟩
    have hf := g_lt ex4_10 hf
    refine lv_iinc (v := x4_10) (lv' := [(4, .int x4_10), (0, .ref (z + this)), (1, .int a1), (2, .int a2), (3, .int x3)]) hx hb dX12_layPairs_159 hl (k := 4) rfl (by rw [ex4_10]; rfl) (by decide) rfl (fun ls hl => ?_)
    refine lv_goto (tgt := 27) hx hb dX12_layPairs_162 (by decide) ?_
    exact H27 x3 x4_10 σ hf _ _ _ hW hS (lv_sub hl [1, 2, 3, 4, 0] rfl)
  have B27 : ∀ (k7 : Int32 → Mm → Option (Mm)) (H7 : ∀ (x3 : Int32) (σ : Mm), k7 x3 σ = some σ1 → ∀ (H : Heap) (locs : List Loc) (ls : Array Slot), WH z n D cy Y σ H → va_S (Az z) s.heap H locs → lv_has ls 7 [(0, .ref (z + this)), (1, .int a1), (2, .int a2), (3, .int x3)] → W p l e ({ frames := 3, cells := 0, slots := 0, locals := 79 } : Room) s m ([.ref (z + this), .int a1, .int a2] : List Value).toArray below meth c H locs 0 0 (MQ below (va_Qv (fun (_ : Unit) => True) (fun _ t => WH z n D cy Y σ1 t.heap) (Az z)) ([.ref (z + this), .int a1, .int a2] : List Value).toArray s 0 0 (Az z)) (F0 m 7 ls [])) (nn : Nat) (x3 : Int32) (x4 : Int32) (σ : Mm), b_X12_layPairs_27 Y fu this a1 a2 k7 nn x3 x4 σ = some σ1 → ∀ (H : Heap) (locs : List Loc) (ls : Array Slot), WH z n D cy Y σ H → va_S (Az z) s.heap H locs → lv_has ls 7 [(0, .ref (z + this)), (1, .int a1), (2, .int a2), (3, .int x3), (4, .int x4)] → W p l e ({ frames := 3, cells := 0, slots := 0, locals := 79 } : Room) s m ([.ref (z + this), .int a1, .int a2] : List Value).toArray below meth c H locs 0 0 (MQ below (va_Qv (fun (_ : Unit) => True) (fun _ t => WH z n D cy Y σ1 t.heap) (Az z)) ([.ref (z + this), .int a1, .int a2] : List Value).toArray s 0 0 (Az z)) (F0 m 27 ls []) := by
    intro k7 H7
    intro nn
    induction nn with
    | zero =>
      intro x3 x4 σ  hf
      have h9 : (none : Option (Mm)) = some σ1 := hf
      cases h9
    | succ nn H27 =>
      intro x3 x4 σ  hf H locs ls hW hS hl
      have hf : s_X12_layPairs_27 Y fu this a1 a2 k7 (b_X12_layPairs_27 Y fu this a1 a2 k7 nn) x3 x4 σ = some σ1 := hf
      generalize hkk : b_X12_layPairs_27 Y fu this a1 a2 k7 nn = k27 at hf H27
      refine lv_iload hx hb dX12_layPairs_27 (lv_at hl 4 rfl) ?_
      refine lv_aload_n hx hb dX12_layPairs_29 rfl (lv_at hl 0 rfl) ?_
      refine q_geti (own := RX12) (ref := RX12) (C := RX12) (T := TX12) (N := 57) (kc := 9) (ci := 0) hx hb hts hin12 hown hK hW h_this (by decide) rfl 22 (by decide) hw2 rfl rfl dX12_layPairs_30 ?_
      refine lv_aload_n hx hb dX12_layPairs_33 rfl (lv_at hl 0 rfl) ?_
      refine q_geti (own := RX12) (ref := RX12) (C := RX12) (T := TX12) (N := 57) (kc := 9) (ci := 0) hx hb hts hin12 hown hK hW h_this (by decide) rfl 22 (by decide) hw2 rfl rfl dX12_layPairs_34 ?_
      refine lv_imul hx hb dX12_layPairs_37 ?_
      refine lv_icmp_ge (tgt := 165) hx hb dX12_layPairs_38 (by decide) (fun c => ?_) (fun c => ?_)
      · have hf := g_pos c hf
        exact B165 k7 H7 x3 σ hf _ _ _ hW hS (lv_sub hl [0, 1, 2, 3] rfl)
      · have hf := g_neg c hf
        refine lv_iload hx hb dX12_layPairs_41 (lv_at hl 4 rfl) ?_
        refine lv_aload_n hx hb dX12_layPairs_43 rfl (lv_at hl 0 rfl) ?_
        refine q_geti (own := RX12) (ref := RX12) (C := RX12) (T := TX12) (N := 57) (kc := 9) (ci := 0) hx hb hts hin12 hown hK hW h_this (by decide) rfl 22 (by decide) hw2 rfl rfl dX12_layPairs_44 ?_
        obtain ⟨hz_6, hf⟩ := g_ne hf
        refine lv_idiv hx hb dX12_layPairs_47 hz_6 ?_
        refine lv_topi (fun x5_7 ex5_7 => ?_)
        have hf := g_lt ex5_7 hf
        refine lv_istore (lv' := [(5, .int x5_7), (0, .ref (z + this)), (1, .int a1), (2, .int a2), (3, .int x3), (4, .int x4)]) hx hb dX12_layPairs_48 hl (by decide) rfl (fun ls hl => ?_)
        refine lv_iload hx hb dX12_layPairs_50 (lv_at hl 5 rfl) ?_
        refine lv_aload_n hx hb dX12_layPairs_52 rfl (lv_at hl 1 rfl) ?_
        refine q_geti (own := RX12) (ref := RX12) (C := RX12) (T := TX12) (N := 57) (kc := 9) (ci := 0) hx hb hts hin12 hown hK hW h_this (by decide) rfl 22 (by decide) hw2 rfl rfl dX12_layPairs_53 ?_
        obtain ⟨hz_8, hf⟩ := g_ne hf
        refine lv_irem hx hb dX12_layPairs_56 hz_8 ?_
        refine lv_topi (fun x6_9 ex6_9 => ?_)
        have hf := g_lt ex6_9 hf
        refine lv_istore (lv' := [(6, .int x6_9), (5, .int x5_7), (0, .ref (z + this)), (1, .int a1), (2, .int a2), (3, .int x3), (4, .int x4)]) hx hb dX12_layPairs_57 hl (by decide) rfl (fun ls hl => ?_)
        refine lv_iload hx hb dX12_layPairs_59 (lv_at hl 1 rfl) ?_
        refine lv_iload hx hb dX12_layPairs_61 (lv_at hl 0 rfl) ?_
        refine lv_icmp_eq (tgt := 159) hx hb dX12_layPairs_63 (by decide) (fun c => ?_) (fun c => ?_)
        · have hf := g_pos c hf
          exact B159 k7 H7 k27 H27 x3 x4 σ hf _ _ _ hW hS (lv_sub hl [2, 3, 4, 5, 6] rfl)
        · have hf := g_neg c hf
          refine lv_aload_n hx hb dX12_layPairs_66 rfl (lv_at hl 2 rfl) ?_
          refine q_getp (own := RX12) (ref := RX12) (C := RX12) (T := TX12) (N := 57) (kc := 9) (ci := 0) hx hb hts hin12 hown hK hW h_this (by decide) rfl 3 (by decide) hw3 rfl rfl rfl (v := 599) rfl dX12_layPairs_67 (fun hk_11 hq_12 => ?_)
          refine lv_aload_n hx hb dX12_layPairs_70 rfl (lv_at hl 2 rfl) ?_
          refine q_getp (own := RX12) (ref := RX12) (C := RX12) (T := TX12) (N := 57) (kc := 9) (ci := 0) hx hb hts hin12 hown hK hW h_this (by decide) rfl 21 (by decide) hw4 rfl rfl rfl (v := 614) rfl dX12_layPairs_71 (fun hk_13 hq_14 => ?_)
          refine lv_iload hx hb dX12_layPairs_74 (lv_at hl 1 rfl) ?_
          obtain ⟨hi_15, hf⟩ := g_in hf
          refine q_iald hx hb hK hW hk_13 (inb_of hq_14 hi_15) dX12_layPairs_76 ?_
          obtain ⟨hi_16, hf⟩ := g_in hf
          refine q_iald hx hb hK hW hk_11 (inb_of hq_12 hi_16) dX12_layPairs_77 ?_
          refine lv_iload_n hx hb dX12_layPairs_78 rfl (lv_at hl 3 rfl) ?_
          refine lv_icmp_ne (tgt := 159) hx hb dX12_layPairs_79 (by decide) (fun c => ?_) (fun c => ?_)
          · have hf := g_neg c hf
            exact B159 k7 H7 k27 H27 x3 x4 σ hf _ _ _ hW hS (lv_sub hl [2, 3, 4, 5, 6] rfl)
          · have hf := g_pos c hf
            refine lv_aload_n hx hb dX12_layPairs_82 rfl (lv_at hl 2 rfl) ?_
            refine q_getp (own := RX12) (ref := RX12) (C := RX12) (T := TX12) (N := 57) (kc := 9) (ci := 0) hx hb hts hin12 hown hK hW h_this (by decide) rfl 3 (by decide) hw3 rfl rfl rfl (v := 599) rfl dX12_layPairs_83 (fun hk_17 hq_18 => ?_)
            refine lv_aload_n hx hb dX12_layPairs_86 rfl (lv_at hl 2 rfl) ?_
            refine q_getp (own := RX12) (ref := RX12) (C := RX12) (T := TX12) (N := 57) (kc := 9) (ci := 0) hx hb hts hin12 hown hK hW h_this (by decide) rfl 21 (by decide) hw4 rfl rfl rfl (v := 614) rfl dX12_layPairs_87 (fun hk_19 hq_20 => ?_)
            refine lv_iload hx hb dX12_layPairs_90 (lv_at hl 0 rfl) ?_
            obtain ⟨hi_21, hf⟩ := g_in hf
            refine q_iald hx hb hK hW hk_19 (inb_of hq_20 hi_21) dX12_layPairs_92 ?_
            obtain ⟨hi_22, hf⟩ := g_in hf
            refine q_iald hx hb hK hW hk_17 (inb_of hq_18 hi_22) dX12_layPairs_93 ?_
            refine lv_iload_n hx hb dX12_layPairs_94 rfl (lv_at hl 4 rfl) ?_
            refine lv_icmp_ne (tgt := 159) hx hb dX12_layPairs_95 (by decide) (fun c => ?_) (fun c => ?_)
            · have hf := g_neg c hf
              exact B159 k7 H7 k27 H27 x3 x4 σ hf _ _ _ hW hS (lv_sub hl [2, 3, 4, 5, 6] rfl)
            · have hf := g_pos c hf
              refine lv_aload_n hx hb dX12_layPairs_98 rfl (lv_at hl 2 rfl) ?_
              refine q_getp (own := RX12) (ref := RX12) (C := RX12) (T := TX12) (N := 57) (kc := 9) (ci := 0) hx hb hts hin12 hown hK hW h_this (by decide) rfl 31 (by decide) hw5 rfl rfl rfl (v := 617) rfl dX12_layPairs_99 (fun hk_23 hq_24 => ?_)
              refine lv_iload hx hb dX12_layPairs_102 (lv_at hl 1 rfl) ?_
              obtain ⟨hi_25, hf⟩ := g_in hf
              refine q_iald hx hb hK hW hk_23 (inb_of hq_24 hi_25) dX12_layPairs_104 ?_
              refine lv_aload_n hx hb dX12_layPairs_105 rfl (lv_at hl 2 rfl) ?_
              refine q_getp (own := RX12) (ref := RX12) (C := RX12) (T := TX12) (N := 57) (kc := 9) (ci := 0) hx hb hts hin12 hown hK hW h_this (by decide) rfl 31 (by decide) hw5 rfl rfl rfl (v := 617) rfl dX12_layPairs_106 (fun hk_26 hq_27 => ?_)
              refine lv_iload hx hb dX12_layPairs_109 (lv_at hl 0 rfl) ?_
              obtain ⟨hi_28, hf⟩ := g_in hf
              refine q_iald hx hb hK hW hk_26 (inb_of hq_27 hi_28) dX12_layPairs_111 ?_
              refine lv_icmp_ne (tgt := 159) hx hb dX12_layPairs_112 (by decide) (fun c => ?_) (fun c => ?_)
              · have hf := g_neg c hf
                exact B159 k7 H7 k27 H27 x3 x4 σ hf _ _ _ hW hS (lv_sub hl [2, 3, 4, 5, 6] rfl)
              · have hf := g_pos c hf
                refine lv_aload_n hx hb dX12_layPairs_115 rfl (lv_at hl 2 rfl) ?_
                refine q_getp (own := RX12) (ref := RX12) (C := RX12) (T := TX12) (N := 57) (kc := 9) (ci := 0) hx hb hts hin12 hown hK hW h_this (by decide) rfl 55 (by decide) hw6 rfl rfl rfl (v := 634) rfl dX12_layPairs_116 (fun hk_29 hq_30 => ?_)
                refine lv_aload_n hx hb dX12_layPairs_119 rfl (lv_at hl 2 rfl) ?_
                refine q_geti (own := RX12) (ref := RX12) (C := RX12) (T := TX12) (N := 57) (kc := 9) (ci := 0) hx hb hts hin12 hown hK hW h_this (by decide) rfl 56 (by decide) hw0 rfl rfl dX12_layPairs_120 ?_
                refine lv_aload_n hx hb dX12_layPairs_123 rfl (lv_at hl 2 rfl) ?_
                refine q_getp (own := RX12) (ref := RX12) (C := RX12) (T := TX12) (N := 57) (kc := 9) (ci := 0) hx hb hts hin12 hown hK hW h_this (by decide) rfl 1 (by decide) hw7 rfl rfl rfl (v := 597) rfl dX12_layPairs_124 (fun hk_31 hq_32 => ?_)
                refine lv_aload_n hx hb dX12_layPairs_127 rfl (lv_at hl 2 rfl) ?_
                refine q_getp (own := RX12) (ref := RX12) (C := RX12) (T := TX12) (N := 57) (kc := 9) (ci := 0) hx hb hts hin12 hown hK hW h_this (by decide) rfl 21 (by decide) hw4 rfl rfl rfl (v := 614) rfl dX12_layPairs_128 (fun hk_33 hq_34 => ?_)
                refine lv_iload hx hb dX12_layPairs_131 (lv_at hl 1 rfl) ?_
                obtain ⟨hi_35, hf⟩ := g_in hf
                refine q_iald hx hb hK hW hk_33 (inb_of hq_34 hi_35) dX12_layPairs_133 ?_
                obtain ⟨hi_36, hf⟩ := g_in hf
                refine q_iald hx hb hK hW hk_31 (inb_of hq_32 hi_36) dX12_layPairs_134 ?_
                refine lv_aload_n hx hb dX12_layPairs_135 rfl (lv_at hl 2 rfl) ?_
                refine q_getp (own := RX12) (ref := RX12) (C := RX12) (T := TX12) (N := 57) (kc := 9) (ci := 0) hx hb hts hin12 hown hK hW h_this (by decide) rfl 1 (by decide) hw7 rfl rfl rfl (v := 597) rfl dX12_layPairs_136 (fun hk_37 hq_38 => ?_)
                refine lv_aload_n hx hb dX12_layPairs_139 rfl (lv_at hl 2 rfl) ?_
                refine q_getp (own := RX12) (ref := RX12) (C := RX12) (T := TX12) (N := 57) (kc := 9) (ci := 0) hx hb hts hin12 hown hK hW h_this (by decide) rfl 21 (by decide) hw4 rfl rfl rfl (v := 614) rfl dX12_layPairs_140 (fun hk_39 hq_40 => ?_)
                refine lv_iload hx hb dX12_layPairs_143 (lv_at hl 0 rfl) ?_
                obtain ⟨hi_41, hf⟩ := g_in hf
                refine q_iald hx hb hK hW hk_39 (inb_of hq_40 hi_41) dX12_layPairs_145 ?_
                obtain ⟨hi_42, hf⟩ := g_in hf
                refine q_iald hx hb hK hW hk_37 (inb_of hq_38 hi_42) dX12_layPairs_146 ?_
                refine lv_isub hx hb dX12_layPairs_147 ?_
                obtain ⟨hi_43, hf⟩ := g_in hf
                refine q_iast hx hb hK hW hS hk_29 (inb_of hq_30 hi_43) dX12_layPairs_148 (fun H locs hW hS => ?_)
                obtain ⟨σ_44, eσ_44⟩ : ∃ y : Mm, y = (Mm.si σ 634 (ix (Mm.gi σ this 56)) ((Mm.gi σ 597 (ix (Mm.gi σ 614 (ix x5_7)))) - (Mm.gi σ 597 (ix (Mm.gi σ 614 (ix x6_9)))))) := ⟨_, rfl⟩
                rw [← eσ_44] at hW
                have hf := g_lt eσ_44 hf
                refine lv_aload_n hx hb dX12_layPairs_149 rfl (lv_at hl 2 rfl) ?_
                refine lv_dup hx hb dX12_layPairs_150 rfl ?_
                refine q_geti (own := RX12) (ref := RX12) (C := RX12) (T := TX12) (N := 57) (kc := 9) (ci := 0) hx hb hts hin12 hown hK hW h_this (by decide) rfl 56 (by decide) hw0 rfl rfl dX12_layPairs_151 ?_
                refine lv_iconst (v := 1) hx hb dX12_layPairs_154 (by decide) ?_
                refine lv_iadd hx hb dX12_layPairs_155 ?_
                refine q_puti (own := RX12) (ref := RX12) (C := RX12) (T := TX12) (N := 57) (kc := 9) (ci := 0) hx hb hts hin12 tyX12_ok nmX12 hown hK hW hS h_this (by decide) rfl 56 (by decide) hw0 rfl rfl (ty := .int) (tyX12_ok 56 (by decide)) rfl rfl rfl dX12_layPairs_156 (fun H locs hW hS => ?_)
                obtain ⟨σ_45, eσ_45⟩ : ∃ y : Mm, y = (Mm.si σ_44 this 56 ((Mm.gi σ_44 this 56) + 1)) := ⟨_, rfl⟩
                rw [← eσ_45] at hW
                have hf := g_lt eσ_45 hf
                exact B159 k7 H7 k27 H27 x3 x4 σ_45 hf _ _ _ hW hS (lv_sub hl [2, 3, 4, 5, 6] rfl)
  have B7 : ∀ (nn : Nat) (x3 : Int32) (σ : Mm), b_X12_layPairs_7 Y fu this a1 a2 nn x3 σ = some σ1 → ∀ (H : Heap) (locs : List Loc) (ls : Array Slot), WH z n D cy Y σ H → va_S (Az z) s.heap H locs → lv_has ls 7 [(0, .ref (z + this)), (1, .int a1), (2, .int a2), (3, .int x3)] → W p l e ({ frames := 3, cells := 0, slots := 0, locals := 79 } : Room) s m ([.ref (z + this), .int a1, .int a2] : List Value).toArray below meth c H locs 0 0 (MQ below (va_Qv (fun (_ : Unit) => True) (fun _ t => WH z n D cy Y σ1 t.heap) (Az z)) ([.ref (z + this), .int a1, .int a2] : List Value).toArray s 0 0 (Az z)) (F0 m 7 ls []) := by
    intro nn
    induction nn with
    | zero =>
      intro x3 σ  hf
      have h9 : (none : Option (Mm)) = some σ1 := hf
      cases h9
    | succ nn H7 =>
      intro x3 σ  hf H locs ls hW hS hl
      have hf : s_X12_layPairs_7 Y fu this a1 a2 (b_X12_layPairs_7 Y fu this a1 a2 nn) x3 σ = some σ1 := hf
      generalize hkk : b_X12_layPairs_7 Y fu this a1 a2 nn = k7 at hf H7
      refine lv_iload_n hx hb dX12_layPairs_7 rfl (lv_at hl 3 rfl) ?_
      refine lv_iconst (v := 4) hx hb dX12_layPairs_8 (by decide) ?_
      refine lv_icmp_ge (tgt := 171) hx hb dX12_layPairs_9 (by decide) (fun c => ?_) (fun c => ?_)
      · have hf := g_pos c hf
        exact q_vret hx hb hr hlocks hW hS hf dX12_layPairs_171
      · have hf := g_neg c hf
        refine lv_aload_n hx hb dX12_layPairs_12 rfl (lv_at hl 0 rfl) ?_
        refine lv_iload_n hx hb dX12_layPairs_13 rfl (lv_at hl 3 rfl) ?_
        refine lv_aload_n hx hb dX12_layPairs_14 rfl (lv_at hl 0 rfl) ?_
        refine q_geti (own := RX12) (ref := RX12) (C := RX12) (T := TX12) (N := 57) (kc := 9) (ci := 0) hx hb hts hin12 hown hK hW h_this (by decide) rfl 7 (by decide) hw1 rfl rfl dX12_layPairs_15 ?_
        obtain ⟨r_4, σ_3, hc_2, hf⟩ := g_bnd hf
        refine q_calli (va_runV (As := [.int x3, .int (Mm.gi σ this 7)]) (rest := []) ⟨hx, hb, hml, hown, hts⟩ (k_X12_layRest l z n D cy Y h_this hc_2) (cwV 2 hts gX12_layPairs_X12_layRest rfl rfl rfl (by decide +kernel) ⟨Nat.le_of_ble_eq_true rfl, Nat.le_of_ble_eq_true rfl⟩) (q_PV (T := TX12) (N := 57) hK hN hW h_this (by decide) rfl) rfl rfl hl.1 rfl (lv_room (Nat.le_of_ble_eq_true rfl)) dX12_layPairs_18 ⟨Nat.le_refl _, Nat.le_refl _⟩) hS (fun H locs hW hS => ?_)
        refine lv_if_eq (tgt := 165) hx hb dX12_layPairs_21 (by decide) (fun c => ?_) (fun c => ?_)
        · have hf := g_pos c hf
          exact B165 k7 H7 x3 σ_3 hf _ _ _ hW hS (lv_sub hl [0, 1, 2, 3] rfl)
        · have hf := g_neg c hf
          refine lv_iconst (v := 0) hx hb dX12_layPairs_24 (by decide) ?_
          refine lv_istore (lv' := [(4, .int 0), (0, .ref (z + this)), (1, .int a1), (2, .int a2), (3, .int x3)]) hx hb dX12_layPairs_25 hl (by decide) rfl (fun ls hl => ?_)
          exact B27 k7 H7 fu x3 0 σ_3 hf _ _ _ hW hS (lv_sub hl [1, 2, 3, 4, 0] rfl)
  refine lv_aload_n hx hb dX12_layPairs_0 rfl (lv_at hl 0 rfl) ?_
  refine lv_iconst (v := 0) hx hb dX12_layPairs_1 (by decide) ?_
  refine q_puti (own := RX12) (ref := RX12) (C := RX12) (T := TX12) (N := 57) (kc := 9) (ci := 0) hx hb hts hin12 tyX12_ok nmX12 hown hK hW hS h_this (by decide) rfl 56 (by decide) hw0 rfl rfl (ty := .int) (tyX12_ok 56 (by decide)) rfl rfl rfl dX12_layPairs_2 (fun H locs hW hS => ?_)
  obtain ⟨σ_1, eσ_1⟩ : ∃ y : Mm, y = (Mm.si σ this 56 0) := ⟨_, rfl⟩
  rw [← eσ_1] at hW
  have hf := g_lt eσ_1 hf
  refine lv_iconst (v := 0) hx hb dX12_layPairs_5 (by decide) ?_
  refine lv_istore_n (lv' := [(3, .int 0), (0, .ref (z + this)), (1, .int a1), (2, .int a2)]) hx hb dX12_layPairs_6 rfl hl (by decide) rfl (fun ls hl => ?_)
  exact B7 fu 0 σ_1 hf _ _ _ hW hS (lv_sub hl [1, 2, 3, 0] rfl)
set_option maxRecDepth 100000 in
set_option maxHeartbeats 40000000 in
theorem k_X12_middle (l : Launch) (z n : Nat) (D : va_G) (cy : Nat → ClassId) (Y : Yt) {fu : Nat} {this : Nat} {σ : Mm} {r : Int32} {σ1 : Mm} (h_this : okk Y n 9 this) (hf : f_X12_middle Y fu this σ = some (r, σ1)) : Ki l yX12_middle wsX12_middle ({ frames := 0, cells := 0, slots := 0, locals := 0 } : Room) z n D cy Y [.ref (z + this)] σ r σ1 := by
  refine Met.ofW (cc := cX12_middle) (maxL := 6) (ret := (some .int)) (by decide +kernel) rfl ?_
  intro p e s m args below meth c s₁ B hml hv
  obtain ⟨rfl, hW, hK, hN⟩ := hv
  have hx := B.exec
  have hb := B.bytes
  have hr := B.returns
  have hts := atoms_spec (ws := wsX12_middle) B.pre
  have hown : s.vm.findClass RX12 = some m.cls := findClass_of_methodNamed B.named
  have hlocks := B.notSynchronized
  have hS : va_S (Az z) s.heap s.heap [] := va_S.rf
  have hin12 : ∀ w ∈ wsX120, w ∈ wsX12_middle := fun w h => List.mem_cons_of_mem _ (List.mem_append_right _ h)
  have hw0 := hts (.fieldLink RX12 346 "SkyClocksModel" "pairs" "I") (List.mem_of_getElem? (i := 1) rfl)
  have hw1 := hts (.fieldLink RX12 131 "SkyClocksModel" "between" "[I") (List.mem_of_getElem? (i := 2) rfl)
  have hl := lv_entry ([.ref (z + this)]) (n := 6) (Nat.le_of_ble_eq_true rfl)
  rw [lg_entry_eq]
  generalize (lg_sl ([.ref (z + this)]) ++ List.replicate (6 - (lg_sl ([.ref (z + this)])).length) Slot.unset).toArray = ls at hl ⊢
  have hl : lv_has ls 6 [(0, .ref (z + this))] := hl
  have B122 : ∀ (k4 : Int32 → Int32 → Mm → Option (Int32 × Mm)) (H4 : ∀ (x1 : Int32) (x2 : Int32) (σ : Mm), k4 x1 x2 σ = some (r, σ1) → ∀ (H : Heap) (locs : List Loc) (ls : Array Slot), WH z n D cy Y σ H → va_S (Az z) s.heap H locs → lv_has ls 6 [(0, .ref (z + this)), (1, .int x1), (2, .int x2)] → W p l e ({ frames := 0, cells := 0, slots := 0, locals := 0 } : Room) s m ([.ref (z + this)] : List Value).toArray below meth c H locs 0 0 (MQ below (va_Qi (fun (x : Int32) (_ : Unit) => x = r) (fun _ t => WH z n D cy Y σ1 t.heap) (Az z)) ([.ref (z + this)] : List Value).toArray s 0 0 (Az z)) (F0 m 4 ls [])) (x2 : Int32) (t0 : Int32) (σ : Mm), b_X12_middle_122 Y fu this k4 x2 t0 σ = some (r, σ1) → ∀ (H : Heap) (locs : List Loc) (ls : Array Slot), WH z n D cy Y σ H → va_S (Az z) s.heap H locs → lv_has ls 6 [(0, .ref (z + this)), (2, .int x2)] → W p l e ({ frames := 0, cells := 0, slots := 0, locals := 0 } : Room) s m ([.ref (z + this)] : List Value).toArray below meth c H locs 0 0 (MQ below (va_Qi (fun (x : Int32) (_ : Unit) => x = r) (fun _ t => WH z n D cy Y σ1 t.heap) (Az z)) ([.ref (z + this)] : List Value).toArray s 0 0 (Az z)) (F0 m 122 ls [.int t0]) := by
    intro k4 H4 x2 t0 σ  hf H locs ls hW hS hl
    refine lv_istore_n (lv' := [(1, .int t0), (0, .ref (z + this)), (2, .int x2)]) hx hb dX12_middle_122 rfl hl (by decide) rfl (fun ls hl => ?_)
    obtain ⟨x2_1, ex2_1⟩ : ∃ y : Int32, y = x2 + 1 := ⟨_, rfl⟩
    have hf := g_lt ex2_1 hf
    refine lv_iinc (v := x2_1) (lv' := [(2, .int x2_1), (1, .int t0), (0, .ref (z + this))]) hx hb dX12_middle_123 hl (k := 2) rfl (by rw [ex2_1]; rfl) (by decide) rfl (fun ls hl => ?_)
    refine lv_goto (tgt := 4) hx hb dX12_middle_126 (by decide) ?_
    exact H4 t0 x2_1 σ hf _ _ _ hW hS (lv_sub hl [2, 1, 0] rfl)
  have B121 : ∀ (k4 : Int32 → Int32 → Mm → Option (Int32 × Mm)) (H4 : ∀ (x1 : Int32) (x2 : Int32) (σ : Mm), k4 x1 x2 σ = some (r, σ1) → ∀ (H : Heap) (locs : List Loc) (ls : Array Slot), WH z n D cy Y σ H → va_S (Az z) s.heap H locs → lv_has ls 6 [(0, .ref (z + this)), (1, .int x1), (2, .int x2)] → W p l e ({ frames := 0, cells := 0, slots := 0, locals := 0 } : Room) s m ([.ref (z + this)] : List Value).toArray below meth c H locs 0 0 (MQ below (va_Qi (fun (x : Int32) (_ : Unit) => x = r) (fun _ t => WH z n D cy Y σ1 t.heap) (Az z)) ([.ref (z + this)] : List Value).toArray s 0 0 (Az z)) (F0 m 4 ls [])) (x1 : Int32) (x2 : Int32) (σ : Mm), b_X12_middle_121 Y fu this k4 x1 x2 σ = some (r, σ1) → ∀ (H : Heap) (locs : List Loc) (ls : Array Slot), WH z n D cy Y σ H → va_S (Az z) s.heap H locs → lv_has ls 6 [(0, .ref (z + this)), (1, .int x1), (2, .int x2)] → W p l e ({ frames := 0, cells := 0, slots := 0, locals := 0 } : Room) s m ([.ref (z + this)] : List Value).toArray below meth c H locs 0 0 (MQ below (va_Qi (fun (x : Int32) (_ : Unit) => x = r) (fun _ t => WH z n D cy Y σ1 t.heap) (Az z)) ([.ref (z + this)] : List Value).toArray s 0 0 (Az z)) (F0 m 121 ls []) := by
    intro k4 H4 x1 x2 σ  hf H locs ls hW hS hl
    refine lv_iload_n hx hb dX12_middle_121 rfl (lv_at hl 1 rfl) ?_
    exact B122 k4 H4 x2 x1 σ hf _ _ _ hW hS (lv_sub hl [0, 2] rfl)
  have B76 : ∀ (k4 : Int32 → Int32 → Mm → Option (Int32 × Mm)) (H4 : ∀ (x1 : Int32) (x2 : Int32) (σ : Mm), k4 x1 x2 σ = some (r, σ1) → ∀ (H : Heap) (locs : List Loc) (ls : Array Slot), WH z n D cy Y σ H → va_S (Az z) s.heap H locs → lv_has ls 6 [(0, .ref (z + this)), (1, .int x1), (2, .int x2)] → W p l e ({ frames := 0, cells := 0, slots := 0, locals := 0 } : Room) s m ([.ref (z + this)] : List Value).toArray below meth c H locs 0 0 (MQ below (va_Qi (fun (x : Int32) (_ : Unit) => x = r) (fun _ t => WH z n D cy Y σ1 t.heap) (Az z)) ([.ref (z + this)] : List Value).toArray s 0 0 (Az z)) (F0 m 4 ls [])) (k20 : Int32 → Int32 → Int32 → Int32 → Int32 → Mm → Option (Int32 × Mm)) (H20 : ∀ (x1 : Int32) (x2 : Int32) (x3 : Int32) (x4 : Int32) (x5 : Int32) (σ : Mm), k20 x1 x2 x3 x4 x5 σ = some (r, σ1) → ∀ (H : Heap) (locs : List Loc) (ls : Array Slot), WH z n D cy Y σ H → va_S (Az z) s.heap H locs → lv_has ls 6 [(0, .ref (z + this)), (1, .int x1), (2, .int x2), (3, .int x3), (4, .int x4), (5, .int x5)] → W p l e ({ frames := 0, cells := 0, slots := 0, locals := 0 } : Room) s m ([.ref (z + this)] : List Value).toArray below meth c H locs 0 0 (MQ below (va_Qi (fun (x : Int32) (_ : Unit) => x = r) (fun _ t => WH z n D cy Y σ1 t.heap) (Az z)) ([.ref (z + this)] : List Value).toArray s 0 0 (Az z)) (F0 m 20 ls [])) (x1 : Int32) (x2 : Int32) (x3 : Int32) (x5 : Int32) (t0 : Int32) (t1 : Int32) (σ : Mm), b_X12_middle_76 Y fu this k4 k20 x1 x2 x3 x5 t0 t1 σ = some (r, σ1) → ∀ (H : Heap) (locs : List Loc) (ls : Array Slot), WH z n D cy Y σ H → va_S (Az z) s.heap H locs → lv_has ls 6 [(0, .ref (z + this)), (1, .int x1), (2, .int x2), (3, .int x3), (5, .int x5)] → W p l e ({ frames := 0, cells := 0, slots := 0, locals := 0 } : Room) s m ([.ref (z + this)] : List Value).toArray below meth c H locs 0 0 (MQ below (va_Qi (fun (x : Int32) (_ : Unit) => x = r) (fun _ t => WH z n D cy Y σ1 t.heap) (Az z)) ([.ref (z + this)] : List Value).toArray s 0 0 (Az z)) (F0 m 76 ls [.int t0, .int t1]) := by
    intro k4 H4 k20 H20 x1 x2 x3 x5 t0 t1 σ  hf H locs ls hW hS hl
    refine lv_iadd hx hb dX12_middle_76 ?_
    refine lv_topi (fun x4_18 ex4_18 => ?_)
    have hf := g_lt ex4_18 hf
    refine lv_istore (lv' := [(4, .int x4_18), (0, .ref (z + this)), (1, .int x1), (2, .int x2), (3, .int x3), (5, .int x5)]) hx hb dX12_middle_77 hl (by decide) rfl (fun ls hl => ?_)
    obtain ⟨x5_19, ex5_19⟩ : ∃ y : Int32, y = x5 + 1 := ⟨_, rfl⟩
    have hf := g_lt ex5_19 hf
    refine lv_iinc (v := x5_19) (lv' := [(5, .int x5_19), (4, .int x4_18), (0, .ref (z + this)), (1, .int x1), (2, .int x2), (3, .int x3)]) hx hb dX12_middle_79 hl (k := 5) rfl (by rw [ex5_19]; rfl) (by decide) rfl (fun ls hl => ?_)
    refine lv_goto (tgt := 20) hx hb dX12_middle_82 (by decide) ?_
    exact H20 x1 x2 x3 x4_18 x5_19 σ hf _ _ _ hW hS (lv_sub hl [2, 3, 4, 5, 1, 0] rfl)
  have B51 : ∀ (k4 : Int32 → Int32 → Mm → Option (Int32 × Mm)) (H4 : ∀ (x1 : Int32) (x2 : Int32) (σ : Mm), k4 x1 x2 σ = some (r, σ1) → ∀ (H : Heap) (locs : List Loc) (ls : Array Slot), WH z n D cy Y σ H → va_S (Az z) s.heap H locs → lv_has ls 6 [(0, .ref (z + this)), (1, .int x1), (2, .int x2)] → W p l e ({ frames := 0, cells := 0, slots := 0, locals := 0 } : Room) s m ([.ref (z + this)] : List Value).toArray below meth c H locs 0 0 (MQ below (va_Qi (fun (x : Int32) (_ : Unit) => x = r) (fun _ t => WH z n D cy Y σ1 t.heap) (Az z)) ([.ref (z + this)] : List Value).toArray s 0 0 (Az z)) (F0 m 4 ls [])) (k20 : Int32 → Int32 → Int32 → Int32 → Int32 → Mm → Option (Int32 × Mm)) (H20 : ∀ (x1 : Int32) (x2 : Int32) (x3 : Int32) (x4 : Int32) (x5 : Int32) (σ : Mm), k20 x1 x2 x3 x4 x5 σ = some (r, σ1) → ∀ (H : Heap) (locs : List Loc) (ls : Array Slot), WH z n D cy Y σ H → va_S (Az z) s.heap H locs → lv_has ls 6 [(0, .ref (z + this)), (1, .int x1), (2, .int x2), (3, .int x3), (4, .int x4), (5, .int x5)] → W p l e ({ frames := 0, cells := 0, slots := 0, locals := 0 } : Room) s m ([.ref (z + this)] : List Value).toArray below meth c H locs 0 0 (MQ below (va_Qi (fun (x : Int32) (_ : Unit) => x = r) (fun _ t => WH z n D cy Y σ1 t.heap) (Az z)) ([.ref (z + this)] : List Value).toArray s 0 0 (Az z)) (F0 m 20 ls [])) (x1 : Int32) (x2 : Int32) (x4 : Int32) (x5 : Int32) (t0 : Int32) (t1 : Int32) (σ : Mm), b_X12_middle_51 Y fu this k4 k20 x1 x2 x4 x5 t0 t1 σ = some (r, σ1) → ∀ (H : Heap) (locs : List Loc) (ls : Array Slot), WH z n D cy Y σ H → va_S (Az z) s.heap H locs → lv_has ls 6 [(0, .ref (z + this)), (1, .int x1), (2, .int x2), (4, .int x4), (5, .int x5)] → W p l e ({ frames := 0, cells := 0, slots := 0, locals := 0 } : Room) s m ([.ref (z + this)] : List Value).toArray below meth c H locs 0 0 (MQ below (va_Qi (fun (x : Int32) (_ : Unit) => x = r) (fun _ t => WH z n D cy Y σ1 t.heap) (Az z)) ([.ref (z + this)] : List Value).toArray s 0 0 (Az z)) (F0 m 51 ls [.int t0, .int t1]) := by
    intro k4 H4 k20 H20 x1 x2 x4 x5 t0 t1 σ  hf H locs ls hW hS hl
    refine lv_iadd hx hb dX12_middle_51 ?_
    refine lv_topi (fun x3_11 ex3_11 => ?_)
    have hf := g_lt ex3_11 hf
    refine lv_istore_n (lv' := [(3, .int x3_11), (0, .ref (z + this)), (1, .int x1), (2, .int x2), (4, .int x4), (5, .int x5)]) hx hb dX12_middle_52 rfl hl (by decide) rfl (fun ls hl => ?_)
    refine lv_iload hx hb dX12_middle_53 (lv_at hl 4 rfl) ?_
    refine lv_aload_n hx hb dX12_middle_55 rfl (lv_at hl 1 rfl) ?_
    refine q_getp (own := RX12) (ref := RX12) (C := RX12) (T := TX12) (N := 57) (kc := 9) (ci := 0) hx hb hts hin12 hown hK hW h_this (by decide) rfl 55 (by decide) hw1 rfl rfl rfl (v := 634) rfl dX12_middle_56 (fun hk_12 hq_13 => ?_)
    refine lv_iload hx hb dX12_middle_59 (lv_at hl 5 rfl) ?_
    obtain ⟨hi_14, hf⟩ := g_in hf
    refine q_iald hx hb hK hW hk_12 (inb_of hq_13 hi_14) dX12_middle_61 ?_
    refine lv_aload_n hx hb dX12_middle_62 rfl (lv_at hl 1 rfl) ?_
    refine q_getp (own := RX12) (ref := RX12) (C := RX12) (T := TX12) (N := 57) (kc := 9) (ci := 0) hx hb hts hin12 hown hK hW h_this (by decide) rfl 55 (by decide) hw1 rfl rfl rfl (v := 634) rfl dX12_middle_63 (fun hk_15 hq_16 => ?_)
    refine lv_iload_n hx hb dX12_middle_66 rfl (lv_at hl 3 rfl) ?_
    obtain ⟨hi_17, hf⟩ := g_in hf
    refine q_iald hx hb hK hW hk_15 (inb_of hq_16 hi_17) dX12_middle_67 ?_
    refine lv_icmp_ne (tgt := 75) hx hb dX12_middle_68 (by decide) (fun c => ?_) (fun c => ?_)
    · have hf := g_neg c hf
      refine lv_iconst (v := 0) hx hb dX12_middle_75 (by decide) ?_
      exact B76 k4 H4 k20 H20 x1 x2 x3_11 x5 0 x4 σ hf _ _ _ hW hS (lv_sub hl [1, 2, 3, 0, 5] rfl)
    · have hf := g_pos c hf
      refine lv_iconst (v := 1) hx hb dX12_middle_71 (by decide) ?_
      refine lv_goto (tgt := 76) hx hb dX12_middle_72 (by decide) ?_
      exact B76 k4 H4 k20 H20 x1 x2 x3_11 x5 1 x4 σ hf _ _ _ hW hS (lv_sub hl [1, 2, 3, 0, 5] rfl)
  have B20 : ∀ (k4 : Int32 → Int32 → Mm → Option (Int32 × Mm)) (H4 : ∀ (x1 : Int32) (x2 : Int32) (σ : Mm), k4 x1 x2 σ = some (r, σ1) → ∀ (H : Heap) (locs : List Loc) (ls : Array Slot), WH z n D cy Y σ H → va_S (Az z) s.heap H locs → lv_has ls 6 [(0, .ref (z + this)), (1, .int x1), (2, .int x2)] → W p l e ({ frames := 0, cells := 0, slots := 0, locals := 0 } : Room) s m ([.ref (z + this)] : List Value).toArray below meth c H locs 0 0 (MQ below (va_Qi (fun (x : Int32) (_ : Unit) => x = r) (fun _ t => WH z n D cy Y σ1 t.heap) (Az z)) ([.ref (z + this)] : List Value).toArray s 0 0 (Az z)) (F0 m 4 ls [])) (nn : Nat) (x1 : Int32) (x2 : Int32) (x3 : Int32) (x4 : Int32) (x5 : Int32) (σ : Mm), b_X12_middle_20 Y fu this k4 nn x1 x2 x3 x4 x5 σ = some (r, σ1) → ∀ (H : Heap) (locs : List Loc) (ls : Array Slot), WH z n D cy Y σ H → va_S (Az z) s.heap H locs → lv_has ls 6 [(0, .ref (z + this)), (1, .int x1), (2, .int x2), (3, .int x3), (4, .int x4), (5, .int x5)] → W p l e ({ frames := 0, cells := 0, slots := 0, locals := 0 } : Room) s m ([.ref (z + this)] : List Value).toArray below meth c H locs 0 0 (MQ below (va_Qi (fun (x : Int32) (_ : Unit) => x = r) (fun _ t => WH z n D cy Y σ1 t.heap) (Az z)) ([.ref (z + this)] : List Value).toArray s 0 0 (Az z)) (F0 m 20 ls []) := by
    intro k4 H4
    intro nn
    induction nn with
    | zero =>
      intro x1 x2 x3 x4 x5 σ  hf
      have h9 : (none : Option (Int32 × Mm)) = some (r, σ1) := hf
      cases h9
    | succ nn H20 =>
      intro x1 x2 x3 x4 x5 σ  hf H locs ls hW hS hl
      have hf : s_X12_middle_20 Y fu this k4 (b_X12_middle_20 Y fu this k4 nn) x1 x2 x3 x4 x5 σ = some (r, σ1) := hf
      generalize hkk : b_X12_middle_20 Y fu this k4 nn = k20 at hf H20
      refine lv_iload hx hb dX12_middle_20 (lv_at hl 5 rfl) ?_
      refine lv_aload_n hx hb dX12_middle_22 rfl (lv_at hl 0 rfl) ?_
      refine q_geti (own := RX12) (ref := RX12) (C := RX12) (T := TX12) (N := 57) (kc := 9) (ci := 0) hx hb hts hin12 hown hK hW h_this (by decide) rfl 56 (by decide) hw0 rfl rfl dX12_middle_23 ?_
      refine lv_icmp_ge (tgt := 85) hx hb dX12_middle_26 (by decide) (fun c => ?_) (fun c => ?_)
      · have hf := g_pos c hf
        refine lv_iload_n hx hb dX12_middle_85 rfl (lv_at hl 3 rfl) ?_
        refine lv_aload_n hx hb dX12_middle_86 rfl (lv_at hl 0 rfl) ?_
        refine q_geti (own := RX12) (ref := RX12) (C := RX12) (T := TX12) (N := 57) (kc := 9) (ci := 0) hx hb hts hin12 hown hK hW h_this (by decide) rfl 56 (by decide) hw0 rfl rfl dX12_middle_87 ?_
        refine lv_iconst (v := 1) hx hb dX12_middle_90 (by decide) ?_
        refine lv_isub hx hb dX12_middle_91 ?_
        refine lv_iconst (v := 2) hx hb dX12_middle_92 (by decide) ?_
        refine lv_idiv hx hb dX12_middle_93 (by decide) ?_
        refine lv_icmp_gt (tgt := 121) hx hb dX12_middle_94 (by decide) (fun c => ?_) (fun c => ?_)
        · have hf := g_pos c hf
          exact B121 k4 H4 x1 x2 σ hf _ _ _ hW hS (lv_sub hl [0, 1, 2] rfl)
        · have hf := g_neg c hf
          refine lv_iload_n hx hb dX12_middle_97 rfl (lv_at hl 3 rfl) ?_
          refine lv_iload hx hb dX12_middle_98 (lv_at hl 4 rfl) ?_
          refine lv_iadd hx hb dX12_middle_100 ?_
          refine lv_aload_n hx hb dX12_middle_101 rfl (lv_at hl 0 rfl) ?_
          refine q_geti (own := RX12) (ref := RX12) (C := RX12) (T := TX12) (N := 57) (kc := 9) (ci := 0) hx hb hts hin12 hown hK hW h_this (by decide) rfl 56 (by decide) hw0 rfl rfl dX12_middle_102 ?_
          refine lv_iconst (v := 1) hx hb dX12_middle_105 (by decide) ?_
          refine lv_isub hx hb dX12_middle_106 ?_
          refine lv_iconst (v := 2) hx hb dX12_middle_107 (by decide) ?_
          refine lv_idiv hx hb dX12_middle_108 (by decide) ?_
          refine lv_icmp_le (tgt := 121) hx hb dX12_middle_109 (by decide) (fun c => ?_) (fun c => ?_)
          · have hf := g_pos c hf
            exact B121 k4 H4 x1 x2 σ hf _ _ _ hW hS (lv_sub hl [0, 1, 2] rfl)
          · have hf := g_neg c hf
            refine lv_aload_n hx hb dX12_middle_112 rfl (lv_at hl 0 rfl) ?_
            refine q_getp (own := RX12) (ref := RX12) (C := RX12) (T := TX12) (N := 57) (kc := 9) (ci := 0) hx hb hts hin12 hown hK hW h_this (by decide) rfl 55 (by decide) hw1 rfl rfl rfl (v := 634) rfl dX12_middle_113 (fun hk_2 hq_3 => ?_)
            refine lv_iload_n hx hb dX12_middle_116 rfl (lv_at hl 2 rfl) ?_
            obtain ⟨hi_4, hf⟩ := g_in hf
            refine q_iald hx hb hK hW hk_2 (inb_of hq_3 hi_4) dX12_middle_117 ?_
            refine lv_goto (tgt := 122) hx hb dX12_middle_118 (by decide) ?_
            exact B122 k4 H4 x2 (Mm.gi σ 634 (ix x2)) σ hf _ _ _ hW hS (lv_sub hl [0, 2] rfl)
      · have hf := g_neg c hf
        refine lv_iload_n hx hb dX12_middle_29 rfl (lv_at hl 3 rfl) ?_
        refine lv_aload_n hx hb dX12_middle_30 rfl (lv_at hl 0 rfl) ?_
        refine q_getp (own := RX12) (ref := RX12) (C := RX12) (T := TX12) (N := 57) (kc := 9) (ci := 0) hx hb hts hin12 hown hK hW h_this (by decide) rfl 55 (by decide) hw1 rfl rfl rfl (v := 634) rfl dX12_middle_31 (fun hk_5 hq_6 => ?_)
        refine lv_iload hx hb dX12_middle_34 (lv_at hl 5 rfl) ?_
        obtain ⟨hi_7, hf⟩ := g_in hf
        refine q_iald hx hb hK hW hk_5 (inb_of hq_6 hi_7) dX12_middle_36 ?_
        refine lv_aload_n hx hb dX12_middle_37 rfl (lv_at hl 0 rfl) ?_
        refine q_getp (own := RX12) (ref := RX12) (C := RX12) (T := TX12) (N := 57) (kc := 9) (ci := 0) hx hb hts hin12 hown hK hW h_this (by decide) rfl 55 (by decide) hw1 rfl rfl rfl (v := 634) rfl dX12_middle_38 (fun hk_8 hq_9 => ?_)
        refine lv_iload_n hx hb dX12_middle_41 rfl (lv_at hl 2 rfl) ?_
        obtain ⟨hi_10, hf⟩ := g_in hf
        refine q_iald hx hb hK hW hk_8 (inb_of hq_9 hi_10) dX12_middle_42 ?_
        refine lv_icmp_ge (tgt := 50) hx hb dX12_middle_43 (by decide) (fun c => ?_) (fun c => ?_)
        · have hf := g_pos c hf
          refine lv_iconst (v := 0) hx hb dX12_middle_50 (by decide) ?_
          exact B51 k4 H4 k20 H20 x1 x2 x4 x5 0 x3 σ hf _ _ _ hW hS (lv_sub hl [0, 1, 2, 4, 5] rfl)
        · have hf := g_neg c hf
          refine lv_iconst (v := 1) hx hb dX12_middle_46 (by decide) ?_
          refine lv_goto (tgt := 51) hx hb dX12_middle_47 (by decide) ?_
          exact B51 k4 H4 k20 H20 x1 x2 x4 x5 1 x3 σ hf _ _ _ hW hS (lv_sub hl [0, 1, 2, 4, 5] rfl)
  have B4 : ∀ (nn : Nat) (x1 : Int32) (x2 : Int32) (σ : Mm), b_X12_middle_4 Y fu this nn x1 x2 σ = some (r, σ1) → ∀ (H : Heap) (locs : List Loc) (ls : Array Slot), WH z n D cy Y σ H → va_S (Az z) s.heap H locs → lv_has ls 6 [(0, .ref (z + this)), (1, .int x1), (2, .int x2)] → W p l e ({ frames := 0, cells := 0, slots := 0, locals := 0 } : Room) s m ([.ref (z + this)] : List Value).toArray below meth c H locs 0 0 (MQ below (va_Qi (fun (x : Int32) (_ : Unit) => x = r) (fun _ t => WH z n D cy Y σ1 t.heap) (Az z)) ([.ref (z + this)] : List Value).toArray s 0 0 (Az z)) (F0 m 4 ls []) := by
    intro nn
    induction nn with
    | zero =>
      intro x1 x2 σ  hf
      have h9 : (none : Option (Int32 × Mm)) = some (r, σ1) := hf
      cases h9
    | succ nn H4 =>
      intro x1 x2 σ  hf H locs ls hW hS hl
      have hf : s_X12_middle_4 Y fu this (b_X12_middle_4 Y fu this nn) x1 x2 σ = some (r, σ1) := hf
      generalize hkk : b_X12_middle_4 Y fu this nn = k4 at hf H4
      refine lv_iload_n hx hb dX12_middle_4 rfl (lv_at hl 2 rfl) ?_
      refine lv_aload_n hx hb dX12_middle_5 rfl (lv_at hl 0 rfl) ?_
      refine q_geti (own := RX12) (ref := RX12) (C := RX12) (T := TX12) (N := 57) (kc := 9) (ci := 0) hx hb hts hin12 hown hK hW h_this (by decide) rfl 56 (by decide) hw0 rfl rfl dX12_middle_6 ?_
      refine lv_icmp_ge (tgt := 129) hx hb dX12_middle_9 (by decide) (fun c => ?_) (fun c => ?_)
      · have hf := g_pos c hf
        refine lv_iload_n hx hb dX12_middle_129 rfl (lv_at hl 1 rfl) ?_
        exact q_iret hx hb hr hlocks hW hS hf dX12_middle_130
      · have hf := g_neg c hf
        refine lv_iconst (v := 0) hx hb dX12_middle_12 (by decide) ?_
        refine lv_istore_n (lv' := [(3, .int 0), (0, .ref (z + this)), (1, .int x1), (2, .int x2)]) hx hb dX12_middle_13 rfl hl (by decide) rfl (fun ls hl => ?_)
        refine lv_iconst (v := 0) hx hb dX12_middle_14 (by decide) ?_
        refine lv_istore (lv' := [(4, .int 0), (3, .int 0), (0, .ref (z + this)), (1, .int x1), (2, .int x2)]) hx hb dX12_middle_15 hl (by decide) rfl (fun ls hl => ?_)
        refine lv_iconst (v := 0) hx hb dX12_middle_17 (by decide) ?_
        refine lv_istore (lv' := [(5, .int 0), (4, .int 0), (3, .int 0), (0, .ref (z + this)), (1, .int x1), (2, .int x2)]) hx hb dX12_middle_18 hl (by decide) rfl (fun ls hl => ?_)
        exact B20 k4 H4 fu x1 x2 0 0 0 σ hf _ _ _ hW hS (lv_sub hl [3, 4, 5, 2, 1, 0] rfl)
  refine lv_iconst (v := 0) hx hb dX12_middle_0 (by decide) ?_
  refine lv_istore_n (lv' := [(1, .int 0), (0, .ref (z + this))]) hx hb dX12_middle_1 rfl hl (by decide) rfl (fun ls hl => ?_)
  refine lv_iconst (v := 0) hx hb dX12_middle_2 (by decide) ?_
  refine lv_istore_n (lv' := [(2, .int 0), (1, .int 0), (0, .ref (z + this))]) hx hb dX12_middle_3 rfl hl (by decide) rfl (fun ls hl => ?_)
  exact B4 fu 0 0 σ hf _ _ _ hW hS (lv_sub hl [2, 1, 0] rfl)
set_option maxRecDepth 100000 in
set_option maxHeartbeats 40000000 in
theorem k_X12_between (l : Launch) (z n : Nat) (D : va_G) (cy : Nat → ClassId) (Y : Yt) {fu : Nat} {this : Nat} {a1 : Int32} {a2 : Int32} {σ : Mm} {r : Int32} {σ1 : Mm} (h_this : okk Y n 9 this) (hf : f_X12_between Y fu this a1 a2 σ = some (r, σ1)) : Ki l yX12_between wsX12_between ({ frames := 4, cells := 0, slots := 0, locals := 105 } : Room) z n D cy Y [.ref (z + this), .int a1, .int a2] σ r σ1 := by
  refine Met.ofW (cc := cX12_between) (maxL := 3) (ret := (some .int)) (by decide +kernel) rfl ?_
  intro p e s m args below meth c s₁ B hml hv
  obtain ⟨rfl, hW, hK, hN⟩ := hv
  have hx := B.exec
  have hb := B.bytes
  have hr := B.returns
  have hts := atoms_spec (ws := wsX12_between) B.pre
  have hown : s.vm.findClass RX12 = some m.cls := findClass_of_methodNamed B.named
  have hlocks := B.notSynchronized
  have hS : va_S (Az z) s.heap s.heap [] := va_S.rf
  have hin12 : ∀ w ∈ wsX120, w ∈ wsX12_between := fun w h => List.mem_cons_of_mem _ (List.mem_append_right _ h)
  have hw0 := hts (.constant RX12 349 (-10000000)) (List.mem_of_getElem? (i := 1) rfl)
  have hw1 := hts (.fieldLink RX12 346 "SkyClocksModel" "pairs" "I") (List.mem_of_getElem? (i := 2) rfl)
  have hw2 := hts (.constant RX12 354 (-10000002)) (List.mem_of_getElem? (i := 3) rfl)
  have hl := lv_entry ([.ref (z + this), .int a1, .int a2]) (n := 3) (Nat.le_of_ble_eq_true rfl)
  rw [lg_entry_eq]
  generalize (lg_sl ([.ref (z + this), .int a1, .int a2]) ++ List.replicate (3 - (lg_sl ([.ref (z + this), .int a1, .int a2])).length) Slot.unset).toArray = ls at hl ⊢
  have hl : lv_has ls 3 [(0, .ref (z + this)), (1, .int a1), (2, .int a2)] := hl
  refine lv_iload_n hx hb dX12_between_0 rfl (lv_at hl 1 rfl) ?_
  obtain ⟨r_3, σ_2, hc_1, hf⟩ := g_bnd hf
  refine q_calli (va_runS (As := [.int a1]) (rest := []) ⟨hx, hb, hml, hown, hts⟩ (k_X12_isTool l z n D cy Y hc_1) (va_cwS 1 hts gX12_between_X12_isTool rfl rfl rfl (by decide +kernel) ⟨Nat.le_of_ble_eq_true rfl, Nat.le_of_ble_eq_true rfl⟩) (q_PS hK hN hW) rfl rfl hl.1 rfl (lv_room (Nat.le_of_ble_eq_true rfl)) dX12_between_1 ⟨Nat.le_refl _, Nat.le_refl _⟩) hS (fun H locs hW hS => ?_)
  refine lv_if_eq (tgt := 19) hx hb dX12_between_4 (by decide) (fun c => ?_) (fun c => ?_)
  · have hf := g_pos c hf
    refine lv_ldcw hx hb hown hw0 dX12_between_19 ?_
    exact q_iret hx hb hr hlocks hW hS hf dX12_between_22
  · have hf := g_neg c hf
    refine lv_iload_n hx hb dX12_between_7 rfl (lv_at hl 2 rfl) ?_
    obtain ⟨r_6, σ_5, hc_4, hf⟩ := g_bnd hf
    refine q_calli (va_runS (As := [.int a2]) (rest := []) ⟨hx, hb, hml, hown, hts⟩ (k_X12_isTool l z n D cy Y hc_4) (va_cwS 1 hts gX12_between_X12_isTool rfl rfl rfl (by decide +kernel) ⟨Nat.le_of_ble_eq_true rfl, Nat.le_of_ble_eq_true rfl⟩) (q_PS hK hN hW) rfl rfl hl.1 rfl (lv_room (Nat.le_of_ble_eq_true rfl)) dX12_between_8 ⟨Nat.le_refl _, Nat.le_refl _⟩) hS (fun H locs hW hS => ?_)
    refine lv_if_eq (tgt := 19) hx hb dX12_between_11 (by decide) (fun c => ?_) (fun c => ?_)
    · have hf := g_pos c hf
      refine lv_ldcw hx hb hown hw0 dX12_between_19 ?_
      exact q_iret hx hb hr hlocks hW hS hf dX12_between_22
    · have hf := g_neg c hf
      refine lv_iload_n hx hb dX12_between_14 rfl (lv_at hl 1 rfl) ?_
      refine lv_iload_n hx hb dX12_between_15 rfl (lv_at hl 2 rfl) ?_
      refine lv_icmp_ne (tgt := 23) hx hb dX12_between_16 (by decide) (fun c => ?_) (fun c => ?_)
      · have hf := g_neg c hf
        refine lv_aload_n hx hb dX12_between_23 rfl (lv_at hl 0 rfl) ?_
        refine lv_iload_n hx hb dX12_between_24 rfl (lv_at hl 1 rfl) ?_
        refine lv_iload_n hx hb dX12_between_25 rfl (lv_at hl 2 rfl) ?_
        obtain ⟨σ_8, hc_7, hf⟩ := g_bn1 hf
        refine q_callv (va_runV (As := [.int a1, .int a2]) (rest := []) ⟨hx, hb, hml, hown, hts⟩ (k_X12_layPairs l z n D cy Y h_this hc_7) (cwV 2 hts gX12_between_X12_layPairs rfl rfl rfl (by decide +kernel) ⟨Nat.le_of_ble_eq_true rfl, Nat.le_of_ble_eq_true rfl⟩) (q_PV (T := TX12) (N := 57) hK hN hW h_this (by decide) rfl) rfl rfl hl.1 rfl (lv_room (Nat.le_of_ble_eq_true rfl)) dX12_between_26 ⟨Nat.le_refl _, Nat.le_refl _⟩) hS (fun H locs hW hS => ?_)
        refine lv_aload_n hx hb dX12_between_29 rfl (lv_at hl 0 rfl) ?_
        refine q_geti (own := RX12) (ref := RX12) (C := RX12) (T := TX12) (N := 57) (kc := 9) (ci := 0) hx hb hts hin12 hown hK hW h_this (by decide) rfl 56 (by decide) hw1 rfl rfl dX12_between_30 ?_
        refine lv_if_ne (tgt := 42) hx hb dX12_between_33 (by decide) (fun c => ?_) (fun c => ?_)
        · have hf := g_neg c hf
          refine lv_aload_n hx hb dX12_between_42 rfl (lv_at hl 0 rfl) ?_
          obtain ⟨r_11, σ_10, hc_9, hf⟩ := g_bnd hf
          refine q_calli (va_runV (As := []) (rest := []) ⟨hx, hb, hml, hown, hts⟩ (k_X12_middle l z n D cy Y h_this hc_9) (cwV 0 hts gX12_between_X12_middle rfl rfl rfl (by decide +kernel) ⟨Nat.le_of_ble_eq_true rfl, Nat.le_of_ble_eq_true rfl⟩) (q_PV (T := TX12) (N := 57) hK hN hW h_this (by decide) rfl) rfl rfl hl.1 rfl (lv_room (Nat.le_of_ble_eq_true rfl)) dX12_between_43 ⟨Nat.le_refl _, Nat.le_refl _⟩) hS (fun H locs hW hS => ?_)
          exact q_iret hx hb hr hlocks hW hS hf dX12_between_46
        · have hf := g_pos c hf
          refine lv_ldcw hx hb hown hw2 dX12_between_36 ?_
          refine lv_goto (tgt := 46) hx hb dX12_between_39 (by decide) ?_
          exact q_iret hx hb hr hlocks hW hS hf dX12_between_46
      · have hf := g_pos c hf
        refine lv_ldcw hx hb hown hw0 dX12_between_19 ?_
        exact q_iret hx hb hr hlocks hW hS hf dX12_between_22
set_option maxRecDepth 100000 in
set_option maxHeartbeats 40000000 in
theorem k_X12_clear (l : Launch) (z n : Nat) (D : va_G) (cy : Nat → ClassId) (Y : Yt) {this : Nat} {a1 : Int32} {σ : Mm} {r : Int32} {σ1 : Mm} (h_this : okk Y n 9 this) (hf : f_X12_clear Y this a1 σ = some (r, σ1)) : Ki l yX12_clear wsX12_clear ({ frames := 2, cells := 0, slots := 0, locals := 45 } : Room) z n D cy Y [.ref (z + this), .int a1] σ r σ1 := by
  refine Met.ofW (cc := cX12_clear) (maxL := 3) (ret := (some .int)) (by decide +kernel) rfl ?_
  intro p e s m args below meth c s₁ B hml hv
  obtain ⟨rfl, hW, hK, hN⟩ := hv
  have hx := B.exec
  have hb := B.bytes
  have hr := B.returns
  have hts := atoms_spec (ws := wsX12_clear) B.pre
  have hown : s.vm.findClass RX12 = some m.cls := findClass_of_methodNamed B.named
  have hlocks := B.notSynchronized
  have hS : va_S (Az z) s.heap s.heap [] := va_S.rf
  have hin12 : ∀ w ∈ wsX120, w ∈ wsX12_clear := fun w h => List.mem_cons_of_mem _ (List.mem_append_right _ h)
  have hw0 := hts (.fieldLink RX12 7 "SkyClocksModel" "manyOf" "[I") (List.mem_of_getElem? (i := 1) rfl)
  have hl := lv_entry ([.ref (z + this), .int a1]) (n := 3) (Nat.le_of_ble_eq_true rfl)
  rw [lg_entry_eq]
  generalize (lg_sl ([.ref (z + this), .int a1]) ++ List.replicate (3 - (lg_sl ([.ref (z + this), .int a1])).length) Slot.unset).toArray = ls at hl ⊢
  have hl : lv_has ls 3 [(0, .ref (z + this)), (1, .int a1)] := hl
  refine lv_iload_n hx hb dX12_clear_0 rfl (lv_at hl 1 rfl) ?_
  obtain ⟨r_3, σ_2, hc_1, hf⟩ := g_bnd hf
  refine q_calli (va_runS (As := [.int a1]) (rest := []) ⟨hx, hb, hml, hown, hts⟩ (k_X12_isStar l z n D cy Y hc_1) (va_cwS 1 hts gX12_clear_X12_isStar rfl rfl rfl (by decide +kernel) ⟨Nat.le_of_ble_eq_true rfl, Nat.le_of_ble_eq_true rfl⟩) (q_PS hK hN hW) rfl rfl hl.1 rfl (lv_room (Nat.le_of_ble_eq_true rfl)) dX12_clear_1 ⟨Nat.le_refl _, Nat.le_refl _⟩) hS (fun H locs hW hS => ?_)
  refine lv_if_ne (tgt := 9) hx hb dX12_clear_4 (by decide) (fun c => ?_) (fun c => ?_)
  · have hf := g_neg c hf
    refine lv_aload_n hx hb dX12_clear_9 rfl (lv_at hl 0 rfl) ?_
    refine q_getp (own := RX12) (ref := RX12) (C := RX12) (T := TX12) (N := 57) (kc := 9) (ci := 0) hx hb hts hin12 hown hK hW h_this (by decide) rfl 0 (by decide) hw0 rfl rfl rfl (v := 596) rfl dX12_clear_10 (fun hk_4 hq_5 => ?_)
    refine lv_iload_n hx hb dX12_clear_13 rfl (lv_at hl 1 rfl) ?_
    obtain ⟨hi_6, hf⟩ := g_in hf
    refine q_iald hx hb hK hW hk_4 (inb_of hq_5 hi_6) dX12_clear_14 ?_
    refine lv_topi (fun x2_7 ex2_7 => ?_)
    have hf := g_lt ex2_7 hf
    refine lv_istore_n (lv' := [(2, .int x2_7), (0, .ref (z + this)), (1, .int a1)]) hx hb dX12_clear_15 rfl hl (by decide) rfl (fun ls hl => ?_)
    refine lv_aload_n hx hb dX12_clear_16 rfl (lv_at hl 1 rfl) ?_
    refine q_getp (own := RX12) (ref := RX12) (C := RX12) (T := TX12) (N := 57) (kc := 9) (ci := 0) hx hb hts hin12 hown hK hW h_this (by decide) rfl 0 (by decide) hw0 rfl rfl rfl (v := 596) rfl dX12_clear_17 (fun hk_8 hq_9 => ?_)
    refine lv_iload_n hx hb dX12_clear_20 rfl (lv_at hl 2 rfl) ?_
    refine lv_iconst (v := 0) hx hb dX12_clear_21 (by decide) ?_
    obtain ⟨hi_10, hf⟩ := g_in hf
    refine q_iast hx hb hK hW hS hk_8 (inb_of hq_9 hi_10) dX12_clear_22 (fun H locs hW hS => ?_)
    obtain ⟨σ_11, eσ_11⟩ : ∃ y : Mm, y = (Mm.si σ_2 596 (ix a1) 0) := ⟨_, rfl⟩
    rw [← eσ_11] at hW
    have hf := g_lt eσ_11 hf
    refine lv_iload_n hx hb dX12_clear_23 rfl (lv_at hl 0 rfl) ?_
    exact q_iret hx hb hr hlocks hW hS hf dX12_clear_24
  · have hf := g_pos c hf
    refine lv_iconst (v := (-1)) hx hb dX12_clear_7 (by decide) ?_
    exact q_iret hx hb hr hlocks hW hS hf dX12_clear_8
set_option maxRecDepth 100000 in
set_option maxHeartbeats 40000000 in
theorem k_X12_comes (l : Launch) (z n : Nat) (D : va_G) (cy : Nat → ClassId) (Y : Yt) {fu : Nat} {this : Nat} {a1 : Int32} {a2 : Int32} {σ : Mm} {r : Int64} {σ1 : Mm} (h_this : okk Y n 9 this) (hf : f_X12_comes Y fu this a1 a2 σ = some (r, σ1)) : Kl l yX12_comes wsX12_comes ({ frames := 2, cells := 0, slots := 0, locals := 52 } : Room) z n D cy Y [.ref (z + this), .int a1, .int a2] σ r σ1 := by
  refine Met.ofW (cc := cX12_comes) (maxL := 3) (ret := (some .long)) (by decide +kernel) rfl ?_
  intro p e s m args below meth c s₁ B hml hv
  obtain ⟨rfl, hW, hK, hN⟩ := hv
  have hx := B.exec
  have hb := B.bytes
  have hr := B.returns
  have hts := atoms_spec (ws := wsX12_comes) B.pre
  have hown : s.vm.findClass RX12 = some m.cls := findClass_of_methodNamed B.named
  have hlocks := B.notSynchronized
  have hS : va_S (Az z) s.heap s.heap [] := va_S.rf
  have hin12 : ∀ w ∈ wsX120, w ∈ wsX12_comes := fun w h => List.mem_cons_of_mem _ (List.mem_append_right _ h)
  have hw0 := hts (.constantLong RX12 249 (-1)) (List.mem_of_getElem? (i := 2) rfl)
  have hw1 := hts (.constantLong RX12 247 (10000)) (List.mem_of_getElem? (i := 1) rfl)
  have hw2 := hts (.fieldLink RX12 36 "SkyClocksModel" "hasModel" "[Z") (List.mem_of_getElem? (i := 3) rfl)
  have hw3 := hts (.fieldLink RX12 238 "SkyClocksModel" "turns" "I") (List.mem_of_getElem? (i := 5) rfl)
  have hw4 := hts (.constantLong RX12 251 (-2)) (List.mem_of_getElem? (i := 4) rfl)
  have hw5 := hts (.fieldLink RX12 73 "SkyClocksModel" "come" "[J") (List.mem_of_getElem? (i := 6) rfl)
  have hl := lv_entry ([.ref (z + this), .int a1, .int a2]) (n := 3) (Nat.le_of_ble_eq_true rfl)
  rw [lg_entry_eq]
  generalize (lg_sl ([.ref (z + this), .int a1, .int a2]) ++ List.replicate (3 - (lg_sl ([.ref (z + this), .int a1, .int a2])).length) Slot.unset).toArray = ls at hl ⊢
  have hl : lv_has ls 3 [(0, .ref (z + this)), (1, .int a1), (2, .int a2)] := hl
  refine lv_iload_n hx hb dX12_comes_0 rfl (lv_at hl 1 rfl) ?_
  obtain ⟨r_3, σ_2, hc_1, hf⟩ := g_bnd hf
  refine q_calli (va_runS (As := [.int a1]) (rest := []) ⟨hx, hb, hml, hown, hts⟩ (k_X12_isStar l z n D cy Y hc_1) (va_cwS 1 hts gX12_comes_X12_isStar rfl rfl rfl (by decide +kernel) ⟨Nat.le_of_ble_eq_true rfl, Nat.le_of_ble_eq_true rfl⟩) (q_PS hK hN hW) rfl rfl hl.1 rfl (lv_room (Nat.le_of_ble_eq_true rfl)) dX12_comes_1 ⟨Nat.le_refl _, Nat.le_refl _⟩) hS (fun H locs hW hS => ?_)
  refine lv_if_eq (tgt := 19) hx hb dX12_comes_4 (by decide) (fun c => ?_) (fun c => ?_)
  · have hf := g_pos c hf
    refine lv_ldc2 hx hb hown hw0 dX12_comes_19 ?_
    exact q_lret hx hb hr hlocks hW hS hf dX12_comes_22
  · have hf := g_neg c hf
    refine lv_iload_n hx hb dX12_comes_7 rfl (lv_at hl 2 rfl) ?_
    refine lv_i2l hx hb dX12_comes_8 rfl ?_
    refine lv_lconst (v := 0) hx hb dX12_comes_9 (by decide) ?_
    refine lv_ldc2 hx hb hown hw1 dX12_comes_10 ?_
    obtain ⟨r_6, σ_5, hc_4, hf⟩ := g_bnd hf
    refine q_calli (va_runS (As := [.long (Int32.toInt64 a2), .long 0, .long 10000]) (rest := []) ⟨hx, hb, hml, hown, hts⟩ (k_X12_in l z n D cy Y hc_4) (va_cwS 3 hts gX12_comes_X12_in rfl rfl rfl (by decide +kernel) ⟨Nat.le_of_ble_eq_true rfl, Nat.le_of_ble_eq_true rfl⟩) (q_PS hK hN hW) rfl rfl hl.1 rfl (lv_room (Nat.le_of_ble_eq_true rfl)) dX12_comes_13 ⟨Nat.le_refl _, Nat.le_refl _⟩) hS (fun H locs hW hS => ?_)
    refine lv_if_ne (tgt := 23) hx hb dX12_comes_16 (by decide) (fun c => ?_) (fun c => ?_)
    · have hf := g_neg c hf
      refine lv_aload_n hx hb dX12_comes_23 rfl (lv_at hl 0 rfl) ?_
      refine q_getp (own := RX12) (ref := RX12) (C := RX12) (T := TX12) (N := 57) (kc := 9) (ci := 0) hx hb hts hin12 hown hK hW h_this (by decide) rfl 9 (by decide) hw2 rfl rfl rfl (v := 603) rfl dX12_comes_24 (fun hk_7 hq_8 => ?_)
      refine lv_iload_n hx hb dX12_comes_27 rfl (lv_at hl 1 rfl) ?_
      obtain ⟨hi_9, hf⟩ := g_in hf
      refine q_zald hx hb hK hW hk_7 (inb_of hq_8 hi_9) dX12_comes_28 ?_
      refine lv_if_ne (tgt := 36) hx hb dX12_comes_29 (by decide) (fun c => ?_) (fun c => ?_)
      · have hf := g_neg c hf
        refine lv_aload_n hx hb dX12_comes_36 rfl (lv_at hl 0 rfl) ?_
        refine lv_iload_n hx hb dX12_comes_37 rfl (lv_at hl 1 rfl) ?_
        obtain ⟨σ_11, hc_10, hf⟩ := g_bn1 hf
        refine q_callv (va_runV (As := [.int a1]) (rest := []) ⟨hx, hb, hml, hown, hts⟩ (k_X12_layTurns l z n D cy Y h_this hc_10) (cwV 1 hts gX12_comes_X12_layTurns rfl rfl rfl (by decide +kernel) ⟨Nat.le_of_ble_eq_true rfl, Nat.le_of_ble_eq_true rfl⟩) (q_PV (T := TX12) (N := 57) hK hN hW h_this (by decide) rfl) rfl rfl hl.1 rfl (lv_room (Nat.le_of_ble_eq_true rfl)) dX12_comes_38 ⟨Nat.le_refl _, Nat.le_refl _⟩) hS (fun H locs hW hS => ?_)
        refine lv_iload_n hx hb dX12_comes_41 rfl (lv_at hl 2 rfl) ?_
        refine lv_aload_n hx hb dX12_comes_42 rfl (lv_at hl 0 rfl) ?_
        refine q_geti (own := RX12) (ref := RX12) (C := RX12) (T := TX12) (N := 57) (kc := 9) (ci := 0) hx hb hts hin12 hown hK hW h_this (by decide) rfl 29 (by decide) hw3 rfl rfl dX12_comes_43 ?_
        refine lv_icmp_ge (tgt := 58) hx hb dX12_comes_46 (by decide) (fun c => ?_) (fun c => ?_)
        · have hf := g_pos c hf
          refine lv_ldc2 hx hb hown hw4 dX12_comes_58 ?_
          exact q_lret hx hb hr hlocks hW hS hf dX12_comes_61
        · have hf := g_neg c hf
          refine lv_aload_n hx hb dX12_comes_49 rfl (lv_at hl 0 rfl) ?_
          refine q_getp (own := RX12) (ref := RX12) (C := RX12) (T := TX12) (N := 57) (kc := 9) (ci := 0) hx hb hts hin12 hown hK hW h_this (by decide) rfl 28 (by decide) hw5 rfl rfl rfl (v := 615) rfl dX12_comes_50 (fun hk_12 hq_13 => ?_)
          refine lv_iload_n hx hb dX12_comes_53 rfl (lv_at hl 2 rfl) ?_
          obtain ⟨hi_14, hf⟩ := g_in hf
          refine q_lald hx hb hK hW hk_12 (inb_of hq_13 hi_14) dX12_comes_54 ?_
          refine lv_goto (tgt := 61) hx hb dX12_comes_55 (by decide) ?_
          exact q_lret hx hb hr hlocks hW hS hf dX12_comes_61
      · have hf := g_pos c hf
        refine lv_ldc2 hx hb hown hw4 dX12_comes_32 ?_
        exact q_lret hx hb hr hlocks hW hS hf dX12_comes_35
    · have hf := g_pos c hf
      refine lv_ldc2 hx hb hown hw0 dX12_comes_19 ?_
      exact q_lret hx hb hr hlocks hW hS hf dX12_comes_22
set_option maxRecDepth 100000 in
set_option maxHeartbeats 40000000 in
theorem k_X12_count (l : Launch) (z n : Nat) (D : va_G) (cy : Nat → ClassId) (Y : Yt) {fu : Nat} {this : Nat} {a1 : Int32} {σ : Mm} {r : Int32} {σ1 : Mm} (h_this : okk Y n 9 this) (hf : f_X12_count Y fu this a1 σ = some (r, σ1)) : Ki l yX12_count wsX12_count ({ frames := 1, cells := 0, slots := 0, locals := 22 } : Room) z n D cy Y [.ref (z + this), .int a1] σ r σ1 := by
  refine Met.ofW (cc := cX12_count) (maxL := 4) (ret := (some .int)) (by decide +kernel) rfl ?_
  intro p e s m args below meth c s₁ B hml hv
  obtain ⟨rfl, hW, hK, hN⟩ := hv
  have hx := B.exec
  have hb := B.bytes
  have hr := B.returns
  have hts := atoms_spec (ws := wsX12_count) B.pre
  have hown : s.vm.findClass RX12 = some m.cls := findClass_of_methodNamed B.named
  have hlocks := B.notSynchronized
  have hS : va_S (Az z) s.heap s.heap [] := va_S.rf
  have hin12 : ∀ w ∈ wsX120, w ∈ wsX12_count := fun w h => List.mem_cons_of_mem _ (List.mem_append_right _ h)
  have hw0 := hts (.fieldLink RX12 167 "SkyClocksModel" "counts" "I") (List.mem_of_getElem? (i := 1) rfl)
  have hw1 := hts (.fieldLink RX12 36 "SkyClocksModel" "hasModel" "[Z") (List.mem_of_getElem? (i := 2) rfl)
  have hw2 := hts (.fieldLink RX12 186 "SkyClocksModel" "length" "I") (List.mem_of_getElem? (i := 3) rfl)
  have hw3 := hts (.fieldLink RX12 301 "SkyClocksModel" "asked" "I") (List.mem_of_getElem? (i := 4) rfl)
  have hw4 := hts (.fieldLink RX12 282 "SkyClocksModel" "ways" "I") (List.mem_of_getElem? (i := 5) rfl)
  have hl := lv_entry ([.ref (z + this), .int a1]) (n := 4) (Nat.le_of_ble_eq_true rfl)
  rw [lg_entry_eq]
  generalize (lg_sl ([.ref (z + this), .int a1]) ++ List.replicate (4 - (lg_sl ([.ref (z + this), .int a1])).length) Slot.unset).toArray = ls at hl ⊢
  have hl : lv_has ls 4 [(0, .ref (z + this)), (1, .int a1)] := hl
  have B34 : ∀ (nn : Nat) (x2 : Int32) (x3 : Int32) (σ : Mm), b_X12_count_34 Y fu this a1 nn x2 x3 σ = some (r, σ1) → ∀ (H : Heap) (locs : List Loc) (ls : Array Slot), WH z n D cy Y σ H → va_S (Az z) s.heap H locs → lv_has ls 4 [(0, .ref (z + this)), (1, .int a1), (2, .int x2), (3, .int x3)] → W p l e ({ frames := 1, cells := 0, slots := 0, locals := 22 } : Room) s m ([.ref (z + this), .int a1] : List Value).toArray below meth c H locs 0 0 (MQ below (va_Qi (fun (x : Int32) (_ : Unit) => x = r) (fun _ t => WH z n D cy Y σ1 t.heap) (Az z)) ([.ref (z + this), .int a1] : List Value).toArray s 0 0 (Az z)) (F0 m 34 ls []) := by
    intro nn
    induction nn with
    | zero =>
      intro x2 x3 σ  hf
      have h9 : (none : Option (Int32 × Mm)) = some (r, σ1) := hf
      cases h9
    | succ nn H34 =>
      intro x2 x3 σ  hf H locs ls hW hS hl
      have hf : s_X12_count_34 Y fu this a1 (b_X12_count_34 Y fu this a1 nn) x2 x3 σ = some (r, σ1) := hf
      generalize hkk : b_X12_count_34 Y fu this a1 nn = k34 at hf H34
      refine lv_iload_n hx hb dX12_count_34 rfl (lv_at hl 3 rfl) ?_
      refine lv_iconst (v := 4) hx hb dX12_count_35 (by decide) ?_
      refine lv_icmp_ge (tgt := 57) hx hb dX12_count_36 (by decide) (fun c => ?_) (fun c => ?_)
      · have hf := g_pos c hf
        refine lv_iload_n hx hb dX12_count_57 rfl (lv_at hl 2 rfl) ?_
        exact q_iret hx hb hr hlocks hW hS hf dX12_count_58
      · have hf := g_neg c hf
        refine lv_aload_n hx hb dX12_count_39 rfl (lv_at hl 0 rfl) ?_
        refine lv_iload_n hx hb dX12_count_40 rfl (lv_at hl 3 rfl) ?_
        obtain ⟨σ_2, hc_1, hf⟩ := g_bn1 hf
        refine q_callv (va_runV (As := [.int x3]) (rest := []) ⟨hx, hb, hml, hown, hts⟩ (k_X12_layCounts l z n D cy Y h_this hc_1) (cwV 1 hts gX12_count_X12_layCounts rfl rfl rfl (by decide +kernel) ⟨Nat.le_of_ble_eq_true rfl, Nat.le_of_ble_eq_true rfl⟩) (q_PV (T := TX12) (N := 57) hK hN hW h_this (by decide) rfl) rfl rfl hl.1 rfl (lv_room (Nat.le_of_ble_eq_true rfl)) dX12_count_41 ⟨Nat.le_refl _, Nat.le_refl _⟩) hS (fun H locs hW hS => ?_)
        refine lv_iload_n hx hb dX12_count_44 rfl (lv_at hl 2 rfl) ?_
        refine lv_aload_n hx hb dX12_count_45 rfl (lv_at hl 0 rfl) ?_
        refine q_geti (own := RX12) (ref := RX12) (C := RX12) (T := TX12) (N := 57) (kc := 9) (ci := 0) hx hb hts hin12 hown hK hW h_this (by decide) rfl 22 (by decide) hw0 rfl rfl dX12_count_46 ?_
        refine lv_iadd hx hb dX12_count_49 ?_
        refine lv_topi (fun x2_3 ex2_3 => ?_)
        have hf := g_lt ex2_3 hf
        refine lv_istore_n (lv' := [(2, .int x2_3), (0, .ref (z + this)), (1, .int a1), (3, .int x3)]) hx hb dX12_count_50 rfl hl (by decide) rfl (fun ls hl => ?_)
        obtain ⟨x3_4, ex3_4⟩ : ∃ y : Int32, y = x3 + 1 := ⟨_, rfl⟩
        have hf := g_lt ex3_4 hf
        refine lv_iinc (v := x3_4) (lv' := [(3, .int x3_4), (2, .int x2_3), (0, .ref (z + this)), (1, .int a1)]) hx hb dX12_count_51 hl (k := 3) rfl (by rw [ex3_4]; rfl) (by decide) rfl (fun ls hl => ?_)
        refine lv_goto (tgt := 34) hx hb dX12_count_54 (by decide) ?_
        exact H34 x2_3 x3_4 σ_2 hf _ _ _ hW hS (lv_sub hl [2, 3, 1, 0] rfl)
  have B81 : ∀ (k61 : Int32 → Int32 → Mm → Option (Int32 × Mm)) (H61 : ∀ (x2 : Int32) (x3 : Int32) (σ : Mm), k61 x2 x3 σ = some (r, σ1) → ∀ (H : Heap) (locs : List Loc) (ls : Array Slot), WH z n D cy Y σ H → va_S (Az z) s.heap H locs → lv_has ls 4 [(0, .ref (z + this)), (1, .int a1), (2, .int x2), (3, .int x3)] → W p l e ({ frames := 1, cells := 0, slots := 0, locals := 22 } : Room) s m ([.ref (z + this), .int a1] : List Value).toArray below meth c H locs 0 0 (MQ below (va_Qi (fun (x : Int32) (_ : Unit) => x = r) (fun _ t => WH z n D cy Y σ1 t.heap) (Az z)) ([.ref (z + this), .int a1] : List Value).toArray s 0 0 (Az z)) (F0 m 61 ls [])) (x3 : Int32) (t0 : Int32) (t1 : Int32) (σ : Mm), b_X12_count_81 Y fu this a1 k61 x3 t0 t1 σ = some (r, σ1) → ∀ (H : Heap) (locs : List Loc) (ls : Array Slot), WH z n D cy Y σ H → va_S (Az z) s.heap H locs → lv_has ls 4 [(0, .ref (z + this)), (1, .int a1), (3, .int x3)] → W p l e ({ frames := 1, cells := 0, slots := 0, locals := 22 } : Room) s m ([.ref (z + this), .int a1] : List Value).toArray below meth c H locs 0 0 (MQ below (va_Qi (fun (x : Int32) (_ : Unit) => x = r) (fun _ t => WH z n D cy Y σ1 t.heap) (Az z)) ([.ref (z + this), .int a1] : List Value).toArray s 0 0 (Az z)) (F0 m 81 ls [.int t0, .int t1]) := by
    intro k61 H61 x3 t0 t1 σ  hf H locs ls hW hS hl
    refine lv_iadd hx hb dX12_count_81 ?_
    refine lv_topi (fun x2_8 ex2_8 => ?_)
    have hf := g_lt ex2_8 hf
    refine lv_istore_n (lv' := [(2, .int x2_8), (0, .ref (z + this)), (1, .int a1), (3, .int x3)]) hx hb dX12_count_82 rfl hl (by decide) rfl (fun ls hl => ?_)
    obtain ⟨x3_9, ex3_9⟩ : ∃ y : Int32, y = x3 + 1 := ⟨_, rfl⟩
    have hf := g_lt ex3_9 hf
    refine lv_iinc (v := x3_9) (lv' := [(3, .int x3_9), (2, .int x2_8), (0, .ref (z + this)), (1, .int a1)]) hx hb dX12_count_83 hl (k := 3) rfl (by rw [ex3_9]; rfl) (by decide) rfl (fun ls hl => ?_)
    refine lv_goto (tgt := 61) hx hb dX12_count_86 (by decide) ?_
    exact H61 x2_8 x3_9 σ hf _ _ _ hW hS (lv_sub hl [2, 3, 1, 0] rfl)
  have B61 : ∀ (nn : Nat) (x2 : Int32) (x3 : Int32) (σ : Mm), b_X12_count_61 Y fu this a1 nn x2 x3 σ = some (r, σ1) → ∀ (H : Heap) (locs : List Loc) (ls : Array Slot), WH z n D cy Y σ H → va_S (Az z) s.heap H locs → lv_has ls 4 [(0, .ref (z + this)), (1, .int a1), (2, .int x2), (3, .int x3)] → W p l e ({ frames := 1, cells := 0, slots := 0, locals := 22 } : Room) s m ([.ref (z + this), .int a1] : List Value).toArray below meth c H locs 0 0 (MQ below (va_Qi (fun (x : Int32) (_ : Unit) => x = r) (fun _ t => WH z n D cy Y σ1 t.heap) (Az z)) ([.ref (z + this), .int a1] : List Value).toArray s 0 0 (Az z)) (F0 m 61 ls []) := by
    intro nn
    induction nn with
    | zero =>
      intro x2 x3 σ  hf
      have h9 : (none : Option (Int32 × Mm)) = some (r, σ1) := hf
      cases h9
    | succ nn H61 =>
      intro x2 x3 σ  hf H locs ls hW hS hl
      have hf : s_X12_count_61 Y fu this a1 (b_X12_count_61 Y fu this a1 nn) x2 x3 σ = some (r, σ1) := hf
      generalize hkk : b_X12_count_61 Y fu this a1 nn = k61 at hf H61
      refine lv_iload_n hx hb dX12_count_61 rfl (lv_at hl 3 rfl) ?_
      refine lv_iconst (v := 4) hx hb dX12_count_62 (by decide) ?_
      refine lv_icmp_ge (tgt := 89) hx hb dX12_count_63 (by decide) (fun c => ?_) (fun c => ?_)
      · have hf := g_pos c hf
        refine lv_iload_n hx hb dX12_count_89 rfl (lv_at hl 2 rfl) ?_
        exact q_iret hx hb hr hlocks hW hS hf dX12_count_90
      · have hf := g_neg c hf
        refine lv_iload_n hx hb dX12_count_66 rfl (lv_at hl 2 rfl) ?_
        refine lv_aload_n hx hb dX12_count_67 rfl (lv_at hl 0 rfl) ?_
        refine q_getp (own := RX12) (ref := RX12) (C := RX12) (T := TX12) (N := 57) (kc := 9) (ci := 0) hx hb hts hin12 hown hK hW h_this (by decide) rfl 9 (by decide) hw1 rfl rfl rfl (v := 603) rfl dX12_count_68 (fun hk_5 hq_6 => ?_)
        refine lv_iload_n hx hb dX12_count_71 rfl (lv_at hl 3 rfl) ?_
        obtain ⟨hi_7, hf⟩ := g_in hf
        refine q_zald hx hb hK hW hk_5 (inb_of hq_6 hi_7) dX12_count_72 ?_
        refine lv_if_eq (tgt := 80) hx hb dX12_count_73 (by decide) (fun c => ?_) (fun c => ?_)
        · have hf := g_pos c hf
          refine lv_iconst (v := 0) hx hb dX12_count_80 (by decide) ?_
          exact B81 k61 H61 x3 0 x2 σ hf _ _ _ hW hS (lv_sub hl [0, 1, 3] rfl)
        · have hf := g_neg c hf
          refine lv_iconst (v := 1) hx hb dX12_count_76 (by decide) ?_
          refine lv_goto (tgt := 81) hx hb dX12_count_77 (by decide) ?_
          exact B81 k61 H61 x3 1 x2 σ hf _ _ _ hW hS (lv_sub hl [0, 1, 3] rfl)
  refine lv_iconst (v := 0) hx hb dX12_count_0 (by decide) ?_
  refine lv_istore_n (lv' := [(2, .int 0), (0, .ref (z + this)), (1, .int a1)]) hx hb dX12_count_1 rfl hl (by decide) rfl (fun ls hl => ?_)
  refine lv_iload_n hx hb dX12_count_2 rfl (lv_at hl 2 rfl) ?_
  by_cases c0 : a1 = 0
  · have hf := g_pos c0 hf
    refine q_tcase (k := 0) (off := 29) (tgt := 32) hx hb dX12_count_3 c0 (by decide) (by decide) rfl (by decide) ?_
    refine lv_iconst (v := 0) hx hb dX12_count_32 (by decide) ?_
    refine lv_istore_n (lv' := [(3, .int 0), (2, .int 0), (0, .ref (z + this)), (1, .int a1)]) hx hb dX12_count_33 rfl hl (by decide) rfl (fun ls hl => ?_)
    exact B34 fu 0 0 σ hf _ _ _ hW hS (lv_sub hl [2, 3, 1, 0] rfl)
  · have hf := g_neg c0 hf
    by_cases c1 : a1 = 1
    · have hf := g_pos c1 hf
      refine q_tcase (k := 1) (off := 56) (tgt := 59) hx hb dX12_count_3 c1 (by decide) (by decide) rfl (by decide) ?_
      refine lv_iconst (v := 0) hx hb dX12_count_59 (by decide) ?_
      refine lv_istore_n (lv' := [(3, .int 0), (2, .int 0), (0, .ref (z + this)), (1, .int a1)]) hx hb dX12_count_60 rfl hl (by decide) rfl (fun ls hl => ?_)
      exact B61 fu 0 0 σ hf _ _ _ hW hS (lv_sub hl [2, 3, 1, 0] rfl)
    · have hf := g_neg c1 hf
      by_cases c2 : a1 = 2
      · have hf := g_pos c2 hf
        refine q_tcase (k := 2) (off := 88) (tgt := 91) hx hb dX12_count_3 c2 (by decide) (by decide) rfl (by decide) ?_
        refine lv_aload_n hx hb dX12_count_91 rfl (lv_at hl 1 rfl) ?_
        refine q_geti (own := RX12) (ref := RX12) (C := RX12) (T := TX12) (N := 57) (kc := 9) (ci := 0) hx hb hts hin12 hown hK hW h_this (by decide) rfl 20 (by decide) hw2 rfl rfl dX12_count_92 ?_
        exact q_iret hx hb hr hlocks hW hS hf dX12_count_95
      · have hf := g_neg c2 hf
        by_cases c3 : a1 = 3
        · have hf := g_pos c3 hf
          refine q_tcase (k := 3) (off := 93) (tgt := 96) hx hb dX12_count_3 c3 (by decide) (by decide) rfl (by decide) ?_
          refine lv_aload_n hx hb dX12_count_96 rfl (lv_at hl 1 rfl) ?_
          refine q_geti (own := RX12) (ref := RX12) (C := RX12) (T := TX12) (N := 57) (kc := 9) (ci := 0) hx hb hts hin12 hown hK hW h_this (by decide) rfl 32 (by decide) hw3 rfl rfl dX12_count_97 ?_
          refine lv_iconst (v := 1) hx hb dX12_count_100 (by decide) ?_
          refine lv_icmp_ne (tgt := 111) hx hb dX12_count_101 (by decide) (fun c => ?_) (fun c => ?_)
          · have hf := g_neg c hf
            refine lv_iconst (v := 0) hx hb dX12_count_111 (by decide) ?_
            exact q_iret hx hb hr hlocks hW hS hf dX12_count_112
          · have hf := g_pos c hf
            refine lv_aload_n hx hb dX12_count_104 rfl (lv_at hl 1 rfl) ?_
            refine q_geti (own := RX12) (ref := RX12) (C := RX12) (T := TX12) (N := 57) (kc := 9) (ci := 0) hx hb hts hin12 hown hK hW h_this (by decide) rfl 33 (by decide) hw4 rfl rfl dX12_count_105 ?_
            refine lv_goto (tgt := 112) hx hb dX12_count_108 (by decide) ?_
            exact q_iret hx hb hr hlocks hW hS hf dX12_count_112
        · have hf := g_neg c3 hf
          refine lv_tableOut (tgt := 113) hx hb dX12_count_3 (by have t0 := lv_neT (k := 0) c0 (a := 0) rfl; have t1 := lv_neT (k := 1) c1 (a := 1) rfl; have t2 := lv_neT (k := 2) c2 (a := 2) rfl; have t3 := lv_neT (k := 3) c3 (a := 3) rfl; omega) (by decide) ?_
          refine lv_iconst (v := (-1)) hx hb dX12_count_113 (by decide) ?_
          exact q_iret hx hb hr hlocks hW hS hf dX12_count_114
set_option maxRecDepth 100000 in
set_option maxHeartbeats 40000000 in
theorem k_X12_isAbove (l : Launch) (z n : Nat) (D : va_G) (cy : Nat → ClassId) (Y : Yt) {a0 : Int64} {a2 : Int64} {a4 : Int64} {a6 : Int64} {σ : Mm} {r : Int32} {σ1 : Mm} (hf : f_X12_isAbove Y a0 a2 a4 a6 σ = some (r, σ1)) : Ki l yX12_isAbove wsX12_isAbove ({ frames := 0, cells := 0, slots := 0, locals := 0 } : Room) z n D cy Y [.long a0, .long a2, .long a4, .long a6] σ r σ1 := by
  refine Met.ofW (cc := cX12_isAbove) (maxL := 8) (ret := (some .boolean)) (by decide +kernel) rfl ?_
  intro p e s m args below meth c s₁ B hml hv
  obtain ⟨rfl, hW, hK, hN⟩ := hv
  have hx := B.exec
  have hb := B.bytes
  have hr := B.returns
  have hts := atoms_spec (ws := wsX12_isAbove) B.pre
  have hown : s.vm.findClass RX12 = some m.cls := findClass_of_methodNamed B.named
  have hlocks := B.notSynchronized
  have hS : va_S (Az z) s.heap s.heap [] := va_S.rf
  have hl := lv_entry ([.long a0, .long a2, .long a4, .long a6]) (n := 8) (Nat.le_of_ble_eq_true rfl)
  rw [lg_entry_eq]
  generalize (lg_sl ([.long a0, .long a2, .long a4, .long a6]) ++ List.replicate (8 - (lg_sl ([.long a0, .long a2, .long a4, .long a6])).length) Slot.unset).toArray = ls at hl ⊢
  have hl : lv_has ls 8 [(0, .long a0), (2, .long a2), (4, .long a4), (6, .long a6)] := hl
  refine lv_lload_n hx hb dX12_isAbove_0 rfl (lv_at hl 0 rfl) ?_
  refine lv_lload_n hx hb dX12_isAbove_1 rfl (lv_at hl 1 rfl) ?_
  obtain ⟨hz_1, hf⟩ := g_ne hf
  refine lv_ldiv hx hb dX12_isAbove_2 hz_1 ?_
  refine lv_lload hx hb dX12_isAbove_3 (lv_at hl 2 rfl) ?_
  refine lv_lload hx hb dX12_isAbove_5 (lv_at hl 3 rfl) ?_
  obtain ⟨hz_2, hf⟩ := g_ne hf
  refine lv_ldiv hx hb dX12_isAbove_7 hz_2 ?_
  refine W.lcmp hx hb dX12_isAbove_8 ?_
  refine lv_if_eq (tgt := 32) hx hb dX12_isAbove_9 (by decide) (fun c => ?_) (fun c => ?_)
  · have hf := g_pos ((lg_cmp_eq _ _).mp c) hf
    refine lv_lload_n hx hb dX12_isAbove_32 rfl (lv_at hl 0 rfl) ?_
    refine lv_lload_n hx hb dX12_isAbove_33 rfl (lv_at hl 1 rfl) ?_
    obtain ⟨hz_3, hf⟩ := g_ne hf
    refine lv_lrem hx hb dX12_isAbove_34 hz_3 ?_
    refine lv_lload hx hb dX12_isAbove_35 (lv_at hl 3 rfl) ?_
    refine lv_lmul hx hb dX12_isAbove_37 ?_
    refine lv_lload hx hb dX12_isAbove_38 (lv_at hl 2 rfl) ?_
    refine lv_lload hx hb dX12_isAbove_40 (lv_at hl 3 rfl) ?_
    obtain ⟨hz_4, hf⟩ := g_ne hf
    refine lv_lrem hx hb dX12_isAbove_42 hz_4 ?_
    refine lv_lload_n hx hb dX12_isAbove_43 rfl (lv_at hl 1 rfl) ?_
    refine lv_lmul hx hb dX12_isAbove_44 ?_
    refine W.lcmp hx hb dX12_isAbove_45 ?_
    refine lv_if_le (tgt := 53) hx hb dX12_isAbove_46 (by decide) (fun c => ?_) (fun c => ?_)
    · have hf := g_pos ((lg_cmp_le _ _).mp c) hf
      refine lv_iconst (v := 0) hx hb dX12_isAbove_53 (by decide) ?_
      exact q_zret hx hb hr hlocks hW hS hf dX12_isAbove_54
    · have hf := g_neg (fun h => c ((lg_cmp_le _ _).mpr h)) hf
      refine lv_iconst (v := 1) hx hb dX12_isAbove_49 (by decide) ?_
      refine lv_goto (tgt := 54) hx hb dX12_isAbove_50 (by decide) ?_
      exact q_zret hx hb hr hlocks hW hS hf dX12_isAbove_54
  · have hf := g_neg (fun h => c ((lg_cmp_eq _ _).mpr h)) hf
    refine lv_lload_n hx hb dX12_isAbove_12 rfl (lv_at hl 0 rfl) ?_
    refine lv_lload_n hx hb dX12_isAbove_13 rfl (lv_at hl 1 rfl) ?_
    obtain ⟨hz_5, hf⟩ := g_ne hf
    refine lv_ldiv hx hb dX12_isAbove_14 hz_5 ?_
    refine lv_lload hx hb dX12_isAbove_15 (lv_at hl 2 rfl) ?_
    refine lv_lload hx hb dX12_isAbove_17 (lv_at hl 3 rfl) ?_
    obtain ⟨hz_6, hf⟩ := g_ne hf
    refine lv_ldiv hx hb dX12_isAbove_19 hz_6 ?_
    refine W.lcmp hx hb dX12_isAbove_20 ?_
    refine lv_if_le (tgt := 28) hx hb dX12_isAbove_21 (by decide) (fun c => ?_) (fun c => ?_)
    · have hf := g_pos ((lg_cmp_le _ _).mp c) hf
      refine lv_iconst (v := 0) hx hb dX12_isAbove_28 (by decide) ?_
      refine lv_goto (tgt := 54) hx hb dX12_isAbove_29 (by decide) ?_
      exact q_zret hx hb hr hlocks hW hS hf dX12_isAbove_54
    · have hf := g_neg (fun h => c ((lg_cmp_le _ _).mpr h)) hf
      refine lv_iconst (v := 1) hx hb dX12_isAbove_24 (by decide) ?_
      refine lv_goto (tgt := 54) hx hb dX12_isAbove_25 (by decide) ?_
      exact q_zret hx hb hr hlocks hW hS hf dX12_isAbove_54
set_option maxRecDepth 100000 in
set_option maxHeartbeats 40000000 in
theorem k_X12_layGreat (l : Launch) (z n : Nat) (D : va_G) (cy : Nat → ClassId) (Y : Yt) {fu : Nat} {this : Nat} {a1 : Int32} {σ : Mm} {σ1 : Mm} (h_this : okk Y n 9 this) (hf : f_X12_layGreat Y fu this a1 σ = some σ1) : Kv l yX12_layGreat wsX12_layGreat ({ frames := 1, cells := 0, slots := 0, locals := 27 } : Room) z n D cy Y [.ref (z + this), .int a1] σ σ1 := by
  refine Met.ofW (cc := cX12_layGreat) (maxL := 9) (ret := none) (by decide +kernel) rfl ?_
  intro p e s m args below meth c s₁ B hml hv
  obtain ⟨rfl, hW, hK, hN⟩ := hv
  have hx := B.exec
  have hb := B.bytes
  have hr := B.returns
  have hts := atoms_spec (ws := wsX12_layGreat) B.pre
  have hown : s.vm.findClass RX12 = some m.cls := findClass_of_methodNamed B.named
  have hlocks := B.notSynchronized
  have hS : va_S (Az z) s.heap s.heap [] := va_S.rf
  have hin12 : ∀ w ∈ wsX120, w ∈ wsX12_layGreat := fun w h => List.mem_cons_of_mem _ (List.mem_append_right _ h)
  have hw0 := hts (.fieldLink RX12 316 "SkyClocksModel" "greatAt" "I") (List.mem_of_getElem? (i := 2) rfl)
  have hw1 := hts (.fieldLink RX12 122 "SkyClocksModel" "row" "[J") (List.mem_of_getElem? (i := 1) rfl)
  have hw2 := hts (.fieldLink RX12 319 "SkyClocksModel" "great" "J") (List.mem_of_getElem? (i := 3) rfl)
  have hw3 := hts (.fieldLink RX12 323 "SkyClocksModel" "greatBelow" "J") (List.mem_of_getElem? (i := 4) rfl)
  have hl := lv_entry ([.ref (z + this), .int a1]) (n := 9) (Nat.le_of_ble_eq_true rfl)
  rw [lg_entry_eq]
  generalize (lg_sl ([.ref (z + this), .int a1]) ++ List.replicate (9 - (lg_sl ([.ref (z + this), .int a1])).length) Slot.unset).toArray = ls at hl ⊢
  have hl : lv_has ls 9 [(0, .ref (z + this)), (1, .int a1)] := hl
  have B144 : ∀ (k44 : Int64 → Int64 → Int32 → Mm → Option (Mm)) (H44 : ∀ (x2 : Int64) (x4 : Int64) (x6 : Int32) (σ : Mm), k44 x2 x4 x6 σ = some σ1 → ∀ (H : Heap) (locs : List Loc) (ls : Array Slot), WH z n D cy Y σ H → va_S (Az z) s.heap H locs → lv_has ls 9 [(0, .ref (z + this)), (1, .int a1), (2, .long x2), (4, .long x4), (6, .int x6)] → W p l e ({ frames := 1, cells := 0, slots := 0, locals := 27 } : Room) s m ([.ref (z + this), .int a1] : List Value).toArray below meth c H locs 0 0 (MQ below (va_Qv (fun (_ : Unit) => True) (fun _ t => WH z n D cy Y σ1 t.heap) (Az z)) ([.ref (z + this), .int a1] : List Value).toArray s 0 0 (Az z)) (F0 m 44 ls [])) (x2 : Int64) (x4 : Int64) (x6 : Int32) (σ : Mm), b_X12_layGreat_144 Y fu this a1 k44 x2 x4 x6 σ = some σ1 → ∀ (H : Heap) (locs : List Loc) (ls : Array Slot), WH z n D cy Y σ H → va_S (Az z) s.heap H locs → lv_has ls 9 [(0, .ref (z + this)), (1, .int a1), (2, .long x2), (4, .long x4), (6, .int x6)] → W p l e ({ frames := 1, cells := 0, slots := 0, locals := 27 } : Room) s m ([.ref (z + this), .int a1] : List Value).toArray below meth c H locs 0 0 (MQ below (va_Qv (fun (_ : Unit) => True) (fun _ t => WH z n D cy Y σ1 t.heap) (Az z)) ([.ref (z + this), .int a1] : List Value).toArray s 0 0 (Az z)) (F0 m 144 ls []) := by
    intro k44 H44 x2 x4 x6 σ  hf H locs ls hW hS hl
    obtain ⟨x6_14, ex6_14⟩ : ∃ y : Int32, y = x6 + 1 := ⟨_, rfl⟩
    have hf := g_lt ex6_14 hf
    refine lv_iinc (v := x6_14) (lv' := [(6, .int x6_14), (0, .ref (z + this)), (1, .int a1), (2, .long x2), (4, .long x4)]) hx hb dX12_layGreat_144 hl (k := 4) rfl (by rw [ex6_14]; rfl) (by decide) rfl (fun ls hl => ?_)
    refine lv_goto (tgt := 44) hx hb dX12_layGreat_147 (by decide) ?_
    exact H44 x2 x4 x6_14 σ hf _ _ _ hW hS (lv_sub hl [1, 2, 3, 4, 0] rfl)
  have B116 : ∀ (k44 : Int64 → Int64 → Int32 → Mm → Option (Mm)) (H44 : ∀ (x2 : Int64) (x4 : Int64) (x6 : Int32) (σ : Mm), k44 x2 x4 x6 σ = some σ1 → ∀ (H : Heap) (locs : List Loc) (ls : Array Slot), WH z n D cy Y σ H → va_S (Az z) s.heap H locs → lv_has ls 9 [(0, .ref (z + this)), (1, .int a1), (2, .long x2), (4, .long x4), (6, .int x6)] → W p l e ({ frames := 1, cells := 0, slots := 0, locals := 27 } : Room) s m ([.ref (z + this), .int a1] : List Value).toArray below meth c H locs 0 0 (MQ below (va_Qv (fun (_ : Unit) => True) (fun _ t => WH z n D cy Y σ1 t.heap) (Az z)) ([.ref (z + this), .int a1] : List Value).toArray s 0 0 (Az z)) (F0 m 44 ls [])) (x2 : Int64) (x4 : Int64) (x6 : Int32) (x7 : Int64) (σ : Mm), b_X12_layGreat_116 Y fu this a1 k44 x2 x4 x6 x7 σ = some σ1 → ∀ (H : Heap) (locs : List Loc) (ls : Array Slot), WH z n D cy Y σ H → va_S (Az z) s.heap H locs → lv_has ls 9 [(0, .ref (z + this)), (1, .int a1), (2, .long x2), (4, .long x4), (6, .int x6), (7, .long x7)] → W p l e ({ frames := 1, cells := 0, slots := 0, locals := 27 } : Room) s m ([.ref (z + this), .int a1] : List Value).toArray below meth c H locs 0 0 (MQ below (va_Qv (fun (_ : Unit) => True) (fun _ t => WH z n D cy Y σ1 t.heap) (Az z)) ([.ref (z + this), .int a1] : List Value).toArray s 0 0 (Az z)) (F0 m 116 ls []) := by
    intro k44 H44 x2 x4 x6 x7 σ  hf H locs ls hW hS hl
    refine lv_aload_n hx hb dX12_layGreat_116 rfl (lv_at hl 0 rfl) ?_
    refine lv_iload hx hb dX12_layGreat_117 (lv_at hl 4 rfl) ?_
    refine q_puti (own := RX12) (ref := RX12) (C := RX12) (T := TX12) (N := 57) (kc := 9) (ci := 0) hx hb hts hin12 tyX12_ok nmX12 hown hK hW hS h_this (by decide) rfl 51 (by decide) hw0 rfl rfl (ty := .int) (tyX12_ok 51 (by decide)) rfl rfl rfl dX12_layGreat_119 (fun H locs hW hS => ?_)
    obtain ⟨σ_11, eσ_11⟩ : ∃ y : Mm, y = (Mm.si σ this 51 x6) := ⟨_, rfl⟩
    rw [← eσ_11] at hW
    have hf := g_lt eσ_11 hf
    refine lv_aload_n hx hb dX12_layGreat_122 rfl (lv_at hl 0 rfl) ?_
    refine lv_lload hx hb dX12_layGreat_123 (lv_at hl 5 rfl) ?_
    refine lv_lload hx hb dX12_layGreat_125 (lv_at hl 5 rfl) ?_
    refine lv_lmul hx hb dX12_layGreat_127 ?_
    refine q_putl (own := RX12) (ref := RX12) (C := RX12) (T := TX12) (N := 57) (kc := 9) (ci := 0) hx hb hts hin12 tyX12_ok nmX12 hown hK hW hS h_this (by decide) rfl 49 (by decide) hw2 rfl rfl (tyX12_ok 49 (by decide)) rfl dX12_layGreat_128 (fun H locs hW hS => ?_)
    obtain ⟨σ_12, eσ_12⟩ : ∃ y : Mm, y = (Mm.sl σ_11 this 49 (x7 * x7)) := ⟨_, rfl⟩
    rw [← eσ_12] at hW
    have hf := g_lt eσ_12 hf
    refine lv_aload_n hx hb dX12_layGreat_131 rfl (lv_at hl 0 rfl) ?_
    refine lv_iload hx hb dX12_layGreat_132 (lv_at hl 4 rfl) ?_
    refine lv_i2l hx hb dX12_layGreat_134 rfl ?_
    refine lv_iload_n hx hb dX12_layGreat_135 rfl (lv_at hl 1 rfl) ?_
    refine lv_iload hx hb dX12_layGreat_136 (lv_at hl 4 rfl) ?_
    refine lv_isub hx hb dX12_layGreat_138 ?_
    refine lv_i2l hx hb dX12_layGreat_139 rfl ?_
    refine lv_lmul hx hb dX12_layGreat_140 ?_
    refine q_putl (own := RX12) (ref := RX12) (C := RX12) (T := TX12) (N := 57) (kc := 9) (ci := 0) hx hb hts hin12 tyX12_ok nmX12 hown hK hW hS h_this (by decide) rfl 50 (by decide) hw3 rfl rfl (tyX12_ok 50 (by decide)) rfl dX12_layGreat_141 (fun H locs hW hS => ?_)
    obtain ⟨σ_13, eσ_13⟩ : ∃ y : Mm, y = (Mm.sl σ_12 this 50 ((Int32.toInt64 x6) * (Int32.toInt64 (a1 - x6)))) := ⟨_, rfl⟩
    rw [← eσ_13] at hW
    have hf := g_lt eσ_13 hf
    exact B144 k44 H44 x2 x4 x6 σ_13 hf _ _ _ hW hS (lv_sub hl [0, 1, 2, 3, 4] rfl)
  have B44 : ∀ (nn : Nat) (x2 : Int64) (x4 : Int64) (x6 : Int32) (σ : Mm), b_X12_layGreat_44 Y fu this a1 nn x2 x4 x6 σ = some σ1 → ∀ (H : Heap) (locs : List Loc) (ls : Array Slot), WH z n D cy Y σ H → va_S (Az z) s.heap H locs → lv_has ls 9 [(0, .ref (z + this)), (1, .int a1), (2, .long x2), (4, .long x4), (6, .int x6)] → W p l e ({ frames := 1, cells := 0, slots := 0, locals := 27 } : Room) s m ([.ref (z + this), .int a1] : List Value).toArray below meth c H locs 0 0 (MQ below (va_Qv (fun (_ : Unit) => True) (fun _ t => WH z n D cy Y σ1 t.heap) (Az z)) ([.ref (z + this), .int a1] : List Value).toArray s 0 0 (Az z)) (F0 m 44 ls []) := by
    intro nn
    induction nn with
    | zero =>
      intro x2 x4 x6 σ  hf
      have h9 : (none : Option (Mm)) = some σ1 := hf
      cases h9
    | succ nn H44 =>
      intro x2 x4 x6 σ  hf H locs ls hW hS hl
      have hf : s_X12_layGreat_44 Y fu this a1 (b_X12_layGreat_44 Y fu this a1 nn) x2 x4 x6 σ = some σ1 := hf
      generalize hkk : b_X12_layGreat_44 Y fu this a1 nn = k44 at hf H44
      refine lv_iload hx hb dX12_layGreat_44 (lv_at hl 4 rfl) ?_
      refine lv_iload_n hx hb dX12_layGreat_46 rfl (lv_at hl 1 rfl) ?_
      refine lv_iconst (v := 2) hx hb dX12_layGreat_47 (by decide) ?_
      refine lv_isub hx hb dX12_layGreat_48 ?_
      refine lv_icmp_gt (tgt := 150) hx hb dX12_layGreat_49 (by decide) (fun c => ?_) (fun c => ?_)
      · have hf := g_pos c hf
        exact q_vret hx hb hr hlocks hW hS hf dX12_layGreat_150
      · have hf := g_neg c hf
        refine lv_lload hx hb dX12_layGreat_52 (lv_at hl 3 rfl) ?_
        refine lv_aload_n hx hb dX12_layGreat_54 rfl (lv_at hl 0 rfl) ?_
        refine q_getp (own := RX12) (ref := RX12) (C := RX12) (T := TX12) (N := 57) (kc := 9) (ci := 0) hx hb hts hin12 hown hK hW h_this (by decide) rfl 48 (by decide) hw1 rfl rfl rfl (v := 631) rfl dX12_layGreat_55 (fun hk_6 hq_7 => ?_)
        refine lv_iload hx hb dX12_layGreat_58 (lv_at hl 4 rfl) ?_
        refine lv_iconst (v := 1) hx hb dX12_layGreat_60 (by decide) ?_
        refine lv_isub hx hb dX12_layGreat_61 ?_
        obtain ⟨hi_8, hf⟩ := g_in hf
        refine q_lald hx hb hK hW hk_6 (inb_of hq_7 hi_8) dX12_layGreat_62 ?_
        refine lv_ladd hx hb dX12_layGreat_63 ?_
        refine lv_topl (fun x4_9 ex4_9 => ?_)
        have hf := g_lt ex4_9 hf
        refine lv_lstore (lv' := [(4, .long x4_9), (0, .ref (z + this)), (1, .int a1), (2, .long x2), (6, .int x6)]) hx hb dX12_layGreat_64 hl (by decide) rfl (fun ls hl => ?_)
        refine lv_iload_n hx hb dX12_layGreat_66 rfl (lv_at hl 2 rfl) ?_
        refine lv_i2l hx hb dX12_layGreat_67 rfl ?_
        refine lv_lload hx hb dX12_layGreat_68 (lv_at hl 0 rfl) ?_
        refine lv_lmul hx hb dX12_layGreat_70 ?_
        refine lv_iload hx hb dX12_layGreat_71 (lv_at hl 4 rfl) ?_
        refine lv_i2l hx hb dX12_layGreat_73 rfl ?_
        refine lv_lload_n hx hb dX12_layGreat_74 rfl (lv_at hl 3 rfl) ?_
        refine lv_lmul hx hb dX12_layGreat_75 ?_
        refine lv_lsub hx hb dX12_layGreat_76 ?_
        refine lv_topl (fun x7_10 ex7_10 => ?_)
        have hf := g_lt ex7_10 hf
        refine lv_lstore (lv' := [(7, .long x7_10), (4, .long x4_9), (0, .ref (z + this)), (1, .int a1), (2, .long x2), (6, .int x6)]) hx hb dX12_layGreat_77 hl (by decide) rfl (fun ls hl => ?_)
        refine lv_aload_n hx hb dX12_layGreat_79 rfl (lv_at hl 2 rfl) ?_
        refine q_geti (own := RX12) (ref := RX12) (C := RX12) (T := TX12) (N := 57) (kc := 9) (ci := 0) hx hb hts hin12 hown hK hW h_this (by decide) rfl 51 (by decide) hw0 rfl rfl dX12_layGreat_80 ?_
        refine lv_bipush (v := (-4)) hx hb dX12_layGreat_83 (by decide) ?_
        refine lv_icmp_eq (tgt := 116) hx hb dX12_layGreat_85 (by decide) (fun c => ?_) (fun c => ?_)
        · have hf := g_pos c hf
          exact B116 k44 H44 x2 x4_9 x6 x7_10 σ hf _ _ _ hW hS (lv_sub hl [2, 3, 4, 1, 5, 0] rfl)
        · have hf := g_neg c hf
          refine lv_lload hx hb dX12_layGreat_88 (lv_at hl 0 rfl) ?_
          refine lv_lload hx hb dX12_layGreat_90 (lv_at hl 0 rfl) ?_
          refine lv_lmul hx hb dX12_layGreat_92 ?_
          refine lv_iload hx hb dX12_layGreat_93 (lv_at hl 5 rfl) ?_
          refine lv_i2l hx hb dX12_layGreat_95 rfl ?_
          refine lv_iload_n hx hb dX12_layGreat_96 rfl (lv_at hl 3 rfl) ?_
          refine lv_iload hx hb dX12_layGreat_97 (lv_at hl 5 rfl) ?_
          refine lv_isub hx hb dX12_layGreat_99 ?_
          refine lv_i2l hx hb dX12_layGreat_100 rfl ?_
          refine lv_lmul hx hb dX12_layGreat_101 ?_
          refine lv_aload_n hx hb dX12_layGreat_102 rfl (lv_at hl 2 rfl) ?_
          refine q_getl (own := RX12) (ref := RX12) (C := RX12) (T := TX12) (N := 57) (kc := 9) (ci := 0) hx hb hts hin12 hown hK hW h_this (by decide) rfl 49 (by decide) hw2 rfl rfl dX12_layGreat_103 ?_
          refine lv_aload_n hx hb dX12_layGreat_106 rfl (lv_at hl 2 rfl) ?_
          refine q_getl (own := RX12) (ref := RX12) (C := RX12) (T := TX12) (N := 57) (kc := 9) (ci := 0) hx hb hts hin12 hown hK hW h_this (by decide) rfl 50 (by decide) hw3 rfl rfl dX12_layGreat_107 ?_
          obtain ⟨r_17, σ_16, hc_15, hf⟩ := g_bnd hf
          refine q_calli (va_runS (As := [.long (x7_10 * x7_10), .long ((Int32.toInt64 x6) * (Int32.toInt64 (a1 - x6))), .long (Mm.gl σ this 49), .long (Mm.gl σ this 50)]) (rest := []) ⟨hx, hb, hml, hown, hts⟩ (k_X12_isAbove l z n D cy Y hc_15) (va_cwS 4 hts gX12_layGreat_X12_isAbove rfl rfl rfl (by decide +kernel) ⟨Nat.le_of_ble_eq_true rfl, Nat.le_of_ble_eq_true rfl⟩) (q_PS hK hN hW) rfl rfl hl.1 rfl (lv_room (Nat.le_of_ble_eq_true rfl)) dX12_layGreat_110 ⟨Nat.le_refl _, Nat.le_refl _⟩) hS (fun H locs hW hS => ?_)
          refine lv_if_eq (tgt := 144) hx hb dX12_layGreat_113 (by decide) (fun c => ?_) (fun c => ?_)
          · have hf := g_pos c hf
            exact B144 k44 H44 x2 x4_9 x6 σ_16 hf _ _ _ hW hS (lv_sub hl [2, 3, 4, 1, 5] rfl)
          · have hf := g_neg c hf
            exact B116 k44 H44 x2 x4_9 x6 x7_10 σ_16 hf _ _ _ hW hS (lv_sub hl [2, 3, 4, 1, 5, 0] rfl)
  have B5 : ∀ (nn : Nat) (x2 : Int64) (x4 : Int32) (σ : Mm), b_X12_layGreat_5 Y fu this a1 nn x2 x4 σ = some σ1 → ∀ (H : Heap) (locs : List Loc) (ls : Array Slot), WH z n D cy Y σ H → va_S (Az z) s.heap H locs → lv_has ls 9 [(0, .ref (z + this)), (1, .int a1), (2, .long x2), (4, .int x4)] → W p l e ({ frames := 1, cells := 0, slots := 0, locals := 27 } : Room) s m ([.ref (z + this), .int a1] : List Value).toArray below meth c H locs 0 0 (MQ below (va_Qv (fun (_ : Unit) => True) (fun _ t => WH z n D cy Y σ1 t.heap) (Az z)) ([.ref (z + this), .int a1] : List Value).toArray s 0 0 (Az z)) (F0 m 5 ls []) := by
    intro nn
    induction nn with
    | zero =>
      intro x2 x4 σ  hf
      have h9 : (none : Option (Mm)) = some σ1 := hf
      cases h9
    | succ nn H5 =>
      intro x2 x4 σ  hf H locs ls hW hS hl
      have hf : s_X12_layGreat_5 Y fu this a1 (b_X12_layGreat_5 Y fu this a1 nn) x2 x4 σ = some σ1 := hf
      generalize hkk : b_X12_layGreat_5 Y fu this a1 nn = k5 at hf H5
      refine lv_iload hx hb dX12_layGreat_5 (lv_at hl 3 rfl) ?_
      refine lv_iload_n hx hb dX12_layGreat_7 rfl (lv_at hl 1 rfl) ?_
      refine lv_icmp_ge (tgt := 27) hx hb dX12_layGreat_8 (by decide) (fun c => ?_) (fun c => ?_)
      · have hf := g_pos c hf
        refine lv_aload_n hx hb dX12_layGreat_27 rfl (lv_at hl 0 rfl) ?_
        refine lv_bipush (v := (-4)) hx hb dX12_layGreat_28 (by decide) ?_
        refine q_puti (own := RX12) (ref := RX12) (C := RX12) (T := TX12) (N := 57) (kc := 9) (ci := 0) hx hb hts hin12 tyX12_ok nmX12 hown hK hW hS h_this (by decide) rfl 51 (by decide) hw0 rfl rfl (ty := .int) (tyX12_ok 51 (by decide)) rfl rfl rfl dX12_layGreat_30 (fun H locs hW hS => ?_)
        obtain ⟨σ_1, eσ_1⟩ : ∃ y : Mm, y = (Mm.si σ this 51 (-4)) := ⟨_, rfl⟩
        rw [← eσ_1] at hW
        have hf := g_lt eσ_1 hf
        refine lv_aload_n hx hb dX12_layGreat_33 rfl (lv_at hl 0 rfl) ?_
        refine q_getp (own := RX12) (ref := RX12) (C := RX12) (T := TX12) (N := 57) (kc := 9) (ci := 0) hx hb hts hin12 hown hK hW h_this (by decide) rfl 48 (by decide) hw1 rfl rfl rfl (v := 631) rfl dX12_layGreat_34 (fun hk_2 hq_3 => ?_)
        refine lv_iconst (v := 0) hx hb dX12_layGreat_37 (by decide) ?_
        obtain ⟨hi_4, hf⟩ := g_in hf
        refine q_lald hx hb hK hW hk_2 (inb_of hq_3 hi_4) dX12_layGreat_38 ?_
        refine lv_topl (fun x4_5 ex4_5 => ?_)
        have hf := g_lt ex4_5 hf
        refine lv_lstore (lv' := [(4, .long x4_5), (0, .ref (z + this)), (1, .int a1), (2, .long x2)]) hx hb dX12_layGreat_39 hl (by decide) rfl (fun ls hl => ?_)
        refine lv_iconst (v := 2) hx hb dX12_layGreat_41 (by decide) ?_
        refine lv_istore (lv' := [(6, .int 2), (4, .long x4_5), (0, .ref (z + this)), (1, .int a1), (2, .long x2)]) hx hb dX12_layGreat_42 hl (by decide) rfl (fun ls hl => ?_)
        exact B44 fu x2 x4_5 2 σ_1 hf _ _ _ hW hS (lv_sub hl [2, 3, 4, 1, 0] rfl)
      · have hf := g_neg c hf
        refine lv_lload_n hx hb dX12_layGreat_11 rfl (lv_at hl 2 rfl) ?_
        refine lv_aload_n hx hb dX12_layGreat_12 rfl (lv_at hl 0 rfl) ?_
        refine q_getp (own := RX12) (ref := RX12) (C := RX12) (T := TX12) (N := 57) (kc := 9) (ci := 0) hx hb hts hin12 hown hK hW h_this (by decide) rfl 48 (by decide) hw1 rfl rfl rfl (v := 631) rfl dX12_layGreat_13 (fun hk_18 hq_19 => ?_)
        refine lv_iload hx hb dX12_layGreat_16 (lv_at hl 3 rfl) ?_
        obtain ⟨hi_20, hf⟩ := g_in hf
        refine q_lald hx hb hK hW hk_18 (inb_of hq_19 hi_20) dX12_layGreat_18 ?_
        refine lv_ladd hx hb dX12_layGreat_19 ?_
        refine lv_topl (fun x2_21 ex2_21 => ?_)
        have hf := g_lt ex2_21 hf
        refine lv_lstore_n (lv' := [(2, .long x2_21), (0, .ref (z + this)), (1, .int a1), (4, .int x4)]) hx hb dX12_layGreat_20 rfl hl (by decide) rfl (fun ls hl => ?_)
        obtain ⟨x4_22, ex4_22⟩ : ∃ y : Int32, y = x4 + 1 := ⟨_, rfl⟩
        have hf := g_lt ex4_22 hf
        refine lv_iinc (v := x4_22) (lv' := [(4, .int x4_22), (2, .long x2_21), (0, .ref (z + this)), (1, .int a1)]) hx hb dX12_layGreat_21 hl (k := 3) rfl (by rw [ex4_22]; rfl) (by decide) rfl (fun ls hl => ?_)
        refine lv_goto (tgt := 5) hx hb dX12_layGreat_24 (by decide) ?_
        exact H5 x2_21 x4_22 σ hf _ _ _ hW hS (lv_sub hl [2, 3, 1, 0] rfl)
  refine lv_lconst (v := 0) hx hb dX12_layGreat_0 (by decide) ?_
  refine lv_lstore_n (lv' := [(2, .long 0), (0, .ref (z + this)), (1, .int a1)]) hx hb dX12_layGreat_1 rfl hl (by decide) rfl (fun ls hl => ?_)
  refine lv_iconst (v := 0) hx hb dX12_layGreat_2 (by decide) ?_
  refine lv_istore (lv' := [(4, .int 0), (2, .long 0), (0, .ref (z + this)), (1, .int a1)]) hx hb dX12_layGreat_3 hl (by decide) rfl (fun ls hl => ?_)
  exact B5 fu 0 0 σ hf _ _ _ hW hS (lv_sub hl [2, 3, 1, 0] rfl)
set_option maxRecDepth 100000 in
set_option maxHeartbeats 40000000 in
theorem k_X12_slip (l : Launch) (z n : Nat) (D : va_G) (cy : Nat → ClassId) (Y : Yt) {fu : Nat} {this : Nat} {a1 : Int32} {σ : Mm} {r : Int32} {σ1 : Mm} (h_this : okk Y n 9 this) (hf : f_X12_slip Y fu this a1 σ = some (r, σ1)) : Ki l yX12_slip wsX12_slip ({ frames := 3, cells := 0, slots := 0, locals := 79 } : Room) z n D cy Y [.ref (z + this), .int a1] σ r σ1 := by
  refine Met.ofW (cc := cX12_slip) (maxL := 3) (ret := (some .int)) (by decide +kernel) rfl ?_
  intro p e s m args below meth c s₁ B hml hv
  obtain ⟨rfl, hW, hK, hN⟩ := hv
  have hx := B.exec
  have hb := B.bytes
  have hr := B.returns
  have hts := atoms_spec (ws := wsX12_slip) B.pre
  have hown : s.vm.findClass RX12 = some m.cls := findClass_of_methodNamed B.named
  have hlocks := B.notSynchronized
  have hS : va_S (Az z) s.heap s.heap [] := va_S.rf
  have hin12 : ∀ w ∈ wsX120, w ∈ wsX12_slip := fun w h => List.mem_cons_of_mem _ (List.mem_append_right _ h)
  have hw0 := hts (.fieldLink RX12 164 "SkyClocksModel" "version" "I") (List.mem_of_getElem? (i := 1) rfl)
  have hw1 := hts (.fieldLink RX12 167 "SkyClocksModel" "counts" "I") (List.mem_of_getElem? (i := 2) rfl)
  have hw2 := hts (.fieldLink RX12 316 "SkyClocksModel" "greatAt" "I") (List.mem_of_getElem? (i := 5) rfl)
  have hw3 := hts (.fieldLink RX12 122 "SkyClocksModel" "row" "[J") (List.mem_of_getElem? (i := 3) rfl)
  have hw4 := hts (.fieldLink RX12 77 "SkyClocksModel" "rest" "[I") (List.mem_of_getElem? (i := 4) rfl)
  have hl := lv_entry ([.ref (z + this), .int a1]) (n := 3) (Nat.le_of_ble_eq_true rfl)
  rw [lg_entry_eq]
  generalize (lg_sl ([.ref (z + this), .int a1]) ++ List.replicate (3 - (lg_sl ([.ref (z + this), .int a1])).length) Slot.unset).toArray = ls at hl ⊢
  have hl : lv_has ls 3 [(0, .ref (z + this)), (1, .int a1)] := hl
  have B34 : ∀ (nn : Nat) (x2 : Int32) (σ : Mm), b_X12_slip_34 Y fu this a1 nn x2 σ = some (r, σ1) → ∀ (H : Heap) (locs : List Loc) (ls : Array Slot), WH z n D cy Y σ H → va_S (Az z) s.heap H locs → lv_has ls 3 [(0, .ref (z + this)), (1, .int a1), (2, .int x2)] → W p l e ({ frames := 3, cells := 0, slots := 0, locals := 79 } : Room) s m ([.ref (z + this), .int a1] : List Value).toArray below meth c H locs 0 0 (MQ below (va_Qi (fun (x : Int32) (_ : Unit) => x = r) (fun _ t => WH z n D cy Y σ1 t.heap) (Az z)) ([.ref (z + this), .int a1] : List Value).toArray s 0 0 (Az z)) (F0 m 34 ls []) := by
    intro nn
    induction nn with
    | zero =>
      intro x2 σ  hf
      have h9 : (none : Option (Int32 × Mm)) = some (r, σ1) := hf
      cases h9
    | succ nn H34 =>
      intro x2 σ  hf H locs ls hW hS hl
      have hf : s_X12_slip_34 Y fu this a1 (b_X12_slip_34 Y fu this a1 nn) x2 σ = some (r, σ1) := hf
      generalize hkk : b_X12_slip_34 Y fu this a1 nn = k34 at hf H34
      refine lv_iload_n hx hb dX12_slip_34 rfl (lv_at hl 2 rfl) ?_
      refine lv_aload_n hx hb dX12_slip_35 rfl (lv_at hl 0 rfl) ?_
      refine q_geti (own := RX12) (ref := RX12) (C := RX12) (T := TX12) (N := 57) (kc := 9) (ci := 0) hx hb hts hin12 hown hK hW h_this (by decide) rfl 22 (by decide) hw1 rfl rfl dX12_slip_36 ?_
      refine lv_icmp_ge (tgt := 61) hx hb dX12_slip_39 (by decide) (fun c => ?_) (fun c => ?_)
      · have hf := g_pos c hf
        refine lv_aload_n hx hb dX12_slip_61 rfl (lv_at hl 0 rfl) ?_
        refine lv_aload_n hx hb dX12_slip_62 rfl (lv_at hl 0 rfl) ?_
        refine q_geti (own := RX12) (ref := RX12) (C := RX12) (T := TX12) (N := 57) (kc := 9) (ci := 0) hx hb hts hin12 hown hK hW h_this (by decide) rfl 22 (by decide) hw1 rfl rfl dX12_slip_63 ?_
        obtain ⟨σ_8, hc_7, hf⟩ := g_bn1 hf
        refine q_callv (va_runV (As := [.int (Mm.gi σ this 22)]) (rest := []) ⟨hx, hb, hml, hown, hts⟩ (k_X12_layGreat l z n D cy Y h_this hc_7) (cwV 1 hts gX12_slip_X12_layGreat rfl rfl rfl (by decide +kernel) ⟨Nat.le_of_ble_eq_true rfl, Nat.le_of_ble_eq_true rfl⟩) (q_PV (T := TX12) (N := 57) hK hN hW h_this (by decide) rfl) rfl rfl hl.1 rfl (lv_room (Nat.le_of_ble_eq_true rfl)) dX12_slip_66 ⟨Nat.le_refl _, Nat.le_refl _⟩) hS (fun H locs hW hS => ?_)
        refine lv_aload_n hx hb dX12_slip_69 rfl (lv_at hl 0 rfl) ?_
        refine q_geti (own := RX12) (ref := RX12) (C := RX12) (T := TX12) (N := 57) (kc := 9) (ci := 0) hx hb hts hin12 hown hK hW h_this (by decide) rfl 51 (by decide) hw2 rfl rfl dX12_slip_70 ?_
        exact q_iret hx hb hr hlocks hW hS hf dX12_slip_73
      · have hf := g_neg c hf
        refine lv_aload_n hx hb dX12_slip_42 rfl (lv_at hl 0 rfl) ?_
        refine q_getp (own := RX12) (ref := RX12) (C := RX12) (T := TX12) (N := 57) (kc := 9) (ci := 0) hx hb hts hin12 hown hK hW h_this (by decide) rfl 48 (by decide) hw3 rfl rfl rfl (v := 631) rfl dX12_slip_43 (fun hk_9 hq_10 => ?_)
        refine lv_iload_n hx hb dX12_slip_46 rfl (lv_at hl 2 rfl) ?_
        refine lv_aload_n hx hb dX12_slip_47 rfl (lv_at hl 0 rfl) ?_
        refine q_getp (own := RX12) (ref := RX12) (C := RX12) (T := TX12) (N := 57) (kc := 9) (ci := 0) hx hb hts hin12 hown hK hW h_this (by decide) rfl 30 (by decide) hw4 rfl rfl rfl (v := 616) rfl dX12_slip_48 (fun hk_11 hq_12 => ?_)
        refine lv_iload_n hx hb dX12_slip_51 rfl (lv_at hl 2 rfl) ?_
        obtain ⟨hi_13, hf⟩ := g_in hf
        refine q_iald hx hb hK hW hk_11 (inb_of hq_12 hi_13) dX12_slip_52 ?_
        refine lv_i2l hx hb dX12_slip_53 rfl ?_
        obtain ⟨hi_14, hf⟩ := g_in hf
        refine q_last hx hb hK hW hS hk_9 (inb_of hq_10 hi_14) dX12_slip_54 (fun H locs hW hS => ?_)
        obtain ⟨σ_15, eσ_15⟩ : ∃ y : Mm, y = (Mm.sl σ 631 (ix x2) (Int32.toInt64 (Mm.gi σ 616 (ix x2)))) := ⟨_, rfl⟩
        rw [← eσ_15] at hW
        have hf := g_lt eσ_15 hf
        obtain ⟨x2_16, ex2_16⟩ : ∃ y : Int32, y = x2 + 1 := ⟨_, rfl⟩
        have hf := g_lt ex2_16 hf
        refine lv_iinc (v := x2_16) (lv' := [(2, .int x2_16), (0, .ref (z + this)), (1, .int a1)]) hx hb dX12_slip_55 hl (k := 2) rfl (by rw [ex2_16]; rfl) (by decide) rfl (fun ls hl => ?_)
        refine lv_goto (tgt := 34) hx hb dX12_slip_58 (by decide) ?_
        exact H34 x2_16 σ_15 hf _ _ _ hW hS (lv_sub hl [1, 2, 0] rfl)
  refine lv_iload_n hx hb dX12_slip_0 rfl (lv_at hl 1 rfl) ?_
  obtain ⟨r_3, σ_2, hc_1, hf⟩ := g_bnd hf
  refine q_calli (va_runS (As := [.int a1]) (rest := []) ⟨hx, hb, hml, hown, hts⟩ (k_X12_isStar l z n D cy Y hc_1) (va_cwS 1 hts gX12_slip_X12_isStar rfl rfl rfl (by decide +kernel) ⟨Nat.le_of_ble_eq_true rfl, Nat.le_of_ble_eq_true rfl⟩) (q_PS hK hN hW) rfl rfl hl.1 rfl (lv_room (Nat.le_of_ble_eq_true rfl)) dX12_slip_1 ⟨Nat.le_refl _, Nat.le_refl _⟩) hS (fun H locs hW hS => ?_)
  refine lv_if_ne (tgt := 9) hx hb dX12_slip_4 (by decide) (fun c => ?_) (fun c => ?_)
  · have hf := g_neg c hf
    refine lv_aload_n hx hb dX12_slip_9 rfl (lv_at hl 0 rfl) ?_
    refine lv_iload_n hx hb dX12_slip_10 rfl (lv_at hl 1 rfl) ?_
    refine lv_aload_n hx hb dX12_slip_11 rfl (lv_at hl 0 rfl) ?_
    refine q_geti (own := RX12) (ref := RX12) (C := RX12) (T := TX12) (N := 57) (kc := 9) (ci := 0) hx hb hts hin12 hown hK hW h_this (by decide) rfl 7 (by decide) hw0 rfl rfl dX12_slip_12 ?_
    obtain ⟨r_6, σ_5, hc_4, hf⟩ := g_bnd hf
    refine q_calli (va_runV (As := [.int a1, .int (Mm.gi σ_2 this 7)]) (rest := []) ⟨hx, hb, hml, hown, hts⟩ (k_X12_layRest l z n D cy Y h_this hc_4) (cwV 2 hts gX12_slip_X12_layRest rfl rfl rfl (by decide +kernel) ⟨Nat.le_of_ble_eq_true rfl, Nat.le_of_ble_eq_true rfl⟩) (q_PV (T := TX12) (N := 57) hK hN hW h_this (by decide) rfl) rfl rfl hl.1 rfl (lv_room (Nat.le_of_ble_eq_true rfl)) dX12_slip_15 ⟨Nat.le_refl _, Nat.le_refl _⟩) hS (fun H locs hW hS => ?_)
    refine lv_if_eq (tgt := 29) hx hb dX12_slip_18 (by decide) (fun c => ?_) (fun c => ?_)
    · have hf := g_pos c hf
      refine lv_bipush (v := (-2)) hx hb dX12_slip_29 (by decide) ?_
      exact q_iret hx hb hr hlocks hW hS hf dX12_slip_31
    · have hf := g_neg c hf
      refine lv_aload_n hx hb dX12_slip_21 rfl (lv_at hl 0 rfl) ?_
      refine q_geti (own := RX12) (ref := RX12) (C := RX12) (T := TX12) (N := 57) (kc := 9) (ci := 0) hx hb hts hin12 hown hK hW h_this (by decide) rfl 22 (by decide) hw1 rfl rfl dX12_slip_22 ?_
      refine lv_iconst (v := 4) hx hb dX12_slip_25 (by decide) ?_
      refine lv_icmp_ge (tgt := 32) hx hb dX12_slip_26 (by decide) (fun c => ?_) (fun c => ?_)
      · have hf := g_pos c hf
        refine lv_iconst (v := 0) hx hb dX12_slip_32 (by decide) ?_
        refine lv_istore_n (lv' := [(2, .int 0), (0, .ref (z + this)), (1, .int a1)]) hx hb dX12_slip_33 rfl hl (by decide) rfl (fun ls hl => ?_)
        exact B34 fu 0 σ_5 hf _ _ _ hW hS (lv_sub hl [1, 2, 0] rfl)
      · have hf := g_neg c hf
        refine lv_bipush (v := (-2)) hx hb dX12_slip_29 (by decide) ?_
        exact q_iret hx hb hr hlocks hW hS hf dX12_slip_31
  · have hf := g_pos c hf
    refine lv_iconst (v := (-1)) hx hb dX12_slip_7 (by decide) ?_
    exact q_iret hx hb hr hlocks hW hS hf dX12_slip_8
set_option maxRecDepth 100000 in
set_option maxHeartbeats 40000000 in
theorem k_X12_falseShare (l : Launch) (z n : Nat) (D : va_G) (cy : Nat → ClassId) (Y : Yt) {fu : Nat} {this : Nat} {a1 : Int32} {σ : Mm} {r : Int32} {σ1 : Mm} (h_this : okk Y n 9 this) (hf : f_X12_falseShare Y fu this a1 σ = some (r, σ1)) : Ki l yX12_falseShare wsX12_falseShare ({ frames := 4, cells := 0, slots := 0, locals := 101 } : Room) z n D cy Y [.ref (z + this), .int a1] σ r σ1 := by
  refine Met.ofW (cc := cX12_falseShare) (maxL := 9) (ret := (some .int)) (by decide +kernel) rfl ?_
  intro p e s m args below meth c s₁ B hml hv
  obtain ⟨rfl, hW, hK, hN⟩ := hv
  have hx := B.exec
  have hb := B.bytes
  have hr := B.returns
  have hts := atoms_spec (ws := wsX12_falseShare) B.pre
  have hown : s.vm.findClass RX12 = some m.cls := findClass_of_methodNamed B.named
  have hlocks := B.notSynchronized
  have hS : va_S (Az z) s.heap s.heap [] := va_S.rf
  have hin12 : ∀ w ∈ wsX120, w ∈ wsX12_falseShare := fun w h => List.mem_cons_of_mem _ (List.mem_append_right _ h)
  have hw0 := hts (.fieldLink RX12 167 "SkyClocksModel" "counts" "I") (List.mem_of_getElem? (i := 1) rfl)
  have hw1 := hts (.fieldLink RX12 319 "SkyClocksModel" "great" "J") (List.mem_of_getElem? (i := 2) rfl)
  have hw2 := hts (.fieldLink RX12 323 "SkyClocksModel" "greatBelow" "J") (List.mem_of_getElem? (i := 3) rfl)
  have hw3 := hts (.fieldLink RX12 122 "SkyClocksModel" "row" "[J") (List.mem_of_getElem? (i := 4) rfl)
  have hw4 := hts (.fieldLink RX12 77 "SkyClocksModel" "rest" "[I") (List.mem_of_getElem? (i := 5) rfl)
  have hl := lv_entry ([.ref (z + this), .int a1]) (n := 9) (Nat.le_of_ble_eq_true rfl)
  rw [lg_entry_eq]
  generalize (lg_sl ([.ref (z + this), .int a1]) ++ List.replicate (9 - (lg_sl ([.ref (z + this), .int a1])).length) Slot.unset).toArray = ls at hl ⊢
  have hl : lv_has ls 9 [(0, .ref (z + this)), (1, .int a1)] := hl
  have B147 : ∀ (k48 : Int64 → Int64 → Int32 → Int32 → Mm → Option (Int32 × Mm)) (H48 : ∀ (x2 : Int64) (x4 : Int64) (x6 : Int32) (x7 : Int32) (σ : Mm), k48 x2 x4 x6 x7 σ = some (r, σ1) → ∀ (H : Heap) (locs : List Loc) (ls : Array Slot), WH z n D cy Y σ H → va_S (Az z) s.heap H locs → lv_has ls 9 [(0, .ref (z + this)), (1, .int a1), (2, .long x2), (4, .long x4), (6, .int x6), (7, .int x7)] → W p l e ({ frames := 4, cells := 0, slots := 0, locals := 101 } : Room) s m ([.ref (z + this), .int a1] : List Value).toArray below meth c H locs 0 0 (MQ below (va_Qi (fun (x : Int32) (_ : Unit) => x = r) (fun _ t => WH z n D cy Y σ1 t.heap) (Az z)) ([.ref (z + this), .int a1] : List Value).toArray s 0 0 (Az z)) (F0 m 48 ls [])) (x2 : Int64) (x4 : Int64) (x7 : Int32) (t0 : Int32) (t1 : Int32) (σ : Mm), b_X12_falseShare_147 Y fu this a1 k48 x2 x4 x7 t0 t1 σ = some (r, σ1) → ∀ (H : Heap) (locs : List Loc) (ls : Array Slot), WH z n D cy Y σ H → va_S (Az z) s.heap H locs → lv_has ls 9 [(0, .ref (z + this)), (1, .int a1), (2, .long x2), (4, .long x4), (7, .int x7)] → W p l e ({ frames := 4, cells := 0, slots := 0, locals := 101 } : Room) s m ([.ref (z + this), .int a1] : List Value).toArray below meth c H locs 0 0 (MQ below (va_Qi (fun (x : Int32) (_ : Unit) => x = r) (fun _ t => WH z n D cy Y σ1 t.heap) (Az z)) ([.ref (z + this), .int a1] : List Value).toArray s 0 0 (Az z)) (F0 m 147 ls [.int t0, .int t1]) := by
    intro k48 H48 x2 x4 x7 t0 t1 σ  hf H locs ls hW hS hl
    refine lv_iadd hx hb dX12_falseShare_147 ?_
    refine lv_topi (fun x6_14 ex6_14 => ?_)
    have hf := g_lt ex6_14 hf
    refine lv_istore (lv' := [(6, .int x6_14), (0, .ref (z + this)), (1, .int a1), (2, .long x2), (4, .long x4), (7, .int x7)]) hx hb dX12_falseShare_148 hl (by decide) rfl (fun ls hl => ?_)
    obtain ⟨x7_15, ex7_15⟩ : ∃ y : Int32, y = x7 + 1 := ⟨_, rfl⟩
    have hf := g_lt ex7_15 hf
    refine lv_iinc (v := x7_15) (lv' := [(7, .int x7_15), (6, .int x6_14), (0, .ref (z + this)), (1, .int a1), (2, .long x2), (4, .long x4)]) hx hb dX12_falseShare_150 hl (k := 5) rfl (by rw [ex7_15]; rfl) (by decide) rfl (fun ls hl => ?_)
    refine lv_goto (tgt := 48) hx hb dX12_falseShare_153 (by decide) ?_
    exact H48 x2 x4 x6_14 x7_15 σ hf _ _ _ hW hS (lv_sub hl [2, 3, 4, 5, 1, 0] rfl)
  have B108 : ∀ (k48 : Int64 → Int64 → Int32 → Int32 → Mm → Option (Int32 × Mm)) (H48 : ∀ (x2 : Int64) (x4 : Int64) (x6 : Int32) (x7 : Int32) (σ : Mm), k48 x2 x4 x6 x7 σ = some (r, σ1) → ∀ (H : Heap) (locs : List Loc) (ls : Array Slot), WH z n D cy Y σ H → va_S (Az z) s.heap H locs → lv_has ls 9 [(0, .ref (z + this)), (1, .int a1), (2, .long x2), (4, .long x4), (6, .int x6), (7, .int x7)] → W p l e ({ frames := 4, cells := 0, slots := 0, locals := 101 } : Room) s m ([.ref (z + this), .int a1] : List Value).toArray below meth c H locs 0 0 (MQ below (va_Qi (fun (x : Int32) (_ : Unit) => x = r) (fun _ t => WH z n D cy Y σ1 t.heap) (Az z)) ([.ref (z + this), .int a1] : List Value).toArray s 0 0 (Az z)) (F0 m 48 ls [])) (k62 : Int64 → Int64 → Int32 → Int32 → Int32 → Mm → Option (Int32 × Mm)) (H62 : ∀ (x2 : Int64) (x4 : Int64) (x6 : Int32) (x7 : Int32) (x8 : Int32) (σ : Mm), k62 x2 x4 x6 x7 x8 σ = some (r, σ1) → ∀ (H : Heap) (locs : List Loc) (ls : Array Slot), WH z n D cy Y σ H → va_S (Az z) s.heap H locs → lv_has ls 9 [(0, .ref (z + this)), (1, .int a1), (2, .long x2), (4, .long x4), (6, .int x6), (7, .int x7), (8, .int x8)] → W p l e ({ frames := 4, cells := 0, slots := 0, locals := 101 } : Room) s m ([.ref (z + this), .int a1] : List Value).toArray below meth c H locs 0 0 (MQ below (va_Qi (fun (x : Int32) (_ : Unit) => x = r) (fun _ t => WH z n D cy Y σ1 t.heap) (Az z)) ([.ref (z + this), .int a1] : List Value).toArray s 0 0 (Az z)) (F0 m 62 ls [])) (x2 : Int64) (x4 : Int64) (x6 : Int32) (x7 : Int32) (x8 : Int32) (t0 : Int64) (t1 : Int32) (t2 : Nat) (σ : Mm), okk Y n 11 t2 → b_X12_falseShare_108 Y fu this a1 k48 k62 x2 x4 x6 x7 x8 t0 t1 t2 σ = some (r, σ1) → ∀ (H : Heap) (locs : List Loc) (ls : Array Slot), WH z n D cy Y σ H → va_S (Az z) s.heap H locs → lv_has ls 9 [(0, .ref (z + this)), (1, .int a1), (2, .long x2), (4, .long x4), (6, .int x6), (7, .int x7), (8, .int x8)] → W p l e ({ frames := 4, cells := 0, slots := 0, locals := 101 } : Room) s m ([.ref (z + this), .int a1] : List Value).toArray below meth c H locs 0 0 (MQ below (va_Qi (fun (x : Int32) (_ : Unit) => x = r) (fun _ t => WH z n D cy Y σ1 t.heap) (Az z)) ([.ref (z + this), .int a1] : List Value).toArray s 0 0 (Az z)) (F0 m 108 ls [.long t0, .int t1, .ref (z + t2)]) := by
    intro k48 H48 k62 H62 x2 x4 x6 x7 x8 t0 t1 t2 σ h_t2 hf H locs ls hW hS hl
    obtain ⟨hi_21, hf⟩ := g_in hf
    refine q_last hx hb hK hW hS h_t2 hi_21 dX12_falseShare_108 (fun H locs hW hS => ?_)
    obtain ⟨σ_22, eσ_22⟩ : ∃ y : Mm, y = (Mm.sl σ t2 (ix t1) t0) := ⟨_, rfl⟩
    rw [← eσ_22] at hW
    have hf := g_lt eσ_22 hf
    obtain ⟨x8_23, ex8_23⟩ : ∃ y : Int32, y = x8 + 1 := ⟨_, rfl⟩
    have hf := g_lt ex8_23 hf
    refine lv_iinc (v := x8_23) (lv' := [(8, .int x8_23), (0, .ref (z + this)), (1, .int a1), (2, .long x2), (4, .long x4), (6, .int x6), (7, .int x7)]) hx hb dX12_falseShare_109 hl (k := 6) rfl (by rw [ex8_23]; rfl) (by decide) rfl (fun ls hl => ?_)
    refine lv_goto (tgt := 62) hx hb dX12_falseShare_112 (by decide) ?_
    exact H62 x2 x4 x6 x7 x8_23 σ_22 hf _ _ _ hW hS (lv_sub hl [1, 2, 3, 4, 5, 6, 0] rfl)
  have B62 : ∀ (k48 : Int64 → Int64 → Int32 → Int32 → Mm → Option (Int32 × Mm)) (H48 : ∀ (x2 : Int64) (x4 : Int64) (x6 : Int32) (x7 : Int32) (σ : Mm), k48 x2 x4 x6 x7 σ = some (r, σ1) → ∀ (H : Heap) (locs : List Loc) (ls : Array Slot), WH z n D cy Y σ H → va_S (Az z) s.heap H locs → lv_has ls 9 [(0, .ref (z + this)), (1, .int a1), (2, .long x2), (4, .long x4), (6, .int x6), (7, .int x7)] → W p l e ({ frames := 4, cells := 0, slots := 0, locals := 101 } : Room) s m ([.ref (z + this), .int a1] : List Value).toArray below meth c H locs 0 0 (MQ below (va_Qi (fun (x : Int32) (_ : Unit) => x = r) (fun _ t => WH z n D cy Y σ1 t.heap) (Az z)) ([.ref (z + this), .int a1] : List Value).toArray s 0 0 (Az z)) (F0 m 48 ls [])) (nn : Nat) (x2 : Int64) (x4 : Int64) (x6 : Int32) (x7 : Int32) (x8 : Int32) (σ : Mm), b_X12_falseShare_62 Y fu this a1 k48 nn x2 x4 x6 x7 x8 σ = some (r, σ1) → ∀ (H : Heap) (locs : List Loc) (ls : Array Slot), WH z n D cy Y σ H → va_S (Az z) s.heap H locs → lv_has ls 9 [(0, .ref (z + this)), (1, .int a1), (2, .long x2), (4, .long x4), (6, .int x6), (7, .int x7), (8, .int x8)] → W p l e ({ frames := 4, cells := 0, slots := 0, locals := 101 } : Room) s m ([.ref (z + this), .int a1] : List Value).toArray below meth c H locs 0 0 (MQ below (va_Qi (fun (x : Int32) (_ : Unit) => x = r) (fun _ t => WH z n D cy Y σ1 t.heap) (Az z)) ([.ref (z + this), .int a1] : List Value).toArray s 0 0 (Az z)) (F0 m 62 ls []) := by
    intro k48 H48
    intro nn
    induction nn with
    | zero =>
      intro x2 x4 x6 x7 x8 σ  hf
      have h9 : (none : Option (Int32 × Mm)) = some (r, σ1) := hf
      cases h9
    | succ nn H62 =>
      intro x2 x4 x6 x7 x8 σ  hf H locs ls hW hS hl
      have hf : s_X12_falseShare_62 Y fu this a1 k48 (b_X12_falseShare_62 Y fu this a1 k48 nn) x2 x4 x6 x7 x8 σ = some (r, σ1) := hf
      generalize hkk : b_X12_falseShare_62 Y fu this a1 k48 nn = k62 at hf H62
      refine lv_iload hx hb dX12_falseShare_62 (lv_at hl 6 rfl) ?_
      refine lv_aload_n hx hb dX12_falseShare_64 rfl (lv_at hl 0 rfl) ?_
      refine q_geti (own := RX12) (ref := RX12) (C := RX12) (T := TX12) (N := 57) (kc := 9) (ci := 0) hx hb hts hin12 hown hK hW h_this (by decide) rfl 22 (by decide) hw0 rfl rfl dX12_falseShare_65 ?_
      refine lv_icmp_ge (tgt := 115) hx hb dX12_falseShare_68 (by decide) (fun c => ?_) (fun c => ?_)
      · have hf := g_pos c hf
        refine lv_aload_n hx hb dX12_falseShare_115 rfl (lv_at hl 0 rfl) ?_
        refine lv_aload_n hx hb dX12_falseShare_116 rfl (lv_at hl 0 rfl) ?_
        refine q_geti (own := RX12) (ref := RX12) (C := RX12) (T := TX12) (N := 57) (kc := 9) (ci := 0) hx hb hts hin12 hown hK hW h_this (by decide) rfl 22 (by decide) hw0 rfl rfl dX12_falseShare_117 ?_
        obtain ⟨σ_10, hc_9, hf⟩ := g_bn1 hf
        refine q_callv (va_runV (As := [.int (Mm.gi σ this 22)]) (rest := []) ⟨hx, hb, hml, hown, hts⟩ (k_X12_layGreat l z n D cy Y h_this hc_9) (cwV 1 hts gX12_falseShare_X12_layGreat rfl rfl rfl (by decide +kernel) ⟨Nat.le_of_ble_eq_true rfl, Nat.le_of_ble_eq_true rfl⟩) (q_PV (T := TX12) (N := 57) hK hN hW h_this (by decide) rfl) rfl rfl hl.1 rfl (lv_room (Nat.le_of_ble_eq_true rfl)) dX12_falseShare_120 ⟨Nat.le_refl _, Nat.le_refl _⟩) hS (fun H locs hW hS => ?_)
        refine lv_iload hx hb dX12_falseShare_123 (lv_at hl 4 rfl) ?_
        refine lv_lload_n hx hb dX12_falseShare_125 rfl (lv_at hl 2 rfl) ?_
        refine lv_lload hx hb dX12_falseShare_126 (lv_at hl 3 rfl) ?_
        refine lv_aload_n hx hb dX12_falseShare_128 rfl (lv_at hl 0 rfl) ?_
        refine q_getl (own := RX12) (ref := RX12) (C := RX12) (T := TX12) (N := 57) (kc := 9) (ci := 0) hx hb hts hin12 hown hK hW h_this (by decide) rfl 49 (by decide) hw1 rfl rfl dX12_falseShare_129 ?_
        refine lv_aload_n hx hb dX12_falseShare_132 rfl (lv_at hl 0 rfl) ?_
        refine q_getl (own := RX12) (ref := RX12) (C := RX12) (T := TX12) (N := 57) (kc := 9) (ci := 0) hx hb hts hin12 hown hK hW h_this (by decide) rfl 50 (by decide) hw2 rfl rfl dX12_falseShare_133 ?_
        obtain ⟨r_13, σ_12, hc_11, hf⟩ := g_bnd hf
        refine q_calli (va_runS (As := [.long x2, .long x4, .long (Mm.gl σ_10 this 49), .long (Mm.gl σ_10 this 50)]) (rest := [.int x6]) ⟨hx, hb, hml, hown, hts⟩ (k_X12_isAbove l z n D cy Y hc_11) (va_cwS 4 hts gX12_falseShare_X12_isAbove rfl rfl rfl (by decide +kernel) ⟨Nat.le_of_ble_eq_true rfl, Nat.le_of_ble_eq_true rfl⟩) (q_PS hK hN hW) rfl rfl hl.1 rfl (lv_room (Nat.le_of_ble_eq_true rfl)) dX12_falseShare_136 ⟨Nat.le_refl _, Nat.le_refl _⟩) hS (fun H locs hW hS => ?_)
        refine lv_if_eq (tgt := 146) hx hb dX12_falseShare_139 (by decide) (fun c => ?_) (fun c => ?_)
        · have hf := g_pos c hf
          refine lv_iconst (v := 1) hx hb dX12_falseShare_146 (by decide) ?_
          exact B147 k48 H48 x2 x4 x7 1 x6 σ_12 hf _ _ _ hW hS (lv_sub hl [0, 1, 2, 3, 5] rfl)
        · have hf := g_neg c hf
          refine lv_iconst (v := 0) hx hb dX12_falseShare_142 (by decide) ?_
          refine lv_goto (tgt := 147) hx hb dX12_falseShare_143 (by decide) ?_
          exact B147 k48 H48 x2 x4 x7 0 x6 σ_12 hf _ _ _ hW hS (lv_sub hl [0, 1, 2, 3, 5] rfl)
      · have hf := g_neg c hf
        refine lv_aload_n hx hb dX12_falseShare_71 rfl (lv_at hl 0 rfl) ?_
        refine q_getp (own := RX12) (ref := RX12) (C := RX12) (T := TX12) (N := 57) (kc := 9) (ci := 0) hx hb hts hin12 hown hK hW h_this (by decide) rfl 48 (by decide) hw3 rfl rfl rfl (v := 631) rfl dX12_falseShare_72 (fun hk_16 hq_17 => ?_)
        refine lv_iload hx hb dX12_falseShare_75 (lv_at hl 6 rfl) ?_
        refine lv_iload hx hb dX12_falseShare_77 (lv_at hl 5 rfl) ?_
        refine lv_iload hx hb dX12_falseShare_79 (lv_at hl 6 rfl) ?_
        refine lv_ishr hx hb dX12_falseShare_81 ?_
        refine lv_iconst (v := 1) hx hb dX12_falseShare_82 (by decide) ?_
        refine lv_iand hx hb dX12_falseShare_83 ?_
        refine lv_iconst (v := 1) hx hb dX12_falseShare_84 (by decide) ?_
        refine lv_icmp_ne (tgt := 100) hx hb dX12_falseShare_85 (by decide) (fun c => ?_) (fun c => ?_)
        · have hf := g_neg c hf
          refine lv_aload_n hx hb dX12_falseShare_100 rfl (lv_at hl 0 rfl) ?_
          refine q_getp (own := RX12) (ref := RX12) (C := RX12) (T := TX12) (N := 57) (kc := 9) (ci := 0) hx hb hts hin12 hown hK hW h_this (by decide) rfl 30 (by decide) hw4 rfl rfl rfl (v := 616) rfl dX12_falseShare_101 (fun hk_18 hq_19 => ?_)
          refine lv_iload hx hb dX12_falseShare_104 (lv_at hl 6 rfl) ?_
          obtain ⟨hi_20, hf⟩ := g_in hf
          refine q_iald hx hb hK hW hk_18 (inb_of hq_19 hi_20) dX12_falseShare_106 ?_
          refine lv_i2l hx hb dX12_falseShare_107 rfl ?_
          exact B108 k48 H48 k62 H62 x2 x4 x6 x7 x8 (Int32.toInt64 (Mm.gi σ 616 (ix x8))) x8 631 σ hk_16 hf _ _ _ hW hS (lv_sub hl [0, 1, 2, 3, 4, 5, 6] rfl)
        · have hf := g_pos c hf
          refine lv_aload_n hx hb dX12_falseShare_88 rfl (lv_at hl 0 rfl) ?_
          refine q_getp (own := RX12) (ref := RX12) (C := RX12) (T := TX12) (N := 57) (kc := 9) (ci := 0) hx hb hts hin12 hown hK hW h_this (by decide) rfl 30 (by decide) hw4 rfl rfl rfl (v := 616) rfl dX12_falseShare_89 (fun hk_24 hq_25 => ?_)
          refine lv_iload hx hb dX12_falseShare_92 (lv_at hl 6 rfl) ?_
          obtain ⟨hi_26, hf⟩ := g_in hf
          refine q_iald hx hb hK hW hk_24 (inb_of hq_25 hi_26) dX12_falseShare_94 ?_
          refine lv_ineg hx hb dX12_falseShare_95 ?_
          refine lv_i2l hx hb dX12_falseShare_96 rfl ?_
          refine lv_goto (tgt := 108) hx hb dX12_falseShare_97 (by decide) ?_
          exact B108 k48 H48 k62 H62 x2 x4 x6 x7 x8 (Int32.toInt64 (-(Mm.gi σ 616 (ix x8)))) x8 631 σ hk_16 hf _ _ _ hW hS (lv_sub hl [0, 1, 2, 3, 4, 5, 6] rfl)
  have B48 : ∀ (nn : Nat) (x2 : Int64) (x4 : Int64) (x6 : Int32) (x7 : Int32) (σ : Mm), b_X12_falseShare_48 Y fu this a1 nn x2 x4 x6 x7 σ = some (r, σ1) → ∀ (H : Heap) (locs : List Loc) (ls : Array Slot), WH z n D cy Y σ H → va_S (Az z) s.heap H locs → lv_has ls 9 [(0, .ref (z + this)), (1, .int a1), (2, .long x2), (4, .long x4), (6, .int x6), (7, .int x7)] → W p l e ({ frames := 4, cells := 0, slots := 0, locals := 101 } : Room) s m ([.ref (z + this), .int a1] : List Value).toArray below meth c H locs 0 0 (MQ below (va_Qi (fun (x : Int32) (_ : Unit) => x = r) (fun _ t => WH z n D cy Y σ1 t.heap) (Az z)) ([.ref (z + this), .int a1] : List Value).toArray s 0 0 (Az z)) (F0 m 48 ls []) := by
    intro nn
    induction nn with
    | zero =>
      intro x2 x4 x6 x7 σ  hf
      have h9 : (none : Option (Int32 × Mm)) = some (r, σ1) := hf
      cases h9
    | succ nn H48 =>
      intro x2 x4 x6 x7 σ  hf H locs ls hW hS hl
      have hf : s_X12_falseShare_48 Y fu this a1 (b_X12_falseShare_48 Y fu this a1 nn) x2 x4 x6 x7 σ = some (r, σ1) := hf
      generalize hkk : b_X12_falseShare_48 Y fu this a1 nn = k48 at hf H48
      refine lv_iload hx hb dX12_falseShare_48 (lv_at hl 5 rfl) ?_
      refine lv_iconst (v := 1) hx hb dX12_falseShare_50 (by decide) ?_
      refine lv_aload_n hx hb dX12_falseShare_51 rfl (lv_at hl 0 rfl) ?_
      refine q_geti (own := RX12) (ref := RX12) (C := RX12) (T := TX12) (N := 57) (kc := 9) (ci := 0) hx hb hts hin12 hown hK hW h_this (by decide) rfl 22 (by decide) hw0 rfl rfl dX12_falseShare_52 ?_
      refine lv_ishl hx hb dX12_falseShare_55 ?_
      refine lv_icmp_ge (tgt := 156) hx hb dX12_falseShare_56 (by decide) (fun c => ?_) (fun c => ?_)
      · have hf := g_pos c hf
        refine lv_iload hx hb dX12_falseShare_156 (lv_at hl 4 rfl) ?_
        exact q_iret hx hb hr hlocks hW hS hf dX12_falseShare_158
      · have hf := g_neg c hf
        refine lv_iconst (v := 0) hx hb dX12_falseShare_59 (by decide) ?_
        refine lv_istore (lv' := [(8, .int 0), (0, .ref (z + this)), (1, .int a1), (2, .long x2), (4, .long x4), (6, .int x6), (7, .int x7)]) hx hb dX12_falseShare_60 hl (by decide) rfl (fun ls hl => ?_)
        exact B62 k48 H48 fu x2 x4 x6 x7 0 σ hf _ _ _ hW hS (lv_sub hl [1, 2, 3, 4, 5, 6, 0] rfl)
  refine lv_iload_n hx hb dX12_falseShare_0 rfl (lv_at hl 1 rfl) ?_
  obtain ⟨r_3, σ_2, hc_1, hf⟩ := g_bnd hf
  refine q_calli (va_runS (As := [.int a1]) (rest := []) ⟨hx, hb, hml, hown, hts⟩ (k_X12_isStar l z n D cy Y hc_1) (va_cwS 1 hts gX12_falseShare_X12_isStar rfl rfl rfl (by decide +kernel) ⟨Nat.le_of_ble_eq_true rfl, Nat.le_of_ble_eq_true rfl⟩) (q_PS hK hN hW) rfl rfl hl.1 rfl (lv_room (Nat.le_of_ble_eq_true rfl)) dX12_falseShare_1 ⟨Nat.le_refl _, Nat.le_refl _⟩) hS (fun H locs hW hS => ?_)
  refine lv_if_ne (tgt := 9) hx hb dX12_falseShare_4 (by decide) (fun c => ?_) (fun c => ?_)
  · have hf := g_neg c hf
    refine lv_aload_n hx hb dX12_falseShare_9 rfl (lv_at hl 0 rfl) ?_
    refine lv_iload_n hx hb dX12_falseShare_10 rfl (lv_at hl 1 rfl) ?_
    obtain ⟨r_6, σ_5, hc_4, hf⟩ := g_bnd hf
    refine q_calli (va_runV (As := [.int a1]) (rest := []) ⟨hx, hb, hml, hown, hts⟩ (k_X12_slip l z n D cy Y h_this hc_4) (cwV 1 hts gX12_falseShare_X12_slip rfl rfl rfl (by decide +kernel) ⟨Nat.le_of_ble_eq_true rfl, Nat.le_of_ble_eq_true rfl⟩) (q_PV (T := TX12) (N := 57) hK hN hW h_this (by decide) rfl) rfl rfl hl.1 rfl (lv_room (Nat.le_of_ble_eq_true rfl)) dX12_falseShare_11 ⟨Nat.le_refl _, Nat.le_refl _⟩) hS (fun H locs hW hS => ?_)
    refine lv_bipush (v := (-2)) hx hb dX12_falseShare_14 (by decide) ?_
    refine lv_icmp_eq (tgt := 28) hx hb dX12_falseShare_16 (by decide) (fun c => ?_) (fun c => ?_)
    · have hf := g_pos c hf
      refine lv_bipush (v := (-2)) hx hb dX12_falseShare_28 (by decide) ?_
      exact q_iret hx hb hr hlocks hW hS hf dX12_falseShare_30
    · have hf := g_neg c hf
      refine lv_aload_n hx hb dX12_falseShare_19 rfl (lv_at hl 0 rfl) ?_
      refine q_geti (own := RX12) (ref := RX12) (C := RX12) (T := TX12) (N := 57) (kc := 9) (ci := 0) hx hb hts hin12 hown hK hW h_this (by decide) rfl 22 (by decide) hw0 rfl rfl dX12_falseShare_20 ?_
      refine lv_bipush (v := 12) hx hb dX12_falseShare_23 (by decide) ?_
      refine lv_icmp_le (tgt := 31) hx hb dX12_falseShare_25 (by decide) (fun c => ?_) (fun c => ?_)
      · have hf := g_pos c hf
        refine lv_aload_n hx hb dX12_falseShare_31 rfl (lv_at hl 0 rfl) ?_
        refine q_getl (own := RX12) (ref := RX12) (C := RX12) (T := TX12) (N := 57) (kc := 9) (ci := 0) hx hb hts hin12 hown hK hW h_this (by decide) rfl 49 (by decide) hw1 rfl rfl dX12_falseShare_32 ?_
        refine lv_topl (fun x2_7 ex2_7 => ?_)
        have hf := g_lt ex2_7 hf
        refine lv_lstore_n (lv' := [(2, .long x2_7), (0, .ref (z + this)), (1, .int a1)]) hx hb dX12_falseShare_35 rfl hl (by decide) rfl (fun ls hl => ?_)
        refine lv_aload_n hx hb dX12_falseShare_36 rfl (lv_at hl 1 rfl) ?_
        refine q_getl (own := RX12) (ref := RX12) (C := RX12) (T := TX12) (N := 57) (kc := 9) (ci := 0) hx hb hts hin12 hown hK hW h_this (by decide) rfl 50 (by decide) hw2 rfl rfl dX12_falseShare_37 ?_
        refine lv_topl (fun x4_8 ex4_8 => ?_)
        have hf := g_lt ex4_8 hf
        refine lv_lstore (lv' := [(4, .long x4_8), (2, .long x2_7), (0, .ref (z + this)), (1, .int a1)]) hx hb dX12_falseShare_40 hl (by decide) rfl (fun ls hl => ?_)
        refine lv_iconst (v := 0) hx hb dX12_falseShare_42 (by decide) ?_
        refine lv_istore (lv' := [(6, .int 0), (4, .long x4_8), (2, .long x2_7), (0, .ref (z + this)), (1, .int a1)]) hx hb dX12_falseShare_43 hl (by decide) rfl (fun ls hl => ?_)
        refine lv_iconst (v := 0) hx hb dX12_falseShare_45 (by decide) ?_
        refine lv_istore (lv' := [(7, .int 0), (6, .int 0), (4, .long x4_8), (2, .long x2_7), (0, .ref (z + this)), (1, .int a1)]) hx hb dX12_falseShare_46 hl (by decide) rfl (fun ls hl => ?_)
        exact B48 fu x2_7 x4_8 0 0 σ_5 hf _ _ _ hW hS (lv_sub hl [4, 5, 3, 2, 1, 0] rfl)
      · have hf := g_neg c hf
        refine lv_bipush (v := (-2)) hx hb dX12_falseShare_28 (by decide) ?_
        exact q_iret hx hb hr hlocks hW hS hf dX12_falseShare_30
  · have hf := g_pos c hf
    refine lv_iconst (v := (-1)) hx hb dX12_falseShare_7 (by decide) ?_
    exact q_iret hx hb hr hlocks hW hS hf dX12_falseShare_8
set_option maxRecDepth 100000 in
set_option maxHeartbeats 40000000 in
theorem k_X12_isFigure (l : Launch) (z n : Nat) (D : va_G) (cy : Nat → ClassId) (Y : Yt) {this : Nat} {σ : Mm} {r : Int32} {σ1 : Mm} (h_this : okk Y n 9 this) (hf : f_X12_isFigure Y this σ = some (r, σ1)) : Ki l yX12_isFigure wsX12_isFigure ({ frames := 0, cells := 0, slots := 0, locals := 0 } : Room) z n D cy Y [.ref (z + this)] σ r σ1 := by
  refine Met.ofW (cc := cX12_isFigure) (maxL := 1) (ret := (some .boolean)) (by decide +kernel) rfl ?_
  intro p e s m args below meth c s₁ B hml hv
  obtain ⟨rfl, hW, hK, hN⟩ := hv
  have hx := B.exec
  have hb := B.bytes
  have hr := B.returns
  have hts := atoms_spec (ws := wsX12_isFigure) B.pre
  have hown : s.vm.findClass RX12 = some m.cls := findClass_of_methodNamed B.named
  have hlocks := B.notSynchronized
  have hS : va_S (Az z) s.heap s.heap [] := va_S.rf
  have hin12 : ∀ w ∈ wsX120, w ∈ wsX12_isFigure := fun w h => List.mem_cons_of_mem _ (List.mem_append_right _ h)
  have hw0 := hts (.fieldLink RX12 191 "SkyClocksModel" "pos" "I") (List.mem_of_getElem? (i := 1) rfl)
  have hw1 := hts (.fieldLink RX12 186 "SkyClocksModel" "length" "I") (List.mem_of_getElem? (i := 2) rfl)
  have hw2 := hts (.fieldLink RX12 67 "SkyClocksModel" "text" "[I") (List.mem_of_getElem? (i := 3) rfl)
  have hl := lv_entry ([.ref (z + this)]) (n := 1) (Nat.le_of_ble_eq_true rfl)
  rw [lg_entry_eq]
  generalize (lg_sl ([.ref (z + this)]) ++ List.replicate (1 - (lg_sl ([.ref (z + this)])).length) Slot.unset).toArray = ls at hl ⊢
  have hl : lv_has ls 1 [(0, .ref (z + this))] := hl
  refine lv_aload_n hx hb dX12_isFigure_0 rfl (lv_at hl 0 rfl) ?_
  refine q_geti (own := RX12) (ref := RX12) (C := RX12) (T := TX12) (N := 57) (kc := 9) (ci := 0) hx hb hts hin12 hown hK hW h_this (by decide) rfl 23 (by decide) hw0 rfl rfl dX12_isFigure_1 ?_
  refine lv_aload_n hx hb dX12_isFigure_4 rfl (lv_at hl 0 rfl) ?_
  refine q_geti (own := RX12) (ref := RX12) (C := RX12) (T := TX12) (N := 57) (kc := 9) (ci := 0) hx hb hts hin12 hown hK hW h_this (by decide) rfl 20 (by decide) hw1 rfl rfl dX12_isFigure_5 ?_
  refine lv_icmp_ge (tgt := 43) hx hb dX12_isFigure_8 (by decide) (fun c => ?_) (fun c => ?_)
  · have hf := g_pos c hf
    refine lv_iconst (v := 0) hx hb dX12_isFigure_43 (by decide) ?_
    exact q_zret hx hb hr hlocks hW hS hf dX12_isFigure_44
  · have hf := g_neg c hf
    refine lv_aload_n hx hb dX12_isFigure_11 rfl (lv_at hl 0 rfl) ?_
    refine q_getp (own := RX12) (ref := RX12) (C := RX12) (T := TX12) (N := 57) (kc := 9) (ci := 0) hx hb hts hin12 hown hK hW h_this (by decide) rfl 19 (by decide) hw2 rfl rfl rfl (v := 613) rfl dX12_isFigure_12 (fun hk_1 hq_2 => ?_)
    refine lv_aload_n hx hb dX12_isFigure_15 rfl (lv_at hl 0 rfl) ?_
    refine q_geti (own := RX12) (ref := RX12) (C := RX12) (T := TX12) (N := 57) (kc := 9) (ci := 0) hx hb hts hin12 hown hK hW h_this (by decide) rfl 23 (by decide) hw0 rfl rfl dX12_isFigure_16 ?_
    obtain ⟨hi_3, hf⟩ := g_in hf
    refine q_iald hx hb hK hW hk_1 (inb_of hq_2 hi_3) dX12_isFigure_19 ?_
    refine lv_bipush (v := 48) hx hb dX12_isFigure_20 (by decide) ?_
    refine lv_icmp_lt (tgt := 43) hx hb dX12_isFigure_22 (by decide) (fun c => ?_) (fun c => ?_)
    · have hf := g_pos c hf
      refine lv_iconst (v := 0) hx hb dX12_isFigure_43 (by decide) ?_
      exact q_zret hx hb hr hlocks hW hS hf dX12_isFigure_44
    · have hf := g_neg c hf
      refine lv_aload_n hx hb dX12_isFigure_25 rfl (lv_at hl 0 rfl) ?_
      refine q_getp (own := RX12) (ref := RX12) (C := RX12) (T := TX12) (N := 57) (kc := 9) (ci := 0) hx hb hts hin12 hown hK hW h_this (by decide) rfl 19 (by decide) hw2 rfl rfl rfl (v := 613) rfl dX12_isFigure_26 (fun hk_4 hq_5 => ?_)
      refine lv_aload_n hx hb dX12_isFigure_29 rfl (lv_at hl 0 rfl) ?_
      refine q_geti (own := RX12) (ref := RX12) (C := RX12) (T := TX12) (N := 57) (kc := 9) (ci := 0) hx hb hts hin12 hown hK hW h_this (by decide) rfl 23 (by decide) hw0 rfl rfl dX12_isFigure_30 ?_
      obtain ⟨hi_6, hf⟩ := g_in hf
      refine q_iald hx hb hK hW hk_4 (inb_of hq_5 hi_6) dX12_isFigure_33 ?_
      refine lv_bipush (v := 57) hx hb dX12_isFigure_34 (by decide) ?_
      refine lv_icmp_gt (tgt := 43) hx hb dX12_isFigure_36 (by decide) (fun c => ?_) (fun c => ?_)
      · have hf := g_pos c hf
        refine lv_iconst (v := 0) hx hb dX12_isFigure_43 (by decide) ?_
        exact q_zret hx hb hr hlocks hW hS hf dX12_isFigure_44
      · have hf := g_neg c hf
        refine lv_iconst (v := 1) hx hb dX12_isFigure_39 (by decide) ?_
        refine lv_goto (tgt := 44) hx hb dX12_isFigure_40 (by decide) ?_
        exact q_zret hx hb hr hlocks hW hS hf dX12_isFigure_44
set_option maxRecDepth 100000 in
set_option maxHeartbeats 40000000 in
theorem k_X12_isAt (l : Launch) (z n : Nat) (D : va_G) (cy : Nat → ClassId) (Y : Yt) {this : Nat} {a1 : Int32} {σ : Mm} {r : Int32} {σ1 : Mm} (h_this : okk Y n 9 this) (hf : f_X12_isAt Y this a1 σ = some (r, σ1)) : Ki l yX12_isAt wsX12_isAt ({ frames := 0, cells := 0, slots := 0, locals := 0 } : Room) z n D cy Y [.ref (z + this), .int a1] σ r σ1 := by
  refine Met.ofW (cc := cX12_isAt) (maxL := 2) (ret := (some .boolean)) (by decide +kernel) rfl ?_
  intro p e s m args below meth c s₁ B hml hv
  obtain ⟨rfl, hW, hK, hN⟩ := hv
  have hx := B.exec
  have hb := B.bytes
  have hr := B.returns
  have hts := atoms_spec (ws := wsX12_isAt) B.pre
  have hown : s.vm.findClass RX12 = some m.cls := findClass_of_methodNamed B.named
  have hlocks := B.notSynchronized
  have hS : va_S (Az z) s.heap s.heap [] := va_S.rf
  have hin12 : ∀ w ∈ wsX120, w ∈ wsX12_isAt := fun w h => List.mem_cons_of_mem _ (List.mem_append_right _ h)
  have hw0 := hts (.fieldLink RX12 191 "SkyClocksModel" "pos" "I") (List.mem_of_getElem? (i := 1) rfl)
  have hw1 := hts (.fieldLink RX12 186 "SkyClocksModel" "length" "I") (List.mem_of_getElem? (i := 2) rfl)
  have hw2 := hts (.fieldLink RX12 67 "SkyClocksModel" "text" "[I") (List.mem_of_getElem? (i := 3) rfl)
  have hl := lv_entry ([.ref (z + this), .int a1]) (n := 2) (Nat.le_of_ble_eq_true rfl)
  rw [lg_entry_eq]
  generalize (lg_sl ([.ref (z + this), .int a1]) ++ List.replicate (2 - (lg_sl ([.ref (z + this), .int a1])).length) Slot.unset).toArray = ls at hl ⊢
  have hl : lv_has ls 2 [(0, .ref (z + this)), (1, .int a1)] := hl
  refine lv_aload_n hx hb dX12_isAt_0 rfl (lv_at hl 0 rfl) ?_
  refine q_geti (own := RX12) (ref := RX12) (C := RX12) (T := TX12) (N := 57) (kc := 9) (ci := 0) hx hb hts hin12 hown hK hW h_this (by decide) rfl 23 (by decide) hw0 rfl rfl dX12_isAt_1 ?_
  refine lv_aload_n hx hb dX12_isAt_4 rfl (lv_at hl 0 rfl) ?_
  refine q_geti (own := RX12) (ref := RX12) (C := RX12) (T := TX12) (N := 57) (kc := 9) (ci := 0) hx hb hts hin12 hown hK hW h_this (by decide) rfl 20 (by decide) hw1 rfl rfl dX12_isAt_5 ?_
  refine lv_icmp_ge (tgt := 28) hx hb dX12_isAt_8 (by decide) (fun c => ?_) (fun c => ?_)
  · have hf := g_pos c hf
    refine lv_iconst (v := 0) hx hb dX12_isAt_28 (by decide) ?_
    exact q_zret hx hb hr hlocks hW hS hf dX12_isAt_29
  · have hf := g_neg c hf
    refine lv_aload_n hx hb dX12_isAt_11 rfl (lv_at hl 0 rfl) ?_
    refine q_getp (own := RX12) (ref := RX12) (C := RX12) (T := TX12) (N := 57) (kc := 9) (ci := 0) hx hb hts hin12 hown hK hW h_this (by decide) rfl 19 (by decide) hw2 rfl rfl rfl (v := 613) rfl dX12_isAt_12 (fun hk_1 hq_2 => ?_)
    refine lv_aload_n hx hb dX12_isAt_15 rfl (lv_at hl 0 rfl) ?_
    refine q_geti (own := RX12) (ref := RX12) (C := RX12) (T := TX12) (N := 57) (kc := 9) (ci := 0) hx hb hts hin12 hown hK hW h_this (by decide) rfl 23 (by decide) hw0 rfl rfl dX12_isAt_16 ?_
    obtain ⟨hi_3, hf⟩ := g_in hf
    refine q_iald hx hb hK hW hk_1 (inb_of hq_2 hi_3) dX12_isAt_19 ?_
    refine lv_iload_n hx hb dX12_isAt_20 rfl (lv_at hl 1 rfl) ?_
    refine lv_icmp_ne (tgt := 28) hx hb dX12_isAt_21 (by decide) (fun c => ?_) (fun c => ?_)
    · have hf := g_neg c hf
      refine lv_iconst (v := 0) hx hb dX12_isAt_28 (by decide) ?_
      exact q_zret hx hb hr hlocks hW hS hf dX12_isAt_29
    · have hf := g_pos c hf
      refine lv_iconst (v := 1) hx hb dX12_isAt_24 (by decide) ?_
      refine lv_goto (tgt := 29) hx hb dX12_isAt_25 (by decide) ?_
      exact q_zret hx hb hr hlocks hW hS hf dX12_isAt_29
set_option maxRecDepth 100000 in
set_option maxHeartbeats 40000000 in
theorem k_X12_skip (l : Launch) (z n : Nat) (D : va_G) (cy : Nat → ClassId) (Y : Yt) {this : Nat} {a1 : Int32} {σ : Mm} {r : Int32} {σ1 : Mm} (h_this : okk Y n 9 this) (hf : f_X12_skip Y this a1 σ = some (r, σ1)) : Ki l yX12_skip wsX12_skip ({ frames := 1, cells := 0, slots := 0, locals := 21 } : Room) z n D cy Y [.ref (z + this), .int a1] σ r σ1 := by
  refine Met.ofW (cc := cX12_skip) (maxL := 3) (ret := (some .boolean)) (by decide +kernel) rfl ?_
  intro p e s m args below meth c s₁ B hml hv
  obtain ⟨rfl, hW, hK, hN⟩ := hv
  have hx := B.exec
  have hb := B.bytes
  have hr := B.returns
  have hts := atoms_spec (ws := wsX12_skip) B.pre
  have hown : s.vm.findClass RX12 = some m.cls := findClass_of_methodNamed B.named
  have hlocks := B.notSynchronized
  have hS : va_S (Az z) s.heap s.heap [] := va_S.rf
  have hin12 : ∀ w ∈ wsX120, w ∈ wsX12_skip := fun w h => List.mem_cons_of_mem _ (List.mem_append_right _ h)
  have hw0 := hts (.fieldLink RX12 191 "SkyClocksModel" "pos" "I") (List.mem_of_getElem? (i := 1) rfl)
  have hl := lv_entry ([.ref (z + this), .int a1]) (n := 3) (Nat.le_of_ble_eq_true rfl)
  rw [lg_entry_eq]
  generalize (lg_sl ([.ref (z + this), .int a1]) ++ List.replicate (3 - (lg_sl ([.ref (z + this), .int a1])).length) Slot.unset).toArray = ls at hl ⊢
  have hl : lv_has ls 3 [(0, .ref (z + this)), (1, .int a1)] := hl
  refine lv_aload_n hx hb dX12_skip_0 rfl (lv_at hl 0 rfl) ?_
  refine lv_iload_n hx hb dX12_skip_1 rfl (lv_at hl 1 rfl) ?_
  obtain ⟨r_3, σ_2, hc_1, hf⟩ := g_bnd hf
  refine q_calli (va_runV (As := [.int a1]) (rest := []) ⟨hx, hb, hml, hown, hts⟩ (k_X12_isAt l z n D cy Y h_this hc_1) (cwV 1 hts gX12_skip_X12_isAt rfl rfl rfl (by decide +kernel) ⟨Nat.le_of_ble_eq_true rfl, Nat.le_of_ble_eq_true rfl⟩) (q_PV (T := TX12) (N := 57) hK hN hW h_this (by decide) rfl) rfl rfl hl.1 rfl (lv_room (Nat.le_of_ble_eq_true rfl)) dX12_skip_2 ⟨Nat.le_refl _, Nat.le_refl _⟩) hS (fun H locs hW hS => ?_)
  refine lv_istore_n (lv' := [(2, .int r_3), (0, .ref (z + this)), (1, .int a1)]) hx hb dX12_skip_5 rfl hl (by decide) rfl (fun ls hl => ?_)
  refine lv_aload_n hx hb dX12_skip_6 rfl (lv_at hl 1 rfl) ?_
  refine lv_dup hx hb dX12_skip_7 rfl ?_
  refine q_geti (own := RX12) (ref := RX12) (C := RX12) (T := TX12) (N := 57) (kc := 9) (ci := 0) hx hb hts hin12 hown hK hW h_this (by decide) rfl 23 (by decide) hw0 rfl rfl dX12_skip_8 ?_
  refine lv_iload_n hx hb dX12_skip_11 rfl (lv_at hl 0 rfl) ?_
  refine lv_if_eq (tgt := 19) hx hb dX12_skip_12 (by decide) (fun c => ?_) (fun c => ?_)
  · have hf := g_pos c hf
    refine lv_iconst (v := 0) hx hb dX12_skip_19 (by decide) ?_
    refine lv_iadd hx hb dX12_skip_20 ?_
    refine q_puti (own := RX12) (ref := RX12) (C := RX12) (T := TX12) (N := 57) (kc := 9) (ci := 0) hx hb hts hin12 tyX12_ok nmX12 hown hK hW hS h_this (by decide) rfl 23 (by decide) hw0 rfl rfl (ty := .int) (tyX12_ok 23 (by decide)) rfl rfl rfl dX12_skip_21 (fun H locs hW hS => ?_)
    obtain ⟨σ_4, eσ_4⟩ : ∃ y : Mm, y = (Mm.si σ_2 this 23 ((Mm.gi σ_2 this 23) + 0)) := ⟨_, rfl⟩
    rw [← eσ_4] at hW
    have hf := g_lt eσ_4 hf
    refine lv_iload_n hx hb dX12_skip_24 rfl (lv_at hl 0 rfl) ?_
    exact q_zret hx hb hr hlocks hW hS hf dX12_skip_25
  · have hf := g_neg c hf
    refine lv_iconst (v := 1) hx hb dX12_skip_15 (by decide) ?_
    refine lv_goto (tgt := 20) hx hb dX12_skip_16 (by decide) ?_
    refine lv_iadd hx hb dX12_skip_20 ?_
    refine q_puti (own := RX12) (ref := RX12) (C := RX12) (T := TX12) (N := 57) (kc := 9) (ci := 0) hx hb hts hin12 tyX12_ok nmX12 hown hK hW hS h_this (by decide) rfl 23 (by decide) hw0 rfl rfl (ty := .int) (tyX12_ok 23 (by decide)) rfl rfl rfl dX12_skip_21 (fun H locs hW hS => ?_)
    obtain ⟨σ_5, eσ_5⟩ : ∃ y : Mm, y = (Mm.si σ_2 this 23 ((Mm.gi σ_2 this 23) + 1)) := ⟨_, rfl⟩
    rw [← eσ_5] at hW
    have hf := g_lt eσ_5 hf
    refine lv_iload_n hx hb dX12_skip_24 rfl (lv_at hl 0 rfl) ?_
    exact q_zret hx hb hr hlocks hW hS hf dX12_skip_25
set_option maxRecDepth 100000 in
set_option maxHeartbeats 40000000 in
theorem k_X12_number (l : Launch) (z n : Nat) (D : va_G) (cy : Nat → ClassId) (Y : Yt) {fu : Nat} {this : Nat} {a1 : Int32} {a2 : Int32} {σ : Mm} {r : Int32} {σ1 : Mm} (h_this : okk Y n 9 this) (hf : f_X12_number Y fu this a1 a2 σ = some (r, σ1)) : Ki l yX12_number wsX12_number ({ frames := 2, cells := 0, slots := 0, locals := 43 } : Room) z n D cy Y [.ref (z + this), .int a1, .int a2] σ r σ1 := by
  refine Met.ofW (cc := cX12_number) (maxL := 6) (ret := (some .boolean)) (by decide +kernel) rfl ?_
  intro p e s m args below meth c s₁ B hml hv
  obtain ⟨rfl, hW, hK, hN⟩ := hv
  have hx := B.exec
  have hb := B.bytes
  have hr := B.returns
  have hts := atoms_spec (ws := wsX12_number) B.pre
  have hown : s.vm.findClass RX12 = some m.cls := findClass_of_methodNamed B.named
  have hlocks := B.notSynchronized
  have hS : va_S (Az z) s.heap s.heap [] := va_S.rf
  have hin12 : ∀ w ∈ wsX120, w ∈ wsX12_number := fun w h => List.mem_cons_of_mem _ (List.mem_append_right _ h)
  have hw0 := hts (.fieldLink RX12 204 "SkyClocksModel" "figure" "I") (List.mem_of_getElem? (i := 3) rfl)
  have hw1 := hts (.fieldLink RX12 67 "SkyClocksModel" "text" "[I") (List.mem_of_getElem? (i := 1) rfl)
  have hw2 := hts (.fieldLink RX12 191 "SkyClocksModel" "pos" "I") (List.mem_of_getElem? (i := 2) rfl)
  have hl := lv_entry ([.ref (z + this), .int a1, .int a2]) (n := 6) (Nat.le_of_ble_eq_true rfl)
  rw [lg_entry_eq]
  generalize (lg_sl ([.ref (z + this), .int a1, .int a2]) ++ List.replicate (6 - (lg_sl ([.ref (z + this), .int a1, .int a2])).length) Slot.unset).toArray = ls at hl ⊢
  have hl : lv_has ls 6 [(0, .ref (z + this)), (1, .int a1), (2, .int a2)] := hl
  have B76 : ∀ (x4 : Int32) (t0 : Int32) (t1 : Nat) (σ : Mm), okk Y n 9 t1 → b_X12_number_76 Y fu this a1 a2 x4 t0 t1 σ = some (r, σ1) → ∀ (H : Heap) (locs : List Loc) (ls : Array Slot), WH z n D cy Y σ H → va_S (Az z) s.heap H locs → lv_has ls 6 [(0, .ref (z + this)), (1, .int a1), (2, .int a2), (4, .int x4)] → W p l e ({ frames := 2, cells := 0, slots := 0, locals := 43 } : Room) s m ([.ref (z + this), .int a1, .int a2] : List Value).toArray below meth c H locs 0 0 (MQ below (va_Qi (fun (x : Int32) (_ : Unit) => x = r) (fun _ t => WH z n D cy Y σ1 t.heap) (Az z)) ([.ref (z + this), .int a1, .int a2] : List Value).toArray s 0 0 (Az z)) (F0 m 76 ls [.int t0, .ref (z + t1)]) := by
    intro  x4 t0 t1 σ h_t1 hf H locs ls hW hS hl
    refine q_puti (own := RX12) (ref := RX12) (C := RX12) (T := TX12) (N := 57) (kc := 9) (ci := 0) hx hb hts hin12 tyX12_ok nmX12 hown hK hW hS h_t1 (by decide) rfl 24 (by decide) hw0 rfl rfl (ty := .int) (tyX12_ok 24 (by decide)) rfl rfl rfl dX12_number_76 (fun H locs hW hS => ?_)
    obtain ⟨σ_4, eσ_4⟩ : ∃ y : Mm, y = (Mm.si σ t1 24 t0) := ⟨_, rfl⟩
    rw [← eσ_4] at hW
    have hf := g_lt eσ_4 hf
    refine lv_iload hx hb dX12_number_79 (lv_at hl 3 rfl) ?_
    refine lv_if_le (tgt := 103) hx hb dX12_number_81 (by decide) (fun c => ?_) (fun c => ?_)
    · have hf := g_pos c hf
      refine lv_iconst (v := 0) hx hb dX12_number_103 (by decide) ?_
      exact q_zret hx hb hr hlocks hW hS hf dX12_number_104
    · have hf := g_neg c hf
      refine lv_aload_n hx hb dX12_number_84 rfl (lv_at hl 0 rfl) ?_
      refine q_geti (own := RX12) (ref := RX12) (C := RX12) (T := TX12) (N := 57) (kc := 9) (ci := 0) hx hb hts hin12 hown hK hW h_this (by decide) rfl 24 (by decide) hw0 rfl rfl dX12_number_85 ?_
      refine lv_i2l hx hb dX12_number_88 rfl ?_
      refine lv_iload_n hx hb dX12_number_89 rfl (lv_at hl 1 rfl) ?_
      refine lv_i2l hx hb dX12_number_90 rfl ?_
      refine lv_iload_n hx hb dX12_number_91 rfl (lv_at hl 2 rfl) ?_
      refine lv_i2l hx hb dX12_number_92 rfl ?_
      obtain ⟨r_7, σ_6, hc_5, hf⟩ := g_bnd hf
      refine q_calli (va_runS (As := [.long (Int32.toInt64 (Mm.gi σ_4 this 24)), .long (Int32.toInt64 a1), .long (Int32.toInt64 a2)]) (rest := []) ⟨hx, hb, hml, hown, hts⟩ (k_X12_in l z n D cy Y hc_5) (va_cwS 3 hts gX12_number_X12_in rfl rfl rfl (by decide +kernel) ⟨Nat.le_of_ble_eq_true rfl, Nat.le_of_ble_eq_true rfl⟩) (q_PS hK hN hW) rfl rfl hl.1 rfl (lv_room (Nat.le_of_ble_eq_true rfl)) dX12_number_93 ⟨Nat.le_refl _, Nat.le_refl _⟩) hS (fun H locs hW hS => ?_)
      refine lv_if_eq (tgt := 103) hx hb dX12_number_96 (by decide) (fun c => ?_) (fun c => ?_)
      · have hf := g_pos c hf
        refine lv_iconst (v := 0) hx hb dX12_number_103 (by decide) ?_
        exact q_zret hx hb hr hlocks hW hS hf dX12_number_104
      · have hf := g_neg c hf
        refine lv_iconst (v := 1) hx hb dX12_number_99 (by decide) ?_
        refine lv_goto (tgt := 104) hx hb dX12_number_100 (by decide) ?_
        exact q_zret hx hb hr hlocks hW hS hf dX12_number_104
  have B63 : ∀ (x3 : Int32) (x4 : Int32) (x5 : Int32) (σ : Mm), b_X12_number_63 Y fu this a1 a2 x3 x4 x5 σ = some (r, σ1) → ∀ (H : Heap) (locs : List Loc) (ls : Array Slot), WH z n D cy Y σ H → va_S (Az z) s.heap H locs → lv_has ls 6 [(0, .ref (z + this)), (1, .int a1), (2, .int a2), (3, .int x3), (4, .int x4), (5, .int x5)] → W p l e ({ frames := 2, cells := 0, slots := 0, locals := 43 } : Room) s m ([.ref (z + this), .int a1, .int a2] : List Value).toArray below meth c H locs 0 0 (MQ below (va_Qi (fun (x : Int32) (_ : Unit) => x = r) (fun _ t => WH z n D cy Y σ1 t.heap) (Az z)) ([.ref (z + this), .int a1, .int a2] : List Value).toArray s 0 0 (Az z)) (F0 m 63 ls []) := by
    intro  x3 x4 x5 σ  hf H locs ls hW hS hl
    refine lv_aload_n hx hb dX12_number_63 rfl (lv_at hl 0 rfl) ?_
    refine lv_iload_n hx hb dX12_number_64 rfl (lv_at hl 3 rfl) ?_
    refine lv_if_eq (tgt := 74) hx hb dX12_number_65 (by decide) (fun c => ?_) (fun c => ?_)
    · have hf := g_pos c hf
      refine lv_iload hx hb dX12_number_74 (lv_at hl 5 rfl) ?_
      exact B76 x4 x5 this σ h_this hf _ _ _ hW hS (lv_sub hl [0, 1, 2, 4] rfl)
    · have hf := g_neg c hf
      refine lv_iload hx hb dX12_number_68 (lv_at hl 5 rfl) ?_
      refine lv_ineg hx hb dX12_number_70 ?_
      refine lv_goto (tgt := 76) hx hb dX12_number_71 (by decide) ?_
      exact B76 x4 (-x5) this σ h_this hf _ _ _ hW hS (lv_sub hl [0, 1, 2, 4] rfl)
  have B13 : ∀ (nn : Nat) (x3 : Int32) (x4 : Int32) (x5 : Int32) (σ : Mm), b_X12_number_13 Y fu this a1 a2 nn x3 x4 x5 σ = some (r, σ1) → ∀ (H : Heap) (locs : List Loc) (ls : Array Slot), WH z n D cy Y σ H → va_S (Az z) s.heap H locs → lv_has ls 6 [(0, .ref (z + this)), (1, .int a1), (2, .int a2), (3, .int x3), (4, .int x4), (5, .int x5)] → W p l e ({ frames := 2, cells := 0, slots := 0, locals := 43 } : Room) s m ([.ref (z + this), .int a1, .int a2] : List Value).toArray below meth c H locs 0 0 (MQ below (va_Qi (fun (x : Int32) (_ : Unit) => x = r) (fun _ t => WH z n D cy Y σ1 t.heap) (Az z)) ([.ref (z + this), .int a1, .int a2] : List Value).toArray s 0 0 (Az z)) (F0 m 13 ls []) := by
    intro nn
    induction nn with
    | zero =>
      intro x3 x4 x5 σ  hf
      have h9 : (none : Option (Int32 × Mm)) = some (r, σ1) := hf
      cases h9
    | succ nn H13 =>
      intro x3 x4 x5 σ  hf H locs ls hW hS hl
      have hf : s_X12_number_13 Y fu this a1 a2 (b_X12_number_13 Y fu this a1 a2 nn) x3 x4 x5 σ = some (r, σ1) := hf
      generalize hkk : b_X12_number_13 Y fu this a1 a2 nn = k13 at hf H13
      refine lv_iload hx hb dX12_number_13 (lv_at hl 4 rfl) ?_
      refine lv_bipush (v := 9) hx hb dX12_number_15 (by decide) ?_
      refine lv_icmp_ge (tgt := 63) hx hb dX12_number_17 (by decide) (fun c => ?_) (fun c => ?_)
      · have hf := g_pos c hf
        exact B63 x3 x4 x5 σ hf _ _ _ hW hS (lv_sub hl [0, 1, 2, 3, 4, 5] rfl)
      · have hf := g_neg c hf
        refine lv_aload_n hx hb dX12_number_20 rfl (lv_at hl 0 rfl) ?_
        obtain ⟨r_10, σ_9, hc_8, hf⟩ := g_bnd hf
        refine q_calli (va_runV (As := []) (rest := []) ⟨hx, hb, hml, hown, hts⟩ (k_X12_isFigure l z n D cy Y h_this hc_8) (cwV 0 hts gX12_number_X12_isFigure rfl rfl rfl (by decide +kernel) ⟨Nat.le_of_ble_eq_true rfl, Nat.le_of_ble_eq_true rfl⟩) (q_PV (T := TX12) (N := 57) hK hN hW h_this (by decide) rfl) rfl rfl hl.1 rfl (lv_room (Nat.le_of_ble_eq_true rfl)) dX12_number_21 ⟨Nat.le_refl _, Nat.le_refl _⟩) hS (fun H locs hW hS => ?_)
        refine lv_if_eq (tgt := 63) hx hb dX12_number_24 (by decide) (fun c => ?_) (fun c => ?_)
        · have hf := g_pos c hf
          exact B63 x3 x4 x5 σ_9 hf _ _ _ hW hS (lv_sub hl [0, 1, 2, 3, 4, 5] rfl)
        · have hf := g_neg c hf
          refine lv_bipush (v := 10) hx hb dX12_number_27 (by decide) ?_
          refine lv_iload hx hb dX12_number_29 (lv_at hl 5 rfl) ?_
          refine lv_imul hx hb dX12_number_31 ?_
          refine lv_aload_n hx hb dX12_number_32 rfl (lv_at hl 0 rfl) ?_
          refine q_getp (own := RX12) (ref := RX12) (C := RX12) (T := TX12) (N := 57) (kc := 9) (ci := 0) hx hb hts hin12 hown hK hW h_this (by decide) rfl 19 (by decide) hw1 rfl rfl rfl (v := 613) rfl dX12_number_33 (fun hk_11 hq_12 => ?_)
          refine lv_aload_n hx hb dX12_number_36 rfl (lv_at hl 0 rfl) ?_
          refine q_geti (own := RX12) (ref := RX12) (C := RX12) (T := TX12) (N := 57) (kc := 9) (ci := 0) hx hb hts hin12 hown hK hW h_this (by decide) rfl 23 (by decide) hw2 rfl rfl dX12_number_37 ?_
          obtain ⟨hi_13, hf⟩ := g_in hf
          refine q_iald hx hb hK hW hk_11 (inb_of hq_12 hi_13) dX12_number_40 ?_
          refine lv_iadd hx hb dX12_number_41 ?_
          refine lv_bipush (v := 48) hx hb dX12_number_42 (by decide) ?_
          refine lv_isub hx hb dX12_number_44 ?_
          refine lv_topi (fun x5_14 ex5_14 => ?_)
          have hf := g_lt ex5_14 hf
          refine lv_istore (lv' := [(5, .int x5_14), (0, .ref (z + this)), (1, .int a1), (2, .int a2), (3, .int x3), (4, .int x4)]) hx hb dX12_number_45 hl (by decide) rfl (fun ls hl => ?_)
          refine lv_aload_n hx hb dX12_number_47 rfl (lv_at hl 1 rfl) ?_
          refine lv_dup hx hb dX12_number_48 rfl ?_
          refine q_geti (own := RX12) (ref := RX12) (C := RX12) (T := TX12) (N := 57) (kc := 9) (ci := 0) hx hb hts hin12 hown hK hW h_this (by decide) rfl 23 (by decide) hw2 rfl rfl dX12_number_49 ?_
          refine lv_iconst (v := 1) hx hb dX12_number_52 (by decide) ?_
          refine lv_iadd hx hb dX12_number_53 ?_
          refine q_puti (own := RX12) (ref := RX12) (C := RX12) (T := TX12) (N := 57) (kc := 9) (ci := 0) hx hb hts hin12 tyX12_ok nmX12 hown hK hW hS h_this (by decide) rfl 23 (by decide) hw2 rfl rfl (ty := .int) (tyX12_ok 23 (by decide)) rfl rfl rfl dX12_number_54 (fun H locs hW hS => ?_)
          obtain ⟨σ_15, eσ_15⟩ : ∃ y : Mm, y = (Mm.si σ_9 this 23 ((Mm.gi σ_9 this 23) + 1)) := ⟨_, rfl⟩
          rw [← eσ_15] at hW
          have hf := g_lt eσ_15 hf
          obtain ⟨x4_16, ex4_16⟩ : ∃ y : Int32, y = x4 + 1 := ⟨_, rfl⟩
          have hf := g_lt ex4_16 hf
          refine lv_iinc (v := x4_16) (lv' := [(4, .int x4_16), (5, .int x5_14), (0, .ref (z + this)), (1, .int a1), (2, .int a2), (3, .int x3)]) hx hb dX12_number_57 hl (k := 5) rfl (by rw [ex4_16]; rfl) (by decide) rfl (fun ls hl => ?_)
          refine lv_goto (tgt := 13) hx hb dX12_number_60 (by decide) ?_
          exact H13 x3 x4_16 x5_14 σ_15 hf _ _ _ hW hS (lv_sub hl [2, 3, 4, 5, 0, 1] rfl)
  refine lv_aload_n hx hb dX12_number_0 rfl (lv_at hl 0 rfl) ?_
  refine lv_bipush (v := 45) hx hb dX12_number_1 (by decide) ?_
  obtain ⟨r_3, σ_2, hc_1, hf⟩ := g_bnd hf
  refine q_calli (va_runV (As := [.int 45]) (rest := []) ⟨hx, hb, hml, hown, hts⟩ (k_X12_skip l z n D cy Y h_this hc_1) (cwV 1 hts gX12_number_X12_skip rfl rfl rfl (by decide +kernel) ⟨Nat.le_of_ble_eq_true rfl, Nat.le_of_ble_eq_true rfl⟩) (q_PV (T := TX12) (N := 57) hK hN hW h_this (by decide) rfl) rfl rfl hl.1 rfl (lv_room (Nat.le_of_ble_eq_true rfl)) dX12_number_3 ⟨Nat.le_refl _, Nat.le_refl _⟩) hS (fun H locs hW hS => ?_)
  refine lv_istore_n (lv' := [(3, .int r_3), (0, .ref (z + this)), (1, .int a1), (2, .int a2)]) hx hb dX12_number_6 rfl hl (by decide) rfl (fun ls hl => ?_)
  refine lv_iconst (v := 0) hx hb dX12_number_7 (by decide) ?_
  refine lv_istore (lv' := [(4, .int 0), (3, .int r_3), (0, .ref (z + this)), (1, .int a1), (2, .int a2)]) hx hb dX12_number_8 hl (by decide) rfl (fun ls hl => ?_)
  refine lv_iconst (v := 0) hx hb dX12_number_10 (by decide) ?_
  refine lv_istore (lv' := [(5, .int 0), (4, .int 0), (3, .int r_3), (0, .ref (z + this)), (1, .int a1), (2, .int a2)]) hx hb dX12_number_11 hl (by decide) rfl (fun ls hl => ?_)
  exact B13 fu r_3 0 0 σ_2 hf _ _ _ hW hS (lv_sub hl [3, 4, 5, 2, 1, 0] rfl)
