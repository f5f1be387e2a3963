set_option maxRecDepth 100000 in
set_option maxHeartbeats 40000000 in
theorem k_X12_moved (l : Launch) (z n : Nat) (D : va_G) (cy : Nat → ClassId) (Y : Yt) {fu : Nat} {this : Nat} {a1 : Int32} {σ : Mm} {r : Int64} {σ1 : Mm} (h_this : okk Y n 9 this) (hf : f_X12_moved Y fu this a1 σ = some (r, σ1)) : Kl l yX12_moved wsX12_moved ({ frames := 3, cells := 0, slots := 0, locals := 79 } : Room) z n D cy Y [.ref (z + this), .int a1] σ r σ1 := by
  refine Met.ofW (cc := cX12_moved) (maxL := 5) (ret := (some .long)) (by decide +kernel) rfl ?_
  intro p e s m args below meth c s₁ B hml hv
  obtain ⟨rfl, hW, hK, hN⟩ := hv
  have hx := B.exec
  have hb := B.bytes
  have hr := B.returns
  have hts := atoms_spec (ws := wsX12_moved) B.pre
  have hown : s.vm.findClass RX12 = some m.cls := findClass_of_methodNamed B.named
  have hlocks := B.notSynchronized
  have hS : va_S (Az z) s.heap s.heap [] := va_S.rf
  have hin12 : ∀ w ∈ wsX120, w ∈ wsX12_moved := fun w h => List.mem_cons_of_mem _ (List.mem_append_right _ h)
  have hw0 := hts (.fieldLink RX12 167 "SkyClocksModel" "counts" "I") (List.mem_of_getElem? (i := 3) rfl)
  have hw1 := hts (.fieldLink RX12 77 "SkyClocksModel" "rest" "[I") (List.mem_of_getElem? (i := 5) rfl)
  have hw2 := hts (.fieldLink RX12 122 "SkyClocksModel" "row" "[J") (List.mem_of_getElem? (i := 4) rfl)
  have hw3 := hts (.constantLong RX12 251 (-2)) (List.mem_of_getElem? (i := 2) rfl)
  have hw4 := hts (.constantLong RX12 249 (-1)) (List.mem_of_getElem? (i := 1) rfl)
  have hl := lv_entry ([.ref (z + this), .int a1]) (n := 5) (Nat.le_of_ble_eq_true rfl)
  rw [lg_entry_eq]
  generalize (lg_sl ([.ref (z + this), .int a1]) ++ List.replicate (5 - (lg_sl ([.ref (z + this), .int a1])).length) Slot.unset).toArray = ls at hl ⊢
  have hl : lv_has ls 5 [(0, .ref (z + this)), (1, .int a1)] := hl
  have B65 : ∀ (nn : Nat) (x2 : Int64) (x4 : Int32) (σ : Mm), b_X12_moved_65 Y fu this a1 nn x2 x4 σ = some (r, σ1) → ∀ (H : Heap) (locs : List Loc) (ls : Array Slot), WH z n D cy Y σ H → va_S (Az z) s.heap H locs → lv_has ls 5 [(0, .ref (z + this)), (1, .int a1), (2, .long x2), (4, .int x4)] → W p l e ({ frames := 3, cells := 0, slots := 0, locals := 79 } : Room) s m ([.ref (z + this), .int a1] : List Value).toArray below meth c H locs 0 0 (MQ below (va_Ql (fun (x : Int64) (_ : Unit) => x = r) (fun _ t => WH z n D cy Y σ1 t.heap) (Az z)) ([.ref (z + this), .int a1] : List Value).toArray s 0 0 (Az z)) (F0 m 65 ls []) := by
    intro nn
    induction nn with
    | zero =>
      intro x2 x4 σ  hf
      have h9 : (none : Option (Int64 × Mm)) = some (r, σ1) := hf
      cases h9
    | succ nn H65 =>
      intro x2 x4 σ  hf H locs ls hW hS hl
      have hf : s_X12_moved_65 Y fu this a1 (b_X12_moved_65 Y fu this a1 nn) x2 x4 σ = some (r, σ1) := hf
      generalize hkk : b_X12_moved_65 Y fu this a1 nn = k65 at hf H65
      refine lv_iload hx hb dX12_moved_65 (lv_at hl 3 rfl) ?_
      refine lv_aload_n hx hb dX12_moved_67 rfl (lv_at hl 0 rfl) ?_
      refine q_geti (own := RX12) (ref := RX12) (C := RX12) (T := TX12) (N := 57) (kc := 9) (ci := 0) hx hb hts hin12 hown hK hW h_this (by decide) rfl 22 (by decide) hw0 rfl rfl dX12_moved_68 ?_
      refine lv_icmp_ge (tgt := 102) hx hb dX12_moved_71 (by decide) (fun c => ?_) (fun c => ?_)
      · have hf := g_pos c hf
        refine lv_lload_n hx hb dX12_moved_102 rfl (lv_at hl 2 rfl) ?_
        exact q_lret hx hb hr hlocks hW hS hf dX12_moved_103
      · have hf := g_neg c hf
        refine lv_lload_n hx hb dX12_moved_74 rfl (lv_at hl 2 rfl) ?_
        refine lv_aload_n hx hb dX12_moved_75 rfl (lv_at hl 0 rfl) ?_
        refine q_getp (own := RX12) (ref := RX12) (C := RX12) (T := TX12) (N := 57) (kc := 9) (ci := 0) hx hb hts hin12 hown hK hW h_this (by decide) rfl 30 (by decide) hw1 rfl rfl rfl (v := 616) rfl dX12_moved_76 (fun hk_10 hq_11 => ?_)
        refine lv_iload hx hb dX12_moved_79 (lv_at hl 3 rfl) ?_
        obtain ⟨hi_12, hf⟩ := g_in hf
        refine q_iald hx hb hK hW hk_10 (inb_of hq_11 hi_12) dX12_moved_81 ?_
        refine lv_i2l hx hb dX12_moved_82 rfl ?_
        refine lv_aload_n hx hb dX12_moved_83 rfl (lv_at hl 0 rfl) ?_
        refine q_getp (own := RX12) (ref := RX12) (C := RX12) (T := TX12) (N := 57) (kc := 9) (ci := 0) hx hb hts hin12 hown hK hW h_this (by decide) rfl 48 (by decide) hw2 rfl rfl rfl (v := 631) rfl dX12_moved_84 (fun hk_13 hq_14 => ?_)
        refine lv_iload hx hb dX12_moved_87 (lv_at hl 3 rfl) ?_
        obtain ⟨hi_15, hf⟩ := g_in hf
        refine q_lald hx hb hK hW hk_13 (inb_of hq_14 hi_15) dX12_moved_89 ?_
        refine lv_lsub hx hb dX12_moved_90 ?_
        obtain ⟨r_18, σ_17, hc_16, hf⟩ := g_bnd hf
        refine q_calll (va_runS (As := [.long ((Int32.toInt64 (Mm.gi σ 616 (ix x4))) - (Mm.gl σ 631 (ix x4)))]) (rest := [.long x2]) ⟨hx, hb, hml, hown, hts⟩ (k_X12_size l z n D cy Y hc_16) (va_cwS 1 hts gX12_moved_X12_size rfl rfl rfl (by decide +kernel) ⟨Nat.le_of_ble_eq_true rfl, Nat.le_of_ble_eq_true rfl⟩) (q_PS hK hN hW) rfl rfl hl.1 rfl (lv_room (Nat.le_of_ble_eq_true rfl)) dX12_moved_91 ⟨Nat.le_refl _, Nat.le_refl _⟩) hS (fun H locs hW hS => ?_)
        refine lv_ladd hx hb dX12_moved_94 ?_
        refine lv_topl (fun x2_19 ex2_19 => ?_)
        have hf := g_lt ex2_19 hf
        refine lv_lstore_n (lv' := [(2, .long x2_19), (0, .ref (z + this)), (1, .int a1), (4, .int x4)]) hx hb dX12_moved_95 rfl hl (by decide) rfl (fun ls hl => ?_)
        obtain ⟨x4_20, ex4_20⟩ : ∃ y : Int32, y = x4 + 1 := ⟨_, rfl⟩
        have hf := g_lt ex4_20 hf
        refine lv_iinc (v := x4_20) (lv' := [(4, .int x4_20), (2, .long x2_19), (0, .ref (z + this)), (1, .int a1)]) hx hb dX12_moved_96 hl (k := 3) rfl (by rw [ex4_20]; rfl) (by decide) rfl (fun ls hl => ?_)
        refine lv_goto (tgt := 65) hx hb dX12_moved_99 (by decide) ?_
        exact H65 x2_19 x4_20 σ_17 hf _ _ _ hW hS (lv_sub hl [2, 3, 1, 0] rfl)
  have B26 : ∀ (nn : Nat) (x2 : Int32) (σ : Mm), b_X12_moved_26 Y fu this a1 nn x2 σ = some (r, σ1) → ∀ (H : Heap) (locs : List Loc) (ls : Array Slot), WH z n D cy Y σ H → va_S (Az z) s.heap H locs → lv_has ls 5 [(0, .ref (z + this)), (1, .int a1), (2, .int x2)] → W p l e ({ frames := 3, cells := 0, slots := 0, locals := 79 } : Room) s m ([.ref (z + this), .int a1] : List Value).toArray below meth c H locs 0 0 (MQ below (va_Ql (fun (x : Int64) (_ : Unit) => x = r) (fun _ t => WH z n D cy Y σ1 t.heap) (Az z)) ([.ref (z + this), .int a1] : List Value).toArray s 0 0 (Az z)) (F0 m 26 ls []) := by
    intro nn
    induction nn with
    | zero =>
      intro x2 σ  hf
      have h9 : (none : Option (Int64 × Mm)) = some (r, σ1) := hf
      cases h9
    | succ nn H26 =>
      intro x2 σ  hf H locs ls hW hS hl
      have hf : s_X12_moved_26 Y fu this a1 (b_X12_moved_26 Y fu this a1 nn) x2 σ = some (r, σ1) := hf
      generalize hkk : b_X12_moved_26 Y fu this a1 nn = k26 at hf H26
      refine lv_iload_n hx hb dX12_moved_26 rfl (lv_at hl 2 rfl) ?_
      refine lv_aload_n hx hb dX12_moved_27 rfl (lv_at hl 0 rfl) ?_
      refine q_geti (own := RX12) (ref := RX12) (C := RX12) (T := TX12) (N := 57) (kc := 9) (ci := 0) hx hb hts hin12 hown hK hW h_this (by decide) rfl 22 (by decide) hw0 rfl rfl dX12_moved_28 ?_
      refine lv_icmp_ge (tgt := 53) hx hb dX12_moved_31 (by decide) (fun c => ?_) (fun c => ?_)
      · have hf := g_pos c hf
        refine lv_aload_n hx hb dX12_moved_53 rfl (lv_at hl 0 rfl) ?_
        refine lv_iload_n hx hb dX12_moved_54 rfl (lv_at hl 1 rfl) ?_
        refine lv_iconst (v := 1) hx hb dX12_moved_55 (by decide) ?_
        obtain ⟨r_9, σ_8, hc_7, hf⟩ := g_bnd hf
        refine q_calli (va_runV (As := [.int a1, .int 1]) (rest := []) ⟨hx, hb, hml, hown, hts⟩ (k_X12_layRest l z n D cy Y h_this hc_7) (cwV 2 hts gX12_moved_X12_layRest rfl rfl rfl (by decide +kernel) ⟨Nat.le_of_ble_eq_true rfl, Nat.le_of_ble_eq_true rfl⟩) (q_PV (T := TX12) (N := 57) hK hN hW h_this (by decide) rfl) rfl rfl hl.1 rfl (lv_room (Nat.le_of_ble_eq_true rfl)) dX12_moved_56 ⟨Nat.le_refl _, Nat.le_refl _⟩) hS (fun H locs hW hS => ?_)
        refine lv_pop hx hb dX12_moved_59 rfl ?_
        refine lv_lconst (v := 0) hx hb dX12_moved_60 (by decide) ?_
        refine lv_lstore_n (lv' := [(2, .long 0), (0, .ref (z + this)), (1, .int a1)]) hx hb dX12_moved_61 rfl hl (by decide) rfl (fun ls hl => ?_)
        refine lv_iconst (v := 0) hx hb dX12_moved_62 (by decide) ?_
        refine lv_istore (lv' := [(4, .int 0), (2, .long 0), (0, .ref (z + this)), (1, .int a1)]) hx hb dX12_moved_63 hl (by decide) rfl (fun ls hl => ?_)
        exact B65 fu 0 0 σ_8 hf _ _ _ hW hS (lv_sub hl [2, 3, 1, 0] rfl)
      · have hf := g_neg c hf
        refine lv_aload_n hx hb dX12_moved_34 rfl (lv_at hl 0 rfl) ?_
        refine q_getp (own := RX12) (ref := RX12) (C := RX12) (T := TX12) (N := 57) (kc := 9) (ci := 0) hx hb hts hin12 hown hK hW h_this (by decide) rfl 48 (by decide) hw2 rfl rfl rfl (v := 631) rfl dX12_moved_35 (fun hk_21 hq_22 => ?_)
        refine lv_iload_n hx hb dX12_moved_38 rfl (lv_at hl 2 rfl) ?_
        refine lv_aload_n hx hb dX12_moved_39 rfl (lv_at hl 0 rfl) ?_
        refine q_getp (own := RX12) (ref := RX12) (C := RX12) (T := TX12) (N := 57) (kc := 9) (ci := 0) hx hb hts hin12 hown hK hW h_this (by decide) rfl 30 (by decide) hw1 rfl rfl rfl (v := 616) rfl dX12_moved_40 (fun hk_23 hq_24 => ?_)
        refine lv_iload_n hx hb dX12_moved_43 rfl (lv_at hl 2 rfl) ?_
        obtain ⟨hi_25, hf⟩ := g_in hf
        refine q_iald hx hb hK hW hk_23 (inb_of hq_24 hi_25) dX12_moved_44 ?_
        refine lv_i2l hx hb dX12_moved_45 rfl ?_
        obtain ⟨hi_26, hf⟩ := g_in hf
        refine q_last hx hb hK hW hS hk_21 (inb_of hq_22 hi_26) dX12_moved_46 (fun H locs hW hS => ?_)
        obtain ⟨σ_27, eσ_27⟩ : ∃ y : Mm, y = (Mm.sl σ 631 (ix x2) (Int32.toInt64 (Mm.gi σ 616 (ix x2)))) := ⟨_, rfl⟩
        rw [← eσ_27] at hW
        have hf := g_lt eσ_27 hf
        obtain ⟨x2_28, ex2_28⟩ : ∃ y : Int32, y = x2 + 1 := ⟨_, rfl⟩
        have hf := g_lt ex2_28 hf
        refine lv_iinc (v := x2_28) (lv' := [(2, .int x2_28), (0, .ref (z + this)), (1, .int a1)]) hx hb dX12_moved_47 hl (k := 2) rfl (by rw [ex2_28]; rfl) (by decide) rfl (fun ls hl => ?_)
        refine lv_goto (tgt := 26) hx hb dX12_moved_50 (by decide) ?_
        exact H26 x2_28 σ_27 hf _ _ _ hW hS (lv_sub hl [1, 2, 0] rfl)
  refine lv_iload_n hx hb dX12_moved_0 rfl (lv_at hl 1 rfl) ?_
  obtain ⟨r_3, σ_2, hc_1, hf⟩ := g_bnd hf
  refine q_calli (va_runS (As := [.int a1]) (rest := []) ⟨hx, hb, hml, hown, hts⟩ (k_X12_isStar l z n D cy Y hc_1) (va_cwS 1 hts gX12_moved_X12_isStar rfl rfl rfl (by decide +kernel) ⟨Nat.le_of_ble_eq_true rfl, Nat.le_of_ble_eq_true rfl⟩) (q_PS hK hN hW) rfl rfl hl.1 rfl (lv_room (Nat.le_of_ble_eq_true rfl)) dX12_moved_1 ⟨Nat.le_refl _, Nat.le_refl _⟩) hS (fun H locs hW hS => ?_)
  refine lv_if_ne (tgt := 11) hx hb dX12_moved_4 (by decide) (fun c => ?_) (fun c => ?_)
  · have hf := g_neg c hf
    refine lv_aload_n hx hb dX12_moved_11 rfl (lv_at hl 0 rfl) ?_
    refine lv_iload_n hx hb dX12_moved_12 rfl (lv_at hl 1 rfl) ?_
    refine lv_iconst (v := 0) hx hb dX12_moved_13 (by decide) ?_
    obtain ⟨r_6, σ_5, hc_4, hf⟩ := g_bnd hf
    refine q_calli (va_runV (As := [.int a1, .int 0]) (rest := []) ⟨hx, hb, hml, hown, hts⟩ (k_X12_layRest l z n D cy Y h_this hc_4) (cwV 2 hts gX12_moved_X12_layRest rfl rfl rfl (by decide +kernel) ⟨Nat.le_of_ble_eq_true rfl, Nat.le_of_ble_eq_true rfl⟩) (q_PV (T := TX12) (N := 57) hK hN hW h_this (by decide) rfl) rfl rfl hl.1 rfl (lv_room (Nat.le_of_ble_eq_true rfl)) dX12_moved_14 ⟨Nat.le_refl _, Nat.le_refl _⟩) hS (fun H locs hW hS => ?_)
    refine lv_if_ne (tgt := 24) hx hb dX12_moved_17 (by decide) (fun c => ?_) (fun c => ?_)
    · have hf := g_neg c hf
      refine lv_iconst (v := 0) hx hb dX12_moved_24 (by decide) ?_
      refine lv_istore_n (lv' := [(2, .int 0), (0, .ref (z + this)), (1, .int a1)]) hx hb dX12_moved_25 rfl hl (by decide) rfl (fun ls hl => ?_)
      exact B26 fu 0 σ_5 hf _ _ _ hW hS (lv_sub hl [1, 2, 0] rfl)
    · have hf := g_pos c hf
      refine lv_ldc2 hx hb hown hw3 dX12_moved_20 ?_
      exact q_lret hx hb hr hlocks hW hS hf dX12_moved_23
  · have hf := g_pos c hf
    refine lv_ldc2 hx hb hown hw4 dX12_moved_7 ?_
    exact q_lret hx hb hr hlocks hW hS hf dX12_moved_10
set_option maxRecDepth 100000 in
set_option maxHeartbeats 40000000 in
theorem k_X12_offset (l : Launch) (z n : Nat) (D : va_G) (cy : Nat → ClassId) (Y : Yt) {this : Nat} {a1 : Int32} {a2 : Int32} {σ : Mm} {r : Int32} {σ1 : Mm} (h_this : okk Y n 9 this) (hf : f_X12_offset Y this a1 a2 σ = some (r, σ1)) : Ki l yX12_offset wsX12_offset ({ frames := 2, cells := 0, slots := 0, locals := 45 } : Room) z n D cy Y [.ref (z + this), .int a1, .int a2] σ r σ1 := by
  refine Met.ofW (cc := cX12_offset) (maxL := 4) (ret := (some .int)) (by decide +kernel) rfl ?_
  intro p e s m args below meth c s₁ B hml hv
  obtain ⟨rfl, hW, hK, hN⟩ := hv
  have hx := B.exec
  have hb := B.bytes
  have hr := B.returns
  have hts := atoms_spec (ws := wsX12_offset) B.pre
  have hown : s.vm.findClass RX12 = some m.cls := findClass_of_methodNamed B.named
  have hlocks := B.notSynchronized
  have hS : va_S (Az z) s.heap s.heap [] := va_S.rf
  have hin12 : ∀ w ∈ wsX120, w ∈ wsX12_offset := fun w h => List.mem_cons_of_mem _ (List.mem_append_right _ h)
  have hw0 := hts (.constant RX12 157 (-100000)) (List.mem_of_getElem? (i := 3) rfl)
  have hw1 := hts (.constantLong RX12 155 (-1000)) (List.mem_of_getElem? (i := 1) rfl)
  have hw2 := hts (.constantLong RX12 148 (1000)) (List.mem_of_getElem? (i := 2) rfl)
  have hw3 := hts (.fieldLink RX12 25 "SkyClocksModel" "offsets" "[I") (List.mem_of_getElem? (i := 4) rfl)
  have hl := lv_entry ([.ref (z + this), .int a1, .int a2]) (n := 4) (Nat.le_of_ble_eq_true rfl)
  rw [lg_entry_eq]
  generalize (lg_sl ([.ref (z + this), .int a1, .int a2]) ++ List.replicate (4 - (lg_sl ([.ref (z + this), .int a1, .int a2])).length) Slot.unset).toArray = ls at hl ⊢
  have hl : lv_has ls 4 [(0, .ref (z + this)), (1, .int a1), (2, .int a2)] := hl
  refine lv_iload_n hx hb dX12_offset_0 rfl (lv_at hl 1 rfl) ?_
  obtain ⟨r_3, σ_2, hc_1, hf⟩ := g_bnd hf
  refine q_calli (va_runS (As := [.int a1]) (rest := []) ⟨hx, hb, hml, hown, hts⟩ (k_X12_isTool l z n D cy Y hc_1) (va_cwS 1 hts gX12_offset_X12_isTool rfl rfl rfl (by decide +kernel) ⟨Nat.le_of_ble_eq_true rfl, Nat.le_of_ble_eq_true rfl⟩) (q_PS hK hN hW) rfl rfl hl.1 rfl (lv_room (Nat.le_of_ble_eq_true rfl)) dX12_offset_1 ⟨Nat.le_refl _, Nat.le_refl _⟩) hS (fun H locs hW hS => ?_)
  refine lv_if_eq (tgt := 21) hx hb dX12_offset_4 (by decide) (fun c => ?_) (fun c => ?_)
  · have hf := g_pos c hf
    refine lv_ldc hx hb hown hw0 dX12_offset_21 ?_
    exact q_iret hx hb hr hlocks hW hS hf dX12_offset_23
  · have hf := g_neg c hf
    refine lv_iload_n hx hb dX12_offset_7 rfl (lv_at hl 2 rfl) ?_
    refine lv_i2l hx hb dX12_offset_8 rfl ?_
    refine lv_ldc2 hx hb hown hw1 dX12_offset_9 ?_
    refine lv_ldc2 hx hb hown hw2 dX12_offset_12 ?_
    obtain ⟨r_6, σ_5, hc_4, hf⟩ := g_bnd hf
    refine q_calli (va_runS (As := [.long (Int32.toInt64 a2), .long (-1000), .long 1000]) (rest := []) ⟨hx, hb, hml, hown, hts⟩ (k_X12_in l z n D cy Y hc_4) (va_cwS 3 hts gX12_offset_X12_in rfl rfl rfl (by decide +kernel) ⟨Nat.le_of_ble_eq_true rfl, Nat.le_of_ble_eq_true rfl⟩) (q_PS hK hN hW) rfl rfl hl.1 rfl (lv_room (Nat.le_of_ble_eq_true rfl)) dX12_offset_15 ⟨Nat.le_refl _, Nat.le_refl _⟩) hS (fun H locs hW hS => ?_)
    refine lv_if_ne (tgt := 24) hx hb dX12_offset_18 (by decide) (fun c => ?_) (fun c => ?_)
    · have hf := g_neg c hf
      refine lv_aload_n hx hb dX12_offset_24 rfl (lv_at hl 0 rfl) ?_
      refine q_getp (own := RX12) (ref := RX12) (C := RX12) (T := TX12) (N := 57) (kc := 9) (ci := 0) hx hb hts hin12 hown hK hW h_this (by decide) rfl 5 (by decide) hw3 rfl rfl rfl (v := 601) rfl dX12_offset_25 (fun hk_7 hq_8 => ?_)
      refine lv_iload_n hx hb dX12_offset_28 rfl (lv_at hl 1 rfl) ?_
      obtain ⟨hi_9, hf⟩ := g_in hf
      refine q_iald hx hb hK hW hk_7 (inb_of hq_8 hi_9) dX12_offset_29 ?_
      refine lv_topi (fun x3_10 ex3_10 => ?_)
      have hf := g_lt ex3_10 hf
      refine lv_istore_n (lv' := [(3, .int x3_10), (0, .ref (z + this)), (1, .int a1), (2, .int a2)]) hx hb dX12_offset_30 rfl hl (by decide) rfl (fun ls hl => ?_)
      refine lv_aload_n hx hb dX12_offset_31 rfl (lv_at hl 1 rfl) ?_
      refine q_getp (own := RX12) (ref := RX12) (C := RX12) (T := TX12) (N := 57) (kc := 9) (ci := 0) hx hb hts hin12 hown hK hW h_this (by decide) rfl 5 (by decide) hw3 rfl rfl rfl (v := 601) rfl dX12_offset_32 (fun hk_11 hq_12 => ?_)
      refine lv_iload_n hx hb dX12_offset_35 rfl (lv_at hl 2 rfl) ?_
      refine lv_iload_n hx hb dX12_offset_36 rfl (lv_at hl 3 rfl) ?_
      obtain ⟨hi_13, hf⟩ := g_in hf
      refine q_iast hx hb hK hW hS hk_11 (inb_of hq_12 hi_13) dX12_offset_37 (fun H locs hW hS => ?_)
      obtain ⟨σ_14, eσ_14⟩ : ∃ y : Mm, y = (Mm.si σ_5 601 (ix a1) a2) := ⟨_, rfl⟩
      rw [← eσ_14] at hW
      have hf := g_lt eσ_14 hf
      refine lv_iload_n hx hb dX12_offset_38 rfl (lv_at hl 0 rfl) ?_
      exact q_iret hx hb hr hlocks hW hS hf dX12_offset_39
    · have hf := g_pos c hf
      refine lv_ldc hx hb hown hw0 dX12_offset_21 ?_
      exact q_iret hx hb hr hlocks hW hS hf dX12_offset_23
set_option maxRecDepth 100000 in
set_option maxHeartbeats 40000000 in
theorem k_X12_residue (l : Launch) (z n : Nat) (D : va_G) (cy : Nat → ClassId) (Y : Yt) {fu : Nat} {this : Nat} {a1 : Int32} {a2 : Int32} {σ : Mm} {r : Int32} {σ1 : Mm} (h_this : okk Y n 9 this) (hf : f_X12_residue Y fu this a1 a2 σ = some (r, σ1)) : Ki l yX12_residue wsX12_residue ({ frames := 3, cells := 0, slots := 0, locals := 79 } : Room) z n D cy Y [.ref (z + this), .int a1, .int a2] σ r σ1 := by
  refine Met.ofW (cc := cX12_residue) (maxL := 3) (ret := (some .int)) (by decide +kernel) rfl ?_
  intro p e s m args below meth c s₁ B hml hv
  obtain ⟨rfl, hW, hK, hN⟩ := hv
  have hx := B.exec
  have hb := B.bytes
  have hr := B.returns
  have hts := atoms_spec (ws := wsX12_residue) B.pre
  have hown : s.vm.findClass RX12 = some m.cls := findClass_of_methodNamed B.named
  have hlocks := B.notSynchronized
  have hS : va_S (Az z) s.heap s.heap [] := va_S.rf
  have hin12 : ∀ w ∈ wsX120, w ∈ wsX12_residue := fun w h => List.mem_cons_of_mem _ (List.mem_append_right _ h)
  have hw0 := hts (.constant RX12 260 (-1000000000)) (List.mem_of_getElem? (i := 2) rfl)
  have hw1 := hts (.constantLong RX12 171 (23)) (List.mem_of_getElem? (i := 1) rfl)
  have hw2 := hts (.fieldLink RX12 164 "SkyClocksModel" "version" "I") (List.mem_of_getElem? (i := 3) rfl)
  have hw3 := hts (.constant RX12 264 (-1000000002)) (List.mem_of_getElem? (i := 6) rfl)
  have hw4 := hts (.fieldLink RX12 167 "SkyClocksModel" "counts" "I") (List.mem_of_getElem? (i := 4) rfl)
  have hw5 := hts (.fieldLink RX12 77 "SkyClocksModel" "rest" "[I") (List.mem_of_getElem? (i := 5) rfl)
  have hl := lv_entry ([.ref (z + this), .int a1, .int a2]) (n := 3) (Nat.le_of_ble_eq_true rfl)
  rw [lg_entry_eq]
  generalize (lg_sl ([.ref (z + this), .int a1, .int a2]) ++ List.replicate (3 - (lg_sl ([.ref (z + this), .int a1, .int a2])).length) Slot.unset).toArray = ls at hl ⊢
  have hl : lv_has ls 3 [(0, .ref (z + this)), (1, .int a1), (2, .int a2)] := hl
  refine lv_iload_n hx hb dX12_residue_0 rfl (lv_at hl 1 rfl) ?_
  obtain ⟨r_3, σ_2, hc_1, hf⟩ := g_bnd hf
  refine q_calli (va_runS (As := [.int a1]) (rest := []) ⟨hx, hb, hml, hown, hts⟩ (k_X12_isStar l z n D cy Y hc_1) (va_cwS 1 hts gX12_residue_X12_isStar rfl rfl rfl (by decide +kernel) ⟨Nat.le_of_ble_eq_true rfl, Nat.le_of_ble_eq_true rfl⟩) (q_PS hK hN hW) rfl rfl hl.1 rfl (lv_room (Nat.le_of_ble_eq_true rfl)) dX12_residue_1 ⟨Nat.le_refl _, Nat.le_refl _⟩) hS (fun H locs hW hS => ?_)
  refine lv_if_eq (tgt := 19) hx hb dX12_residue_4 (by decide) (fun c => ?_) (fun c => ?_)
  · have hf := g_pos c hf
    refine lv_ldcw hx hb hown hw0 dX12_residue_19 ?_
    exact q_iret hx hb hr hlocks hW hS hf dX12_residue_22
  · have hf := g_neg c hf
    refine lv_iload_n hx hb dX12_residue_7 rfl (lv_at hl 2 rfl) ?_
    refine lv_i2l hx hb dX12_residue_8 rfl ?_
    refine lv_lconst (v := 0) hx hb dX12_residue_9 (by decide) ?_
    refine lv_ldc2 hx hb hown hw1 dX12_residue_10 ?_
    obtain ⟨r_6, σ_5, hc_4, hf⟩ := g_bnd hf
    refine q_calli (va_runS (As := [.long (Int32.toInt64 a2), .long 0, .long 23]) (rest := []) ⟨hx, hb, hml, hown, hts⟩ (k_X12_in l z n D cy Y hc_4) (va_cwS 3 hts gX12_residue_X12_in rfl rfl rfl (by decide +kernel) ⟨Nat.le_of_ble_eq_true rfl, Nat.le_of_ble_eq_true rfl⟩) (q_PS hK hN hW) rfl rfl hl.1 rfl (lv_room (Nat.le_of_ble_eq_true rfl)) dX12_residue_13 ⟨Nat.le_refl _, Nat.le_refl _⟩) hS (fun H locs hW hS => ?_)
    refine lv_if_ne (tgt := 23) hx hb dX12_residue_16 (by decide) (fun c => ?_) (fun c => ?_)
    · have hf := g_neg c hf
      refine lv_aload_n hx hb dX12_residue_23 rfl (lv_at hl 0 rfl) ?_
      refine lv_iload_n hx hb dX12_residue_24 rfl (lv_at hl 1 rfl) ?_
      refine lv_aload_n hx hb dX12_residue_25 rfl (lv_at hl 0 rfl) ?_
      refine q_geti (own := RX12) (ref := RX12) (C := RX12) (T := TX12) (N := 57) (kc := 9) (ci := 0) hx hb hts hin12 hown hK hW h_this (by decide) rfl 7 (by decide) hw2 rfl rfl dX12_residue_26 ?_
      obtain ⟨r_9, σ_8, hc_7, hf⟩ := g_bnd hf
      refine q_calli (va_runV (As := [.int a1, .int (Mm.gi σ_5 this 7)]) (rest := []) ⟨hx, hb, hml, hown, hts⟩ (k_X12_layRest l z n D cy Y h_this hc_7) (cwV 2 hts gX12_residue_X12_layRest rfl rfl rfl (by decide +kernel) ⟨Nat.le_of_ble_eq_true rfl, Nat.le_of_ble_eq_true rfl⟩) (q_PV (T := TX12) (N := 57) hK hN hW h_this (by decide) rfl) rfl rfl hl.1 rfl (lv_room (Nat.le_of_ble_eq_true rfl)) dX12_residue_29 ⟨Nat.le_refl _, Nat.le_refl _⟩) hS (fun H locs hW hS => ?_)
      refine lv_if_eq (tgt := 52) hx hb dX12_residue_32 (by decide) (fun c => ?_) (fun c => ?_)
      · have hf := g_pos c hf
        refine lv_ldcw hx hb hown hw3 dX12_residue_52 ?_
        exact q_iret hx hb hr hlocks hW hS hf dX12_residue_55
      · have hf := g_neg c hf
        refine lv_iload_n hx hb dX12_residue_35 rfl (lv_at hl 2 rfl) ?_
        refine lv_aload_n hx hb dX12_residue_36 rfl (lv_at hl 0 rfl) ?_
        refine q_geti (own := RX12) (ref := RX12) (C := RX12) (T := TX12) (N := 57) (kc := 9) (ci := 0) hx hb hts hin12 hown hK hW h_this (by decide) rfl 22 (by decide) hw4 rfl rfl dX12_residue_37 ?_
        refine lv_icmp_ge (tgt := 52) hx hb dX12_residue_40 (by decide) (fun c => ?_) (fun c => ?_)
        · have hf := g_pos c hf
          refine lv_ldcw hx hb hown hw3 dX12_residue_52 ?_
          exact q_iret hx hb hr hlocks hW hS hf dX12_residue_55
        · have hf := g_neg c hf
          refine lv_aload_n hx hb dX12_residue_43 rfl (lv_at hl 0 rfl) ?_
          refine q_getp (own := RX12) (ref := RX12) (C := RX12) (T := TX12) (N := 57) (kc := 9) (ci := 0) hx hb hts hin12 hown hK hW h_this (by decide) rfl 30 (by decide) hw5 rfl rfl rfl (v := 616) rfl dX12_residue_44 (fun hk_10 hq_11 => ?_)
          refine lv_iload_n hx hb dX12_residue_47 rfl (lv_at hl 2 rfl) ?_
          obtain ⟨hi_12, hf⟩ := g_in hf
          refine q_iald hx hb hK hW hk_10 (inb_of hq_11 hi_12) dX12_residue_48 ?_
          refine lv_goto (tgt := 55) hx hb dX12_residue_49 (by decide) ?_
          exact q_iret hx hb hr hlocks hW hS hf dX12_residue_55
    · have hf := g_pos c hf
      refine lv_ldcw hx hb hown hw0 dX12_residue_19 ?_
      exact q_iret hx hb hr hlocks hW hS hf dX12_residue_22
set_option maxRecDepth 100000 in
set_option maxHeartbeats 40000000 in
theorem k_X12_rule (l : Launch) (z n : Nat) (D : va_G) (cy : Nat → ClassId) (Y : Yt) {this : Nat} {a1 : Int32} {a2 : Int32} {σ : Mm} {r : Int32} {σ1 : Mm} (h_this : okk Y n 9 this) (hf : f_X12_rule Y this a1 a2 σ = some (r, σ1)) : Ki l yX12_rule wsX12_rule ({ frames := 1, cells := 0, slots := 0, locals := 25 } : Room) z n D cy Y [.ref (z + this), .int a1, .int a2] σ r σ1 := by
  refine Met.ofW (cc := cX12_rule) (maxL := 4) (ret := (some .int)) (by decide +kernel) rfl ?_
  intro p e s m args below meth c s₁ B hml hv
  obtain ⟨rfl, hW, hK, hN⟩ := hv
  have hx := B.exec
  have hb := B.bytes
  have hr := B.returns
  have hts := atoms_spec (ws := wsX12_rule) B.pre
  have hown : s.vm.findClass RX12 = some m.cls := findClass_of_methodNamed B.named
  have hlocks := B.notSynchronized
  have hS : va_S (Az z) s.heap s.heap [] := va_S.rf
  have hin12 : ∀ w ∈ wsX120, w ∈ wsX12_rule := fun w h => List.mem_cons_of_mem _ (List.mem_append_right _ h)
  have hw0 := hts (.constantLong RX12 153 (2000000)) (List.mem_of_getElem? (i := 1) rfl)
  have hw1 := hts (.fieldLink RX12 32 "SkyClocksModel" "asOf" "I") (List.mem_of_getElem? (i := 3) rfl)
  have hw2 := hts (.fieldLink RX12 164 "SkyClocksModel" "version" "I") (List.mem_of_getElem? (i := 2) rfl)
  have hl := lv_entry ([.ref (z + this), .int a1, .int a2]) (n := 4) (Nat.le_of_ble_eq_true rfl)
  rw [lg_entry_eq]
  generalize (lg_sl ([.ref (z + this), .int a1, .int a2]) ++ List.replicate (4 - (lg_sl ([.ref (z + this), .int a1, .int a2])).length) Slot.unset).toArray = ls at hl ⊢
  have hl : lv_has ls 4 [(0, .ref (z + this)), (1, .int a1), (2, .int a2)] := hl
  have B61 : ∀ (x3 : Int32) (t0 : Int32) (t1 : Nat) (σ : Mm), okk Y n 9 t1 → b_X12_rule_61 Y this a1 a2 x3 t0 t1 σ = some (r, σ1) → ∀ (H : Heap) (locs : List Loc) (ls : Array Slot), WH z n D cy Y σ H → va_S (Az z) s.heap H locs → lv_has ls 4 [(0, .ref (z + this)), (1, .int a1), (2, .int a2), (3, .int x3)] → W p l e ({ frames := 1, cells := 0, slots := 0, locals := 25 } : Room) s m ([.ref (z + this), .int a1, .int a2] : List Value).toArray below meth c H locs 0 0 (MQ below (va_Qi (fun (x : Int32) (_ : Unit) => x = r) (fun _ t => WH z n D cy Y σ1 t.heap) (Az z)) ([.ref (z + this), .int a1, .int a2] : List Value).toArray s 0 0 (Az z)) (F0 m 61 ls [.int t0, .ref (z + t1)]) := by
    intro  x3 t0 t1 σ h_t1 hf H locs ls hW hS hl
    refine q_puti (own := RX12) (ref := RX12) (C := RX12) (T := TX12) (N := 57) (kc := 9) (ci := 0) hx hb hts hin12 tyX12_ok nmX12 hown hK hW hS h_t1 (by decide) rfl 7 (by decide) hw2 rfl rfl (ty := .int) (tyX12_ok 7 (by decide)) rfl rfl rfl dX12_rule_61 (fun H locs hW hS => ?_)
    obtain ⟨σ_7, eσ_7⟩ : ∃ y : Mm, y = (Mm.si σ t1 7 t0) := ⟨_, rfl⟩
    rw [← eσ_7] at hW
    have hf := g_lt eσ_7 hf
    refine lv_aload_n hx hb dX12_rule_64 rfl (lv_at hl 0 rfl) ?_
    refine lv_iload_n hx hb dX12_rule_65 rfl (lv_at hl 1 rfl) ?_
    refine lv_iconst (v := 1) hx hb dX12_rule_66 (by decide) ?_
    refine lv_icmp_ne (tgt := 74) hx hb dX12_rule_67 (by decide) (fun c => ?_) (fun c => ?_)
    · have hf := g_neg c hf
      refine lv_aload_n hx hb dX12_rule_74 rfl (lv_at hl 0 rfl) ?_
      refine q_geti (own := RX12) (ref := RX12) (C := RX12) (T := TX12) (N := 57) (kc := 9) (ci := 0) hx hb hts hin12 hown hK hW h_this (by decide) rfl 8 (by decide) hw1 rfl rfl dX12_rule_75 ?_
      refine q_puti (own := RX12) (ref := RX12) (C := RX12) (T := TX12) (N := 57) (kc := 9) (ci := 0) hx hb hts hin12 tyX12_ok nmX12 hown hK hW hS h_this (by decide) rfl 8 (by decide) hw1 rfl rfl (ty := .int) (tyX12_ok 8 (by decide)) rfl rfl rfl dX12_rule_78 (fun H locs hW hS => ?_)
      obtain ⟨σ_8, eσ_8⟩ : ∃ y : Mm, y = (Mm.si σ_7 this 8 (Mm.gi σ_7 this 8)) := ⟨_, rfl⟩
      rw [← eσ_8] at hW
      have hf := g_lt eσ_8 hf
      refine lv_iload_n hx hb dX12_rule_81 rfl (lv_at hl 3 rfl) ?_
      exact q_iret hx hb hr hlocks hW hS hf dX12_rule_82
    · have hf := g_pos c hf
      refine lv_iload_n hx hb dX12_rule_70 rfl (lv_at hl 2 rfl) ?_
      refine lv_goto (tgt := 78) hx hb dX12_rule_71 (by decide) ?_
      refine q_puti (own := RX12) (ref := RX12) (C := RX12) (T := TX12) (N := 57) (kc := 9) (ci := 0) hx hb hts hin12 tyX12_ok nmX12 hown hK hW hS h_this (by decide) rfl 8 (by decide) hw1 rfl rfl (ty := .int) (tyX12_ok 8 (by decide)) rfl rfl rfl dX12_rule_78 (fun H locs hW hS => ?_)
      obtain ⟨σ_9, eσ_9⟩ : ∃ y : Mm, y = (Mm.si σ_7 this 8 a2) := ⟨_, rfl⟩
      rw [← eσ_9] at hW
      have hf := g_lt eσ_9 hf
      refine lv_iload_n hx hb dX12_rule_81 rfl (lv_at hl 3 rfl) ?_
      exact q_iret hx hb hr hlocks hW hS hf dX12_rule_82
  have B47 : ∀ (t0 : Int32) (σ : Mm), b_X12_rule_47 Y this a1 a2 t0 σ = some (r, σ1) → ∀ (H : Heap) (locs : List Loc) (ls : Array Slot), WH z n D cy Y σ H → va_S (Az z) s.heap H locs → lv_has ls 4 [(0, .ref (z + this)), (1, .int a1), (2, .int a2)] → W p l e ({ frames := 1, cells := 0, slots := 0, locals := 25 } : Room) s m ([.ref (z + this), .int a1, .int a2] : List Value).toArray below meth c H locs 0 0 (MQ below (va_Qi (fun (x : Int32) (_ : Unit) => x = r) (fun _ t => WH z n D cy Y σ1 t.heap) (Az z)) ([.ref (z + this), .int a1, .int a2] : List Value).toArray s 0 0 (Az z)) (F0 m 47 ls [.int t0]) := by
    intro  t0 σ  hf H locs ls hW hS hl
    refine lv_istore_n (lv' := [(3, .int t0), (0, .ref (z + this)), (1, .int a1), (2, .int a2)]) hx hb dX12_rule_47 rfl hl (by decide) rfl (fun ls hl => ?_)
    refine lv_aload_n hx hb dX12_rule_48 rfl (lv_at hl 1 rfl) ?_
    refine lv_iload_n hx hb dX12_rule_49 rfl (lv_at hl 2 rfl) ?_
    refine lv_if_ne (tgt := 57) hx hb dX12_rule_50 (by decide) (fun c => ?_) (fun c => ?_)
    · have hf := g_neg c hf
      refine lv_aload_n hx hb dX12_rule_57 rfl (lv_at hl 1 rfl) ?_
      refine q_geti (own := RX12) (ref := RX12) (C := RX12) (T := TX12) (N := 57) (kc := 9) (ci := 0) hx hb hts hin12 hown hK hW h_this (by decide) rfl 7 (by decide) hw2 rfl rfl dX12_rule_58 ?_
      exact B61 t0 (Mm.gi σ this 7) this σ h_this hf _ _ _ hW hS (lv_sub hl [1, 2, 3, 0] rfl)
    · have hf := g_pos c hf
      refine lv_iload_n hx hb dX12_rule_53 rfl (lv_at hl 3 rfl) ?_
      refine lv_goto (tgt := 61) hx hb dX12_rule_54 (by decide) ?_
      exact B61 t0 a2 this σ h_this hf _ _ _ hW hS (lv_sub hl [1, 2, 3, 0] rfl)
  have B24 : ∀ (t0 : Int64) (t1 : Int64) (t2 : Int64) (σ : Mm), b_X12_rule_24 Y this a1 a2 t0 t1 t2 σ = some (r, σ1) → ∀ (H : Heap) (locs : List Loc) (ls : Array Slot), WH z n D cy Y σ H → va_S (Az z) s.heap H locs → lv_has ls 4 [(0, .ref (z + this)), (1, .int a1), (2, .int a2)] → W p l e ({ frames := 1, cells := 0, slots := 0, locals := 25 } : Room) s m ([.ref (z + this), .int a1, .int a2] : List Value).toArray below meth c H locs 0 0 (MQ below (va_Qi (fun (x : Int32) (_ : Unit) => x = r) (fun _ t => WH z n D cy Y σ1 t.heap) (Az z)) ([.ref (z + this), .int a1, .int a2] : List Value).toArray s 0 0 (Az z)) (F0 m 24 ls [.long t0, .long t1, .long t2]) := by
    intro  t0 t1 t2 σ  hf H locs ls hW hS hl
    obtain ⟨r_6, σ_5, hc_4, hf⟩ := g_bnd hf
    refine q_calli (va_runS (As := [.long t2, .long t1, .long t0]) (rest := []) ⟨hx, hb, hml, hown, hts⟩ (k_X12_in l z n D cy Y hc_4) (va_cwS 3 hts gX12_rule_X12_in rfl rfl rfl (by decide +kernel) ⟨Nat.le_of_ble_eq_true rfl, Nat.le_of_ble_eq_true rfl⟩) (q_PS hK hN hW) rfl rfl hl.1 rfl (lv_room (Nat.le_of_ble_eq_true rfl)) dX12_rule_24 ⟨Nat.le_refl _, Nat.le_refl _⟩) hS (fun H locs hW hS => ?_)
    refine lv_if_ne (tgt := 32) hx hb dX12_rule_27 (by decide) (fun c => ?_) (fun c => ?_)
    · have hf := g_neg c hf
      refine lv_iload_n hx hb dX12_rule_32 rfl (lv_at hl 1 rfl) ?_
      refine lv_if_ne (tgt := 43) hx hb dX12_rule_33 (by decide) (fun c => ?_) (fun c => ?_)
      · have hf := g_neg c hf
        refine lv_aload_n hx hb dX12_rule_43 rfl (lv_at hl 0 rfl) ?_
        refine q_geti (own := RX12) (ref := RX12) (C := RX12) (T := TX12) (N := 57) (kc := 9) (ci := 0) hx hb hts hin12 hown hK hW h_this (by decide) rfl 8 (by decide) hw1 rfl rfl dX12_rule_44 ?_
        exact B47 (Mm.gi σ_5 this 8) σ_5 hf _ _ _ hW hS (lv_sub hl [0, 1, 2] rfl)
      · have hf := g_pos c hf
        refine lv_aload_n hx hb dX12_rule_36 rfl (lv_at hl 0 rfl) ?_
        refine q_geti (own := RX12) (ref := RX12) (C := RX12) (T := TX12) (N := 57) (kc := 9) (ci := 0) hx hb hts hin12 hown hK hW h_this (by decide) rfl 7 (by decide) hw2 rfl rfl dX12_rule_37 ?_
        refine lv_goto (tgt := 47) hx hb dX12_rule_40 (by decide) ?_
        exact B47 (Mm.gi σ_5 this 7) σ_5 hf _ _ _ hW hS (lv_sub hl [0, 1, 2] rfl)
    · have hf := g_pos c hf
      refine lv_iconst (v := (-1)) hx hb dX12_rule_30 (by decide) ?_
      exact q_iret hx hb hr hlocks hW hS hf dX12_rule_31
  refine lv_iload_n hx hb dX12_rule_0 rfl (lv_at hl 1 rfl) ?_
  refine lv_i2l hx hb dX12_rule_1 rfl ?_
  refine lv_lconst (v := 0) hx hb dX12_rule_2 (by decide) ?_
  refine lv_lconst (v := 1) hx hb dX12_rule_3 (by decide) ?_
  obtain ⟨r_3, σ_2, hc_1, hf⟩ := g_bnd hf
  refine q_calli (va_runS (As := [.long (Int32.toInt64 a1), .long 0, .long 1]) (rest := []) ⟨hx, hb, hml, hown, hts⟩ (k_X12_in l z n D cy Y hc_1) (va_cwS 3 hts gX12_rule_X12_in rfl rfl rfl (by decide +kernel) ⟨Nat.le_of_ble_eq_true rfl, Nat.le_of_ble_eq_true rfl⟩) (q_PS hK hN hW) rfl rfl hl.1 rfl (lv_room (Nat.le_of_ble_eq_true rfl)) dX12_rule_4 ⟨Nat.le_refl _, Nat.le_refl _⟩) hS (fun H locs hW hS => ?_)
  refine lv_if_eq (tgt := 30) hx hb dX12_rule_7 (by decide) (fun c => ?_) (fun c => ?_)
  · have hf := g_pos c hf
    refine lv_iconst (v := (-1)) hx hb dX12_rule_30 (by decide) ?_
    exact q_iret hx hb hr hlocks hW hS hf dX12_rule_31
  · have hf := g_neg c hf
    refine lv_iload_n hx hb dX12_rule_10 rfl (lv_at hl 2 rfl) ?_
    refine lv_i2l hx hb dX12_rule_11 rfl ?_
    refine lv_lconst (v := 0) hx hb dX12_rule_12 (by decide) ?_
    refine lv_iload_n hx hb dX12_rule_13 rfl (lv_at hl 1 rfl) ?_
    refine lv_if_ne (tgt := 21) hx hb dX12_rule_14 (by decide) (fun c => ?_) (fun c => ?_)
    · have hf := g_neg c hf
      refine lv_ldc2 hx hb hown hw0 dX12_rule_21 ?_
      exact B24 2000000 0 (Int32.toInt64 a2) σ_2 hf _ _ _ hW hS (lv_sub hl [0, 1, 2] rfl)
    · have hf := g_pos c hf
      refine lv_lconst (v := 1) hx hb dX12_rule_17 (by decide) ?_
      refine lv_goto (tgt := 24) hx hb dX12_rule_18 (by decide) ?_
      exact B24 1 0 (Int32.toInt64 a2) σ_2 hf _ _ _ hW hS (lv_sub hl [0, 1, 2] rfl)
set_option maxRecDepth 100000 in
set_option maxHeartbeats 40000000 in
theorem k_X12_shift (l : Launch) (z n : Nat) (D : va_G) (cy : Nat → ClassId) (Y : Yt) {this : Nat} {a1 : Int32} {a2 : Int32} {a3 : Int32} {σ : Mm} {r : Int32} {σ1 : Mm} (h_this : okk Y n 9 this) (hf : f_X12_shift Y this a1 a2 a3 σ = some (r, σ1)) : Ki l yX12_shift wsX12_shift ({ frames := 1, cells := 0, slots := 0, locals := 25 } : Room) z n D cy Y [.ref (z + this), .int a1, .int a2, .int a3] σ r σ1 := by
  refine Met.ofW (cc := cX12_shift) (maxL := 5) (ret := (some .int)) (by decide +kernel) rfl ?_
  intro p e s m args below meth c s₁ B hml hv
  obtain ⟨rfl, hW, hK, hN⟩ := hv
  have hx := B.exec
  have hb := B.bytes
  have hr := B.returns
  have hts := atoms_spec (ws := wsX12_shift) B.pre
  have hown : s.vm.findClass RX12 = some m.cls := findClass_of_methodNamed B.named
  have hlocks := B.notSynchronized
  have hS : va_S (Az z) s.heap s.heap [] := va_S.rf
  have hin12 : ∀ w ∈ wsX120, w ∈ wsX12_shift := fun w h => List.mem_cons_of_mem _ (List.mem_append_right _ h)
  have hw0 := hts (.constant RX12 157 (-100000)) (List.mem_of_getElem? (i := 4) rfl)
  have hw1 := hts (.constantLong RX12 158 (10)) (List.mem_of_getElem? (i := 1) rfl)
  have hw2 := hts (.constantLong RX12 160 (-500)) (List.mem_of_getElem? (i := 2) rfl)
  have hw3 := hts (.constantLong RX12 162 (500)) (List.mem_of_getElem? (i := 3) rfl)
  have hw4 := hts (.fieldLink RX12 28 "SkyClocksModel" "shifts" "[I") (List.mem_of_getElem? (i := 5) rfl)
  have hl := lv_entry ([.ref (z + this), .int a1, .int a2, .int a3]) (n := 5) (Nat.le_of_ble_eq_true rfl)
  rw [lg_entry_eq]
  generalize (lg_sl ([.ref (z + this), .int a1, .int a2, .int a3]) ++ List.replicate (5 - (lg_sl ([.ref (z + this), .int a1, .int a2, .int a3])).length) Slot.unset).toArray = ls at hl ⊢
  have hl : lv_has ls 5 [(0, .ref (z + this)), (1, .int a1), (2, .int a2), (3, .int a3)] := hl
  refine lv_iload_n hx hb dX12_shift_0 rfl (lv_at hl 1 rfl) ?_
  refine lv_i2l hx hb dX12_shift_1 rfl ?_
  refine lv_lconst (v := 0) hx hb dX12_shift_2 (by decide) ?_
  refine lv_lconst (v := 1) hx hb dX12_shift_3 (by decide) ?_
  obtain ⟨r_3, σ_2, hc_1, hf⟩ := g_bnd hf
  refine q_calli (va_runS (As := [.long (Int32.toInt64 a1), .long 0, .long 1]) (rest := []) ⟨hx, hb, hml, hown, hts⟩ (k_X12_in l z n D cy Y hc_1) (va_cwS 3 hts gX12_shift_X12_in rfl rfl rfl (by decide +kernel) ⟨Nat.le_of_ble_eq_true rfl, Nat.le_of_ble_eq_true rfl⟩) (q_PS hK hN hW) rfl rfl hl.1 rfl (lv_room (Nat.le_of_ble_eq_true rfl)) dX12_shift_4 ⟨Nat.le_refl _, Nat.le_refl _⟩) hS (fun H locs hW hS => ?_)
  refine lv_if_eq (tgt := 36) hx hb dX12_shift_7 (by decide) (fun c => ?_) (fun c => ?_)
  · have hf := g_pos c hf
    refine lv_ldc hx hb hown hw0 dX12_shift_36 ?_
    exact q_iret hx hb hr hlocks hW hS hf dX12_shift_38
  · have hf := g_neg c hf
    refine lv_iload_n hx hb dX12_shift_10 rfl (lv_at hl 2 rfl) ?_
    refine lv_i2l hx hb dX12_shift_11 rfl ?_
    refine lv_lconst (v := 0) hx hb dX12_shift_12 (by decide) ?_
    refine lv_ldc2 hx hb hown hw1 dX12_shift_13 ?_
    obtain ⟨r_6, σ_5, hc_4, hf⟩ := g_bnd hf
    refine q_calli (va_runS (As := [.long (Int32.toInt64 a2), .long 0, .long 10]) (rest := []) ⟨hx, hb, hml, hown, hts⟩ (k_X12_in l z n D cy Y hc_4) (va_cwS 3 hts gX12_shift_X12_in rfl rfl rfl (by decide +kernel) ⟨Nat.le_of_ble_eq_true rfl, Nat.le_of_ble_eq_true rfl⟩) (q_PS hK hN hW) rfl rfl hl.1 rfl (lv_room (Nat.le_of_ble_eq_true rfl)) dX12_shift_16 ⟨Nat.le_refl _, Nat.le_refl _⟩) hS (fun H locs hW hS => ?_)
    refine lv_if_eq (tgt := 36) hx hb dX12_shift_19 (by decide) (fun c => ?_) (fun c => ?_)
    · have hf := g_pos c hf
      refine lv_ldc hx hb hown hw0 dX12_shift_36 ?_
      exact q_iret hx hb hr hlocks hW hS hf dX12_shift_38
    · have hf := g_neg c hf
      refine lv_iload_n hx hb dX12_shift_22 rfl (lv_at hl 3 rfl) ?_
      refine lv_i2l hx hb dX12_shift_23 rfl ?_
      refine lv_ldc2 hx hb hown hw2 dX12_shift_24 ?_
      refine lv_ldc2 hx hb hown hw3 dX12_shift_27 ?_
      obtain ⟨r_9, σ_8, hc_7, hf⟩ := g_bnd hf
      refine q_calli (va_runS (As := [.long (Int32.toInt64 a3), .long (-500), .long 500]) (rest := []) ⟨hx, hb, hml, hown, hts⟩ (k_X12_in l z n D cy Y hc_7) (va_cwS 3 hts gX12_shift_X12_in rfl rfl rfl (by decide +kernel) ⟨Nat.le_of_ble_eq_true rfl, Nat.le_of_ble_eq_true rfl⟩) (q_PS hK hN hW) rfl rfl hl.1 rfl (lv_room (Nat.le_of_ble_eq_true rfl)) dX12_shift_30 ⟨Nat.le_refl _, Nat.le_refl _⟩) hS (fun H locs hW hS => ?_)
      refine lv_if_ne (tgt := 39) hx hb dX12_shift_33 (by decide) (fun c => ?_) (fun c => ?_)
      · have hf := g_neg c hf
        refine lv_aload_n hx hb dX12_shift_39 rfl (lv_at hl 0 rfl) ?_
        refine q_getp (own := RX12) (ref := RX12) (C := RX12) (T := TX12) (N := 57) (kc := 9) (ci := 0) hx hb hts hin12 hown hK hW h_this (by decide) rfl 6 (by decide) hw4 rfl rfl rfl (v := 602) rfl dX12_shift_40 (fun hk_10 hq_11 => ?_)
        refine lv_bipush (v := 11) hx hb dX12_shift_43 (by decide) ?_
        refine lv_iload_n hx hb dX12_shift_45 rfl (lv_at hl 1 rfl) ?_
        refine lv_imul hx hb dX12_shift_46 ?_
        refine lv_iload_n hx hb dX12_shift_47 rfl (lv_at hl 2 rfl) ?_
        refine lv_iadd hx hb dX12_shift_48 ?_
        obtain ⟨hi_12, hf⟩ := g_in hf
        refine q_iald hx hb hK hW hk_10 (inb_of hq_11 hi_12) dX12_shift_49 ?_
        refine lv_topi (fun x4_13 ex4_13 => ?_)
        have hf := g_lt ex4_13 hf
        refine lv_istore (lv' := [(4, .int x4_13), (0, .ref (z + this)), (1, .int a1), (2, .int a2), (3, .int a3)]) hx hb dX12_shift_50 hl (by decide) rfl (fun ls hl => ?_)
        refine lv_aload_n hx hb dX12_shift_52 rfl (lv_at hl 1 rfl) ?_
        refine q_getp (own := RX12) (ref := RX12) (C := RX12) (T := TX12) (N := 57) (kc := 9) (ci := 0) hx hb hts hin12 hown hK hW h_this (by decide) rfl 6 (by decide) hw4 rfl rfl rfl (v := 602) rfl dX12_shift_53 (fun hk_14 hq_15 => ?_)
        refine lv_bipush (v := 11) hx hb dX12_shift_56 (by decide) ?_
        refine lv_iload_n hx hb dX12_shift_58 rfl (lv_at hl 2 rfl) ?_
        refine lv_imul hx hb dX12_shift_59 ?_
        refine lv_iload_n hx hb dX12_shift_60 rfl (lv_at hl 3 rfl) ?_
        refine lv_iadd hx hb dX12_shift_61 ?_
        refine lv_iload_n hx hb dX12_shift_62 rfl (lv_at hl 4 rfl) ?_
        obtain ⟨hi_16, hf⟩ := g_in hf
        refine q_iast hx hb hK hW hS hk_14 (inb_of hq_15 hi_16) dX12_shift_63 (fun H locs hW hS => ?_)
        obtain ⟨σ_17, eσ_17⟩ : ∃ y : Mm, y = (Mm.si σ_8 602 (ix ((11 * a1) + a2)) a3) := ⟨_, rfl⟩
        rw [← eσ_17] at hW
        have hf := g_lt eσ_17 hf
        refine lv_iload hx hb dX12_shift_64 (lv_at hl 0 rfl) ?_
        exact q_iret hx hb hr hlocks hW hS hf dX12_shift_66
      · have hf := g_pos c hf
        refine lv_ldc hx hb hown hw0 dX12_shift_36 ?_
        exact q_iret hx hb hr hlocks hW hS hf dX12_shift_38
set_option maxRecDepth 100000 in
set_option maxHeartbeats 40000000 in
theorem k_X12_shuffled (l : Launch) (z n : Nat) (D : va_G) (cy : Nat → ClassId) (Y : Yt) {fu : Nat} {this : Nat} {a1 : Int32} {a2 : Int32} {σ : Mm} {r : Int32} {σ1 : Mm} (h_this : okk Y n 9 this) (hf : f_X12_shuffled Y fu this a1 a2 σ = some (r, σ1)) : Ki l yX12_shuffled wsX12_shuffled ({ frames := 4, cells := 0, slots := 0, locals := 102 } : Room) z n D cy Y [.ref (z + this), .int a1, .int a2] σ r σ1 := by
  refine Met.ofW (cc := cX12_shuffled) (maxL := 8) (ret := (some .int)) (by decide +kernel) rfl ?_
  intro p e s m args below meth c s₁ B hml hv
  obtain ⟨rfl, hW, hK, hN⟩ := hv
  have hx := B.exec
  have hb := B.bytes
  have hr := B.returns
  have hts := atoms_spec (ws := wsX12_shuffled) B.pre
  have hown : s.vm.findClass RX12 = some m.cls := findClass_of_methodNamed B.named
  have hlocks := B.notSynchronized
  have hS : va_S (Az z) s.heap s.heap [] := va_S.rf
  have hin12 : ∀ w ∈ wsX120, w ∈ wsX12_shuffled := fun w h => List.mem_cons_of_mem _ (List.mem_append_right _ h)
  have hw0 := hts (.fieldLink RX12 337 "SkyClocksModel" "both" "I") (List.mem_of_getElem? (i := 1) rfl)
  have hl := lv_entry ([.ref (z + this), .int a1, .int a2]) (n := 8) (Nat.le_of_ble_eq_true rfl)
  rw [lg_entry_eq]
  generalize (lg_sl ([.ref (z + this), .int a1, .int a2]) ++ List.replicate (8 - (lg_sl ([.ref (z + this), .int a1, .int a2])).length) Slot.unset).toArray = ls at hl ⊢
  have hl : lv_has ls 8 [(0, .ref (z + this)), (1, .int a1), (2, .int a2)] := hl
  have B96 : ∀ (k71 : Int32 → Int64 → Int32 → Int32 → Mm → Option (Int32 × Mm)) (H71 : ∀ (x3 : Int32) (x4 : Int64) (x6 : Int32) (x7 : Int32) (σ : Mm), k71 x3 x4 x6 x7 σ = some (r, σ1) → ∀ (H : Heap) (locs : List Loc) (ls : Array Slot), WH z n D cy Y σ H → va_S (Az z) s.heap H locs → lv_has ls 8 [(0, .ref (z + this)), (1, .int a1), (2, .int a2), (3, .int x3), (4, .long x4), (6, .int x6), (7, .int x7)] → W p l e ({ frames := 4, cells := 0, slots := 0, locals := 102 } : Room) s m ([.ref (z + this), .int a1, .int a2] : List Value).toArray below meth c H locs 0 0 (MQ below (va_Qi (fun (x : Int32) (_ : Unit) => x = r) (fun _ t => WH z n D cy Y σ1 t.heap) (Az z)) ([.ref (z + this), .int a1, .int a2] : List Value).toArray s 0 0 (Az z)) (F0 m 71 ls [])) (x3 : Int32) (x4 : Int64) (x7 : Int32) (t0 : Int32) (t1 : Int32) (σ : Mm), b_X12_shuffled_96 Y fu this a1 a2 k71 x3 x4 x7 t0 t1 σ = some (r, σ1) → ∀ (H : Heap) (locs : List Loc) (ls : Array Slot), WH z n D cy Y σ H → va_S (Az z) s.heap H locs → lv_has ls 8 [(0, .ref (z + this)), (1, .int a1), (2, .int a2), (3, .int x3), (4, .long x4), (7, .int x7)] → W p l e ({ frames := 4, cells := 0, slots := 0, locals := 102 } : Room) s m ([.ref (z + this), .int a1, .int a2] : List Value).toArray below meth c H locs 0 0 (MQ below (va_Qi (fun (x : Int32) (_ : Unit) => x = r) (fun _ t => WH z n D cy Y σ1 t.heap) (Az z)) ([.ref (z + this), .int a1, .int a2] : List Value).toArray s 0 0 (Az z)) (F0 m 96 ls [.int t0, .int t1]) := by
    intro k71 H71 x3 x4 x7 t0 t1 σ  hf H locs ls hW hS hl
    refine lv_iadd hx hb dX12_shuffled_96 ?_
    refine lv_topi (fun x6_16 ex6_16 => ?_)
    have hf := g_lt ex6_16 hf
    refine lv_istore (lv' := [(6, .int x6_16), (0, .ref (z + this)), (1, .int a1), (2, .int a2), (3, .int x3), (4, .long x4), (7, .int x7)]) hx hb dX12_shuffled_97 hl (by decide) rfl (fun ls hl => ?_)
    obtain ⟨x7_17, ex7_17⟩ : ∃ y : Int32, y = x7 + 1 := ⟨_, rfl⟩
    have hf := g_lt ex7_17 hf
    refine lv_iinc (v := x7_17) (lv' := [(7, .int x7_17), (6, .int x6_16), (0, .ref (z + this)), (1, .int a1), (2, .int a2), (3, .int x3), (4, .long x4)]) hx hb dX12_shuffled_99 hl (k := 6) rfl (by rw [ex7_17]; rfl) (by decide) rfl (fun ls hl => ?_)
    refine lv_goto (tgt := 71) hx hb dX12_shuffled_102 (by decide) ?_
    exact H71 x3 x4 x6_16 x7_17 σ hf _ _ _ hW hS (lv_sub hl [2, 3, 4, 5, 6, 1, 0] rfl)
  have B71 : ∀ (nn : Nat) (x3 : Int32) (x4 : Int64) (x6 : Int32) (x7 : Int32) (σ : Mm), b_X12_shuffled_71 Y fu this a1 a2 nn x3 x4 x6 x7 σ = some (r, σ1) → ∀ (H : Heap) (locs : List Loc) (ls : Array Slot), WH z n D cy Y σ H → va_S (Az z) s.heap H locs → lv_has ls 8 [(0, .ref (z + this)), (1, .int a1), (2, .int a2), (3, .int x3), (4, .long x4), (6, .int x6), (7, .int x7)] → W p l e ({ frames := 4, cells := 0, slots := 0, locals := 102 } : Room) s m ([.ref (z + this), .int a1, .int a2] : List Value).toArray below meth c H locs 0 0 (MQ below (va_Qi (fun (x : Int32) (_ : Unit) => x = r) (fun _ t => WH z n D cy Y σ1 t.heap) (Az z)) ([.ref (z + this), .int a1, .int a2] : List Value).toArray s 0 0 (Az z)) (F0 m 71 ls []) := by
    intro nn
    induction nn with
    | zero =>
      intro x3 x4 x6 x7 σ  hf
      have h9 : (none : Option (Int32 × Mm)) = some (r, σ1) := hf
      cases h9
    | succ nn H71 =>
      intro x3 x4 x6 x7 σ  hf H locs ls hW hS hl
      have hf : s_X12_shuffled_71 Y fu this a1 a2 (b_X12_shuffled_71 Y fu this a1 a2 nn) x3 x4 x6 x7 σ = some (r, σ1) := hf
      generalize hkk : b_X12_shuffled_71 Y fu this a1 a2 nn = k71 at hf H71
      refine lv_iload hx hb dX12_shuffled_71 (lv_at hl 6 rfl) ?_
      refine lv_iload_n hx hb dX12_shuffled_73 rfl (lv_at hl 3 rfl) ?_
      refine lv_icmp_ge (tgt := 105) hx hb dX12_shuffled_74 (by decide) (fun c => ?_) (fun c => ?_)
      · have hf := g_pos c hf
        refine lv_iload hx hb dX12_shuffled_105 (lv_at hl 5 rfl) ?_
        exact q_iret hx hb hr hlocks hW hS hf dX12_shuffled_107
      · have hf := g_neg c hf
        refine lv_iload hx hb dX12_shuffled_77 (lv_at hl 5 rfl) ?_
        refine lv_aload_n hx hb dX12_shuffled_79 rfl (lv_at hl 0 rfl) ?_
        refine lv_iload hx hb dX12_shuffled_80 (lv_at hl 6 rfl) ?_
        obtain ⟨r_15, σ_14, hc_13, hf⟩ := g_bnd hf
        refine q_calll (va_runV (As := [.int x7]) (rest := [.int x6]) ⟨hx, hb, hml, hown, hts⟩ (k_X12_productsBy l z n D cy Y h_this hc_13) (cwV 1 hts gX12_shuffled_X12_productsBy rfl rfl rfl (by decide +kernel) ⟨Nat.le_of_ble_eq_true rfl, Nat.le_of_ble_eq_true rfl⟩) (q_PV (T := TX12) (N := 57) hK hN hW h_this (by decide) rfl) rfl rfl hl.1 rfl (lv_room (Nat.le_of_ble_eq_true rfl)) dX12_shuffled_82 ⟨Nat.le_refl _, Nat.le_refl _⟩) hS (fun H locs hW hS => ?_)
        refine lv_lload hx hb dX12_shuffled_85 (lv_at hl 4 rfl) ?_
        refine W.lcmp hx hb dX12_shuffled_87 ?_
        refine lv_if_lt (tgt := 95) hx hb dX12_shuffled_88 (by decide) (fun c => ?_) (fun c => ?_)
        · have hf := g_pos ((lg_cmp_lt _ _).mp c) hf
          refine lv_iconst (v := 0) hx hb dX12_shuffled_95 (by decide) ?_
          exact B96 k71 H71 x3 x4 x7 0 x6 σ_14 hf _ _ _ hW hS (lv_sub hl [0, 1, 2, 3, 4, 6] rfl)
        · have hf := g_neg (fun h => c ((lg_cmp_lt _ _).mpr h)) hf
          refine lv_iconst (v := 1) hx hb dX12_shuffled_91 (by decide) ?_
          refine lv_goto (tgt := 96) hx hb dX12_shuffled_92 (by decide) ?_
          exact B96 k71 H71 x3 x4 x7 1 x6 σ_14 hf _ _ _ hW hS (lv_sub hl [0, 1, 2, 3, 4, 6] rfl)
  have B38 : ∀ (nn : Nat) (x3 : Int32) (x4 : Int32) (σ : Mm), b_X12_shuffled_38 Y fu this a1 a2 nn x3 x4 σ = some (r, σ1) → ∀ (H : Heap) (locs : List Loc) (ls : Array Slot), WH z n D cy Y σ H → va_S (Az z) s.heap H locs → lv_has ls 8 [(0, .ref (z + this)), (1, .int a1), (2, .int a2), (3, .int x3), (4, .int x4)] → W p l e ({ frames := 4, cells := 0, slots := 0, locals := 102 } : Room) s m ([.ref (z + this), .int a1, .int a2] : List Value).toArray below meth c H locs 0 0 (MQ below (va_Qi (fun (x : Int32) (_ : Unit) => x = r) (fun _ t => WH z n D cy Y σ1 t.heap) (Az z)) ([.ref (z + this), .int a1, .int a2] : List Value).toArray s 0 0 (Az z)) (F0 m 38 ls []) := by
    intro nn
    induction nn with
    | zero =>
      intro x3 x4 σ  hf
      have h9 : (none : Option (Int32 × Mm)) = some (r, σ1) := hf
      cases h9
    | succ nn H38 =>
      intro x3 x4 σ  hf H locs ls hW hS hl
      have hf : s_X12_shuffled_38 Y fu this a1 a2 (b_X12_shuffled_38 Y fu this a1 a2 nn) x3 x4 σ = some (r, σ1) := hf
      generalize hkk : b_X12_shuffled_38 Y fu this a1 a2 nn = k38 at hf H38
      refine lv_iload hx hb dX12_shuffled_38 (lv_at hl 4 rfl) ?_
      refine lv_aload_n hx hb dX12_shuffled_40 rfl (lv_at hl 0 rfl) ?_
      refine q_geti (own := RX12) (ref := RX12) (C := RX12) (T := TX12) (N := 57) (kc := 9) (ci := 0) hx hb hts hin12 hown hK hW h_this (by decide) rfl 54 (by decide) hw0 rfl rfl dX12_shuffled_41 ?_
      refine lv_icmp_gt (tgt := 58) hx hb dX12_shuffled_44 (by decide) (fun c => ?_) (fun c => ?_)
      · have hf := g_pos c hf
        refine lv_aload_n hx hb dX12_shuffled_58 rfl (lv_at hl 0 rfl) ?_
        refine lv_iconst (v := 0) hx hb dX12_shuffled_59 (by decide) ?_
        obtain ⟨r_12, σ_11, hc_10, hf⟩ := g_bnd hf
        refine q_calll (va_runV (As := [.int 0]) (rest := []) ⟨hx, hb, hml, hown, hts⟩ (k_X12_productsBy l z n D cy Y h_this hc_10) (cwV 1 hts gX12_shuffled_X12_productsBy rfl rfl rfl (by decide +kernel) ⟨Nat.le_of_ble_eq_true rfl, Nat.le_of_ble_eq_true rfl⟩) (q_PV (T := TX12) (N := 57) hK hN hW h_this (by decide) rfl) rfl rfl hl.1 rfl (lv_room (Nat.le_of_ble_eq_true rfl)) dX12_shuffled_60 ⟨Nat.le_refl _, Nat.le_refl _⟩) hS (fun H locs hW hS => ?_)
        refine lv_lstore (lv' := [(4, .long r_12), (0, .ref (z + this)), (1, .int a1), (2, .int a2), (3, .int x3)]) hx hb dX12_shuffled_63 hl (by decide) rfl (fun ls hl => ?_)
        refine lv_iconst (v := 0) hx hb dX12_shuffled_65 (by decide) ?_
        refine lv_istore (lv' := [(6, .int 0), (4, .long r_12), (0, .ref (z + this)), (1, .int a1), (2, .int a2), (3, .int x3)]) hx hb dX12_shuffled_66 hl (by decide) rfl (fun ls hl => ?_)
        refine lv_iconst (v := 0) hx hb dX12_shuffled_68 (by decide) ?_
        refine lv_istore (lv' := [(7, .int 0), (6, .int 0), (4, .long r_12), (0, .ref (z + this)), (1, .int a1), (2, .int a2), (3, .int x3)]) hx hb dX12_shuffled_69 hl (by decide) rfl (fun ls hl => ?_)
        exact B71 fu x3 r_12 0 0 σ_11 hf _ _ _ hW hS (lv_sub hl [3, 4, 5, 6, 2, 1, 0] rfl)
      · have hf := g_neg c hf
        refine lv_iload_n hx hb dX12_shuffled_47 rfl (lv_at hl 3 rfl) ?_
        refine lv_iload hx hb dX12_shuffled_48 (lv_at hl 4 rfl) ?_
        refine lv_imul hx hb dX12_shuffled_50 ?_
        refine lv_topi (fun x3_18 ex3_18 => ?_)
        have hf := g_lt ex3_18 hf
        refine lv_istore_n (lv' := [(3, .int x3_18), (0, .ref (z + this)), (1, .int a1), (2, .int a2), (4, .int x4)]) hx hb dX12_shuffled_51 rfl hl (by decide) rfl (fun ls hl => ?_)
        obtain ⟨x4_19, ex4_19⟩ : ∃ y : Int32, y = x4 + 1 := ⟨_, rfl⟩
        have hf := g_lt ex4_19 hf
        refine lv_iinc (v := x4_19) (lv' := [(4, .int x4_19), (3, .int x3_18), (0, .ref (z + this)), (1, .int a1), (2, .int a2)]) hx hb dX12_shuffled_52 hl (k := 4) rfl (by rw [ex4_19]; rfl) (by decide) rfl (fun ls hl => ?_)
        refine lv_goto (tgt := 38) hx hb dX12_shuffled_55 (by decide) ?_
        exact H38 x3_18 x4_19 σ hf _ _ _ hW hS (lv_sub hl [2, 3, 4, 1, 0] rfl)
  refine lv_iload_n hx hb dX12_shuffled_0 rfl (lv_at hl 1 rfl) ?_
  obtain ⟨r_3, σ_2, hc_1, hf⟩ := g_bnd hf
  refine q_calli (va_runS (As := [.int a1]) (rest := []) ⟨hx, hb, hml, hown, hts⟩ (k_X12_isStar l z n D cy Y hc_1) (va_cwS 1 hts gX12_shuffled_X12_isStar rfl rfl rfl (by decide +kernel) ⟨Nat.le_of_ble_eq_true rfl, Nat.le_of_ble_eq_true rfl⟩) (q_PS hK hN hW) rfl rfl hl.1 rfl (lv_room (Nat.le_of_ble_eq_true rfl)) dX12_shuffled_1 ⟨Nat.le_refl _, Nat.le_refl _⟩) hS (fun H locs hW hS => ?_)
  refine lv_if_eq (tgt := 19) hx hb dX12_shuffled_4 (by decide) (fun c => ?_) (fun c => ?_)
  · have hf := g_pos c hf
    refine lv_iconst (v := (-1)) hx hb dX12_shuffled_19 (by decide) ?_
    exact q_iret hx hb hr hlocks hW hS hf dX12_shuffled_20
  · have hf := g_neg c hf
    refine lv_iload_n hx hb dX12_shuffled_7 rfl (lv_at hl 2 rfl) ?_
    obtain ⟨r_6, σ_5, hc_4, hf⟩ := g_bnd hf
    refine q_calli (va_runS (As := [.int a2]) (rest := []) ⟨hx, hb, hml, hown, hts⟩ (k_X12_isStar l z n D cy Y hc_4) (va_cwS 1 hts gX12_shuffled_X12_isStar rfl rfl rfl (by decide +kernel) ⟨Nat.le_of_ble_eq_true rfl, Nat.le_of_ble_eq_true rfl⟩) (q_PS hK hN hW) rfl rfl hl.1 rfl (lv_room (Nat.le_of_ble_eq_true rfl)) dX12_shuffled_8 ⟨Nat.le_refl _, Nat.le_refl _⟩) hS (fun H locs hW hS => ?_)
    refine lv_if_eq (tgt := 19) hx hb dX12_shuffled_11 (by decide) (fun c => ?_) (fun c => ?_)
    · have hf := g_pos c hf
      refine lv_iconst (v := (-1)) hx hb dX12_shuffled_19 (by decide) ?_
      exact q_iret hx hb hr hlocks hW hS hf dX12_shuffled_20
    · have hf := g_neg c hf
      refine lv_iload_n hx hb dX12_shuffled_14 rfl (lv_at hl 1 rfl) ?_
      refine lv_iload_n hx hb dX12_shuffled_15 rfl (lv_at hl 2 rfl) ?_
      refine lv_icmp_ne (tgt := 21) hx hb dX12_shuffled_16 (by decide) (fun c => ?_) (fun c => ?_)
      · have hf := g_neg c hf
        refine lv_aload_n hx hb dX12_shuffled_21 rfl (lv_at hl 0 rfl) ?_
        refine lv_iload_n hx hb dX12_shuffled_22 rfl (lv_at hl 1 rfl) ?_
        refine lv_iload_n hx hb dX12_shuffled_23 rfl (lv_at hl 2 rfl) ?_
        obtain ⟨r_9, σ_8, hc_7, hf⟩ := g_bnd hf
        refine q_calli (va_runV (As := [.int a1, .int a2]) (rest := []) ⟨hx, hb, hml, hown, hts⟩ (k_X12_layBoth l z n D cy Y h_this hc_7) (cwV 2 hts gX12_shuffled_X12_layBoth rfl rfl rfl (by decide +kernel) ⟨Nat.le_of_ble_eq_true rfl, Nat.le_of_ble_eq_true rfl⟩) (q_PV (T := TX12) (N := 57) hK hN hW h_this (by decide) rfl) rfl rfl hl.1 rfl (lv_room (Nat.le_of_ble_eq_true rfl)) dX12_shuffled_24 ⟨Nat.le_refl _, Nat.le_refl _⟩) hS (fun H locs hW hS => ?_)
        refine lv_if_ne (tgt := 33) hx hb dX12_shuffled_27 (by decide) (fun c => ?_) (fun c => ?_)
        · have hf := g_neg c hf
          refine lv_iconst (v := 1) hx hb dX12_shuffled_33 (by decide) ?_
          refine lv_istore_n (lv' := [(3, .int 1), (0, .ref (z + this)), (1, .int a1), (2, .int a2)]) hx hb dX12_shuffled_34 rfl hl (by decide) rfl (fun ls hl => ?_)
          refine lv_iconst (v := 2) hx hb dX12_shuffled_35 (by decide) ?_
          refine lv_istore (lv' := [(4, .int 2), (3, .int 1), (0, .ref (z + this)), (1, .int a1), (2, .int a2)]) hx hb dX12_shuffled_36 hl (by decide) rfl (fun ls hl => ?_)
          exact B38 fu 1 2 σ_8 hf _ _ _ hW hS (lv_sub hl [2, 3, 4, 1, 0] rfl)
        · have hf := g_pos c hf
          refine lv_bipush (v := (-2)) hx hb dX12_shuffled_30 (by decide) ?_
          exact q_iret hx hb hr hlocks hW hS hf dX12_shuffled_32
      · have hf := g_pos c hf
        refine lv_iconst (v := (-1)) hx hb dX12_shuffled_19 (by decide) ?_
        exact q_iret hx hb hr hlocks hW hS hf dX12_shuffled_20
set_option maxRecDepth 100000 in
set_option maxHeartbeats 40000000 in
theorem k_X12_sure (l : Launch) (z n : Nat) (D : va_G) (cy : Nat → ClassId) (Y : Yt) {fu : Nat} {this : Nat} {a1 : Int32} {σ : Mm} {r : Int32} {σ1 : Mm} (h_this : okk Y n 9 this) (hf : f_X12_sure Y fu this a1 σ = some (r, σ1)) : Ki l yX12_sure wsX12_sure ({ frames := 1, cells := 0, slots := 0, locals := 25 } : Room) z n D cy Y [.ref (z + this), .int a1] σ r σ1 := by
  refine Met.ofW (cc := cX12_sure) (maxL := 4) (ret := (some .int)) (by decide +kernel) rfl ?_
  intro p e s m args below meth c s₁ B hml hv
  obtain ⟨rfl, hW, hK, hN⟩ := hv
  have hx := B.exec
  have hb := B.bytes
  have hr := B.returns
  have hts := atoms_spec (ws := wsX12_sure) B.pre
  have hown : s.vm.findClass RX12 = some m.cls := findClass_of_methodNamed B.named
  have hlocks := B.notSynchronized
  have hS : va_S (Az z) s.heap s.heap [] := va_S.rf
  have hin12 : ∀ w ∈ wsX120, w ∈ wsX12_sure := fun w h => List.mem_cons_of_mem _ (List.mem_append_right _ h)
  have hw0 := hts (.constantLong RX12 171 (23)) (List.mem_of_getElem? (i := 1) rfl)
  have hw1 := hts (.fieldLink RX12 301 "SkyClocksModel" "asked" "I") (List.mem_of_getElem? (i := 2) rfl)
  have hw2 := hts (.fieldLink RX12 279 "SkyClocksModel" "length0" "I") (List.mem_of_getElem? (i := 3) rfl)
  have hw3 := hts (.fieldLink RX12 282 "SkyClocksModel" "ways" "I") (List.mem_of_getElem? (i := 4) rfl)
  have hw4 := hts (.fieldLink RX12 89 "SkyClocksModel" "wayCounts" "[I") (List.mem_of_getElem? (i := 5) rfl)
  have hl := lv_entry ([.ref (z + this), .int a1]) (n := 4) (Nat.le_of_ble_eq_true rfl)
  rw [lg_entry_eq]
  generalize (lg_sl ([.ref (z + this), .int a1]) ++ List.replicate (4 - (lg_sl ([.ref (z + this), .int a1])).length) Slot.unset).toArray = ls at hl ⊢
  have hl : lv_has ls 4 [(0, .ref (z + this)), (1, .int a1)] := hl
  have B85 : ∀ (k48 : Int32 → Int32 → Mm → Option (Int32 × Mm)) (H48 : ∀ (x2 : Int32) (x3 : Int32) (σ : Mm), k48 x2 x3 σ = some (r, σ1) → ∀ (H : Heap) (locs : List Loc) (ls : Array Slot), WH z n D cy Y σ H → va_S (Az z) s.heap H locs → lv_has ls 4 [(0, .ref (z + this)), (1, .int a1), (2, .int x2), (3, .int x3)] → W p l e ({ frames := 1, cells := 0, slots := 0, locals := 25 } : Room) s m ([.ref (z + this), .int a1] : List Value).toArray below meth c H locs 0 0 (MQ below (va_Qi (fun (x : Int32) (_ : Unit) => x = r) (fun _ t => WH z n D cy Y σ1 t.heap) (Az z)) ([.ref (z + this), .int a1] : List Value).toArray s 0 0 (Az z)) (F0 m 48 ls [])) (x3 : Int32) (t0 : Int32) (σ : Mm), b_X12_sure_85 Y fu this a1 k48 x3 t0 σ = some (r, σ1) → ∀ (H : Heap) (locs : List Loc) (ls : Array Slot), WH z n D cy Y σ H → va_S (Az z) s.heap H locs → lv_has ls 4 [(0, .ref (z + this)), (1, .int a1), (3, .int x3)] → W p l e ({ frames := 1, cells := 0, slots := 0, locals := 25 } : Room) s m ([.ref (z + this), .int a1] : List Value).toArray below meth c H locs 0 0 (MQ below (va_Qi (fun (x : Int32) (_ : Unit) => x = r) (fun _ t => WH z n D cy Y σ1 t.heap) (Az z)) ([.ref (z + this), .int a1] : List Value).toArray s 0 0 (Az z)) (F0 m 85 ls [.int t0]) := by
    intro k48 H48 x3 t0 σ  hf H locs ls hW hS hl
    refine lv_istore_n (lv' := [(2, .int t0), (0, .ref (z + this)), (1, .int a1), (3, .int x3)]) hx hb dX12_sure_85 rfl hl (by decide) rfl (fun ls hl => ?_)
    obtain ⟨x3_7, ex3_7⟩ : ∃ y : Int32, y = x3 + 1 := ⟨_, rfl⟩
    have hf := g_lt ex3_7 hf
    refine lv_iinc (v := x3_7) (lv' := [(3, .int x3_7), (2, .int t0), (0, .ref (z + this)), (1, .int a1)]) hx hb dX12_sure_86 hl (k := 3) rfl (by rw [ex3_7]; rfl) (by decide) rfl (fun ls hl => ?_)
    refine lv_goto (tgt := 48) hx hb dX12_sure_89 (by decide) ?_
    exact H48 t0 x3_7 σ hf _ _ _ hW hS (lv_sub hl [2, 3, 1, 0] rfl)
  have B84 : ∀ (k48 : Int32 → Int32 → Mm → Option (Int32 × Mm)) (H48 : ∀ (x2 : Int32) (x3 : Int32) (σ : Mm), k48 x2 x3 σ = some (r, σ1) → ∀ (H : Heap) (locs : List Loc) (ls : Array Slot), WH z n D cy Y σ H → va_S (Az z) s.heap H locs → lv_has ls 4 [(0, .ref (z + this)), (1, .int a1), (2, .int x2), (3, .int x3)] → W p l e ({ frames := 1, cells := 0, slots := 0, locals := 25 } : Room) s m ([.ref (z + this), .int a1] : List Value).toArray below meth c H locs 0 0 (MQ below (va_Qi (fun (x : Int32) (_ : Unit) => x = r) (fun _ t => WH z n D cy Y σ1 t.heap) (Az z)) ([.ref (z + this), .int a1] : List Value).toArray s 0 0 (Az z)) (F0 m 48 ls [])) (x3 : Int32) (σ : Mm), b_X12_sure_84 Y fu this a1 k48 x3 σ = some (r, σ1) → ∀ (H : Heap) (locs : List Loc) (ls : Array Slot), WH z n D cy Y σ H → va_S (Az z) s.heap H locs → lv_has ls 4 [(0, .ref (z + this)), (1, .int a1), (3, .int x3)] → W p l e ({ frames := 1, cells := 0, slots := 0, locals := 25 } : Room) s m ([.ref (z + this), .int a1] : List Value).toArray below meth c H locs 0 0 (MQ below (va_Qi (fun (x : Int32) (_ : Unit) => x = r) (fun _ t => WH z n D cy Y σ1 t.heap) (Az z)) ([.ref (z + this), .int a1] : List Value).toArray s 0 0 (Az z)) (F0 m 84 ls []) := by
    intro k48 H48 x3 σ  hf H locs ls hW hS hl
    refine lv_iconst (v := 0) hx hb dX12_sure_84 (by decide) ?_
    exact B85 k48 H48 x3 0 σ hf _ _ _ hW hS (lv_sub hl [0, 1, 2] rfl)
  have B48 : ∀ (nn : Nat) (x2 : Int32) (x3 : Int32) (σ : Mm), b_X12_sure_48 Y fu this a1 nn x2 x3 σ = some (r, σ1) → ∀ (H : Heap) (locs : List Loc) (ls : Array Slot), WH z n D cy Y σ H → va_S (Az z) s.heap H locs → lv_has ls 4 [(0, .ref (z + this)), (1, .int a1), (2, .int x2), (3, .int x3)] → W p l e ({ frames := 1, cells := 0, slots := 0, locals := 25 } : Room) s m ([.ref (z + this), .int a1] : List Value).toArray below meth c H locs 0 0 (MQ below (va_Qi (fun (x : Int32) (_ : Unit) => x = r) (fun _ t => WH z n D cy Y σ1 t.heap) (Az z)) ([.ref (z + this), .int a1] : List Value).toArray s 0 0 (Az z)) (F0 m 48 ls []) := by
    intro nn
    induction nn with
    | zero =>
      intro x2 x3 σ  hf
      have h9 : (none : Option (Int32 × Mm)) = some (r, σ1) := hf
      cases h9
    | succ nn H48 =>
      intro x2 x3 σ  hf H locs ls hW hS hl
      have hf : s_X12_sure_48 Y fu this a1 (b_X12_sure_48 Y fu this a1 nn) x2 x3 σ = some (r, σ1) := hf
      generalize hkk : b_X12_sure_48 Y fu this a1 nn = k48 at hf H48
      refine lv_iload_n hx hb dX12_sure_48 rfl (lv_at hl 3 rfl) ?_
      refine lv_aload_n hx hb dX12_sure_49 rfl (lv_at hl 0 rfl) ?_
      refine q_geti (own := RX12) (ref := RX12) (C := RX12) (T := TX12) (N := 57) (kc := 9) (ci := 0) hx hb hts hin12 hown hK hW h_this (by decide) rfl 33 (by decide) hw3 rfl rfl dX12_sure_50 ?_
      refine lv_icmp_ge (tgt := 92) hx hb dX12_sure_53 (by decide) (fun c => ?_) (fun c => ?_)
      · have hf := g_pos c hf
        refine lv_iload_n hx hb dX12_sure_92 rfl (lv_at hl 2 rfl) ?_
        refine lv_if_eq (tgt := 105) hx hb dX12_sure_93 (by decide) (fun c => ?_) (fun c => ?_)
        · have hf := g_pos c hf
          refine lv_bipush (v := (-4)) hx hb dX12_sure_105 (by decide) ?_
          exact q_iret hx hb hr hlocks hW hS hf dX12_sure_107
        · have hf := g_neg c hf
          refine lv_aload_n hx hb dX12_sure_96 rfl (lv_at hl 0 rfl) ?_
          refine q_getp (own := RX12) (ref := RX12) (C := RX12) (T := TX12) (N := 57) (kc := 9) (ci := 0) hx hb hts hin12 hown hK hW h_this (by decide) rfl 37 (by decide) hw4 rfl rfl rfl (v := 620) rfl dX12_sure_97 (fun hk_4 hq_5 => ?_)
          refine lv_iload_n hx hb dX12_sure_100 rfl (lv_at hl 1 rfl) ?_
          obtain ⟨hi_6, hf⟩ := g_in hf
          refine q_iald hx hb hK hW hk_4 (inb_of hq_5 hi_6) dX12_sure_101 ?_
          refine lv_goto (tgt := 107) hx hb dX12_sure_102 (by decide) ?_
          exact q_iret hx hb hr hlocks hW hS hf dX12_sure_107
      · have hf := g_neg c hf
        refine lv_iload_n hx hb dX12_sure_56 rfl (lv_at hl 2 rfl) ?_
        refine lv_if_eq (tgt := 84) hx hb dX12_sure_57 (by decide) (fun c => ?_) (fun c => ?_)
        · have hf := g_pos c hf
          exact B84 k48 H48 x3 σ hf _ _ _ hW hS (lv_sub hl [0, 1, 3] rfl)
        · have hf := g_neg c hf
          refine lv_aload_n hx hb dX12_sure_60 rfl (lv_at hl 0 rfl) ?_
          refine q_getp (own := RX12) (ref := RX12) (C := RX12) (T := TX12) (N := 57) (kc := 9) (ci := 0) hx hb hts hin12 hown hK hW h_this (by decide) rfl 37 (by decide) hw4 rfl rfl rfl (v := 620) rfl dX12_sure_61 (fun hk_8 hq_9 => ?_)
          refine lv_bipush (v := 24) hx hb dX12_sure_64 (by decide) ?_
          refine lv_iload_n hx hb dX12_sure_66 rfl (lv_at hl 3 rfl) ?_
          refine lv_imul hx hb dX12_sure_67 ?_
          refine lv_iload_n hx hb dX12_sure_68 rfl (lv_at hl 1 rfl) ?_
          refine lv_iadd hx hb dX12_sure_69 ?_
          obtain ⟨hi_10, hf⟩ := g_in hf
          refine q_iald hx hb hK hW hk_8 (inb_of hq_9 hi_10) dX12_sure_70 ?_
          refine lv_aload_n hx hb dX12_sure_71 rfl (lv_at hl 0 rfl) ?_
          refine q_getp (own := RX12) (ref := RX12) (C := RX12) (T := TX12) (N := 57) (kc := 9) (ci := 0) hx hb hts hin12 hown hK hW h_this (by decide) rfl 37 (by decide) hw4 rfl rfl rfl (v := 620) rfl dX12_sure_72 (fun hk_11 hq_12 => ?_)
          refine lv_iload_n hx hb dX12_sure_75 rfl (lv_at hl 1 rfl) ?_
          obtain ⟨hi_13, hf⟩ := g_in hf
          refine q_iald hx hb hK hW hk_11 (inb_of hq_12 hi_13) dX12_sure_76 ?_
          refine lv_icmp_ne (tgt := 84) hx hb dX12_sure_77 (by decide) (fun c => ?_) (fun c => ?_)
          · have hf := g_neg c hf
            exact B84 k48 H48 x3 σ hf _ _ _ hW hS (lv_sub hl [0, 1, 3] rfl)
          · have hf := g_pos c hf
            refine lv_iconst (v := 1) hx hb dX12_sure_80 (by decide) ?_
            refine lv_goto (tgt := 85) hx hb dX12_sure_81 (by decide) ?_
            exact B85 k48 H48 x3 1 σ hf _ _ _ hW hS (lv_sub hl [0, 1, 3] rfl)
  have B45 : ∀ (t0 : Int32) (σ : Mm), b_X12_sure_45 Y fu this a1 t0 σ = some (r, σ1) → ∀ (H : Heap) (locs : List Loc) (ls : Array Slot), WH z n D cy Y σ H → va_S (Az z) s.heap H locs → lv_has ls 4 [(0, .ref (z + this)), (1, .int a1)] → W p l e ({ frames := 1, cells := 0, slots := 0, locals := 25 } : Room) s m ([.ref (z + this), .int a1] : List Value).toArray below meth c H locs 0 0 (MQ below (va_Qi (fun (x : Int32) (_ : Unit) => x = r) (fun _ t => WH z n D cy Y σ1 t.heap) (Az z)) ([.ref (z + this), .int a1] : List Value).toArray s 0 0 (Az z)) (F0 m 45 ls [.int t0]) := by
    intro  t0 σ  hf H locs ls hW hS hl
    refine lv_istore_n (lv' := [(2, .int t0), (0, .ref (z + this)), (1, .int a1)]) hx hb dX12_sure_45 rfl hl (by decide) rfl (fun ls hl => ?_)
    refine lv_iconst (v := 1) hx hb dX12_sure_46 (by decide) ?_
    refine lv_istore_n (lv' := [(3, .int 1), (2, .int t0), (0, .ref (z + this)), (1, .int a1)]) hx hb dX12_sure_47 rfl hl (by decide) rfl (fun ls hl => ?_)
    exact B48 fu t0 1 σ hf _ _ _ hW hS (lv_sub hl [2, 3, 1, 0] rfl)
  refine lv_iload_n hx hb dX12_sure_0 rfl (lv_at hl 1 rfl) ?_
  refine lv_i2l hx hb dX12_sure_1 rfl ?_
  refine lv_lconst (v := 0) hx hb dX12_sure_2 (by decide) ?_
  refine lv_ldc2 hx hb hown hw0 dX12_sure_3 ?_
  obtain ⟨r_3, σ_2, hc_1, hf⟩ := g_bnd hf
  refine q_calli (va_runS (As := [.long (Int32.toInt64 a1), .long 0, .long 23]) (rest := []) ⟨hx, hb, hml, hown, hts⟩ (k_X12_in l z n D cy Y hc_1) (va_cwS 3 hts gX12_sure_X12_in rfl rfl rfl (by decide +kernel) ⟨Nat.le_of_ble_eq_true rfl, Nat.le_of_ble_eq_true rfl⟩) (q_PS hK hN hW) rfl rfl hl.1 rfl (lv_room (Nat.le_of_ble_eq_true rfl)) dX12_sure_6 ⟨Nat.le_refl _, Nat.le_refl _⟩) hS (fun H locs hW hS => ?_)
  refine lv_if_ne (tgt := 14) hx hb dX12_sure_9 (by decide) (fun c => ?_) (fun c => ?_)
  · have hf := g_neg c hf
    refine lv_aload_n hx hb dX12_sure_14 rfl (lv_at hl 0 rfl) ?_
    refine q_geti (own := RX12) (ref := RX12) (C := RX12) (T := TX12) (N := 57) (kc := 9) (ci := 0) hx hb hts hin12 hown hK hW h_this (by decide) rfl 32 (by decide) hw1 rfl rfl dX12_sure_15 ?_
    refine lv_iconst (v := 1) hx hb dX12_sure_18 (by decide) ?_
    refine lv_icmp_ne (tgt := 30) hx hb dX12_sure_19 (by decide) (fun c => ?_) (fun c => ?_)
    · have hf := g_neg c hf
      refine lv_bipush (v := (-2)) hx hb dX12_sure_30 (by decide) ?_
      exact q_iret hx hb hr hlocks hW hS hf dX12_sure_32
    · have hf := g_pos c hf
      refine lv_iload_n hx hb dX12_sure_22 rfl (lv_at hl 1 rfl) ?_
      refine lv_aload_n hx hb dX12_sure_23 rfl (lv_at hl 0 rfl) ?_
      refine q_geti (own := RX12) (ref := RX12) (C := RX12) (T := TX12) (N := 57) (kc := 9) (ci := 0) hx hb hts hin12 hown hK hW h_this (by decide) rfl 34 (by decide) hw2 rfl rfl dX12_sure_24 ?_
      refine lv_icmp_lt (tgt := 33) hx hb dX12_sure_27 (by decide) (fun c => ?_) (fun c => ?_)
      · have hf := g_pos c hf
        refine lv_aload_n hx hb dX12_sure_33 rfl (lv_at hl 0 rfl) ?_
        refine q_geti (own := RX12) (ref := RX12) (C := RX12) (T := TX12) (N := 57) (kc := 9) (ci := 0) hx hb hts hin12 hown hK hW h_this (by decide) rfl 33 (by decide) hw3 rfl rfl dX12_sure_34 ?_
        refine lv_if_le (tgt := 44) hx hb dX12_sure_37 (by decide) (fun c => ?_) (fun c => ?_)
        · have hf := g_pos c hf
          refine lv_iconst (v := 0) hx hb dX12_sure_44 (by decide) ?_
          exact B45 0 σ_2 hf _ _ _ hW hS (lv_sub hl [0, 1] rfl)
        · have hf := g_neg c hf
          refine lv_iconst (v := 1) hx hb dX12_sure_40 (by decide) ?_
          refine lv_goto (tgt := 45) hx hb dX12_sure_41 (by decide) ?_
          exact B45 1 σ_2 hf _ _ _ hW hS (lv_sub hl [0, 1] rfl)
      · have hf := g_neg c hf
        refine lv_bipush (v := (-2)) hx hb dX12_sure_30 (by decide) ?_
        exact q_iret hx hb hr hlocks hW hS hf dX12_sure_32
  · have hf := g_pos c hf
    refine lv_iconst (v := (-1)) hx hb dX12_sure_12 (by decide) ?_
    exact q_iret hx hb hr hlocks hW hS hf dX12_sure_13
set_option maxRecDepth 100000 in
set_option maxHeartbeats 40000000 in
theorem k_X12_turn (l : Launch) (z n : Nat) (D : va_G) (cy : Nat → ClassId) (Y : Yt) {fu : Nat} {this : Nat} {a1 : Int32} {a2 : Int32} {σ : Mm} {r : Int32} {σ1 : Mm} (h_this : okk Y n 9 this) (hf : f_X12_turn Y fu this a1 a2 σ = some (r, σ1)) : Ki l yX12_turn wsX12_turn ({ frames := 3, cells := 0, slots := 0, locals := 79 } : Room) z n D cy Y [.ref (z + this), .int a1, .int a2] σ r σ1 := by
  refine Met.ofW (cc := cX12_turn) (maxL := 3) (ret := (some .int)) (by decide +kernel) rfl ?_
  intro p e s m args below meth c s₁ B hml hv
  obtain ⟨rfl, hW, hK, hN⟩ := hv
  have hx := B.exec
  have hb := B.bytes
  have hr := B.returns
  have hts := atoms_spec (ws := wsX12_turn) B.pre
  have hown : s.vm.findClass RX12 = some m.cls := findClass_of_methodNamed B.named
  have hlocks := B.notSynchronized
  have hS : va_S (Az z) s.heap s.heap [] := va_S.rf
  have hin12 : ∀ w ∈ wsX120, w ∈ wsX12_turn := fun w h => List.mem_cons_of_mem _ (List.mem_append_right _ h)
  have hw0 := hts (.constantLong RX12 171 (23)) (List.mem_of_getElem? (i := 1) rfl)
  have hw1 := hts (.fieldLink RX12 164 "SkyClocksModel" "version" "I") (List.mem_of_getElem? (i := 2) rfl)
  have hw2 := hts (.fieldLink RX12 167 "SkyClocksModel" "counts" "I") (List.mem_of_getElem? (i := 3) rfl)
  have hw3 := hts (.fieldLink RX12 80 "SkyClocksModel" "turnOf" "[I") (List.mem_of_getElem? (i := 4) rfl)
  have hl := lv_entry ([.ref (z + this), .int a1, .int a2]) (n := 3) (Nat.le_of_ble_eq_true rfl)
  rw [lg_entry_eq]
  generalize (lg_sl ([.ref (z + this), .int a1, .int a2]) ++ List.replicate (3 - (lg_sl ([.ref (z + this), .int a1, .int a2])).length) Slot.unset).toArray = ls at hl ⊢
  have hl : lv_has ls 3 [(0, .ref (z + this)), (1, .int a1), (2, .int a2)] := hl
  refine lv_iload_n hx hb dX12_turn_0 rfl (lv_at hl 1 rfl) ?_
  obtain ⟨r_3, σ_2, hc_1, hf⟩ := g_bnd hf
  refine q_calli (va_runS (As := [.int a1]) (rest := []) ⟨hx, hb, hml, hown, hts⟩ (k_X12_isStar l z n D cy Y hc_1) (va_cwS 1 hts gX12_turn_X12_isStar rfl rfl rfl (by decide +kernel) ⟨Nat.le_of_ble_eq_true rfl, Nat.le_of_ble_eq_true rfl⟩) (q_PS hK hN hW) rfl rfl hl.1 rfl (lv_room (Nat.le_of_ble_eq_true rfl)) dX12_turn_1 ⟨Nat.le_refl _, Nat.le_refl _⟩) hS (fun H locs hW hS => ?_)
  refine lv_if_eq (tgt := 19) hx hb dX12_turn_4 (by decide) (fun c => ?_) (fun c => ?_)
  · have hf := g_pos c hf
    refine lv_iconst (v := (-1)) hx hb dX12_turn_19 (by decide) ?_
    exact q_iret hx hb hr hlocks hW hS hf dX12_turn_20
  · have hf := g_neg c hf
    refine lv_iload_n hx hb dX12_turn_7 rfl (lv_at hl 2 rfl) ?_
    refine lv_i2l hx hb dX12_turn_8 rfl ?_
    refine lv_lconst (v := 0) hx hb dX12_turn_9 (by decide) ?_
    refine lv_ldc2 hx hb hown hw0 dX12_turn_10 ?_
    obtain ⟨r_6, σ_5, hc_4, hf⟩ := g_bnd hf
    refine q_calli (va_runS (As := [.long (Int32.toInt64 a2), .long 0, .long 23]) (rest := []) ⟨hx, hb, hml, hown, hts⟩ (k_X12_in l z n D cy Y hc_4) (va_cwS 3 hts gX12_turn_X12_in rfl rfl rfl (by decide +kernel) ⟨Nat.le_of_ble_eq_true rfl, Nat.le_of_ble_eq_true rfl⟩) (q_PS hK hN hW) rfl rfl hl.1 rfl (lv_room (Nat.le_of_ble_eq_true rfl)) dX12_turn_13 ⟨Nat.le_refl _, Nat.le_refl _⟩) hS (fun H locs hW hS => ?_)
    refine lv_if_ne (tgt := 21) hx hb dX12_turn_16 (by decide) (fun c => ?_) (fun c => ?_)
    · have hf := g_neg c hf
      refine lv_aload_n hx hb dX12_turn_21 rfl (lv_at hl 0 rfl) ?_
      refine lv_iload_n hx hb dX12_turn_22 rfl (lv_at hl 1 rfl) ?_
      refine lv_aload_n hx hb dX12_turn_23 rfl (lv_at hl 0 rfl) ?_
      refine q_geti (own := RX12) (ref := RX12) (C := RX12) (T := TX12) (N := 57) (kc := 9) (ci := 0) hx hb hts hin12 hown hK hW h_this (by decide) rfl 7 (by decide) hw1 rfl rfl dX12_turn_24 ?_
      obtain ⟨r_9, σ_8, hc_7, hf⟩ := g_bnd hf
      refine q_calli (va_runV (As := [.int a1, .int (Mm.gi σ_5 this 7)]) (rest := []) ⟨hx, hb, hml, hown, hts⟩ (k_X12_layRest l z n D cy Y h_this hc_7) (cwV 2 hts gX12_turn_X12_layRest rfl rfl rfl (by decide +kernel) ⟨Nat.le_of_ble_eq_true rfl, Nat.le_of_ble_eq_true rfl⟩) (q_PV (T := TX12) (N := 57) hK hN hW h_this (by decide) rfl) rfl rfl hl.1 rfl (lv_room (Nat.le_of_ble_eq_true rfl)) dX12_turn_27 ⟨Nat.le_refl _, Nat.le_refl _⟩) hS (fun H locs hW hS => ?_)
      refine lv_if_eq (tgt := 50) hx hb dX12_turn_30 (by decide) (fun c => ?_) (fun c => ?_)
      · have hf := g_pos c hf
        refine lv_bipush (v := (-2)) hx hb dX12_turn_50 (by decide) ?_
        exact q_iret hx hb hr hlocks hW hS hf dX12_turn_52
      · have hf := g_neg c hf
        refine lv_iload_n hx hb dX12_turn_33 rfl (lv_at hl 2 rfl) ?_
        refine lv_aload_n hx hb dX12_turn_34 rfl (lv_at hl 0 rfl) ?_
        refine q_geti (own := RX12) (ref := RX12) (C := RX12) (T := TX12) (N := 57) (kc := 9) (ci := 0) hx hb hts hin12 hown hK hW h_this (by decide) rfl 22 (by decide) hw2 rfl rfl dX12_turn_35 ?_
        refine lv_icmp_ge (tgt := 50) hx hb dX12_turn_38 (by decide) (fun c => ?_) (fun c => ?_)
        · have hf := g_pos c hf
          refine lv_bipush (v := (-2)) hx hb dX12_turn_50 (by decide) ?_
          exact q_iret hx hb hr hlocks hW hS hf dX12_turn_52
        · have hf := g_neg c hf
          refine lv_aload_n hx hb dX12_turn_41 rfl (lv_at hl 0 rfl) ?_
          refine q_getp (own := RX12) (ref := RX12) (C := RX12) (T := TX12) (N := 57) (kc := 9) (ci := 0) hx hb hts hin12 hown hK hW h_this (by decide) rfl 31 (by decide) hw3 rfl rfl rfl (v := 617) rfl dX12_turn_42 (fun hk_10 hq_11 => ?_)
          refine lv_iload_n hx hb dX12_turn_45 rfl (lv_at hl 2 rfl) ?_
          obtain ⟨hi_12, hf⟩ := g_in hf
          refine q_iald hx hb hK hW hk_10 (inb_of hq_11 hi_12) dX12_turn_46 ?_
          refine lv_goto (tgt := 52) hx hb dX12_turn_47 (by decide) ?_
          exact q_iret hx hb hr hlocks hW hS hf dX12_turn_52
    · have hf := g_pos c hf
      refine lv_iconst (v := (-1)) hx hb dX12_turn_19 (by decide) ?_
      exact q_iret hx hb hr hlocks hW hS hf dX12_turn_20
set_option maxRecDepth 100000 in
set_option maxHeartbeats 40000000 in
theorem k_X12_way (l : Launch) (z n : Nat) (D : va_G) (cy : Nat → ClassId) (Y : Yt) {this : Nat} {a1 : Int32} {a2 : Int32} {σ : Mm} {r : Int32} {σ1 : Mm} (h_this : okk Y n 9 this) (hf : f_X12_way Y this a1 a2 σ = some (r, σ1)) : Ki l yX12_way wsX12_way ({ frames := 1, cells := 0, slots := 0, locals := 25 } : Room) z n D cy Y [.ref (z + this), .int a1, .int a2] σ r σ1 := by
  refine Met.ofW (cc := cX12_way) (maxL := 3) (ret := (some .int)) (by decide +kernel) rfl ?_
  intro p e s m args below meth c s₁ B hml hv
  obtain ⟨rfl, hW, hK, hN⟩ := hv
  have hx := B.exec
  have hb := B.bytes
  have hr := B.returns
  have hts := atoms_spec (ws := wsX12_way) B.pre
  have hown : s.vm.findClass RX12 = some m.cls := findClass_of_methodNamed B.named
  have hlocks := B.notSynchronized
  have hS : va_S (Az z) s.heap s.heap [] := va_S.rf
  have hin12 : ∀ w ∈ wsX120, w ∈ wsX12_way := fun w h => List.mem_cons_of_mem _ (List.mem_append_right _ h)
  have hw0 := hts (.constantLong RX12 171 (23)) (List.mem_of_getElem? (i := 1) rfl)
  have hw1 := hts (.fieldLink RX12 301 "SkyClocksModel" "asked" "I") (List.mem_of_getElem? (i := 2) rfl)
  have hw2 := hts (.fieldLink RX12 279 "SkyClocksModel" "length0" "I") (List.mem_of_getElem? (i := 3) rfl)
  have hw3 := hts (.fieldLink RX12 282 "SkyClocksModel" "ways" "I") (List.mem_of_getElem? (i := 4) rfl)
  have hw4 := hts (.fieldLink RX12 89 "SkyClocksModel" "wayCounts" "[I") (List.mem_of_getElem? (i := 5) rfl)
  have hl := lv_entry ([.ref (z + this), .int a1, .int a2]) (n := 3) (Nat.le_of_ble_eq_true rfl)
  rw [lg_entry_eq]
  generalize (lg_sl ([.ref (z + this), .int a1, .int a2]) ++ List.replicate (3 - (lg_sl ([.ref (z + this), .int a1, .int a2])).length) Slot.unset).toArray = ls at hl ⊢
  have hl : lv_has ls 3 [(0, .ref (z + this)), (1, .int a1), (2, .int a2)] := hl
  refine lv_iload_n hx hb dX12_way_0 rfl (lv_at hl 1 rfl) ?_
  refine lv_if_lt (tgt := 16) hx hb dX12_way_1 (by decide) (fun c => ?_) (fun c => ?_)
  · have hf := g_pos c hf
    refine lv_iconst (v := (-1)) hx hb dX12_way_16 (by decide) ?_
    exact q_iret hx hb hr hlocks hW hS hf dX12_way_17
  · have hf := g_neg c hf
    refine lv_iload_n hx hb dX12_way_4 rfl (lv_at hl 2 rfl) ?_
    refine lv_i2l hx hb dX12_way_5 rfl ?_
    refine lv_lconst (v := 0) hx hb dX12_way_6 (by decide) ?_
    refine lv_ldc2 hx hb hown hw0 dX12_way_7 ?_
    obtain ⟨r_3, σ_2, hc_1, hf⟩ := g_bnd hf
    refine q_calli (va_runS (As := [.long (Int32.toInt64 a2), .long 0, .long 23]) (rest := []) ⟨hx, hb, hml, hown, hts⟩ (k_X12_in l z n D cy Y hc_1) (va_cwS 3 hts gX12_way_X12_in rfl rfl rfl (by decide +kernel) ⟨Nat.le_of_ble_eq_true rfl, Nat.le_of_ble_eq_true rfl⟩) (q_PS hK hN hW) rfl rfl hl.1 rfl (lv_room (Nat.le_of_ble_eq_true rfl)) dX12_way_10 ⟨Nat.le_refl _, Nat.le_refl _⟩) hS (fun H locs hW hS => ?_)
    refine lv_if_ne (tgt := 18) hx hb dX12_way_13 (by decide) (fun c => ?_) (fun c => ?_)
    · have hf := g_neg c hf
      refine lv_aload_n hx hb dX12_way_18 rfl (lv_at hl 0 rfl) ?_
      refine q_geti (own := RX12) (ref := RX12) (C := RX12) (T := TX12) (N := 57) (kc := 9) (ci := 0) hx hb hts hin12 hown hK hW h_this (by decide) rfl 32 (by decide) hw1 rfl rfl dX12_way_19 ?_
      refine lv_iconst (v := 1) hx hb dX12_way_22 (by decide) ?_
      refine lv_icmp_ne (tgt := 34) hx hb dX12_way_23 (by decide) (fun c => ?_) (fun c => ?_)
      · have hf := g_neg c hf
        refine lv_bipush (v := (-2)) hx hb dX12_way_34 (by decide) ?_
        exact q_iret hx hb hr hlocks hW hS hf dX12_way_36
      · have hf := g_pos c hf
        refine lv_iload_n hx hb dX12_way_26 rfl (lv_at hl 2 rfl) ?_
        refine lv_aload_n hx hb dX12_way_27 rfl (lv_at hl 0 rfl) ?_
        refine q_geti (own := RX12) (ref := RX12) (C := RX12) (T := TX12) (N := 57) (kc := 9) (ci := 0) hx hb hts hin12 hown hK hW h_this (by decide) rfl 34 (by decide) hw2 rfl rfl dX12_way_28 ?_
        refine lv_icmp_lt (tgt := 37) hx hb dX12_way_31 (by decide) (fun c => ?_) (fun c => ?_)
        · have hf := g_pos c hf
          refine lv_iload_n hx hb dX12_way_37 rfl (lv_at hl 1 rfl) ?_
          refine lv_aload_n hx hb dX12_way_38 rfl (lv_at hl 0 rfl) ?_
          refine q_geti (own := RX12) (ref := RX12) (C := RX12) (T := TX12) (N := 57) (kc := 9) (ci := 0) hx hb hts hin12 hown hK hW h_this (by decide) rfl 33 (by decide) hw3 rfl rfl dX12_way_39 ?_
          refine lv_icmp_ge (tgt := 59) hx hb dX12_way_42 (by decide) (fun c => ?_) (fun c => ?_)
          · have hf := g_pos c hf
            refine lv_bipush (v := (-4)) hx hb dX12_way_59 (by decide) ?_
            exact q_iret hx hb hr hlocks hW hS hf dX12_way_61
          · have hf := g_neg c hf
            refine lv_aload_n hx hb dX12_way_45 rfl (lv_at hl 0 rfl) ?_
            refine q_getp (own := RX12) (ref := RX12) (C := RX12) (T := TX12) (N := 57) (kc := 9) (ci := 0) hx hb hts hin12 hown hK hW h_this (by decide) rfl 37 (by decide) hw4 rfl rfl rfl (v := 620) rfl dX12_way_46 (fun hk_4 hq_5 => ?_)
            refine lv_bipush (v := 24) hx hb dX12_way_49 (by decide) ?_
            refine lv_iload_n hx hb dX12_way_51 rfl (lv_at hl 1 rfl) ?_
            refine lv_imul hx hb dX12_way_52 ?_
            refine lv_iload_n hx hb dX12_way_53 rfl (lv_at hl 2 rfl) ?_
            refine lv_iadd hx hb dX12_way_54 ?_
            obtain ⟨hi_6, hf⟩ := g_in hf
            refine q_iald hx hb hK hW hk_4 (inb_of hq_5 hi_6) dX12_way_55 ?_
            refine lv_goto (tgt := 61) hx hb dX12_way_56 (by decide) ?_
            exact q_iret hx hb hr hlocks hW hS hf dX12_way_61
        · have hf := g_neg c hf
          refine lv_bipush (v := (-2)) hx hb dX12_way_34 (by decide) ?_
          exact q_iret hx hb hr hlocks hW hS hf dX12_way_36
    · have hf := g_pos c hf
      refine lv_iconst (v := (-1)) hx hb dX12_way_16 (by decide) ?_
      exact q_iret hx hb hr hlocks hW hS hf dX12_way_17
set_option maxRecDepth 100000 in
set_option maxHeartbeats 40000000 in
theorem k_X12_early (l : Launch) (z n : Nat) (D : va_G) (cy : Nat → ClassId) (Y : Yt) {this : Nat} {a1 : Int32} {σ : Mm} {r : Int64} {σ1 : Mm} (h_this : okk Y n 9 this) (hf : f_X12_early Y this a1 σ = some (r, σ1)) : Kl l yX12_early wsX12_early ({ frames := 0, cells := 0, slots := 0, locals := 0 } : Room) z n D cy Y [.ref (z + this), .int a1] σ r σ1 := by
  refine Met.ofW (cc := cX12_early) (maxL := 2) (ret := (some .long)) (by decide +kernel) rfl ?_
  intro p e s m args below meth c s₁ B hml hv
  obtain ⟨rfl, hW, hK, hN⟩ := hv
  have hx := B.exec
  have hb := B.bytes
  have hr := B.returns
  have hts := atoms_spec (ws := wsX12_early) B.pre
  have hown : s.vm.findClass RX12 = some m.cls := findClass_of_methodNamed B.named
  have hlocks := B.notSynchronized
  have hS : va_S (Az z) s.heap s.heap [] := va_S.rf
  have hin12 : ∀ w ∈ wsX120, w ∈ wsX12_early := fun w h => List.mem_cons_of_mem _ (List.mem_append_right _ h)
  have hw0 := hts (.constantLong RX12 148 (1000)) (List.mem_of_getElem? (i := 1) rfl)
  have hw1 := hts (.fieldLink RX12 83 "SkyClocksModel" "wayCorrected" "[I") (List.mem_of_getElem? (i := 2) rfl)
  have hw2 := hts (.fieldLink RX12 86 "SkyClocksModel" "wayErr" "[I") (List.mem_of_getElem? (i := 3) rfl)
  have hl := lv_entry ([.ref (z + this), .int a1]) (n := 2) (Nat.le_of_ble_eq_true rfl)
  rw [lg_entry_eq]
  generalize (lg_sl ([.ref (z + this), .int a1]) ++ List.replicate (2 - (lg_sl ([.ref (z + this), .int a1])).length) Slot.unset).toArray = ls at hl ⊢
  have hl : lv_has ls 2 [(0, .ref (z + this)), (1, .int a1)] := hl
  refine lv_ldc2 hx hb hown hw0 dX12_early_0 ?_
  refine lv_aload_n hx hb dX12_early_3 rfl (lv_at hl 0 rfl) ?_
  refine q_getp (own := RX12) (ref := RX12) (C := RX12) (T := TX12) (N := 57) (kc := 9) (ci := 0) hx hb hts hin12 hown hK hW h_this (by decide) rfl 35 (by decide) hw1 rfl rfl rfl (v := 618) rfl dX12_early_4 (fun hk_1 hq_2 => ?_)
  refine lv_iload_n hx hb dX12_early_7 rfl (lv_at hl 1 rfl) ?_
  obtain ⟨hi_3, hf⟩ := g_in hf
  refine q_iald hx hb hK hW hk_1 (inb_of hq_2 hi_3) dX12_early_8 ?_
  refine lv_aload_n hx hb dX12_early_9 rfl (lv_at hl 0 rfl) ?_
  refine q_getp (own := RX12) (ref := RX12) (C := RX12) (T := TX12) (N := 57) (kc := 9) (ci := 0) hx hb hts hin12 hown hK hW h_this (by decide) rfl 35 (by decide) hw1 rfl rfl rfl (v := 618) rfl dX12_early_10 (fun hk_4 hq_5 => ?_)
  refine lv_iconst (v := 0) hx hb dX12_early_13 (by decide) ?_
  obtain ⟨hi_6, hf⟩ := g_in hf
  refine q_iald hx hb hK hW hk_4 (inb_of hq_5 hi_6) dX12_early_14 ?_
  refine lv_isub hx hb dX12_early_15 ?_
  refine lv_aload_n hx hb dX12_early_16 rfl (lv_at hl 0 rfl) ?_
  refine q_getp (own := RX12) (ref := RX12) (C := RX12) (T := TX12) (N := 57) (kc := 9) (ci := 0) hx hb hts hin12 hown hK hW h_this (by decide) rfl 36 (by decide) hw2 rfl rfl rfl (v := 619) rfl dX12_early_17 (fun hk_7 hq_8 => ?_)
  refine lv_iload_n hx hb dX12_early_20 rfl (lv_at hl 1 rfl) ?_
  obtain ⟨hi_9, hf⟩ := g_in hf
  refine q_iald hx hb hK hW hk_7 (inb_of hq_8 hi_9) dX12_early_21 ?_
  refine lv_isub hx hb dX12_early_22 ?_
  refine lv_aload_n hx hb dX12_early_23 rfl (lv_at hl 0 rfl) ?_
  refine q_getp (own := RX12) (ref := RX12) (C := RX12) (T := TX12) (N := 57) (kc := 9) (ci := 0) hx hb hts hin12 hown hK hW h_this (by decide) rfl 36 (by decide) hw2 rfl rfl rfl (v := 619) rfl dX12_early_24 (fun hk_10 hq_11 => ?_)
  refine lv_iconst (v := 0) hx hb dX12_early_27 (by decide) ?_
  obtain ⟨hi_12, hf⟩ := g_in hf
  refine q_iald hx hb hK hW hk_10 (inb_of hq_11 hi_12) dX12_early_28 ?_
  refine lv_isub hx hb dX12_early_29 ?_
  refine lv_i2l hx hb dX12_early_30 rfl ?_
  refine lv_lmul hx hb dX12_early_31 ?_
  exact q_lret hx hb hr hlocks hW hS hf dX12_early_32
set_option maxRecDepth 100000 in
set_option maxHeartbeats 40000000 in
theorem k_X12_late (l : Launch) (z n : Nat) (D : va_G) (cy : Nat → ClassId) (Y : Yt) {this : Nat} {a1 : Int32} {σ : Mm} {r : Int64} {σ1 : Mm} (h_this : okk Y n 9 this) (hf : f_X12_late Y this a1 σ = some (r, σ1)) : Kl l yX12_late wsX12_late ({ frames := 0, cells := 0, slots := 0, locals := 0 } : Room) z n D cy Y [.ref (z + this), .int a1] σ r σ1 := by
  refine Met.ofW (cc := cX12_late) (maxL := 2) (ret := (some .long)) (by decide +kernel) rfl ?_
  intro p e s m args below meth c s₁ B hml hv
  obtain ⟨rfl, hW, hK, hN⟩ := hv
  have hx := B.exec
  have hb := B.bytes
  have hr := B.returns
  have hts := atoms_spec (ws := wsX12_late) B.pre
  have hown : s.vm.findClass RX12 = some m.cls := findClass_of_methodNamed B.named
  have hlocks := B.notSynchronized
  have hS : va_S (Az z) s.heap s.heap [] := va_S.rf
  have hin12 : ∀ w ∈ wsX120, w ∈ wsX12_late := fun w h => List.mem_cons_of_mem _ (List.mem_append_right _ h)
  have hw0 := hts (.constantLong RX12 148 (1000)) (List.mem_of_getElem? (i := 1) rfl)
  have hw1 := hts (.fieldLink RX12 83 "SkyClocksModel" "wayCorrected" "[I") (List.mem_of_getElem? (i := 2) rfl)
  have hw2 := hts (.fieldLink RX12 86 "SkyClocksModel" "wayErr" "[I") (List.mem_of_getElem? (i := 3) rfl)
  have hl := lv_entry ([.ref (z + this), .int a1]) (n := 2) (Nat.le_of_ble_eq_true rfl)
  rw [lg_entry_eq]
  generalize (lg_sl ([.ref (z + this), .int a1]) ++ List.replicate (2 - (lg_sl ([.ref (z + this), .int a1])).length) Slot.unset).toArray = ls at hl ⊢
  have hl : lv_has ls 2 [(0, .ref (z + this)), (1, .int a1)] := hl
  refine lv_ldc2 hx hb hown hw0 dX12_late_0 ?_
  refine lv_aload_n hx hb dX12_late_3 rfl (lv_at hl 0 rfl) ?_
  refine q_getp (own := RX12) (ref := RX12) (C := RX12) (T := TX12) (N := 57) (kc := 9) (ci := 0) hx hb hts hin12 hown hK hW h_this (by decide) rfl 35 (by decide) hw1 rfl rfl rfl (v := 618) rfl dX12_late_4 (fun hk_1 hq_2 => ?_)
  refine lv_iload_n hx hb dX12_late_7 rfl (lv_at hl 1 rfl) ?_
  obtain ⟨hi_3, hf⟩ := g_in hf
  refine q_iald hx hb hK hW hk_1 (inb_of hq_2 hi_3) dX12_late_8 ?_
  refine lv_aload_n hx hb dX12_late_9 rfl (lv_at hl 0 rfl) ?_
  refine q_getp (own := RX12) (ref := RX12) (C := RX12) (T := TX12) (N := 57) (kc := 9) (ci := 0) hx hb hts hin12 hown hK hW h_this (by decide) rfl 35 (by decide) hw1 rfl rfl rfl (v := 618) rfl dX12_late_10 (fun hk_4 hq_5 => ?_)
  refine lv_iconst (v := 0) hx hb dX12_late_13 (by decide) ?_
  obtain ⟨hi_6, hf⟩ := g_in hf
  refine q_iald hx hb hK hW hk_4 (inb_of hq_5 hi_6) dX12_late_14 ?_
  refine lv_isub hx hb dX12_late_15 ?_
  refine lv_aload_n hx hb dX12_late_16 rfl (lv_at hl 0 rfl) ?_
  refine q_getp (own := RX12) (ref := RX12) (C := RX12) (T := TX12) (N := 57) (kc := 9) (ci := 0) hx hb hts hin12 hown hK hW h_this (by decide) rfl 36 (by decide) hw2 rfl rfl rfl (v := 619) rfl dX12_late_17 (fun hk_7 hq_8 => ?_)
  refine lv_iload_n hx hb dX12_late_20 rfl (lv_at hl 1 rfl) ?_
  obtain ⟨hi_9, hf⟩ := g_in hf
  refine q_iald hx hb hK hW hk_7 (inb_of hq_8 hi_9) dX12_late_21 ?_
  refine lv_iadd hx hb dX12_late_22 ?_
  refine lv_aload_n hx hb dX12_late_23 rfl (lv_at hl 0 rfl) ?_
  refine q_getp (own := RX12) (ref := RX12) (C := RX12) (T := TX12) (N := 57) (kc := 9) (ci := 0) hx hb hts hin12 hown hK hW h_this (by decide) rfl 36 (by decide) hw2 rfl rfl rfl (v := 619) rfl dX12_late_24 (fun hk_10 hq_11 => ?_)
  refine lv_iconst (v := 0) hx hb dX12_late_27 (by decide) ?_
  obtain ⟨hi_12, hf⟩ := g_in hf
  refine q_iald hx hb hK hW hk_10 (inb_of hq_11 hi_12) dX12_late_28 ?_
  refine lv_iadd hx hb dX12_late_29 ?_
  refine lv_i2l hx hb dX12_late_30 rfl ?_
  refine lv_lmul hx hb dX12_late_31 ?_
  exact q_lret hx hb hr hlocks hW hS hf dX12_late_32
set_option maxRecDepth 100000 in
set_option maxHeartbeats 40000000 in
theorem k_X12_bind (l : Launch) (z n : Nat) (D : va_G) (cy : Nat → ClassId) (Y : Yt) {this : Nat} {a1 : Int32} {σ : Mm} {σ1 : Mm} (h_this : okk Y n 9 this) (hf : f_X12_bind Y this a1 σ = some σ1) : Kv l yX12_bind wsX12_bind ({ frames := 1, cells := 0, slots := 0, locals := 21 } : Room) z n D cy Y [.ref (z + this), .int a1] σ σ1 := by
  refine Met.ofW (cc := cX12_bind) (maxL := 8) (ret := none) (by decide +kernel) rfl ?_
  intro p e s m args below meth c s₁ B hml hv
  obtain ⟨rfl, hW, hK, hN⟩ := hv
  have hx := B.exec
  have hb := B.bytes
  have hr := B.returns
  have hts := atoms_spec (ws := wsX12_bind) B.pre
  have hown : s.vm.findClass RX12 = some m.cls := findClass_of_methodNamed B.named
  have hlocks := B.notSynchronized
  have hS : va_S (Az z) s.heap s.heap [] := va_S.rf
  have hin12 : ∀ w ∈ wsX120, w ∈ wsX12_bind := fun w h => List.mem_cons_of_mem _ (List.mem_append_right _ h)
  have hw0 := hts (.fieldLink RX12 113 "SkyClocksModel" "lowBelow" "[J") (List.mem_of_getElem? (i := 1) rfl)
  have hw1 := hts (.fieldLink RX12 110 "SkyClocksModel" "lowUp" "[J") (List.mem_of_getElem? (i := 2) rfl)
  have hw2 := hts (.fieldLink RX12 104 "SkyClocksModel" "now" "[I") (List.mem_of_getElem? (i := 3) rfl)
  have hw3 := hts (.fieldLink RX12 119 "SkyClocksModel" "highBelow" "[J") (List.mem_of_getElem? (i := 4) rfl)
  have hw4 := hts (.fieldLink RX12 116 "SkyClocksModel" "highUp" "[J") (List.mem_of_getElem? (i := 5) rfl)
  have hl := lv_entry ([.ref (z + this), .int a1]) (n := 8) (Nat.le_of_ble_eq_true rfl)
  rw [lg_entry_eq]
  generalize (lg_sl ([.ref (z + this), .int a1]) ++ List.replicate (8 - (lg_sl ([.ref (z + this), .int a1])).length) Slot.unset).toArray = ls at hl ⊢
  have hl : lv_has ls 8 [(0, .ref (z + this)), (1, .int a1)] := hl
  have B163 : ∀ (x7 : Int32) (t0 : Int64) (t1 : Int32) (t2 : Nat) (σ : Mm), okk Y n 11 t2 → b_X12_bind_163 Y this a1 x7 t0 t1 t2 σ = some σ1 → ∀ (H : Heap) (locs : List Loc) (ls : Array Slot), WH z n D cy Y σ H → va_S (Az z) s.heap H locs → lv_has ls 8 [(0, .ref (z + this)), (1, .int a1), (7, .int x7)] → W p l e ({ frames := 1, cells := 0, slots := 0, locals := 21 } : Room) s m ([.ref (z + this), .int a1] : List Value).toArray below meth c H locs 0 0 (MQ below (va_Qv (fun (_ : Unit) => True) (fun _ t => WH z n D cy Y σ1 t.heap) (Az z)) ([.ref (z + this), .int a1] : List Value).toArray s 0 0 (Az z)) (F0 m 163 ls [.long t0, .int t1, .ref (z + t2)]) := by
    intro  x7 t0 t1 t2 σ h_t2 hf H locs ls hW hS hl
    obtain ⟨hi_44, hf⟩ := g_in hf
    refine q_last hx hb hK hW hS h_t2 hi_44 dX12_bind_163 (fun H locs hW hS => ?_)
    obtain ⟨σ_45, eσ_45⟩ : ∃ y : Mm, y = (Mm.sl σ t2 (ix t1) t0) := ⟨_, rfl⟩
    rw [← eσ_45] at hW
    have hf := g_lt eσ_45 hf
    refine lv_aload_n hx hb dX12_bind_164 rfl (lv_at hl 0 rfl) ?_
    refine q_getp (own := RX12) (ref := RX12) (C := RX12) (T := TX12) (N := 57) (kc := 9) (ci := 0) hx hb hts hin12 hown hK hW h_this (by decide) rfl 47 (by decide) hw3 rfl rfl rfl (v := 630) rfl dX12_bind_165 (fun hk_46 hq_47 => ?_)
    refine lv_iload_n hx hb dX12_bind_168 rfl (lv_at hl 1 rfl) ?_
    refine lv_iload hx hb dX12_bind_169 (lv_at hl 2 rfl) ?_
    refine lv_if_eq (tgt := 184) hx hb dX12_bind_171 (by decide) (fun c => ?_) (fun c => ?_)
    · have hf := g_pos c hf
      refine lv_aload_n hx hb dX12_bind_184 rfl (lv_at hl 0 rfl) ?_
      refine q_getp (own := RX12) (ref := RX12) (C := RX12) (T := TX12) (N := 57) (kc := 9) (ci := 0) hx hb hts hin12 hown hK hW h_this (by decide) rfl 47 (by decide) hw3 rfl rfl rfl (v := 630) rfl dX12_bind_185 (fun hk_48 hq_49 => ?_)
      refine lv_iload_n hx hb dX12_bind_188 rfl (lv_at hl 1 rfl) ?_
      refine lv_iconst (v := 1) hx hb dX12_bind_189 (by decide) ?_
      refine lv_isub hx hb dX12_bind_190 ?_
      obtain ⟨hi_50, hf⟩ := g_in hf
      refine q_lald hx hb hK hW hk_48 (inb_of hq_49 hi_50) dX12_bind_191 ?_
      obtain ⟨hi_51, hf⟩ := g_in hf
      refine q_last hx hb hK hW hS hk_46 (inb_of hq_47 hi_51) dX12_bind_192 (fun H locs hW hS => ?_)
      obtain ⟨σ_52, eσ_52⟩ : ∃ y : Mm, y = (Mm.sl σ_45 630 (ix a1) (Mm.gl σ_45 630 (ix (a1 - 1)))) := ⟨_, rfl⟩
      rw [← eσ_52] at hW
      have hf := g_lt eσ_52 hf
      exact q_vret hx hb hr hlocks hW hS hf dX12_bind_193
    · have hf := g_neg c hf
      refine lv_aload_n hx hb dX12_bind_174 rfl (lv_at hl 0 rfl) ?_
      refine q_getp (own := RX12) (ref := RX12) (C := RX12) (T := TX12) (N := 57) (kc := 9) (ci := 0) hx hb hts hin12 hown hK hW h_this (by decide) rfl 42 (by decide) hw2 rfl rfl rfl (v := 625) rfl dX12_bind_175 (fun hk_53 hq_54 => ?_)
      refine lv_iload_n hx hb dX12_bind_178 rfl (lv_at hl 1 rfl) ?_
      obtain ⟨hi_55, hf⟩ := g_in hf
      refine q_iald hx hb hK hW hk_53 (inb_of hq_54 hi_55) dX12_bind_179 ?_
      refine lv_i2l hx hb dX12_bind_180 rfl ?_
      refine lv_goto (tgt := 192) hx hb dX12_bind_181 (by decide) ?_
      obtain ⟨hi_56, hf⟩ := g_in hf
      refine q_last hx hb hK hW hS hk_46 (inb_of hq_47 hi_56) dX12_bind_192 (fun H locs hW hS => ?_)
      obtain ⟨σ_57, eσ_57⟩ : ∃ y : Mm, y = (Mm.sl σ_45 630 (ix a1) (Int32.toInt64 (Mm.gi σ_45 625 (ix a1)))) := ⟨_, rfl⟩
      rw [← eσ_57] at hW
      have hf := g_lt eσ_57 hf
      exact q_vret hx hb hr hlocks hW hS hf dX12_bind_193
  have B138 : ∀ (x4 : Int64) (t0 : Int32) (σ : Mm), b_X12_bind_138 Y this a1 x4 t0 σ = some σ1 → ∀ (H : Heap) (locs : List Loc) (ls : Array Slot), WH z n D cy Y σ H → va_S (Az z) s.heap H locs → lv_has ls 8 [(0, .ref (z + this)), (1, .int a1), (4, .long x4)] → W p l e ({ frames := 1, cells := 0, slots := 0, locals := 21 } : Room) s m ([.ref (z + this), .int a1] : List Value).toArray below meth c H locs 0 0 (MQ below (va_Qv (fun (_ : Unit) => True) (fun _ t => WH z n D cy Y σ1 t.heap) (Az z)) ([.ref (z + this), .int a1] : List Value).toArray s 0 0 (Az z)) (F0 m 138 ls [.int t0]) := by
    intro  x4 t0 σ  hf H locs ls hW hS hl
    refine lv_istore (lv' := [(7, .int t0), (0, .ref (z + this)), (1, .int a1), (4, .long x4)]) hx hb dX12_bind_138 hl (by decide) rfl (fun ls hl => ?_)
    refine lv_aload_n hx hb dX12_bind_140 rfl (lv_at hl 1 rfl) ?_
    refine q_getp (own := RX12) (ref := RX12) (C := RX12) (T := TX12) (N := 57) (kc := 9) (ci := 0) hx hb hts hin12 hown hK hW h_this (by decide) rfl 46 (by decide) hw4 rfl rfl rfl (v := 629) rfl dX12_bind_141 (fun hk_39 hq_40 => ?_)
    refine lv_iload_n hx hb dX12_bind_144 rfl (lv_at hl 2 rfl) ?_
    refine lv_iload hx hb dX12_bind_145 (lv_at hl 0 rfl) ?_
    refine lv_if_eq (tgt := 155) hx hb dX12_bind_147 (by decide) (fun c => ?_) (fun c => ?_)
    · have hf := g_pos c hf
      refine lv_aload_n hx hb dX12_bind_155 rfl (lv_at hl 1 rfl) ?_
      refine q_getp (own := RX12) (ref := RX12) (C := RX12) (T := TX12) (N := 57) (kc := 9) (ci := 0) hx hb hts hin12 hown hK hW h_this (by decide) rfl 46 (by decide) hw4 rfl rfl rfl (v := 629) rfl dX12_bind_156 (fun hk_41 hq_42 => ?_)
      refine lv_iload_n hx hb dX12_bind_159 rfl (lv_at hl 2 rfl) ?_
      refine lv_iconst (v := 1) hx hb dX12_bind_160 (by decide) ?_
      refine lv_isub hx hb dX12_bind_161 ?_
      obtain ⟨hi_43, hf⟩ := g_in hf
      refine q_lald hx hb hK hW hk_41 (inb_of hq_42 hi_43) dX12_bind_162 ?_
      exact B163 t0 (Mm.gl σ 629 (ix (a1 - 1))) a1 629 σ hk_39 hf _ _ _ hW hS (lv_sub hl [1, 2, 0] rfl)
    · have hf := g_neg c hf
      refine lv_lload hx hb dX12_bind_150 (lv_at hl 3 rfl) ?_
      refine lv_goto (tgt := 163) hx hb dX12_bind_152 (by decide) ?_
      exact B163 t0 x4 a1 629 σ hk_39 hf _ _ _ hW hS (lv_sub hl [1, 2, 0] rfl)
  have B101 : ∀ (x4 : Int64) (t0 : Int64) (t1 : Int32) (t2 : Nat) (σ : Mm), okk Y n 11 t2 → b_X12_bind_101 Y this a1 x4 t0 t1 t2 σ = some σ1 → ∀ (H : Heap) (locs : List Loc) (ls : Array Slot), WH z n D cy Y σ H → va_S (Az z) s.heap H locs → lv_has ls 8 [(0, .ref (z + this)), (1, .int a1), (4, .long x4)] → W p l e ({ frames := 1, cells := 0, slots := 0, locals := 21 } : Room) s m ([.ref (z + this), .int a1] : List Value).toArray below meth c H locs 0 0 (MQ below (va_Qv (fun (_ : Unit) => True) (fun _ t => WH z n D cy Y σ1 t.heap) (Az z)) ([.ref (z + this), .int a1] : List Value).toArray s 0 0 (Az z)) (F0 m 101 ls [.long t0, .int t1, .ref (z + t2)]) := by
    intro  x4 t0 t1 t2 σ h_t2 hf H locs ls hW hS hl
    obtain ⟨hi_28, hf⟩ := g_in hf
    refine q_last hx hb hK hW hS h_t2 hi_28 dX12_bind_101 (fun H locs hW hS => ?_)
    obtain ⟨σ_29, eσ_29⟩ : ∃ y : Mm, y = (Mm.sl σ t2 (ix t1) t0) := ⟨_, rfl⟩
    rw [← eσ_29] at hW
    have hf := g_lt eσ_29 hf
    refine lv_lload hx hb dX12_bind_102 (lv_at hl 2 rfl) ?_
    refine lv_aload_n hx hb dX12_bind_104 rfl (lv_at hl 0 rfl) ?_
    refine q_getp (own := RX12) (ref := RX12) (C := RX12) (T := TX12) (N := 57) (kc := 9) (ci := 0) hx hb hts hin12 hown hK hW h_this (by decide) rfl 47 (by decide) hw3 rfl rfl rfl (v := 630) rfl dX12_bind_105 (fun hk_30 hq_31 => ?_)
    refine lv_iload_n hx hb dX12_bind_108 rfl (lv_at hl 1 rfl) ?_
    refine lv_iconst (v := 1) hx hb dX12_bind_109 (by decide) ?_
    refine lv_isub hx hb dX12_bind_110 ?_
    obtain ⟨hi_32, hf⟩ := g_in hf
    refine q_lald hx hb hK hW hk_30 (inb_of hq_31 hi_32) dX12_bind_111 ?_
    refine lv_lmul hx hb dX12_bind_112 ?_
    refine lv_aload_n hx hb dX12_bind_113 rfl (lv_at hl 0 rfl) ?_
    refine q_getp (own := RX12) (ref := RX12) (C := RX12) (T := TX12) (N := 57) (kc := 9) (ci := 0) hx hb hts hin12 hown hK hW h_this (by decide) rfl 46 (by decide) hw4 rfl rfl rfl (v := 629) rfl dX12_bind_114 (fun hk_33 hq_34 => ?_)
    refine lv_iload_n hx hb dX12_bind_117 rfl (lv_at hl 1 rfl) ?_
    refine lv_iconst (v := 1) hx hb dX12_bind_118 (by decide) ?_
    refine lv_isub hx hb dX12_bind_119 ?_
    obtain ⟨hi_35, hf⟩ := g_in hf
    refine q_lald hx hb hK hW hk_33 (inb_of hq_34 hi_35) dX12_bind_120 ?_
    refine lv_aload_n hx hb dX12_bind_121 rfl (lv_at hl 0 rfl) ?_
    refine q_getp (own := RX12) (ref := RX12) (C := RX12) (T := TX12) (N := 57) (kc := 9) (ci := 0) hx hb hts hin12 hown hK hW h_this (by decide) rfl 42 (by decide) hw2 rfl rfl rfl (v := 625) rfl dX12_bind_122 (fun hk_36 hq_37 => ?_)
    refine lv_iload_n hx hb dX12_bind_125 rfl (lv_at hl 1 rfl) ?_
    obtain ⟨hi_38, hf⟩ := g_in hf
    refine q_iald hx hb hK hW hk_36 (inb_of hq_37 hi_38) dX12_bind_126 ?_
    refine lv_i2l hx hb dX12_bind_127 rfl ?_
    refine lv_lmul hx hb dX12_bind_128 ?_
    refine W.lcmp hx hb dX12_bind_129 ?_
    refine lv_if_ge (tgt := 137) hx hb dX12_bind_130 (by decide) (fun c => ?_) (fun c => ?_)
    · have hf := g_pos ((lg_cmp_ge _ _).mp c) hf
      refine lv_iconst (v := 0) hx hb dX12_bind_137 (by decide) ?_
      exact B138 x4 0 σ_29 hf _ _ _ hW hS (lv_sub hl [0, 1, 2] rfl)
    · have hf := g_neg (fun h => c ((lg_cmp_ge _ _).mpr h)) hf
      refine lv_iconst (v := 1) hx hb dX12_bind_133 (by decide) ?_
      refine lv_goto (tgt := 138) hx hb dX12_bind_134 (by decide) ?_
      exact B138 x4 1 σ_29 hf _ _ _ hW hS (lv_sub hl [0, 1, 2] rfl)
  have B72 : ∀ (x4 : Int64) (x6 : Int32) (t0 : Int64) (t1 : Int32) (t2 : Nat) (σ : Mm), okk Y n 11 t2 → b_X12_bind_72 Y this a1 x4 x6 t0 t1 t2 σ = some σ1 → ∀ (H : Heap) (locs : List Loc) (ls : Array Slot), WH z n D cy Y σ H → va_S (Az z) s.heap H locs → lv_has ls 8 [(0, .ref (z + this)), (1, .int a1), (4, .long x4), (6, .int x6)] → W p l e ({ frames := 1, cells := 0, slots := 0, locals := 21 } : Room) s m ([.ref (z + this), .int a1] : List Value).toArray below meth c H locs 0 0 (MQ below (va_Qv (fun (_ : Unit) => True) (fun _ t => WH z n D cy Y σ1 t.heap) (Az z)) ([.ref (z + this), .int a1] : List Value).toArray s 0 0 (Az z)) (F0 m 72 ls [.long t0, .int t1, .ref (z + t2)]) := by
    intro  x4 x6 t0 t1 t2 σ h_t2 hf H locs ls hW hS hl
    obtain ⟨hi_21, hf⟩ := g_in hf
    refine q_last hx hb hK hW hS h_t2 hi_21 dX12_bind_72 (fun H locs hW hS => ?_)
    obtain ⟨σ_22, eσ_22⟩ : ∃ y : Mm, y = (Mm.sl σ t2 (ix t1) t0) := ⟨_, rfl⟩
    rw [← eσ_22] at hW
    have hf := g_lt eσ_22 hf
    refine lv_aload_n hx hb dX12_bind_73 rfl (lv_at hl 0 rfl) ?_
    refine q_getp (own := RX12) (ref := RX12) (C := RX12) (T := TX12) (N := 57) (kc := 9) (ci := 0) hx hb hts hin12 hown hK hW h_this (by decide) rfl 45 (by decide) hw0 rfl rfl rfl (v := 628) rfl dX12_bind_74 (fun hk_23 hq_24 => ?_)
    refine lv_iload_n hx hb dX12_bind_77 rfl (lv_at hl 1 rfl) ?_
    refine lv_iload hx hb dX12_bind_78 (lv_at hl 3 rfl) ?_
    refine lv_if_eq (tgt := 93) hx hb dX12_bind_80 (by decide) (fun c => ?_) (fun c => ?_)
    · have hf := g_pos c hf
      refine lv_aload_n hx hb dX12_bind_93 rfl (lv_at hl 0 rfl) ?_
      refine q_getp (own := RX12) (ref := RX12) (C := RX12) (T := TX12) (N := 57) (kc := 9) (ci := 0) hx hb hts hin12 hown hK hW h_this (by decide) rfl 45 (by decide) hw0 rfl rfl rfl (v := 628) rfl dX12_bind_94 (fun hk_25 hq_26 => ?_)
      refine lv_iload_n hx hb dX12_bind_97 rfl (lv_at hl 1 rfl) ?_
      refine lv_iconst (v := 1) hx hb dX12_bind_98 (by decide) ?_
      refine lv_isub hx hb dX12_bind_99 ?_
      obtain ⟨hi_27, hf⟩ := g_in hf
      refine q_lald hx hb hK hW hk_25 (inb_of hq_26 hi_27) dX12_bind_100 ?_
      exact B101 x4 (Mm.gl σ_22 628 (ix (a1 - 1))) a1 628 σ_22 hk_23 hf _ _ _ hW hS (lv_sub hl [0, 1, 2] rfl)
    · have hf := g_neg c hf
      refine lv_aload_n hx hb dX12_bind_83 rfl (lv_at hl 0 rfl) ?_
      refine q_getp (own := RX12) (ref := RX12) (C := RX12) (T := TX12) (N := 57) (kc := 9) (ci := 0) hx hb hts hin12 hown hK hW h_this (by decide) rfl 42 (by decide) hw2 rfl rfl rfl (v := 625) rfl dX12_bind_84 (fun hk_58 hq_59 => ?_)
      refine lv_iload_n hx hb dX12_bind_87 rfl (lv_at hl 1 rfl) ?_
      obtain ⟨hi_60, hf⟩ := g_in hf
      refine q_iald hx hb hK hW hk_58 (inb_of hq_59 hi_60) dX12_bind_88 ?_
      refine lv_i2l hx hb dX12_bind_89 rfl ?_
      refine lv_goto (tgt := 101) hx hb dX12_bind_90 (by decide) ?_
      exact B101 x4 (Int32.toInt64 (Mm.gi σ_22 625 (ix a1))) a1 628 σ_22 hk_23 hf _ _ _ hW hS (lv_sub hl [0, 1, 2] rfl)
  have B48 : ∀ (x2 : Int64) (x4 : Int64) (t0 : Int32) (σ : Mm), b_X12_bind_48 Y this a1 x2 x4 t0 σ = some σ1 → ∀ (H : Heap) (locs : List Loc) (ls : Array Slot), WH z n D cy Y σ H → va_S (Az z) s.heap H locs → lv_has ls 8 [(0, .ref (z + this)), (1, .int a1), (2, .long x2), (4, .long x4)] → W p l e ({ frames := 1, cells := 0, slots := 0, locals := 21 } : Room) s m ([.ref (z + this), .int a1] : List Value).toArray below meth c H locs 0 0 (MQ below (va_Qv (fun (_ : Unit) => True) (fun _ t => WH z n D cy Y σ1 t.heap) (Az z)) ([.ref (z + this), .int a1] : List Value).toArray s 0 0 (Az z)) (F0 m 48 ls [.int t0]) := by
    intro  x2 x4 t0 σ  hf H locs ls hW hS hl
    refine lv_istore (lv' := [(6, .int t0), (0, .ref (z + this)), (1, .int a1), (2, .long x2), (4, .long x4)]) hx hb dX12_bind_48 hl (by decide) rfl (fun ls hl => ?_)
    refine lv_aload_n hx hb dX12_bind_50 rfl (lv_at hl 1 rfl) ?_
    refine q_getp (own := RX12) (ref := RX12) (C := RX12) (T := TX12) (N := 57) (kc := 9) (ci := 0) hx hb hts hin12 hown hK hW h_this (by decide) rfl 44 (by decide) hw1 rfl rfl rfl (v := 627) rfl dX12_bind_51 (fun hk_16 hq_17 => ?_)
    refine lv_iload_n hx hb dX12_bind_54 rfl (lv_at hl 2 rfl) ?_
    refine lv_iload hx hb dX12_bind_55 (lv_at hl 0 rfl) ?_
    refine lv_if_eq (tgt := 64) hx hb dX12_bind_57 (by decide) (fun c => ?_) (fun c => ?_)
    · have hf := g_pos c hf
      refine lv_aload_n hx hb dX12_bind_64 rfl (lv_at hl 1 rfl) ?_
      refine q_getp (own := RX12) (ref := RX12) (C := RX12) (T := TX12) (N := 57) (kc := 9) (ci := 0) hx hb hts hin12 hown hK hW h_this (by decide) rfl 44 (by decide) hw1 rfl rfl rfl (v := 627) rfl dX12_bind_65 (fun hk_18 hq_19 => ?_)
      refine lv_iload_n hx hb dX12_bind_68 rfl (lv_at hl 2 rfl) ?_
      refine lv_iconst (v := 1) hx hb dX12_bind_69 (by decide) ?_
      refine lv_isub hx hb dX12_bind_70 ?_
      obtain ⟨hi_20, hf⟩ := g_in hf
      refine q_lald hx hb hK hW hk_18 (inb_of hq_19 hi_20) dX12_bind_71 ?_
      exact B72 x4 t0 (Mm.gl σ 627 (ix (a1 - 1))) a1 627 σ hk_16 hf _ _ _ hW hS (lv_sub hl [1, 2, 4, 0] rfl)
    · have hf := g_neg c hf
      refine lv_lload_n hx hb dX12_bind_60 rfl (lv_at hl 3 rfl) ?_
      refine lv_goto (tgt := 72) hx hb dX12_bind_61 (by decide) ?_
      exact B72 x4 t0 x2 a1 627 σ hk_16 hf _ _ _ hW hS (lv_sub hl [1, 2, 4, 0] rfl)
  refine lv_aload_n hx hb dX12_bind_0 rfl (lv_at hl 0 rfl) ?_
  refine lv_iload_n hx hb dX12_bind_1 rfl (lv_at hl 1 rfl) ?_
  obtain ⟨r_3, σ_2, hc_1, hf⟩ := g_bnd hf
  refine q_calll (va_runV (As := [.int a1]) (rest := []) ⟨hx, hb, hml, hown, hts⟩ (k_X12_early l z n D cy Y h_this hc_1) (cwV 1 hts gX12_bind_X12_early rfl rfl rfl (by decide +kernel) ⟨Nat.le_of_ble_eq_true rfl, Nat.le_of_ble_eq_true rfl⟩) (q_PV (T := TX12) (N := 57) hK hN hW h_this (by decide) rfl) rfl rfl hl.1 rfl (lv_room (Nat.le_of_ble_eq_true rfl)) dX12_bind_2 ⟨Nat.le_refl _, Nat.le_refl _⟩) hS (fun H locs hW hS => ?_)
  refine lv_lstore_n (lv' := [(2, .long r_3), (0, .ref (z + this)), (1, .int a1)]) hx hb dX12_bind_5 rfl hl (by decide) rfl (fun ls hl => ?_)
  refine lv_aload_n hx hb dX12_bind_6 rfl (lv_at hl 1 rfl) ?_
  refine lv_iload_n hx hb dX12_bind_7 rfl (lv_at hl 2 rfl) ?_
  obtain ⟨r_6, σ_5, hc_4, hf⟩ := g_bnd hf
  refine q_calll (va_runV (As := [.int a1]) (rest := []) ⟨hx, hb, hml, hown, hts⟩ (k_X12_late l z n D cy Y h_this hc_4) (cwV 1 hts gX12_bind_X12_late rfl rfl rfl (by decide +kernel) ⟨Nat.le_of_ble_eq_true rfl, Nat.le_of_ble_eq_true rfl⟩) (q_PV (T := TX12) (N := 57) hK hN hW h_this (by decide) rfl) rfl rfl hl.1 rfl (lv_room (Nat.le_of_ble_eq_true rfl)) dX12_bind_8 ⟨Nat.le_refl _, Nat.le_refl _⟩) hS (fun H locs hW hS => ?_)
  refine lv_lstore (lv' := [(4, .long r_6), (2, .long r_3), (0, .ref (z + this)), (1, .int a1)]) hx hb dX12_bind_11 hl (by decide) rfl (fun ls hl => ?_)
  refine lv_lload_n hx hb dX12_bind_13 rfl (lv_at hl 1 rfl) ?_
  refine lv_aload_n hx hb dX12_bind_14 rfl (lv_at hl 2 rfl) ?_
  refine q_getp (own := RX12) (ref := RX12) (C := RX12) (T := TX12) (N := 57) (kc := 9) (ci := 0) hx hb hts hin12 hown hK hW h_this (by decide) rfl 45 (by decide) hw0 rfl rfl rfl (v := 628) rfl dX12_bind_15 (fun hk_7 hq_8 => ?_)
  refine lv_iload_n hx hb dX12_bind_18 rfl (lv_at hl 3 rfl) ?_
  refine lv_iconst (v := 1) hx hb dX12_bind_19 (by decide) ?_
  refine lv_isub hx hb dX12_bind_20 ?_
  obtain ⟨hi_9, hf⟩ := g_in hf
  refine q_lald hx hb hK hW hk_7 (inb_of hq_8 hi_9) dX12_bind_21 ?_
  refine lv_lmul hx hb dX12_bind_22 ?_
  refine lv_aload_n hx hb dX12_bind_23 rfl (lv_at hl 2 rfl) ?_
  refine q_getp (own := RX12) (ref := RX12) (C := RX12) (T := TX12) (N := 57) (kc := 9) (ci := 0) hx hb hts hin12 hown hK hW h_this (by decide) rfl 44 (by decide) hw1 rfl rfl rfl (v := 627) rfl dX12_bind_24 (fun hk_10 hq_11 => ?_)
  refine lv_iload_n hx hb dX12_bind_27 rfl (lv_at hl 3 rfl) ?_
  refine lv_iconst (v := 1) hx hb dX12_bind_28 (by decide) ?_
  refine lv_isub hx hb dX12_bind_29 ?_
  obtain ⟨hi_12, hf⟩ := g_in hf
  refine q_lald hx hb hK hW hk_10 (inb_of hq_11 hi_12) dX12_bind_30 ?_
  refine lv_aload_n hx hb dX12_bind_31 rfl (lv_at hl 2 rfl) ?_
  refine q_getp (own := RX12) (ref := RX12) (C := RX12) (T := TX12) (N := 57) (kc := 9) (ci := 0) hx hb hts hin12 hown hK hW h_this (by decide) rfl 42 (by decide) hw2 rfl rfl rfl (v := 625) rfl dX12_bind_32 (fun hk_13 hq_14 => ?_)
  refine lv_iload_n hx hb dX12_bind_35 rfl (lv_at hl 3 rfl) ?_
  obtain ⟨hi_15, hf⟩ := g_in hf
  refine q_iald hx hb hK hW hk_13 (inb_of hq_14 hi_15) dX12_bind_36 ?_
  refine lv_i2l hx hb dX12_bind_37 rfl ?_
  refine lv_lmul hx hb dX12_bind_38 ?_
  refine W.lcmp hx hb dX12_bind_39 ?_
  refine lv_if_le (tgt := 47) hx hb dX12_bind_40 (by decide) (fun c => ?_) (fun c => ?_)
  · have hf := g_pos ((lg_cmp_le _ _).mp c) hf
    refine lv_iconst (v := 0) hx hb dX12_bind_47 (by decide) ?_
    exact B48 r_3 r_6 0 σ_5 hf _ _ _ hW hS (lv_sub hl [2, 3, 1, 0] rfl)
  · have hf := g_neg (fun h => c ((lg_cmp_le _ _).mpr h)) hf
    refine lv_iconst (v := 1) hx hb dX12_bind_43 (by decide) ?_
    refine lv_goto (tgt := 48) hx hb dX12_bind_44 (by decide) ?_
    exact B48 r_3 r_6 1 σ_5 hf _ _ _ hW hS (lv_sub hl [2, 3, 1, 0] rfl)
set_option maxRecDepth 100000 in
set_option maxHeartbeats 40000000 in
theorem k_X12_keep (l : Launch) (z n : Nat) (D : va_G) (cy : Nat → ClassId) (Y : Yt) {fu : Nat} {this : Nat} {σ : Mm} {σ1 : Mm} (h_this : okk Y n 9 this) (hf : f_X12_keep Y fu this σ = some σ1) : Kv l yX12_keep wsX12_keep ({ frames := 0, cells := 0, slots := 0, locals := 0 } : Room) z n D cy Y [.ref (z + this)] σ σ1 := by
  refine Met.ofW (cc := cX12_keep) (maxL := 2) (ret := none) (by decide +kernel) rfl ?_
  intro p e s m args below meth c s₁ B hml hv
  obtain ⟨rfl, hW, hK, hN⟩ := hv
  have hx := B.exec
  have hb := B.bytes
  have hr := B.returns
  have hts := atoms_spec (ws := wsX12_keep) B.pre
  have hown : s.vm.findClass RX12 = some m.cls := findClass_of_methodNamed B.named
  have hlocks := B.notSynchronized
  have hS : va_S (Az z) s.heap s.heap [] := va_S.rf
  have hin12 : ∀ w ∈ wsX120, w ∈ wsX12_keep := fun w h => List.mem_cons_of_mem _ (List.mem_append_right _ h)
  have hw0 := hts (.fieldLink RX12 279 "SkyClocksModel" "length0" "I") (List.mem_of_getElem? (i := 1) rfl)
  have hw1 := hts (.fieldLink RX12 92 "SkyClocksModel" "wayLowUp" "[J") (List.mem_of_getElem? (i := 5) rfl)
  have hw2 := hts (.fieldLink RX12 282 "SkyClocksModel" "ways" "I") (List.mem_of_getElem? (i := 3) rfl)
  have hw3 := hts (.fieldLink RX12 110 "SkyClocksModel" "lowUp" "[J") (List.mem_of_getElem? (i := 6) rfl)
  have hw4 := hts (.fieldLink RX12 95 "SkyClocksModel" "wayLowBelow" "[J") (List.mem_of_getElem? (i := 7) rfl)
  have hw5 := hts (.fieldLink RX12 113 "SkyClocksModel" "lowBelow" "[J") (List.mem_of_getElem? (i := 8) rfl)
  have hw6 := hts (.fieldLink RX12 98 "SkyClocksModel" "wayHighUp" "[J") (List.mem_of_getElem? (i := 9) rfl)
  have hw7 := hts (.fieldLink RX12 116 "SkyClocksModel" "highUp" "[J") (List.mem_of_getElem? (i := 10) rfl)
  have hw8 := hts (.fieldLink RX12 101 "SkyClocksModel" "wayHighBelow" "[J") (List.mem_of_getElem? (i := 11) rfl)
  have hw9 := hts (.fieldLink RX12 119 "SkyClocksModel" "highBelow" "[J") (List.mem_of_getElem? (i := 12) rfl)
  have hw10 := hts (.fieldLink RX12 89 "SkyClocksModel" "wayCounts" "[I") (List.mem_of_getElem? (i := 2) rfl)
  have hw11 := hts (.fieldLink RX12 104 "SkyClocksModel" "now" "[I") (List.mem_of_getElem? (i := 4) rfl)
  have hl := lv_entry ([.ref (z + this)]) (n := 2) (Nat.le_of_ble_eq_true rfl)
  rw [lg_entry_eq]
  generalize (lg_sl ([.ref (z + this)]) ++ List.replicate (2 - (lg_sl ([.ref (z + this)])).length) Slot.unset).toArray = ls at hl ⊢
  have hl : lv_has ls 2 [(0, .ref (z + this))] := hl
  have B2 : ∀ (nn : Nat) (x1 : Int32) (σ : Mm), b_X12_keep_2 Y fu this nn x1 σ = some σ1 → ∀ (H : Heap) (locs : List Loc) (ls : Array Slot), WH z n D cy Y σ H → va_S (Az z) s.heap H locs → lv_has ls 2 [(0, .ref (z + this)), (1, .int x1)] → W p l e ({ frames := 0, cells := 0, slots := 0, locals := 0 } : Room) s m ([.ref (z + this)] : List Value).toArray below meth c H locs 0 0 (MQ below (va_Qv (fun (_ : Unit) => True) (fun _ t => WH z n D cy Y σ1 t.heap) (Az z)) ([.ref (z + this)] : List Value).toArray s 0 0 (Az z)) (F0 m 2 ls []) := by
    intro nn
    induction nn with
    | zero =>
      intro x1 σ  hf
      have h9 : (none : Option (Mm)) = some σ1 := hf
      cases h9
    | succ nn H2 =>
      intro x1 σ  hf H locs ls hW hS hl
      have hf : s_X12_keep_2 Y fu this (b_X12_keep_2 Y fu this nn) x1 σ = some σ1 := hf
      generalize hkk : b_X12_keep_2 Y fu this nn = k2 at hf H2
      refine lv_iload_n hx hb dX12_keep_2 rfl (lv_at hl 1 rfl) ?_
      refine lv_aload_n hx hb dX12_keep_3 rfl (lv_at hl 0 rfl) ?_
      refine q_geti (own := RX12) (ref := RX12) (C := RX12) (T := TX12) (N := 57) (kc := 9) (ci := 0) hx hb hts hin12 hown hK hW h_this (by decide) rfl 34 (by decide) hw0 rfl rfl dX12_keep_4 ?_
      refine lv_icmp_ge (tgt := 36) hx hb dX12_keep_7 (by decide) (fun c => ?_) (fun c => ?_)
      · have hf := g_pos c hf
        refine lv_aload_n hx hb dX12_keep_36 rfl (lv_at hl 0 rfl) ?_
        refine q_geti (own := RX12) (ref := RX12) (C := RX12) (T := TX12) (N := 57) (kc := 9) (ci := 0) hx hb hts hin12 hown hK hW h_this (by decide) rfl 34 (by decide) hw0 rfl rfl dX12_keep_37 ?_
        refine lv_iconst (v := 1) hx hb dX12_keep_40 (by decide) ?_
        refine lv_isub hx hb dX12_keep_41 ?_
        refine lv_topi (fun x1_1 ex1_1 => ?_)
        have hf := g_lt ex1_1 hf
        refine lv_istore_n (lv' := [(1, .int x1_1), (0, .ref (z + this))]) hx hb dX12_keep_42 rfl hl (by decide) rfl (fun ls hl => ?_)
        refine lv_aload_n hx hb dX12_keep_43 rfl (lv_at hl 1 rfl) ?_
        refine q_getp (own := RX12) (ref := RX12) (C := RX12) (T := TX12) (N := 57) (kc := 9) (ci := 0) hx hb hts hin12 hown hK hW h_this (by decide) rfl 38 (by decide) hw1 rfl rfl rfl (v := 621) rfl dX12_keep_44 (fun hk_2 hq_3 => ?_)
        refine lv_aload_n hx hb dX12_keep_47 rfl (lv_at hl 1 rfl) ?_
        refine q_geti (own := RX12) (ref := RX12) (C := RX12) (T := TX12) (N := 57) (kc := 9) (ci := 0) hx hb hts hin12 hown hK hW h_this (by decide) rfl 33 (by decide) hw2 rfl rfl dX12_keep_48 ?_
        refine lv_aload_n hx hb dX12_keep_51 rfl (lv_at hl 1 rfl) ?_
        refine q_getp (own := RX12) (ref := RX12) (C := RX12) (T := TX12) (N := 57) (kc := 9) (ci := 0) hx hb hts hin12 hown hK hW h_this (by decide) rfl 44 (by decide) hw3 rfl rfl rfl (v := 627) rfl dX12_keep_52 (fun hk_4 hq_5 => ?_)
        refine lv_iload_n hx hb dX12_keep_55 rfl (lv_at hl 0 rfl) ?_
        obtain ⟨hi_6, hf⟩ := g_in hf
        refine q_lald hx hb hK hW hk_4 (inb_of hq_5 hi_6) dX12_keep_56 ?_
        obtain ⟨hi_7, hf⟩ := g_in hf
        refine q_last hx hb hK hW hS hk_2 (inb_of hq_3 hi_7) dX12_keep_57 (fun H locs hW hS => ?_)
        obtain ⟨σ_8, eσ_8⟩ : ∃ y : Mm, y = (Mm.sl σ 621 (ix (Mm.gi σ this 33)) (Mm.gl σ 627 (ix x1_1))) := ⟨_, rfl⟩
        rw [← eσ_8] at hW
        have hf := g_lt eσ_8 hf
        refine lv_aload_n hx hb dX12_keep_58 rfl (lv_at hl 1 rfl) ?_
        refine q_getp (own := RX12) (ref := RX12) (C := RX12) (T := TX12) (N := 57) (kc := 9) (ci := 0) hx hb hts hin12 hown hK hW h_this (by decide) rfl 39 (by decide) hw4 rfl rfl rfl (v := 622) rfl dX12_keep_59 (fun hk_9 hq_10 => ?_)
        refine lv_aload_n hx hb dX12_keep_62 rfl (lv_at hl 1 rfl) ?_
        refine q_geti (own := RX12) (ref := RX12) (C := RX12) (T := TX12) (N := 57) (kc := 9) (ci := 0) hx hb hts hin12 hown hK hW h_this (by decide) rfl 33 (by decide) hw2 rfl rfl dX12_keep_63 ?_
        refine lv_aload_n hx hb dX12_keep_66 rfl (lv_at hl 1 rfl) ?_
        refine q_getp (own := RX12) (ref := RX12) (C := RX12) (T := TX12) (N := 57) (kc := 9) (ci := 0) hx hb hts hin12 hown hK hW h_this (by decide) rfl 45 (by decide) hw5 rfl rfl rfl (v := 628) rfl dX12_keep_67 (fun hk_11 hq_12 => ?_)
        refine lv_iload_n hx hb dX12_keep_70 rfl (lv_at hl 0 rfl) ?_
        obtain ⟨hi_13, hf⟩ := g_in hf
        refine q_lald hx hb hK hW hk_11 (inb_of hq_12 hi_13) dX12_keep_71 ?_
        obtain ⟨hi_14, hf⟩ := g_in hf
        refine q_last hx hb hK hW hS hk_9 (inb_of hq_10 hi_14) dX12_keep_72 (fun H locs hW hS => ?_)
        obtain ⟨σ_15, eσ_15⟩ : ∃ y : Mm, y = (Mm.sl σ_8 622 (ix (Mm.gi σ_8 this 33)) (Mm.gl σ_8 628 (ix x1_1))) := ⟨_, rfl⟩
        rw [← eσ_15] at hW
        have hf := g_lt eσ_15 hf
        refine lv_aload_n hx hb dX12_keep_73 rfl (lv_at hl 1 rfl) ?_
        refine q_getp (own := RX12) (ref := RX12) (C := RX12) (T := TX12) (N := 57) (kc := 9) (ci := 0) hx hb hts hin12 hown hK hW h_this (by decide) rfl 40 (by decide) hw6 rfl rfl rfl (v := 623) rfl dX12_keep_74 (fun hk_16 hq_17 => ?_)
        refine lv_aload_n hx hb dX12_keep_77 rfl (lv_at hl 1 rfl) ?_
        refine q_geti (own := RX12) (ref := RX12) (C := RX12) (T := TX12) (N := 57) (kc := 9) (ci := 0) hx hb hts hin12 hown hK hW h_this (by decide) rfl 33 (by decide) hw2 rfl rfl dX12_keep_78 ?_
        refine lv_aload_n hx hb dX12_keep_81 rfl (lv_at hl 1 rfl) ?_
        refine q_getp (own := RX12) (ref := RX12) (C := RX12) (T := TX12) (N := 57) (kc := 9) (ci := 0) hx hb hts hin12 hown hK hW h_this (by decide) rfl 46 (by decide) hw7 rfl rfl rfl (v := 629) rfl dX12_keep_82 (fun hk_18 hq_19 => ?_)
        refine lv_iload_n hx hb dX12_keep_85 rfl (lv_at hl 0 rfl) ?_
        obtain ⟨hi_20, hf⟩ := g_in hf
        refine q_lald hx hb hK hW hk_18 (inb_of hq_19 hi_20) dX12_keep_86 ?_
        obtain ⟨hi_21, hf⟩ := g_in hf
        refine q_last hx hb hK hW hS hk_16 (inb_of hq_17 hi_21) dX12_keep_87 (fun H locs hW hS => ?_)
        obtain ⟨σ_22, eσ_22⟩ : ∃ y : Mm, y = (Mm.sl σ_15 623 (ix (Mm.gi σ_15 this 33)) (Mm.gl σ_15 629 (ix x1_1))) := ⟨_, rfl⟩
        rw [← eσ_22] at hW
        have hf := g_lt eσ_22 hf
        refine lv_aload_n hx hb dX12_keep_88 rfl (lv_at hl 1 rfl) ?_
        refine q_getp (own := RX12) (ref := RX12) (C := RX12) (T := TX12) (N := 57) (kc := 9) (ci := 0) hx hb hts hin12 hown hK hW h_this (by decide) rfl 41 (by decide) hw8 rfl rfl rfl (v := 624) rfl dX12_keep_89 (fun hk_23 hq_24 => ?_)
        refine lv_aload_n hx hb dX12_keep_92 rfl (lv_at hl 1 rfl) ?_
        refine q_geti (own := RX12) (ref := RX12) (C := RX12) (T := TX12) (N := 57) (kc := 9) (ci := 0) hx hb hts hin12 hown hK hW h_this (by decide) rfl 33 (by decide) hw2 rfl rfl dX12_keep_93 ?_
        refine lv_aload_n hx hb dX12_keep_96 rfl (lv_at hl 1 rfl) ?_
        refine q_getp (own := RX12) (ref := RX12) (C := RX12) (T := TX12) (N := 57) (kc := 9) (ci := 0) hx hb hts hin12 hown hK hW h_this (by decide) rfl 47 (by decide) hw9 rfl rfl rfl (v := 630) rfl dX12_keep_97 (fun hk_25 hq_26 => ?_)
        refine lv_iload_n hx hb dX12_keep_100 rfl (lv_at hl 0 rfl) ?_
        obtain ⟨hi_27, hf⟩ := g_in hf
        refine q_lald hx hb hK hW hk_25 (inb_of hq_26 hi_27) dX12_keep_101 ?_
        obtain ⟨hi_28, hf⟩ := g_in hf
        refine q_last hx hb hK hW hS hk_23 (inb_of hq_24 hi_28) dX12_keep_102 (fun H locs hW hS => ?_)
        obtain ⟨σ_29, eσ_29⟩ : ∃ y : Mm, y = (Mm.sl σ_22 624 (ix (Mm.gi σ_22 this 33)) (Mm.gl σ_22 630 (ix x1_1))) := ⟨_, rfl⟩
        rw [← eσ_29] at hW
        have hf := g_lt eσ_29 hf
        refine lv_aload_n hx hb dX12_keep_103 rfl (lv_at hl 1 rfl) ?_
        refine lv_dup hx hb dX12_keep_104 rfl ?_
        refine q_geti (own := RX12) (ref := RX12) (C := RX12) (T := TX12) (N := 57) (kc := 9) (ci := 0) hx hb hts hin12 hown hK hW h_this (by decide) rfl 33 (by decide) hw2 rfl rfl dX12_keep_105 ?_
        refine lv_iconst (v := 1) hx hb dX12_keep_108 (by decide) ?_
        refine lv_iadd hx hb dX12_keep_109 ?_
        refine q_puti (own := RX12) (ref := RX12) (C := RX12) (T := TX12) (N := 57) (kc := 9) (ci := 0) hx hb hts hin12 tyX12_ok nmX12 hown hK hW hS h_this (by decide) rfl 33 (by decide) hw2 rfl rfl (ty := .int) (tyX12_ok 33 (by decide)) rfl rfl rfl dX12_keep_110 (fun H locs hW hS => ?_)
        obtain ⟨σ_30, eσ_30⟩ : ∃ y : Mm, y = (Mm.si σ_29 this 33 ((Mm.gi σ_29 this 33) + 1)) := ⟨_, rfl⟩
        rw [← eσ_30] at hW
        have hf := g_lt eσ_30 hf
        exact q_vret hx hb hr hlocks hW hS hf dX12_keep_113
      · have hf := g_neg c hf
        refine lv_aload_n hx hb dX12_keep_10 rfl (lv_at hl 0 rfl) ?_
        refine q_getp (own := RX12) (ref := RX12) (C := RX12) (T := TX12) (N := 57) (kc := 9) (ci := 0) hx hb hts hin12 hown hK hW h_this (by decide) rfl 37 (by decide) hw10 rfl rfl rfl (v := 620) rfl dX12_keep_11 (fun hk_31 hq_32 => ?_)
        refine lv_bipush (v := 24) hx hb dX12_keep_14 (by decide) ?_
        refine lv_aload_n hx hb dX12_keep_16 rfl (lv_at hl 0 rfl) ?_
        refine q_geti (own := RX12) (ref := RX12) (C := RX12) (T := TX12) (N := 57) (kc := 9) (ci := 0) hx hb hts hin12 hown hK hW h_this (by decide) rfl 33 (by decide) hw2 rfl rfl dX12_keep_17 ?_
        refine lv_imul hx hb dX12_keep_20 ?_
        refine lv_iload_n hx hb dX12_keep_21 rfl (lv_at hl 1 rfl) ?_
        refine lv_iadd hx hb dX12_keep_22 ?_
        refine lv_aload_n hx hb dX12_keep_23 rfl (lv_at hl 0 rfl) ?_
        refine q_getp (own := RX12) (ref := RX12) (C := RX12) (T := TX12) (N := 57) (kc := 9) (ci := 0) hx hb hts hin12 hown hK hW h_this (by decide) rfl 42 (by decide) hw11 rfl rfl rfl (v := 625) rfl dX12_keep_24 (fun hk_33 hq_34 => ?_)
        refine lv_iload_n hx hb dX12_keep_27 rfl (lv_at hl 1 rfl) ?_
        obtain ⟨hi_35, hf⟩ := g_in hf
        refine q_iald hx hb hK hW hk_33 (inb_of hq_34 hi_35) dX12_keep_28 ?_
        obtain ⟨hi_36, hf⟩ := g_in hf
        refine q_iast hx hb hK hW hS hk_31 (inb_of hq_32 hi_36) dX12_keep_29 (fun H locs hW hS => ?_)
        obtain ⟨σ_37, eσ_37⟩ : ∃ y : Mm, y = (Mm.si σ 620 (ix ((24 * (Mm.gi σ this 33)) + x1)) (Mm.gi σ 625 (ix x1))) := ⟨_, rfl⟩
        rw [← eσ_37] at hW
        have hf := g_lt eσ_37 hf
        obtain ⟨x1_38, ex1_38⟩ : ∃ y : Int32, y = x1 + 1 := ⟨_, rfl⟩
        have hf := g_lt ex1_38 hf
        refine lv_iinc (v := x1_38) (lv' := [(1, .int x1_38), (0, .ref (z + this))]) hx hb dX12_keep_30 hl (k := 1) rfl (by rw [ex1_38]; rfl) (by decide) rfl (fun ls hl => ?_)
        refine lv_goto (tgt := 2) hx hb dX12_keep_33 (by decide) ?_
        exact H2 x1_38 σ_37 hf _ _ _ hW hS (lv_sub hl [1, 0] rfl)
  refine lv_iconst (v := 0) hx hb dX12_keep_0 (by decide) ?_
  refine lv_istore_n (lv' := [(1, .int 0), (0, .ref (z + this))]) hx hb dX12_keep_1 rfl hl (by decide) rfl (fun ls hl => ?_)
  exact B2 fu 0 σ hf _ _ _ hW hS (lv_sub hl [1, 0] rfl)
set_option maxRecDepth 100000 in
set_option maxHeartbeats 40000000 in
theorem k_X12_open (l : Launch) (z n : Nat) (D : va_G) (cy : Nat → ClassId) (Y : Yt) {this : Nat} {a1 : Int32} {σ : Mm} {σ1 : Mm} (h_this : okk Y n 9 this) (hf : f_X12_open Y this a1 σ = some σ1) : Kv l yX12_open wsX12_open ({ frames := 1, cells := 0, slots := 0, locals := 23 } : Room) z n D cy Y [.ref (z + this), .int a1] σ σ1 := by
  refine Met.ofW (cc := cX12_open) (maxL := 4) (ret := none) (by decide +kernel) rfl ?_
  intro p e s m args below meth c s₁ B hml hv
  obtain ⟨rfl, hW, hK, hN⟩ := hv
  have hx := B.exec
  have hb := B.bytes
  have hr := B.returns
  have hts := atoms_spec (ws := wsX12_open) B.pre
  have hown : s.vm.findClass RX12 = some m.cls := findClass_of_methodNamed B.named
  have hlocks := B.notSynchronized
  have hS : va_S (Az z) s.heap s.heap [] := va_S.rf
  have hin12 : ∀ w ∈ wsX120, w ∈ wsX12_open := fun w h => List.mem_cons_of_mem _ (List.mem_append_right _ h)
  have hw0 := hts (.fieldLink RX12 119 "SkyClocksModel" "highBelow" "[J") (List.mem_of_getElem? (i := 1) rfl)
  have hw1 := hts (.fieldLink RX12 116 "SkyClocksModel" "highUp" "[J") (List.mem_of_getElem? (i := 2) rfl)
  have hw2 := hts (.fieldLink RX12 104 "SkyClocksModel" "now" "[I") (List.mem_of_getElem? (i := 3) rfl)
  have hw3 := hts (.fieldLink RX12 107 "SkyClocksModel" "last" "[J") (List.mem_of_getElem? (i := 4) rfl)
  have hw4 := hts (.fieldLink RX12 113 "SkyClocksModel" "lowBelow" "[J") (List.mem_of_getElem? (i := 5) rfl)
  have hw5 := hts (.fieldLink RX12 110 "SkyClocksModel" "lowUp" "[J") (List.mem_of_getElem? (i := 6) rfl)
  have hl := lv_entry ([.ref (z + this), .int a1]) (n := 4) (Nat.le_of_ble_eq_true rfl)
  rw [lg_entry_eq]
  generalize (lg_sl ([.ref (z + this), .int a1]) ++ List.replicate (4 - (lg_sl ([.ref (z + this), .int a1])).length) Slot.unset).toArray = ls at hl ⊢
  have hl : lv_has ls 4 [(0, .ref (z + this)), (1, .int a1)] := hl
  have B62 : ∀ (t0 : Int64) (t1 : Int32) (t2 : Nat) (σ : Mm), okk Y n 10 t2 → b_X12_open_62 Y this a1 t0 t1 t2 σ = some σ1 → ∀ (H : Heap) (locs : List Loc) (ls : Array Slot), WH z n D cy Y σ H → va_S (Az z) s.heap H locs → lv_has ls 4 [(0, .ref (z + this)), (1, .int a1)] → W p l e ({ frames := 1, cells := 0, slots := 0, locals := 23 } : Room) s m ([.ref (z + this), .int a1] : List Value).toArray below meth c H locs 0 0 (MQ below (va_Qv (fun (_ : Unit) => True) (fun _ t => WH z n D cy Y σ1 t.heap) (Az z)) ([.ref (z + this), .int a1] : List Value).toArray s 0 0 (Az z)) (F0 m 62 ls [.long t0, .int t1, .ref (z + t2)]) := by
    intro  t0 t1 t2 σ h_t2 hf H locs ls hW hS hl
    refine lv_l2i hx hb dX12_open_62 rfl ?_
    refine lv_iconst (v := 1) hx hb dX12_open_63 (by decide) ?_
    refine lv_isub hx hb dX12_open_64 ?_
    obtain ⟨hi_21, hf⟩ := g_in hf
    refine q_iast hx hb hK hW hS h_t2 hi_21 dX12_open_65 (fun H locs hW hS => ?_)
    obtain ⟨σ_22, eσ_22⟩ : ∃ y : Mm, y = (Mm.si σ t2 (ix t1) ((Int64.toInt32 t0) - 1)) := ⟨_, rfl⟩
    rw [← eσ_22] at hW
    have hf := g_lt eσ_22 hf
    refine lv_aload_n hx hb dX12_open_66 rfl (lv_at hl 0 rfl) ?_
    refine q_getp (own := RX12) (ref := RX12) (C := RX12) (T := TX12) (N := 57) (kc := 9) (ci := 0) hx hb hts hin12 hown hK hW h_this (by decide) rfl 43 (by decide) hw3 rfl rfl rfl (v := 626) rfl dX12_open_67 (fun hk_23 hq_24 => ?_)
    refine lv_iload_n hx hb dX12_open_70 rfl (lv_at hl 1 rfl) ?_
    refine lv_aload_n hx hb dX12_open_71 rfl (lv_at hl 0 rfl) ?_
    refine lv_iload_n hx hb dX12_open_72 rfl (lv_at hl 1 rfl) ?_
    obtain ⟨r_27, σ_26, hc_25, hf⟩ := g_bnd hf
    refine q_calll (va_runV (As := [.int a1]) (rest := [.int a1, .ref (z + 626)]) ⟨hx, hb, hml, hown, hts⟩ (k_X12_late l z n D cy Y h_this hc_25) (cwV 1 hts gX12_open_X12_late rfl rfl rfl (by decide +kernel) ⟨Nat.le_of_ble_eq_true rfl, Nat.le_of_ble_eq_true rfl⟩) (q_PV (T := TX12) (N := 57) hK hN hW h_this (by decide) rfl) rfl rfl hl.1 rfl (lv_room (Nat.le_of_ble_eq_true rfl)) dX12_open_73 ⟨Nat.le_refl _, Nat.le_refl _⟩) hS (fun H locs hW hS => ?_)
    refine lv_aload_n hx hb dX12_open_76 rfl (lv_at hl 0 rfl) ?_
    refine q_getp (own := RX12) (ref := RX12) (C := RX12) (T := TX12) (N := 57) (kc := 9) (ci := 0) hx hb hts hin12 hown hK hW h_this (by decide) rfl 45 (by decide) hw4 rfl rfl rfl (v := 628) rfl dX12_open_77 (fun hk_28 hq_29 => ?_)
    refine lv_iload_n hx hb dX12_open_80 rfl (lv_at hl 1 rfl) ?_
    refine lv_iconst (v := 1) hx hb dX12_open_81 (by decide) ?_
    refine lv_isub hx hb dX12_open_82 ?_
    obtain ⟨hi_30, hf⟩ := g_in hf
    refine q_lald hx hb hK hW hk_28 (inb_of hq_29 hi_30) dX12_open_83 ?_
    refine lv_lmul hx hb dX12_open_84 ?_
    refine lv_aload_n hx hb dX12_open_85 rfl (lv_at hl 0 rfl) ?_
    refine q_getp (own := RX12) (ref := RX12) (C := RX12) (T := TX12) (N := 57) (kc := 9) (ci := 0) hx hb hts hin12 hown hK hW h_this (by decide) rfl 44 (by decide) hw5 rfl rfl rfl (v := 627) rfl dX12_open_86 (fun hk_31 hq_32 => ?_)
    refine lv_iload_n hx hb dX12_open_89 rfl (lv_at hl 1 rfl) ?_
    refine lv_iconst (v := 1) hx hb dX12_open_90 (by decide) ?_
    refine lv_isub hx hb dX12_open_91 ?_
    obtain ⟨hi_33, hf⟩ := g_in hf
    refine q_lald hx hb hK hW hk_31 (inb_of hq_32 hi_33) dX12_open_92 ?_
    obtain ⟨r_36, σ_35, hc_34, hf⟩ := g_bnd hf
    refine q_calll (va_runS (As := [.long (r_27 * (Mm.gl σ_26 628 (ix (a1 - 1)))), .long (Mm.gl σ_26 627 (ix (a1 - 1)))]) (rest := [.int a1, .ref (z + 626)]) ⟨hx, hb, hml, hown, hts⟩ (k_X12_down l z n D cy Y hc_34) (va_cwS 2 hts gX12_open_X12_down rfl rfl rfl (by decide +kernel) ⟨Nat.le_of_ble_eq_true rfl, Nat.le_of_ble_eq_true rfl⟩) (q_PS hK hN hW) rfl rfl hl.1 rfl (lv_room (Nat.le_of_ble_eq_true rfl)) dX12_open_93 ⟨Nat.le_refl _, Nat.le_refl _⟩) hS (fun H locs hW hS => ?_)
    obtain ⟨hi_37, hf⟩ := g_in hf
    refine q_last hx hb hK hW hS hk_23 (inb_of hq_24 hi_37) dX12_open_96 (fun H locs hW hS => ?_)
    obtain ⟨σ_38, eσ_38⟩ : ∃ y : Mm, y = (Mm.sl σ_35 626 (ix a1) r_36) := ⟨_, rfl⟩
    rw [← eσ_38] at hW
    have hf := g_lt eσ_38 hf
    exact q_vret hx hb hr hlocks hW hS hf dX12_open_97
  refine lv_aload_n hx hb dX12_open_0 rfl (lv_at hl 0 rfl) ?_
  refine lv_iload_n hx hb dX12_open_1 rfl (lv_at hl 1 rfl) ?_
  obtain ⟨r_3, σ_2, hc_1, hf⟩ := g_bnd hf
  refine q_calll (va_runV (As := [.int a1]) (rest := []) ⟨hx, hb, hml, hown, hts⟩ (k_X12_early l z n D cy Y h_this hc_1) (cwV 1 hts gX12_open_X12_early rfl rfl rfl (by decide +kernel) ⟨Nat.le_of_ble_eq_true rfl, Nat.le_of_ble_eq_true rfl⟩) (q_PV (T := TX12) (N := 57) hK hN hW h_this (by decide) rfl) rfl rfl hl.1 rfl (lv_room (Nat.le_of_ble_eq_true rfl)) dX12_open_2 ⟨Nat.le_refl _, Nat.le_refl _⟩) hS (fun H locs hW hS => ?_)
  refine lv_aload_n hx hb dX12_open_5 rfl (lv_at hl 0 rfl) ?_
  refine q_getp (own := RX12) (ref := RX12) (C := RX12) (T := TX12) (N := 57) (kc := 9) (ci := 0) hx hb hts hin12 hown hK hW h_this (by decide) rfl 47 (by decide) hw0 rfl rfl rfl (v := 630) rfl dX12_open_6 (fun hk_4 hq_5 => ?_)
  refine lv_iload_n hx hb dX12_open_9 rfl (lv_at hl 1 rfl) ?_
  refine lv_iconst (v := 1) hx hb dX12_open_10 (by decide) ?_
  refine lv_isub hx hb dX12_open_11 ?_
  obtain ⟨hi_6, hf⟩ := g_in hf
  refine q_lald hx hb hK hW hk_4 (inb_of hq_5 hi_6) dX12_open_12 ?_
  refine lv_lmul hx hb dX12_open_13 ?_
  refine lv_aload_n hx hb dX12_open_14 rfl (lv_at hl 0 rfl) ?_
  refine q_getp (own := RX12) (ref := RX12) (C := RX12) (T := TX12) (N := 57) (kc := 9) (ci := 0) hx hb hts hin12 hown hK hW h_this (by decide) rfl 46 (by decide) hw1 rfl rfl rfl (v := 629) rfl dX12_open_15 (fun hk_7 hq_8 => ?_)
  refine lv_iload_n hx hb dX12_open_18 rfl (lv_at hl 1 rfl) ?_
  refine lv_iconst (v := 1) hx hb dX12_open_19 (by decide) ?_
  refine lv_isub hx hb dX12_open_20 ?_
  obtain ⟨hi_9, hf⟩ := g_in hf
  refine q_lald hx hb hK hW hk_7 (inb_of hq_8 hi_9) dX12_open_21 ?_
  obtain ⟨r_12, σ_11, hc_10, hf⟩ := g_bnd hf
  refine q_calll (va_runS (As := [.long (r_3 * (Mm.gl σ_2 630 (ix (a1 - 1)))), .long (Mm.gl σ_2 629 (ix (a1 - 1)))]) (rest := []) ⟨hx, hb, hml, hown, hts⟩ (k_X12_up l z n D cy Y hc_10) (va_cwS 2 hts gX12_open_X12_up rfl rfl rfl (by decide +kernel) ⟨Nat.le_of_ble_eq_true rfl, Nat.le_of_ble_eq_true rfl⟩) (q_PS hK hN hW) rfl rfl hl.1 rfl (lv_room (Nat.le_of_ble_eq_true rfl)) dX12_open_22 ⟨Nat.le_refl _, Nat.le_refl _⟩) hS (fun H locs hW hS => ?_)
  refine lv_lstore_n (lv' := [(2, .long r_12), (0, .ref (z + this)), (1, .int a1)]) hx hb dX12_open_25 rfl hl (by decide) rfl (fun ls hl => ?_)
  refine lv_aload_n hx hb dX12_open_26 rfl (lv_at hl 1 rfl) ?_
  refine q_getp (own := RX12) (ref := RX12) (C := RX12) (T := TX12) (N := 57) (kc := 9) (ci := 0) hx hb hts hin12 hown hK hW h_this (by decide) rfl 42 (by decide) hw2 rfl rfl rfl (v := 625) rfl dX12_open_27 (fun hk_13 hq_14 => ?_)
  refine lv_iload_n hx hb dX12_open_30 rfl (lv_at hl 2 rfl) ?_
  refine lv_lload_n hx hb dX12_open_31 rfl (lv_at hl 0 rfl) ?_
  refine lv_aload_n hx hb dX12_open_32 rfl (lv_at hl 1 rfl) ?_
  refine q_getp (own := RX12) (ref := RX12) (C := RX12) (T := TX12) (N := 57) (kc := 9) (ci := 0) hx hb hts hin12 hown hK hW h_this (by decide) rfl 42 (by decide) hw2 rfl rfl rfl (v := 625) rfl dX12_open_33 (fun hk_15 hq_16 => ?_)
  refine lv_iload_n hx hb dX12_open_36 rfl (lv_at hl 2 rfl) ?_
  refine lv_iconst (v := 1) hx hb dX12_open_37 (by decide) ?_
  refine lv_isub hx hb dX12_open_38 ?_
  obtain ⟨hi_17, hf⟩ := g_in hf
  refine q_iald hx hb hK hW hk_15 (inb_of hq_16 hi_17) dX12_open_39 ?_
  refine lv_iconst (v := 1) hx hb dX12_open_40 (by decide) ?_
  refine lv_iadd hx hb dX12_open_41 ?_
  refine lv_i2l hx hb dX12_open_42 rfl ?_
  refine W.lcmp hx hb dX12_open_43 ?_
  refine lv_if_le (tgt := 51) hx hb dX12_open_44 (by decide) (fun c => ?_) (fun c => ?_)
  · have hf := g_pos ((lg_cmp_le _ _).mp c) hf
    refine lv_aload_n hx hb dX12_open_51 rfl (lv_at hl 1 rfl) ?_
    refine q_getp (own := RX12) (ref := RX12) (C := RX12) (T := TX12) (N := 57) (kc := 9) (ci := 0) hx hb hts hin12 hown hK hW h_this (by decide) rfl 42 (by decide) hw2 rfl rfl rfl (v := 625) rfl dX12_open_52 (fun hk_18 hq_19 => ?_)
    refine lv_iload_n hx hb dX12_open_55 rfl (lv_at hl 2 rfl) ?_
    refine lv_iconst (v := 1) hx hb dX12_open_56 (by decide) ?_
    refine lv_isub hx hb dX12_open_57 ?_
    obtain ⟨hi_20, hf⟩ := g_in hf
    refine q_iald hx hb hK hW hk_18 (inb_of hq_19 hi_20) dX12_open_58 ?_
    refine lv_iconst (v := 1) hx hb dX12_open_59 (by decide) ?_
    refine lv_iadd hx hb dX12_open_60 ?_
    refine lv_i2l hx hb dX12_open_61 rfl ?_
    exact B62 (Int32.toInt64 ((Mm.gi σ_11 625 (ix (a1 - 1))) + 1)) a1 625 σ_11 hk_13 hf _ _ _ hW hS (lv_sub hl [1, 2] rfl)
  · have hf := g_neg (fun h => c ((lg_cmp_le _ _).mpr h)) hf
    refine lv_lload_n hx hb dX12_open_47 rfl (lv_at hl 0 rfl) ?_
    refine lv_goto (tgt := 62) hx hb dX12_open_48 (by decide) ?_
    exact B62 r_12 a1 625 σ_11 hk_13 hf _ _ _ hW hS (lv_sub hl [1, 2] rfl)
set_option maxRecDepth 100000 in
set_option maxHeartbeats 40000000 in
theorem k_X12_goThrough (l : Launch) (z n : Nat) (D : va_G) (cy : Nat → ClassId) (Y : Yt) {fu : Nat} {this : Nat} {σ : Mm} {r : Int32} {σ1 : Mm} (h_this : okk Y n 9 this) (hf : f_X12_goThrough Y fu this σ = some (r, σ1)) : Ki l yX12_goThrough wsX12_goThrough ({ frames := 2, cells := 0, slots := 0, locals := 48 } : Room) z n D cy Y [.ref (z + this)] σ r σ1 := by
  refine Met.ofW (cc := cX12_goThrough) (maxL := 3) (ret := (some .boolean)) (by decide +kernel) rfl ?_
  intro p e s m args below meth c s₁ B hml hv
  obtain ⟨rfl, hW, hK, hN⟩ := hv
  have hx := B.exec
  have hb := B.bytes
  have hr := B.returns
  have hts := atoms_spec (ws := wsX12_goThrough) B.pre
  have hown : s.vm.findClass RX12 = some m.cls := findClass_of_methodNamed B.named
  have hlocks := B.notSynchronized
  have hS : va_S (Az z) s.heap s.heap [] := va_S.rf
  have hin12 : ∀ w ∈ wsX120, w ∈ wsX12_goThrough := fun w h => List.mem_cons_of_mem _ (List.mem_append_right _ h)
  have hw0 := hts (.fieldLink RX12 104 "SkyClocksModel" "now" "[I") (List.mem_of_getElem? (i := 1) rfl)
  have hw1 := hts (.fieldLink RX12 107 "SkyClocksModel" "last" "[J") (List.mem_of_getElem? (i := 2) rfl)
  have hw2 := hts (.fieldLink RX12 279 "SkyClocksModel" "length0" "I") (List.mem_of_getElem? (i := 3) rfl)
  have hw3 := hts (.fieldLink RX12 282 "SkyClocksModel" "ways" "I") (List.mem_of_getElem? (i := 4) rfl)
  have hl := lv_entry ([.ref (z + this)]) (n := 3) (Nat.le_of_ble_eq_true rfl)
  rw [lg_entry_eq]
  generalize (lg_sl ([.ref (z + this)]) ++ List.replicate (3 - (lg_sl ([.ref (z + this)])).length) Slot.unset).toArray = ls at hl ⊢
  have hl : lv_has ls 3 [(0, .ref (z + this))] := hl
  have B83 : ∀ (k9 : Int32 → Int32 → Mm → Option (Int32 × Mm)) (H9 : ∀ (x1 : Int32) (x2 : Int32) (σ : Mm), k9 x1 x2 σ = some (r, σ1) → ∀ (H : Heap) (locs : List Loc) (ls : Array Slot), WH z n D cy Y σ H → va_S (Az z) s.heap H locs → lv_has ls 3 [(0, .ref (z + this)), (1, .int x1), (2, .int x2)] → W p l e ({ frames := 2, cells := 0, slots := 0, locals := 48 } : Room) s m ([.ref (z + this)] : List Value).toArray below meth c H locs 0 0 (MQ below (va_Qi (fun (x : Int32) (_ : Unit) => x = r) (fun _ t => WH z n D cy Y σ1 t.heap) (Az z)) ([.ref (z + this)] : List Value).toArray s 0 0 (Az z)) (F0 m 9 ls [])) (x1 : Int32) (x2 : Int32) (σ : Mm), b_X12_goThrough_83 Y fu this k9 x1 x2 σ = some (r, σ1) → ∀ (H : Heap) (locs : List Loc) (ls : Array Slot), WH z n D cy Y σ H → va_S (Az z) s.heap H locs → lv_has ls 3 [(0, .ref (z + this)), (1, .int x1), (2, .int x2)] → W p l e ({ frames := 2, cells := 0, slots := 0, locals := 48 } : Room) s m ([.ref (z + this)] : List Value).toArray below meth c H locs 0 0 (MQ below (va_Qi (fun (x : Int32) (_ : Unit) => x = r) (fun _ t => WH z n D cy Y σ1 t.heap) (Az z)) ([.ref (z + this)] : List Value).toArray s 0 0 (Az z)) (F0 m 83 ls []) := by
    intro k9 H9 x1 x2 σ  hf H locs ls hW hS hl
    refine lv_iload_n hx hb dX12_goThrough_83 rfl (lv_at hl 2 rfl) ?_
    refine lv_aload_n hx hb dX12_goThrough_84 rfl (lv_at hl 0 rfl) ?_
    refine q_geti (own := RX12) (ref := RX12) (C := RX12) (T := TX12) (N := 57) (kc := 9) (ci := 0) hx hb hts hin12 hown hK hW h_this (by decide) rfl 34 (by decide) hw2 rfl rfl dX12_goThrough_85 ?_
    refine lv_iconst (v := 1) hx hb dX12_goThrough_88 (by decide) ?_
    refine lv_isub hx hb dX12_goThrough_89 ?_
    refine lv_icmp_ne (tgt := 100) hx hb dX12_goThrough_90 (by decide) (fun c => ?_) (fun c => ?_)
    · have hf := g_neg c hf
      obtain ⟨x2_17, ex2_17⟩ : ∃ y : Int32, y = x2 + 1 := ⟨_, rfl⟩
      have hf := g_lt ex2_17 hf
      refine lv_iinc (v := x2_17) (lv' := [(2, .int x2_17), (0, .ref (z + this)), (1, .int x1)]) hx hb dX12_goThrough_100 hl (k := 2) rfl (by rw [ex2_17]; rfl) (by decide) rfl (fun ls hl => ?_)
      refine lv_aload_n hx hb dX12_goThrough_103 rfl (lv_at hl 1 rfl) ?_
      refine lv_iload_n hx hb dX12_goThrough_104 rfl (lv_at hl 0 rfl) ?_
      obtain ⟨σ_19, hc_18, hf⟩ := g_bn1 hf
      refine q_callv (va_runV (As := [.int x2_17]) (rest := []) ⟨hx, hb, hml, hown, hts⟩ (k_X12_open l z n D cy Y h_this hc_18) (cwV 1 hts gX12_goThrough_X12_open rfl rfl rfl (by decide +kernel) ⟨Nat.le_of_ble_eq_true rfl, Nat.le_of_ble_eq_true rfl⟩) (q_PV (T := TX12) (N := 57) hK hN hW h_this (by decide) rfl) rfl rfl hl.1 rfl (lv_room (Nat.le_of_ble_eq_true rfl)) dX12_goThrough_105 ⟨Nat.le_refl _, Nat.le_refl _⟩) hS (fun H locs hW hS => ?_)
      refine lv_goto (tgt := 9) hx hb dX12_goThrough_108 (by decide) ?_
      exact H9 x1 x2_17 σ_19 hf _ _ _ hW hS (lv_sub hl [1, 2, 0] rfl)
    · have hf := g_pos c hf
      refine lv_aload_n hx hb dX12_goThrough_93 rfl (lv_at hl 0 rfl) ?_
      obtain ⟨σ_21, hc_20, hf⟩ := g_bn1 hf
      refine q_callv (va_runV (As := []) (rest := []) ⟨hx, hb, hml, hown, hts⟩ (k_X12_keep l z n D cy Y h_this hc_20) (cwV 0 hts gX12_goThrough_X12_keep rfl rfl rfl (by decide +kernel) ⟨Nat.le_of_ble_eq_true rfl, Nat.le_of_ble_eq_true rfl⟩) (q_PV (T := TX12) (N := 57) hK hN hW h_this (by decide) rfl) rfl rfl hl.1 rfl (lv_room (Nat.le_of_ble_eq_true rfl)) dX12_goThrough_94 ⟨Nat.le_refl _, Nat.le_refl _⟩) hS (fun H locs hW hS => ?_)
      refine lv_goto (tgt := 9) hx hb dX12_goThrough_97 (by decide) ?_
      exact H9 x1 x2 σ_21 hf _ _ _ hW hS (lv_sub hl [0, 1, 2] rfl)
  have B9 : ∀ (nn : Nat) (x1 : Int32) (x2 : Int32) (σ : Mm), b_X12_goThrough_9 Y fu this nn x1 x2 σ = some (r, σ1) → ∀ (H : Heap) (locs : List Loc) (ls : Array Slot), WH z n D cy Y σ H → va_S (Az z) s.heap H locs → lv_has ls 3 [(0, .ref (z + this)), (1, .int x1), (2, .int x2)] → W p l e ({ frames := 2, cells := 0, slots := 0, locals := 48 } : Room) s m ([.ref (z + this)] : List Value).toArray below meth c H locs 0 0 (MQ below (va_Qi (fun (x : Int32) (_ : Unit) => x = r) (fun _ t => WH z n D cy Y σ1 t.heap) (Az z)) ([.ref (z + this)] : List Value).toArray s 0 0 (Az z)) (F0 m 9 ls []) := by
    intro nn
    induction nn with
    | zero =>
      intro x1 x2 σ  hf
      have h9 : (none : Option (Int32 × Mm)) = some (r, σ1) := hf
      cases h9
    | succ nn H9 =>
      intro x1 x2 σ  hf H locs ls hW hS hl
      have hf : s_X12_goThrough_9 Y fu this (b_X12_goThrough_9 Y fu this nn) x1 x2 σ = some (r, σ1) := hf
      generalize hkk : b_X12_goThrough_9 Y fu this nn = k9 at hf H9
      refine lv_iload_n hx hb dX12_goThrough_9 rfl (lv_at hl 2 rfl) ?_
      refine lv_if_le (tgt := 111) hx hb dX12_goThrough_10 (by decide) (fun c => ?_) (fun c => ?_)
      · have hf := g_pos c hf
        refine lv_iconst (v := 1) hx hb dX12_goThrough_111 (by decide) ?_
        exact q_zret hx hb hr hlocks hW hS hf dX12_goThrough_112
      · have hf := g_neg c hf
        refine lv_aload_n hx hb dX12_goThrough_13 rfl (lv_at hl 0 rfl) ?_
        refine q_getp (own := RX12) (ref := RX12) (C := RX12) (T := TX12) (N := 57) (kc := 9) (ci := 0) hx hb hts hin12 hown hK hW h_this (by decide) rfl 42 (by decide) hw0 rfl rfl rfl (v := 625) rfl dX12_goThrough_14 (fun hk_3 hq_4 => ?_)
        refine lv_iload_n hx hb dX12_goThrough_17 rfl (lv_at hl 2 rfl) ?_
        obtain ⟨hi_5, hf⟩ := g_in hf
        refine q_iald hx hb hK hW hk_3 (inb_of hq_4 hi_5) dX12_goThrough_18 ?_
        refine lv_i2l hx hb dX12_goThrough_19 rfl ?_
        refine lv_aload_n hx hb dX12_goThrough_20 rfl (lv_at hl 0 rfl) ?_
        refine q_getp (own := RX12) (ref := RX12) (C := RX12) (T := TX12) (N := 57) (kc := 9) (ci := 0) hx hb hts hin12 hown hK hW h_this (by decide) rfl 43 (by decide) hw1 rfl rfl rfl (v := 626) rfl dX12_goThrough_21 (fun hk_6 hq_7 => ?_)
        refine lv_iload_n hx hb dX12_goThrough_24 rfl (lv_at hl 2 rfl) ?_
        obtain ⟨hi_8, hf⟩ := g_in hf
        refine q_lald hx hb hK hW hk_6 (inb_of hq_7 hi_8) dX12_goThrough_25 ?_
        refine W.lcmp hx hb dX12_goThrough_26 ?_
        refine lv_if_lt (tgt := 36) hx hb dX12_goThrough_27 (by decide) (fun c => ?_) (fun c => ?_)
        · have hf := g_pos ((lg_cmp_lt _ _).mp c) hf
          refine lv_aload_n hx hb dX12_goThrough_36 rfl (lv_at hl 0 rfl) ?_
          refine q_getp (own := RX12) (ref := RX12) (C := RX12) (T := TX12) (N := 57) (kc := 9) (ci := 0) hx hb hts hin12 hown hK hW h_this (by decide) rfl 42 (by decide) hw0 rfl rfl rfl (v := 625) rfl dX12_goThrough_37 (fun hk_9 hq_10 => ?_)
          refine lv_iload_n hx hb dX12_goThrough_40 rfl (lv_at hl 2 rfl) ?_
          refine lv_dup2_11 hx hb dX12_goThrough_41 rfl rfl ?_
          obtain ⟨hi_11, hf⟩ := g_in hf
          refine q_iald hx hb hK hW hk_9 (inb_of hq_10 hi_11) dX12_goThrough_42 ?_
          refine lv_iconst (v := 1) hx hb dX12_goThrough_43 (by decide) ?_
          refine lv_iadd hx hb dX12_goThrough_44 ?_
          obtain ⟨hi_12, hf⟩ := g_in hf
          refine q_iast hx hb hK hW hS hk_9 (inb_of hq_10 hi_12) dX12_goThrough_45 (fun H locs hW hS => ?_)
          obtain ⟨σ_13, eσ_13⟩ : ∃ y : Mm, y = (Mm.si σ 625 (ix x2) ((Mm.gi σ 625 (ix x2)) + 1)) := ⟨_, rfl⟩
          rw [← eσ_13] at hW
          have hf := g_lt eσ_13 hf
          obtain ⟨x1_14, ex1_14⟩ : ∃ y : Int32, y = x1 + 1 := ⟨_, rfl⟩
          have hf := g_lt ex1_14 hf
          refine lv_iinc (v := x1_14) (lv' := [(1, .int x1_14), (0, .ref (z + this)), (2, .int x2)]) hx hb dX12_goThrough_46 hl (k := 1) rfl (by rw [ex1_14]; rfl) (by decide) rfl (fun ls hl => ?_)
          refine lv_aload_n hx hb dX12_goThrough_49 rfl (lv_at hl 1 rfl) ?_
          refine lv_iload_n hx hb dX12_goThrough_50 rfl (lv_at hl 2 rfl) ?_
          obtain ⟨σ_16, hc_15, hf⟩ := g_bn1 hf
          refine q_callv (va_runV (As := [.int x2]) (rest := []) ⟨hx, hb, hml, hown, hts⟩ (k_X12_bind l z n D cy Y h_this hc_15) (cwV 1 hts gX12_goThrough_X12_bind rfl rfl rfl (by decide +kernel) ⟨Nat.le_of_ble_eq_true rfl, Nat.le_of_ble_eq_true rfl⟩) (q_PV (T := TX12) (N := 57) hK hN hW h_this (by decide) rfl) rfl rfl hl.1 rfl (lv_room (Nat.le_of_ble_eq_true rfl)) dX12_goThrough_51 ⟨Nat.le_refl _, Nat.le_refl _⟩) hS (fun H locs hW hS => ?_)
          refine lv_iload_n hx hb dX12_goThrough_54 rfl (lv_at hl 0 rfl) ?_
          refine lv_sipush (v := 20000) hx hb dX12_goThrough_55 (by decide) ?_
          refine lv_icmp_gt (tgt := 81) hx hb dX12_goThrough_58 (by decide) (fun c => ?_) (fun c => ?_)
          · have hf := g_pos c hf
            refine lv_iconst (v := 0) hx hb dX12_goThrough_81 (by decide) ?_
            exact q_zret hx hb hr hlocks hW hS hf dX12_goThrough_82
          · have hf := g_neg c hf
            refine lv_iload_n hx hb dX12_goThrough_61 rfl (lv_at hl 2 rfl) ?_
            refine lv_aload_n hx hb dX12_goThrough_62 rfl (lv_at hl 1 rfl) ?_
            refine q_geti (own := RX12) (ref := RX12) (C := RX12) (T := TX12) (N := 57) (kc := 9) (ci := 0) hx hb hts hin12 hown hK hW h_this (by decide) rfl 34 (by decide) hw2 rfl rfl dX12_goThrough_63 ?_
            refine lv_iconst (v := 1) hx hb dX12_goThrough_66 (by decide) ?_
            refine lv_isub hx hb dX12_goThrough_67 ?_
            refine lv_icmp_ne (tgt := 83) hx hb dX12_goThrough_68 (by decide) (fun c => ?_) (fun c => ?_)
            · have hf := g_neg c hf
              exact B83 k9 H9 x1_14 x2 σ_16 hf _ _ _ hW hS (lv_sub hl [1, 0, 2] rfl)
            · have hf := g_pos c hf
              refine lv_aload_n hx hb dX12_goThrough_71 rfl (lv_at hl 1 rfl) ?_
              refine q_geti (own := RX12) (ref := RX12) (C := RX12) (T := TX12) (N := 57) (kc := 9) (ci := 0) hx hb hts hin12 hown hK hW h_this (by decide) rfl 33 (by decide) hw3 rfl rfl dX12_goThrough_72 ?_
              refine lv_sipush (v := 500) hx hb dX12_goThrough_75 (by decide) ?_
              refine lv_icmp_ne (tgt := 83) hx hb dX12_goThrough_78 (by decide) (fun c => ?_) (fun c => ?_)
              · have hf := g_neg c hf
                exact B83 k9 H9 x1_14 x2 σ_16 hf _ _ _ hW hS (lv_sub hl [1, 0, 2] rfl)
              · have hf := g_pos c hf
                refine lv_iconst (v := 0) hx hb dX12_goThrough_81 (by decide) ?_
                exact q_zret hx hb hr hlocks hW hS hf dX12_goThrough_82
        · have hf := g_neg (fun h => c ((lg_cmp_lt _ _).mpr h)) hf
          obtain ⟨x2_22, ex2_22⟩ : ∃ y : Int32, y = x2 + (-1) := ⟨_, rfl⟩
          have hf := g_lt ex2_22 hf
          refine lv_iinc (v := x2_22) (lv' := [(2, .int x2_22), (0, .ref (z + this)), (1, .int x1)]) hx hb dX12_goThrough_30 hl (k := 2) rfl (by rw [ex2_22]; rfl) (by decide) rfl (fun ls hl => ?_)
          refine lv_goto (tgt := 9) hx hb dX12_goThrough_33 (by decide) ?_
          exact H9 x1 x2_22 σ hf _ _ _ hW hS (lv_sub hl [1, 2, 0] rfl)
  refine lv_iconst (v := 0) hx hb dX12_goThrough_0 (by decide) ?_
  refine lv_istore_n (lv' := [(1, .int 0), (0, .ref (z + this))]) hx hb dX12_goThrough_1 rfl hl (by decide) rfl (fun ls hl => ?_)
  refine lv_iconst (v := 1) hx hb dX12_goThrough_2 (by decide) ?_
  refine lv_istore_n (lv' := [(2, .int 1), (1, .int 0), (0, .ref (z + this))]) hx hb dX12_goThrough_3 rfl hl (by decide) rfl (fun ls hl => ?_)
  refine lv_aload_n hx hb dX12_goThrough_4 rfl (lv_at hl 2 rfl) ?_
  refine lv_iconst (v := 1) hx hb dX12_goThrough_5 (by decide) ?_
  obtain ⟨σ_2, hc_1, hf⟩ := g_bn1 hf
  refine q_callv (va_runV (As := [.int 1]) (rest := []) ⟨hx, hb, hml, hown, hts⟩ (k_X12_open l z n D cy Y h_this hc_1) (cwV 1 hts gX12_goThrough_X12_open rfl rfl rfl (by decide +kernel) ⟨Nat.le_of_ble_eq_true rfl, Nat.le_of_ble_eq_true rfl⟩) (q_PV (T := TX12) (N := 57) hK hN hW h_this (by decide) rfl) rfl rfl hl.1 rfl (lv_room (Nat.le_of_ble_eq_true rfl)) dX12_goThrough_6 ⟨Nat.le_refl _, Nat.le_refl _⟩) hS (fun H locs hW hS => ?_)
  exact B9 fu 0 1 σ_2 hf _ _ _ hW hS (lv_sub hl [2, 1, 0] rfl)
set_option maxRecDepth 100000 in
set_option maxHeartbeats 40000000 in
theorem k_X12_ways (l : Launch) (z n : Nat) (D : va_G) (cy : Nat → ClassId) (Y : Yt) {fu : Nat} {this : Nat} {a1 : Int32} {a2 : Int32} {a3 : Int32} {σ : Mm} {r : Int32} {σ1 : Mm} (h_this : okk Y n 9 this) (hf : f_X12_ways Y fu this a1 a2 a3 σ = some (r, σ1)) : Ki l yX12_ways wsX12_ways ({ frames := 3, cells := 0, slots := 0, locals := 70 } : Room) z n D cy Y [.ref (z + this), .int a1, .int a2, .int a3] σ r σ1 := by
  refine Met.ofW (cc := cX12_ways) (maxL := 5) (ret := (some .int)) (by decide +kernel) rfl ?_
  intro p e s m args below meth c s₁ B hml hv
  obtain ⟨rfl, hW, hK, hN⟩ := hv
  have hx := B.exec
  have hb := B.bytes
  have hr := B.returns
  have hts := atoms_spec (ws := wsX12_ways) B.pre
  have hown : s.vm.findClass RX12 = some m.cls := findClass_of_methodNamed B.named
  have hlocks := B.notSynchronized
  have hS : va_S (Az z) s.heap s.heap [] := va_S.rf
  have hin12 : ∀ w ∈ wsX120, w ∈ wsX12_ways := fun w h => List.mem_cons_of_mem _ (List.mem_append_right _ h)
  have hw0 := hts (.constantLong RX12 294 (100000)) (List.mem_of_getElem? (i := 1) rfl)
  have hw1 := hts (.constantLong RX12 296 (100000000)) (List.mem_of_getElem? (i := 2) rfl)
  have hw2 := hts (.fieldLink RX12 167 "SkyClocksModel" "counts" "I") (List.mem_of_getElem? (i := 3) rfl)
  have hw3 := hts (.fieldLink RX12 279 "SkyClocksModel" "length0" "I") (List.mem_of_getElem? (i := 4) rfl)
  have hw4 := hts (.fieldLink RX12 282 "SkyClocksModel" "ways" "I") (List.mem_of_getElem? (i := 10) rfl)
  have hw5 := hts (.fieldLink RX12 104 "SkyClocksModel" "now" "[I") (List.mem_of_getElem? (i := 11) rfl)
  have hw6 := hts (.fieldLink RX12 110 "SkyClocksModel" "lowUp" "[J") (List.mem_of_getElem? (i := 12) rfl)
  have hw7 := hts (.fieldLink RX12 113 "SkyClocksModel" "lowBelow" "[J") (List.mem_of_getElem? (i := 13) rfl)
  have hw8 := hts (.fieldLink RX12 116 "SkyClocksModel" "highUp" "[J") (List.mem_of_getElem? (i := 14) rfl)
  have hw9 := hts (.fieldLink RX12 119 "SkyClocksModel" "highBelow" "[J") (List.mem_of_getElem? (i := 15) rfl)
  have hw10 := hts (.fieldLink RX12 301 "SkyClocksModel" "asked" "I") (List.mem_of_getElem? (i := 16) rfl)
  have hw11 := hts (.fieldLink RX12 83 "SkyClocksModel" "wayCorrected" "[I") (List.mem_of_getElem? (i := 5) rfl)
  have hw12 := hts (.fieldLink RX12 70 "SkyClocksModel" "place" "[I") (List.mem_of_getElem? (i := 6) rfl)
  have hw13 := hts (.fieldLink RX12 164 "SkyClocksModel" "version" "I") (List.mem_of_getElem? (i := 7) rfl)
  have hw14 := hts (.fieldLink RX12 86 "SkyClocksModel" "wayErr" "[I") (List.mem_of_getElem? (i := 8) rfl)
  have hw15 := hts (.fieldLink RX12 16 "SkyClocksModel" "errs" "[I") (List.mem_of_getElem? (i := 9) rfl)
  have hl := lv_entry ([.ref (z + this), .int a1, .int a2, .int a3]) (n := 5) (Nat.le_of_ble_eq_true rfl)
  rw [lg_entry_eq]
  generalize (lg_sl ([.ref (z + this), .int a1, .int a2, .int a3]) ++ List.replicate (5 - (lg_sl ([.ref (z + this), .int a1, .int a2, .int a3])).length) Slot.unset).toArray = ls at hl ⊢
  have hl : lv_has ls 5 [(0, .ref (z + this)), (1, .int a1), (2, .int a2), (3, .int a3)] := hl
  have B195 : ∀ (x4 : Int32) (t0 : Int32) (t1 : Nat) (σ : Mm), okk Y n 9 t1 → b_X12_ways_195 Y fu this a1 a2 a3 x4 t0 t1 σ = some (r, σ1) → ∀ (H : Heap) (locs : List Loc) (ls : Array Slot), WH z n D cy Y σ H → va_S (Az z) s.heap H locs → lv_has ls 5 [(0, .ref (z + this)), (1, .int a1), (2, .int a2), (3, .int a3), (4, .int x4)] → W p l e ({ frames := 3, cells := 0, slots := 0, locals := 70 } : Room) s m ([.ref (z + this), .int a1, .int a2, .int a3] : List Value).toArray below meth c H locs 0 0 (MQ below (va_Qi (fun (x : Int32) (_ : Unit) => x = r) (fun _ t => WH z n D cy Y σ1 t.heap) (Az z)) ([.ref (z + this), .int a1, .int a2, .int a3] : List Value).toArray s 0 0 (Az z)) (F0 m 195 ls [.int t0, .ref (z + t1)]) := by
    intro  x4 t0 t1 σ h_t1 hf H locs ls hW hS hl
    refine q_puti (own := RX12) (ref := RX12) (C := RX12) (T := TX12) (N := 57) (kc := 9) (ci := 0) hx hb hts hin12 tyX12_ok nmX12 hown hK hW hS h_t1 (by decide) rfl 33 (by decide) hw4 rfl rfl (ty := .int) (tyX12_ok 33 (by decide)) rfl rfl rfl dX12_ways_195 (fun H locs hW hS => ?_)
    obtain ⟨σ_38, eσ_38⟩ : ∃ y : Mm, y = (Mm.si σ t1 33 t0) := ⟨_, rfl⟩
    rw [← eσ_38] at hW
    have hf := g_lt eσ_38 hf
    refine lv_iload hx hb dX12_ways_198 (lv_at hl 4 rfl) ?_
    refine lv_if_eq (tgt := 210) hx hb dX12_ways_200 (by decide) (fun c => ?_) (fun c => ?_)
    · have hf := g_pos c hf
      refine lv_bipush (v := (-5)) hx hb dX12_ways_210 (by decide) ?_
      exact q_iret hx hb hr hlocks hW hS hf dX12_ways_212
    · have hf := g_neg c hf
      refine lv_aload_n hx hb dX12_ways_203 rfl (lv_at hl 0 rfl) ?_
      refine q_geti (own := RX12) (ref := RX12) (C := RX12) (T := TX12) (N := 57) (kc := 9) (ci := 0) hx hb hts hin12 hown hK hW h_this (by decide) rfl 33 (by decide) hw4 rfl rfl dX12_ways_204 ?_
      refine lv_goto (tgt := 212) hx hb dX12_ways_207 (by decide) ?_
      exact q_iret hx hb hr hlocks hW hS hf dX12_ways_212
  have B178 : ∀ (x4 : Int32) (t0 : Int32) (t1 : Nat) (σ : Mm), okk Y n 9 t1 → b_X12_ways_178 Y fu this a1 a2 a3 x4 t0 t1 σ = some (r, σ1) → ∀ (H : Heap) (locs : List Loc) (ls : Array Slot), WH z n D cy Y σ H → va_S (Az z) s.heap H locs → lv_has ls 5 [(0, .ref (z + this)), (1, .int a1), (2, .int a2), (3, .int a3), (4, .int x4)] → W p l e ({ frames := 3, cells := 0, slots := 0, locals := 70 } : Room) s m ([.ref (z + this), .int a1, .int a2, .int a3] : List Value).toArray below meth c H locs 0 0 (MQ below (va_Qi (fun (x : Int32) (_ : Unit) => x = r) (fun _ t => WH z n D cy Y σ1 t.heap) (Az z)) ([.ref (z + this), .int a1, .int a2, .int a3] : List Value).toArray s 0 0 (Az z)) (F0 m 178 ls [.int t0, .ref (z + t1)]) := by
    intro  x4 t0 t1 σ h_t1 hf H locs ls hW hS hl
    refine q_puti (own := RX12) (ref := RX12) (C := RX12) (T := TX12) (N := 57) (kc := 9) (ci := 0) hx hb hts hin12 tyX12_ok nmX12 hown hK hW hS h_t1 (by decide) rfl 32 (by decide) hw10 rfl rfl (ty := .int) (tyX12_ok 32 (by decide)) rfl rfl rfl dX12_ways_178 (fun H locs hW hS => ?_)
    obtain ⟨σ_37, eσ_37⟩ : ∃ y : Mm, y = (Mm.si σ t1 32 t0) := ⟨_, rfl⟩
    rw [← eσ_37] at hW
    have hf := g_lt eσ_37 hf
    refine lv_aload_n hx hb dX12_ways_181 rfl (lv_at hl 0 rfl) ?_
    refine lv_iload hx hb dX12_ways_182 (lv_at hl 4 rfl) ?_
    refine lv_if_eq (tgt := 194) hx hb dX12_ways_184 (by decide) (fun c => ?_) (fun c => ?_)
    · have hf := g_pos c hf
      refine lv_iconst (v := 0) hx hb dX12_ways_194 (by decide) ?_
      exact B195 x4 0 this σ_37 h_this hf _ _ _ hW hS (lv_sub hl [0, 1, 2, 3, 4] rfl)
    · have hf := g_neg c hf
      refine lv_aload_n hx hb dX12_ways_187 rfl (lv_at hl 0 rfl) ?_
      refine q_geti (own := RX12) (ref := RX12) (C := RX12) (T := TX12) (N := 57) (kc := 9) (ci := 0) hx hb hts hin12 hown hK hW h_this (by decide) rfl 33 (by decide) hw4 rfl rfl dX12_ways_188 ?_
      refine lv_goto (tgt := 195) hx hb dX12_ways_191 (by decide) ?_
      exact B195 x4 (Mm.gi σ_37 this 33) this σ_37 h_this hf _ _ _ hW hS (lv_sub hl [0, 1, 2, 3, 4] rfl)
  have B63 : ∀ (nn : Nat) (x4 : Int32) (σ : Mm), b_X12_ways_63 Y fu this a1 a2 a3 nn x4 σ = some (r, σ1) → ∀ (H : Heap) (locs : List Loc) (ls : Array Slot), WH z n D cy Y σ H → va_S (Az z) s.heap H locs → lv_has ls 5 [(0, .ref (z + this)), (1, .int a1), (2, .int a2), (3, .int a3), (4, .int x4)] → W p l e ({ frames := 3, cells := 0, slots := 0, locals := 70 } : Room) s m ([.ref (z + this), .int a1, .int a2, .int a3] : List Value).toArray below meth c H locs 0 0 (MQ below (va_Qi (fun (x : Int32) (_ : Unit) => x = r) (fun _ t => WH z n D cy Y σ1 t.heap) (Az z)) ([.ref (z + this), .int a1, .int a2, .int a3] : List Value).toArray s 0 0 (Az z)) (F0 m 63 ls []) := by
    intro nn
    induction nn with
    | zero =>
      intro x4 σ  hf
      have h9 : (none : Option (Int32 × Mm)) = some (r, σ1) := hf
      cases h9
    | succ nn H63 =>
      intro x4 σ  hf H locs ls hW hS hl
      have hf : s_X12_ways_63 Y fu this a1 a2 a3 (b_X12_ways_63 Y fu this a1 a2 a3 nn) x4 σ = some (r, σ1) := hf
      generalize hkk : b_X12_ways_63 Y fu this a1 a2 a3 nn = k63 at hf H63
      refine lv_iload hx hb dX12_ways_63 (lv_at hl 4 rfl) ?_
      refine lv_aload_n hx hb dX12_ways_65 rfl (lv_at hl 0 rfl) ?_
      refine q_geti (own := RX12) (ref := RX12) (C := RX12) (T := TX12) (N := 57) (kc := 9) (ci := 0) hx hb hts hin12 hown hK hW h_this (by decide) rfl 22 (by decide) hw2 rfl rfl dX12_ways_66 ?_
      refine lv_icmp_ge (tgt := 119) hx hb dX12_ways_69 (by decide) (fun c => ?_) (fun c => ?_)
      · have hf := g_pos c hf
        refine lv_aload_n hx hb dX12_ways_119 rfl (lv_at hl 0 rfl) ?_
        refine lv_iconst (v := 0) hx hb dX12_ways_120 (by decide) ?_
        refine q_puti (own := RX12) (ref := RX12) (C := RX12) (T := TX12) (N := 57) (kc := 9) (ci := 0) hx hb hts hin12 tyX12_ok nmX12 hown hK hW hS h_this (by decide) rfl 33 (by decide) hw4 rfl rfl (ty := .int) (tyX12_ok 33 (by decide)) rfl rfl rfl dX12_ways_121 (fun H locs hW hS => ?_)
        obtain ⟨σ_13, eσ_13⟩ : ∃ y : Mm, y = (Mm.si σ this 33 0) := ⟨_, rfl⟩
        rw [← eσ_13] at hW
        have hf := g_lt eσ_13 hf
        refine lv_aload_n hx hb dX12_ways_124 rfl (lv_at hl 0 rfl) ?_
        refine q_getp (own := RX12) (ref := RX12) (C := RX12) (T := TX12) (N := 57) (kc := 9) (ci := 0) hx hb hts hin12 hown hK hW h_this (by decide) rfl 42 (by decide) hw5 rfl rfl rfl (v := 625) rfl dX12_ways_125 (fun hk_14 hq_15 => ?_)
        refine lv_iconst (v := 0) hx hb dX12_ways_128 (by decide) ?_
        refine lv_iconst (v := 0) hx hb dX12_ways_129 (by decide) ?_
        obtain ⟨hi_16, hf⟩ := g_in hf
        refine q_iast hx hb hK hW hS hk_14 (inb_of hq_15 hi_16) dX12_ways_130 (fun H locs hW hS => ?_)
        obtain ⟨σ_17, eσ_17⟩ : ∃ y : Mm, y = (Mm.si σ_13 625 (ix 0) 0) := ⟨_, rfl⟩
        rw [← eσ_17] at hW
        have hf := g_lt eσ_17 hf
        refine lv_aload_n hx hb dX12_ways_131 rfl (lv_at hl 0 rfl) ?_
        refine q_getp (own := RX12) (ref := RX12) (C := RX12) (T := TX12) (N := 57) (kc := 9) (ci := 0) hx hb hts hin12 hown hK hW h_this (by decide) rfl 44 (by decide) hw6 rfl rfl rfl (v := 627) rfl dX12_ways_132 (fun hk_18 hq_19 => ?_)
        refine lv_iconst (v := 0) hx hb dX12_ways_135 (by decide) ?_
        refine lv_iload_n hx hb dX12_ways_136 rfl (lv_at hl 2 rfl) ?_
        refine lv_i2l hx hb dX12_ways_137 rfl ?_
        obtain ⟨hi_20, hf⟩ := g_in hf
        refine q_last hx hb hK hW hS hk_18 (inb_of hq_19 hi_20) dX12_ways_138 (fun H locs hW hS => ?_)
        obtain ⟨σ_21, eσ_21⟩ : ∃ y : Mm, y = (Mm.sl σ_17 627 (ix 0) (Int32.toInt64 a2)) := ⟨_, rfl⟩
        rw [← eσ_21] at hW
        have hf := g_lt eσ_21 hf
        refine lv_aload_n hx hb dX12_ways_139 rfl (lv_at hl 0 rfl) ?_
        refine q_getp (own := RX12) (ref := RX12) (C := RX12) (T := TX12) (N := 57) (kc := 9) (ci := 0) hx hb hts hin12 hown hK hW h_this (by decide) rfl 45 (by decide) hw7 rfl rfl rfl (v := 628) rfl dX12_ways_140 (fun hk_22 hq_23 => ?_)
        refine lv_iconst (v := 0) hx hb dX12_ways_143 (by decide) ?_
        refine lv_lconst (v := 1) hx hb dX12_ways_144 (by decide) ?_
        obtain ⟨hi_24, hf⟩ := g_in hf
        refine q_last hx hb hK hW hS hk_22 (inb_of hq_23 hi_24) dX12_ways_145 (fun H locs hW hS => ?_)
        obtain ⟨σ_25, eσ_25⟩ : ∃ y : Mm, y = (Mm.sl σ_21 628 (ix 0) 1) := ⟨_, rfl⟩
        rw [← eσ_25] at hW
        have hf := g_lt eσ_25 hf
        refine lv_aload_n hx hb dX12_ways_146 rfl (lv_at hl 0 rfl) ?_
        refine q_getp (own := RX12) (ref := RX12) (C := RX12) (T := TX12) (N := 57) (kc := 9) (ci := 0) hx hb hts hin12 hown hK hW h_this (by decide) rfl 46 (by decide) hw8 rfl rfl rfl (v := 629) rfl dX12_ways_147 (fun hk_26 hq_27 => ?_)
        refine lv_iconst (v := 0) hx hb dX12_ways_150 (by decide) ?_
        refine lv_iload_n hx hb dX12_ways_151 rfl (lv_at hl 3 rfl) ?_
        refine lv_i2l hx hb dX12_ways_152 rfl ?_
        obtain ⟨hi_28, hf⟩ := g_in hf
        refine q_last hx hb hK hW hS hk_26 (inb_of hq_27 hi_28) dX12_ways_153 (fun H locs hW hS => ?_)
        obtain ⟨σ_29, eσ_29⟩ : ∃ y : Mm, y = (Mm.sl σ_25 629 (ix 0) (Int32.toInt64 a3)) := ⟨_, rfl⟩
        rw [← eσ_29] at hW
        have hf := g_lt eσ_29 hf
        refine lv_aload_n hx hb dX12_ways_154 rfl (lv_at hl 0 rfl) ?_
        refine q_getp (own := RX12) (ref := RX12) (C := RX12) (T := TX12) (N := 57) (kc := 9) (ci := 0) hx hb hts hin12 hown hK hW h_this (by decide) rfl 47 (by decide) hw9 rfl rfl rfl (v := 630) rfl dX12_ways_155 (fun hk_30 hq_31 => ?_)
        refine lv_iconst (v := 0) hx hb dX12_ways_158 (by decide) ?_
        refine lv_lconst (v := 1) hx hb dX12_ways_159 (by decide) ?_
        obtain ⟨hi_32, hf⟩ := g_in hf
        refine q_last hx hb hK hW hS hk_30 (inb_of hq_31 hi_32) dX12_ways_160 (fun H locs hW hS => ?_)
        obtain ⟨σ_33, eσ_33⟩ : ∃ y : Mm, y = (Mm.sl σ_29 630 (ix 0) 1) := ⟨_, rfl⟩
        rw [← eσ_33] at hW
        have hf := g_lt eσ_33 hf
        refine lv_aload_n hx hb dX12_ways_161 rfl (lv_at hl 0 rfl) ?_
        obtain ⟨r_36, σ_35, hc_34, hf⟩ := g_bnd hf
        refine q_calli (va_runV (As := []) (rest := []) ⟨hx, hb, hml, hown, hts⟩ (k_X12_goThrough l z n D cy Y h_this hc_34) (cwV 0 hts gX12_ways_X12_goThrough rfl rfl rfl (by decide +kernel) ⟨Nat.le_of_ble_eq_true rfl, Nat.le_of_ble_eq_true rfl⟩) (q_PV (T := TX12) (N := 57) hK hN hW h_this (by decide) rfl) rfl rfl hl.1 rfl (lv_room (Nat.le_of_ble_eq_true rfl)) dX12_ways_162 ⟨Nat.le_refl _, Nat.le_refl _⟩) hS (fun H locs hW hS => ?_)
        refine lv_istore (lv' := [(4, .int r_36), (0, .ref (z + this)), (1, .int a1), (2, .int a2), (3, .int a3)]) hx hb dX12_ways_165 hl (by decide) rfl (fun ls hl => ?_)
        refine lv_aload_n hx hb dX12_ways_167 rfl (lv_at hl 1 rfl) ?_
        refine lv_iload hx hb dX12_ways_168 (lv_at hl 0 rfl) ?_
        refine lv_if_eq (tgt := 177) hx hb dX12_ways_170 (by decide) (fun c => ?_) (fun c => ?_)
        · have hf := g_pos c hf
          refine lv_iconst (v := 2) hx hb dX12_ways_177 (by decide) ?_
          exact B178 r_36 2 this σ_35 h_this hf _ _ _ hW hS (lv_sub hl [1, 2, 3, 4, 0] rfl)
        · have hf := g_neg c hf
          refine lv_iconst (v := 1) hx hb dX12_ways_173 (by decide) ?_
          refine lv_goto (tgt := 178) hx hb dX12_ways_174 (by decide) ?_
          exact B178 r_36 1 this σ_35 h_this hf _ _ _ hW hS (lv_sub hl [1, 2, 3, 4, 0] rfl)
      · have hf := g_neg c hf
        refine lv_aload_n hx hb dX12_ways_72 rfl (lv_at hl 0 rfl) ?_
        refine q_getp (own := RX12) (ref := RX12) (C := RX12) (T := TX12) (N := 57) (kc := 9) (ci := 0) hx hb hts hin12 hown hK hW h_this (by decide) rfl 35 (by decide) hw11 rfl rfl rfl (v := 618) rfl dX12_ways_73 (fun hk_39 hq_40 => ?_)
        refine lv_iload hx hb dX12_ways_76 (lv_at hl 4 rfl) ?_
        refine lv_aload_n hx hb dX12_ways_78 rfl (lv_at hl 0 rfl) ?_
        refine lv_aload_n hx hb dX12_ways_79 rfl (lv_at hl 0 rfl) ?_
        refine q_getp (own := RX12) (ref := RX12) (C := RX12) (T := TX12) (N := 57) (kc := 9) (ci := 0) hx hb hts hin12 hown hK hW h_this (by decide) rfl 21 (by decide) hw12 rfl rfl rfl (v := 614) rfl dX12_ways_80 (fun hk_41 hq_42 => ?_)
        refine lv_iload hx hb dX12_ways_83 (lv_at hl 4 rfl) ?_
        obtain ⟨hi_43, hf⟩ := g_in hf
        refine q_iald hx hb hK hW hk_41 (inb_of hq_42 hi_43) dX12_ways_85 ?_
        refine lv_aload_n hx hb dX12_ways_86 rfl (lv_at hl 0 rfl) ?_
        refine q_geti (own := RX12) (ref := RX12) (C := RX12) (T := TX12) (N := 57) (kc := 9) (ci := 0) hx hb hts hin12 hown hK hW h_this (by decide) rfl 7 (by decide) hw13 rfl rfl dX12_ways_87 ?_
        obtain ⟨r_46, σ_45, hc_44, hf⟩ := g_bnd hf
        refine q_calli (va_runV (As := [.int (Mm.gi σ 614 (ix x4)), .int (Mm.gi σ this 7)]) (rest := [.int x4, .ref (z + 618)]) ⟨hx, hb, hml, hown, hts⟩ (k_X12_corrected l z n D cy Y h_this hc_44) (cwV 2 hts gX12_ways_X12_corrected rfl rfl rfl (by decide +kernel) ⟨Nat.le_of_ble_eq_true rfl, Nat.le_of_ble_eq_true rfl⟩) (q_PV (T := TX12) (N := 57) hK hN hW h_this (by decide) rfl) rfl rfl hl.1 rfl (lv_room (Nat.le_of_ble_eq_true rfl)) dX12_ways_90 ⟨Nat.le_refl _, Nat.le_refl _⟩) hS (fun H locs hW hS => ?_)
        obtain ⟨hi_47, hf⟩ := g_in hf
        refine q_iast hx hb hK hW hS hk_39 (inb_of hq_40 hi_47) dX12_ways_93 (fun H locs hW hS => ?_)
        obtain ⟨σ_48, eσ_48⟩ : ∃ y : Mm, y = (Mm.si σ_45 618 (ix x4) r_46) := ⟨_, rfl⟩
        rw [← eσ_48] at hW
        have hf := g_lt eσ_48 hf
        refine lv_aload_n hx hb dX12_ways_94 rfl (lv_at hl 0 rfl) ?_
        refine q_getp (own := RX12) (ref := RX12) (C := RX12) (T := TX12) (N := 57) (kc := 9) (ci := 0) hx hb hts hin12 hown hK hW h_this (by decide) rfl 36 (by decide) hw14 rfl rfl rfl (v := 619) rfl dX12_ways_95 (fun hk_49 hq_50 => ?_)
        refine lv_iload hx hb dX12_ways_98 (lv_at hl 4 rfl) ?_
        refine lv_aload_n hx hb dX12_ways_100 rfl (lv_at hl 0 rfl) ?_
        refine q_getp (own := RX12) (ref := RX12) (C := RX12) (T := TX12) (N := 57) (kc := 9) (ci := 0) hx hb hts hin12 hown hK hW h_this (by decide) rfl 2 (by decide) hw15 rfl rfl rfl (v := 598) rfl dX12_ways_101 (fun hk_51 hq_52 => ?_)
        refine lv_aload_n hx hb dX12_ways_104 rfl (lv_at hl 0 rfl) ?_
        refine q_getp (own := RX12) (ref := RX12) (C := RX12) (T := TX12) (N := 57) (kc := 9) (ci := 0) hx hb hts hin12 hown hK hW h_this (by decide) rfl 21 (by decide) hw12 rfl rfl rfl (v := 614) rfl dX12_ways_105 (fun hk_53 hq_54 => ?_)
        refine lv_iload hx hb dX12_ways_108 (lv_at hl 4 rfl) ?_
        obtain ⟨hi_55, hf⟩ := g_in hf
        refine q_iald hx hb hK hW hk_53 (inb_of hq_54 hi_55) dX12_ways_110 ?_
        obtain ⟨hi_56, hf⟩ := g_in hf
        refine q_iald hx hb hK hW hk_51 (inb_of hq_52 hi_56) dX12_ways_111 ?_
        obtain ⟨hi_57, hf⟩ := g_in hf
        refine q_iast hx hb hK hW hS hk_49 (inb_of hq_50 hi_57) dX12_ways_112 (fun H locs hW hS => ?_)
        obtain ⟨σ_58, eσ_58⟩ : ∃ y : Mm, y = (Mm.si σ_48 619 (ix x4) (Mm.gi σ_48 598 (ix (Mm.gi σ_48 614 (ix x4))))) := ⟨_, rfl⟩
        rw [← eσ_58] at hW
        have hf := g_lt eσ_58 hf
        obtain ⟨x4_59, ex4_59⟩ : ∃ y : Int32, y = x4 + 1 := ⟨_, rfl⟩
        have hf := g_lt ex4_59 hf
        refine lv_iinc (v := x4_59) (lv' := [(4, .int x4_59), (0, .ref (z + this)), (1, .int a1), (2, .int a2), (3, .int a3)]) hx hb dX12_ways_113 hl (k := 4) rfl (by rw [ex4_59]; rfl) (by decide) rfl (fun ls hl => ?_)
        refine lv_goto (tgt := 63) hx hb dX12_ways_116 (by decide) ?_
        exact H63 x4_59 σ_58 hf _ _ _ hW hS (lv_sub hl [1, 2, 3, 4, 0] rfl)
  refine lv_iload_n hx hb dX12_ways_0 rfl (lv_at hl 1 rfl) ?_
  obtain ⟨r_3, σ_2, hc_1, hf⟩ := g_bnd hf
  refine q_calli (va_runS (As := [.int a1]) (rest := []) ⟨hx, hb, hml, hown, hts⟩ (k_X12_isStar l z n D cy Y hc_1) (va_cwS 1 hts gX12_ways_X12_isStar rfl rfl rfl (by decide +kernel) ⟨Nat.le_of_ble_eq_true rfl, Nat.le_of_ble_eq_true rfl⟩) (q_PS hK hN hW) rfl rfl hl.1 rfl (lv_room (Nat.le_of_ble_eq_true rfl)) dX12_ways_1 ⟨Nat.le_refl _, Nat.le_refl _⟩) hS (fun H locs hW hS => ?_)
  refine lv_if_eq (tgt := 34) hx hb dX12_ways_4 (by decide) (fun c => ?_) (fun c => ?_)
  · have hf := g_pos c hf
    refine lv_iconst (v := (-1)) hx hb dX12_ways_34 (by decide) ?_
    exact q_iret hx hb hr hlocks hW hS hf dX12_ways_35
  · have hf := g_neg c hf
    refine lv_iload_n hx hb dX12_ways_7 rfl (lv_at hl 2 rfl) ?_
    refine lv_i2l hx hb dX12_ways_8 rfl ?_
    refine lv_ldc2 hx hb hown hw0 dX12_ways_9 ?_
    refine lv_ldc2 hx hb hown hw1 dX12_ways_12 ?_
    obtain ⟨r_6, σ_5, hc_4, hf⟩ := g_bnd hf
    refine q_calli (va_runS (As := [.long (Int32.toInt64 a2), .long 100000, .long 100000000]) (rest := []) ⟨hx, hb, hml, hown, hts⟩ (k_X12_in l z n D cy Y hc_4) (va_cwS 3 hts gX12_ways_X12_in rfl rfl rfl (by decide +kernel) ⟨Nat.le_of_ble_eq_true rfl, Nat.le_of_ble_eq_true rfl⟩) (q_PS hK hN hW) rfl rfl hl.1 rfl (lv_room (Nat.le_of_ble_eq_true rfl)) dX12_ways_15 ⟨Nat.le_refl _, Nat.le_refl _⟩) hS (fun H locs hW hS => ?_)
    refine lv_if_eq (tgt := 34) hx hb dX12_ways_18 (by decide) (fun c => ?_) (fun c => ?_)
    · have hf := g_pos c hf
      refine lv_iconst (v := (-1)) hx hb dX12_ways_34 (by decide) ?_
      exact q_iret hx hb hr hlocks hW hS hf dX12_ways_35
    · have hf := g_neg c hf
      refine lv_iload_n hx hb dX12_ways_21 rfl (lv_at hl 3 rfl) ?_
      refine lv_i2l hx hb dX12_ways_22 rfl ?_
      refine lv_iload_n hx hb dX12_ways_23 rfl (lv_at hl 2 rfl) ?_
      refine lv_i2l hx hb dX12_ways_24 rfl ?_
      refine lv_ldc2 hx hb hown hw1 dX12_ways_25 ?_
      obtain ⟨r_9, σ_8, hc_7, hf⟩ := g_bnd hf
      refine q_calli (va_runS (As := [.long (Int32.toInt64 a3), .long (Int32.toInt64 a2), .long 100000000]) (rest := []) ⟨hx, hb, hml, hown, hts⟩ (k_X12_in l z n D cy Y hc_7) (va_cwS 3 hts gX12_ways_X12_in rfl rfl rfl (by decide +kernel) ⟨Nat.le_of_ble_eq_true rfl, Nat.le_of_ble_eq_true rfl⟩) (q_PS hK hN hW) rfl rfl hl.1 rfl (lv_room (Nat.le_of_ble_eq_true rfl)) dX12_ways_28 ⟨Nat.le_refl _, Nat.le_refl _⟩) hS (fun H locs hW hS => ?_)
      refine lv_if_ne (tgt := 36) hx hb dX12_ways_31 (by decide) (fun c => ?_) (fun c => ?_)
      · have hf := g_neg c hf
        refine lv_aload_n hx hb dX12_ways_36 rfl (lv_at hl 0 rfl) ?_
        refine lv_iload_n hx hb dX12_ways_37 rfl (lv_at hl 1 rfl) ?_
        obtain ⟨σ_11, hc_10, hf⟩ := g_bn1 hf
        refine q_callv (va_runV (As := [.int a1]) (rest := []) ⟨hx, hb, hml, hown, hts⟩ (k_X12_layCounts l z n D cy Y h_this hc_10) (cwV 1 hts gX12_ways_X12_layCounts rfl rfl rfl (by decide +kernel) ⟨Nat.le_of_ble_eq_true rfl, Nat.le_of_ble_eq_true rfl⟩) (q_PV (T := TX12) (N := 57) hK hN hW h_this (by decide) rfl) rfl rfl hl.1 rfl (lv_room (Nat.le_of_ble_eq_true rfl)) dX12_ways_38 ⟨Nat.le_refl _, Nat.le_refl _⟩) hS (fun H locs hW hS => ?_)
        refine lv_aload_n hx hb dX12_ways_41 rfl (lv_at hl 0 rfl) ?_
        refine q_geti (own := RX12) (ref := RX12) (C := RX12) (T := TX12) (N := 57) (kc := 9) (ci := 0) hx hb hts hin12 hown hK hW h_this (by decide) rfl 22 (by decide) hw2 rfl rfl dX12_ways_42 ?_
        refine lv_iconst (v := 2) hx hb dX12_ways_45 (by decide) ?_
        refine lv_icmp_ge (tgt := 52) hx hb dX12_ways_46 (by decide) (fun c => ?_) (fun c => ?_)
        · have hf := g_pos c hf
          refine lv_aload_n hx hb dX12_ways_52 rfl (lv_at hl 0 rfl) ?_
          refine lv_aload_n hx hb dX12_ways_53 rfl (lv_at hl 0 rfl) ?_
          refine q_geti (own := RX12) (ref := RX12) (C := RX12) (T := TX12) (N := 57) (kc := 9) (ci := 0) hx hb hts hin12 hown hK hW h_this (by decide) rfl 22 (by decide) hw2 rfl rfl dX12_ways_54 ?_
          refine q_puti (own := RX12) (ref := RX12) (C := RX12) (T := TX12) (N := 57) (kc := 9) (ci := 0) hx hb hts hin12 tyX12_ok nmX12 hown hK hW hS h_this (by decide) rfl 34 (by decide) hw3 rfl rfl (ty := .int) (tyX12_ok 34 (by decide)) rfl rfl rfl dX12_ways_57 (fun H locs hW hS => ?_)
          obtain ⟨σ_12, eσ_12⟩ : ∃ y : Mm, y = (Mm.si σ_11 this 34 (Mm.gi σ_11 this 22)) := ⟨_, rfl⟩
          rw [← eσ_12] at hW
          have hf := g_lt eσ_12 hf
          refine lv_iconst (v := 0) hx hb dX12_ways_60 (by decide) ?_
          refine lv_istore (lv' := [(4, .int 0), (0, .ref (z + this)), (1, .int a1), (2, .int a2), (3, .int a3)]) hx hb dX12_ways_61 hl (by decide) rfl (fun ls hl => ?_)
          exact B63 fu 0 σ_12 hf _ _ _ hW hS (lv_sub hl [1, 2, 3, 4, 0] rfl)
        · have hf := g_neg c hf
          refine lv_bipush (v := (-2)) hx hb dX12_ways_49 (by decide) ?_
          exact q_iret hx hb hr hlocks hW hS hf dX12_ways_51
      · have hf := g_pos c hf
        refine lv_iconst (v := (-1)) hx hb dX12_ways_34 (by decide) ?_
        exact q_iret hx hb hr hlocks hW hS hf dX12_ways_35
set_option maxRecDepth 100000 in
set_option maxHeartbeats 40000000 in
theorem k_X12_wipe (l : Launch) (z n : Nat) (D : va_G) (cy : Nat → ClassId) (Y : Yt) {this : Nat} {σ : Mm} {r : Int32} {σ1 : Mm} (h_this : okk Y n 9 this) (hf : f_X12_wipe Y this σ = some (r, σ1)) : Ki l yX12_wipe wsX12_wipe ({ frames := 0, cells := 0, slots := 0, locals := 0 } : Room) z n D cy Y [.ref (z + this)] σ r σ1 := by
  refine Met.ofW (cc := cX12_wipe) (maxL := 2) (ret := (some .int)) (by decide +kernel) rfl ?_
  intro p e s m args below meth c s₁ B hml hv
  obtain ⟨rfl, hW, hK, hN⟩ := hv
  have hx := B.exec
  have hb := B.bytes
  have hr := B.returns
  have hts := atoms_spec (ws := wsX12_wipe) B.pre
  have hown : s.vm.findClass RX12 = some m.cls := findClass_of_methodNamed B.named
  have hlocks := B.notSynchronized
  have hS : va_S (Az z) s.heap s.heap [] := va_S.rf
  have hin12 : ∀ w ∈ wsX120, w ∈ wsX12_wipe := fun w h => List.mem_cons_of_mem _ (List.mem_append_right _ h)
  have hw0 := hts (.fieldLink RX12 186 "SkyClocksModel" "length" "I") (List.mem_of_getElem? (i := 1) rfl)
  have hl := lv_entry ([.ref (z + this)]) (n := 2) (Nat.le_of_ble_eq_true rfl)
  rw [lg_entry_eq]
  generalize (lg_sl ([.ref (z + this)]) ++ List.replicate (2 - (lg_sl ([.ref (z + this)])).length) Slot.unset).toArray = ls at hl ⊢
  have hl : lv_has ls 2 [(0, .ref (z + this))] := hl
  refine lv_aload_n hx hb dX12_wipe_0 rfl (lv_at hl 0 rfl) ?_
  refine q_geti (own := RX12) (ref := RX12) (C := RX12) (T := TX12) (N := 57) (kc := 9) (ci := 0) hx hb hts hin12 hown hK hW h_this (by decide) rfl 20 (by decide) hw0 rfl rfl dX12_wipe_1 ?_
  refine lv_topi (fun x1_1 ex1_1 => ?_)
  have hf := g_lt ex1_1 hf
  refine lv_istore_n (lv' := [(1, .int x1_1), (0, .ref (z + this))]) hx hb dX12_wipe_4 rfl hl (by decide) rfl (fun ls hl => ?_)
  refine lv_aload_n hx hb dX12_wipe_5 rfl (lv_at hl 1 rfl) ?_
  refine lv_iconst (v := 0) hx hb dX12_wipe_6 (by decide) ?_
  refine q_puti (own := RX12) (ref := RX12) (C := RX12) (T := TX12) (N := 57) (kc := 9) (ci := 0) hx hb hts hin12 tyX12_ok nmX12 hown hK hW hS h_this (by decide) rfl 20 (by decide) hw0 rfl rfl (ty := .int) (tyX12_ok 20 (by decide)) rfl rfl rfl dX12_wipe_7 (fun H locs hW hS => ?_)
  obtain ⟨σ_2, eσ_2⟩ : ∃ y : Mm, y = (Mm.si σ this 20 0) := ⟨_, rfl⟩
  rw [← eσ_2] at hW
  have hf := g_lt eσ_2 hf
  refine lv_iload_n hx hb dX12_wipe_10 rfl (lv_at hl 0 rfl) ?_
  exact q_iret hx hb hr hlocks hW hS hf dX12_wipe_11
set_option maxRecDepth 100000 in
set_option maxHeartbeats 40000000 in
theorem k_X12_write (l : Launch) (z n : Nat) (D : va_G) (cy : Nat → ClassId) (Y : Yt) {fu : Nat} {this : Nat} {a1 : Int32} {a2 : Int64} {σ : Mm} {r : Int32} {σ1 : Mm} (h_this : okk Y n 9 this) (hf : f_X12_write Y fu this a1 a2 σ = some (r, σ1)) : Ki l yX12_write wsX12_write ({ frames := 1, cells := 0, slots := 0, locals := 25 } : Room) z n D cy Y [.ref (z + this), .int a1, .long a2] σ r σ1 := by
  refine Met.ofW (cc := cX12_write) (maxL := 5) (ret := (some .int)) (by decide +kernel) rfl ?_
  intro p e s m args below meth c s₁ B hml hv
  obtain ⟨rfl, hW, hK, hN⟩ := hv
  have hx := B.exec
  have hb := B.bytes
  have hr := B.returns
  have hts := atoms_spec (ws := wsX12_write) B.pre
  have hown : s.vm.findClass RX12 = some m.cls := findClass_of_methodNamed B.named
  have hlocks := B.notSynchronized
  have hS : va_S (Az z) s.heap s.heap [] := va_S.rf
  have hin12 : ∀ w ∈ wsX120, w ∈ wsX12_write := fun w h => List.mem_cons_of_mem _ (List.mem_append_right _ h)
  have hw0 := hts (.constantLong RX12 184 (8)) (List.mem_of_getElem? (i := 1) rfl)
  have hw1 := hts (.fieldLink RX12 186 "SkyClocksModel" "length" "I") (List.mem_of_getElem? (i := 2) rfl)
  have hw2 := hts (.fieldLink RX12 67 "SkyClocksModel" "text" "[I") (List.mem_of_getElem? (i := 3) rfl)
  have hw3 := hts (.constantLong RX12 189 (255)) (List.mem_of_getElem? (i := 4) rfl)
  have hl := lv_entry ([.ref (z + this), .int a1, .long a2]) (n := 5) (Nat.le_of_ble_eq_true rfl)
  rw [lg_entry_eq]
  generalize (lg_sl ([.ref (z + this), .int a1, .long a2]) ++ List.replicate (5 - (lg_sl ([.ref (z + this), .int a1, .long a2])).length) Slot.unset).toArray = ls at hl ⊢
  have hl : lv_has ls 5 [(0, .ref (z + this)), (1, .int a1), (2, .long a2)] := hl
  have B34 : ∀ (nn : Nat) (x4 : Int32) (σ : Mm), b_X12_write_34 Y fu this a1 a2 nn x4 σ = some (r, σ1) → ∀ (H : Heap) (locs : List Loc) (ls : Array Slot), WH z n D cy Y σ H → va_S (Az z) s.heap H locs → lv_has ls 5 [(0, .ref (z + this)), (1, .int a1), (2, .long a2), (4, .int x4)] → W p l e ({ frames := 1, cells := 0, slots := 0, locals := 25 } : Room) s m ([.ref (z + this), .int a1, .long a2] : List Value).toArray below meth c H locs 0 0 (MQ below (va_Qi (fun (x : Int32) (_ : Unit) => x = r) (fun _ t => WH z n D cy Y σ1 t.heap) (Az z)) ([.ref (z + this), .int a1, .long a2] : List Value).toArray s 0 0 (Az z)) (F0 m 34 ls []) := by
    intro nn
    induction nn with
    | zero =>
      intro x4 σ  hf
      have h9 : (none : Option (Int32 × Mm)) = some (r, σ1) := hf
      cases h9
    | succ nn H34 =>
      intro x4 σ  hf H locs ls hW hS hl
      have hf : s_X12_write_34 Y fu this a1 a2 (b_X12_write_34 Y fu this a1 a2 nn) x4 σ = some (r, σ1) := hf
      generalize hkk : b_X12_write_34 Y fu this a1 a2 nn = k34 at hf H34
      refine lv_iload hx hb dX12_write_34 (lv_at hl 3 rfl) ?_
      refine lv_if_lt (tgt := 76) hx hb dX12_write_36 (by decide) (fun c => ?_) (fun c => ?_)
      · have hf := g_pos c hf
        refine lv_aload_n hx hb dX12_write_76 rfl (lv_at hl 0 rfl) ?_
        refine q_geti (own := RX12) (ref := RX12) (C := RX12) (T := TX12) (N := 57) (kc := 9) (ci := 0) hx hb hts hin12 hown hK hW h_this (by decide) rfl 20 (by decide) hw1 rfl rfl dX12_write_77 ?_
        exact q_iret hx hb hr hlocks hW hS hf dX12_write_80
      · have hf := g_neg c hf
        refine lv_aload_n hx hb dX12_write_39 rfl (lv_at hl 0 rfl) ?_
        refine q_getp (own := RX12) (ref := RX12) (C := RX12) (T := TX12) (N := 57) (kc := 9) (ci := 0) hx hb hts hin12 hown hK hW h_this (by decide) rfl 19 (by decide) hw2 rfl rfl rfl (v := 613) rfl dX12_write_40 (fun hk_5 hq_6 => ?_)
        refine lv_aload_n hx hb dX12_write_43 rfl (lv_at hl 0 rfl) ?_
        refine q_geti (own := RX12) (ref := RX12) (C := RX12) (T := TX12) (N := 57) (kc := 9) (ci := 0) hx hb hts hin12 hown hK hW h_this (by decide) rfl 20 (by decide) hw1 rfl rfl dX12_write_44 ?_
        refine lv_lload_n hx hb dX12_write_47 rfl (lv_at hl 2 rfl) ?_
        refine lv_bipush (v := 8) hx hb dX12_write_48 (by decide) ?_
        refine lv_iload hx hb dX12_write_50 (lv_at hl 3 rfl) ?_
        refine lv_imul hx hb dX12_write_52 ?_
        refine lv_lshr hx hb dX12_write_53 rfl ?_
        refine lv_ldc2 hx hb hown hw3 dX12_write_54 ?_
        refine lv_land hx hb dX12_write_57 ?_
        refine lv_l2i hx hb dX12_write_58 rfl ?_
        obtain ⟨hi_7, hf⟩ := g_in hf
        refine q_iast hx hb hK hW hS hk_5 (inb_of hq_6 hi_7) dX12_write_59 (fun H locs hW hS => ?_)
        obtain ⟨σ_8, eσ_8⟩ : ∃ y : Mm, y = (Mm.si σ 613 (ix (Mm.gi σ this 20)) (Int64.toInt32 ((a2 >>> (Int32.toInt64 (8 * x4) &&& 63)) &&& 255))) := ⟨_, rfl⟩
        rw [← eσ_8] at hW
        have hf := g_lt eσ_8 hf
        refine lv_aload_n hx hb dX12_write_60 rfl (lv_at hl 0 rfl) ?_
        refine lv_dup hx hb dX12_write_61 rfl ?_
        refine q_geti (own := RX12) (ref := RX12) (C := RX12) (T := TX12) (N := 57) (kc := 9) (ci := 0) hx hb hts hin12 hown hK hW h_this (by decide) rfl 20 (by decide) hw1 rfl rfl dX12_write_62 ?_
        refine lv_iconst (v := 1) hx hb dX12_write_65 (by decide) ?_
        refine lv_iadd hx hb dX12_write_66 ?_
        refine q_puti (own := RX12) (ref := RX12) (C := RX12) (T := TX12) (N := 57) (kc := 9) (ci := 0) hx hb hts hin12 tyX12_ok nmX12 hown hK hW hS h_this (by decide) rfl 20 (by decide) hw1 rfl rfl (ty := .int) (tyX12_ok 20 (by decide)) rfl rfl rfl dX12_write_67 (fun H locs hW hS => ?_)
        obtain ⟨σ_9, eσ_9⟩ : ∃ y : Mm, y = (Mm.si σ_8 this 20 ((Mm.gi σ_8 this 20) + 1)) := ⟨_, rfl⟩
        rw [← eσ_9] at hW
        have hf := g_lt eσ_9 hf
        obtain ⟨x4_10, ex4_10⟩ : ∃ y : Int32, y = x4 + (-1) := ⟨_, rfl⟩
        have hf := g_lt ex4_10 hf
        refine lv_iinc (v := x4_10) (lv' := [(4, .int x4_10), (0, .ref (z + this)), (1, .int a1), (2, .long a2)]) hx hb dX12_write_70 hl (k := 3) rfl (by rw [ex4_10]; rfl) (by decide) rfl (fun ls hl => ?_)
        refine lv_goto (tgt := 34) hx hb dX12_write_73 (by decide) ?_
        exact H34 x4_10 σ_9 hf _ _ _ hW hS (lv_sub hl [1, 2, 3, 0] rfl)
  refine lv_iload_n hx hb dX12_write_0 rfl (lv_at hl 1 rfl) ?_
  refine lv_i2l hx hb dX12_write_1 rfl ?_
  refine lv_lconst (v := 1) hx hb dX12_write_2 (by decide) ?_
  refine lv_ldc2 hx hb hown hw0 dX12_write_3 ?_
  obtain ⟨r_3, σ_2, hc_1, hf⟩ := g_bnd hf
  refine q_calli (va_runS (As := [.long (Int32.toInt64 a1), .long 1, .long 8]) (rest := []) ⟨hx, hb, hml, hown, hts⟩ (k_X12_in l z n D cy Y hc_1) (va_cwS 3 hts gX12_write_X12_in rfl rfl rfl (by decide +kernel) ⟨Nat.le_of_ble_eq_true rfl, Nat.le_of_ble_eq_true rfl⟩) (q_PS hK hN hW) rfl rfl hl.1 rfl (lv_room (Nat.le_of_ble_eq_true rfl)) dX12_write_6 ⟨Nat.le_refl _, Nat.le_refl _⟩) hS (fun H locs hW hS => ?_)
  refine lv_if_ne (tgt := 14) hx hb dX12_write_9 (by decide) (fun c => ?_) (fun c => ?_)
  · have hf := g_neg c hf
    refine lv_aload_n hx hb dX12_write_14 rfl (lv_at hl 0 rfl) ?_
    refine q_geti (own := RX12) (ref := RX12) (C := RX12) (T := TX12) (N := 57) (kc := 9) (ci := 0) hx hb hts hin12 hown hK hW h_this (by decide) rfl 20 (by decide) hw1 rfl rfl dX12_write_15 ?_
    refine lv_iload_n hx hb dX12_write_18 rfl (lv_at hl 1 rfl) ?_
    refine lv_iadd hx hb dX12_write_19 ?_
    refine lv_sipush (v := 200) hx hb dX12_write_20 (by decide) ?_
    refine lv_icmp_le (tgt := 29) hx hb dX12_write_23 (by decide) (fun c => ?_) (fun c => ?_)
    · have hf := g_pos c hf
      refine lv_iload_n hx hb dX12_write_29 rfl (lv_at hl 1 rfl) ?_
      refine lv_iconst (v := 1) hx hb dX12_write_30 (by decide) ?_
      refine lv_isub hx hb dX12_write_31 ?_
      refine lv_topi (fun x4_4 ex4_4 => ?_)
      have hf := g_lt ex4_4 hf
      refine lv_istore (lv' := [(4, .int x4_4), (0, .ref (z + this)), (1, .int a1), (2, .long a2)]) hx hb dX12_write_32 hl (by decide) rfl (fun ls hl => ?_)
      exact B34 fu x4_4 σ_2 hf _ _ _ hW hS (lv_sub hl [1, 2, 3, 0] rfl)
    · have hf := g_neg c hf
      refine lv_bipush (v := (-3)) hx hb dX12_write_26 (by decide) ?_
      exact q_iret hx hb hr hlocks hW hS hf dX12_write_28
  · have hf := g_pos c hf
    refine lv_iconst (v := (-1)) hx hb dX12_write_12 (by decide) ?_
    exact q_iret hx hb hr hlocks hW hS hf dX12_write_13
