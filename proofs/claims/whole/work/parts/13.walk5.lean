set_option maxRecDepth 100000 in
set_option maxHeartbeats 40000000 in
theorem k_X12_friendItem (l : Launch) (z n : Nat) (D : va_G) (cy : Nat → ClassId) (Y : Yt) {fu : Nat} {this : Nat} {σ : Mm} {r : Int32} {σ1 : Mm} (h_this : okk Y n 9 this) (hf : f_X12_friendItem Y fu this σ = some (r, σ1)) : Ki l yX12_friendItem wsX12_friendItem ({ frames := 3, cells := 0, slots := 0, locals := 68 } : Room) z n D cy Y [.ref (z + this)] σ r σ1 := by
  refine Met.ofW (cc := cX12_friendItem) (maxL := 3) (ret := (some .boolean)) (by decide +kernel) rfl ?_
  intro p e s m args below meth c s₁ B hml hv
  obtain ⟨rfl, hW, hK, hN⟩ := hv
  have hx := B.exec
  have hb := B.bytes
  have hr := B.returns
  have hts := atoms_spec (ws := wsX12_friendItem) B.pre
  have hown : s.vm.findClass RX12 = some m.cls := findClass_of_methodNamed B.named
  have hlocks := B.notSynchronized
  have hS : va_S (Az z) s.heap s.heap [] := va_S.rf
  have hin12 : ∀ w ∈ wsX120, w ∈ wsX12_friendItem := fun w h => List.mem_cons_of_mem _ (List.mem_append_right _ h)
  have hw0 := hts (.fieldLink RX12 58 "SkyClocksModel" "friendMany" "[I") (List.mem_of_getElem? (i := 1) rfl)
  have hw1 := hts (.fieldLink RX12 61 "SkyClocksModel" "friendTurns" "[I") (List.mem_of_getElem? (i := 2) rfl)
  have hw2 := hts (.fieldLink RX12 204 "SkyClocksModel" "figure" "I") (List.mem_of_getElem? (i := 3) rfl)
  have hw3 := hts (.constant RX12 212 (-50000)) (List.mem_of_getElem? (i := 4) rfl)
  have hw4 := hts (.constant RX12 213 (50000)) (List.mem_of_getElem? (i := 5) rfl)
  have hw5 := hts (.fieldLink RX12 64 "SkyClocksModel" "friendBy" "[I") (List.mem_of_getElem? (i := 6) rfl)
  have hl := lv_entry ([.ref (z + this)]) (n := 3) (Nat.le_of_ble_eq_true rfl)
  rw [lg_entry_eq]
  generalize (lg_sl ([.ref (z + this)]) ++ List.replicate (3 - (lg_sl ([.ref (z + this)])).length) Slot.unset).toArray = ls at hl ⊢
  have hl : lv_has ls 3 [(0, .ref (z + this))] := hl
  have B45 : ∀ (nn : Nat) (x1 : Int32) (x2 : Int32) (σ : Mm), b_X12_friendItem_45 Y fu this nn x1 x2 σ = some (r, σ1) → ∀ (H : Heap) (locs : List Loc) (ls : Array Slot), WH z n D cy Y σ H → va_S (Az z) s.heap H locs → lv_has ls 3 [(0, .ref (z + this)), (1, .int x1), (2, .int x2)] → W p l e ({ frames := 3, cells := 0, slots := 0, locals := 68 } : Room) s m ([.ref (z + this)] : List Value).toArray below meth c H locs 0 0 (MQ below (va_Qi (fun (x : Int32) (_ : Unit) => x = r) (fun _ t => WH z n D cy Y σ1 t.heap) (Az z)) ([.ref (z + this)] : List Value).toArray s 0 0 (Az z)) (F0 m 45 ls []) := by
    intro nn
    induction nn with
    | zero =>
      intro x1 x2 σ  hf
      have h9 : (none : Option (Int32 × Mm)) = some (r, σ1) := hf
      cases h9
    | succ nn H45 =>
      intro x1 x2 σ  hf H locs ls hW hS hl
      have hf : s_X12_friendItem_45 Y fu this (b_X12_friendItem_45 Y fu this nn) x1 x2 σ = some (r, σ1) := hf
      generalize hkk : b_X12_friendItem_45 Y fu this nn = k45 at hf H45
      refine lv_iload_n hx hb dX12_friendItem_45 rfl (lv_at hl 2 rfl) ?_
      refine lv_iconst (v := 4) hx hb dX12_friendItem_46 (by decide) ?_
      refine lv_icmp_ge (tgt := 92) hx hb dX12_friendItem_47 (by decide) (fun c => ?_) (fun c => ?_)
      · have hf := g_pos c hf
        refine lv_aload_n hx hb dX12_friendItem_92 rfl (lv_at hl 0 rfl) ?_
        refine q_getp (own := RX12) (ref := RX12) (C := RX12) (T := TX12) (N := 57) (kc := 9) (ci := 0) hx hb hts hin12 hown hK hW h_this (by decide) rfl 16 (by decide) hw0 rfl rfl rfl (v := 610) rfl dX12_friendItem_93 (fun hk_15 hq_16 => ?_)
        refine lv_iconst (v := 4) hx hb dX12_friendItem_96 (by decide) ?_
        refine lv_dup2_11 hx hb dX12_friendItem_97 rfl rfl ?_
        obtain ⟨hi_17, hf⟩ := g_in hf
        refine q_iald hx hb hK hW hk_15 (inb_of hq_16 hi_17) dX12_friendItem_98 ?_
        refine lv_iconst (v := 1) hx hb dX12_friendItem_99 (by decide) ?_
        refine lv_iadd hx hb dX12_friendItem_100 ?_
        obtain ⟨hi_18, hf⟩ := g_in hf
        refine q_iast hx hb hK hW hS hk_15 (inb_of hq_16 hi_18) dX12_friendItem_101 (fun H locs hW hS => ?_)
        obtain ⟨σ_19, eσ_19⟩ : ∃ y : Mm, y = (Mm.si σ 610 (ix 4) ((Mm.gi σ 610 (ix 4)) + 1)) := ⟨_, rfl⟩
        rw [← eσ_19] at hW
        have hf := g_lt eσ_19 hf
        refine lv_iconst (v := 1) hx hb dX12_friendItem_102 (by decide) ?_
        exact q_zret hx hb hr hlocks hW hS hf dX12_friendItem_103
      · have hf := g_neg c hf
        refine lv_aload_n hx hb dX12_friendItem_50 rfl (lv_at hl 0 rfl) ?_
        refine lv_bipush (v := 44) hx hb dX12_friendItem_51 (by decide) ?_
        obtain ⟨r_22, σ_21, hc_20, hf⟩ := g_bnd hf
        refine q_calli (va_runV (As := [.int 44]) (rest := []) ⟨hx, hb, hml, hown, hts⟩ (k_X12_skip l z n D cy Y h_this hc_20) (cwV 1 hts gX12_friendItem_X12_skip rfl rfl rfl (by decide +kernel) ⟨Nat.le_of_ble_eq_true rfl, Nat.le_of_ble_eq_true rfl⟩) (q_PV (T := TX12) (N := 57) hK hN hW h_this (by decide) rfl) rfl rfl hl.1 rfl (lv_room (Nat.le_of_ble_eq_true rfl)) dX12_friendItem_53 ⟨Nat.le_refl _, Nat.le_refl _⟩) hS (fun H locs hW hS => ?_)
        refine lv_if_eq (tgt := 70) hx hb dX12_friendItem_56 (by decide) (fun c => ?_) (fun c => ?_)
        · have hf := g_pos c hf
          refine lv_iconst (v := 0) hx hb dX12_friendItem_70 (by decide) ?_
          exact q_zret hx hb hr hlocks hW hS hf dX12_friendItem_71
        · have hf := g_neg c hf
          refine lv_aload_n hx hb dX12_friendItem_59 rfl (lv_at hl 0 rfl) ?_
          refine lv_ldc hx hb hown hw3 dX12_friendItem_60 ?_
          refine lv_ldc hx hb hown hw4 dX12_friendItem_62 ?_
          obtain ⟨r_25, σ_24, hc_23, hf⟩ := g_bnd hf
          refine q_calli (va_runV (As := [.int (-50000), .int 50000]) (rest := []) ⟨hx, hb, hml, hown, hts⟩ (k_X12_number l z n D cy Y h_this hc_23) (cwV 2 hts gX12_friendItem_X12_number rfl rfl rfl (by decide +kernel) ⟨Nat.le_of_ble_eq_true rfl, Nat.le_of_ble_eq_true rfl⟩) (q_PV (T := TX12) (N := 57) hK hN hW h_this (by decide) rfl) rfl rfl hl.1 rfl (lv_room (Nat.le_of_ble_eq_true rfl)) dX12_friendItem_64 ⟨Nat.le_refl _, Nat.le_refl _⟩) hS (fun H locs hW hS => ?_)
          refine lv_if_ne (tgt := 72) hx hb dX12_friendItem_67 (by decide) (fun c => ?_) (fun c => ?_)
          · have hf := g_neg c hf
            refine lv_aload_n hx hb dX12_friendItem_72 rfl (lv_at hl 0 rfl) ?_
            refine q_getp (own := RX12) (ref := RX12) (C := RX12) (T := TX12) (N := 57) (kc := 9) (ci := 0) hx hb hts hin12 hown hK hW h_this (by decide) rfl 18 (by decide) hw5 rfl rfl rfl (v := 612) rfl dX12_friendItem_73 (fun hk_26 hq_27 => ?_)
            refine lv_iconst (v := 4) hx hb dX12_friendItem_76 (by decide) ?_
            refine lv_iload_n hx hb dX12_friendItem_77 rfl (lv_at hl 1 rfl) ?_
            refine lv_imul hx hb dX12_friendItem_78 ?_
            refine lv_iload_n hx hb dX12_friendItem_79 rfl (lv_at hl 2 rfl) ?_
            refine lv_iadd hx hb dX12_friendItem_80 ?_
            refine lv_aload_n hx hb dX12_friendItem_81 rfl (lv_at hl 0 rfl) ?_
            refine q_geti (own := RX12) (ref := RX12) (C := RX12) (T := TX12) (N := 57) (kc := 9) (ci := 0) hx hb hts hin12 hown hK hW h_this (by decide) rfl 24 (by decide) hw2 rfl rfl dX12_friendItem_82 ?_
            obtain ⟨hi_28, hf⟩ := g_in hf
            refine q_iast hx hb hK hW hS hk_26 (inb_of hq_27 hi_28) dX12_friendItem_85 (fun H locs hW hS => ?_)
            obtain ⟨σ_29, eσ_29⟩ : ∃ y : Mm, y = (Mm.si σ_24 612 (ix ((4 * x1) + x2)) (Mm.gi σ_24 this 24)) := ⟨_, rfl⟩
            rw [← eσ_29] at hW
            have hf := g_lt eσ_29 hf
            obtain ⟨x2_30, ex2_30⟩ : ∃ y : Int32, y = x2 + 1 := ⟨_, rfl⟩
            have hf := g_lt ex2_30 hf
            refine lv_iinc (v := x2_30) (lv' := [(2, .int x2_30), (0, .ref (z + this)), (1, .int x1)]) hx hb dX12_friendItem_86 hl (k := 2) rfl (by rw [ex2_30]; rfl) (by decide) rfl (fun ls hl => ?_)
            refine lv_goto (tgt := 45) hx hb dX12_friendItem_89 (by decide) ?_
            exact H45 x1 x2_30 σ_29 hf _ _ _ hW hS (lv_sub hl [1, 2, 0] rfl)
          · have hf := g_pos c hf
            refine lv_iconst (v := 0) hx hb dX12_friendItem_70 (by decide) ?_
            exact q_zret hx hb hr hlocks hW hS hf dX12_friendItem_71
  refine lv_aload_n hx hb dX12_friendItem_0 rfl (lv_at hl 0 rfl) ?_
  refine q_getp (own := RX12) (ref := RX12) (C := RX12) (T := TX12) (N := 57) (kc := 9) (ci := 0) hx hb hts hin12 hown hK hW h_this (by decide) rfl 16 (by decide) hw0 rfl rfl rfl (v := 610) rfl dX12_friendItem_1 (fun hk_1 hq_2 => ?_)
  refine lv_iconst (v := 4) hx hb dX12_friendItem_4 (by decide) ?_
  obtain ⟨hi_3, hf⟩ := g_in hf
  refine q_iald hx hb hK hW hk_1 (inb_of hq_2 hi_3) dX12_friendItem_5 ?_
  refine lv_iconst (v := 2) hx hb dX12_friendItem_6 (by decide) ?_
  refine lv_icmp_eq (tgt := 21) hx hb dX12_friendItem_7 (by decide) (fun c => ?_) (fun c => ?_)
  · have hf := g_pos c hf
    refine lv_iconst (v := 0) hx hb dX12_friendItem_21 (by decide) ?_
    exact q_zret hx hb hr hlocks hW hS hf dX12_friendItem_22
  · have hf := g_neg c hf
    refine lv_aload_n hx hb dX12_friendItem_10 rfl (lv_at hl 0 rfl) ?_
    refine lv_iconst (v := 4) hx hb dX12_friendItem_11 (by decide) ?_
    refine lv_sipush (v := 1000) hx hb dX12_friendItem_12 (by decide) ?_
    obtain ⟨r_6, σ_5, hc_4, hf⟩ := g_bnd hf
    refine q_calli (va_runV (As := [.int 4, .int 1000]) (rest := []) ⟨hx, hb, hml, hown, hts⟩ (k_X12_number l z n D cy Y h_this hc_4) (cwV 2 hts gX12_friendItem_X12_number rfl rfl rfl (by decide +kernel) ⟨Nat.le_of_ble_eq_true rfl, Nat.le_of_ble_eq_true rfl⟩) (q_PV (T := TX12) (N := 57) hK hN hW h_this (by decide) rfl) rfl rfl hl.1 rfl (lv_room (Nat.le_of_ble_eq_true rfl)) dX12_friendItem_15 ⟨Nat.le_refl _, Nat.le_refl _⟩) hS (fun H locs hW hS => ?_)
    refine lv_if_ne (tgt := 23) hx hb dX12_friendItem_18 (by decide) (fun c => ?_) (fun c => ?_)
    · have hf := g_neg c hf
      refine lv_bipush (v := 8) hx hb dX12_friendItem_23 (by decide) ?_
      refine lv_aload_n hx hb dX12_friendItem_25 rfl (lv_at hl 0 rfl) ?_
      refine q_getp (own := RX12) (ref := RX12) (C := RX12) (T := TX12) (N := 57) (kc := 9) (ci := 0) hx hb hts hin12 hown hK hW h_this (by decide) rfl 16 (by decide) hw0 rfl rfl rfl (v := 610) rfl dX12_friendItem_26 (fun hk_7 hq_8 => ?_)
      refine lv_iconst (v := 4) hx hb dX12_friendItem_29 (by decide) ?_
      obtain ⟨hi_9, hf⟩ := g_in hf
      refine q_iald hx hb hK hW hk_7 (inb_of hq_8 hi_9) dX12_friendItem_30 ?_
      refine lv_iadd hx hb dX12_friendItem_31 ?_
      refine lv_topi (fun x1_10 ex1_10 => ?_)
      have hf := g_lt ex1_10 hf
      refine lv_istore_n (lv' := [(1, .int x1_10), (0, .ref (z + this))]) hx hb dX12_friendItem_32 rfl hl (by decide) rfl (fun ls hl => ?_)
      refine lv_aload_n hx hb dX12_friendItem_33 rfl (lv_at hl 1 rfl) ?_
      refine q_getp (own := RX12) (ref := RX12) (C := RX12) (T := TX12) (N := 57) (kc := 9) (ci := 0) hx hb hts hin12 hown hK hW h_this (by decide) rfl 17 (by decide) hw1 rfl rfl rfl (v := 611) rfl dX12_friendItem_34 (fun hk_11 hq_12 => ?_)
      refine lv_iload_n hx hb dX12_friendItem_37 rfl (lv_at hl 0 rfl) ?_
      refine lv_aload_n hx hb dX12_friendItem_38 rfl (lv_at hl 1 rfl) ?_
      refine q_geti (own := RX12) (ref := RX12) (C := RX12) (T := TX12) (N := 57) (kc := 9) (ci := 0) hx hb hts hin12 hown hK hW h_this (by decide) rfl 24 (by decide) hw2 rfl rfl dX12_friendItem_39 ?_
      obtain ⟨hi_13, hf⟩ := g_in hf
      refine q_iast hx hb hK hW hS hk_11 (inb_of hq_12 hi_13) dX12_friendItem_42 (fun H locs hW hS => ?_)
      obtain ⟨σ_14, eσ_14⟩ : ∃ y : Mm, y = (Mm.si σ_5 611 (ix x1_10) (Mm.gi σ_5 this 24)) := ⟨_, rfl⟩
      rw [← eσ_14] at hW
      have hf := g_lt eσ_14 hf
      refine lv_iconst (v := 0) hx hb dX12_friendItem_43 (by decide) ?_
      refine lv_istore_n (lv' := [(2, .int 0), (1, .int x1_10), (0, .ref (z + this))]) hx hb dX12_friendItem_44 rfl hl (by decide) rfl (fun ls hl => ?_)
      exact B45 fu x1_10 0 σ_14 hf _ _ _ hW hS (lv_sub hl [2, 1, 0] rfl)
    · have hf := g_pos c hf
      refine lv_iconst (v := 0) hx hb dX12_friendItem_21 (by decide) ?_
      exact q_zret hx hb hr hlocks hW hS hf dX12_friendItem_22
set_option maxRecDepth 100000 in
set_option maxHeartbeats 40000000 in
theorem k_X12_slipItem (l : Launch) (z n : Nat) (D : va_G) (cy : Nat → ClassId) (Y : Yt) {fu : Nat} {this : Nat} {σ : Mm} {r : Int32} {σ1 : Mm} (h_this : okk Y n 9 this) (hf : f_X12_slipItem Y fu this σ = some (r, σ1)) : Ki l yX12_slipItem wsX12_slipItem ({ frames := 3, cells := 0, slots := 0, locals := 68 } : Room) z n D cy Y [.ref (z + this)] σ r σ1 := by
  refine Met.ofW (cc := cX12_slipItem) (maxL := 1) (ret := (some .boolean)) (by decide +kernel) rfl ?_
  intro p e s m args below meth c s₁ B hml hv
  obtain ⟨rfl, hW, hK, hN⟩ := hv
  have hx := B.exec
  have hb := B.bytes
  have hr := B.returns
  have hts := atoms_spec (ws := wsX12_slipItem) B.pre
  have hown : s.vm.findClass RX12 = some m.cls := findClass_of_methodNamed B.named
  have hlocks := B.notSynchronized
  have hS : va_S (Az z) s.heap s.heap [] := va_S.rf
  have hin12 : ∀ w ∈ wsX120, w ∈ wsX12_slipItem := fun w h => List.mem_cons_of_mem _ (List.mem_append_right _ h)
  have hw0 := hts (.fieldLink RX12 49 "SkyClocksModel" "slipMany" "[I") (List.mem_of_getElem? (i := 1) rfl)
  have hw1 := hts (.constant RX12 207 (1000000)) (List.mem_of_getElem? (i := 2) rfl)
  have hw2 := hts (.fieldLink RX12 52 "SkyClocksModel" "slipAt" "[I") (List.mem_of_getElem? (i := 3) rfl)
  have hw3 := hts (.fieldLink RX12 204 "SkyClocksModel" "figure" "I") (List.mem_of_getElem? (i := 4) rfl)
  have hw4 := hts (.constant RX12 212 (-50000)) (List.mem_of_getElem? (i := 5) rfl)
  have hw5 := hts (.constant RX12 213 (50000)) (List.mem_of_getElem? (i := 6) rfl)
  have hw6 := hts (.fieldLink RX12 55 "SkyClocksModel" "slipBy" "[I") (List.mem_of_getElem? (i := 7) rfl)
  have hl := lv_entry ([.ref (z + this)]) (n := 1) (Nat.le_of_ble_eq_true rfl)
  rw [lg_entry_eq]
  generalize (lg_sl ([.ref (z + this)]) ++ List.replicate (1 - (lg_sl ([.ref (z + this)])).length) Slot.unset).toArray = ls at hl ⊢
  have hl : lv_has ls 1 [(0, .ref (z + this))] := hl
  refine lv_aload_n hx hb dX12_slipItem_0 rfl (lv_at hl 0 rfl) ?_
  refine q_getp (own := RX12) (ref := RX12) (C := RX12) (T := TX12) (N := 57) (kc := 9) (ci := 0) hx hb hts hin12 hown hK hW h_this (by decide) rfl 13 (by decide) hw0 rfl rfl rfl (v := 607) rfl dX12_slipItem_1 (fun hk_1 hq_2 => ?_)
  refine lv_iconst (v := 4) hx hb dX12_slipItem_4 (by decide) ?_
  obtain ⟨hi_3, hf⟩ := g_in hf
  refine q_iald hx hb hK hW hk_1 (inb_of hq_2 hi_3) dX12_slipItem_5 ?_
  refine lv_iconst (v := 3) hx hb dX12_slipItem_6 (by decide) ?_
  refine lv_icmp_eq (tgt := 20) hx hb dX12_slipItem_7 (by decide) (fun c => ?_) (fun c => ?_)
  · have hf := g_pos c hf
    refine lv_iconst (v := 0) hx hb dX12_slipItem_20 (by decide) ?_
    exact q_zret hx hb hr hlocks hW hS hf dX12_slipItem_21
  · have hf := g_neg c hf
    refine lv_aload_n hx hb dX12_slipItem_10 rfl (lv_at hl 0 rfl) ?_
    refine lv_iconst (v := 0) hx hb dX12_slipItem_11 (by decide) ?_
    refine lv_ldc hx hb hown hw1 dX12_slipItem_12 ?_
    obtain ⟨r_6, σ_5, hc_4, hf⟩ := g_bnd hf
    refine q_calli (va_runV (As := [.int 0, .int 1000000]) (rest := []) ⟨hx, hb, hml, hown, hts⟩ (k_X12_number l z n D cy Y h_this hc_4) (cwV 2 hts gX12_slipItem_X12_number rfl rfl rfl (by decide +kernel) ⟨Nat.le_of_ble_eq_true rfl, Nat.le_of_ble_eq_true rfl⟩) (q_PV (T := TX12) (N := 57) hK hN hW h_this (by decide) rfl) rfl rfl hl.1 rfl (lv_room (Nat.le_of_ble_eq_true rfl)) dX12_slipItem_14 ⟨Nat.le_refl _, Nat.le_refl _⟩) hS (fun H locs hW hS => ?_)
    refine lv_if_ne (tgt := 22) hx hb dX12_slipItem_17 (by decide) (fun c => ?_) (fun c => ?_)
    · have hf := g_neg c hf
      refine lv_aload_n hx hb dX12_slipItem_22 rfl (lv_at hl 0 rfl) ?_
      refine q_getp (own := RX12) (ref := RX12) (C := RX12) (T := TX12) (N := 57) (kc := 9) (ci := 0) hx hb hts hin12 hown hK hW h_this (by decide) rfl 14 (by decide) hw2 rfl rfl rfl (v := 608) rfl dX12_slipItem_23 (fun hk_7 hq_8 => ?_)
      refine lv_bipush (v := 12) hx hb dX12_slipItem_26 (by decide) ?_
      refine lv_aload_n hx hb dX12_slipItem_28 rfl (lv_at hl 0 rfl) ?_
      refine q_getp (own := RX12) (ref := RX12) (C := RX12) (T := TX12) (N := 57) (kc := 9) (ci := 0) hx hb hts hin12 hown hK hW h_this (by decide) rfl 13 (by decide) hw0 rfl rfl rfl (v := 607) rfl dX12_slipItem_29 (fun hk_9 hq_10 => ?_)
      refine lv_iconst (v := 4) hx hb dX12_slipItem_32 (by decide) ?_
      obtain ⟨hi_11, hf⟩ := g_in hf
      refine q_iald hx hb hK hW hk_9 (inb_of hq_10 hi_11) dX12_slipItem_33 ?_
      refine lv_iadd hx hb dX12_slipItem_34 ?_
      refine lv_aload_n hx hb dX12_slipItem_35 rfl (lv_at hl 0 rfl) ?_
      refine q_geti (own := RX12) (ref := RX12) (C := RX12) (T := TX12) (N := 57) (kc := 9) (ci := 0) hx hb hts hin12 hown hK hW h_this (by decide) rfl 24 (by decide) hw3 rfl rfl dX12_slipItem_36 ?_
      obtain ⟨hi_12, hf⟩ := g_in hf
      refine q_iast hx hb hK hW hS hk_7 (inb_of hq_8 hi_12) dX12_slipItem_39 (fun H locs hW hS => ?_)
      obtain ⟨σ_13, eσ_13⟩ : ∃ y : Mm, y = (Mm.si σ_5 608 (ix (12 + (Mm.gi σ_5 607 (ix 4)))) (Mm.gi σ_5 this 24)) := ⟨_, rfl⟩
      rw [← eσ_13] at hW
      have hf := g_lt eσ_13 hf
      refine lv_aload_n hx hb dX12_slipItem_40 rfl (lv_at hl 0 rfl) ?_
      refine lv_bipush (v := 44) hx hb dX12_slipItem_41 (by decide) ?_
      obtain ⟨r_16, σ_15, hc_14, hf⟩ := g_bnd hf
      refine q_calli (va_runV (As := [.int 44]) (rest := []) ⟨hx, hb, hml, hown, hts⟩ (k_X12_skip l z n D cy Y h_this hc_14) (cwV 1 hts gX12_slipItem_X12_skip rfl rfl rfl (by decide +kernel) ⟨Nat.le_of_ble_eq_true rfl, Nat.le_of_ble_eq_true rfl⟩) (q_PV (T := TX12) (N := 57) hK hN hW h_this (by decide) rfl) rfl rfl hl.1 rfl (lv_room (Nat.le_of_ble_eq_true rfl)) dX12_slipItem_43 ⟨Nat.le_refl _, Nat.le_refl _⟩) hS (fun H locs hW hS => ?_)
      refine lv_if_eq (tgt := 60) hx hb dX12_slipItem_46 (by decide) (fun c => ?_) (fun c => ?_)
      · have hf := g_pos c hf
        refine lv_iconst (v := 0) hx hb dX12_slipItem_60 (by decide) ?_
        exact q_zret hx hb hr hlocks hW hS hf dX12_slipItem_61
      · have hf := g_neg c hf
        refine lv_aload_n hx hb dX12_slipItem_49 rfl (lv_at hl 0 rfl) ?_
        refine lv_ldc hx hb hown hw4 dX12_slipItem_50 ?_
        refine lv_ldc hx hb hown hw5 dX12_slipItem_52 ?_
        obtain ⟨r_19, σ_18, hc_17, hf⟩ := g_bnd hf
        refine q_calli (va_runV (As := [.int (-50000), .int 50000]) (rest := []) ⟨hx, hb, hml, hown, hts⟩ (k_X12_number l z n D cy Y h_this hc_17) (cwV 2 hts gX12_slipItem_X12_number rfl rfl rfl (by decide +kernel) ⟨Nat.le_of_ble_eq_true rfl, Nat.le_of_ble_eq_true rfl⟩) (q_PV (T := TX12) (N := 57) hK hN hW h_this (by decide) rfl) rfl rfl hl.1 rfl (lv_room (Nat.le_of_ble_eq_true rfl)) dX12_slipItem_54 ⟨Nat.le_refl _, Nat.le_refl _⟩) hS (fun H locs hW hS => ?_)
        refine lv_if_ne (tgt := 62) hx hb dX12_slipItem_57 (by decide) (fun c => ?_) (fun c => ?_)
        · have hf := g_neg c hf
          refine lv_aload_n hx hb dX12_slipItem_62 rfl (lv_at hl 0 rfl) ?_
          refine q_getp (own := RX12) (ref := RX12) (C := RX12) (T := TX12) (N := 57) (kc := 9) (ci := 0) hx hb hts hin12 hown hK hW h_this (by decide) rfl 15 (by decide) hw6 rfl rfl rfl (v := 609) rfl dX12_slipItem_63 (fun hk_20 hq_21 => ?_)
          refine lv_bipush (v := 12) hx hb dX12_slipItem_66 (by decide) ?_
          refine lv_aload_n hx hb dX12_slipItem_68 rfl (lv_at hl 0 rfl) ?_
          refine q_getp (own := RX12) (ref := RX12) (C := RX12) (T := TX12) (N := 57) (kc := 9) (ci := 0) hx hb hts hin12 hown hK hW h_this (by decide) rfl 13 (by decide) hw0 rfl rfl rfl (v := 607) rfl dX12_slipItem_69 (fun hk_22 hq_23 => ?_)
          refine lv_iconst (v := 4) hx hb dX12_slipItem_72 (by decide) ?_
          obtain ⟨hi_24, hf⟩ := g_in hf
          refine q_iald hx hb hK hW hk_22 (inb_of hq_23 hi_24) dX12_slipItem_73 ?_
          refine lv_iadd hx hb dX12_slipItem_74 ?_
          refine lv_aload_n hx hb dX12_slipItem_75 rfl (lv_at hl 0 rfl) ?_
          refine q_geti (own := RX12) (ref := RX12) (C := RX12) (T := TX12) (N := 57) (kc := 9) (ci := 0) hx hb hts hin12 hown hK hW h_this (by decide) rfl 24 (by decide) hw3 rfl rfl dX12_slipItem_76 ?_
          obtain ⟨hi_25, hf⟩ := g_in hf
          refine q_iast hx hb hK hW hS hk_20 (inb_of hq_21 hi_25) dX12_slipItem_79 (fun H locs hW hS => ?_)
          obtain ⟨σ_26, eσ_26⟩ : ∃ y : Mm, y = (Mm.si σ_18 609 (ix (12 + (Mm.gi σ_18 607 (ix 4)))) (Mm.gi σ_18 this 24)) := ⟨_, rfl⟩
          rw [← eσ_26] at hW
          have hf := g_lt eσ_26 hf
          refine lv_aload_n hx hb dX12_slipItem_80 rfl (lv_at hl 0 rfl) ?_
          refine q_getp (own := RX12) (ref := RX12) (C := RX12) (T := TX12) (N := 57) (kc := 9) (ci := 0) hx hb hts hin12 hown hK hW h_this (by decide) rfl 13 (by decide) hw0 rfl rfl rfl (v := 607) rfl dX12_slipItem_81 (fun hk_27 hq_28 => ?_)
          refine lv_iconst (v := 4) hx hb dX12_slipItem_84 (by decide) ?_
          refine lv_dup2_11 hx hb dX12_slipItem_85 rfl rfl ?_
          obtain ⟨hi_29, hf⟩ := g_in hf
          refine q_iald hx hb hK hW hk_27 (inb_of hq_28 hi_29) dX12_slipItem_86 ?_
          refine lv_iconst (v := 1) hx hb dX12_slipItem_87 (by decide) ?_
          refine lv_iadd hx hb dX12_slipItem_88 ?_
          obtain ⟨hi_30, hf⟩ := g_in hf
          refine q_iast hx hb hK hW hS hk_27 (inb_of hq_28 hi_30) dX12_slipItem_89 (fun H locs hW hS => ?_)
          obtain ⟨σ_31, eσ_31⟩ : ∃ y : Mm, y = (Mm.si σ_26 607 (ix 4) ((Mm.gi σ_26 607 (ix 4)) + 1)) := ⟨_, rfl⟩
          rw [← eσ_31] at hW
          have hf := g_lt eσ_31 hf
          refine lv_iconst (v := 1) hx hb dX12_slipItem_90 (by decide) ?_
          exact q_zret hx hb hr hlocks hW hS hf dX12_slipItem_91
        · have hf := g_pos c hf
          refine lv_iconst (v := 0) hx hb dX12_slipItem_60 (by decide) ?_
          exact q_zret hx hb hr hlocks hW hS hf dX12_slipItem_61
    · have hf := g_pos c hf
      refine lv_iconst (v := 0) hx hb dX12_slipItem_20 (by decide) ?_
      exact q_zret hx hb hr hlocks hW hS hf dX12_slipItem_21
set_option maxRecDepth 100000 in
set_option maxHeartbeats 40000000 in
theorem k_X12_item (l : Launch) (z n : Nat) (D : va_G) (cy : Nat → ClassId) (Y : Yt) {fu : Nat} {this : Nat} {σ : Mm} {r : Int32} {σ1 : Mm} (h_this : okk Y n 9 this) (hf : f_X12_item Y fu this σ = some (r, σ1)) : Ki l yX12_item wsX12_item ({ frames := 4, cells := 0, slots := 0, locals := 90 } : Room) z n D cy Y [.ref (z + this)] σ r σ1 := by
  refine Met.ofW (cc := cX12_item) (maxL := 3) (ret := (some .boolean)) (by decide +kernel) rfl ?_
  intro p e s m args below meth c s₁ B hml hv
  obtain ⟨rfl, hW, hK, hN⟩ := hv
  have hx := B.exec
  have hb := B.bytes
  have hr := B.returns
  have hts := atoms_spec (ws := wsX12_item) B.pre
  have hown : s.vm.findClass RX12 = some m.cls := findClass_of_methodNamed B.named
  have hlocks := B.notSynchronized
  have hS : va_S (Az z) s.heap s.heap [] := va_S.rf
  have hin12 : ∀ w ∈ wsX120, w ∈ wsX12_item := fun w h => List.mem_cons_of_mem _ (List.mem_append_right _ h)
  have hw0 := hts (.fieldLink RX12 67 "SkyClocksModel" "text" "[I") (List.mem_of_getElem? (i := 1) rfl)
  have hw1 := hts (.fieldLink RX12 191 "SkyClocksModel" "pos" "I") (List.mem_of_getElem? (i := 2) rfl)
  have hw2 := hts (.fieldLink RX12 214 "SkyClocksModel" "items" "I") (List.mem_of_getElem? (i := 3) rfl)
  have hw3 := hts (.fieldLink RX12 46 "SkyClocksModel" "longer" "[I") (List.mem_of_getElem? (i := 13) rfl)
  have hw4 := hts (.fieldLink RX12 204 "SkyClocksModel" "figure" "I") (List.mem_of_getElem? (i := 7) rfl)
  have hw5 := hts (.fieldLink RX12 222 "SkyClocksModel" "hadLonger" "Z") (List.mem_of_getElem? (i := 11) rfl)
  have hw6 := hts (.constant RX12 157 (-100000)) (List.mem_of_getElem? (i := 12) rfl)
  have hw7 := hts (.constant RX12 170 (100000)) (List.mem_of_getElem? (i := 4) rfl)
  have hw8 := hts (.fieldLink RX12 43 "SkyClocksModel" "zero" "[I") (List.mem_of_getElem? (i := 10) rfl)
  have hw9 := hts (.fieldLink RX12 218 "SkyClocksModel" "hadZero" "Z") (List.mem_of_getElem? (i := 8) rfl)
  have hw10 := hts (.constant RX12 207 (1000000)) (List.mem_of_getElem? (i := 9) rfl)
  have hw11 := hts (.fieldLink RX12 40 "SkyClocksModel" "period" "[I") (List.mem_of_getElem? (i := 6) rfl)
  have hw12 := hts (.constant RX12 217 (100000000)) (List.mem_of_getElem? (i := 5) rfl)
  have hl := lv_entry ([.ref (z + this)]) (n := 3) (Nat.le_of_ble_eq_true rfl)
  rw [lg_entry_eq]
  generalize (lg_sl ([.ref (z + this)]) ++ List.replicate (3 - (lg_sl ([.ref (z + this)])).length) Slot.unset).toArray = ls at hl ⊢
  have hl : lv_has ls 3 [(0, .ref (z + this))] := hl
  have B229 : ∀ (x2 : Int32) (σ : Mm), b_X12_item_229 Y fu this x2 σ = some (r, σ1) → ∀ (H : Heap) (locs : List Loc) (ls : Array Slot), WH z n D cy Y σ H → va_S (Az z) s.heap H locs → lv_has ls 3 [(0, .ref (z + this)), (2, .int x2)] → W p l e ({ frames := 4, cells := 0, slots := 0, locals := 90 } : Room) s m ([.ref (z + this)] : List Value).toArray below meth c H locs 0 0 (MQ below (va_Qi (fun (x : Int32) (_ : Unit) => x = r) (fun _ t => WH z n D cy Y σ1 t.heap) (Az z)) ([.ref (z + this)] : List Value).toArray s 0 0 (Az z)) (F0 m 229 ls []) := by
    intro  x2 σ  hf H locs ls hW hS hl
    refine lv_iload_n hx hb dX12_item_229 rfl (lv_at hl 1 rfl) ?_
    refine lv_if_eq (tgt := 246) hx hb dX12_item_230 (by decide) (fun c => ?_) (fun c => ?_)
    · have hf := g_pos c hf
      refine lv_iconst (v := 0) hx hb dX12_item_246 (by decide) ?_
      exact q_zret hx hb hr hlocks hW hS hf dX12_item_247
    · have hf := g_neg c hf
      refine lv_aload_n hx hb dX12_item_233 rfl (lv_at hl 0 rfl) ?_
      refine lv_bipush (v := 59) hx hb dX12_item_234 (by decide) ?_
      obtain ⟨r_8, σ_7, hc_6, hf⟩ := g_bnd hf
      refine q_calli (va_runV (As := [.int 59]) (rest := []) ⟨hx, hb, hml, hown, hts⟩ (k_X12_skip l z n D cy Y h_this hc_6) (cwV 1 hts gX12_item_X12_skip rfl rfl rfl (by decide +kernel) ⟨Nat.le_of_ble_eq_true rfl, Nat.le_of_ble_eq_true rfl⟩) (q_PV (T := TX12) (N := 57) hK hN hW h_this (by decide) rfl) rfl rfl hl.1 rfl (lv_room (Nat.le_of_ble_eq_true rfl)) dX12_item_236 ⟨Nat.le_refl _, Nat.le_refl _⟩) hS (fun H locs hW hS => ?_)
      refine lv_if_eq (tgt := 246) hx hb dX12_item_239 (by decide) (fun c => ?_) (fun c => ?_)
      · have hf := g_pos c hf
        refine lv_iconst (v := 0) hx hb dX12_item_246 (by decide) ?_
        exact q_zret hx hb hr hlocks hW hS hf dX12_item_247
      · have hf := g_neg c hf
        refine lv_iconst (v := 1) hx hb dX12_item_242 (by decide) ?_
        refine lv_goto (tgt := 247) hx hb dX12_item_243 (by decide) ?_
        exact q_zret hx hb hr hlocks hW hS hf dX12_item_247
  have B228 : ∀ (t0 : Int32) (σ : Mm), b_X12_item_228 Y fu this t0 σ = some (r, σ1) → ∀ (H : Heap) (locs : List Loc) (ls : Array Slot), WH z n D cy Y σ H → va_S (Az z) s.heap H locs → lv_has ls 3 [(0, .ref (z + this))] → W p l e ({ frames := 4, cells := 0, slots := 0, locals := 90 } : Room) s m ([.ref (z + this)] : List Value).toArray below meth c H locs 0 0 (MQ below (va_Qi (fun (x : Int32) (_ : Unit) => x = r) (fun _ t => WH z n D cy Y σ1 t.heap) (Az z)) ([.ref (z + this)] : List Value).toArray s 0 0 (Az z)) (F0 m 228 ls [.int t0]) := by
    intro  t0 σ  hf H locs ls hW hS hl
    refine lv_istore_n (lv' := [(2, .int t0), (0, .ref (z + this))]) hx hb dX12_item_228 rfl hl (by decide) rfl (fun ls hl => ?_)
    exact B229 t0 σ hf _ _ _ hW hS (lv_sub hl [1, 0] rfl)
  have B227 : ∀ (σ : Mm), b_X12_item_227 Y fu this σ = some (r, σ1) → ∀ (H : Heap) (locs : List Loc) (ls : Array Slot), WH z n D cy Y σ H → va_S (Az z) s.heap H locs → lv_has ls 3 [(0, .ref (z + this))] → W p l e ({ frames := 4, cells := 0, slots := 0, locals := 90 } : Room) s m ([.ref (z + this)] : List Value).toArray below meth c H locs 0 0 (MQ below (va_Qi (fun (x : Int32) (_ : Unit) => x = r) (fun _ t => WH z n D cy Y σ1 t.heap) (Az z)) ([.ref (z + this)] : List Value).toArray s 0 0 (Az z)) (F0 m 227 ls []) := by
    intro  σ  hf H locs ls hW hS hl
    refine lv_iconst (v := 0) hx hb dX12_item_227 (by decide) ?_
    exact B228 0 σ hf _ _ _ hW hS (lv_sub hl [0] rfl)
  have B199 : ∀ (t0 : Int32) (σ : Mm), b_X12_item_199 Y fu this t0 σ = some (r, σ1) → ∀ (H : Heap) (locs : List Loc) (ls : Array Slot), WH z n D cy Y σ H → va_S (Az z) s.heap H locs → lv_has ls 3 [(0, .ref (z + this))] → W p l e ({ frames := 4, cells := 0, slots := 0, locals := 90 } : Room) s m ([.ref (z + this)] : List Value).toArray below meth c H locs 0 0 (MQ below (va_Qi (fun (x : Int32) (_ : Unit) => x = r) (fun _ t => WH z n D cy Y σ1 t.heap) (Az z)) ([.ref (z + this)] : List Value).toArray s 0 0 (Az z)) (F0 m 199 ls [.int t0]) := by
    intro  t0 σ  hf H locs ls hW hS hl
    refine lv_istore_n (lv' := [(2, .int t0), (0, .ref (z + this))]) hx hb dX12_item_199 rfl hl (by decide) rfl (fun ls hl => ?_)
    refine lv_goto (tgt := 229) hx hb dX12_item_200 (by decide) ?_
    exact B229 t0 σ hf _ _ _ hW hS (lv_sub hl [1, 0] rfl)
  have B198 : ∀ (σ : Mm), b_X12_item_198 Y fu this σ = some (r, σ1) → ∀ (H : Heap) (locs : List Loc) (ls : Array Slot), WH z n D cy Y σ H → va_S (Az z) s.heap H locs → lv_has ls 3 [(0, .ref (z + this))] → W p l e ({ frames := 4, cells := 0, slots := 0, locals := 90 } : Room) s m ([.ref (z + this)] : List Value).toArray below meth c H locs 0 0 (MQ below (va_Qi (fun (x : Int32) (_ : Unit) => x = r) (fun _ t => WH z n D cy Y σ1 t.heap) (Az z)) ([.ref (z + this)] : List Value).toArray s 0 0 (Az z)) (F0 m 198 ls []) := by
    intro  σ  hf H locs ls hW hS hl
    refine lv_iconst (v := 0) hx hb dX12_item_198 (by decide) ?_
    exact B199 0 σ hf _ _ _ hW hS (lv_sub hl [0] rfl)
  have B155 : ∀ (t0 : Int32) (σ : Mm), b_X12_item_155 Y fu this t0 σ = some (r, σ1) → ∀ (H : Heap) (locs : List Loc) (ls : Array Slot), WH z n D cy Y σ H → va_S (Az z) s.heap H locs → lv_has ls 3 [(0, .ref (z + this))] → W p l e ({ frames := 4, cells := 0, slots := 0, locals := 90 } : Room) s m ([.ref (z + this)] : List Value).toArray below meth c H locs 0 0 (MQ below (va_Qi (fun (x : Int32) (_ : Unit) => x = r) (fun _ t => WH z n D cy Y σ1 t.heap) (Az z)) ([.ref (z + this)] : List Value).toArray s 0 0 (Az z)) (F0 m 155 ls [.int t0]) := by
    intro  t0 σ  hf H locs ls hW hS hl
    refine lv_istore_n (lv' := [(2, .int t0), (0, .ref (z + this))]) hx hb dX12_item_155 rfl hl (by decide) rfl (fun ls hl => ?_)
    refine lv_aload_n hx hb dX12_item_156 rfl (lv_at hl 1 rfl) ?_
    refine q_getp (own := RX12) (ref := RX12) (C := RX12) (T := TX12) (N := 57) (kc := 9) (ci := 0) hx hb hts hin12 hown hK hW h_this (by decide) rfl 12 (by decide) hw3 rfl rfl rfl (v := 606) rfl dX12_item_157 (fun hk_15 hq_16 => ?_)
    refine lv_iconst (v := 4) hx hb dX12_item_160 (by decide) ?_
    refine lv_aload_n hx hb dX12_item_161 rfl (lv_at hl 1 rfl) ?_
    refine q_geti (own := RX12) (ref := RX12) (C := RX12) (T := TX12) (N := 57) (kc := 9) (ci := 0) hx hb hts hin12 hown hK hW h_this (by decide) rfl 24 (by decide) hw4 rfl rfl dX12_item_162 ?_
    obtain ⟨hi_17, hf⟩ := g_in hf
    refine q_iast hx hb hK hW hS hk_15 (inb_of hq_16 hi_17) dX12_item_165 (fun H locs hW hS => ?_)
    obtain ⟨σ_18, eσ_18⟩ : ∃ y : Mm, y = (Mm.si σ 606 (ix 4) (Mm.gi σ this 24)) := ⟨_, rfl⟩
    rw [← eσ_18] at hW
    have hf := g_lt eσ_18 hf
    refine lv_aload_n hx hb dX12_item_166 rfl (lv_at hl 1 rfl) ?_
    refine lv_iconst (v := 1) hx hb dX12_item_167 (by decide) ?_
    refine q_puti (own := RX12) (ref := RX12) (C := RX12) (T := TX12) (N := 57) (kc := 9) (ci := 0) hx hb hts hin12 tyX12_ok nmX12 hown hK hW hS h_this (by decide) rfl 27 (by decide) hw5 rfl rfl (ty := .boolean) (tyX12_ok 27 (by decide)) rfl rfl rfl dX12_item_168 (fun H locs hW hS => ?_)
    obtain ⟨σ_19, eσ_19⟩ : ∃ y : Mm, y = (Mm.si σ_18 this 27 1) := ⟨_, rfl⟩
    rw [← eσ_19] at hW
    have hf := g_lt eσ_19 hf
    refine lv_goto (tgt := 229) hx hb dX12_item_171 (by decide) ?_
    exact B229 t0 σ_19 hf _ _ _ hW hS (lv_sub hl [1, 0] rfl)
  have B154 : ∀ (σ : Mm), b_X12_item_154 Y fu this σ = some (r, σ1) → ∀ (H : Heap) (locs : List Loc) (ls : Array Slot), WH z n D cy Y σ H → va_S (Az z) s.heap H locs → lv_has ls 3 [(0, .ref (z + this))] → W p l e ({ frames := 4, cells := 0, slots := 0, locals := 90 } : Room) s m ([.ref (z + this)] : List Value).toArray below meth c H locs 0 0 (MQ below (va_Qi (fun (x : Int32) (_ : Unit) => x = r) (fun _ t => WH z n D cy Y σ1 t.heap) (Az z)) ([.ref (z + this)] : List Value).toArray s 0 0 (Az z)) (F0 m 154 ls []) := by
    intro  σ  hf H locs ls hW hS hl
    refine lv_iconst (v := 0) hx hb dX12_item_154 (by decide) ?_
    exact B155 0 σ hf _ _ _ hW hS (lv_sub hl [0] rfl)
  have B100 : ∀ (t0 : Int32) (σ : Mm), b_X12_item_100 Y fu this t0 σ = some (r, σ1) → ∀ (H : Heap) (locs : List Loc) (ls : Array Slot), WH z n D cy Y σ H → va_S (Az z) s.heap H locs → lv_has ls 3 [(0, .ref (z + this))] → W p l e ({ frames := 4, cells := 0, slots := 0, locals := 90 } : Room) s m ([.ref (z + this)] : List Value).toArray below meth c H locs 0 0 (MQ below (va_Qi (fun (x : Int32) (_ : Unit) => x = r) (fun _ t => WH z n D cy Y σ1 t.heap) (Az z)) ([.ref (z + this)] : List Value).toArray s 0 0 (Az z)) (F0 m 100 ls [.int t0]) := by
    intro  t0 σ  hf H locs ls hW hS hl
    refine lv_istore_n (lv' := [(2, .int t0), (0, .ref (z + this))]) hx hb dX12_item_100 rfl hl (by decide) rfl (fun ls hl => ?_)
    refine lv_aload_n hx hb dX12_item_101 rfl (lv_at hl 1 rfl) ?_
    refine q_getp (own := RX12) (ref := RX12) (C := RX12) (T := TX12) (N := 57) (kc := 9) (ci := 0) hx hb hts hin12 hown hK hW h_this (by decide) rfl 11 (by decide) hw8 rfl rfl rfl (v := 605) rfl dX12_item_102 (fun hk_23 hq_24 => ?_)
    refine lv_iconst (v := 4) hx hb dX12_item_105 (by decide) ?_
    refine lv_aload_n hx hb dX12_item_106 rfl (lv_at hl 1 rfl) ?_
    refine q_geti (own := RX12) (ref := RX12) (C := RX12) (T := TX12) (N := 57) (kc := 9) (ci := 0) hx hb hts hin12 hown hK hW h_this (by decide) rfl 24 (by decide) hw4 rfl rfl dX12_item_107 ?_
    obtain ⟨hi_25, hf⟩ := g_in hf
    refine q_iast hx hb hK hW hS hk_23 (inb_of hq_24 hi_25) dX12_item_110 (fun H locs hW hS => ?_)
    obtain ⟨σ_26, eσ_26⟩ : ∃ y : Mm, y = (Mm.si σ 605 (ix 4) (Mm.gi σ this 24)) := ⟨_, rfl⟩
    rw [← eσ_26] at hW
    have hf := g_lt eσ_26 hf
    refine lv_aload_n hx hb dX12_item_111 rfl (lv_at hl 1 rfl) ?_
    refine lv_iconst (v := 1) hx hb dX12_item_112 (by decide) ?_
    refine q_puti (own := RX12) (ref := RX12) (C := RX12) (T := TX12) (N := 57) (kc := 9) (ci := 0) hx hb hts hin12 tyX12_ok nmX12 hown hK hW hS h_this (by decide) rfl 26 (by decide) hw9 rfl rfl (ty := .boolean) (tyX12_ok 26 (by decide)) rfl rfl rfl dX12_item_113 (fun H locs hW hS => ?_)
    obtain ⟨σ_27, eσ_27⟩ : ∃ y : Mm, y = (Mm.si σ_26 this 26 1) := ⟨_, rfl⟩
    rw [← eσ_27] at hW
    have hf := g_lt eσ_27 hf
    refine lv_goto (tgt := 229) hx hb dX12_item_116 (by decide) ?_
    exact B229 t0 σ_27 hf _ _ _ hW hS (lv_sub hl [1, 0] rfl)
  have B99 : ∀ (σ : Mm), b_X12_item_99 Y fu this σ = some (r, σ1) → ∀ (H : Heap) (locs : List Loc) (ls : Array Slot), WH z n D cy Y σ H → va_S (Az z) s.heap H locs → lv_has ls 3 [(0, .ref (z + this))] → W p l e ({ frames := 4, cells := 0, slots := 0, locals := 90 } : Room) s m ([.ref (z + this)] : List Value).toArray below meth c H locs 0 0 (MQ below (va_Qi (fun (x : Int32) (_ : Unit) => x = r) (fun _ t => WH z n D cy Y σ1 t.heap) (Az z)) ([.ref (z + this)] : List Value).toArray s 0 0 (Az z)) (F0 m 99 ls []) := by
    intro  σ  hf H locs ls hW hS hl
    refine lv_iconst (v := 0) hx hb dX12_item_99 (by decide) ?_
    exact B100 0 σ hf _ _ _ hW hS (lv_sub hl [0] rfl)
  have B51 : ∀ (t0 : Int32) (σ : Mm), b_X12_item_51 Y fu this t0 σ = some (r, σ1) → ∀ (H : Heap) (locs : List Loc) (ls : Array Slot), WH z n D cy Y σ H → va_S (Az z) s.heap H locs → lv_has ls 3 [(0, .ref (z + this))] → W p l e ({ frames := 4, cells := 0, slots := 0, locals := 90 } : Room) s m ([.ref (z + this)] : List Value).toArray below meth c H locs 0 0 (MQ below (va_Qi (fun (x : Int32) (_ : Unit) => x = r) (fun _ t => WH z n D cy Y σ1 t.heap) (Az z)) ([.ref (z + this)] : List Value).toArray s 0 0 (Az z)) (F0 m 51 ls [.int t0]) := by
    intro  t0 σ  hf H locs ls hW hS hl
    refine lv_istore_n (lv' := [(2, .int t0), (0, .ref (z + this))]) hx hb dX12_item_51 rfl hl (by decide) rfl (fun ls hl => ?_)
    refine lv_aload_n hx hb dX12_item_52 rfl (lv_at hl 1 rfl) ?_
    refine q_getp (own := RX12) (ref := RX12) (C := RX12) (T := TX12) (N := 57) (kc := 9) (ci := 0) hx hb hts hin12 hown hK hW h_this (by decide) rfl 10 (by decide) hw11 rfl rfl rfl (v := 604) rfl dX12_item_53 (fun hk_31 hq_32 => ?_)
    refine lv_iconst (v := 4) hx hb dX12_item_56 (by decide) ?_
    refine lv_aload_n hx hb dX12_item_57 rfl (lv_at hl 1 rfl) ?_
    refine q_geti (own := RX12) (ref := RX12) (C := RX12) (T := TX12) (N := 57) (kc := 9) (ci := 0) hx hb hts hin12 hown hK hW h_this (by decide) rfl 24 (by decide) hw4 rfl rfl dX12_item_58 ?_
    obtain ⟨hi_33, hf⟩ := g_in hf
    refine q_iast hx hb hK hW hS hk_31 (inb_of hq_32 hi_33) dX12_item_61 (fun H locs hW hS => ?_)
    obtain ⟨σ_34, eσ_34⟩ : ∃ y : Mm, y = (Mm.si σ 604 (ix 4) (Mm.gi σ this 24)) := ⟨_, rfl⟩
    rw [← eσ_34] at hW
    have hf := g_lt eσ_34 hf
    refine lv_goto (tgt := 229) hx hb dX12_item_62 (by decide) ?_
    exact B229 t0 σ_34 hf _ _ _ hW hS (lv_sub hl [1, 0] rfl)
  have B50 : ∀ (σ : Mm), b_X12_item_50 Y fu this σ = some (r, σ1) → ∀ (H : Heap) (locs : List Loc) (ls : Array Slot), WH z n D cy Y σ H → va_S (Az z) s.heap H locs → lv_has ls 3 [(0, .ref (z + this))] → W p l e ({ frames := 4, cells := 0, slots := 0, locals := 90 } : Room) s m ([.ref (z + this)] : List Value).toArray below meth c H locs 0 0 (MQ below (va_Qi (fun (x : Int32) (_ : Unit) => x = r) (fun _ t => WH z n D cy Y σ1 t.heap) (Az z)) ([.ref (z + this)] : List Value).toArray s 0 0 (Az z)) (F0 m 50 ls []) := by
    intro  σ  hf H locs ls hW hS hl
    refine lv_iconst (v := 0) hx hb dX12_item_50 (by decide) ?_
    exact B51 0 σ hf _ _ _ hW hS (lv_sub hl [0] rfl)
  refine lv_aload_n hx hb dX12_item_0 rfl (lv_at hl 0 rfl) ?_
  refine q_getp (own := RX12) (ref := RX12) (C := RX12) (T := TX12) (N := 57) (kc := 9) (ci := 0) hx hb hts hin12 hown hK hW h_this (by decide) rfl 19 (by decide) hw0 rfl rfl rfl (v := 613) rfl dX12_item_1 (fun hk_1 hq_2 => ?_)
  refine lv_aload_n hx hb dX12_item_4 rfl (lv_at hl 0 rfl) ?_
  refine q_geti (own := RX12) (ref := RX12) (C := RX12) (T := TX12) (N := 57) (kc := 9) (ci := 0) hx hb hts hin12 hown hK hW h_this (by decide) rfl 23 (by decide) hw1 rfl rfl dX12_item_5 ?_
  obtain ⟨hi_3, hf⟩ := g_in hf
  refine q_iald hx hb hK hW hk_1 (inb_of hq_2 hi_3) dX12_item_8 ?_
  refine lv_topi (fun x1_4 ex1_4 => ?_)
  have hf := g_lt ex1_4 hf
  refine lv_istore_n (lv' := [(1, .int x1_4), (0, .ref (z + this))]) hx hb dX12_item_9 rfl hl (by decide) rfl (fun ls hl => ?_)
  refine lv_aload_n hx hb dX12_item_10 rfl (lv_at hl 1 rfl) ?_
  refine lv_dup hx hb dX12_item_11 rfl ?_
  refine q_geti (own := RX12) (ref := RX12) (C := RX12) (T := TX12) (N := 57) (kc := 9) (ci := 0) hx hb hts hin12 hown hK hW h_this (by decide) rfl 23 (by decide) hw1 rfl rfl dX12_item_12 ?_
  refine lv_iconst (v := 1) hx hb dX12_item_15 (by decide) ?_
  refine lv_iadd hx hb dX12_item_16 ?_
  refine q_puti (own := RX12) (ref := RX12) (C := RX12) (T := TX12) (N := 57) (kc := 9) (ci := 0) hx hb hts hin12 tyX12_ok nmX12 hown hK hW hS h_this (by decide) rfl 23 (by decide) hw1 rfl rfl (ty := .int) (tyX12_ok 23 (by decide)) rfl rfl rfl dX12_item_17 (fun H locs hW hS => ?_)
  obtain ⟨σ_5, eσ_5⟩ : ∃ y : Mm, y = (Mm.si σ this 23 ((Mm.gi σ this 23) + 1)) := ⟨_, rfl⟩
  rw [← eσ_5] at hW
  have hf := g_lt eσ_5 hf
  refine lv_iconst (v := 0) hx hb dX12_item_20 (by decide) ?_
  refine lv_istore_n (lv' := [(2, .int 0), (1, .int x1_4), (0, .ref (z + this))]) hx hb dX12_item_21 rfl hl (by decide) rfl (fun ls hl => ?_)
  refine lv_iload_n hx hb dX12_item_22 rfl (lv_at hl 1 rfl) ?_
  refine lv_bipush (v := 112) hx hb dX12_item_23 (by decide) ?_
  refine lv_icmp_ne (tgt := 65) hx hb dX12_item_25 (by decide) (fun c => ?_) (fun c => ?_)
  · have hf := g_neg c hf
    refine lv_iload_n hx hb dX12_item_65 rfl (lv_at hl 1 rfl) ?_
    refine lv_bipush (v := 122) hx hb dX12_item_66 (by decide) ?_
    refine lv_icmp_ne (tgt := 119) hx hb dX12_item_68 (by decide) (fun c => ?_) (fun c => ?_)
    · have hf := g_neg c hf
      refine lv_iload_n hx hb dX12_item_119 rfl (lv_at hl 1 rfl) ?_
      refine lv_bipush (v := 100) hx hb dX12_item_120 (by decide) ?_
      refine lv_icmp_ne (tgt := 174) hx hb dX12_item_122 (by decide) (fun c => ?_) (fun c => ?_)
      · have hf := g_neg c hf
        refine lv_iload_n hx hb dX12_item_174 rfl (lv_at hl 1 rfl) ?_
        refine lv_bipush (v := 115) hx hb dX12_item_175 (by decide) ?_
        refine lv_icmp_ne (tgt := 203) hx hb dX12_item_177 (by decide) (fun c => ?_) (fun c => ?_)
        · have hf := g_neg c hf
          refine lv_iload_n hx hb dX12_item_203 rfl (lv_at hl 1 rfl) ?_
          refine lv_bipush (v := 99) hx hb dX12_item_204 (by decide) ?_
          refine lv_icmp_ne (tgt := 229) hx hb dX12_item_206 (by decide) (fun c => ?_) (fun c => ?_)
          · have hf := g_neg c hf
            exact B229 0 σ_5 hf _ _ _ hW hS (lv_sub hl [2, 0] rfl)
          · have hf := g_pos c hf
            refine lv_aload_n hx hb dX12_item_209 rfl (lv_at hl 2 rfl) ?_
            refine q_geti (own := RX12) (ref := RX12) (C := RX12) (T := TX12) (N := 57) (kc := 9) (ci := 0) hx hb hts hin12 hown hK hW h_this (by decide) rfl 25 (by decide) hw2 rfl rfl dX12_item_210 ?_
            refine lv_if_le (tgt := 227) hx hb dX12_item_213 (by decide) (fun c => ?_) (fun c => ?_)
            · have hf := g_pos c hf
              exact B227 σ_5 hf _ _ _ hW hS (lv_sub hl [2] rfl)
            · have hf := g_neg c hf
              refine lv_aload_n hx hb dX12_item_216 rfl (lv_at hl 2 rfl) ?_
              obtain ⟨r_11, σ_10, hc_9, hf⟩ := g_bnd hf
              refine q_calli (va_runV (As := []) (rest := []) ⟨hx, hb, hml, hown, hts⟩ (k_X12_friendItem l z n D cy Y h_this hc_9) (cwV 0 hts gX12_item_X12_friendItem rfl rfl rfl (by decide +kernel) ⟨Nat.le_of_ble_eq_true rfl, Nat.le_of_ble_eq_true rfl⟩) (q_PV (T := TX12) (N := 57) hK hN hW h_this (by decide) rfl) rfl rfl hl.1 rfl (lv_room (Nat.le_of_ble_eq_true rfl)) dX12_item_217 ⟨Nat.le_refl _, Nat.le_refl _⟩) hS (fun H locs hW hS => ?_)
              refine lv_if_eq (tgt := 227) hx hb dX12_item_220 (by decide) (fun c => ?_) (fun c => ?_)
              · have hf := g_pos c hf
                exact B227 σ_10 hf _ _ _ hW hS (lv_sub hl [2] rfl)
              · have hf := g_neg c hf
                refine lv_iconst (v := 1) hx hb dX12_item_223 (by decide) ?_
                refine lv_goto (tgt := 228) hx hb dX12_item_224 (by decide) ?_
                exact B228 1 σ_10 hf _ _ _ hW hS (lv_sub hl [2] rfl)
        · have hf := g_pos c hf
          refine lv_aload_n hx hb dX12_item_180 rfl (lv_at hl 2 rfl) ?_
          refine q_geti (own := RX12) (ref := RX12) (C := RX12) (T := TX12) (N := 57) (kc := 9) (ci := 0) hx hb hts hin12 hown hK hW h_this (by decide) rfl 25 (by decide) hw2 rfl rfl dX12_item_181 ?_
          refine lv_if_le (tgt := 198) hx hb dX12_item_184 (by decide) (fun c => ?_) (fun c => ?_)
          · have hf := g_pos c hf
            exact B198 σ_5 hf _ _ _ hW hS (lv_sub hl [2] rfl)
          · have hf := g_neg c hf
            refine lv_aload_n hx hb dX12_item_187 rfl (lv_at hl 2 rfl) ?_
            obtain ⟨r_14, σ_13, hc_12, hf⟩ := g_bnd hf
            refine q_calli (va_runV (As := []) (rest := []) ⟨hx, hb, hml, hown, hts⟩ (k_X12_slipItem l z n D cy Y h_this hc_12) (cwV 0 hts gX12_item_X12_slipItem rfl rfl rfl (by decide +kernel) ⟨Nat.le_of_ble_eq_true rfl, Nat.le_of_ble_eq_true rfl⟩) (q_PV (T := TX12) (N := 57) hK hN hW h_this (by decide) rfl) rfl rfl hl.1 rfl (lv_room (Nat.le_of_ble_eq_true rfl)) dX12_item_188 ⟨Nat.le_refl _, Nat.le_refl _⟩) hS (fun H locs hW hS => ?_)
            refine lv_if_eq (tgt := 198) hx hb dX12_item_191 (by decide) (fun c => ?_) (fun c => ?_)
            · have hf := g_pos c hf
              exact B198 σ_13 hf _ _ _ hW hS (lv_sub hl [2] rfl)
            · have hf := g_neg c hf
              refine lv_iconst (v := 1) hx hb dX12_item_194 (by decide) ?_
              refine lv_goto (tgt := 199) hx hb dX12_item_195 (by decide) ?_
              exact B199 1 σ_13 hf _ _ _ hW hS (lv_sub hl [2] rfl)
      · have hf := g_pos c hf
        refine lv_aload_n hx hb dX12_item_125 rfl (lv_at hl 2 rfl) ?_
        refine q_geti (own := RX12) (ref := RX12) (C := RX12) (T := TX12) (N := 57) (kc := 9) (ci := 0) hx hb hts hin12 hown hK hW h_this (by decide) rfl 25 (by decide) hw2 rfl rfl dX12_item_126 ?_
        refine lv_if_le (tgt := 154) hx hb dX12_item_129 (by decide) (fun c => ?_) (fun c => ?_)
        · have hf := g_pos c hf
          exact B154 σ_5 hf _ _ _ hW hS (lv_sub hl [2] rfl)
        · have hf := g_neg c hf
          refine lv_aload_n hx hb dX12_item_132 rfl (lv_at hl 2 rfl) ?_
          refine q_geti (own := RX12) (ref := RX12) (C := RX12) (T := TX12) (N := 57) (kc := 9) (ci := 0) hx hb hts hin12 hown hK hW h_this (by decide) rfl 27 (by decide) hw5 rfl rfl dX12_item_133 ?_
          refine lv_if_ne (tgt := 154) hx hb dX12_item_136 (by decide) (fun c => ?_) (fun c => ?_)
          · have hf := g_neg c hf
            exact B154 σ_5 hf _ _ _ hW hS (lv_sub hl [2] rfl)
          · have hf := g_pos c hf
            refine lv_aload_n hx hb dX12_item_139 rfl (lv_at hl 2 rfl) ?_
            refine lv_ldc hx hb hown hw6 dX12_item_140 ?_
            refine lv_ldc hx hb hown hw7 dX12_item_142 ?_
            obtain ⟨r_22, σ_21, hc_20, hf⟩ := g_bnd hf
            refine q_calli (va_runV (As := [.int (-100000), .int 100000]) (rest := []) ⟨hx, hb, hml, hown, hts⟩ (k_X12_number l z n D cy Y h_this hc_20) (cwV 2 hts gX12_item_X12_number rfl rfl rfl (by decide +kernel) ⟨Nat.le_of_ble_eq_true rfl, Nat.le_of_ble_eq_true rfl⟩) (q_PV (T := TX12) (N := 57) hK hN hW h_this (by decide) rfl) rfl rfl hl.1 rfl (lv_room (Nat.le_of_ble_eq_true rfl)) dX12_item_144 ⟨Nat.le_refl _, Nat.le_refl _⟩) hS (fun H locs hW hS => ?_)
            refine lv_if_eq (tgt := 154) hx hb dX12_item_147 (by decide) (fun c => ?_) (fun c => ?_)
            · have hf := g_pos c hf
              exact B154 σ_21 hf _ _ _ hW hS (lv_sub hl [2] rfl)
            · have hf := g_neg c hf
              refine lv_iconst (v := 1) hx hb dX12_item_150 (by decide) ?_
              refine lv_goto (tgt := 155) hx hb dX12_item_151 (by decide) ?_
              exact B155 1 σ_21 hf _ _ _ hW hS (lv_sub hl [2] rfl)
    · have hf := g_pos c hf
      refine lv_aload_n hx hb dX12_item_71 rfl (lv_at hl 2 rfl) ?_
      refine q_geti (own := RX12) (ref := RX12) (C := RX12) (T := TX12) (N := 57) (kc := 9) (ci := 0) hx hb hts hin12 hown hK hW h_this (by decide) rfl 25 (by decide) hw2 rfl rfl dX12_item_72 ?_
      refine lv_if_le (tgt := 99) hx hb dX12_item_75 (by decide) (fun c => ?_) (fun c => ?_)
      · have hf := g_pos c hf
        exact B99 σ_5 hf _ _ _ hW hS (lv_sub hl [2] rfl)
      · have hf := g_neg c hf
        refine lv_aload_n hx hb dX12_item_78 rfl (lv_at hl 2 rfl) ?_
        refine q_geti (own := RX12) (ref := RX12) (C := RX12) (T := TX12) (N := 57) (kc := 9) (ci := 0) hx hb hts hin12 hown hK hW h_this (by decide) rfl 26 (by decide) hw9 rfl rfl dX12_item_79 ?_
        refine lv_if_ne (tgt := 99) hx hb dX12_item_82 (by decide) (fun c => ?_) (fun c => ?_)
        · have hf := g_neg c hf
          exact B99 σ_5 hf _ _ _ hW hS (lv_sub hl [2] rfl)
        · have hf := g_pos c hf
          refine lv_aload_n hx hb dX12_item_85 rfl (lv_at hl 2 rfl) ?_
          refine lv_iconst (v := 0) hx hb dX12_item_86 (by decide) ?_
          refine lv_ldc hx hb hown hw10 dX12_item_87 ?_
          obtain ⟨r_30, σ_29, hc_28, hf⟩ := g_bnd hf
          refine q_calli (va_runV (As := [.int 0, .int 1000000]) (rest := []) ⟨hx, hb, hml, hown, hts⟩ (k_X12_number l z n D cy Y h_this hc_28) (cwV 2 hts gX12_item_X12_number rfl rfl rfl (by decide +kernel) ⟨Nat.le_of_ble_eq_true rfl, Nat.le_of_ble_eq_true rfl⟩) (q_PV (T := TX12) (N := 57) hK hN hW h_this (by decide) rfl) rfl rfl hl.1 rfl (lv_room (Nat.le_of_ble_eq_true rfl)) dX12_item_89 ⟨Nat.le_refl _, Nat.le_refl _⟩) hS (fun H locs hW hS => ?_)
          refine lv_if_eq (tgt := 99) hx hb dX12_item_92 (by decide) (fun c => ?_) (fun c => ?_)
          · have hf := g_pos c hf
            exact B99 σ_29 hf _ _ _ hW hS (lv_sub hl [2] rfl)
          · have hf := g_neg c hf
            refine lv_iconst (v := 1) hx hb dX12_item_95 (by decide) ?_
            refine lv_goto (tgt := 100) hx hb dX12_item_96 (by decide) ?_
            exact B100 1 σ_29 hf _ _ _ hW hS (lv_sub hl [2] rfl)
  · have hf := g_pos c hf
    refine lv_aload_n hx hb dX12_item_28 rfl (lv_at hl 2 rfl) ?_
    refine q_geti (own := RX12) (ref := RX12) (C := RX12) (T := TX12) (N := 57) (kc := 9) (ci := 0) hx hb hts hin12 hown hK hW h_this (by decide) rfl 25 (by decide) hw2 rfl rfl dX12_item_29 ?_
    refine lv_if_ne (tgt := 50) hx hb dX12_item_32 (by decide) (fun c => ?_) (fun c => ?_)
    · have hf := g_neg c hf
      exact B50 σ_5 hf _ _ _ hW hS (lv_sub hl [2] rfl)
    · have hf := g_pos c hf
      refine lv_aload_n hx hb dX12_item_35 rfl (lv_at hl 2 rfl) ?_
      refine lv_ldc hx hb hown hw7 dX12_item_36 ?_
      refine lv_ldc hx hb hown hw12 dX12_item_38 ?_
      obtain ⟨r_37, σ_36, hc_35, hf⟩ := g_bnd hf
      refine q_calli (va_runV (As := [.int 100000, .int 100000000]) (rest := []) ⟨hx, hb, hml, hown, hts⟩ (k_X12_number l z n D cy Y h_this hc_35) (cwV 2 hts gX12_item_X12_number rfl rfl rfl (by decide +kernel) ⟨Nat.le_of_ble_eq_true rfl, Nat.le_of_ble_eq_true rfl⟩) (q_PV (T := TX12) (N := 57) hK hN hW h_this (by decide) rfl) rfl rfl hl.1 rfl (lv_room (Nat.le_of_ble_eq_true rfl)) dX12_item_40 ⟨Nat.le_refl _, Nat.le_refl _⟩) hS (fun H locs hW hS => ?_)
      refine lv_if_eq (tgt := 50) hx hb dX12_item_43 (by decide) (fun c => ?_) (fun c => ?_)
      · have hf := g_pos c hf
        exact B50 σ_36 hf _ _ _ hW hS (lv_sub hl [2] rfl)
      · have hf := g_neg c hf
        refine lv_iconst (v := 1) hx hb dX12_item_46 (by decide) ?_
        refine lv_goto (tgt := 51) hx hb dX12_item_47 (by decide) ?_
        exact B51 1 σ_36 hf _ _ _ hW hS (lv_sub hl [2] rfl)
set_option maxRecDepth 100000 in
set_option maxHeartbeats 40000000 in
theorem k_X12_fault (l : Launch) (z n : Nat) (D : va_G) (cy : Nat → ClassId) (Y : Yt) {fu : Nat} {this : Nat} {σ : Mm} {r : Int32} {σ1 : Mm} (h_this : okk Y n 9 this) (hf : f_X12_fault Y fu this σ = some (r, σ1)) : Ki l yX12_fault wsX12_fault ({ frames := 5, cells := 0, slots := 0, locals := 112 } : Room) z n D cy Y [.ref (z + this)] σ r σ1 := by
  refine Met.ofW (cc := cX12_fault) (maxL := 2) (ret := (some .int)) (by decide +kernel) rfl ?_
  intro p e s m args below meth c s₁ B hml hv
  obtain ⟨rfl, hW, hK, hN⟩ := hv
  have hx := B.exec
  have hb := B.bytes
  have hr := B.returns
  have hts := atoms_spec (ws := wsX12_fault) B.pre
  have hown : s.vm.findClass RX12 = some m.cls := findClass_of_methodNamed B.named
  have hlocks := B.notSynchronized
  have hS : va_S (Az z) s.heap s.heap [] := va_S.rf
  have hin12 : ∀ w ∈ wsX120, w ∈ wsX12_fault := fun w h => List.mem_cons_of_mem _ (List.mem_append_right _ h)
  have hw0 := hts (.fieldLink RX12 191 "SkyClocksModel" "pos" "I") (List.mem_of_getElem? (i := 1) rfl)
  have hw1 := hts (.fieldLink RX12 214 "SkyClocksModel" "items" "I") (List.mem_of_getElem? (i := 2) rfl)
  have hw2 := hts (.fieldLink RX12 218 "SkyClocksModel" "hadZero" "Z") (List.mem_of_getElem? (i := 3) rfl)
  have hw3 := hts (.fieldLink RX12 222 "SkyClocksModel" "hadLonger" "Z") (List.mem_of_getElem? (i := 4) rfl)
  have hw4 := hts (.fieldLink RX12 43 "SkyClocksModel" "zero" "[I") (List.mem_of_getElem? (i := 5) rfl)
  have hw5 := hts (.fieldLink RX12 46 "SkyClocksModel" "longer" "[I") (List.mem_of_getElem? (i := 6) rfl)
  have hw6 := hts (.fieldLink RX12 49 "SkyClocksModel" "slipMany" "[I") (List.mem_of_getElem? (i := 7) rfl)
  have hw7 := hts (.fieldLink RX12 58 "SkyClocksModel" "friendMany" "[I") (List.mem_of_getElem? (i := 8) rfl)
  have hw8 := hts (.fieldLink RX12 186 "SkyClocksModel" "length" "I") (List.mem_of_getElem? (i := 9) rfl)
  have hl := lv_entry ([.ref (z + this)]) (n := 2) (Nat.le_of_ble_eq_true rfl)
  rw [lg_entry_eq]
  generalize (lg_sl ([.ref (z + this)]) ++ List.replicate (2 - (lg_sl ([.ref (z + this)])).length) Slot.unset).toArray = ls at hl ⊢
  have hl : lv_has ls 2 [(0, .ref (z + this))] := hl
  have B57 : ∀ (nn : Nat) (σ : Mm), b_X12_fault_57 Y fu this nn σ = some (r, σ1) → ∀ (H : Heap) (locs : List Loc) (ls : Array Slot), WH z n D cy Y σ H → va_S (Az z) s.heap H locs → lv_has ls 2 [(0, .ref (z + this))] → W p l e ({ frames := 5, cells := 0, slots := 0, locals := 112 } : Room) s m ([.ref (z + this)] : List Value).toArray below meth c H locs 0 0 (MQ below (va_Qi (fun (x : Int32) (_ : Unit) => x = r) (fun _ t => WH z n D cy Y σ1 t.heap) (Az z)) ([.ref (z + this)] : List Value).toArray s 0 0 (Az z)) (F0 m 57 ls []) := by
    intro nn
    induction nn with
    | zero =>
      intro σ  hf
      have h9 : (none : Option (Int32 × Mm)) = some (r, σ1) := hf
      cases h9
    | succ nn H57 =>
      intro σ  hf H locs ls hW hS hl
      have hf : s_X12_fault_57 Y fu this (b_X12_fault_57 Y fu this nn) σ = some (r, σ1) := hf
      generalize hkk : b_X12_fault_57 Y fu this nn = k57 at hf H57
      refine lv_aload_n hx hb dX12_fault_57 rfl (lv_at hl 0 rfl) ?_
      refine q_geti (own := RX12) (ref := RX12) (C := RX12) (T := TX12) (N := 57) (kc := 9) (ci := 0) hx hb hts hin12 hown hK hW h_this (by decide) rfl 23 (by decide) hw0 rfl rfl dX12_fault_58 ?_
      refine lv_aload_n hx hb dX12_fault_61 rfl (lv_at hl 0 rfl) ?_
      refine q_geti (own := RX12) (ref := RX12) (C := RX12) (T := TX12) (N := 57) (kc := 9) (ci := 0) hx hb hts hin12 hown hK hW h_this (by decide) rfl 20 (by decide) hw8 rfl rfl dX12_fault_62 ?_
      refine lv_icmp_ge (tgt := 95) hx hb dX12_fault_65 (by decide) (fun c => ?_) (fun c => ?_)
      · have hf := g_pos c hf
        refine lv_bipush (v := (-4)) hx hb dX12_fault_95 (by decide) ?_
        exact q_iret hx hb hr hlocks hW hS hf dX12_fault_97
      · have hf := g_neg c hf
        refine lv_aload_n hx hb dX12_fault_68 rfl (lv_at hl 0 rfl) ?_
        refine q_geti (own := RX12) (ref := RX12) (C := RX12) (T := TX12) (N := 57) (kc := 9) (ci := 0) hx hb hts hin12 hown hK hW h_this (by decide) rfl 23 (by decide) hw0 rfl rfl dX12_fault_69 ?_
        refine lv_topi (fun x1_21 ex1_21 => ?_)
        have hf := g_lt ex1_21 hf
        refine lv_istore_n (lv' := [(1, .int x1_21), (0, .ref (z + this))]) hx hb dX12_fault_72 rfl hl (by decide) rfl (fun ls hl => ?_)
        refine lv_aload_n hx hb dX12_fault_73 rfl (lv_at hl 1 rfl) ?_
        obtain ⟨r_24, σ_23, hc_22, hf⟩ := g_bnd hf
        refine q_calli (va_runV (As := []) (rest := []) ⟨hx, hb, hml, hown, hts⟩ (k_X12_item l z n D cy Y h_this hc_22) (cwV 0 hts gX12_fault_X12_item rfl rfl rfl (by decide +kernel) ⟨Nat.le_of_ble_eq_true rfl, Nat.le_of_ble_eq_true rfl⟩) (q_PV (T := TX12) (N := 57) hK hN hW h_this (by decide) rfl) rfl rfl hl.1 rfl (lv_room (Nat.le_of_ble_eq_true rfl)) dX12_fault_74 ⟨Nat.le_refl _, Nat.le_refl _⟩) hS (fun H locs hW hS => ?_)
        refine lv_if_ne (tgt := 82) hx hb dX12_fault_77 (by decide) (fun c => ?_) (fun c => ?_)
        · have hf := g_neg c hf
          refine lv_aload_n hx hb dX12_fault_82 rfl (lv_at hl 1 rfl) ?_
          refine lv_dup hx hb dX12_fault_83 rfl ?_
          refine q_geti (own := RX12) (ref := RX12) (C := RX12) (T := TX12) (N := 57) (kc := 9) (ci := 0) hx hb hts hin12 hown hK hW h_this (by decide) rfl 25 (by decide) hw1 rfl rfl dX12_fault_84 ?_
          refine lv_iconst (v := 1) hx hb dX12_fault_87 (by decide) ?_
          refine lv_iadd hx hb dX12_fault_88 ?_
          refine q_puti (own := RX12) (ref := RX12) (C := RX12) (T := TX12) (N := 57) (kc := 9) (ci := 0) hx hb hts hin12 tyX12_ok nmX12 hown hK hW hS h_this (by decide) rfl 25 (by decide) hw1 rfl rfl (ty := .int) (tyX12_ok 25 (by decide)) rfl rfl rfl dX12_fault_89 (fun H locs hW hS => ?_)
          obtain ⟨σ_25, eσ_25⟩ : ∃ y : Mm, y = (Mm.si σ_23 this 25 ((Mm.gi σ_23 this 25) + 1)) := ⟨_, rfl⟩
          rw [← eσ_25] at hW
          have hf := g_lt eσ_25 hf
          refine lv_goto (tgt := 57) hx hb dX12_fault_92 (by decide) ?_
          exact H57 σ_25 hf _ _ _ hW hS (lv_sub hl [1] rfl)
        · have hf := g_pos c hf
          refine lv_iload_n hx hb dX12_fault_80 rfl (lv_at hl 0 rfl) ?_
          exact q_iret hx hb hr hlocks hW hS hf dX12_fault_81
  refine lv_aload_n hx hb dX12_fault_0 rfl (lv_at hl 0 rfl) ?_
  refine lv_iconst (v := 0) hx hb dX12_fault_1 (by decide) ?_
  refine q_puti (own := RX12) (ref := RX12) (C := RX12) (T := TX12) (N := 57) (kc := 9) (ci := 0) hx hb hts hin12 tyX12_ok nmX12 hown hK hW hS h_this (by decide) rfl 23 (by decide) hw0 rfl rfl (ty := .int) (tyX12_ok 23 (by decide)) rfl rfl rfl dX12_fault_2 (fun H locs hW hS => ?_)
  obtain ⟨σ_1, eσ_1⟩ : ∃ y : Mm, y = (Mm.si σ this 23 0) := ⟨_, rfl⟩
  rw [← eσ_1] at hW
  have hf := g_lt eσ_1 hf
  refine lv_aload_n hx hb dX12_fault_5 rfl (lv_at hl 0 rfl) ?_
  refine lv_iconst (v := 0) hx hb dX12_fault_6 (by decide) ?_
  refine q_puti (own := RX12) (ref := RX12) (C := RX12) (T := TX12) (N := 57) (kc := 9) (ci := 0) hx hb hts hin12 tyX12_ok nmX12 hown hK hW hS h_this (by decide) rfl 25 (by decide) hw1 rfl rfl (ty := .int) (tyX12_ok 25 (by decide)) rfl rfl rfl dX12_fault_7 (fun H locs hW hS => ?_)
  obtain ⟨σ_2, eσ_2⟩ : ∃ y : Mm, y = (Mm.si σ_1 this 25 0) := ⟨_, rfl⟩
  rw [← eσ_2] at hW
  have hf := g_lt eσ_2 hf
  refine lv_aload_n hx hb dX12_fault_10 rfl (lv_at hl 0 rfl) ?_
  refine lv_iconst (v := 0) hx hb dX12_fault_11 (by decide) ?_
  refine q_puti (own := RX12) (ref := RX12) (C := RX12) (T := TX12) (N := 57) (kc := 9) (ci := 0) hx hb hts hin12 tyX12_ok nmX12 hown hK hW hS h_this (by decide) rfl 26 (by decide) hw2 rfl rfl (ty := .boolean) (tyX12_ok 26 (by decide)) rfl rfl rfl dX12_fault_12 (fun H locs hW hS => ?_)
  obtain ⟨σ_3, eσ_3⟩ : ∃ y : Mm, y = (Mm.si σ_2 this 26 0) := ⟨_, rfl⟩
  rw [← eσ_3] at hW
  have hf := g_lt eσ_3 hf
  refine lv_aload_n hx hb dX12_fault_15 rfl (lv_at hl 0 rfl) ?_
  refine lv_iconst (v := 0) hx hb dX12_fault_16 (by decide) ?_
  refine q_puti (own := RX12) (ref := RX12) (C := RX12) (T := TX12) (N := 57) (kc := 9) (ci := 0) hx hb hts hin12 tyX12_ok nmX12 hown hK hW hS h_this (by decide) rfl 27 (by decide) hw3 rfl rfl (ty := .boolean) (tyX12_ok 27 (by decide)) rfl rfl rfl dX12_fault_17 (fun H locs hW hS => ?_)
  obtain ⟨σ_4, eσ_4⟩ : ∃ y : Mm, y = (Mm.si σ_3 this 27 0) := ⟨_, rfl⟩
  rw [← eσ_4] at hW
  have hf := g_lt eσ_4 hf
  refine lv_aload_n hx hb dX12_fault_20 rfl (lv_at hl 0 rfl) ?_
  refine q_getp (own := RX12) (ref := RX12) (C := RX12) (T := TX12) (N := 57) (kc := 9) (ci := 0) hx hb hts hin12 hown hK hW h_this (by decide) rfl 11 (by decide) hw4 rfl rfl rfl (v := 605) rfl dX12_fault_21 (fun hk_5 hq_6 => ?_)
  refine lv_iconst (v := 4) hx hb dX12_fault_24 (by decide) ?_
  refine lv_iconst (v := 0) hx hb dX12_fault_25 (by decide) ?_
  obtain ⟨hi_7, hf⟩ := g_in hf
  refine q_iast hx hb hK hW hS hk_5 (inb_of hq_6 hi_7) dX12_fault_26 (fun H locs hW hS => ?_)
  obtain ⟨σ_8, eσ_8⟩ : ∃ y : Mm, y = (Mm.si σ_4 605 (ix 4) 0) := ⟨_, rfl⟩
  rw [← eσ_8] at hW
  have hf := g_lt eσ_8 hf
  refine lv_aload_n hx hb dX12_fault_27 rfl (lv_at hl 0 rfl) ?_
  refine q_getp (own := RX12) (ref := RX12) (C := RX12) (T := TX12) (N := 57) (kc := 9) (ci := 0) hx hb hts hin12 hown hK hW h_this (by decide) rfl 12 (by decide) hw5 rfl rfl rfl (v := 606) rfl dX12_fault_28 (fun hk_9 hq_10 => ?_)
  refine lv_iconst (v := 4) hx hb dX12_fault_31 (by decide) ?_
  refine lv_iconst (v := 0) hx hb dX12_fault_32 (by decide) ?_
  obtain ⟨hi_11, hf⟩ := g_in hf
  refine q_iast hx hb hK hW hS hk_9 (inb_of hq_10 hi_11) dX12_fault_33 (fun H locs hW hS => ?_)
  obtain ⟨σ_12, eσ_12⟩ : ∃ y : Mm, y = (Mm.si σ_8 606 (ix 4) 0) := ⟨_, rfl⟩
  rw [← eσ_12] at hW
  have hf := g_lt eσ_12 hf
  refine lv_aload_n hx hb dX12_fault_34 rfl (lv_at hl 0 rfl) ?_
  refine q_getp (own := RX12) (ref := RX12) (C := RX12) (T := TX12) (N := 57) (kc := 9) (ci := 0) hx hb hts hin12 hown hK hW h_this (by decide) rfl 13 (by decide) hw6 rfl rfl rfl (v := 607) rfl dX12_fault_35 (fun hk_13 hq_14 => ?_)
  refine lv_iconst (v := 4) hx hb dX12_fault_38 (by decide) ?_
  refine lv_iconst (v := 0) hx hb dX12_fault_39 (by decide) ?_
  obtain ⟨hi_15, hf⟩ := g_in hf
  refine q_iast hx hb hK hW hS hk_13 (inb_of hq_14 hi_15) dX12_fault_40 (fun H locs hW hS => ?_)
  obtain ⟨σ_16, eσ_16⟩ : ∃ y : Mm, y = (Mm.si σ_12 607 (ix 4) 0) := ⟨_, rfl⟩
  rw [← eσ_16] at hW
  have hf := g_lt eσ_16 hf
  refine lv_aload_n hx hb dX12_fault_41 rfl (lv_at hl 0 rfl) ?_
  refine q_getp (own := RX12) (ref := RX12) (C := RX12) (T := TX12) (N := 57) (kc := 9) (ci := 0) hx hb hts hin12 hown hK hW h_this (by decide) rfl 16 (by decide) hw7 rfl rfl rfl (v := 610) rfl dX12_fault_42 (fun hk_17 hq_18 => ?_)
  refine lv_iconst (v := 4) hx hb dX12_fault_45 (by decide) ?_
  refine lv_iconst (v := 0) hx hb dX12_fault_46 (by decide) ?_
  obtain ⟨hi_19, hf⟩ := g_in hf
  refine q_iast hx hb hK hW hS hk_17 (inb_of hq_18 hi_19) dX12_fault_47 (fun H locs hW hS => ?_)
  obtain ⟨σ_20, eσ_20⟩ : ∃ y : Mm, y = (Mm.si σ_16 610 (ix 4) 0) := ⟨_, rfl⟩
  rw [← eσ_20] at hW
  have hf := g_lt eσ_20 hf
  refine lv_aload_n hx hb dX12_fault_48 rfl (lv_at hl 0 rfl) ?_
  refine q_geti (own := RX12) (ref := RX12) (C := RX12) (T := TX12) (N := 57) (kc := 9) (ci := 0) hx hb hts hin12 hown hK hW h_this (by decide) rfl 20 (by decide) hw8 rfl rfl dX12_fault_49 ?_
  refine lv_if_ne (tgt := 57) hx hb dX12_fault_52 (by decide) (fun c => ?_) (fun c => ?_)
  · have hf := g_neg c hf
    exact B57 fu σ_20 hf _ _ _ hW hS (lv_sub hl [0] rfl)
  · have hf := g_pos c hf
    refine lv_iconst (v := 0) hx hb dX12_fault_55 (by decide) ?_
    exact q_iret hx hb hr hlocks hW hS hf dX12_fault_56
set_option maxRecDepth 100000 in
set_option maxHeartbeats 40000000 in
theorem k_X12_divisor (l : Launch) (z n : Nat) (D : va_G) (cy : Nat → ClassId) (Y : Yt) {fu : Nat} {a0 : Int64} {a2 : Int64} {σ : Mm} {r : Int64} {σ1 : Mm} (hf : f_X12_divisor Y fu a0 a2 σ = some (r, σ1)) : Kl l yX12_divisor wsX12_divisor ({ frames := 1, cells := 0, slots := 0, locals := 21 } : Room) z n D cy Y [.long a0, .long a2] σ r σ1 := by
  refine Met.ofW (cc := cX12_divisor) (maxL := 10) (ret := (some .long)) (by decide +kernel) rfl ?_
  intro p e s m args below meth c s₁ B hml hv
  obtain ⟨rfl, hW, hK, hN⟩ := hv
  have hx := B.exec
  have hb := B.bytes
  have hr := B.returns
  have hts := atoms_spec (ws := wsX12_divisor) B.pre
  have hown : s.vm.findClass RX12 = some m.cls := findClass_of_methodNamed B.named
  have hlocks := B.notSynchronized
  have hS : va_S (Az z) s.heap s.heap [] := va_S.rf
  have hl := lv_entry ([.long a0, .long a2]) (n := 10) (Nat.le_of_ble_eq_true rfl)
  rw [lg_entry_eq]
  generalize (lg_sl ([.long a0, .long a2]) ++ List.replicate (10 - (lg_sl ([.long a0, .long a2])).length) Slot.unset).toArray = ls at hl ⊢
  have hl : lv_has ls 10 [(0, .long a0), (2, .long a2)] := hl
  have B12 : ∀ (nn : Nat) (x4 : Int64) (x6 : Int64) (σ : Mm), b_X12_divisor_12 Y fu a0 a2 nn x4 x6 σ = some (r, σ1) → ∀ (H : Heap) (locs : List Loc) (ls : Array Slot), WH z n D cy Y σ H → va_S (Az z) s.heap H locs → lv_has ls 10 [(0, .long a0), (2, .long a2), (4, .long x4), (6, .long x6)] → W p l e ({ frames := 1, cells := 0, slots := 0, locals := 21 } : Room) s m ([.long a0, .long a2] : List Value).toArray below meth c H locs 0 0 (MQ below (va_Ql (fun (x : Int64) (_ : Unit) => x = r) (fun _ t => WH z n D cy Y σ1 t.heap) (Az z)) ([.long a0, .long a2] : List Value).toArray s 0 0 (Az z)) (F0 m 12 ls []) := by
    intro nn
    induction nn with
    | zero =>
      intro x4 x6 σ  hf
      have h9 : (none : Option (Int64 × Mm)) = some (r, σ1) := hf
      cases h9
    | succ nn H12 =>
      intro x4 x6 σ  hf H locs ls hW hS hl
      have hf : s_X12_divisor_12 Y fu a0 a2 (b_X12_divisor_12 Y fu a0 a2 nn) x4 x6 σ = some (r, σ1) := hf
      generalize hkk : b_X12_divisor_12 Y fu a0 a2 nn = k12 at hf H12
      refine lv_lload hx hb dX12_divisor_12 (lv_at hl 3 rfl) ?_
      refine lv_lconst (v := 0) hx hb dX12_divisor_14 (by decide) ?_
      refine W.lcmp hx hb dX12_divisor_15 ?_
      refine lv_if_eq (tgt := 37) hx hb dX12_divisor_16 (by decide) (fun c => ?_) (fun c => ?_)
      · have hf := g_pos ((lg_cmp_eq _ _).mp c) hf
        refine lv_lload hx hb dX12_divisor_37 (lv_at hl 2 rfl) ?_
        exact q_lret hx hb hr hlocks hW hS hf dX12_divisor_39
      · have hf := g_neg (fun h => c ((lg_cmp_eq _ _).mpr h)) hf
        refine lv_lload hx hb dX12_divisor_19 (lv_at hl 2 rfl) ?_
        refine lv_lload hx hb dX12_divisor_21 (lv_at hl 3 rfl) ?_
        obtain ⟨hz_7, hf⟩ := g_ne hf
        refine lv_lrem hx hb dX12_divisor_23 hz_7 ?_
        refine lv_topl (fun x8_8 ex8_8 => ?_)
        have hf := g_lt ex8_8 hf
        refine lv_lstore (lv' := [(8, .long x8_8), (0, .long a0), (2, .long a2), (4, .long x4), (6, .long x6)]) hx hb dX12_divisor_24 hl (by decide) rfl (fun ls hl => ?_)
        refine lv_lload hx hb dX12_divisor_26 (lv_at hl 4 rfl) ?_
        refine lv_lstore (lv' := [(4, .long x6), (8, .long x8_8), (0, .long a0), (2, .long a2), (6, .long x6)]) hx hb dX12_divisor_28 hl (by decide) rfl (fun ls hl => ?_)
        refine lv_lload hx hb dX12_divisor_30 (lv_at hl 1 rfl) ?_
        refine lv_lstore (lv' := [(6, .long x8_8), (4, .long x6), (8, .long x8_8), (0, .long a0), (2, .long a2)]) hx hb dX12_divisor_32 hl (by decide) rfl (fun ls hl => ?_)
        refine lv_goto (tgt := 12) hx hb dX12_divisor_34 (by decide) ?_
        exact H12 x6 x8_8 σ hf _ _ _ hW hS (lv_sub hl [3, 4, 1, 0] rfl)
  refine lv_lload_n hx hb dX12_divisor_0 rfl (lv_at hl 0 rfl) ?_
  obtain ⟨r_3, σ_2, hc_1, hf⟩ := g_bnd hf
  refine q_calll (va_runS (As := [.long a0]) (rest := []) ⟨hx, hb, hml, hown, hts⟩ (k_X12_size l z n D cy Y hc_1) (va_cwS 1 hts gX12_divisor_X12_size rfl rfl rfl (by decide +kernel) ⟨Nat.le_of_ble_eq_true rfl, Nat.le_of_ble_eq_true rfl⟩) (q_PS hK hN hW) rfl rfl hl.1 rfl (lv_room (Nat.le_of_ble_eq_true rfl)) dX12_divisor_1 ⟨Nat.le_refl _, Nat.le_refl _⟩) hS (fun H locs hW hS => ?_)
  refine lv_lstore (lv' := [(4, .long r_3), (0, .long a0), (2, .long a2)]) hx hb dX12_divisor_4 hl (by decide) rfl (fun ls hl => ?_)
  refine lv_lload_n hx hb dX12_divisor_6 rfl (lv_at hl 2 rfl) ?_
  obtain ⟨r_6, σ_5, hc_4, hf⟩ := g_bnd hf
  refine q_calll (va_runS (As := [.long a2]) (rest := []) ⟨hx, hb, hml, hown, hts⟩ (k_X12_size l z n D cy Y hc_4) (va_cwS 1 hts gX12_divisor_X12_size rfl rfl rfl (by decide +kernel) ⟨Nat.le_of_ble_eq_true rfl, Nat.le_of_ble_eq_true rfl⟩) (q_PS hK hN hW) rfl rfl hl.1 rfl (lv_room (Nat.le_of_ble_eq_true rfl)) dX12_divisor_7 ⟨Nat.le_refl _, Nat.le_refl _⟩) hS (fun H locs hW hS => ?_)
  refine lv_lstore (lv' := [(6, .long r_6), (4, .long r_3), (0, .long a0), (2, .long a2)]) hx hb dX12_divisor_10 hl (by decide) rfl (fun ls hl => ?_)
  exact B12 fu r_3 r_6 σ_5 hf _ _ _ hW hS (lv_sub hl [2, 3, 1, 0] rfl)
set_option maxRecDepth 100000 in
set_option maxHeartbeats 40000000 in
theorem k_X12_fit (l : Launch) (z n : Nat) (D : va_G) (cy : Nat → ClassId) (Y : Yt) {fu : Nat} {this : Nat} {a1 : Int32} {a2 : Int32} {σ : Mm} {r : Int64} {σ1 : Mm} (h_this : okk Y n 9 this) (hf : f_X12_fit Y fu this a1 a2 σ = some (r, σ1)) : Kl l yX12_fit wsX12_fit ({ frames := 2, cells := 0, slots := 0, locals := 50 } : Room) z n D cy Y [.ref (z + this), .int a1, .int a2] σ r σ1 := by
  refine Met.ofW (cc := cX12_fit) (maxL := 23) (ret := (some .long)) (by decide +kernel) rfl ?_
  intro p e s m args below meth c s₁ B hml hv
  obtain ⟨rfl, hW, hK, hN⟩ := hv
  have hx := B.exec
  have hb := B.bytes
  have hr := B.returns
  have hts := atoms_spec (ws := wsX12_fit) B.pre
  have hown : s.vm.findClass RX12 = some m.cls := findClass_of_methodNamed B.named
  have hlocks := B.notSynchronized
  have hS : va_S (Az z) s.heap s.heap [] := va_S.rf
  have hin12 : ∀ w ∈ wsX120, w ∈ wsX12_fit := fun w h => List.mem_cons_of_mem _ (List.mem_append_right _ h)
  have hw0 := hts (.constantLong RX12 304 (-1000000000000000000)) (List.mem_of_getElem? (i := 2) rfl)
  have hw1 := hts (.constantLong RX12 173 (4)) (List.mem_of_getElem? (i := 1) rfl)
  have hw2 := hts (.fieldLink RX12 301 "SkyClocksModel" "asked" "I") (List.mem_of_getElem? (i := 3) rfl)
  have hw3 := hts (.constantLong RX12 306 (-1000000000000000002)) (List.mem_of_getElem? (i := 5) rfl)
  have hw4 := hts (.fieldLink RX12 282 "SkyClocksModel" "ways" "I") (List.mem_of_getElem? (i := 4) rfl)
  have hw5 := hts (.fieldLink RX12 279 "SkyClocksModel" "length0" "I") (List.mem_of_getElem? (i := 6) rfl)
  have hw6 := hts (.fieldLink RX12 83 "SkyClocksModel" "wayCorrected" "[I") (List.mem_of_getElem? (i := 8) rfl)
  have hw7 := hts (.fieldLink RX12 89 "SkyClocksModel" "wayCounts" "[I") (List.mem_of_getElem? (i := 7) rfl)
  have hw8 := hts (.fieldLink RX12 86 "SkyClocksModel" "wayErr" "[I") (List.mem_of_getElem? (i := 9) rfl)
  have hl := lv_entry ([.ref (z + this), .int a1, .int a2]) (n := 23) (Nat.le_of_ble_eq_true rfl)
  rw [lg_entry_eq]
  generalize (lg_sl ([.ref (z + this), .int a1, .int a2]) ++ List.replicate (23 - (lg_sl ([.ref (z + this), .int a1, .int a2])).length) Slot.unset).toArray = ls at hl ⊢
  have hl : lv_has ls 23 [(0, .ref (z + this)), (1, .int a1), (2, .int a2)] := hl
  have B279 : ∀ (x13 : Int64) (t0 : Int64) (σ : Mm), b_X12_fit_279 Y fu this a1 a2 x13 t0 σ = some (r, σ1) → ∀ (H : Heap) (locs : List Loc) (ls : Array Slot), WH z n D cy Y σ H → va_S (Az z) s.heap H locs → lv_has ls 23 [(0, .ref (z + this)), (1, .int a1), (2, .int a2), (13, .long x13)] → W p l e ({ frames := 2, cells := 0, slots := 0, locals := 50 } : Room) s m ([.ref (z + this), .int a1, .int a2] : List Value).toArray below meth c H locs 0 0 (MQ below (va_Ql (fun (x : Int64) (_ : Unit) => x = r) (fun _ t => WH z n D cy Y σ1 t.heap) (Az z)) ([.ref (z + this), .int a1, .int a2] : List Value).toArray s 0 0 (Az z)) (F0 m 279 ls [.long t0]) := by
    intro  x13 t0 σ  hf H locs ls hW hS hl
    refine lv_lstore (lv' := [(19, .long t0), (0, .ref (z + this)), (1, .int a1), (2, .int a2), (13, .long x13)]) hx hb dX12_fit_279 hl (by decide) rfl (fun ls hl => ?_)
    refine lv_lload hx hb dX12_fit_281 (lv_at hl 0 rfl) ?_
    refine lv_lload hx hb dX12_fit_283 (lv_at hl 4 rfl) ?_
    obtain ⟨r_10, σ_9, hc_8, hf⟩ := g_bnd hf
    refine q_calll (va_runS (As := [.long t0, .long x13]) (rest := []) ⟨hx, hb, hml, hown, hts⟩ (k_X12_divisor l z n D cy Y hc_8) (va_cwS 2 hts gX12_fit_X12_divisor rfl rfl rfl (by decide +kernel) ⟨Nat.le_of_ble_eq_true rfl, Nat.le_of_ble_eq_true rfl⟩) (q_PS hK hN hW) rfl rfl hl.1 rfl (lv_room (Nat.le_of_ble_eq_true rfl)) dX12_fit_285 ⟨Nat.le_refl _, Nat.le_refl _⟩) hS (fun H locs hW hS => ?_)
    refine lv_lstore (lv' := [(21, .long r_10), (19, .long t0), (0, .ref (z + this)), (1, .int a1), (2, .int a2), (13, .long x13)]) hx hb dX12_fit_288 hl (by decide) rfl (fun ls hl => ?_)
    refine lv_iload_n hx hb dX12_fit_290 rfl (lv_at hl 4 rfl) ?_
    refine lv_iconst (v := 2) hx hb dX12_fit_291 (by decide) ?_
    refine lv_irem hx hb dX12_fit_292 (by decide) ?_
    refine lv_if_ne (tgt := 304) hx hb dX12_fit_293 (by decide) (fun c => ?_) (fun c => ?_)
    · have hf := g_neg c hf
      refine lv_lload hx hb dX12_fit_304 (lv_at hl 5 rfl) ?_
      refine lv_lload hx hb dX12_fit_306 (lv_at hl 0 rfl) ?_
      obtain ⟨hz_11, hf⟩ := g_ne hf
      refine lv_ldiv hx hb dX12_fit_308 hz_11 ?_
      exact q_lret hx hb hr hlocks hW hS hf dX12_fit_309
    · have hf := g_pos c hf
      refine lv_lload hx hb dX12_fit_296 (lv_at hl 1 rfl) ?_
      refine lv_lload hx hb dX12_fit_298 (lv_at hl 0 rfl) ?_
      obtain ⟨hz_12, hf⟩ := g_ne hf
      refine lv_ldiv hx hb dX12_fit_300 hz_12 ?_
      refine lv_goto (tgt := 309) hx hb dX12_fit_301 (by decide) ?_
      exact q_lret hx hb hr hlocks hW hS hf dX12_fit_309
  have B254 : ∀ (k185 : Int64 → Int64 → Int64 → Int32 → Int32 → Mm → Option (Int64 × Mm)) (H185 : ∀ (x13 : Int64) (x15 : Int64) (x17 : Int64) (x19 : Int32) (x20 : Int32) (σ : Mm), k185 x13 x15 x17 x19 x20 σ = some (r, σ1) → ∀ (H : Heap) (locs : List Loc) (ls : Array Slot), WH z n D cy Y σ H → va_S (Az z) s.heap H locs → lv_has ls 23 [(0, .ref (z + this)), (1, .int a1), (2, .int a2), (13, .long x13), (15, .long x15), (17, .long x17), (19, .int x19), (20, .int x20)] → W p l e ({ frames := 2, cells := 0, slots := 0, locals := 50 } : Room) s m ([.ref (z + this), .int a1, .int a2] : List Value).toArray below meth c H locs 0 0 (MQ below (va_Ql (fun (x : Int64) (_ : Unit) => x = r) (fun _ t => WH z n D cy Y σ1 t.heap) (Az z)) ([.ref (z + this), .int a1, .int a2] : List Value).toArray s 0 0 (Az z)) (F0 m 185 ls [])) (x13 : Int64) (x15 : Int64) (x17 : Int64) (x20 : Int32) (t0 : Int32) (t1 : Int32) (σ : Mm), b_X12_fit_254 Y fu this a1 a2 k185 x13 x15 x17 x20 t0 t1 σ = some (r, σ1) → ∀ (H : Heap) (locs : List Loc) (ls : Array Slot), WH z n D cy Y σ H → va_S (Az z) s.heap H locs → lv_has ls 23 [(0, .ref (z + this)), (1, .int a1), (2, .int a2), (13, .long x13), (15, .long x15), (17, .long x17), (20, .int x20)] → W p l e ({ frames := 2, cells := 0, slots := 0, locals := 50 } : Room) s m ([.ref (z + this), .int a1, .int a2] : List Value).toArray below meth c H locs 0 0 (MQ below (va_Ql (fun (x : Int64) (_ : Unit) => x = r) (fun _ t => WH z n D cy Y σ1 t.heap) (Az z)) ([.ref (z + this), .int a1, .int a2] : List Value).toArray s 0 0 (Az z)) (F0 m 254 ls [.int t0, .int t1]) := by
    intro k185 H185 x13 x15 x17 x20 t0 t1 σ  hf H locs ls hW hS hl
    refine lv_iadd hx hb dX12_fit_254 ?_
    refine lv_topi (fun x19_26 ex19_26 => ?_)
    have hf := g_lt ex19_26 hf
    refine lv_istore (lv' := [(19, .int x19_26), (0, .ref (z + this)), (1, .int a1), (2, .int a2), (13, .long x13), (15, .long x15), (17, .long x17), (20, .int x20)]) hx hb dX12_fit_255 hl (by decide) rfl (fun ls hl => ?_)
    obtain ⟨x20_27, ex20_27⟩ : ∃ y : Int32, y = x20 + 1 := ⟨_, rfl⟩
    have hf := g_lt ex20_27 hf
    refine lv_iinc (v := x20_27) (lv' := [(20, .int x20_27), (19, .int x19_26), (0, .ref (z + this)), (1, .int a1), (2, .int a2), (13, .long x13), (15, .long x15), (17, .long x17)]) hx hb dX12_fit_257 hl (k := 7) rfl (by rw [ex20_27]; rfl) (by decide) rfl (fun ls hl => ?_)
    refine lv_goto (tgt := 185) hx hb dX12_fit_260 (by decide) ?_
    exact H185 x13 x15 x17 x19_26 x20_27 σ hf _ _ _ hW hS (lv_sub hl [2, 3, 4, 5, 6, 7, 1, 0] rfl)
  have B185 : ∀ (nn : Nat) (x13 : Int64) (x15 : Int64) (x17 : Int64) (x19 : Int32) (x20 : Int32) (σ : Mm), b_X12_fit_185 Y fu this a1 a2 nn x13 x15 x17 x19 x20 σ = some (r, σ1) → ∀ (H : Heap) (locs : List Loc) (ls : Array Slot), WH z n D cy Y σ H → va_S (Az z) s.heap H locs → lv_has ls 23 [(0, .ref (z + this)), (1, .int a1), (2, .int a2), (13, .long x13), (15, .long x15), (17, .long x17), (19, .int x19), (20, .int x20)] → W p l e ({ frames := 2, cells := 0, slots := 0, locals := 50 } : Room) s m ([.ref (z + this), .int a1, .int a2] : List Value).toArray below meth c H locs 0 0 (MQ below (va_Ql (fun (x : Int64) (_ : Unit) => x = r) (fun _ t => WH z n D cy Y σ1 t.heap) (Az z)) ([.ref (z + this), .int a1, .int a2] : List Value).toArray s 0 0 (Az z)) (F0 m 185 ls []) := by
    intro nn
    induction nn with
    | zero =>
      intro x13 x15 x17 x19 x20 σ  hf
      have h9 : (none : Option (Int64 × Mm)) = some (r, σ1) := hf
      cases h9
    | succ nn H185 =>
      intro x13 x15 x17 x19 x20 σ  hf H locs ls hW hS hl
      have hf : s_X12_fit_185 Y fu this a1 a2 (b_X12_fit_185 Y fu this a1 a2 nn) x13 x15 x17 x19 x20 σ = some (r, σ1) := hf
      generalize hkk : b_X12_fit_185 Y fu this a1 a2 nn = k185 at hf H185
      refine lv_iload hx hb dX12_fit_185 (lv_at hl 7 rfl) ?_
      refine lv_aload_n hx hb dX12_fit_187 rfl (lv_at hl 0 rfl) ?_
      refine q_geti (own := RX12) (ref := RX12) (C := RX12) (T := TX12) (N := 57) (kc := 9) (ci := 0) hx hb hts hin12 hown hK hW h_this (by decide) rfl 34 (by decide) hw5 rfl rfl dX12_fit_188 ?_
      refine lv_icmp_ge (tgt := 263) hx hb dX12_fit_191 (by decide) (fun c => ?_) (fun c => ?_)
      · have hf := g_pos c hf
        refine lv_iload hx hb dX12_fit_263 (lv_at hl 6 rfl) ?_
        refine lv_i2l hx hb dX12_fit_265 rfl ?_
        exact q_lret hx hb hr hlocks hW hS hf dX12_fit_266
      · have hf := g_neg c hf
        refine lv_aload_n hx hb dX12_fit_194 rfl (lv_at hl 0 rfl) ?_
        refine q_getp (own := RX12) (ref := RX12) (C := RX12) (T := TX12) (N := 57) (kc := 9) (ci := 0) hx hb hts hin12 hown hK hW h_this (by decide) rfl 35 (by decide) hw6 rfl rfl rfl (v := 618) rfl dX12_fit_195 (fun hk_13 hq_14 => ?_)
        refine lv_iload hx hb dX12_fit_198 (lv_at hl 7 rfl) ?_
        obtain ⟨hi_15, hf⟩ := g_in hf
        refine q_iald hx hb hK hW hk_13 (inb_of hq_14 hi_15) dX12_fit_200 ?_
        refine lv_i2l hx hb dX12_fit_201 rfl ?_
        refine lv_lload hx hb dX12_fit_202 (lv_at hl 3 rfl) ?_
        refine lv_lmul hx hb dX12_fit_204 ?_
        refine lv_lload hx hb dX12_fit_205 (lv_at hl 4 rfl) ?_
        refine lv_lsub hx hb dX12_fit_207 ?_
        refine lv_aload_n hx hb dX12_fit_208 rfl (lv_at hl 0 rfl) ?_
        refine q_getp (own := RX12) (ref := RX12) (C := RX12) (T := TX12) (N := 57) (kc := 9) (ci := 0) hx hb hts hin12 hown hK hW h_this (by decide) rfl 37 (by decide) hw7 rfl rfl rfl (v := 620) rfl dX12_fit_209 (fun hk_16 hq_17 => ?_)
        refine lv_bipush (v := 24) hx hb dX12_fit_212 (by decide) ?_
        refine lv_iload_n hx hb dX12_fit_214 rfl (lv_at hl 1 rfl) ?_
        refine lv_imul hx hb dX12_fit_215 ?_
        refine lv_iload hx hb dX12_fit_216 (lv_at hl 7 rfl) ?_
        refine lv_iadd hx hb dX12_fit_218 ?_
        obtain ⟨hi_18, hf⟩ := g_in hf
        refine q_iald hx hb hK hW hk_16 (inb_of hq_17 hi_18) dX12_fit_219 ?_
        refine lv_i2l hx hb dX12_fit_220 rfl ?_
        refine lv_lload hx hb dX12_fit_221 (lv_at hl 5 rfl) ?_
        refine lv_lmul hx hb dX12_fit_223 ?_
        refine lv_lsub hx hb dX12_fit_224 ?_
        refine lv_topl (fun x21_19 ex21_19 => ?_)
        have hf := g_lt ex21_19 hf
        refine lv_lstore (lv' := [(21, .long x21_19), (0, .ref (z + this)), (1, .int a1), (2, .int a2), (13, .long x13), (15, .long x15), (17, .long x17), (19, .int x19), (20, .int x20)]) hx hb dX12_fit_225 hl (by decide) rfl (fun ls hl => ?_)
        refine lv_iload hx hb dX12_fit_227 (lv_at hl 7 rfl) ?_
        refine lv_lload hx hb dX12_fit_229 (lv_at hl 0 rfl) ?_
        obtain ⟨r_22, σ_21, hc_20, hf⟩ := g_bnd hf
        refine q_calll (va_runS (As := [.long x21_19]) (rest := [.int x19]) ⟨hx, hb, hml, hown, hts⟩ (k_X12_size l z n D cy Y hc_20) (va_cwS 1 hts gX12_fit_X12_size rfl rfl rfl (by decide +kernel) ⟨Nat.le_of_ble_eq_true rfl, Nat.le_of_ble_eq_true rfl⟩) (q_PS hK hN hW) rfl rfl hl.1 rfl (lv_room (Nat.le_of_ble_eq_true rfl)) dX12_fit_231 ⟨Nat.le_refl _, Nat.le_refl _⟩) hS (fun H locs hW hS => ?_)
        refine lv_aload_n hx hb dX12_fit_234 rfl (lv_at hl 1 rfl) ?_
        refine q_getp (own := RX12) (ref := RX12) (C := RX12) (T := TX12) (N := 57) (kc := 9) (ci := 0) hx hb hts hin12 hown hK hW h_this (by decide) rfl 36 (by decide) hw8 rfl rfl rfl (v := 619) rfl dX12_fit_235 (fun hk_23 hq_24 => ?_)
        refine lv_iload hx hb dX12_fit_238 (lv_at hl 8 rfl) ?_
        obtain ⟨hi_25, hf⟩ := g_in hf
        refine q_iald hx hb hK hW hk_23 (inb_of hq_24 hi_25) dX12_fit_240 ?_
        refine lv_i2l hx hb dX12_fit_241 rfl ?_
        refine lv_lload hx hb dX12_fit_242 (lv_at hl 4 rfl) ?_
        refine lv_lmul hx hb dX12_fit_244 ?_
        refine W.lcmp hx hb dX12_fit_245 ?_
        refine lv_if_le (tgt := 253) hx hb dX12_fit_246 (by decide) (fun c => ?_) (fun c => ?_)
        · have hf := g_pos ((lg_cmp_le _ _).mp c) hf
          refine lv_iconst (v := 0) hx hb dX12_fit_253 (by decide) ?_
          exact B254 k185 H185 x13 x15 x17 x20 0 x19 σ_21 hf _ _ _ hW hS (lv_sub hl [1, 2, 3, 4, 5, 6, 8] rfl)
        · have hf := g_neg (fun h => c ((lg_cmp_le _ _).mpr h)) hf
          refine lv_iconst (v := 1) hx hb dX12_fit_249 (by decide) ?_
          refine lv_goto (tgt := 254) hx hb dX12_fit_250 (by decide) ?_
          exact B254 k185 H185 x13 x15 x17 x20 1 x19 σ_21 hf _ _ _ hW hS (lv_sub hl [1, 2, 3, 4, 5, 6, 8] rfl)
  have B61 : ∀ (nn : Nat) (x3 : Int64) (x5 : Int64) (x7 : Int64) (x9 : Int64) (x11 : Int64) (x13 : Int32) (σ : Mm), b_X12_fit_61 Y fu this a1 a2 nn x3 x5 x7 x9 x11 x13 σ = some (r, σ1) → ∀ (H : Heap) (locs : List Loc) (ls : Array Slot), WH z n D cy Y σ H → va_S (Az z) s.heap H locs → lv_has ls 23 [(0, .ref (z + this)), (1, .int a1), (2, .int a2), (3, .long x3), (5, .long x5), (7, .long x7), (9, .long x9), (11, .long x11), (13, .int x13)] → W p l e ({ frames := 2, cells := 0, slots := 0, locals := 50 } : Room) s m ([.ref (z + this), .int a1, .int a2] : List Value).toArray below meth c H locs 0 0 (MQ below (va_Ql (fun (x : Int64) (_ : Unit) => x = r) (fun _ t => WH z n D cy Y σ1 t.heap) (Az z)) ([.ref (z + this), .int a1, .int a2] : List Value).toArray s 0 0 (Az z)) (F0 m 61 ls []) := by
    intro nn
    induction nn with
    | zero =>
      intro x3 x5 x7 x9 x11 x13 σ  hf
      have h9 : (none : Option (Int64 × Mm)) = some (r, σ1) := hf
      cases h9
    | succ nn H61 =>
      intro x3 x5 x7 x9 x11 x13 σ  hf H locs ls hW hS hl
      have hf : s_X12_fit_61 Y fu this a1 a2 (b_X12_fit_61 Y fu this a1 a2 nn) x3 x5 x7 x9 x11 x13 σ = some (r, σ1) := hf
      generalize hkk : b_X12_fit_61 Y fu this a1 a2 nn = k61 at hf H61
      refine lv_iload hx hb dX12_fit_61 (lv_at hl 8 rfl) ?_
      refine lv_aload_n hx hb dX12_fit_63 rfl (lv_at hl 0 rfl) ?_
      refine q_geti (own := RX12) (ref := RX12) (C := RX12) (T := TX12) (N := 57) (kc := 9) (ci := 0) hx hb hts hin12 hown hK hW h_this (by decide) rfl 34 (by decide) hw5 rfl rfl dX12_fit_64 ?_
      refine lv_icmp_ge (tgt := 137) hx hb dX12_fit_67 (by decide) (fun c => ?_) (fun c => ?_)
      · have hf := g_pos c hf
        refine lv_lload_n hx hb dX12_fit_137 rfl (lv_at hl 3 rfl) ?_
        refine lv_lload hx hb dX12_fit_138 (lv_at hl 5 rfl) ?_
        refine lv_lmul hx hb dX12_fit_140 ?_
        refine lv_lload hx hb dX12_fit_141 (lv_at hl 4 rfl) ?_
        refine lv_lload hx hb dX12_fit_143 (lv_at hl 4 rfl) ?_
        refine lv_lmul hx hb dX12_fit_145 ?_
        refine lv_lsub hx hb dX12_fit_146 ?_
        refine lv_topl (fun x13_5 ex13_5 => ?_)
        have hf := g_lt ex13_5 hf
        refine lv_lstore (lv' := [(13, .long x13_5), (0, .ref (z + this)), (1, .int a1), (2, .int a2), (3, .long x3), (5, .long x5), (7, .long x7), (9, .long x9), (11, .long x11)]) hx hb dX12_fit_147 hl (by decide) rfl (fun ls hl => ?_)
        refine lv_lload hx hb dX12_fit_149 (lv_at hl 6 rfl) ?_
        refine lv_lload hx hb dX12_fit_151 (lv_at hl 7 rfl) ?_
        refine lv_lmul hx hb dX12_fit_153 ?_
        refine lv_lload hx hb dX12_fit_154 (lv_at hl 5 rfl) ?_
        refine lv_lload hx hb dX12_fit_156 (lv_at hl 8 rfl) ?_
        refine lv_lmul hx hb dX12_fit_158 ?_
        refine lv_lsub hx hb dX12_fit_159 ?_
        refine lv_topl (fun x15_6 ex15_6 => ?_)
        have hf := g_lt ex15_6 hf
        refine lv_lstore (lv' := [(15, .long x15_6), (13, .long x13_5), (0, .ref (z + this)), (1, .int a1), (2, .int a2), (3, .long x3), (5, .long x5), (7, .long x7), (9, .long x9), (11, .long x11)]) hx hb dX12_fit_160 hl (by decide) rfl (fun ls hl => ?_)
        refine lv_lload_n hx hb dX12_fit_162 rfl (lv_at hl 5 rfl) ?_
        refine lv_lload hx hb dX12_fit_163 (lv_at hl 9 rfl) ?_
        refine lv_lmul hx hb dX12_fit_165 ?_
        refine lv_lload hx hb dX12_fit_166 (lv_at hl 6 rfl) ?_
        refine lv_lload hx hb dX12_fit_168 (lv_at hl 8 rfl) ?_
        refine lv_lmul hx hb dX12_fit_170 ?_
        refine lv_lsub hx hb dX12_fit_171 ?_
        refine lv_topl (fun x17_7 ex17_7 => ?_)
        have hf := g_lt ex17_7 hf
        refine lv_lstore (lv' := [(17, .long x17_7), (15, .long x15_6), (13, .long x13_5), (0, .ref (z + this)), (1, .int a1), (2, .int a2), (3, .long x3), (5, .long x5), (7, .long x7), (9, .long x9), (11, .long x11)]) hx hb dX12_fit_172 hl (by decide) rfl (fun ls hl => ?_)
        refine lv_iload_n hx hb dX12_fit_174 rfl (lv_at hl 5 rfl) ?_
        refine lv_iconst (v := 4) hx hb dX12_fit_175 (by decide) ?_
        refine lv_icmp_ne (tgt := 267) hx hb dX12_fit_176 (by decide) (fun c => ?_) (fun c => ?_)
        · have hf := g_neg c hf
          refine lv_iload_n hx hb dX12_fit_267 rfl (lv_at hl 5 rfl) ?_
          refine lv_iconst (v := 2) hx hb dX12_fit_268 (by decide) ?_
          refine lv_icmp_ge (tgt := 277) hx hb dX12_fit_269 (by decide) (fun c => ?_) (fun c => ?_)
          · have hf := g_pos c hf
            refine lv_lload hx hb dX12_fit_277 (lv_at hl 0 rfl) ?_
            exact B279 x13_5 x17_7 σ hf _ _ _ hW hS (lv_sub hl [3, 4, 5, 2] rfl)
          · have hf := g_neg c hf
            refine lv_lload hx hb dX12_fit_272 (lv_at hl 1 rfl) ?_
            refine lv_goto (tgt := 279) hx hb dX12_fit_274 (by decide) ?_
            exact B279 x13_5 x15_6 σ hf _ _ _ hW hS (lv_sub hl [3, 4, 5, 2] rfl)
        · have hf := g_pos c hf
          refine lv_iconst (v := 0) hx hb dX12_fit_179 (by decide) ?_
          refine lv_istore (lv' := [(19, .int 0), (17, .long x17_7), (15, .long x15_6), (13, .long x13_5), (0, .ref (z + this)), (1, .int a1), (2, .int a2), (3, .long x3), (5, .long x5), (7, .long x7), (9, .long x9), (11, .long x11)]) hx hb dX12_fit_180 hl (by decide) rfl (fun ls hl => ?_)
          refine lv_iconst (v := 0) hx hb dX12_fit_182 (by decide) ?_
          refine lv_istore (lv' := [(20, .int 0), (19, .int 0), (17, .long x17_7), (15, .long x15_6), (13, .long x13_5), (0, .ref (z + this)), (1, .int a1), (2, .int a2), (3, .long x3), (5, .long x5), (7, .long x7), (9, .long x9), (11, .long x11)]) hx hb dX12_fit_183 hl (by decide) rfl (fun ls hl => ?_)
          exact B185 fu x13_5 x15_6 x17_7 0 0 σ hf _ _ _ hW hS (lv_sub hl [5, 6, 7, 4, 3, 2, 1, 0] rfl)
      · have hf := g_neg c hf
        refine lv_aload_n hx hb dX12_fit_70 rfl (lv_at hl 0 rfl) ?_
        refine q_getp (own := RX12) (ref := RX12) (C := RX12) (T := TX12) (N := 57) (kc := 9) (ci := 0) hx hb hts hin12 hown hK hW h_this (by decide) rfl 37 (by decide) hw7 rfl rfl rfl (v := 620) rfl dX12_fit_71 (fun hk_28 hq_29 => ?_)
        refine lv_bipush (v := 24) hx hb dX12_fit_74 (by decide) ?_
        refine lv_iload_n hx hb dX12_fit_76 rfl (lv_at hl 1 rfl) ?_
        refine lv_imul hx hb dX12_fit_77 ?_
        refine lv_iload hx hb dX12_fit_78 (lv_at hl 8 rfl) ?_
        refine lv_iadd hx hb dX12_fit_80 ?_
        obtain ⟨hi_30, hf⟩ := g_in hf
        refine q_iald hx hb hK hW hk_28 (inb_of hq_29 hi_30) dX12_fit_81 ?_
        refine lv_i2l hx hb dX12_fit_82 rfl ?_
        refine lv_topl (fun x14_31 ex14_31 => ?_)
        have hf := g_lt ex14_31 hf
        refine lv_lstore (lv' := [(14, .long x14_31), (0, .ref (z + this)), (1, .int a1), (2, .int a2), (3, .long x3), (5, .long x5), (7, .long x7), (9, .long x9), (11, .long x11), (13, .int x13)]) hx hb dX12_fit_83 hl (by decide) rfl (fun ls hl => ?_)
        refine lv_lload hx hb dX12_fit_85 (lv_at hl 5 rfl) ?_
        refine lv_lload hx hb dX12_fit_87 (lv_at hl 0 rfl) ?_
        refine lv_ladd hx hb dX12_fit_89 ?_
        refine lv_topl (fun x5_32 ex5_32 => ?_)
        have hf := g_lt ex5_32 hf
        refine lv_lstore (lv' := [(5, .long x5_32), (14, .long x14_31), (0, .ref (z + this)), (1, .int a1), (2, .int a2), (3, .long x3), (7, .long x7), (9, .long x9), (11, .long x11), (13, .int x13)]) hx hb dX12_fit_90 hl (by decide) rfl (fun ls hl => ?_)
        refine lv_lload hx hb dX12_fit_92 (lv_at hl 6 rfl) ?_
        refine lv_lload hx hb dX12_fit_94 (lv_at hl 1 rfl) ?_
        refine lv_lload hx hb dX12_fit_96 (lv_at hl 1 rfl) ?_
        refine lv_lmul hx hb dX12_fit_98 ?_
        refine lv_ladd hx hb dX12_fit_99 ?_
        refine lv_topl (fun x7_33 ex7_33 => ?_)
        have hf := g_lt ex7_33 hf
        refine lv_lstore (lv' := [(7, .long x7_33), (5, .long x5_32), (14, .long x14_31), (0, .ref (z + this)), (1, .int a1), (2, .int a2), (3, .long x3), (9, .long x9), (11, .long x11), (13, .int x13)]) hx hb dX12_fit_100 hl (by decide) rfl (fun ls hl => ?_)
        refine lv_lload hx hb dX12_fit_102 (lv_at hl 7 rfl) ?_
        refine lv_aload_n hx hb dX12_fit_104 rfl (lv_at hl 3 rfl) ?_
        refine q_getp (own := RX12) (ref := RX12) (C := RX12) (T := TX12) (N := 57) (kc := 9) (ci := 0) hx hb hts hin12 hown hK hW h_this (by decide) rfl 35 (by decide) hw6 rfl rfl rfl (v := 618) rfl dX12_fit_105 (fun hk_34 hq_35 => ?_)
        refine lv_iload hx hb dX12_fit_108 (lv_at hl 9 rfl) ?_
        obtain ⟨hi_36, hf⟩ := g_in hf
        refine q_iald hx hb hK hW hk_34 (inb_of hq_35 hi_36) dX12_fit_110 ?_
        refine lv_i2l hx hb dX12_fit_111 rfl ?_
        refine lv_ladd hx hb dX12_fit_112 ?_
        refine lv_topl (fun x9_37 ex9_37 => ?_)
        have hf := g_lt ex9_37 hf
        refine lv_lstore (lv' := [(9, .long x9_37), (7, .long x7_33), (5, .long x5_32), (14, .long x14_31), (0, .ref (z + this)), (1, .int a1), (2, .int a2), (3, .long x3), (11, .long x11), (13, .int x13)]) hx hb dX12_fit_113 hl (by decide) rfl (fun ls hl => ?_)
        refine lv_lload hx hb dX12_fit_115 (lv_at hl 8 rfl) ?_
        refine lv_lload hx hb dX12_fit_117 (lv_at hl 3 rfl) ?_
        refine lv_aload_n hx hb dX12_fit_119 rfl (lv_at hl 4 rfl) ?_
        refine q_getp (own := RX12) (ref := RX12) (C := RX12) (T := TX12) (N := 57) (kc := 9) (ci := 0) hx hb hts hin12 hown hK hW h_this (by decide) rfl 35 (by decide) hw6 rfl rfl rfl (v := 618) rfl dX12_fit_120 (fun hk_38 hq_39 => ?_)
        refine lv_iload hx hb dX12_fit_123 (lv_at hl 9 rfl) ?_
        obtain ⟨hi_40, hf⟩ := g_in hf
        refine q_iald hx hb hK hW hk_38 (inb_of hq_39 hi_40) dX12_fit_125 ?_
        refine lv_i2l hx hb dX12_fit_126 rfl ?_
        refine lv_lmul hx hb dX12_fit_127 ?_
        refine lv_ladd hx hb dX12_fit_128 ?_
        refine lv_topl (fun x11_41 ex11_41 => ?_)
        have hf := g_lt ex11_41 hf
        refine lv_lstore (lv' := [(11, .long x11_41), (9, .long x9_37), (7, .long x7_33), (5, .long x5_32), (14, .long x14_31), (0, .ref (z + this)), (1, .int a1), (2, .int a2), (3, .long x3), (13, .int x13)]) hx hb dX12_fit_129 hl (by decide) rfl (fun ls hl => ?_)
        obtain ⟨x13_42, ex13_42⟩ : ∃ y : Int32, y = x13 + 1 := ⟨_, rfl⟩
        have hf := g_lt ex13_42 hf
        refine lv_iinc (v := x13_42) (lv' := [(13, .int x13_42), (11, .long x11_41), (9, .long x9_37), (7, .long x7_33), (5, .long x5_32), (14, .long x14_31), (0, .ref (z + this)), (1, .int a1), (2, .int a2), (3, .long x3)]) hx hb dX12_fit_131 hl (k := 9) rfl (by rw [ex13_42]; rfl) (by decide) rfl (fun ls hl => ?_)
        refine lv_goto (tgt := 61) hx hb dX12_fit_134 (by decide) ?_
        exact H61 x3 x5_32 x7_33 x9_37 x11_41 x13_42 σ hf _ _ _ hW hS (lv_sub hl [6, 7, 8, 9, 4, 3, 2, 1, 0] rfl)
  refine lv_iload_n hx hb dX12_fit_0 rfl (lv_at hl 1 rfl) ?_
  refine lv_if_lt (tgt := 16) hx hb dX12_fit_1 (by decide) (fun c => ?_) (fun c => ?_)
  · have hf := g_pos c hf
    refine lv_ldc2 hx hb hown hw0 dX12_fit_16 ?_
    exact q_lret hx hb hr hlocks hW hS hf dX12_fit_19
  · have hf := g_neg c hf
    refine lv_iload_n hx hb dX12_fit_4 rfl (lv_at hl 2 rfl) ?_
    refine lv_i2l hx hb dX12_fit_5 rfl ?_
    refine lv_lconst (v := 0) hx hb dX12_fit_6 (by decide) ?_
    refine lv_ldc2 hx hb hown hw1 dX12_fit_7 ?_
    obtain ⟨r_3, σ_2, hc_1, hf⟩ := g_bnd hf
    refine q_calli (va_runS (As := [.long (Int32.toInt64 a2), .long 0, .long 4]) (rest := []) ⟨hx, hb, hml, hown, hts⟩ (k_X12_in l z n D cy Y hc_1) (va_cwS 3 hts gX12_fit_X12_in rfl rfl rfl (by decide +kernel) ⟨Nat.le_of_ble_eq_true rfl, Nat.le_of_ble_eq_true rfl⟩) (q_PS hK hN hW) rfl rfl hl.1 rfl (lv_room (Nat.le_of_ble_eq_true rfl)) dX12_fit_10 ⟨Nat.le_refl _, Nat.le_refl _⟩) hS (fun H locs hW hS => ?_)
    refine lv_if_ne (tgt := 20) hx hb dX12_fit_13 (by decide) (fun c => ?_) (fun c => ?_)
    · have hf := g_neg c hf
      refine lv_aload_n hx hb dX12_fit_20 rfl (lv_at hl 0 rfl) ?_
      refine q_geti (own := RX12) (ref := RX12) (C := RX12) (T := TX12) (N := 57) (kc := 9) (ci := 0) hx hb hts hin12 hown hK hW h_this (by decide) rfl 32 (by decide) hw2 rfl rfl dX12_fit_21 ?_
      refine lv_iconst (v := 1) hx hb dX12_fit_24 (by decide) ?_
      refine lv_icmp_ne (tgt := 36) hx hb dX12_fit_25 (by decide) (fun c => ?_) (fun c => ?_)
      · have hf := g_neg c hf
        refine lv_ldc2 hx hb hown hw3 dX12_fit_36 ?_
        exact q_lret hx hb hr hlocks hW hS hf dX12_fit_39
      · have hf := g_pos c hf
        refine lv_iload_n hx hb dX12_fit_28 rfl (lv_at hl 1 rfl) ?_
        refine lv_aload_n hx hb dX12_fit_29 rfl (lv_at hl 0 rfl) ?_
        refine q_geti (own := RX12) (ref := RX12) (C := RX12) (T := TX12) (N := 57) (kc := 9) (ci := 0) hx hb hts hin12 hown hK hW h_this (by decide) rfl 33 (by decide) hw4 rfl rfl dX12_fit_30 ?_
        refine lv_icmp_lt (tgt := 40) hx hb dX12_fit_33 (by decide) (fun c => ?_) (fun c => ?_)
        · have hf := g_pos c hf
          refine lv_aload_n hx hb dX12_fit_40 rfl (lv_at hl 0 rfl) ?_
          refine q_geti (own := RX12) (ref := RX12) (C := RX12) (T := TX12) (N := 57) (kc := 9) (ci := 0) hx hb hts hin12 hown hK hW h_this (by decide) rfl 34 (by decide) hw5 rfl rfl dX12_fit_41 ?_
          refine lv_i2l hx hb dX12_fit_44 rfl ?_
          refine lv_topl (fun x3_4 ex3_4 => ?_)
          have hf := g_lt ex3_4 hf
          refine lv_lstore_n (lv' := [(3, .long x3_4), (0, .ref (z + this)), (1, .int a1), (2, .int a2)]) hx hb dX12_fit_45 rfl hl (by decide) rfl (fun ls hl => ?_)
          refine lv_lconst (v := 0) hx hb dX12_fit_46 (by decide) ?_
          refine lv_lstore (lv' := [(5, .long 0), (3, .long x3_4), (0, .ref (z + this)), (1, .int a1), (2, .int a2)]) hx hb dX12_fit_47 hl (by decide) rfl (fun ls hl => ?_)
          refine lv_lconst (v := 0) hx hb dX12_fit_49 (by decide) ?_
          refine lv_lstore (lv' := [(7, .long 0), (5, .long 0), (3, .long x3_4), (0, .ref (z + this)), (1, .int a1), (2, .int a2)]) hx hb dX12_fit_50 hl (by decide) rfl (fun ls hl => ?_)
          refine lv_lconst (v := 0) hx hb dX12_fit_52 (by decide) ?_
          refine lv_lstore (lv' := [(9, .long 0), (7, .long 0), (5, .long 0), (3, .long x3_4), (0, .ref (z + this)), (1, .int a1), (2, .int a2)]) hx hb dX12_fit_53 hl (by decide) rfl (fun ls hl => ?_)
          refine lv_lconst (v := 0) hx hb dX12_fit_55 (by decide) ?_
          refine lv_lstore (lv' := [(11, .long 0), (9, .long 0), (7, .long 0), (5, .long 0), (3, .long x3_4), (0, .ref (z + this)), (1, .int a1), (2, .int a2)]) hx hb dX12_fit_56 hl (by decide) rfl (fun ls hl => ?_)
          refine lv_iconst (v := 0) hx hb dX12_fit_58 (by decide) ?_
          refine lv_istore (lv' := [(13, .int 0), (11, .long 0), (9, .long 0), (7, .long 0), (5, .long 0), (3, .long x3_4), (0, .ref (z + this)), (1, .int a1), (2, .int a2)]) hx hb dX12_fit_59 hl (by decide) rfl (fun ls hl => ?_)
          exact B61 fu x3_4 0 0 0 0 0 σ_2 hf _ _ _ hW hS (lv_sub hl [6, 7, 8, 5, 4, 3, 2, 1, 0] rfl)
        · have hf := g_neg c hf
          refine lv_ldc2 hx hb hown hw3 dX12_fit_36 ?_
          exact q_lret hx hb hr hlocks hW hS hf dX12_fit_39
    · have hf := g_pos c hf
      refine lv_ldc2 hx hb hown hw0 dX12_fit_16 ?_
      exact q_lret hx hb hr hlocks hW hS hf dX12_fit_19
set_option maxRecDepth 100000 in
set_option maxHeartbeats 40000000 in
theorem k_X12_layBoth (l : Launch) (z n : Nat) (D : va_G) (cy : Nat → ClassId) (Y : Yt) {fu : Nat} {this : Nat} {a1 : Int32} {a2 : Int32} {σ : Mm} {r : Int32} {σ1 : Mm} (h_this : okk Y n 9 this) (hf : f_X12_layBoth Y fu this a1 a2 σ = some (r, σ1)) : Ki l yX12_layBoth wsX12_layBoth ({ frames := 3, cells := 0, slots := 0, locals := 79 } : Room) z n D cy Y [.ref (z + this), .int a1, .int a2] σ r σ1 := by
  refine Met.ofW (cc := cX12_layBoth) (maxL := 4) (ret := (some .boolean)) (by decide +kernel) rfl ?_
  intro p e s m args below meth c s₁ B hml hv
  obtain ⟨rfl, hW, hK, hN⟩ := hv
  have hx := B.exec
  have hb := B.bytes
  have hr := B.returns
  have hts := atoms_spec (ws := wsX12_layBoth) B.pre
  have hown : s.vm.findClass RX12 = some m.cls := findClass_of_methodNamed B.named
  have hlocks := B.notSynchronized
  have hS : va_S (Az z) s.heap s.heap [] := va_S.rf
  have hin12 : ∀ w ∈ wsX120, w ∈ wsX12_layBoth := fun w h => List.mem_cons_of_mem _ (List.mem_append_right _ h)
  have hw0 := hts (.fieldLink RX12 164 "SkyClocksModel" "version" "I") (List.mem_of_getElem? (i := 1) rfl)
  have hw1 := hts (.fieldLink RX12 167 "SkyClocksModel" "counts" "I") (List.mem_of_getElem? (i := 2) rfl)
  have hw2 := hts (.fieldLink RX12 337 "SkyClocksModel" "both" "I") (List.mem_of_getElem? (i := 3) rfl)
  have hw3 := hts (.fieldLink RX12 128 "SkyClocksModel" "second" "[I") (List.mem_of_getElem? (i := 6) rfl)
  have hw4 := hts (.fieldLink RX12 77 "SkyClocksModel" "rest" "[I") (List.mem_of_getElem? (i := 5) rfl)
  have hw5 := hts (.fieldLink RX12 125 "SkyClocksModel" "first" "[I") (List.mem_of_getElem? (i := 4) rfl)
  have hl := lv_entry ([.ref (z + this), .int a1, .int a2]) (n := 4) (Nat.le_of_ble_eq_true rfl)
  rw [lg_entry_eq]
  generalize (lg_sl ([.ref (z + this), .int a1, .int a2]) ++ List.replicate (4 - (lg_sl ([.ref (z + this), .int a1, .int a2])).length) Slot.unset).toArray = ls at hl ⊢
  have hl : lv_has ls 4 [(0, .ref (z + this)), (1, .int a1), (2, .int a2)] := hl
  have B106 : ∀ (nn : Nat) (x3 : Int32) (σ : Mm), b_X12_layBoth_106 Y fu this a1 a2 nn x3 σ = some (r, σ1) → ∀ (H : Heap) (locs : List Loc) (ls : Array Slot), WH z n D cy Y σ H → va_S (Az z) s.heap H locs → lv_has ls 4 [(0, .ref (z + this)), (1, .int a1), (2, .int a2), (3, .int x3)] → W p l e ({ frames := 3, cells := 0, slots := 0, locals := 79 } : Room) s m ([.ref (z + this), .int a1, .int a2] : List Value).toArray below meth c H locs 0 0 (MQ below (va_Qi (fun (x : Int32) (_ : Unit) => x = r) (fun _ t => WH z n D cy Y σ1 t.heap) (Az z)) ([.ref (z + this), .int a1, .int a2] : List Value).toArray s 0 0 (Az z)) (F0 m 106 ls []) := by
    intro nn
    induction nn with
    | zero =>
      intro x3 σ  hf
      have h9 : (none : Option (Int32 × Mm)) = some (r, σ1) := hf
      cases h9
    | succ nn H106 =>
      intro x3 σ  hf H locs ls hW hS hl
      have hf : s_X12_layBoth_106 Y fu this a1 a2 (b_X12_layBoth_106 Y fu this a1 a2 nn) x3 σ = some (r, σ1) := hf
      generalize hkk : b_X12_layBoth_106 Y fu this a1 a2 nn = k106 at hf H106
      refine lv_iload_n hx hb dX12_layBoth_106 rfl (lv_at hl 3 rfl) ?_
      refine lv_aload_n hx hb dX12_layBoth_107 rfl (lv_at hl 0 rfl) ?_
      refine q_geti (own := RX12) (ref := RX12) (C := RX12) (T := TX12) (N := 57) (kc := 9) (ci := 0) hx hb hts hin12 hown hK hW h_this (by decide) rfl 54 (by decide) hw2 rfl rfl dX12_layBoth_108 ?_
      refine lv_icmp_ge (tgt := 132) hx hb dX12_layBoth_111 (by decide) (fun c => ?_) (fun c => ?_)
      · have hf := g_pos c hf
        refine lv_aload_n hx hb dX12_layBoth_132 rfl (lv_at hl 0 rfl) ?_
        refine q_geti (own := RX12) (ref := RX12) (C := RX12) (T := TX12) (N := 57) (kc := 9) (ci := 0) hx hb hts hin12 hown hK hW h_this (by decide) rfl 54 (by decide) hw2 rfl rfl dX12_layBoth_133 ?_
        refine lv_iconst (v := 2) hx hb dX12_layBoth_136 (by decide) ?_
        refine lv_icmp_lt (tgt := 144) hx hb dX12_layBoth_137 (by decide) (fun c => ?_) (fun c => ?_)
        · have hf := g_pos c hf
          refine lv_iconst (v := 0) hx hb dX12_layBoth_144 (by decide) ?_
          exact q_zret hx hb hr hlocks hW hS hf dX12_layBoth_145
        · have hf := g_neg c hf
          refine lv_iconst (v := 1) hx hb dX12_layBoth_140 (by decide) ?_
          refine lv_goto (tgt := 145) hx hb dX12_layBoth_141 (by decide) ?_
          exact q_zret hx hb hr hlocks hW hS hf dX12_layBoth_145
      · have hf := g_neg c hf
        refine lv_aload_n hx hb dX12_layBoth_114 rfl (lv_at hl 0 rfl) ?_
        refine q_getp (own := RX12) (ref := RX12) (C := RX12) (T := TX12) (N := 57) (kc := 9) (ci := 0) hx hb hts hin12 hown hK hW h_this (by decide) rfl 53 (by decide) hw3 rfl rfl rfl (v := 633) rfl dX12_layBoth_115 (fun hk_9 hq_10 => ?_)
        refine lv_iload_n hx hb dX12_layBoth_118 rfl (lv_at hl 3 rfl) ?_
        refine lv_aload_n hx hb dX12_layBoth_119 rfl (lv_at hl 0 rfl) ?_
        refine q_getp (own := RX12) (ref := RX12) (C := RX12) (T := TX12) (N := 57) (kc := 9) (ci := 0) hx hb hts hin12 hown hK hW h_this (by decide) rfl 30 (by decide) hw4 rfl rfl rfl (v := 616) rfl dX12_layBoth_120 (fun hk_11 hq_12 => ?_)
        refine lv_iload_n hx hb dX12_layBoth_123 rfl (lv_at hl 3 rfl) ?_
        obtain ⟨hi_13, hf⟩ := g_in hf
        refine q_iald hx hb hK hW hk_11 (inb_of hq_12 hi_13) dX12_layBoth_124 ?_
        obtain ⟨hi_14, hf⟩ := g_in hf
        refine q_iast hx hb hK hW hS hk_9 (inb_of hq_10 hi_14) dX12_layBoth_125 (fun H locs hW hS => ?_)
        obtain ⟨σ_15, eσ_15⟩ : ∃ y : Mm, y = (Mm.si σ 633 (ix x3) (Mm.gi σ 616 (ix x3))) := ⟨_, rfl⟩
        rw [← eσ_15] at hW
        have hf := g_lt eσ_15 hf
        obtain ⟨x3_16, ex3_16⟩ : ∃ y : Int32, y = x3 + 1 := ⟨_, rfl⟩
        have hf := g_lt ex3_16 hf
        refine lv_iinc (v := x3_16) (lv' := [(3, .int x3_16), (0, .ref (z + this)), (1, .int a1), (2, .int a2)]) hx hb dX12_layBoth_126 hl (k := 3) rfl (by rw [ex3_16]; rfl) (by decide) rfl (fun ls hl => ?_)
        refine lv_goto (tgt := 106) hx hb dX12_layBoth_129 (by decide) ?_
        exact H106 x3_16 σ_15 hf _ _ _ hW hS (lv_sub hl [1, 2, 3, 0] rfl)
  have B101 : ∀ (t0 : Int32) (t1 : Nat) (σ : Mm), okk Y n 9 t1 → b_X12_layBoth_101 Y fu this a1 a2 t0 t1 σ = some (r, σ1) → ∀ (H : Heap) (locs : List Loc) (ls : Array Slot), WH z n D cy Y σ H → va_S (Az z) s.heap H locs → lv_has ls 4 [(0, .ref (z + this)), (1, .int a1), (2, .int a2)] → W p l e ({ frames := 3, cells := 0, slots := 0, locals := 79 } : Room) s m ([.ref (z + this), .int a1, .int a2] : List Value).toArray below meth c H locs 0 0 (MQ below (va_Qi (fun (x : Int32) (_ : Unit) => x = r) (fun _ t => WH z n D cy Y σ1 t.heap) (Az z)) ([.ref (z + this), .int a1, .int a2] : List Value).toArray s 0 0 (Az z)) (F0 m 101 ls [.int t0, .ref (z + t1)]) := by
    intro  t0 t1 σ h_t1 hf H locs ls hW hS hl
    refine q_puti (own := RX12) (ref := RX12) (C := RX12) (T := TX12) (N := 57) (kc := 9) (ci := 0) hx hb hts hin12 tyX12_ok nmX12 hown hK hW hS h_t1 (by decide) rfl 54 (by decide) hw2 rfl rfl (ty := .int) (tyX12_ok 54 (by decide)) rfl rfl rfl dX12_layBoth_101 (fun H locs hW hS => ?_)
    obtain ⟨σ_8, eσ_8⟩ : ∃ y : Mm, y = (Mm.si σ t1 54 t0) := ⟨_, rfl⟩
    rw [← eσ_8] at hW
    have hf := g_lt eσ_8 hf
    refine lv_iconst (v := 0) hx hb dX12_layBoth_104 (by decide) ?_
    refine lv_istore_n (lv' := [(3, .int 0), (0, .ref (z + this)), (1, .int a1), (2, .int a2)]) hx hb dX12_layBoth_105 rfl hl (by decide) rfl (fun ls hl => ?_)
    exact B106 fu 0 σ_8 hf _ _ _ hW hS (lv_sub hl [1, 2, 3, 0] rfl)
  have B38 : ∀ (nn : Nat) (x3 : Int32) (σ : Mm), b_X12_layBoth_38 Y fu this a1 a2 nn x3 σ = some (r, σ1) → ∀ (H : Heap) (locs : List Loc) (ls : Array Slot), WH z n D cy Y σ H → va_S (Az z) s.heap H locs → lv_has ls 4 [(0, .ref (z + this)), (1, .int a1), (2, .int a2), (3, .int x3)] → W p l e ({ frames := 3, cells := 0, slots := 0, locals := 79 } : Room) s m ([.ref (z + this), .int a1, .int a2] : List Value).toArray below meth c H locs 0 0 (MQ below (va_Qi (fun (x : Int32) (_ : Unit) => x = r) (fun _ t => WH z n D cy Y σ1 t.heap) (Az z)) ([.ref (z + this), .int a1, .int a2] : List Value).toArray s 0 0 (Az z)) (F0 m 38 ls []) := by
    intro nn
    induction nn with
    | zero =>
      intro x3 σ  hf
      have h9 : (none : Option (Int32 × Mm)) = some (r, σ1) := hf
      cases h9
    | succ nn H38 =>
      intro x3 σ  hf H locs ls hW hS hl
      have hf : s_X12_layBoth_38 Y fu this a1 a2 (b_X12_layBoth_38 Y fu this a1 a2 nn) x3 σ = some (r, σ1) := hf
      generalize hkk : b_X12_layBoth_38 Y fu this a1 a2 nn = k38 at hf H38
      refine lv_iload_n hx hb dX12_layBoth_38 rfl (lv_at hl 3 rfl) ?_
      refine lv_aload_n hx hb dX12_layBoth_39 rfl (lv_at hl 0 rfl) ?_
      refine q_geti (own := RX12) (ref := RX12) (C := RX12) (T := TX12) (N := 57) (kc := 9) (ci := 0) hx hb hts hin12 hown hK hW h_this (by decide) rfl 54 (by decide) hw2 rfl rfl dX12_layBoth_40 ?_
      refine lv_icmp_ge (tgt := 64) hx hb dX12_layBoth_43 (by decide) (fun c => ?_) (fun c => ?_)
      · have hf := g_pos c hf
        refine lv_aload_n hx hb dX12_layBoth_64 rfl (lv_at hl 0 rfl) ?_
        refine lv_iload_n hx hb dX12_layBoth_65 rfl (lv_at hl 2 rfl) ?_
        refine lv_aload_n hx hb dX12_layBoth_66 rfl (lv_at hl 0 rfl) ?_
        refine q_geti (own := RX12) (ref := RX12) (C := RX12) (T := TX12) (N := 57) (kc := 9) (ci := 0) hx hb hts hin12 hown hK hW h_this (by decide) rfl 7 (by decide) hw0 rfl rfl dX12_layBoth_67 ?_
        obtain ⟨r_7, σ_6, hc_5, hf⟩ := g_bnd hf
        refine q_calli (va_runV (As := [.int a2, .int (Mm.gi σ this 7)]) (rest := []) ⟨hx, hb, hml, hown, hts⟩ (k_X12_layRest l z n D cy Y h_this hc_5) (cwV 2 hts gX12_layBoth_X12_layRest rfl rfl rfl (by decide +kernel) ⟨Nat.le_of_ble_eq_true rfl, Nat.le_of_ble_eq_true rfl⟩) (q_PV (T := TX12) (N := 57) hK hN hW h_this (by decide) rfl) rfl rfl hl.1 rfl (lv_room (Nat.le_of_ble_eq_true rfl)) dX12_layBoth_70 ⟨Nat.le_refl _, Nat.le_refl _⟩) hS (fun H locs hW hS => ?_)
        refine lv_if_ne (tgt := 78) hx hb dX12_layBoth_73 (by decide) (fun c => ?_) (fun c => ?_)
        · have hf := g_neg c hf
          refine lv_aload_n hx hb dX12_layBoth_78 rfl (lv_at hl 0 rfl) ?_
          refine lv_aload_n hx hb dX12_layBoth_79 rfl (lv_at hl 0 rfl) ?_
          refine q_geti (own := RX12) (ref := RX12) (C := RX12) (T := TX12) (N := 57) (kc := 9) (ci := 0) hx hb hts hin12 hown hK hW h_this (by decide) rfl 22 (by decide) hw1 rfl rfl dX12_layBoth_80 ?_
          refine lv_aload_n hx hb dX12_layBoth_83 rfl (lv_at hl 0 rfl) ?_
          refine q_geti (own := RX12) (ref := RX12) (C := RX12) (T := TX12) (N := 57) (kc := 9) (ci := 0) hx hb hts hin12 hown hK hW h_this (by decide) rfl 54 (by decide) hw2 rfl rfl dX12_layBoth_84 ?_
          refine lv_icmp_ge (tgt := 97) hx hb dX12_layBoth_87 (by decide) (fun c => ?_) (fun c => ?_)
          · have hf := g_pos c hf
            refine lv_aload_n hx hb dX12_layBoth_97 rfl (lv_at hl 0 rfl) ?_
            refine q_geti (own := RX12) (ref := RX12) (C := RX12) (T := TX12) (N := 57) (kc := 9) (ci := 0) hx hb hts hin12 hown hK hW h_this (by decide) rfl 54 (by decide) hw2 rfl rfl dX12_layBoth_98 ?_
            exact B101 (Mm.gi σ_6 this 54) this σ_6 h_this hf _ _ _ hW hS (lv_sub hl [0, 1, 2] rfl)
          · have hf := g_neg c hf
            refine lv_aload_n hx hb dX12_layBoth_90 rfl (lv_at hl 0 rfl) ?_
            refine q_geti (own := RX12) (ref := RX12) (C := RX12) (T := TX12) (N := 57) (kc := 9) (ci := 0) hx hb hts hin12 hown hK hW h_this (by decide) rfl 22 (by decide) hw1 rfl rfl dX12_layBoth_91 ?_
            refine lv_goto (tgt := 101) hx hb dX12_layBoth_94 (by decide) ?_
            exact B101 (Mm.gi σ_6 this 22) this σ_6 h_this hf _ _ _ hW hS (lv_sub hl [0, 1, 2] rfl)
        · have hf := g_pos c hf
          refine lv_iconst (v := 0) hx hb dX12_layBoth_76 (by decide) ?_
          exact q_zret hx hb hr hlocks hW hS hf dX12_layBoth_77
      · have hf := g_neg c hf
        refine lv_aload_n hx hb dX12_layBoth_46 rfl (lv_at hl 0 rfl) ?_
        refine q_getp (own := RX12) (ref := RX12) (C := RX12) (T := TX12) (N := 57) (kc := 9) (ci := 0) hx hb hts hin12 hown hK hW h_this (by decide) rfl 52 (by decide) hw5 rfl rfl rfl (v := 632) rfl dX12_layBoth_47 (fun hk_17 hq_18 => ?_)
        refine lv_iload_n hx hb dX12_layBoth_50 rfl (lv_at hl 3 rfl) ?_
        refine lv_aload_n hx hb dX12_layBoth_51 rfl (lv_at hl 0 rfl) ?_
        refine q_getp (own := RX12) (ref := RX12) (C := RX12) (T := TX12) (N := 57) (kc := 9) (ci := 0) hx hb hts hin12 hown hK hW h_this (by decide) rfl 30 (by decide) hw4 rfl rfl rfl (v := 616) rfl dX12_layBoth_52 (fun hk_19 hq_20 => ?_)
        refine lv_iload_n hx hb dX12_layBoth_55 rfl (lv_at hl 3 rfl) ?_
        obtain ⟨hi_21, hf⟩ := g_in hf
        refine q_iald hx hb hK hW hk_19 (inb_of hq_20 hi_21) dX12_layBoth_56 ?_
        obtain ⟨hi_22, hf⟩ := g_in hf
        refine q_iast hx hb hK hW hS hk_17 (inb_of hq_18 hi_22) dX12_layBoth_57 (fun H locs hW hS => ?_)
        obtain ⟨σ_23, eσ_23⟩ : ∃ y : Mm, y = (Mm.si σ 632 (ix x3) (Mm.gi σ 616 (ix x3))) := ⟨_, rfl⟩
        rw [← eσ_23] at hW
        have hf := g_lt eσ_23 hf
        obtain ⟨x3_24, ex3_24⟩ : ∃ y : Int32, y = x3 + 1 := ⟨_, rfl⟩
        have hf := g_lt ex3_24 hf
        refine lv_iinc (v := x3_24) (lv' := [(3, .int x3_24), (0, .ref (z + this)), (1, .int a1), (2, .int a2)]) hx hb dX12_layBoth_58 hl (k := 3) rfl (by rw [ex3_24]; rfl) (by decide) rfl (fun ls hl => ?_)
        refine lv_goto (tgt := 38) hx hb dX12_layBoth_61 (by decide) ?_
        exact H38 x3_24 σ_23 hf _ _ _ hW hS (lv_sub hl [1, 2, 3, 0] rfl)
  have B33 : ∀ (t0 : Int32) (t1 : Nat) (σ : Mm), okk Y n 9 t1 → b_X12_layBoth_33 Y fu this a1 a2 t0 t1 σ = some (r, σ1) → ∀ (H : Heap) (locs : List Loc) (ls : Array Slot), WH z n D cy Y σ H → va_S (Az z) s.heap H locs → lv_has ls 4 [(0, .ref (z + this)), (1, .int a1), (2, .int a2)] → W p l e ({ frames := 3, cells := 0, slots := 0, locals := 79 } : Room) s m ([.ref (z + this), .int a1, .int a2] : List Value).toArray below meth c H locs 0 0 (MQ below (va_Qi (fun (x : Int32) (_ : Unit) => x = r) (fun _ t => WH z n D cy Y σ1 t.heap) (Az z)) ([.ref (z + this), .int a1, .int a2] : List Value).toArray s 0 0 (Az z)) (F0 m 33 ls [.int t0, .ref (z + t1)]) := by
    intro  t0 t1 σ h_t1 hf H locs ls hW hS hl
    refine q_puti (own := RX12) (ref := RX12) (C := RX12) (T := TX12) (N := 57) (kc := 9) (ci := 0) hx hb hts hin12 tyX12_ok nmX12 hown hK hW hS h_t1 (by decide) rfl 54 (by decide) hw2 rfl rfl (ty := .int) (tyX12_ok 54 (by decide)) rfl rfl rfl dX12_layBoth_33 (fun H locs hW hS => ?_)
    obtain ⟨σ_4, eσ_4⟩ : ∃ y : Mm, y = (Mm.si σ t1 54 t0) := ⟨_, rfl⟩
    rw [← eσ_4] at hW
    have hf := g_lt eσ_4 hf
    refine lv_iconst (v := 0) hx hb dX12_layBoth_36 (by decide) ?_
    refine lv_istore_n (lv' := [(3, .int 0), (0, .ref (z + this)), (1, .int a1), (2, .int a2)]) hx hb dX12_layBoth_37 rfl hl (by decide) rfl (fun ls hl => ?_)
    exact B38 fu 0 σ_4 hf _ _ _ hW hS (lv_sub hl [1, 2, 3, 0] rfl)
  refine lv_aload_n hx hb dX12_layBoth_0 rfl (lv_at hl 0 rfl) ?_
  refine lv_iload_n hx hb dX12_layBoth_1 rfl (lv_at hl 1 rfl) ?_
  refine lv_aload_n hx hb dX12_layBoth_2 rfl (lv_at hl 0 rfl) ?_
  refine q_geti (own := RX12) (ref := RX12) (C := RX12) (T := TX12) (N := 57) (kc := 9) (ci := 0) hx hb hts hin12 hown hK hW h_this (by decide) rfl 7 (by decide) hw0 rfl rfl dX12_layBoth_3 ?_
  obtain ⟨r_3, σ_2, hc_1, hf⟩ := g_bnd hf
  refine q_calli (va_runV (As := [.int a1, .int (Mm.gi σ this 7)]) (rest := []) ⟨hx, hb, hml, hown, hts⟩ (k_X12_layRest l z n D cy Y h_this hc_1) (cwV 2 hts gX12_layBoth_X12_layRest rfl rfl rfl (by decide +kernel) ⟨Nat.le_of_ble_eq_true rfl, Nat.le_of_ble_eq_true rfl⟩) (q_PV (T := TX12) (N := 57) hK hN hW h_this (by decide) rfl) rfl rfl hl.1 rfl (lv_room (Nat.le_of_ble_eq_true rfl)) dX12_layBoth_6 ⟨Nat.le_refl _, Nat.le_refl _⟩) hS (fun H locs hW hS => ?_)
  refine lv_if_ne (tgt := 14) hx hb dX12_layBoth_9 (by decide) (fun c => ?_) (fun c => ?_)
  · have hf := g_neg c hf
    refine lv_aload_n hx hb dX12_layBoth_14 rfl (lv_at hl 0 rfl) ?_
    refine lv_aload_n hx hb dX12_layBoth_15 rfl (lv_at hl 0 rfl) ?_
    refine q_geti (own := RX12) (ref := RX12) (C := RX12) (T := TX12) (N := 57) (kc := 9) (ci := 0) hx hb hts hin12 hown hK hW h_this (by decide) rfl 22 (by decide) hw1 rfl rfl dX12_layBoth_16 ?_
    refine lv_bipush (v := 7) hx hb dX12_layBoth_19 (by decide) ?_
    refine lv_icmp_ge (tgt := 31) hx hb dX12_layBoth_21 (by decide) (fun c => ?_) (fun c => ?_)
    · have hf := g_pos c hf
      refine lv_bipush (v := 7) hx hb dX12_layBoth_31 (by decide) ?_
      exact B33 7 this σ_2 h_this hf _ _ _ hW hS (lv_sub hl [0, 1, 2] rfl)
    · have hf := g_neg c hf
      refine lv_aload_n hx hb dX12_layBoth_24 rfl (lv_at hl 0 rfl) ?_
      refine q_geti (own := RX12) (ref := RX12) (C := RX12) (T := TX12) (N := 57) (kc := 9) (ci := 0) hx hb hts hin12 hown hK hW h_this (by decide) rfl 22 (by decide) hw1 rfl rfl dX12_layBoth_25 ?_
      refine lv_goto (tgt := 33) hx hb dX12_layBoth_28 (by decide) ?_
      exact B33 (Mm.gi σ_2 this 22) this σ_2 h_this hf _ _ _ hW hS (lv_sub hl [0, 1, 2] rfl)
  · have hf := g_pos c hf
    refine lv_iconst (v := 0) hx hb dX12_layBoth_12 (by decide) ?_
    exact q_zret hx hb hr hlocks hW hS hf dX12_layBoth_13
set_option maxRecDepth 100000 in
set_option maxHeartbeats 40000000 in
theorem k_X12_productsBy (l : Launch) (z n : Nat) (D : va_G) (cy : Nat → ClassId) (Y : Yt) {fu : Nat} {this : Nat} {a1 : Int32} {σ : Mm} {r : Int64} {σ1 : Mm} (h_this : okk Y n 9 this) (hf : f_X12_productsBy Y fu this a1 σ = some (r, σ1)) : Kl l yX12_productsBy wsX12_productsBy ({ frames := 0, cells := 0, slots := 0, locals := 0 } : Room) z n D cy Y [.ref (z + this), .int a1] σ r σ1 := by
  refine Met.ofW (cc := cX12_productsBy) (maxL := 9) (ret := (some .long)) (by decide +kernel) rfl ?_
  intro p e s m args below meth c s₁ B hml hv
  obtain ⟨rfl, hW, hK, hN⟩ := hv
  have hx := B.exec
  have hb := B.bytes
  have hr := B.returns
  have hts := atoms_spec (ws := wsX12_productsBy) B.pre
  have hown : s.vm.findClass RX12 = some m.cls := findClass_of_methodNamed B.named
  have hlocks := B.notSynchronized
  have hS : va_S (Az z) s.heap s.heap [] := va_S.rf
  have hin12 : ∀ w ∈ wsX120, w ∈ wsX12_productsBy := fun w h => List.mem_cons_of_mem _ (List.mem_append_right _ h)
  have hw0 := hts (.fieldLink RX12 337 "SkyClocksModel" "both" "I") (List.mem_of_getElem? (i := 1) rfl)
  have hw1 := hts (.fieldLink RX12 125 "SkyClocksModel" "first" "[I") (List.mem_of_getElem? (i := 2) rfl)
  have hw2 := hts (.fieldLink RX12 128 "SkyClocksModel" "second" "[I") (List.mem_of_getElem? (i := 3) rfl)
  have hl := lv_entry ([.ref (z + this), .int a1]) (n := 9) (Nat.le_of_ble_eq_true rfl)
  rw [lg_entry_eq]
  generalize (lg_sl ([.ref (z + this), .int a1]) ++ List.replicate (9 - (lg_sl ([.ref (z + this), .int a1])).length) Slot.unset).toArray = ls at hl ⊢
  have hl : lv_has ls 9 [(0, .ref (z + this)), (1, .int a1)] := hl
  have B75 : ∀ (k10 : Int32 → Int32 → Int64 → Int32 → Mm → Option (Int64 × Mm)) (H10 : ∀ (x2 : Int32) (x3 : Int32) (x4 : Int64) (x6 : Int32) (σ : Mm), k10 x2 x3 x4 x6 σ = some (r, σ1) → ∀ (H : Heap) (locs : List Loc) (ls : Array Slot), WH z n D cy Y σ H → va_S (Az z) s.heap H locs → lv_has ls 9 [(0, .ref (z + this)), (1, .int a1), (2, .int x2), (3, .int x3), (4, .long x4), (6, .int x6)] → W p l e ({ frames := 0, cells := 0, slots := 0, locals := 0 } : Room) s m ([.ref (z + this), .int a1] : List Value).toArray below meth c H locs 0 0 (MQ below (va_Ql (fun (x : Int64) (_ : Unit) => x = r) (fun _ t => WH z n D cy Y σ1 t.heap) (Az z)) ([.ref (z + this), .int a1] : List Value).toArray s 0 0 (Az z)) (F0 m 10 ls [])) (k43 : Int32 → Int32 → Int64 → Int32 → Int32 → Int32 → Mm → Option (Int64 × Mm)) (H43 : ∀ (x2 : Int32) (x3 : Int32) (x4 : Int64) (x6 : Int32) (x7 : Int32) (x8 : Int32) (σ : Mm), k43 x2 x3 x4 x6 x7 x8 σ = some (r, σ1) → ∀ (H : Heap) (locs : List Loc) (ls : Array Slot), WH z n D cy Y σ H → va_S (Az z) s.heap H locs → lv_has ls 9 [(0, .ref (z + this)), (1, .int a1), (2, .int x2), (3, .int x3), (4, .long x4), (6, .int x6), (7, .int x7), (8, .int x8)] → W p l e ({ frames := 0, cells := 0, slots := 0, locals := 0 } : Room) s m ([.ref (z + this), .int a1] : List Value).toArray below meth c H locs 0 0 (MQ below (va_Ql (fun (x : Int64) (_ : Unit) => x = r) (fun _ t => WH z n D cy Y σ1 t.heap) (Az z)) ([.ref (z + this), .int a1] : List Value).toArray s 0 0 (Az z)) (F0 m 43 ls [])) (x2 : Int32) (x3 : Int32) (x4 : Int64) (x6 : Int32) (x8 : Int32) (t0 : Int32) (t1 : Int32) (σ : Mm), b_X12_productsBy_75 Y fu this a1 k10 k43 x2 x3 x4 x6 x8 t0 t1 σ = some (r, σ1) → ∀ (H : Heap) (locs : List Loc) (ls : Array Slot), WH z n D cy Y σ H → va_S (Az z) s.heap H locs → lv_has ls 9 [(0, .ref (z + this)), (1, .int a1), (2, .int x2), (3, .int x3), (4, .long x4), (6, .int x6), (8, .int x8)] → W p l e ({ frames := 0, cells := 0, slots := 0, locals := 0 } : Room) s m ([.ref (z + this), .int a1] : List Value).toArray below meth c H locs 0 0 (MQ below (va_Ql (fun (x : Int64) (_ : Unit) => x = r) (fun _ t => WH z n D cy Y σ1 t.heap) (Az z)) ([.ref (z + this), .int a1] : List Value).toArray s 0 0 (Az z)) (F0 m 75 ls [.int t0, .int t1]) := by
    intro k10 H10 k43 H43 x2 x3 x4 x6 x8 t0 t1 σ  hf H locs ls hW hS hl
    refine lv_isub hx hb dX12_productsBy_75 ?_
    refine lv_topi (fun x7_5 ex7_5 => ?_)
    have hf := g_lt ex7_5 hf
    refine lv_istore (lv' := [(7, .int x7_5), (0, .ref (z + this)), (1, .int a1), (2, .int x2), (3, .int x3), (4, .long x4), (6, .int x6), (8, .int x8)]) hx hb dX12_productsBy_76 hl (by decide) rfl (fun ls hl => ?_)
    obtain ⟨x8_6, ex8_6⟩ : ∃ y : Int32, y = x8 + 1 := ⟨_, rfl⟩
    have hf := g_lt ex8_6 hf
    refine lv_iinc (v := x8_6) (lv' := [(8, .int x8_6), (7, .int x7_5), (0, .ref (z + this)), (1, .int a1), (2, .int x2), (3, .int x3), (4, .long x4), (6, .int x6)]) hx hb dX12_productsBy_78 hl (k := 7) rfl (by rw [ex8_6]; rfl) (by decide) rfl (fun ls hl => ?_)
    refine lv_goto (tgt := 43) hx hb dX12_productsBy_81 (by decide) ?_
    exact H43 x2 x3 x4 x6 x7_5 x8_6 σ hf _ _ _ hW hS (lv_sub hl [2, 3, 4, 5, 6, 7, 1, 0] rfl)
  have B58 : ∀ (k10 : Int32 → Int32 → Int64 → Int32 → Mm → Option (Int64 × Mm)) (H10 : ∀ (x2 : Int32) (x3 : Int32) (x4 : Int64) (x6 : Int32) (σ : Mm), k10 x2 x3 x4 x6 σ = some (r, σ1) → ∀ (H : Heap) (locs : List Loc) (ls : Array Slot), WH z n D cy Y σ H → va_S (Az z) s.heap H locs → lv_has ls 9 [(0, .ref (z + this)), (1, .int a1), (2, .int x2), (3, .int x3), (4, .long x4), (6, .int x6)] → W p l e ({ frames := 0, cells := 0, slots := 0, locals := 0 } : Room) s m ([.ref (z + this), .int a1] : List Value).toArray below meth c H locs 0 0 (MQ below (va_Ql (fun (x : Int64) (_ : Unit) => x = r) (fun _ t => WH z n D cy Y σ1 t.heap) (Az z)) ([.ref (z + this), .int a1] : List Value).toArray s 0 0 (Az z)) (F0 m 10 ls [])) (k43 : Int32 → Int32 → Int64 → Int32 → Int32 → Int32 → Mm → Option (Int64 × Mm)) (H43 : ∀ (x2 : Int32) (x3 : Int32) (x4 : Int64) (x6 : Int32) (x7 : Int32) (x8 : Int32) (σ : Mm), k43 x2 x3 x4 x6 x7 x8 σ = some (r, σ1) → ∀ (H : Heap) (locs : List Loc) (ls : Array Slot), WH z n D cy Y σ H → va_S (Az z) s.heap H locs → lv_has ls 9 [(0, .ref (z + this)), (1, .int a1), (2, .int x2), (3, .int x3), (4, .long x4), (6, .int x6), (7, .int x7), (8, .int x8)] → W p l e ({ frames := 0, cells := 0, slots := 0, locals := 0 } : Room) s m ([.ref (z + this), .int a1] : List Value).toArray below meth c H locs 0 0 (MQ below (va_Ql (fun (x : Int64) (_ : Unit) => x = r) (fun _ t => WH z n D cy Y σ1 t.heap) (Az z)) ([.ref (z + this), .int a1] : List Value).toArray s 0 0 (Az z)) (F0 m 43 ls [])) (x2 : Int32) (x3 : Int32) (x4 : Int64) (x6 : Int32) (x7 : Int32) (x8 : Int32) (σ : Mm), b_X12_productsBy_58 Y fu this a1 k10 k43 x2 x3 x4 x6 x7 x8 σ = some (r, σ1) → ∀ (H : Heap) (locs : List Loc) (ls : Array Slot), WH z n D cy Y σ H → va_S (Az z) s.heap H locs → lv_has ls 9 [(0, .ref (z + this)), (1, .int a1), (2, .int x2), (3, .int x3), (4, .long x4), (6, .int x6), (7, .int x7), (8, .int x8)] → W p l e ({ frames := 0, cells := 0, slots := 0, locals := 0 } : Room) s m ([.ref (z + this), .int a1] : List Value).toArray below meth c H locs 0 0 (MQ below (va_Ql (fun (x : Int64) (_ : Unit) => x = r) (fun _ t => WH z n D cy Y σ1 t.heap) (Az z)) ([.ref (z + this), .int a1] : List Value).toArray s 0 0 (Az z)) (F0 m 58 ls []) := by
    intro k10 H10 k43 H43 x2 x3 x4 x6 x7 x8 σ  hf H locs ls hW hS hl
    refine lv_iload hx hb dX12_productsBy_58 (lv_at hl 6 rfl) ?_
    refine lv_iload_n hx hb dX12_productsBy_60 rfl (lv_at hl 3 rfl) ?_
    refine lv_iload hx hb dX12_productsBy_61 (lv_at hl 7 rfl) ?_
    refine lv_ishr hx hb dX12_productsBy_63 ?_
    refine lv_iconst (v := 1) hx hb dX12_productsBy_64 (by decide) ?_
    refine lv_iand hx hb dX12_productsBy_65 ?_
    refine lv_iconst (v := 1) hx hb dX12_productsBy_66 (by decide) ?_
    refine lv_icmp_ne (tgt := 74) hx hb dX12_productsBy_67 (by decide) (fun c => ?_) (fun c => ?_)
    · have hf := g_neg c hf
      refine lv_iconst (v := 1) hx hb dX12_productsBy_74 (by decide) ?_
      exact B75 k10 H10 k43 H43 x2 x3 x4 x6 x8 1 x7 σ hf _ _ _ hW hS (lv_sub hl [0, 1, 2, 3, 4, 5, 7] rfl)
    · have hf := g_pos c hf
      refine lv_iconst (v := 0) hx hb dX12_productsBy_70 (by decide) ?_
      refine lv_goto (tgt := 75) hx hb dX12_productsBy_71 (by decide) ?_
      exact B75 k10 H10 k43 H43 x2 x3 x4 x6 x8 0 x7 σ hf _ _ _ hW hS (lv_sub hl [0, 1, 2, 3, 4, 5, 7] rfl)
  have B43 : ∀ (k10 : Int32 → Int32 → Int64 → Int32 → Mm → Option (Int64 × Mm)) (H10 : ∀ (x2 : Int32) (x3 : Int32) (x4 : Int64) (x6 : Int32) (σ : Mm), k10 x2 x3 x4 x6 σ = some (r, σ1) → ∀ (H : Heap) (locs : List Loc) (ls : Array Slot), WH z n D cy Y σ H → va_S (Az z) s.heap H locs → lv_has ls 9 [(0, .ref (z + this)), (1, .int a1), (2, .int x2), (3, .int x3), (4, .long x4), (6, .int x6)] → W p l e ({ frames := 0, cells := 0, slots := 0, locals := 0 } : Room) s m ([.ref (z + this), .int a1] : List Value).toArray below meth c H locs 0 0 (MQ below (va_Ql (fun (x : Int64) (_ : Unit) => x = r) (fun _ t => WH z n D cy Y σ1 t.heap) (Az z)) ([.ref (z + this), .int a1] : List Value).toArray s 0 0 (Az z)) (F0 m 10 ls [])) (nn : Nat) (x2 : Int32) (x3 : Int32) (x4 : Int64) (x6 : Int32) (x7 : Int32) (x8 : Int32) (σ : Mm), b_X12_productsBy_43 Y fu this a1 k10 nn x2 x3 x4 x6 x7 x8 σ = some (r, σ1) → ∀ (H : Heap) (locs : List Loc) (ls : Array Slot), WH z n D cy Y σ H → va_S (Az z) s.heap H locs → lv_has ls 9 [(0, .ref (z + this)), (1, .int a1), (2, .int x2), (3, .int x3), (4, .long x4), (6, .int x6), (7, .int x7), (8, .int x8)] → W p l e ({ frames := 0, cells := 0, slots := 0, locals := 0 } : Room) s m ([.ref (z + this), .int a1] : List Value).toArray below meth c H locs 0 0 (MQ below (va_Ql (fun (x : Int64) (_ : Unit) => x = r) (fun _ t => WH z n D cy Y σ1 t.heap) (Az z)) ([.ref (z + this), .int a1] : List Value).toArray s 0 0 (Az z)) (F0 m 43 ls []) := by
    intro k10 H10
    intro nn
    induction nn with
    | zero =>
      intro x2 x3 x4 x6 x7 x8 σ  hf
      have h9 : (none : Option (Int64 × Mm)) = some (r, σ1) := hf
      cases h9
    | succ nn H43 =>
      intro x2 x3 x4 x6 x7 x8 σ  hf H locs ls hW hS hl
      have hf : s_X12_productsBy_43 Y fu this a1 k10 (b_X12_productsBy_43 Y fu this a1 k10 nn) x2 x3 x4 x6 x7 x8 σ = some (r, σ1) := hf
      generalize hkk : b_X12_productsBy_43 Y fu this a1 k10 nn = k43 at hf H43
      refine lv_iload_n hx hb dX12_productsBy_43 rfl (lv_at hl 3 rfl) ?_
      refine lv_iload hx hb dX12_productsBy_44 (lv_at hl 7 rfl) ?_
      refine lv_ishr hx hb dX12_productsBy_46 ?_
      refine lv_iconst (v := 1) hx hb dX12_productsBy_47 (by decide) ?_
      refine lv_iand hx hb dX12_productsBy_48 ?_
      refine lv_iconst (v := 1) hx hb dX12_productsBy_49 (by decide) ?_
      refine lv_icmp_eq (tgt := 58) hx hb dX12_productsBy_50 (by decide) (fun c => ?_) (fun c => ?_)
      · have hf := g_pos c hf
        exact B58 k10 H10 k43 H43 x2 x3 x4 x6 x7 x8 σ hf _ _ _ hW hS (lv_sub hl [0, 1, 2, 3, 4, 5, 6, 7] rfl)
      · have hf := g_neg c hf
        refine lv_iload hx hb dX12_productsBy_53 (lv_at hl 6 rfl) ?_
        refine lv_if_le (tgt := 84) hx hb dX12_productsBy_55 (by decide) (fun c => ?_) (fun c => ?_)
        · have hf := g_pos c hf
          refine lv_iload_n hx hb dX12_productsBy_84 rfl (lv_at hl 3 rfl) ?_
          refine lv_iconst (v := 1) hx hb dX12_productsBy_85 (by decide) ?_
          refine lv_iload hx hb dX12_productsBy_86 (lv_at hl 7 rfl) ?_
          refine lv_ishl hx hb dX12_productsBy_88 ?_
          refine lv_ior hx hb dX12_productsBy_89 ?_
          refine lv_topi (fun x3_7 ex3_7 => ?_)
          have hf := g_lt ex3_7 hf
          refine lv_istore_n (lv' := [(3, .int x3_7), (0, .ref (z + this)), (1, .int a1), (2, .int x2), (4, .long x4), (6, .int x6), (7, .int x7), (8, .int x8)]) hx hb dX12_productsBy_90 rfl hl (by decide) rfl (fun ls hl => ?_)
          refine lv_lload hx hb dX12_productsBy_91 (lv_at hl 4 rfl) ?_
          refine lv_aload_n hx hb dX12_productsBy_93 rfl (lv_at hl 1 rfl) ?_
          refine q_getp (own := RX12) (ref := RX12) (C := RX12) (T := TX12) (N := 57) (kc := 9) (ci := 0) hx hb hts hin12 hown hK hW h_this (by decide) rfl 52 (by decide) hw1 rfl rfl rfl (v := 632) rfl dX12_productsBy_94 (fun hk_8 hq_9 => ?_)
          refine lv_iload hx hb dX12_productsBy_97 (lv_at hl 5 rfl) ?_
          obtain ⟨hi_10, hf⟩ := g_in hf
          refine q_iald hx hb hK hW hk_8 (inb_of hq_9 hi_10) dX12_productsBy_99 ?_
          refine lv_i2l hx hb dX12_productsBy_100 rfl ?_
          refine lv_aload_n hx hb dX12_productsBy_101 rfl (lv_at hl 1 rfl) ?_
          refine q_getp (own := RX12) (ref := RX12) (C := RX12) (T := TX12) (N := 57) (kc := 9) (ci := 0) hx hb hts hin12 hown hK hW h_this (by decide) rfl 53 (by decide) hw2 rfl rfl rfl (v := 633) rfl dX12_productsBy_102 (fun hk_11 hq_12 => ?_)
          refine lv_iload hx hb dX12_productsBy_105 (lv_at hl 7 rfl) ?_
          obtain ⟨hi_13, hf⟩ := g_in hf
          refine q_iald hx hb hK hW hk_11 (inb_of hq_12 hi_13) dX12_productsBy_107 ?_
          refine lv_i2l hx hb dX12_productsBy_108 rfl ?_
          refine lv_lmul hx hb dX12_productsBy_109 ?_
          refine lv_ladd hx hb dX12_productsBy_110 ?_
          refine lv_topl (fun x4_14 ex4_14 => ?_)
          have hf := g_lt ex4_14 hf
          refine lv_lstore (lv' := [(4, .long x4_14), (3, .int x3_7), (0, .ref (z + this)), (1, .int a1), (2, .int x2), (6, .int x6), (7, .int x7), (8, .int x8)]) hx hb dX12_productsBy_111 hl (by decide) rfl (fun ls hl => ?_)
          obtain ⟨x6_15, ex6_15⟩ : ∃ y : Int32, y = x6 + 1 := ⟨_, rfl⟩
          have hf := g_lt ex6_15 hf
          refine lv_iinc (v := x6_15) (lv' := [(6, .int x6_15), (4, .long x4_14), (3, .int x3_7), (0, .ref (z + this)), (1, .int a1), (2, .int x2), (7, .int x7), (8, .int x8)]) hx hb dX12_productsBy_113 hl (k := 5) rfl (by rw [ex6_15]; rfl) (by decide) rfl (fun ls hl => ?_)
          refine lv_goto (tgt := 10) hx hb dX12_productsBy_116 (by decide) ?_
          exact H10 x2 x3_7 x4_14 x6_15 σ hf _ _ _ hW hS (lv_sub hl [3, 4, 5, 2, 1, 0] rfl)
        · have hf := g_neg c hf
          exact B58 k10 H10 k43 H43 x2 x3 x4 x6 x7 x8 σ hf _ _ _ hW hS (lv_sub hl [0, 1, 2, 3, 4, 5, 6, 7] rfl)
  have B10 : ∀ (nn : Nat) (x2 : Int32) (x3 : Int32) (x4 : Int64) (x6 : Int32) (σ : Mm), b_X12_productsBy_10 Y fu this a1 nn x2 x3 x4 x6 σ = some (r, σ1) → ∀ (H : Heap) (locs : List Loc) (ls : Array Slot), WH z n D cy Y σ H → va_S (Az z) s.heap H locs → lv_has ls 9 [(0, .ref (z + this)), (1, .int a1), (2, .int x2), (3, .int x3), (4, .long x4), (6, .int x6)] → W p l e ({ frames := 0, cells := 0, slots := 0, locals := 0 } : Room) s m ([.ref (z + this), .int a1] : List Value).toArray below meth c H locs 0 0 (MQ below (va_Ql (fun (x : Int64) (_ : Unit) => x = r) (fun _ t => WH z n D cy Y σ1 t.heap) (Az z)) ([.ref (z + this), .int a1] : List Value).toArray s 0 0 (Az z)) (F0 m 10 ls []) := by
    intro nn
    induction nn with
    | zero =>
      intro x2 x3 x4 x6 σ  hf
      have h9 : (none : Option (Int64 × Mm)) = some (r, σ1) := hf
      cases h9
    | succ nn H10 =>
      intro x2 x3 x4 x6 σ  hf H locs ls hW hS hl
      have hf : s_X12_productsBy_10 Y fu this a1 (b_X12_productsBy_10 Y fu this a1 nn) x2 x3 x4 x6 σ = some (r, σ1) := hf
      generalize hkk : b_X12_productsBy_10 Y fu this a1 nn = k10 at hf H10
      refine lv_iload hx hb dX12_productsBy_10 (lv_at hl 5 rfl) ?_
      refine lv_aload_n hx hb dX12_productsBy_12 rfl (lv_at hl 0 rfl) ?_
      refine q_geti (own := RX12) (ref := RX12) (C := RX12) (T := TX12) (N := 57) (kc := 9) (ci := 0) hx hb hts hin12 hown hK hW h_this (by decide) rfl 54 (by decide) hw0 rfl rfl dX12_productsBy_13 ?_
      refine lv_icmp_ge (tgt := 119) hx hb dX12_productsBy_16 (by decide) (fun c => ?_) (fun c => ?_)
      · have hf := g_pos c hf
        refine lv_lload hx hb dX12_productsBy_119 (lv_at hl 4 rfl) ?_
        exact q_lret hx hb hr hlocks hW hS hf dX12_productsBy_121
      · have hf := g_neg c hf
        refine lv_iload_n hx hb dX12_productsBy_19 rfl (lv_at hl 2 rfl) ?_
        refine lv_aload_n hx hb dX12_productsBy_20 rfl (lv_at hl 0 rfl) ?_
        refine q_geti (own := RX12) (ref := RX12) (C := RX12) (T := TX12) (N := 57) (kc := 9) (ci := 0) hx hb hts hin12 hown hK hW h_this (by decide) rfl 54 (by decide) hw0 rfl rfl dX12_productsBy_21 ?_
        refine lv_iload hx hb dX12_productsBy_24 (lv_at hl 5 rfl) ?_
        refine lv_isub hx hb dX12_productsBy_26 ?_
        obtain ⟨hz_1, hf⟩ := g_ne hf
        refine lv_irem hx hb dX12_productsBy_27 hz_1 ?_
        refine lv_topi (fun x7_2 ex7_2 => ?_)
        have hf := g_lt ex7_2 hf
        refine lv_istore (lv' := [(7, .int x7_2), (0, .ref (z + this)), (1, .int a1), (2, .int x2), (3, .int x3), (4, .long x4), (6, .int x6)]) hx hb dX12_productsBy_28 hl (by decide) rfl (fun ls hl => ?_)
        refine lv_iload_n hx hb dX12_productsBy_30 rfl (lv_at hl 3 rfl) ?_
        refine lv_aload_n hx hb dX12_productsBy_31 rfl (lv_at hl 1 rfl) ?_
        refine q_geti (own := RX12) (ref := RX12) (C := RX12) (T := TX12) (N := 57) (kc := 9) (ci := 0) hx hb hts hin12 hown hK hW h_this (by decide) rfl 54 (by decide) hw0 rfl rfl dX12_productsBy_32 ?_
        refine lv_iload hx hb dX12_productsBy_35 (lv_at hl 6 rfl) ?_
        refine lv_isub hx hb dX12_productsBy_37 ?_
        obtain ⟨hz_3, hf⟩ := g_ne hf
        refine lv_idiv hx hb dX12_productsBy_38 hz_3 ?_
        refine lv_topi (fun x2_4 ex2_4 => ?_)
        have hf := g_lt ex2_4 hf
        refine lv_istore_n (lv' := [(2, .int x2_4), (7, .int x7_2), (0, .ref (z + this)), (1, .int a1), (3, .int x3), (4, .long x4), (6, .int x6)]) hx hb dX12_productsBy_39 rfl hl (by decide) rfl (fun ls hl => ?_)
        refine lv_iconst (v := 0) hx hb dX12_productsBy_40 (by decide) ?_
        refine lv_istore (lv' := [(8, .int 0), (2, .int x2_4), (7, .int x7_2), (0, .ref (z + this)), (1, .int a1), (3, .int x3), (4, .long x4), (6, .int x6)]) hx hb dX12_productsBy_41 hl (by decide) rfl (fun ls hl => ?_)
        exact B43 k10 H10 fu x2_4 x3 x4 x6 x7_2 0 σ hf _ _ _ hW hS (lv_sub hl [3, 4, 1, 5, 6, 7, 2, 0] rfl)
  refine lv_iload_n hx hb dX12_productsBy_0 rfl (lv_at hl 1 rfl) ?_
  refine lv_istore_n (lv' := [(2, .int a1), (0, .ref (z + this)), (1, .int a1)]) hx hb dX12_productsBy_1 rfl hl (by decide) rfl (fun ls hl => ?_)
  refine lv_iconst (v := 0) hx hb dX12_productsBy_2 (by decide) ?_
  refine lv_istore_n (lv' := [(3, .int 0), (2, .int a1), (0, .ref (z + this)), (1, .int a1)]) hx hb dX12_productsBy_3 rfl hl (by decide) rfl (fun ls hl => ?_)
  refine lv_lconst (v := 0) hx hb dX12_productsBy_4 (by decide) ?_
  refine lv_lstore (lv' := [(4, .long 0), (3, .int 0), (2, .int a1), (0, .ref (z + this)), (1, .int a1)]) hx hb dX12_productsBy_5 hl (by decide) rfl (fun ls hl => ?_)
  refine lv_iconst (v := 0) hx hb dX12_productsBy_7 (by decide) ?_
  refine lv_istore (lv' := [(6, .int 0), (4, .long 0), (3, .int 0), (2, .int a1), (0, .ref (z + this)), (1, .int a1)]) hx hb dX12_productsBy_8 hl (by decide) rfl (fun ls hl => ?_)
  exact B10 fu a1 0 0 0 σ hf _ _ _ hW hS (lv_sub hl [4, 5, 3, 2, 1, 0] rfl)
set_option maxRecDepth 100000 in
set_option maxHeartbeats 40000000 in
theorem k_X12_hum (l : Launch) (z n : Nat) (D : va_G) (cy : Nat → ClassId) (Y : Yt) {fu : Nat} {this : Nat} {a1 : Int32} {a2 : Int32} {σ : Mm} {r : Int64} {σ1 : Mm} (h_this : okk Y n 9 this) (hf : f_X12_hum Y fu this a1 a2 σ = some (r, σ1)) : Kl l yX12_hum wsX12_hum ({ frames := 4, cells := 0, slots := 0, locals := 102 } : Room) z n D cy Y [.ref (z + this), .int a1, .int a2] σ r σ1 := by
  refine Met.ofW (cc := cX12_hum) (maxL := 3) (ret := (some .long)) (by decide +kernel) rfl ?_
  intro p e s m args below meth c s₁ B hml hv
  obtain ⟨rfl, hW, hK, hN⟩ := hv
  have hx := B.exec
  have hb := B.bytes
  have hr := B.returns
  have hts := atoms_spec (ws := wsX12_hum) B.pre
  have hown : s.vm.findClass RX12 = some m.cls := findClass_of_methodNamed B.named
  have hlocks := B.notSynchronized
  have hS : va_S (Az z) s.heap s.heap [] := va_S.rf
  have hw0 := hts (.constantLong RX12 304 (-1000000000000000000)) (List.mem_of_getElem? (i := 1) rfl)
  have hw1 := hts (.constantLong RX12 306 (-1000000000000000002)) (List.mem_of_getElem? (i := 2) rfl)
  have hl := lv_entry ([.ref (z + this), .int a1, .int a2]) (n := 3) (Nat.le_of_ble_eq_true rfl)
  rw [lg_entry_eq]
  generalize (lg_sl ([.ref (z + this), .int a1, .int a2]) ++ List.replicate (3 - (lg_sl ([.ref (z + this), .int a1, .int a2])).length) Slot.unset).toArray = ls at hl ⊢
  have hl : lv_has ls 3 [(0, .ref (z + this)), (1, .int a1), (2, .int a2)] := hl
  refine lv_iload_n hx hb dX12_hum_0 rfl (lv_at hl 1 rfl) ?_
  obtain ⟨r_3, σ_2, hc_1, hf⟩ := g_bnd hf
  refine q_calli (va_runS (As := [.int a1]) (rest := []) ⟨hx, hb, hml, hown, hts⟩ (k_X12_isStar l z n D cy Y hc_1) (va_cwS 1 hts gX12_hum_X12_isStar rfl rfl rfl (by decide +kernel) ⟨Nat.le_of_ble_eq_true rfl, Nat.le_of_ble_eq_true rfl⟩) (q_PS hK hN hW) rfl rfl hl.1 rfl (lv_room (Nat.le_of_ble_eq_true rfl)) dX12_hum_1 ⟨Nat.le_refl _, Nat.le_refl _⟩) hS (fun H locs hW hS => ?_)
  refine lv_if_eq (tgt := 19) hx hb dX12_hum_4 (by decide) (fun c => ?_) (fun c => ?_)
  · have hf := g_pos c hf
    refine lv_ldc2 hx hb hown hw0 dX12_hum_19 ?_
    exact q_lret hx hb hr hlocks hW hS hf dX12_hum_22
  · have hf := g_neg c hf
    refine lv_iload_n hx hb dX12_hum_7 rfl (lv_at hl 2 rfl) ?_
    obtain ⟨r_6, σ_5, hc_4, hf⟩ := g_bnd hf
    refine q_calli (va_runS (As := [.int a2]) (rest := []) ⟨hx, hb, hml, hown, hts⟩ (k_X12_isStar l z n D cy Y hc_4) (va_cwS 1 hts gX12_hum_X12_isStar rfl rfl rfl (by decide +kernel) ⟨Nat.le_of_ble_eq_true rfl, Nat.le_of_ble_eq_true rfl⟩) (q_PS hK hN hW) rfl rfl hl.1 rfl (lv_room (Nat.le_of_ble_eq_true rfl)) dX12_hum_8 ⟨Nat.le_refl _, Nat.le_refl _⟩) hS (fun H locs hW hS => ?_)
    refine lv_if_eq (tgt := 19) hx hb dX12_hum_11 (by decide) (fun c => ?_) (fun c => ?_)
    · have hf := g_pos c hf
      refine lv_ldc2 hx hb hown hw0 dX12_hum_19 ?_
      exact q_lret hx hb hr hlocks hW hS hf dX12_hum_22
    · have hf := g_neg c hf
      refine lv_iload_n hx hb dX12_hum_14 rfl (lv_at hl 1 rfl) ?_
      refine lv_iload_n hx hb dX12_hum_15 rfl (lv_at hl 2 rfl) ?_
      refine lv_icmp_ne (tgt := 23) hx hb dX12_hum_16 (by decide) (fun c => ?_) (fun c => ?_)
      · have hf := g_neg c hf
        refine lv_aload_n hx hb dX12_hum_23 rfl (lv_at hl 0 rfl) ?_
        refine lv_iload_n hx hb dX12_hum_24 rfl (lv_at hl 1 rfl) ?_
        refine lv_iload_n hx hb dX12_hum_25 rfl (lv_at hl 2 rfl) ?_
        obtain ⟨r_9, σ_8, hc_7, hf⟩ := g_bnd hf
        refine q_calli (va_runV (As := [.int a1, .int a2]) (rest := []) ⟨hx, hb, hml, hown, hts⟩ (k_X12_layBoth l z n D cy Y h_this hc_7) (cwV 2 hts gX12_hum_X12_layBoth rfl rfl rfl (by decide +kernel) ⟨Nat.le_of_ble_eq_true rfl, Nat.le_of_ble_eq_true rfl⟩) (q_PV (T := TX12) (N := 57) hK hN hW h_this (by decide) rfl) rfl rfl hl.1 rfl (lv_room (Nat.le_of_ble_eq_true rfl)) dX12_hum_26 ⟨Nat.le_refl _, Nat.le_refl _⟩) hS (fun H locs hW hS => ?_)
        refine lv_if_eq (tgt := 40) hx hb dX12_hum_29 (by decide) (fun c => ?_) (fun c => ?_)
        · have hf := g_pos c hf
          refine lv_ldc2 hx hb hown hw1 dX12_hum_40 ?_
          exact q_lret hx hb hr hlocks hW hS hf dX12_hum_43
        · have hf := g_neg c hf
          refine lv_aload_n hx hb dX12_hum_32 rfl (lv_at hl 0 rfl) ?_
          refine lv_iconst (v := 0) hx hb dX12_hum_33 (by decide) ?_
          obtain ⟨r_12, σ_11, hc_10, hf⟩ := g_bnd hf
          refine q_calll (va_runV (As := [.int 0]) (rest := []) ⟨hx, hb, hml, hown, hts⟩ (k_X12_productsBy l z n D cy Y h_this hc_10) (cwV 1 hts gX12_hum_X12_productsBy rfl rfl rfl (by decide +kernel) ⟨Nat.le_of_ble_eq_true rfl, Nat.le_of_ble_eq_true rfl⟩) (q_PV (T := TX12) (N := 57) hK hN hW h_this (by decide) rfl) rfl rfl hl.1 rfl (lv_room (Nat.le_of_ble_eq_true rfl)) dX12_hum_34 ⟨Nat.le_refl _, Nat.le_refl _⟩) hS (fun H locs hW hS => ?_)
          refine lv_goto (tgt := 43) hx hb dX12_hum_37 (by decide) ?_
          exact q_lret hx hb hr hlocks hW hS hf dX12_hum_43
      · have hf := g_pos c hf
        refine lv_ldc2 hx hb hown hw0 dX12_hum_19 ?_
        exact q_lret hx hb hr hlocks hW hS hf dX12_hum_22
set_option maxRecDepth 100000 in
set_option maxHeartbeats 40000000 in
theorem k_X12_down (l : Launch) (z n : Nat) (D : va_G) (cy : Nat → ClassId) (Y : Yt) {a0 : Int64} {a2 : Int64} {σ : Mm} {r : Int64} {σ1 : Mm} (hf : f_X12_down Y a0 a2 σ = some (r, σ1)) : Kl l yX12_down wsX12_down ({ frames := 0, cells := 0, slots := 0, locals := 0 } : Room) z n D cy Y [.long a0, .long a2] σ r σ1 := by
  refine Met.ofW (cc := cX12_down) (maxL := 4) (ret := (some .long)) (by decide +kernel) rfl ?_
  intro p e s m args below meth c s₁ B hml hv
  obtain ⟨rfl, hW, hK, hN⟩ := hv
  have hx := B.exec
  have hb := B.bytes
  have hr := B.returns
  have hts := atoms_spec (ws := wsX12_down) B.pre
  have hown : s.vm.findClass RX12 = some m.cls := findClass_of_methodNamed B.named
  have hlocks := B.notSynchronized
  have hS : va_S (Az z) s.heap s.heap [] := va_S.rf
  have hl := lv_entry ([.long a0, .long a2]) (n := 4) (Nat.le_of_ble_eq_true rfl)
  rw [lg_entry_eq]
  generalize (lg_sl ([.long a0, .long a2]) ++ List.replicate (4 - (lg_sl ([.long a0, .long a2])).length) Slot.unset).toArray = ls at hl ⊢
  have hl : lv_has ls 4 [(0, .long a0), (2, .long a2)] := hl
  refine lv_lload_n hx hb dX12_down_0 rfl (lv_at hl 0 rfl) ?_
  refine lv_lconst (v := 0) hx hb dX12_down_1 (by decide) ?_
  refine W.lcmp hx hb dX12_down_2 ?_
  refine lv_if_lt (tgt := 12) hx hb dX12_down_3 (by decide) (fun c => ?_) (fun c => ?_)
  · have hf := g_pos ((lg_cmp_lt _ _).mp c) hf
    refine lv_lload_n hx hb dX12_down_12 rfl (lv_at hl 0 rfl) ?_
    refine lv_lneg hx hb dX12_down_13 ?_
    refine lv_lload_n hx hb dX12_down_14 rfl (lv_at hl 1 rfl) ?_
    refine lv_ladd hx hb dX12_down_15 ?_
    refine lv_lconst (v := 1) hx hb dX12_down_16 (by decide) ?_
    refine lv_lsub hx hb dX12_down_17 ?_
    refine lv_lload_n hx hb dX12_down_18 rfl (lv_at hl 1 rfl) ?_
    obtain ⟨hz_1, hf⟩ := g_ne hf
    refine lv_ldiv hx hb dX12_down_19 hz_1 ?_
    refine lv_lneg hx hb dX12_down_20 ?_
    exact q_lret hx hb hr hlocks hW hS hf dX12_down_21
  · have hf := g_neg (fun h => c ((lg_cmp_lt _ _).mpr h)) hf
    refine lv_lload_n hx hb dX12_down_6 rfl (lv_at hl 0 rfl) ?_
    refine lv_lload_n hx hb dX12_down_7 rfl (lv_at hl 1 rfl) ?_
    obtain ⟨hz_2, hf⟩ := g_ne hf
    refine lv_ldiv hx hb dX12_down_8 hz_2 ?_
    refine lv_goto (tgt := 21) hx hb dX12_down_9 (by decide) ?_
    exact q_lret hx hb hr hlocks hW hS hf dX12_down_21
set_option maxRecDepth 100000 in
set_option maxHeartbeats 40000000 in
theorem k_X12_up (l : Launch) (z n : Nat) (D : va_G) (cy : Nat → ClassId) (Y : Yt) {a0 : Int64} {a2 : Int64} {σ : Mm} {r : Int64} {σ1 : Mm} (hf : f_X12_up Y a0 a2 σ = some (r, σ1)) : Kl l yX12_up wsX12_up ({ frames := 0, cells := 0, slots := 0, locals := 0 } : Room) z n D cy Y [.long a0, .long a2] σ r σ1 := by
  refine Met.ofW (cc := cX12_up) (maxL := 4) (ret := (some .long)) (by decide +kernel) rfl ?_
  intro p e s m args below meth c s₁ B hml hv
  obtain ⟨rfl, hW, hK, hN⟩ := hv
  have hx := B.exec
  have hb := B.bytes
  have hr := B.returns
  have hts := atoms_spec (ws := wsX12_up) B.pre
  have hown : s.vm.findClass RX12 = some m.cls := findClass_of_methodNamed B.named
  have hlocks := B.notSynchronized
  have hS : va_S (Az z) s.heap s.heap [] := va_S.rf
  have hl := lv_entry ([.long a0, .long a2]) (n := 4) (Nat.le_of_ble_eq_true rfl)
  rw [lg_entry_eq]
  generalize (lg_sl ([.long a0, .long a2]) ++ List.replicate (4 - (lg_sl ([.long a0, .long a2])).length) Slot.unset).toArray = ls at hl ⊢
  have hl : lv_has ls 4 [(0, .long a0), (2, .long a2)] := hl
  refine lv_lload_n hx hb dX12_up_0 rfl (lv_at hl 0 rfl) ?_
  refine lv_lconst (v := 0) hx hb dX12_up_1 (by decide) ?_
  refine W.lcmp hx hb dX12_up_2 ?_
  refine lv_if_lt (tgt := 16) hx hb dX12_up_3 (by decide) (fun c => ?_) (fun c => ?_)
  · have hf := g_pos ((lg_cmp_lt _ _).mp c) hf
    refine lv_lload_n hx hb dX12_up_16 rfl (lv_at hl 0 rfl) ?_
    refine lv_lneg hx hb dX12_up_17 ?_
    refine lv_lload_n hx hb dX12_up_18 rfl (lv_at hl 1 rfl) ?_
    obtain ⟨hz_1, hf⟩ := g_ne hf
    refine lv_ldiv hx hb dX12_up_19 hz_1 ?_
    refine lv_lneg hx hb dX12_up_20 ?_
    exact q_lret hx hb hr hlocks hW hS hf dX12_up_21
  · have hf := g_neg (fun h => c ((lg_cmp_lt _ _).mpr h)) hf
    refine lv_lload_n hx hb dX12_up_6 rfl (lv_at hl 0 rfl) ?_
    refine lv_lload_n hx hb dX12_up_7 rfl (lv_at hl 1 rfl) ?_
    refine lv_ladd hx hb dX12_up_8 ?_
    refine lv_lconst (v := 1) hx hb dX12_up_9 (by decide) ?_
    refine lv_lsub hx hb dX12_up_10 ?_
    refine lv_lload_n hx hb dX12_up_11 rfl (lv_at hl 1 rfl) ?_
    obtain ⟨hz_2, hf⟩ := g_ne hf
    refine lv_ldiv hx hb dX12_up_12 hz_2 ?_
    refine lv_goto (tgt := 21) hx hb dX12_up_13 (by decide) ?_
    exact q_lret hx hb hr hlocks hW hS hf dX12_up_21
set_option maxRecDepth 100000 in
set_option maxHeartbeats 40000000 in
theorem k_X12_leftAt (l : Launch) (z n : Nat) (D : va_G) (cy : Nat → ClassId) (Y : Yt) {fu : Nat} {this : Nat} {a1 : Int32} {a2 : Int32} {σ : Mm} {r : Int32} {σ1 : Mm} (h_this : okk Y n 9 this) (hf : f_X12_leftAt Y fu this a1 a2 σ = some (r, σ1)) : Ki l yX12_leftAt wsX12_leftAt ({ frames := 1, cells := 0, slots := 0, locals := 23 } : Room) z n D cy Y [.ref (z + this), .int a1, .int a2] σ r σ1 := by
  refine Met.ofW (cc := cX12_leftAt) (maxL := 13) (ret := (some .int)) (by decide +kernel) rfl ?_
  intro p e s m args below meth c s₁ B hml hv
  obtain ⟨rfl, hW, hK, hN⟩ := hv
  have hx := B.exec
  have hb := B.bytes
  have hr := B.returns
  have hts := atoms_spec (ws := wsX12_leftAt) B.pre
  have hown : s.vm.findClass RX12 = some m.cls := findClass_of_methodNamed B.named
  have hlocks := B.notSynchronized
  have hS : va_S (Az z) s.heap s.heap [] := va_S.rf
  have hin12 : ∀ w ∈ wsX120, w ∈ wsX12_leftAt := fun w h => List.mem_cons_of_mem _ (List.mem_append_right _ h)
  have hw0 := hts (.constantLong RX12 148 (1000)) (List.mem_of_getElem? (i := 1) rfl)
  have hw1 := hts (.fieldLink RX12 83 "SkyClocksModel" "wayCorrected" "[I") (List.mem_of_getElem? (i := 2) rfl)
  have hw2 := hts (.fieldLink RX12 86 "SkyClocksModel" "wayErr" "[I") (List.mem_of_getElem? (i := 3) rfl)
  have hw3 := hts (.fieldLink RX12 282 "SkyClocksModel" "ways" "I") (List.mem_of_getElem? (i := 4) rfl)
  have hw4 := hts (.fieldLink RX12 101 "SkyClocksModel" "wayHighBelow" "[J") (List.mem_of_getElem? (i := 5) rfl)
  have hw5 := hts (.fieldLink RX12 98 "SkyClocksModel" "wayHighUp" "[J") (List.mem_of_getElem? (i := 6) rfl)
  have hw6 := hts (.fieldLink RX12 89 "SkyClocksModel" "wayCounts" "[I") (List.mem_of_getElem? (i := 7) rfl)
  have hw7 := hts (.fieldLink RX12 279 "SkyClocksModel" "length0" "I") (List.mem_of_getElem? (i := 8) rfl)
  have hw8 := hts (.fieldLink RX12 95 "SkyClocksModel" "wayLowBelow" "[J") (List.mem_of_getElem? (i := 9) rfl)
  have hw9 := hts (.fieldLink RX12 92 "SkyClocksModel" "wayLowUp" "[J") (List.mem_of_getElem? (i := 10) rfl)
  have hl := lv_entry ([.ref (z + this), .int a1, .int a2]) (n := 13) (Nat.le_of_ble_eq_true rfl)
  rw [lg_entry_eq]
  generalize (lg_sl ([.ref (z + this), .int a1, .int a2]) ++ List.replicate (13 - (lg_sl ([.ref (z + this), .int a1, .int a2])).length) Slot.unset).toArray = ls at hl ⊢
  have hl : lv_has ls 13 [(0, .ref (z + this)), (1, .int a1), (2, .int a2)] := hl
  have B155 : ∀ (k53 : Int64 → Int64 → Int32 → Int32 → Mm → Option (Int32 × Mm)) (H53 : ∀ (x3 : Int64) (x5 : Int64) (x7 : Int32) (x8 : Int32) (σ : Mm), k53 x3 x5 x7 x8 σ = some (r, σ1) → ∀ (H : Heap) (locs : List Loc) (ls : Array Slot), WH z n D cy Y σ H → va_S (Az z) s.heap H locs → lv_has ls 13 [(0, .ref (z + this)), (1, .int a1), (2, .int a2), (3, .long x3), (5, .long x5), (7, .int x7), (8, .int x8)] → W p l e ({ frames := 1, cells := 0, slots := 0, locals := 23 } : Room) s m ([.ref (z + this), .int a1, .int a2] : List Value).toArray below meth c H locs 0 0 (MQ below (va_Qi (fun (x : Int32) (_ : Unit) => x = r) (fun _ t => WH z n D cy Y σ1 t.heap) (Az z)) ([.ref (z + this), .int a1, .int a2] : List Value).toArray s 0 0 (Az z)) (F0 m 53 ls [])) (x3 : Int64) (x5 : Int64) (x8 : Int32) (t0 : Int32) (t1 : Int32) (σ : Mm), b_X12_leftAt_155 Y fu this a1 a2 k53 x3 x5 x8 t0 t1 σ = some (r, σ1) → ∀ (H : Heap) (locs : List Loc) (ls : Array Slot), WH z n D cy Y σ H → va_S (Az z) s.heap H locs → lv_has ls 13 [(0, .ref (z + this)), (1, .int a1), (2, .int a2), (3, .long x3), (5, .long x5), (8, .int x8)] → W p l e ({ frames := 1, cells := 0, slots := 0, locals := 23 } : Room) s m ([.ref (z + this), .int a1, .int a2] : List Value).toArray below meth c H locs 0 0 (MQ below (va_Qi (fun (x : Int32) (_ : Unit) => x = r) (fun _ t => WH z n D cy Y σ1 t.heap) (Az z)) ([.ref (z + this), .int a1, .int a2] : List Value).toArray s 0 0 (Az z)) (F0 m 155 ls [.int t0, .int t1]) := by
    intro k53 H53 x3 x5 x8 t0 t1 σ  hf H locs ls hW hS hl
    refine lv_iadd hx hb dX12_leftAt_155 ?_
    refine lv_topi (fun x7_37 ex7_37 => ?_)
    have hf := g_lt ex7_37 hf
    refine lv_istore (lv' := [(7, .int x7_37), (0, .ref (z + this)), (1, .int a1), (2, .int a2), (3, .long x3), (5, .long x5), (8, .int x8)]) hx hb dX12_leftAt_156 hl (by decide) rfl (fun ls hl => ?_)
    obtain ⟨x8_38, ex8_38⟩ : ∃ y : Int32, y = x8 + 1 := ⟨_, rfl⟩
    have hf := g_lt ex8_38 hf
    refine lv_iinc (v := x8_38) (lv' := [(8, .int x8_38), (7, .int x7_37), (0, .ref (z + this)), (1, .int a1), (2, .int a2), (3, .long x3), (5, .long x5)]) hx hb dX12_leftAt_158 hl (k := 6) rfl (by rw [ex8_38]; rfl) (by decide) rfl (fun ls hl => ?_)
    refine lv_goto (tgt := 53) hx hb dX12_leftAt_161 (by decide) ?_
    exact H53 x3 x5 x7_37 x8_38 σ hf _ _ _ hW hS (lv_sub hl [2, 3, 4, 5, 6, 1, 0] rfl)
  have B120 : ∀ (k53 : Int64 → Int64 → Int32 → Int32 → Mm → Option (Int32 × Mm)) (H53 : ∀ (x3 : Int64) (x5 : Int64) (x7 : Int32) (x8 : Int32) (σ : Mm), k53 x3 x5 x7 x8 σ = some (r, σ1) → ∀ (H : Heap) (locs : List Loc) (ls : Array Slot), WH z n D cy Y σ H → va_S (Az z) s.heap H locs → lv_has ls 13 [(0, .ref (z + this)), (1, .int a1), (2, .int a2), (3, .long x3), (5, .long x5), (7, .int x7), (8, .int x8)] → W p l e ({ frames := 1, cells := 0, slots := 0, locals := 23 } : Room) s m ([.ref (z + this), .int a1, .int a2] : List Value).toArray below meth c H locs 0 0 (MQ below (va_Qi (fun (x : Int32) (_ : Unit) => x = r) (fun _ t => WH z n D cy Y σ1 t.heap) (Az z)) ([.ref (z + this), .int a1, .int a2] : List Value).toArray s 0 0 (Az z)) (F0 m 53 ls [])) (x3 : Int64) (x5 : Int64) (x7 : Int32) (x8 : Int32) (t0 : Int64) (σ : Mm), b_X12_leftAt_120 Y fu this a1 a2 k53 x3 x5 x7 x8 t0 σ = some (r, σ1) → ∀ (H : Heap) (locs : List Loc) (ls : Array Slot), WH z n D cy Y σ H → va_S (Az z) s.heap H locs → lv_has ls 13 [(0, .ref (z + this)), (1, .int a1), (2, .int a2), (3, .long x3), (5, .long x5), (7, .int x7), (8, .int x8)] → W p l e ({ frames := 1, cells := 0, slots := 0, locals := 23 } : Room) s m ([.ref (z + this), .int a1, .int a2] : List Value).toArray below meth c H locs 0 0 (MQ below (va_Qi (fun (x : Int32) (_ : Unit) => x = r) (fun _ t => WH z n D cy Y σ1 t.heap) (Az z)) ([.ref (z + this), .int a1, .int a2] : List Value).toArray s 0 0 (Az z)) (F0 m 120 ls [.long t0]) := by
    intro k53 H53 x3 x5 x7 x8 t0 σ  hf H locs ls hW hS hl
    refine lv_lstore (lv' := [(9, .long t0), (0, .ref (z + this)), (1, .int a1), (2, .int a2), (3, .long x3), (5, .long x5), (7, .int x7), (8, .int x8)]) hx hb dX12_leftAt_120 hl (by decide) rfl (fun ls hl => ?_)
    refine lv_iload hx hb dX12_leftAt_122 (lv_at hl 6 rfl) ?_
    refine lv_lload hx hb dX12_leftAt_124 (lv_at hl 0 rfl) ?_
    refine lv_lload hx hb dX12_leftAt_126 (lv_at hl 5 rfl) ?_
    refine lv_aload_n hx hb dX12_leftAt_128 rfl (lv_at hl 1 rfl) ?_
    refine q_getp (own := RX12) (ref := RX12) (C := RX12) (T := TX12) (N := 57) (kc := 9) (ci := 0) hx hb hts hin12 hown hK hW h_this (by decide) rfl 39 (by decide) hw8 rfl rfl rfl (v := 622) rfl dX12_leftAt_129 (fun hk_28 hq_29 => ?_)
    refine lv_iload hx hb dX12_leftAt_132 (lv_at hl 7 rfl) ?_
    obtain ⟨hi_30, hf⟩ := g_in hf
    refine q_lald hx hb hK hW hk_28 (inb_of hq_29 hi_30) dX12_leftAt_134 ?_
    refine lv_lmul hx hb dX12_leftAt_135 ?_
    refine lv_aload_n hx hb dX12_leftAt_136 rfl (lv_at hl 1 rfl) ?_
    refine q_getp (own := RX12) (ref := RX12) (C := RX12) (T := TX12) (N := 57) (kc := 9) (ci := 0) hx hb hts hin12 hown hK hW h_this (by decide) rfl 38 (by decide) hw9 rfl rfl rfl (v := 621) rfl dX12_leftAt_137 (fun hk_31 hq_32 => ?_)
    refine lv_iload hx hb dX12_leftAt_140 (lv_at hl 7 rfl) ?_
    obtain ⟨hi_33, hf⟩ := g_in hf
    refine q_lald hx hb hK hW hk_31 (inb_of hq_32 hi_33) dX12_leftAt_142 ?_
    obtain ⟨r_36, σ_35, hc_34, hf⟩ := g_bnd hf
    refine q_calll (va_runS (As := [.long (x5 * (Mm.gl σ 622 (ix x8))), .long (Mm.gl σ 621 (ix x8))]) (rest := [.long t0, .int x7]) ⟨hx, hb, hml, hown, hts⟩ (k_X12_down l z n D cy Y hc_34) (va_cwS 2 hts gX12_leftAt_X12_down rfl rfl rfl (by decide +kernel) ⟨Nat.le_of_ble_eq_true rfl, Nat.le_of_ble_eq_true rfl⟩) (q_PS hK hN hW) rfl rfl hl.1 rfl (lv_room (Nat.le_of_ble_eq_true rfl)) dX12_leftAt_143 ⟨Nat.le_refl _, Nat.le_refl _⟩) hS (fun H locs hW hS => ?_)
    refine W.lcmp hx hb dX12_leftAt_146 ?_
    refine lv_if_gt (tgt := 154) hx hb dX12_leftAt_147 (by decide) (fun c => ?_) (fun c => ?_)
    · have hf := g_pos ((lg_cmp_gt _ _).mp c) hf
      refine lv_iconst (v := 0) hx hb dX12_leftAt_154 (by decide) ?_
      exact B155 k53 H53 x3 x5 x8 0 x7 σ_35 hf _ _ _ hW hS (lv_sub hl [1, 2, 3, 4, 5, 7] rfl)
    · have hf := g_neg (fun h => c ((lg_cmp_gt _ _).mpr h)) hf
      refine lv_iconst (v := 1) hx hb dX12_leftAt_150 (by decide) ?_
      refine lv_goto (tgt := 155) hx hb dX12_leftAt_151 (by decide) ?_
      exact B155 k53 H53 x3 x5 x8 1 x7 σ_35 hf _ _ _ hW hS (lv_sub hl [1, 2, 3, 4, 5, 7] rfl)
  have B53 : ∀ (nn : Nat) (x3 : Int64) (x5 : Int64) (x7 : Int32) (x8 : Int32) (σ : Mm), b_X12_leftAt_53 Y fu this a1 a2 nn x3 x5 x7 x8 σ = some (r, σ1) → ∀ (H : Heap) (locs : List Loc) (ls : Array Slot), WH z n D cy Y σ H → va_S (Az z) s.heap H locs → lv_has ls 13 [(0, .ref (z + this)), (1, .int a1), (2, .int a2), (3, .long x3), (5, .long x5), (7, .int x7), (8, .int x8)] → W p l e ({ frames := 1, cells := 0, slots := 0, locals := 23 } : Room) s m ([.ref (z + this), .int a1, .int a2] : List Value).toArray below meth c H locs 0 0 (MQ below (va_Qi (fun (x : Int32) (_ : Unit) => x = r) (fun _ t => WH z n D cy Y σ1 t.heap) (Az z)) ([.ref (z + this), .int a1, .int a2] : List Value).toArray s 0 0 (Az z)) (F0 m 53 ls []) := by
    intro nn
    induction nn with
    | zero =>
      intro x3 x5 x7 x8 σ  hf
      have h9 : (none : Option (Int32 × Mm)) = some (r, σ1) := hf
      cases h9
    | succ nn H53 =>
      intro x3 x5 x7 x8 σ  hf H locs ls hW hS hl
      have hf : s_X12_leftAt_53 Y fu this a1 a2 (b_X12_leftAt_53 Y fu this a1 a2 nn) x3 x5 x7 x8 σ = some (r, σ1) := hf
      generalize hkk : b_X12_leftAt_53 Y fu this a1 a2 nn = k53 at hf H53
      refine lv_iload hx hb dX12_leftAt_53 (lv_at hl 6 rfl) ?_
      refine lv_aload_n hx hb dX12_leftAt_55 rfl (lv_at hl 0 rfl) ?_
      refine q_geti (own := RX12) (ref := RX12) (C := RX12) (T := TX12) (N := 57) (kc := 9) (ci := 0) hx hb hts hin12 hown hK hW h_this (by decide) rfl 33 (by decide) hw3 rfl rfl dX12_leftAt_56 ?_
      refine lv_icmp_ge (tgt := 164) hx hb dX12_leftAt_59 (by decide) (fun c => ?_) (fun c => ?_)
      · have hf := g_pos c hf
        refine lv_iload hx hb dX12_leftAt_164 (lv_at hl 5 rfl) ?_
        exact q_iret hx hb hr hlocks hW hS hf dX12_leftAt_166
      · have hf := g_neg c hf
        refine lv_lload_n hx hb dX12_leftAt_62 rfl (lv_at hl 3 rfl) ?_
        refine lv_aload_n hx hb dX12_leftAt_63 rfl (lv_at hl 0 rfl) ?_
        refine q_getp (own := RX12) (ref := RX12) (C := RX12) (T := TX12) (N := 57) (kc := 9) (ci := 0) hx hb hts hin12 hown hK hW h_this (by decide) rfl 41 (by decide) hw4 rfl rfl rfl (v := 624) rfl dX12_leftAt_64 (fun hk_15 hq_16 => ?_)
        refine lv_iload hx hb dX12_leftAt_67 (lv_at hl 6 rfl) ?_
        obtain ⟨hi_17, hf⟩ := g_in hf
        refine q_lald hx hb hK hW hk_15 (inb_of hq_16 hi_17) dX12_leftAt_69 ?_
        refine lv_lmul hx hb dX12_leftAt_70 ?_
        refine lv_aload_n hx hb dX12_leftAt_71 rfl (lv_at hl 0 rfl) ?_
        refine q_getp (own := RX12) (ref := RX12) (C := RX12) (T := TX12) (N := 57) (kc := 9) (ci := 0) hx hb hts hin12 hown hK hW h_this (by decide) rfl 40 (by decide) hw5 rfl rfl rfl (v := 623) rfl dX12_leftAt_72 (fun hk_18 hq_19 => ?_)
        refine lv_iload hx hb dX12_leftAt_75 (lv_at hl 6 rfl) ?_
        obtain ⟨hi_20, hf⟩ := g_in hf
        refine q_lald hx hb hK hW hk_18 (inb_of hq_19 hi_20) dX12_leftAt_77 ?_
        obtain ⟨r_23, σ_22, hc_21, hf⟩ := g_bnd hf
        refine q_calll (va_runS (As := [.long (x3 * (Mm.gl σ 624 (ix x8))), .long (Mm.gl σ 623 (ix x8))]) (rest := []) ⟨hx, hb, hml, hown, hts⟩ (k_X12_up l z n D cy Y hc_21) (va_cwS 2 hts gX12_leftAt_X12_up rfl rfl rfl (by decide +kernel) ⟨Nat.le_of_ble_eq_true rfl, Nat.le_of_ble_eq_true rfl⟩) (q_PS hK hN hW) rfl rfl hl.1 rfl (lv_room (Nat.le_of_ble_eq_true rfl)) dX12_leftAt_78 ⟨Nat.le_refl _, Nat.le_refl _⟩) hS (fun H locs hW hS => ?_)
        refine lv_lstore (lv' := [(9, .long r_23), (0, .ref (z + this)), (1, .int a1), (2, .int a2), (3, .long x3), (5, .long x5), (7, .int x7), (8, .int x8)]) hx hb dX12_leftAt_81 hl (by decide) rfl (fun ls hl => ?_)
        refine lv_aload_n hx hb dX12_leftAt_83 rfl (lv_at hl 1 rfl) ?_
        refine q_getp (own := RX12) (ref := RX12) (C := RX12) (T := TX12) (N := 57) (kc := 9) (ci := 0) hx hb hts hin12 hown hK hW h_this (by decide) rfl 37 (by decide) hw6 rfl rfl rfl (v := 620) rfl dX12_leftAt_84 (fun hk_24 hq_25 => ?_)
        refine lv_bipush (v := 24) hx hb dX12_leftAt_87 (by decide) ?_
        refine lv_iload hx hb dX12_leftAt_89 (lv_at hl 7 rfl) ?_
        refine lv_imul hx hb dX12_leftAt_91 ?_
        refine lv_aload_n hx hb dX12_leftAt_92 rfl (lv_at hl 1 rfl) ?_
        refine q_geti (own := RX12) (ref := RX12) (C := RX12) (T := TX12) (N := 57) (kc := 9) (ci := 0) hx hb hts hin12 hown hK hW h_this (by decide) rfl 34 (by decide) hw7 rfl rfl dX12_leftAt_93 ?_
        refine lv_iadd hx hb dX12_leftAt_96 ?_
        refine lv_iconst (v := 1) hx hb dX12_leftAt_97 (by decide) ?_
        refine lv_isub hx hb dX12_leftAt_98 ?_
        obtain ⟨hi_26, hf⟩ := g_in hf
        refine q_iald hx hb hK hW hk_24 (inb_of hq_25 hi_26) dX12_leftAt_99 ?_
        refine lv_iconst (v := 1) hx hb dX12_leftAt_100 (by decide) ?_
        refine lv_iadd hx hb dX12_leftAt_101 ?_
        refine lv_i2l hx hb dX12_leftAt_102 rfl ?_
        refine lv_topl (fun x11_27 ex11_27 => ?_)
        have hf := g_lt ex11_27 hf
        refine lv_lstore (lv' := [(11, .long x11_27), (9, .long r_23), (0, .ref (z + this)), (1, .int a1), (2, .int a2), (3, .long x3), (5, .long x5), (7, .int x7), (8, .int x8)]) hx hb dX12_leftAt_103 hl (by decide) rfl (fun ls hl => ?_)
        refine lv_lload hx hb dX12_leftAt_105 (lv_at hl 1 rfl) ?_
        refine lv_lload hx hb dX12_leftAt_107 (lv_at hl 0 rfl) ?_
        refine W.lcmp hx hb dX12_leftAt_109 ?_
        refine lv_if_le (tgt := 118) hx hb dX12_leftAt_110 (by decide) (fun c => ?_) (fun c => ?_)
        · have hf := g_pos ((lg_cmp_le _ _).mp c) hf
          refine lv_lload hx hb dX12_leftAt_118 (lv_at hl 0 rfl) ?_
          exact B120 k53 H53 x3 x5 x7 x8 x11_27 σ_22 hf _ _ _ hW hS (lv_sub hl [2, 3, 4, 5, 6, 7, 8] rfl)
        · have hf := g_neg (fun h => c ((lg_cmp_le _ _).mpr h)) hf
          refine lv_lload hx hb dX12_leftAt_113 (lv_at hl 1 rfl) ?_
          refine lv_goto (tgt := 120) hx hb dX12_leftAt_115 (by decide) ?_
          exact B120 k53 H53 x3 x5 x7 x8 r_23 σ_22 hf _ _ _ hW hS (lv_sub hl [2, 3, 4, 5, 6, 7, 8] rfl)
  refine lv_ldc2 hx hb hown hw0 dX12_leftAt_0 ?_
  refine lv_iload_n hx hb dX12_leftAt_3 rfl (lv_at hl 1 rfl) ?_
  refine lv_aload_n hx hb dX12_leftAt_4 rfl (lv_at hl 0 rfl) ?_
  refine q_getp (own := RX12) (ref := RX12) (C := RX12) (T := TX12) (N := 57) (kc := 9) (ci := 0) hx hb hts hin12 hown hK hW h_this (by decide) rfl 35 (by decide) hw1 rfl rfl rfl (v := 618) rfl dX12_leftAt_5 (fun hk_1 hq_2 => ?_)
  refine lv_iconst (v := 0) hx hb dX12_leftAt_8 (by decide) ?_
  obtain ⟨hi_3, hf⟩ := g_in hf
  refine q_iald hx hb hK hW hk_1 (inb_of hq_2 hi_3) dX12_leftAt_9 ?_
  refine lv_isub hx hb dX12_leftAt_10 ?_
  refine lv_iload_n hx hb dX12_leftAt_11 rfl (lv_at hl 2 rfl) ?_
  refine lv_isub hx hb dX12_leftAt_12 ?_
  refine lv_aload_n hx hb dX12_leftAt_13 rfl (lv_at hl 0 rfl) ?_
  refine q_getp (own := RX12) (ref := RX12) (C := RX12) (T := TX12) (N := 57) (kc := 9) (ci := 0) hx hb hts hin12 hown hK hW h_this (by decide) rfl 36 (by decide) hw2 rfl rfl rfl (v := 619) rfl dX12_leftAt_14 (fun hk_4 hq_5 => ?_)
  refine lv_iconst (v := 0) hx hb dX12_leftAt_17 (by decide) ?_
  obtain ⟨hi_6, hf⟩ := g_in hf
  refine q_iald hx hb hK hW hk_4 (inb_of hq_5 hi_6) dX12_leftAt_18 ?_
  refine lv_isub hx hb dX12_leftAt_19 ?_
  refine lv_i2l hx hb dX12_leftAt_20 rfl ?_
  refine lv_lmul hx hb dX12_leftAt_21 ?_
  refine lv_topl (fun x3_7 ex3_7 => ?_)
  have hf := g_lt ex3_7 hf
  refine lv_lstore_n (lv' := [(3, .long x3_7), (0, .ref (z + this)), (1, .int a1), (2, .int a2)]) hx hb dX12_leftAt_22 rfl hl (by decide) rfl (fun ls hl => ?_)
  refine lv_ldc2 hx hb hown hw0 dX12_leftAt_23 ?_
  refine lv_iload_n hx hb dX12_leftAt_26 rfl (lv_at hl 2 rfl) ?_
  refine lv_aload_n hx hb dX12_leftAt_27 rfl (lv_at hl 1 rfl) ?_
  refine q_getp (own := RX12) (ref := RX12) (C := RX12) (T := TX12) (N := 57) (kc := 9) (ci := 0) hx hb hts hin12 hown hK hW h_this (by decide) rfl 35 (by decide) hw1 rfl rfl rfl (v := 618) rfl dX12_leftAt_28 (fun hk_8 hq_9 => ?_)
  refine lv_iconst (v := 0) hx hb dX12_leftAt_31 (by decide) ?_
  obtain ⟨hi_10, hf⟩ := g_in hf
  refine q_iald hx hb hK hW hk_8 (inb_of hq_9 hi_10) dX12_leftAt_32 ?_
  refine lv_isub hx hb dX12_leftAt_33 ?_
  refine lv_iload_n hx hb dX12_leftAt_34 rfl (lv_at hl 3 rfl) ?_
  refine lv_iadd hx hb dX12_leftAt_35 ?_
  refine lv_aload_n hx hb dX12_leftAt_36 rfl (lv_at hl 1 rfl) ?_
  refine q_getp (own := RX12) (ref := RX12) (C := RX12) (T := TX12) (N := 57) (kc := 9) (ci := 0) hx hb hts hin12 hown hK hW h_this (by decide) rfl 36 (by decide) hw2 rfl rfl rfl (v := 619) rfl dX12_leftAt_37 (fun hk_11 hq_12 => ?_)
  refine lv_iconst (v := 0) hx hb dX12_leftAt_40 (by decide) ?_
  obtain ⟨hi_13, hf⟩ := g_in hf
  refine q_iald hx hb hK hW hk_11 (inb_of hq_12 hi_13) dX12_leftAt_41 ?_
  refine lv_iadd hx hb dX12_leftAt_42 ?_
  refine lv_i2l hx hb dX12_leftAt_43 rfl ?_
  refine lv_lmul hx hb dX12_leftAt_44 ?_
  refine lv_topl (fun x5_14 ex5_14 => ?_)
  have hf := g_lt ex5_14 hf
  refine lv_lstore (lv' := [(5, .long x5_14), (3, .long x3_7), (0, .ref (z + this)), (1, .int a1), (2, .int a2)]) hx hb dX12_leftAt_45 hl (by decide) rfl (fun ls hl => ?_)
  refine lv_iconst (v := 0) hx hb dX12_leftAt_47 (by decide) ?_
  refine lv_istore (lv' := [(7, .int 0), (5, .long x5_14), (3, .long x3_7), (0, .ref (z + this)), (1, .int a1), (2, .int a2)]) hx hb dX12_leftAt_48 hl (by decide) rfl (fun ls hl => ?_)
  refine lv_iconst (v := 0) hx hb dX12_leftAt_50 (by decide) ?_
  refine lv_istore (lv' := [(8, .int 0), (7, .int 0), (5, .long x5_14), (3, .long x3_7), (0, .ref (z + this)), (1, .int a1), (2, .int a2)]) hx hb dX12_leftAt_51 hl (by decide) rfl (fun ls hl => ?_)
  exact B53 fu x3_7 x5_14 0 0 σ hf _ _ _ hW hS (lv_sub hl [4, 5, 6, 3, 2, 1, 0] rfl)
set_option maxRecDepth 100000 in
set_option maxHeartbeats 40000000 in
theorem k_X12_left (l : Launch) (z n : Nat) (D : va_G) (cy : Nat → ClassId) (Y : Yt) {fu : Nat} {this : Nat} {a1 : Int32} {a2 : Int32} {σ : Mm} {r : Int32} {σ1 : Mm} (h_this : okk Y n 9 this) (hf : f_X12_left Y fu this a1 a2 σ = some (r, σ1)) : Ki l yX12_left wsX12_left ({ frames := 2, cells := 0, slots := 0, locals := 55 } : Room) z n D cy Y [.ref (z + this), .int a1, .int a2] σ r σ1 := by
  refine Met.ofW (cc := cX12_left) (maxL := 3) (ret := (some .int)) (by decide +kernel) rfl ?_
  intro p e s m args below meth c s₁ B hml hv
  obtain ⟨rfl, hW, hK, hN⟩ := hv
  have hx := B.exec
  have hb := B.bytes
  have hr := B.returns
  have hts := atoms_spec (ws := wsX12_left) B.pre
  have hown : s.vm.findClass RX12 = some m.cls := findClass_of_methodNamed B.named
  have hlocks := B.notSynchronized
  have hS : va_S (Az z) s.heap s.heap [] := va_S.rf
  have hin12 : ∀ w ∈ wsX120, w ∈ wsX12_left := fun w h => List.mem_cons_of_mem _ (List.mem_append_right _ h)
  have hw0 := hts (.constantLong RX12 153 (2000000)) (List.mem_of_getElem? (i := 1) rfl)
  have hw1 := hts (.constantLong RX12 148 (1000)) (List.mem_of_getElem? (i := 2) rfl)
  have hw2 := hts (.fieldLink RX12 301 "SkyClocksModel" "asked" "I") (List.mem_of_getElem? (i := 3) rfl)
  have hw3 := hts (.fieldLink RX12 83 "SkyClocksModel" "wayCorrected" "[I") (List.mem_of_getElem? (i := 4) rfl)
  have hw4 := hts (.fieldLink RX12 279 "SkyClocksModel" "length0" "I") (List.mem_of_getElem? (i := 5) rfl)
  have hl := lv_entry ([.ref (z + this), .int a1, .int a2]) (n := 3) (Nat.le_of_ble_eq_true rfl)
  rw [lg_entry_eq]
  generalize (lg_sl ([.ref (z + this), .int a1, .int a2]) ++ List.replicate (3 - (lg_sl ([.ref (z + this), .int a1, .int a2])).length) Slot.unset).toArray = ls at hl ⊢
  have hl : lv_has ls 3 [(0, .ref (z + this)), (1, .int a1), (2, .int a2)] := hl
  refine lv_iload_n hx hb dX12_left_0 rfl (lv_at hl 1 rfl) ?_
  refine lv_i2l hx hb dX12_left_1 rfl ?_
  refine lv_lconst (v := 0) hx hb dX12_left_2 (by decide) ?_
  refine lv_ldc2 hx hb hown hw0 dX12_left_3 ?_
  obtain ⟨r_3, σ_2, hc_1, hf⟩ := g_bnd hf
  refine q_calli (va_runS (As := [.long (Int32.toInt64 a1), .long 0, .long 2000000]) (rest := []) ⟨hx, hb, hml, hown, hts⟩ (k_X12_in l z n D cy Y hc_1) (va_cwS 3 hts gX12_left_X12_in rfl rfl rfl (by decide +kernel) ⟨Nat.le_of_ble_eq_true rfl, Nat.le_of_ble_eq_true rfl⟩) (q_PS hK hN hW) rfl rfl hl.1 rfl (lv_room (Nat.le_of_ble_eq_true rfl)) dX12_left_6 ⟨Nat.le_refl _, Nat.le_refl _⟩) hS (fun H locs hW hS => ?_)
  refine lv_if_eq (tgt := 24) hx hb dX12_left_9 (by decide) (fun c => ?_) (fun c => ?_)
  · have hf := g_pos c hf
    refine lv_iconst (v := (-1)) hx hb dX12_left_24 (by decide) ?_
    exact q_iret hx hb hr hlocks hW hS hf dX12_left_25
  · have hf := g_neg c hf
    refine lv_iload_n hx hb dX12_left_12 rfl (lv_at hl 2 rfl) ?_
    refine lv_i2l hx hb dX12_left_13 rfl ?_
    refine lv_lconst (v := 0) hx hb dX12_left_14 (by decide) ?_
    refine lv_ldc2 hx hb hown hw1 dX12_left_15 ?_
    obtain ⟨r_6, σ_5, hc_4, hf⟩ := g_bnd hf
    refine q_calli (va_runS (As := [.long (Int32.toInt64 a2), .long 0, .long 1000]) (rest := []) ⟨hx, hb, hml, hown, hts⟩ (k_X12_in l z n D cy Y hc_4) (va_cwS 3 hts gX12_left_X12_in rfl rfl rfl (by decide +kernel) ⟨Nat.le_of_ble_eq_true rfl, Nat.le_of_ble_eq_true rfl⟩) (q_PS hK hN hW) rfl rfl hl.1 rfl (lv_room (Nat.le_of_ble_eq_true rfl)) dX12_left_18 ⟨Nat.le_refl _, Nat.le_refl _⟩) hS (fun H locs hW hS => ?_)
    refine lv_if_ne (tgt := 26) hx hb dX12_left_21 (by decide) (fun c => ?_) (fun c => ?_)
    · have hf := g_neg c hf
      refine lv_aload_n hx hb dX12_left_26 rfl (lv_at hl 0 rfl) ?_
      refine q_geti (own := RX12) (ref := RX12) (C := RX12) (T := TX12) (N := 57) (kc := 9) (ci := 0) hx hb hts hin12 hown hK hW h_this (by decide) rfl 32 (by decide) hw2 rfl rfl dX12_left_27 ?_
      refine lv_iconst (v := 1) hx hb dX12_left_30 (by decide) ?_
      refine lv_icmp_ne (tgt := 49) hx hb dX12_left_31 (by decide) (fun c => ?_) (fun c => ?_)
      · have hf := g_neg c hf
        refine lv_bipush (v := (-2)) hx hb dX12_left_49 (by decide) ?_
        refine lv_goto (tgt := 60) hx hb dX12_left_51 (by decide) ?_
        exact q_iret hx hb hr hlocks hW hS hf dX12_left_60
      · have hf := g_pos c hf
        refine lv_iload_n hx hb dX12_left_34 rfl (lv_at hl 1 rfl) ?_
        refine lv_aload_n hx hb dX12_left_35 rfl (lv_at hl 0 rfl) ?_
        refine q_getp (own := RX12) (ref := RX12) (C := RX12) (T := TX12) (N := 57) (kc := 9) (ci := 0) hx hb hts hin12 hown hK hW h_this (by decide) rfl 35 (by decide) hw3 rfl rfl rfl (v := 618) rfl dX12_left_36 (fun hk_7 hq_8 => ?_)
        refine lv_aload_n hx hb dX12_left_39 rfl (lv_at hl 0 rfl) ?_
        refine q_geti (own := RX12) (ref := RX12) (C := RX12) (T := TX12) (N := 57) (kc := 9) (ci := 0) hx hb hts hin12 hown hK hW h_this (by decide) rfl 34 (by decide) hw4 rfl rfl dX12_left_40 ?_
        refine lv_iconst (v := 1) hx hb dX12_left_43 (by decide) ?_
        refine lv_isub hx hb dX12_left_44 ?_
        obtain ⟨hi_9, hf⟩ := g_in hf
        refine q_iald hx hb hK hW hk_7 (inb_of hq_8 hi_9) dX12_left_45 ?_
        refine lv_icmp_ge (tgt := 54) hx hb dX12_left_46 (by decide) (fun c => ?_) (fun c => ?_)
        · have hf := g_pos c hf
          refine lv_aload_n hx hb dX12_left_54 rfl (lv_at hl 0 rfl) ?_
          refine lv_iload_n hx hb dX12_left_55 rfl (lv_at hl 1 rfl) ?_
          refine lv_iload_n hx hb dX12_left_56 rfl (lv_at hl 2 rfl) ?_
          obtain ⟨r_12, σ_11, hc_10, hf⟩ := g_bnd hf
          refine q_calli (va_runV (As := [.int a1, .int a2]) (rest := []) ⟨hx, hb, hml, hown, hts⟩ (k_X12_leftAt l z n D cy Y h_this hc_10) (cwV 2 hts gX12_left_X12_leftAt rfl rfl rfl (by decide +kernel) ⟨Nat.le_of_ble_eq_true rfl, Nat.le_of_ble_eq_true rfl⟩) (q_PV (T := TX12) (N := 57) hK hN hW h_this (by decide) rfl) rfl rfl hl.1 rfl (lv_room (Nat.le_of_ble_eq_true rfl)) dX12_left_57 ⟨Nat.le_refl _, Nat.le_refl _⟩) hS (fun H locs hW hS => ?_)
          exact q_iret hx hb hr hlocks hW hS hf dX12_left_60
        · have hf := g_neg c hf
          refine lv_bipush (v := (-2)) hx hb dX12_left_49 (by decide) ?_
          refine lv_goto (tgt := 60) hx hb dX12_left_51 (by decide) ?_
          exact q_iret hx hb hr hlocks hW hS hf dX12_left_60
    · have hf := g_pos c hf
      refine lv_iconst (v := (-1)) hx hb dX12_left_24 (by decide) ?_
      exact q_iret hx hb hr hlocks hW hS hf dX12_left_25
set_option maxRecDepth 100000 in
set_option maxHeartbeats 40000000 in
theorem k_X12_look (l : Launch) (z n : Nat) (D : va_G) (cy : Nat → ClassId) (Y : Yt) {fu : Nat} {this : Nat} {a1 : Int32} {a2 : Int32} {a3 : Int32} {a4 : Int32} {σ : Mm} {r : Int32} {σ1 : Mm} (h_this : okk Y n 9 this) (hf : f_X12_look Y fu this a1 a2 a3 a4 σ = some (r, σ1)) : Ki l yX12_look wsX12_look ({ frames := 2, cells := 0, slots := 0, locals := 55 } : Room) z n D cy Y [.ref (z + this), .int a1, .int a2, .int a3, .int a4] σ r σ1 := by
  refine Met.ofW (cc := cX12_look) (maxL := 9) (ret := (some .int)) (by decide +kernel) rfl ?_
  intro p e s m args below meth c s₁ B hml hv
  obtain ⟨rfl, hW, hK, hN⟩ := hv
  have hx := B.exec
  have hb := B.bytes
  have hr := B.returns
  have hts := atoms_spec (ws := wsX12_look) B.pre
  have hown : s.vm.findClass RX12 = some m.cls := findClass_of_methodNamed B.named
  have hlocks := B.notSynchronized
  have hS : va_S (Az z) s.heap s.heap [] := va_S.rf
  have hin12 : ∀ w ∈ wsX120, w ∈ wsX12_look := fun w h => List.mem_cons_of_mem _ (List.mem_append_right _ h)
  have hw0 := hts (.constantLong RX12 153 (2000000)) (List.mem_of_getElem? (i := 1) rfl)
  have hw1 := hts (.constantLong RX12 294 (100000)) (List.mem_of_getElem? (i := 2) rfl)
  have hw2 := hts (.constantLong RX12 314 (20)) (List.mem_of_getElem? (i := 3) rfl)
  have hw3 := hts (.constantLong RX12 148 (1000)) (List.mem_of_getElem? (i := 4) rfl)
  have hw4 := hts (.constant RX12 31 (2000000)) (List.mem_of_getElem? (i := 5) rfl)
  have hw5 := hts (.fieldLink RX12 301 "SkyClocksModel" "asked" "I") (List.mem_of_getElem? (i := 6) rfl)
  have hw6 := hts (.fieldLink RX12 83 "SkyClocksModel" "wayCorrected" "[I") (List.mem_of_getElem? (i := 7) rfl)
  have hw7 := hts (.fieldLink RX12 279 "SkyClocksModel" "length0" "I") (List.mem_of_getElem? (i := 8) rfl)
  have hl := lv_entry ([.ref (z + this), .int a1, .int a2, .int a3, .int a4]) (n := 9) (Nat.le_of_ble_eq_true rfl)
  rw [lg_entry_eq]
  generalize (lg_sl ([.ref (z + this), .int a1, .int a2, .int a3, .int a4]) ++ List.replicate (9 - (lg_sl ([.ref (z + this), .int a1, .int a2, .int a3, .int a4])).length) Slot.unset).toArray = ls at hl ⊢
  have hl : lv_has ls 9 [(0, .ref (z + this)), (1, .int a1), (2, .int a2), (3, .int a3), (4, .int a4)] := hl
  have B150 : ∀ (k99 : Int32 → Int32 → Int32 → Mm → Option (Int32 × Mm)) (H99 : ∀ (x5 : Int32) (x6 : Int32) (x7 : Int32) (σ : Mm), k99 x5 x6 x7 σ = some (r, σ1) → ∀ (H : Heap) (locs : List Loc) (ls : Array Slot), WH z n D cy Y σ H → va_S (Az z) s.heap H locs → lv_has ls 9 [(0, .ref (z + this)), (1, .int a1), (2, .int a2), (3, .int a3), (4, .int a4), (5, .int x5), (6, .int x6), (7, .int x7)] → W p l e ({ frames := 2, cells := 0, slots := 0, locals := 55 } : Room) s m ([.ref (z + this), .int a1, .int a2, .int a3, .int a4] : List Value).toArray below meth c H locs 0 0 (MQ below (va_Qi (fun (x : Int32) (_ : Unit) => x = r) (fun _ t => WH z n D cy Y σ1 t.heap) (Az z)) ([.ref (z + this), .int a1, .int a2, .int a3, .int a4] : List Value).toArray s 0 0 (Az z)) (F0 m 99 ls [])) (x5 : Int32) (x6 : Int32) (x7 : Int32) (σ : Mm), b_X12_look_150 Y fu this a1 a2 a3 a4 k99 x5 x6 x7 σ = some (r, σ1) → ∀ (H : Heap) (locs : List Loc) (ls : Array Slot), WH z n D cy Y σ H → va_S (Az z) s.heap H locs → lv_has ls 9 [(0, .ref (z + this)), (1, .int a1), (2, .int a2), (3, .int a3), (4, .int a4), (5, .int x5), (6, .int x6), (7, .int x7)] → W p l e ({ frames := 2, cells := 0, slots := 0, locals := 55 } : Room) s m ([.ref (z + this), .int a1, .int a2, .int a3, .int a4] : List Value).toArray below meth c H locs 0 0 (MQ below (va_Qi (fun (x : Int32) (_ : Unit) => x = r) (fun _ t => WH z n D cy Y σ1 t.heap) (Az z)) ([.ref (z + this), .int a1, .int a2, .int a3, .int a4] : List Value).toArray s 0 0 (Az z)) (F0 m 150 ls []) := by
    intro k99 H99 x5 x6 x7 σ  hf H locs ls hW hS hl
    obtain ⟨x7_19, ex7_19⟩ : ∃ y : Int32, y = x7 + 1 := ⟨_, rfl⟩
    have hf := g_lt ex7_19 hf
    refine lv_iinc (v := x7_19) (lv' := [(7, .int x7_19), (0, .ref (z + this)), (1, .int a1), (2, .int a2), (3, .int a3), (4, .int a4), (5, .int x5), (6, .int x6)]) hx hb dX12_look_150 hl (k := 7) rfl (by rw [ex7_19]; rfl) (by decide) rfl (fun ls hl => ?_)
    refine lv_goto (tgt := 99) hx hb dX12_look_153 (by decide) ?_
    exact H99 x5 x6 x7_19 σ hf _ _ _ hW hS (lv_sub hl [1, 2, 3, 4, 5, 6, 7, 0] rfl)
  have B138 : ∀ (k99 : Int32 → Int32 → Int32 → Mm → Option (Int32 × Mm)) (H99 : ∀ (x5 : Int32) (x6 : Int32) (x7 : Int32) (σ : Mm), k99 x5 x6 x7 σ = some (r, σ1) → ∀ (H : Heap) (locs : List Loc) (ls : Array Slot), WH z n D cy Y σ H → va_S (Az z) s.heap H locs → lv_has ls 9 [(0, .ref (z + this)), (1, .int a1), (2, .int a2), (3, .int a3), (4, .int a4), (5, .int x5), (6, .int x6), (7, .int x7)] → W p l e ({ frames := 2, cells := 0, slots := 0, locals := 55 } : Room) s m ([.ref (z + this), .int a1, .int a2, .int a3, .int a4] : List Value).toArray below meth c H locs 0 0 (MQ below (va_Qi (fun (x : Int32) (_ : Unit) => x = r) (fun _ t => WH z n D cy Y σ1 t.heap) (Az z)) ([.ref (z + this), .int a1, .int a2, .int a3, .int a4] : List Value).toArray s 0 0 (Az z)) (F0 m 99 ls [])) (x7 : Int32) (x8 : Int32) (σ : Mm), b_X12_look_138 Y fu this a1 a2 a3 a4 k99 x7 x8 σ = some (r, σ1) → ∀ (H : Heap) (locs : List Loc) (ls : Array Slot), WH z n D cy Y σ H → va_S (Az z) s.heap H locs → lv_has ls 9 [(0, .ref (z + this)), (1, .int a1), (2, .int a2), (3, .int a3), (4, .int a4), (7, .int x7), (8, .int x8)] → W p l e ({ frames := 2, cells := 0, slots := 0, locals := 55 } : Room) s m ([.ref (z + this), .int a1, .int a2, .int a3, .int a4] : List Value).toArray below meth c H locs 0 0 (MQ below (va_Qi (fun (x : Int32) (_ : Unit) => x = r) (fun _ t => WH z n D cy Y σ1 t.heap) (Az z)) ([.ref (z + this), .int a1, .int a2, .int a3, .int a4] : List Value).toArray s 0 0 (Az z)) (F0 m 138 ls []) := by
    intro k99 H99 x7 x8 σ  hf H locs ls hW hS hl
    refine lv_iload_n hx hb dX12_look_138 rfl (lv_at hl 1 rfl) ?_
    refine lv_iload_n hx hb dX12_look_139 rfl (lv_at hl 2 rfl) ?_
    refine lv_iload hx hb dX12_look_140 (lv_at hl 5 rfl) ?_
    refine lv_imul hx hb dX12_look_142 ?_
    refine lv_iadd hx hb dX12_look_143 ?_
    refine lv_topi (fun x5_20 ex5_20 => ?_)
    have hf := g_lt ex5_20 hf
    refine lv_istore (lv' := [(5, .int x5_20), (0, .ref (z + this)), (1, .int a1), (2, .int a2), (3, .int a3), (4, .int a4), (7, .int x7), (8, .int x8)]) hx hb dX12_look_144 hl (by decide) rfl (fun ls hl => ?_)
    refine lv_iload hx hb dX12_look_146 (lv_at hl 7 rfl) ?_
    refine lv_istore (lv' := [(6, .int x8), (5, .int x5_20), (0, .ref (z + this)), (1, .int a1), (2, .int a2), (3, .int a3), (4, .int a4), (7, .int x7), (8, .int x8)]) hx hb dX12_look_148 hl (by decide) rfl (fun ls hl => ?_)
    exact B150 k99 H99 x5_20 x8 x7 σ hf _ _ _ hW hS (lv_sub hl [2, 3, 4, 5, 6, 1, 0, 7] rfl)
  have B99 : ∀ (nn : Nat) (x5 : Int32) (x6 : Int32) (x7 : Int32) (σ : Mm), b_X12_look_99 Y fu this a1 a2 a3 a4 nn x5 x6 x7 σ = some (r, σ1) → ∀ (H : Heap) (locs : List Loc) (ls : Array Slot), WH z n D cy Y σ H → va_S (Az z) s.heap H locs → lv_has ls 9 [(0, .ref (z + this)), (1, .int a1), (2, .int a2), (3, .int a3), (4, .int a4), (5, .int x5), (6, .int x6), (7, .int x7)] → W p l e ({ frames := 2, cells := 0, slots := 0, locals := 55 } : Room) s m ([.ref (z + this), .int a1, .int a2, .int a3, .int a4] : List Value).toArray below meth c H locs 0 0 (MQ below (va_Qi (fun (x : Int32) (_ : Unit) => x = r) (fun _ t => WH z n D cy Y σ1 t.heap) (Az z)) ([.ref (z + this), .int a1, .int a2, .int a3, .int a4] : List Value).toArray s 0 0 (Az z)) (F0 m 99 ls []) := by
    intro nn
    induction nn with
    | zero =>
      intro x5 x6 x7 σ  hf
      have h9 : (none : Option (Int32 × Mm)) = some (r, σ1) := hf
      cases h9
    | succ nn H99 =>
      intro x5 x6 x7 σ  hf H locs ls hW hS hl
      have hf : s_X12_look_99 Y fu this a1 a2 a3 a4 (b_X12_look_99 Y fu this a1 a2 a3 a4 nn) x5 x6 x7 σ = some (r, σ1) := hf
      generalize hkk : b_X12_look_99 Y fu this a1 a2 a3 a4 nn = k99 at hf H99
      refine lv_iload hx hb dX12_look_99 (lv_at hl 7 rfl) ?_
      refine lv_iload_n hx hb dX12_look_101 rfl (lv_at hl 3 rfl) ?_
      refine lv_icmp_ge (tgt := 156) hx hb dX12_look_102 (by decide) (fun c => ?_) (fun c => ?_)
      · have hf := g_pos c hf
        refine lv_iload hx hb dX12_look_156 (lv_at hl 5 rfl) ?_
        exact q_iret hx hb hr hlocks hW hS hf dX12_look_158
      · have hf := g_neg c hf
        refine lv_aload_n hx hb dX12_look_105 rfl (lv_at hl 0 rfl) ?_
        refine lv_iload_n hx hb dX12_look_106 rfl (lv_at hl 1 rfl) ?_
        refine lv_iload_n hx hb dX12_look_107 rfl (lv_at hl 2 rfl) ?_
        refine lv_iload hx hb dX12_look_108 (lv_at hl 7 rfl) ?_
        refine lv_imul hx hb dX12_look_110 ?_
        refine lv_iadd hx hb dX12_look_111 ?_
        refine lv_iload hx hb dX12_look_112 (lv_at hl 4 rfl) ?_
        obtain ⟨r_18, σ_17, hc_16, hf⟩ := g_bnd hf
        refine q_calli (va_runV (As := [.int (a1 + (a2 * x7)), .int a4]) (rest := []) ⟨hx, hb, hml, hown, hts⟩ (k_X12_leftAt l z n D cy Y h_this hc_16) (cwV 2 hts gX12_look_X12_leftAt rfl rfl rfl (by decide +kernel) ⟨Nat.le_of_ble_eq_true rfl, Nat.le_of_ble_eq_true rfl⟩) (q_PV (T := TX12) (N := 57) hK hN hW h_this (by decide) rfl) rfl rfl hl.1 rfl (lv_room (Nat.le_of_ble_eq_true rfl)) dX12_look_114 ⟨Nat.le_refl _, Nat.le_refl _⟩) hS (fun H locs hW hS => ?_)
        refine lv_istore (lv' := [(8, .int r_18), (0, .ref (z + this)), (1, .int a1), (2, .int a2), (3, .int a3), (4, .int a4), (5, .int x5), (6, .int x6), (7, .int x7)]) hx hb dX12_look_117 hl (by decide) rfl (fun ls hl => ?_)
        refine lv_iload hx hb dX12_look_119 (lv_at hl 0 rfl) ?_
        refine lv_if_le (tgt := 150) hx hb dX12_look_121 (by decide) (fun c => ?_) (fun c => ?_)
        · have hf := g_pos c hf
          exact B150 k99 H99 x5 x6 x7 σ_17 hf _ _ _ hW hS (lv_sub hl [1, 2, 3, 4, 5, 6, 7, 8] rfl)
        · have hf := g_neg c hf
          refine lv_iload hx hb dX12_look_124 (lv_at hl 6 rfl) ?_
          refine lv_bipush (v := (-4)) hx hb dX12_look_126 (by decide) ?_
          refine lv_icmp_eq (tgt := 138) hx hb dX12_look_128 (by decide) (fun c => ?_) (fun c => ?_)
          · have hf := g_pos c hf
            exact B138 k99 H99 x7 r_18 σ_17 hf _ _ _ hW hS (lv_sub hl [1, 2, 3, 4, 5, 8, 0] rfl)
          · have hf := g_neg c hf
            refine lv_iload hx hb dX12_look_131 (lv_at hl 0 rfl) ?_
            refine lv_iload hx hb dX12_look_133 (lv_at hl 7 rfl) ?_
            refine lv_icmp_ge (tgt := 150) hx hb dX12_look_135 (by decide) (fun c => ?_) (fun c => ?_)
            · have hf := g_pos c hf
              exact B150 k99 H99 x5 x6 x7 σ_17 hf _ _ _ hW hS (lv_sub hl [1, 2, 3, 4, 5, 6, 7, 8] rfl)
            · have hf := g_neg c hf
              exact B138 k99 H99 x7 r_18 σ_17 hf _ _ _ hW hS (lv_sub hl [1, 2, 3, 4, 5, 8, 0] rfl)
  refine lv_iload_n hx hb dX12_look_0 rfl (lv_at hl 1 rfl) ?_
  refine lv_i2l hx hb dX12_look_1 rfl ?_
  refine lv_lconst (v := 0) hx hb dX12_look_2 (by decide) ?_
  refine lv_ldc2 hx hb hown hw0 dX12_look_3 ?_
  obtain ⟨r_3, σ_2, hc_1, hf⟩ := g_bnd hf
  refine q_calli (va_runS (As := [.long (Int32.toInt64 a1), .long 0, .long 2000000]) (rest := []) ⟨hx, hb, hml, hown, hts⟩ (k_X12_in l z n D cy Y hc_1) (va_cwS 3 hts gX12_look_X12_in rfl rfl rfl (by decide +kernel) ⟨Nat.le_of_ble_eq_true rfl, Nat.le_of_ble_eq_true rfl⟩) (q_PS hK hN hW) rfl rfl hl.1 rfl (lv_room (Nat.le_of_ble_eq_true rfl)) dX12_look_6 ⟨Nat.le_refl _, Nat.le_refl _⟩) hS (fun H locs hW hS => ?_)
  refine lv_if_eq (tgt := 61) hx hb dX12_look_9 (by decide) (fun c => ?_) (fun c => ?_)
  · have hf := g_pos c hf
    refine lv_iconst (v := (-1)) hx hb dX12_look_61 (by decide) ?_
    exact q_iret hx hb hr hlocks hW hS hf dX12_look_62
  · have hf := g_neg c hf
    refine lv_iload_n hx hb dX12_look_12 rfl (lv_at hl 2 rfl) ?_
    refine lv_i2l hx hb dX12_look_13 rfl ?_
    refine lv_lconst (v := 1) hx hb dX12_look_14 (by decide) ?_
    refine lv_ldc2 hx hb hown hw1 dX12_look_15 ?_
    obtain ⟨r_6, σ_5, hc_4, hf⟩ := g_bnd hf
    refine q_calli (va_runS (As := [.long (Int32.toInt64 a2), .long 1, .long 100000]) (rest := []) ⟨hx, hb, hml, hown, hts⟩ (k_X12_in l z n D cy Y hc_4) (va_cwS 3 hts gX12_look_X12_in rfl rfl rfl (by decide +kernel) ⟨Nat.le_of_ble_eq_true rfl, Nat.le_of_ble_eq_true rfl⟩) (q_PS hK hN hW) rfl rfl hl.1 rfl (lv_room (Nat.le_of_ble_eq_true rfl)) dX12_look_18 ⟨Nat.le_refl _, Nat.le_refl _⟩) hS (fun H locs hW hS => ?_)
    refine lv_if_eq (tgt := 61) hx hb dX12_look_21 (by decide) (fun c => ?_) (fun c => ?_)
    · have hf := g_pos c hf
      refine lv_iconst (v := (-1)) hx hb dX12_look_61 (by decide) ?_
      exact q_iret hx hb hr hlocks hW hS hf dX12_look_62
    · have hf := g_neg c hf
      refine lv_iload_n hx hb dX12_look_24 rfl (lv_at hl 3 rfl) ?_
      refine lv_i2l hx hb dX12_look_25 rfl ?_
      refine lv_lconst (v := 1) hx hb dX12_look_26 (by decide) ?_
      refine lv_ldc2 hx hb hown hw2 dX12_look_27 ?_
      obtain ⟨r_9, σ_8, hc_7, hf⟩ := g_bnd hf
      refine q_calli (va_runS (As := [.long (Int32.toInt64 a3), .long 1, .long 20]) (rest := []) ⟨hx, hb, hml, hown, hts⟩ (k_X12_in l z n D cy Y hc_7) (va_cwS 3 hts gX12_look_X12_in rfl rfl rfl (by decide +kernel) ⟨Nat.le_of_ble_eq_true rfl, Nat.le_of_ble_eq_true rfl⟩) (q_PS hK hN hW) rfl rfl hl.1 rfl (lv_room (Nat.le_of_ble_eq_true rfl)) dX12_look_30 ⟨Nat.le_refl _, Nat.le_refl _⟩) hS (fun H locs hW hS => ?_)
      refine lv_if_eq (tgt := 61) hx hb dX12_look_33 (by decide) (fun c => ?_) (fun c => ?_)
      · have hf := g_pos c hf
        refine lv_iconst (v := (-1)) hx hb dX12_look_61 (by decide) ?_
        exact q_iret hx hb hr hlocks hW hS hf dX12_look_62
      · have hf := g_neg c hf
        refine lv_iload hx hb dX12_look_36 (lv_at hl 4 rfl) ?_
        refine lv_i2l hx hb dX12_look_38 rfl ?_
        refine lv_lconst (v := 0) hx hb dX12_look_39 (by decide) ?_
        refine lv_ldc2 hx hb hown hw3 dX12_look_40 ?_
        obtain ⟨r_12, σ_11, hc_10, hf⟩ := g_bnd hf
        refine q_calli (va_runS (As := [.long (Int32.toInt64 a4), .long 0, .long 1000]) (rest := []) ⟨hx, hb, hml, hown, hts⟩ (k_X12_in l z n D cy Y hc_10) (va_cwS 3 hts gX12_look_X12_in rfl rfl rfl (by decide +kernel) ⟨Nat.le_of_ble_eq_true rfl, Nat.le_of_ble_eq_true rfl⟩) (q_PS hK hN hW) rfl rfl hl.1 rfl (lv_room (Nat.le_of_ble_eq_true rfl)) dX12_look_43 ⟨Nat.le_refl _, Nat.le_refl _⟩) hS (fun H locs hW hS => ?_)
        refine lv_if_eq (tgt := 61) hx hb dX12_look_46 (by decide) (fun c => ?_) (fun c => ?_)
        · have hf := g_pos c hf
          refine lv_iconst (v := (-1)) hx hb dX12_look_61 (by decide) ?_
          exact q_iret hx hb hr hlocks hW hS hf dX12_look_62
        · have hf := g_neg c hf
          refine lv_iload_n hx hb dX12_look_49 rfl (lv_at hl 1 rfl) ?_
          refine lv_iload_n hx hb dX12_look_50 rfl (lv_at hl 2 rfl) ?_
          refine lv_iload_n hx hb dX12_look_51 rfl (lv_at hl 3 rfl) ?_
          refine lv_iconst (v := 1) hx hb dX12_look_52 (by decide) ?_
          refine lv_isub hx hb dX12_look_53 ?_
          refine lv_imul hx hb dX12_look_54 ?_
          refine lv_iadd hx hb dX12_look_55 ?_
          refine lv_ldc hx hb hown hw4 dX12_look_56 ?_
          refine lv_icmp_le (tgt := 63) hx hb dX12_look_58 (by decide) (fun c => ?_) (fun c => ?_)
          · have hf := g_pos c hf
            refine lv_aload_n hx hb dX12_look_63 rfl (lv_at hl 0 rfl) ?_
            refine q_geti (own := RX12) (ref := RX12) (C := RX12) (T := TX12) (N := 57) (kc := 9) (ci := 0) hx hb hts hin12 hown hK hW h_this (by decide) rfl 32 (by decide) hw5 rfl rfl dX12_look_64 ?_
            refine lv_iconst (v := 1) hx hb dX12_look_67 (by decide) ?_
            refine lv_icmp_ne (tgt := 86) hx hb dX12_look_68 (by decide) (fun c => ?_) (fun c => ?_)
            · have hf := g_neg c hf
              refine lv_bipush (v := (-2)) hx hb dX12_look_86 (by decide) ?_
              exact q_iret hx hb hr hlocks hW hS hf dX12_look_88
            · have hf := g_pos c hf
              refine lv_iload_n hx hb dX12_look_71 rfl (lv_at hl 1 rfl) ?_
              refine lv_aload_n hx hb dX12_look_72 rfl (lv_at hl 0 rfl) ?_
              refine q_getp (own := RX12) (ref := RX12) (C := RX12) (T := TX12) (N := 57) (kc := 9) (ci := 0) hx hb hts hin12 hown hK hW h_this (by decide) rfl 35 (by decide) hw6 rfl rfl rfl (v := 618) rfl dX12_look_73 (fun hk_13 hq_14 => ?_)
              refine lv_aload_n hx hb dX12_look_76 rfl (lv_at hl 0 rfl) ?_
              refine q_geti (own := RX12) (ref := RX12) (C := RX12) (T := TX12) (N := 57) (kc := 9) (ci := 0) hx hb hts hin12 hown hK hW h_this (by decide) rfl 34 (by decide) hw7 rfl rfl dX12_look_77 ?_
              refine lv_iconst (v := 1) hx hb dX12_look_80 (by decide) ?_
              refine lv_isub hx hb dX12_look_81 ?_
              obtain ⟨hi_15, hf⟩ := g_in hf
              refine q_iald hx hb hK hW hk_13 (inb_of hq_14 hi_15) dX12_look_82 ?_
              refine lv_icmp_ge (tgt := 89) hx hb dX12_look_83 (by decide) (fun c => ?_) (fun c => ?_)
              · have hf := g_pos c hf
                refine lv_bipush (v := (-4)) hx hb dX12_look_89 (by decide) ?_
                refine lv_istore (lv' := [(5, .int (-4)), (0, .ref (z + this)), (1, .int a1), (2, .int a2), (3, .int a3), (4, .int a4)]) hx hb dX12_look_91 hl (by decide) rfl (fun ls hl => ?_)
                refine lv_iconst (v := 0) hx hb dX12_look_93 (by decide) ?_
                refine lv_istore (lv' := [(6, .int 0), (5, .int (-4)), (0, .ref (z + this)), (1, .int a1), (2, .int a2), (3, .int a3), (4, .int a4)]) hx hb dX12_look_94 hl (by decide) rfl (fun ls hl => ?_)
                refine lv_iconst (v := 0) hx hb dX12_look_96 (by decide) ?_
                refine lv_istore (lv' := [(7, .int 0), (6, .int 0), (5, .int (-4)), (0, .ref (z + this)), (1, .int a1), (2, .int a2), (3, .int a3), (4, .int a4)]) hx hb dX12_look_97 hl (by decide) rfl (fun ls hl => ?_)
                exact B99 fu (-4) 0 0 σ_11 hf _ _ _ hW hS (lv_sub hl [3, 4, 5, 6, 7, 2, 1, 0] rfl)
              · have hf := g_neg c hf
                refine lv_bipush (v := (-2)) hx hb dX12_look_86 (by decide) ?_
                exact q_iret hx hb hr hlocks hW hS hf dX12_look_88
          · have hf := g_neg c hf
            refine lv_iconst (v := (-1)) hx hb dX12_look_61 (by decide) ?_
            exact q_iret hx hb hr hlocks hW hS hf dX12_look_62
set_option maxRecDepth 100000 in
set_option maxHeartbeats 40000000 in
theorem k_X12_loop (l : Launch) (z n : Nat) (D : va_G) (cy : Nat → ClassId) (Y : Yt) {fu : Nat} {this : Nat} {a1 : Int32} {a2 : Int32} {a3 : Int32} {σ : Mm} {r : Int32} {σ1 : Mm} (h_this : okk Y n 9 this) (hf : f_X12_loop Y fu this a1 a2 a3 σ = some (r, σ1)) : Ki l yX12_loop wsX12_loop ({ frames := 5, cells := 0, slots := 0, locals := 127 } : Room) z n D cy Y [.ref (z + this), .int a1, .int a2, .int a3] σ r σ1 := by
  refine Met.ofW (cc := cX12_loop) (maxL := 7) (ret := (some .int)) (by decide +kernel) rfl ?_
  intro p e s m args below meth c s₁ B hml hv
  obtain ⟨rfl, hW, hK, hN⟩ := hv
  have hx := B.exec
  have hb := B.bytes
  have hr := B.returns
  have hts := atoms_spec (ws := wsX12_loop) B.pre
  have hown : s.vm.findClass RX12 = some m.cls := findClass_of_methodNamed B.named
  have hlocks := B.notSynchronized
  have hS : va_S (Az z) s.heap s.heap [] := va_S.rf
  have hw0 := hts (.constant RX12 349 (-10000000)) (List.mem_of_getElem? (i := 1) rfl)
  have hw1 := hts (.constant RX12 354 (-10000002)) (List.mem_of_getElem? (i := 2) rfl)
  have hl := lv_entry ([.ref (z + this), .int a1, .int a2, .int a3]) (n := 7) (Nat.le_of_ble_eq_true rfl)
  rw [lg_entry_eq]
  generalize (lg_sl ([.ref (z + this), .int a1, .int a2, .int a3]) ++ List.replicate (7 - (lg_sl ([.ref (z + this), .int a1, .int a2, .int a3])).length) Slot.unset).toArray = ls at hl ⊢
  have hl : lv_has ls 7 [(0, .ref (z + this)), (1, .int a1), (2, .int a2), (3, .int a3)] := hl
  refine lv_iload_n hx hb dX12_loop_0 rfl (lv_at hl 1 rfl) ?_
  obtain ⟨r_3, σ_2, hc_1, hf⟩ := g_bnd hf
  refine q_calli (va_runS (As := [.int a1]) (rest := []) ⟨hx, hb, hml, hown, hts⟩ (k_X12_isTool l z n D cy Y hc_1) (va_cwS 1 hts gX12_loop_X12_isTool rfl rfl rfl (by decide +kernel) ⟨Nat.le_of_ble_eq_true rfl, Nat.le_of_ble_eq_true rfl⟩) (q_PS hK hN hW) rfl rfl hl.1 rfl (lv_room (Nat.le_of_ble_eq_true rfl)) dX12_loop_1 ⟨Nat.le_refl _, Nat.le_refl _⟩) hS (fun H locs hW hS => ?_)
  refine lv_if_eq (tgt := 36) hx hb dX12_loop_4 (by decide) (fun c => ?_) (fun c => ?_)
  · have hf := g_pos c hf
    refine lv_ldcw hx hb hown hw0 dX12_loop_36 ?_
    exact q_iret hx hb hr hlocks hW hS hf dX12_loop_39
  · have hf := g_neg c hf
    refine lv_iload_n hx hb dX12_loop_7 rfl (lv_at hl 2 rfl) ?_
    obtain ⟨r_6, σ_5, hc_4, hf⟩ := g_bnd hf
    refine q_calli (va_runS (As := [.int a2]) (rest := []) ⟨hx, hb, hml, hown, hts⟩ (k_X12_isTool l z n D cy Y hc_4) (va_cwS 1 hts gX12_loop_X12_isTool rfl rfl rfl (by decide +kernel) ⟨Nat.le_of_ble_eq_true rfl, Nat.le_of_ble_eq_true rfl⟩) (q_PS hK hN hW) rfl rfl hl.1 rfl (lv_room (Nat.le_of_ble_eq_true rfl)) dX12_loop_8 ⟨Nat.le_refl _, Nat.le_refl _⟩) hS (fun H locs hW hS => ?_)
    refine lv_if_eq (tgt := 36) hx hb dX12_loop_11 (by decide) (fun c => ?_) (fun c => ?_)
    · have hf := g_pos c hf
      refine lv_ldcw hx hb hown hw0 dX12_loop_36 ?_
      exact q_iret hx hb hr hlocks hW hS hf dX12_loop_39
    · have hf := g_neg c hf
      refine lv_iload_n hx hb dX12_loop_14 rfl (lv_at hl 3 rfl) ?_
      obtain ⟨r_9, σ_8, hc_7, hf⟩ := g_bnd hf
      refine q_calli (va_runS (As := [.int a3]) (rest := []) ⟨hx, hb, hml, hown, hts⟩ (k_X12_isTool l z n D cy Y hc_7) (va_cwS 1 hts gX12_loop_X12_isTool rfl rfl rfl (by decide +kernel) ⟨Nat.le_of_ble_eq_true rfl, Nat.le_of_ble_eq_true rfl⟩) (q_PS hK hN hW) rfl rfl hl.1 rfl (lv_room (Nat.le_of_ble_eq_true rfl)) dX12_loop_15 ⟨Nat.le_refl _, Nat.le_refl _⟩) hS (fun H locs hW hS => ?_)
      refine lv_if_eq (tgt := 36) hx hb dX12_loop_18 (by decide) (fun c => ?_) (fun c => ?_)
      · have hf := g_pos c hf
        refine lv_ldcw hx hb hown hw0 dX12_loop_36 ?_
        exact q_iret hx hb hr hlocks hW hS hf dX12_loop_39
      · have hf := g_neg c hf
        refine lv_iload_n hx hb dX12_loop_21 rfl (lv_at hl 1 rfl) ?_
        refine lv_iload_n hx hb dX12_loop_22 rfl (lv_at hl 2 rfl) ?_
        refine lv_icmp_eq (tgt := 36) hx hb dX12_loop_23 (by decide) (fun c => ?_) (fun c => ?_)
        · have hf := g_pos c hf
          refine lv_ldcw hx hb hown hw0 dX12_loop_36 ?_
          exact q_iret hx hb hr hlocks hW hS hf dX12_loop_39
        · have hf := g_neg c hf
          refine lv_iload_n hx hb dX12_loop_26 rfl (lv_at hl 2 rfl) ?_
          refine lv_iload_n hx hb dX12_loop_27 rfl (lv_at hl 3 rfl) ?_
          refine lv_icmp_eq (tgt := 36) hx hb dX12_loop_28 (by decide) (fun c => ?_) (fun c => ?_)
          · have hf := g_pos c hf
            refine lv_ldcw hx hb hown hw0 dX12_loop_36 ?_
            exact q_iret hx hb hr hlocks hW hS hf dX12_loop_39
          · have hf := g_neg c hf
            refine lv_iload_n hx hb dX12_loop_31 rfl (lv_at hl 1 rfl) ?_
            refine lv_iload_n hx hb dX12_loop_32 rfl (lv_at hl 3 rfl) ?_
            refine lv_icmp_ne (tgt := 40) hx hb dX12_loop_33 (by decide) (fun c => ?_) (fun c => ?_)
            · have hf := g_neg c hf
              refine lv_aload_n hx hb dX12_loop_40 rfl (lv_at hl 0 rfl) ?_
              refine lv_iload_n hx hb dX12_loop_41 rfl (lv_at hl 1 rfl) ?_
              refine lv_iload_n hx hb dX12_loop_42 rfl (lv_at hl 2 rfl) ?_
              obtain ⟨r_12, σ_11, hc_10, hf⟩ := g_bnd hf
              refine q_calli (va_runV (As := [.int a1, .int a2]) (rest := []) ⟨hx, hb, hml, hown, hts⟩ (k_X12_between l z n D cy Y h_this hc_10) (cwV 2 hts gX12_loop_X12_between rfl rfl rfl (by decide +kernel) ⟨Nat.le_of_ble_eq_true rfl, Nat.le_of_ble_eq_true rfl⟩) (q_PV (T := TX12) (N := 57) hK hN hW h_this (by decide) rfl) rfl rfl hl.1 rfl (lv_room (Nat.le_of_ble_eq_true rfl)) dX12_loop_43 ⟨Nat.le_refl _, Nat.le_refl _⟩) hS (fun H locs hW hS => ?_)
              refine lv_istore (lv' := [(4, .int r_12), (0, .ref (z + this)), (1, .int a1), (2, .int a2), (3, .int a3)]) hx hb dX12_loop_46 hl (by decide) rfl (fun ls hl => ?_)
              refine lv_aload_n hx hb dX12_loop_48 rfl (lv_at hl 1 rfl) ?_
              refine lv_iload_n hx hb dX12_loop_49 rfl (lv_at hl 3 rfl) ?_
              refine lv_iload_n hx hb dX12_loop_50 rfl (lv_at hl 4 rfl) ?_
              obtain ⟨r_15, σ_14, hc_13, hf⟩ := g_bnd hf
              refine q_calli (va_runV (As := [.int a2, .int a3]) (rest := []) ⟨hx, hb, hml, hown, hts⟩ (k_X12_between l z n D cy Y h_this hc_13) (cwV 2 hts gX12_loop_X12_between rfl rfl rfl (by decide +kernel) ⟨Nat.le_of_ble_eq_true rfl, Nat.le_of_ble_eq_true rfl⟩) (q_PV (T := TX12) (N := 57) hK hN hW h_this (by decide) rfl) rfl rfl hl.1 rfl (lv_room (Nat.le_of_ble_eq_true rfl)) dX12_loop_51 ⟨Nat.le_refl _, Nat.le_refl _⟩) hS (fun H locs hW hS => ?_)
              refine lv_istore (lv' := [(5, .int r_15), (4, .int r_12), (0, .ref (z + this)), (1, .int a1), (2, .int a2), (3, .int a3)]) hx hb dX12_loop_54 hl (by decide) rfl (fun ls hl => ?_)
              refine lv_aload_n hx hb dX12_loop_56 rfl (lv_at hl 2 rfl) ?_
              refine lv_iload_n hx hb dX12_loop_57 rfl (lv_at hl 3 rfl) ?_
              refine lv_iload_n hx hb dX12_loop_58 rfl (lv_at hl 5 rfl) ?_
              obtain ⟨r_18, σ_17, hc_16, hf⟩ := g_bnd hf
              refine q_calli (va_runV (As := [.int a1, .int a3]) (rest := []) ⟨hx, hb, hml, hown, hts⟩ (k_X12_between l z n D cy Y h_this hc_16) (cwV 2 hts gX12_loop_X12_between rfl rfl rfl (by decide +kernel) ⟨Nat.le_of_ble_eq_true rfl, Nat.le_of_ble_eq_true rfl⟩) (q_PV (T := TX12) (N := 57) hK hN hW h_this (by decide) rfl) rfl rfl hl.1 rfl (lv_room (Nat.le_of_ble_eq_true rfl)) dX12_loop_59 ⟨Nat.le_refl _, Nat.le_refl _⟩) hS (fun H locs hW hS => ?_)
              refine lv_istore (lv' := [(6, .int r_18), (5, .int r_15), (4, .int r_12), (0, .ref (z + this)), (1, .int a1), (2, .int a2), (3, .int a3)]) hx hb dX12_loop_62 hl (by decide) rfl (fun ls hl => ?_)
              refine lv_iload hx hb dX12_loop_64 (lv_at hl 2 rfl) ?_
              refine lv_ldcw hx hb hown hw1 dX12_loop_66 ?_
              refine lv_icmp_eq (tgt := 88) hx hb dX12_loop_69 (by decide) (fun c => ?_) (fun c => ?_)
              · have hf := g_pos c hf
                refine lv_ldcw hx hb hown hw1 dX12_loop_88 ?_
                refine lv_goto (tgt := 102) hx hb dX12_loop_91 (by decide) ?_
                exact q_iret hx hb hr hlocks hW hS hf dX12_loop_102
              · have hf := g_neg c hf
                refine lv_iload hx hb dX12_loop_72 (lv_at hl 1 rfl) ?_
                refine lv_ldcw hx hb hown hw1 dX12_loop_74 ?_
                refine lv_icmp_eq (tgt := 88) hx hb dX12_loop_77 (by decide) (fun c => ?_) (fun c => ?_)
                · have hf := g_pos c hf
                  refine lv_ldcw hx hb hown hw1 dX12_loop_88 ?_
                  refine lv_goto (tgt := 102) hx hb dX12_loop_91 (by decide) ?_
                  exact q_iret hx hb hr hlocks hW hS hf dX12_loop_102
                · have hf := g_neg c hf
                  refine lv_iload hx hb dX12_loop_80 (lv_at hl 0 rfl) ?_
                  refine lv_ldcw hx hb hown hw1 dX12_loop_82 ?_
                  refine lv_icmp_ne (tgt := 94) hx hb dX12_loop_85 (by decide) (fun c => ?_) (fun c => ?_)
                  · have hf := g_neg c hf
                    refine lv_iload hx hb dX12_loop_94 (lv_at hl 2 rfl) ?_
                    refine lv_iload hx hb dX12_loop_96 (lv_at hl 1 rfl) ?_
                    refine lv_iadd hx hb dX12_loop_98 ?_
                    refine lv_iload hx hb dX12_loop_99 (lv_at hl 0 rfl) ?_
                    refine lv_isub hx hb dX12_loop_101 ?_
                    exact q_iret hx hb hr hlocks hW hS hf dX12_loop_102
                  · have hf := g_pos c hf
                    refine lv_ldcw hx hb hown hw1 dX12_loop_88 ?_
                    refine lv_goto (tgt := 102) hx hb dX12_loop_91 (by decide) ?_
                    exact q_iret hx hb hr hlocks hW hS hf dX12_loop_102
            · have hf := g_pos c hf
              refine lv_ldcw hx hb hown hw0 dX12_loop_36 ?_
              exact q_iret hx hb hr hlocks hW hS hf dX12_loop_39
set_option maxRecDepth 100000 in
set_option maxHeartbeats 40000000 in
theorem k_X12_many (l : Launch) (z n : Nat) (D : va_G) (cy : Nat → ClassId) (Y : Yt) {fu : Nat} {this : Nat} {a1 : Int32} {σ : Mm} {r : Int32} {σ1 : Mm} (h_this : okk Y n 9 this) (hf : f_X12_many Y fu this a1 σ = some (r, σ1)) : Ki l yX12_many wsX12_many ({ frames := 2, cells := 0, slots := 0, locals := 45 } : Room) z n D cy Y [.ref (z + this), .int a1] σ r σ1 := by
  refine Met.ofW (cc := cX12_many) (maxL := 2) (ret := (some .int)) (by decide +kernel) rfl ?_
  intro p e s m args below meth c s₁ B hml hv
  obtain ⟨rfl, hW, hK, hN⟩ := hv
  have hx := B.exec
  have hb := B.bytes
  have hr := B.returns
  have hts := atoms_spec (ws := wsX12_many) B.pre
  have hown : s.vm.findClass RX12 = some m.cls := findClass_of_methodNamed B.named
  have hlocks := B.notSynchronized
  have hS : va_S (Az z) s.heap s.heap [] := va_S.rf
  have hin12 : ∀ w ∈ wsX120, w ∈ wsX12_many := fun w h => List.mem_cons_of_mem _ (List.mem_append_right _ h)
  have hw0 := hts (.fieldLink RX12 167 "SkyClocksModel" "counts" "I") (List.mem_of_getElem? (i := 1) rfl)
  have hl := lv_entry ([.ref (z + this), .int a1]) (n := 2) (Nat.le_of_ble_eq_true rfl)
  rw [lg_entry_eq]
  generalize (lg_sl ([.ref (z + this), .int a1]) ++ List.replicate (2 - (lg_sl ([.ref (z + this), .int a1])).length) Slot.unset).toArray = ls at hl ⊢
  have hl : lv_has ls 2 [(0, .ref (z + this)), (1, .int a1)] := hl
  refine lv_iload_n hx hb dX12_many_0 rfl (lv_at hl 1 rfl) ?_
  obtain ⟨r_3, σ_2, hc_1, hf⟩ := g_bnd hf
  refine q_calli (va_runS (As := [.int a1]) (rest := []) ⟨hx, hb, hml, hown, hts⟩ (k_X12_isStar l z n D cy Y hc_1) (va_cwS 1 hts gX12_many_X12_isStar rfl rfl rfl (by decide +kernel) ⟨Nat.le_of_ble_eq_true rfl, Nat.le_of_ble_eq_true rfl⟩) (q_PS hK hN hW) rfl rfl hl.1 rfl (lv_room (Nat.le_of_ble_eq_true rfl)) dX12_many_1 ⟨Nat.le_refl _, Nat.le_refl _⟩) hS (fun H locs hW hS => ?_)
  refine lv_if_ne (tgt := 9) hx hb dX12_many_4 (by decide) (fun c => ?_) (fun c => ?_)
  · have hf := g_neg c hf
    refine lv_aload_n hx hb dX12_many_9 rfl (lv_at hl 0 rfl) ?_
    refine lv_iload_n hx hb dX12_many_10 rfl (lv_at hl 1 rfl) ?_
    obtain ⟨σ_5, hc_4, hf⟩ := g_bn1 hf
    refine q_callv (va_runV (As := [.int a1]) (rest := []) ⟨hx, hb, hml, hown, hts⟩ (k_X12_layCounts l z n D cy Y h_this hc_4) (cwV 1 hts gX12_many_X12_layCounts rfl rfl rfl (by decide +kernel) ⟨Nat.le_of_ble_eq_true rfl, Nat.le_of_ble_eq_true rfl⟩) (q_PV (T := TX12) (N := 57) hK hN hW h_this (by decide) rfl) rfl rfl hl.1 rfl (lv_room (Nat.le_of_ble_eq_true rfl)) dX12_many_11 ⟨Nat.le_refl _, Nat.le_refl _⟩) hS (fun H locs hW hS => ?_)
    refine lv_aload_n hx hb dX12_many_14 rfl (lv_at hl 0 rfl) ?_
    refine q_geti (own := RX12) (ref := RX12) (C := RX12) (T := TX12) (N := 57) (kc := 9) (ci := 0) hx hb hts hin12 hown hK hW h_this (by decide) rfl 22 (by decide) hw0 rfl rfl dX12_many_15 ?_
    exact q_iret hx hb hr hlocks hW hS hf dX12_many_18
  · have hf := g_pos c hf
    refine lv_iconst (v := (-1)) hx hb dX12_many_7 (by decide) ?_
    exact q_iret hx hb hr hlocks hW hS hf dX12_many_8
set_option maxRecDepth 100000 in
set_option maxHeartbeats 40000000 in
theorem k_X12_model (l : Launch) (z n : Nat) (D : va_G) (cy : Nat → ClassId) (Y : Yt) {fu : Nat} {this : Nat} {a1 : Int32} {σ : Mm} {r : Int32} {σ1 : Mm} (h_this : okk Y n 9 this) (hf : f_X12_model Y fu this a1 σ = some (r, σ1)) : Ki l yX12_model wsX12_model ({ frames := 6, cells := 0, slots := 0, locals := 133 } : Room) z n D cy Y [.ref (z + this), .int a1] σ r σ1 := by
  refine Met.ofW (cc := cX12_model) (maxL := 4) (ret := (some .int)) (by decide +kernel) rfl ?_
  intro p e s m args below meth c s₁ B hml hv
  obtain ⟨rfl, hW, hK, hN⟩ := hv
  have hx := B.exec
  have hb := B.bytes
  have hr := B.returns
  have hts := atoms_spec (ws := wsX12_model) B.pre
  have hown : s.vm.findClass RX12 = some m.cls := findClass_of_methodNamed B.named
  have hlocks := B.notSynchronized
  have hS : va_S (Az z) s.heap s.heap [] := va_S.rf
  have hin12 : ∀ w ∈ wsX120, w ∈ wsX12_model := fun w h => List.mem_cons_of_mem _ (List.mem_append_right _ h)
  have hw0 := hts (.fieldLink RX12 36 "SkyClocksModel" "hasModel" "[Z") (List.mem_of_getElem? (i := 1) rfl)
  have hw1 := hts (.fieldLink RX12 40 "SkyClocksModel" "period" "[I") (List.mem_of_getElem? (i := 2) rfl)
  have hw2 := hts (.fieldLink RX12 43 "SkyClocksModel" "zero" "[I") (List.mem_of_getElem? (i := 3) rfl)
  have hw3 := hts (.fieldLink RX12 46 "SkyClocksModel" "longer" "[I") (List.mem_of_getElem? (i := 4) rfl)
  have hw4 := hts (.fieldLink RX12 49 "SkyClocksModel" "slipMany" "[I") (List.mem_of_getElem? (i := 5) rfl)
  have hw5 := hts (.fieldLink RX12 58 "SkyClocksModel" "friendMany" "[I") (List.mem_of_getElem? (i := 8) rfl)
  have hw6 := hts (.fieldLink RX12 214 "SkyClocksModel" "items" "I") (List.mem_of_getElem? (i := 11) rfl)
  have hw7 := hts (.fieldLink RX12 61 "SkyClocksModel" "friendTurns" "[I") (List.mem_of_getElem? (i := 9) rfl)
  have hw8 := hts (.fieldLink RX12 64 "SkyClocksModel" "friendBy" "[I") (List.mem_of_getElem? (i := 10) rfl)
  have hw9 := hts (.fieldLink RX12 52 "SkyClocksModel" "slipAt" "[I") (List.mem_of_getElem? (i := 6) rfl)
  have hw10 := hts (.fieldLink RX12 55 "SkyClocksModel" "slipBy" "[I") (List.mem_of_getElem? (i := 7) rfl)
  have hl := lv_entry ([.ref (z + this), .int a1]) (n := 4) (Nat.le_of_ble_eq_true rfl)
  rw [lg_entry_eq]
  generalize (lg_sl ([.ref (z + this), .int a1]) ++ List.replicate (4 - (lg_sl ([.ref (z + this), .int a1])).length) Slot.unset).toArray = ls at hl ⊢
  have hl : lv_has ls 4 [(0, .ref (z + this)), (1, .int a1)] := hl
  have B167 : ∀ (k141 : Int32 → Mm → Option (Int32 × Mm)) (H141 : ∀ (x2 : Int32) (σ : Mm), k141 x2 σ = some (r, σ1) → ∀ (H : Heap) (locs : List Loc) (ls : Array Slot), WH z n D cy Y σ H → va_S (Az z) s.heap H locs → lv_has ls 4 [(0, .ref (z + this)), (1, .int a1), (2, .int x2)] → W p l e ({ frames := 6, cells := 0, slots := 0, locals := 133 } : Room) s m ([.ref (z + this), .int a1] : List Value).toArray below meth c H locs 0 0 (MQ below (va_Qi (fun (x : Int32) (_ : Unit) => x = r) (fun _ t => WH z n D cy Y σ1 t.heap) (Az z)) ([.ref (z + this), .int a1] : List Value).toArray s 0 0 (Az z)) (F0 m 141 ls [])) (nn : Nat) (x2 : Int32) (x3 : Int32) (σ : Mm), b_X12_model_167 Y fu this a1 k141 nn x2 x3 σ = some (r, σ1) → ∀ (H : Heap) (locs : List Loc) (ls : Array Slot), WH z n D cy Y σ H → va_S (Az z) s.heap H locs → lv_has ls 4 [(0, .ref (z + this)), (1, .int a1), (2, .int x2), (3, .int x3)] → W p l e ({ frames := 6, cells := 0, slots := 0, locals := 133 } : Room) s m ([.ref (z + this), .int a1] : List Value).toArray below meth c H locs 0 0 (MQ below (va_Qi (fun (x : Int32) (_ : Unit) => x = r) (fun _ t => WH z n D cy Y σ1 t.heap) (Az z)) ([.ref (z + this), .int a1] : List Value).toArray s 0 0 (Az z)) (F0 m 167 ls []) := by
    intro k141 H141
    intro nn
    induction nn with
    | zero =>
      intro x2 x3 σ  hf
      have h9 : (none : Option (Int32 × Mm)) = some (r, σ1) := hf
      cases h9
    | succ nn H167 =>
      intro x2 x3 σ  hf H locs ls hW hS hl
      have hf : s_X12_model_167 Y fu this a1 k141 (b_X12_model_167 Y fu this a1 k141 nn) x2 x3 σ = some (r, σ1) := hf
      generalize hkk : b_X12_model_167 Y fu this a1 k141 nn = k167 at hf H167
      refine lv_iload_n hx hb dX12_model_167 rfl (lv_at hl 3 rfl) ?_
      refine lv_iconst (v := 4) hx hb dX12_model_168 (by decide) ?_
      refine lv_icmp_ge (tgt := 205) hx hb dX12_model_169 (by decide) (fun c => ?_) (fun c => ?_)
      · have hf := g_pos c hf
        obtain ⟨x2_53, ex2_53⟩ : ∃ y : Int32, y = x2 + 1 := ⟨_, rfl⟩
        have hf := g_lt ex2_53 hf
        refine lv_iinc (v := x2_53) (lv' := [(2, .int x2_53), (0, .ref (z + this)), (1, .int a1), (3, .int x3)]) hx hb dX12_model_205 hl (k := 2) rfl (by rw [ex2_53]; rfl) (by decide) rfl (fun ls hl => ?_)
        refine lv_goto (tgt := 141) hx hb dX12_model_208 (by decide) ?_
        exact H141 x2_53 σ hf _ _ _ hW hS (lv_sub hl [1, 2, 0] rfl)
      · have hf := g_neg c hf
        refine lv_aload_n hx hb dX12_model_172 rfl (lv_at hl 0 rfl) ?_
        refine q_getp (own := RX12) (ref := RX12) (C := RX12) (T := TX12) (N := 57) (kc := 9) (ci := 0) hx hb hts hin12 hown hK hW h_this (by decide) rfl 18 (by decide) hw8 rfl rfl rfl (v := 612) rfl dX12_model_173 (fun hk_54 hq_55 => ?_)
        refine lv_iconst (v := 4) hx hb dX12_model_176 (by decide) ?_
        refine lv_iconst (v := 2) hx hb dX12_model_177 (by decide) ?_
        refine lv_iload_n hx hb dX12_model_178 rfl (lv_at hl 1 rfl) ?_
        refine lv_imul hx hb dX12_model_179 ?_
        refine lv_iload_n hx hb dX12_model_180 rfl (lv_at hl 2 rfl) ?_
        refine lv_iadd hx hb dX12_model_181 ?_
        refine lv_imul hx hb dX12_model_182 ?_
        refine lv_iload_n hx hb dX12_model_183 rfl (lv_at hl 3 rfl) ?_
        refine lv_iadd hx hb dX12_model_184 ?_
        refine lv_aload_n hx hb dX12_model_185 rfl (lv_at hl 0 rfl) ?_
        refine q_getp (own := RX12) (ref := RX12) (C := RX12) (T := TX12) (N := 57) (kc := 9) (ci := 0) hx hb hts hin12 hown hK hW h_this (by decide) rfl 18 (by decide) hw8 rfl rfl rfl (v := 612) rfl dX12_model_186 (fun hk_56 hq_57 => ?_)
        refine lv_iconst (v := 4) hx hb dX12_model_189 (by decide) ?_
        refine lv_bipush (v := 8) hx hb dX12_model_190 (by decide) ?_
        refine lv_iload_n hx hb dX12_model_192 rfl (lv_at hl 2 rfl) ?_
        refine lv_iadd hx hb dX12_model_193 ?_
        refine lv_imul hx hb dX12_model_194 ?_
        refine lv_iload_n hx hb dX12_model_195 rfl (lv_at hl 3 rfl) ?_
        refine lv_iadd hx hb dX12_model_196 ?_
        obtain ⟨hi_58, hf⟩ := g_in hf
        refine q_iald hx hb hK hW hk_56 (inb_of hq_57 hi_58) dX12_model_197 ?_
        obtain ⟨hi_59, hf⟩ := g_in hf
        refine q_iast hx hb hK hW hS hk_54 (inb_of hq_55 hi_59) dX12_model_198 (fun H locs hW hS => ?_)
        obtain ⟨σ_60, eσ_60⟩ : ∃ y : Mm, y = (Mm.si σ 612 (ix ((4 * ((2 * a1) + x2)) + x3)) (Mm.gi σ 612 (ix ((4 * (8 + x2)) + x3)))) := ⟨_, rfl⟩
        rw [← eσ_60] at hW
        have hf := g_lt eσ_60 hf
        obtain ⟨x3_61, ex3_61⟩ : ∃ y : Int32, y = x3 + 1 := ⟨_, rfl⟩
        have hf := g_lt ex3_61 hf
        refine lv_iinc (v := x3_61) (lv' := [(3, .int x3_61), (0, .ref (z + this)), (1, .int a1), (2, .int x2)]) hx hb dX12_model_199 hl (k := 3) rfl (by rw [ex3_61]; rfl) (by decide) rfl (fun ls hl => ?_)
        refine lv_goto (tgt := 167) hx hb dX12_model_202 (by decide) ?_
        exact H167 x2 x3_61 σ_60 hf _ _ _ hW hS (lv_sub hl [1, 2, 3, 0] rfl)
  have B141 : ∀ (nn : Nat) (x2 : Int32) (σ : Mm), b_X12_model_141 Y fu this a1 nn x2 σ = some (r, σ1) → ∀ (H : Heap) (locs : List Loc) (ls : Array Slot), WH z n D cy Y σ H → va_S (Az z) s.heap H locs → lv_has ls 4 [(0, .ref (z + this)), (1, .int a1), (2, .int x2)] → W p l e ({ frames := 6, cells := 0, slots := 0, locals := 133 } : Room) s m ([.ref (z + this), .int a1] : List Value).toArray below meth c H locs 0 0 (MQ below (va_Qi (fun (x : Int32) (_ : Unit) => x = r) (fun _ t => WH z n D cy Y σ1 t.heap) (Az z)) ([.ref (z + this), .int a1] : List Value).toArray s 0 0 (Az z)) (F0 m 141 ls []) := by
    intro nn
    induction nn with
    | zero =>
      intro x2 σ  hf
      have h9 : (none : Option (Int32 × Mm)) = some (r, σ1) := hf
      cases h9
    | succ nn H141 =>
      intro x2 σ  hf H locs ls hW hS hl
      have hf : s_X12_model_141 Y fu this a1 (b_X12_model_141 Y fu this a1 nn) x2 σ = some (r, σ1) := hf
      generalize hkk : b_X12_model_141 Y fu this a1 nn = k141 at hf H141
      refine lv_iload_n hx hb dX12_model_141 rfl (lv_at hl 2 rfl) ?_
      refine lv_iconst (v := 2) hx hb dX12_model_142 (by decide) ?_
      refine lv_icmp_ge (tgt := 211) hx hb dX12_model_143 (by decide) (fun c => ?_) (fun c => ?_)
      · have hf := g_pos c hf
        refine lv_aload_n hx hb dX12_model_211 rfl (lv_at hl 0 rfl) ?_
        refine q_geti (own := RX12) (ref := RX12) (C := RX12) (T := TX12) (N := 57) (kc := 9) (ci := 0) hx hb hts hin12 hown hK hW h_this (by decide) rfl 25 (by decide) hw6 rfl rfl dX12_model_212 ?_
        exact q_iret hx hb hr hlocks hW hS hf dX12_model_215
      · have hf := g_neg c hf
        refine lv_aload_n hx hb dX12_model_146 rfl (lv_at hl 0 rfl) ?_
        refine q_getp (own := RX12) (ref := RX12) (C := RX12) (T := TX12) (N := 57) (kc := 9) (ci := 0) hx hb hts hin12 hown hK hW h_this (by decide) rfl 17 (by decide) hw7 rfl rfl rfl (v := 611) rfl dX12_model_147 (fun hk_46 hq_47 => ?_)
        refine lv_iconst (v := 2) hx hb dX12_model_150 (by decide) ?_
        refine lv_iload_n hx hb dX12_model_151 rfl (lv_at hl 1 rfl) ?_
        refine lv_imul hx hb dX12_model_152 ?_
        refine lv_iload_n hx hb dX12_model_153 rfl (lv_at hl 2 rfl) ?_
        refine lv_iadd hx hb dX12_model_154 ?_
        refine lv_aload_n hx hb dX12_model_155 rfl (lv_at hl 0 rfl) ?_
        refine q_getp (own := RX12) (ref := RX12) (C := RX12) (T := TX12) (N := 57) (kc := 9) (ci := 0) hx hb hts hin12 hown hK hW h_this (by decide) rfl 17 (by decide) hw7 rfl rfl rfl (v := 611) rfl dX12_model_156 (fun hk_48 hq_49 => ?_)
        refine lv_bipush (v := 8) hx hb dX12_model_159 (by decide) ?_
        refine lv_iload_n hx hb dX12_model_161 rfl (lv_at hl 2 rfl) ?_
        refine lv_iadd hx hb dX12_model_162 ?_
        obtain ⟨hi_50, hf⟩ := g_in hf
        refine q_iald hx hb hK hW hk_48 (inb_of hq_49 hi_50) dX12_model_163 ?_
        obtain ⟨hi_51, hf⟩ := g_in hf
        refine q_iast hx hb hK hW hS hk_46 (inb_of hq_47 hi_51) dX12_model_164 (fun H locs hW hS => ?_)
        obtain ⟨σ_52, eσ_52⟩ : ∃ y : Mm, y = (Mm.si σ 611 (ix ((2 * a1) + x2)) (Mm.gi σ 611 (ix (8 + x2)))) := ⟨_, rfl⟩
        rw [← eσ_52] at hW
        have hf := g_lt eσ_52 hf
        refine lv_iconst (v := 0) hx hb dX12_model_165 (by decide) ?_
        refine lv_istore_n (lv' := [(3, .int 0), (0, .ref (z + this)), (1, .int a1), (2, .int x2)]) hx hb dX12_model_166 rfl hl (by decide) rfl (fun ls hl => ?_)
        exact B167 k141 H141 fu x2 0 σ_52 hf _ _ _ hW hS (lv_sub hl [1, 2, 3, 0] rfl)
  have B78 : ∀ (nn : Nat) (x2 : Int32) (σ : Mm), b_X12_model_78 Y fu this a1 nn x2 σ = some (r, σ1) → ∀ (H : Heap) (locs : List Loc) (ls : Array Slot), WH z n D cy Y σ H → va_S (Az z) s.heap H locs → lv_has ls 4 [(0, .ref (z + this)), (1, .int a1), (2, .int x2)] → W p l e ({ frames := 6, cells := 0, slots := 0, locals := 133 } : Room) s m ([.ref (z + this), .int a1] : List Value).toArray below meth c H locs 0 0 (MQ below (va_Qi (fun (x : Int32) (_ : Unit) => x = r) (fun _ t => WH z n D cy Y σ1 t.heap) (Az z)) ([.ref (z + this), .int a1] : List Value).toArray s 0 0 (Az z)) (F0 m 78 ls []) := by
    intro nn
    induction nn with
    | zero =>
      intro x2 σ  hf
      have h9 : (none : Option (Int32 × Mm)) = some (r, σ1) := hf
      cases h9
    | succ nn H78 =>
      intro x2 σ  hf H locs ls hW hS hl
      have hf : s_X12_model_78 Y fu this a1 (b_X12_model_78 Y fu this a1 nn) x2 σ = some (r, σ1) := hf
      generalize hkk : b_X12_model_78 Y fu this a1 nn = k78 at hf H78
      refine lv_iload_n hx hb dX12_model_78 rfl (lv_at hl 2 rfl) ?_
      refine lv_iconst (v := 3) hx hb dX12_model_79 (by decide) ?_
      refine lv_icmp_ge (tgt := 127) hx hb dX12_model_80 (by decide) (fun c => ?_) (fun c => ?_)
      · have hf := g_pos c hf
        refine lv_aload_n hx hb dX12_model_127 rfl (lv_at hl 0 rfl) ?_
        refine q_getp (own := RX12) (ref := RX12) (C := RX12) (T := TX12) (N := 57) (kc := 9) (ci := 0) hx hb hts hin12 hown hK hW h_this (by decide) rfl 16 (by decide) hw5 rfl rfl rfl (v := 610) rfl dX12_model_128 (fun hk_39 hq_40 => ?_)
        refine lv_iload_n hx hb dX12_model_131 rfl (lv_at hl 1 rfl) ?_
        refine lv_aload_n hx hb dX12_model_132 rfl (lv_at hl 0 rfl) ?_
        refine q_getp (own := RX12) (ref := RX12) (C := RX12) (T := TX12) (N := 57) (kc := 9) (ci := 0) hx hb hts hin12 hown hK hW h_this (by decide) rfl 16 (by decide) hw5 rfl rfl rfl (v := 610) rfl dX12_model_133 (fun hk_41 hq_42 => ?_)
        refine lv_iconst (v := 4) hx hb dX12_model_136 (by decide) ?_
        obtain ⟨hi_43, hf⟩ := g_in hf
        refine q_iald hx hb hK hW hk_41 (inb_of hq_42 hi_43) dX12_model_137 ?_
        obtain ⟨hi_44, hf⟩ := g_in hf
        refine q_iast hx hb hK hW hS hk_39 (inb_of hq_40 hi_44) dX12_model_138 (fun H locs hW hS => ?_)
        obtain ⟨σ_45, eσ_45⟩ : ∃ y : Mm, y = (Mm.si σ 610 (ix a1) (Mm.gi σ 610 (ix 4))) := ⟨_, rfl⟩
        rw [← eσ_45] at hW
        have hf := g_lt eσ_45 hf
        refine lv_iconst (v := 0) hx hb dX12_model_139 (by decide) ?_
        refine lv_istore_n (lv' := [(2, .int 0), (0, .ref (z + this)), (1, .int a1)]) hx hb dX12_model_140 rfl hl (by decide) rfl (fun ls hl => ?_)
        exact B141 fu 0 σ_45 hf _ _ _ hW hS (lv_sub hl [1, 2, 0] rfl)
      · have hf := g_neg c hf
        refine lv_aload_n hx hb dX12_model_83 rfl (lv_at hl 0 rfl) ?_
        refine q_getp (own := RX12) (ref := RX12) (C := RX12) (T := TX12) (N := 57) (kc := 9) (ci := 0) hx hb hts hin12 hown hK hW h_this (by decide) rfl 14 (by decide) hw9 rfl rfl rfl (v := 608) rfl dX12_model_84 (fun hk_62 hq_63 => ?_)
        refine lv_iconst (v := 3) hx hb dX12_model_87 (by decide) ?_
        refine lv_iload_n hx hb dX12_model_88 rfl (lv_at hl 1 rfl) ?_
        refine lv_imul hx hb dX12_model_89 ?_
        refine lv_iload_n hx hb dX12_model_90 rfl (lv_at hl 2 rfl) ?_
        refine lv_iadd hx hb dX12_model_91 ?_
        refine lv_aload_n hx hb dX12_model_92 rfl (lv_at hl 0 rfl) ?_
        refine q_getp (own := RX12) (ref := RX12) (C := RX12) (T := TX12) (N := 57) (kc := 9) (ci := 0) hx hb hts hin12 hown hK hW h_this (by decide) rfl 14 (by decide) hw9 rfl rfl rfl (v := 608) rfl dX12_model_93 (fun hk_64 hq_65 => ?_)
        refine lv_bipush (v := 12) hx hb dX12_model_96 (by decide) ?_
        refine lv_iload_n hx hb dX12_model_98 rfl (lv_at hl 2 rfl) ?_
        refine lv_iadd hx hb dX12_model_99 ?_
        obtain ⟨hi_66, hf⟩ := g_in hf
        refine q_iald hx hb hK hW hk_64 (inb_of hq_65 hi_66) dX12_model_100 ?_
        obtain ⟨hi_67, hf⟩ := g_in hf
        refine q_iast hx hb hK hW hS hk_62 (inb_of hq_63 hi_67) dX12_model_101 (fun H locs hW hS => ?_)
        obtain ⟨σ_68, eσ_68⟩ : ∃ y : Mm, y = (Mm.si σ 608 (ix ((3 * a1) + x2)) (Mm.gi σ 608 (ix (12 + x2)))) := ⟨_, rfl⟩
        rw [← eσ_68] at hW
        have hf := g_lt eσ_68 hf
        refine lv_aload_n hx hb dX12_model_102 rfl (lv_at hl 0 rfl) ?_
        refine q_getp (own := RX12) (ref := RX12) (C := RX12) (T := TX12) (N := 57) (kc := 9) (ci := 0) hx hb hts hin12 hown hK hW h_this (by decide) rfl 15 (by decide) hw10 rfl rfl rfl (v := 609) rfl dX12_model_103 (fun hk_69 hq_70 => ?_)
        refine lv_iconst (v := 3) hx hb dX12_model_106 (by decide) ?_
        refine lv_iload_n hx hb dX12_model_107 rfl (lv_at hl 1 rfl) ?_
        refine lv_imul hx hb dX12_model_108 ?_
        refine lv_iload_n hx hb dX12_model_109 rfl (lv_at hl 2 rfl) ?_
        refine lv_iadd hx hb dX12_model_110 ?_
        refine lv_aload_n hx hb dX12_model_111 rfl (lv_at hl 0 rfl) ?_
        refine q_getp (own := RX12) (ref := RX12) (C := RX12) (T := TX12) (N := 57) (kc := 9) (ci := 0) hx hb hts hin12 hown hK hW h_this (by decide) rfl 15 (by decide) hw10 rfl rfl rfl (v := 609) rfl dX12_model_112 (fun hk_71 hq_72 => ?_)
        refine lv_bipush (v := 12) hx hb dX12_model_115 (by decide) ?_
        refine lv_iload_n hx hb dX12_model_117 rfl (lv_at hl 2 rfl) ?_
        refine lv_iadd hx hb dX12_model_118 ?_
        obtain ⟨hi_73, hf⟩ := g_in hf
        refine q_iald hx hb hK hW hk_71 (inb_of hq_72 hi_73) dX12_model_119 ?_
        obtain ⟨hi_74, hf⟩ := g_in hf
        refine q_iast hx hb hK hW hS hk_69 (inb_of hq_70 hi_74) dX12_model_120 (fun H locs hW hS => ?_)
        obtain ⟨σ_75, eσ_75⟩ : ∃ y : Mm, y = (Mm.si σ_68 609 (ix ((3 * a1) + x2)) (Mm.gi σ_68 609 (ix (12 + x2)))) := ⟨_, rfl⟩
        rw [← eσ_75] at hW
        have hf := g_lt eσ_75 hf
        obtain ⟨x2_76, ex2_76⟩ : ∃ y : Int32, y = x2 + 1 := ⟨_, rfl⟩
        have hf := g_lt ex2_76 hf
        refine lv_iinc (v := x2_76) (lv' := [(2, .int x2_76), (0, .ref (z + this)), (1, .int a1)]) hx hb dX12_model_121 hl (k := 2) rfl (by rw [ex2_76]; rfl) (by decide) rfl (fun ls hl => ?_)
        refine lv_goto (tgt := 78) hx hb dX12_model_124 (by decide) ?_
        exact H78 x2_76 σ_75 hf _ _ _ hW hS (lv_sub hl [1, 2, 0] rfl)
  refine lv_iload_n hx hb dX12_model_0 rfl (lv_at hl 1 rfl) ?_
  obtain ⟨r_3, σ_2, hc_1, hf⟩ := g_bnd hf
  refine q_calli (va_runS (As := [.int a1]) (rest := []) ⟨hx, hb, hml, hown, hts⟩ (k_X12_isStar l z n D cy Y hc_1) (va_cwS 1 hts gX12_model_X12_isStar rfl rfl rfl (by decide +kernel) ⟨Nat.le_of_ble_eq_true rfl, Nat.le_of_ble_eq_true rfl⟩) (q_PS hK hN hW) rfl rfl hl.1 rfl (lv_room (Nat.le_of_ble_eq_true rfl)) dX12_model_1 ⟨Nat.le_refl _, Nat.le_refl _⟩) hS (fun H locs hW hS => ?_)
  refine lv_if_ne (tgt := 9) hx hb dX12_model_4 (by decide) (fun c => ?_) (fun c => ?_)
  · have hf := g_neg c hf
    refine lv_aload_n hx hb dX12_model_9 rfl (lv_at hl 0 rfl) ?_
    obtain ⟨r_6, σ_5, hc_4, hf⟩ := g_bnd hf
    refine q_calli (va_runV (As := []) (rest := []) ⟨hx, hb, hml, hown, hts⟩ (k_X12_fault l z n D cy Y h_this hc_4) (cwV 0 hts gX12_model_X12_fault rfl rfl rfl (by decide +kernel) ⟨Nat.le_of_ble_eq_true rfl, Nat.le_of_ble_eq_true rfl⟩) (q_PV (T := TX12) (N := 57) hK hN hW h_this (by decide) rfl) rfl rfl hl.1 rfl (lv_room (Nat.le_of_ble_eq_true rfl)) dX12_model_10 ⟨Nat.le_refl _, Nat.le_refl _⟩) hS (fun H locs hW hS => ?_)
    refine lv_bipush (v := (-4)) hx hb dX12_model_13 (by decide) ?_
    refine lv_icmp_eq (tgt := 21) hx hb dX12_model_15 (by decide) (fun c => ?_) (fun c => ?_)
    · have hf := g_pos c hf
      refine lv_aload_n hx hb dX12_model_21 rfl (lv_at hl 0 rfl) ?_
      refine q_getp (own := RX12) (ref := RX12) (C := RX12) (T := TX12) (N := 57) (kc := 9) (ci := 0) hx hb hts hin12 hown hK hW h_this (by decide) rfl 9 (by decide) hw0 rfl rfl rfl (v := 603) rfl dX12_model_22 (fun hk_7 hq_8 => ?_)
      refine lv_iload_n hx hb dX12_model_25 rfl (lv_at hl 1 rfl) ?_
      refine lv_iconst (v := 1) hx hb dX12_model_26 (by decide) ?_
      obtain ⟨hi_9, hf⟩ := g_in hf
      refine q_zast hx hb hK hW hS hk_7 rfl (inb_of hq_8 hi_9) dX12_model_27 (fun H locs hW hS => ?_)
      obtain ⟨σ_10, eσ_10⟩ : ∃ y : Mm, y = (Mm.si σ_5 603 (ix a1) 1) := ⟨_, rfl⟩
      rw [← eσ_10] at hW
      have hf := g_lt eσ_10 hf
      refine lv_aload_n hx hb dX12_model_28 rfl (lv_at hl 0 rfl) ?_
      refine q_getp (own := RX12) (ref := RX12) (C := RX12) (T := TX12) (N := 57) (kc := 9) (ci := 0) hx hb hts hin12 hown hK hW h_this (by decide) rfl 10 (by decide) hw1 rfl rfl rfl (v := 604) rfl dX12_model_29 (fun hk_11 hq_12 => ?_)
      refine lv_iload_n hx hb dX12_model_32 rfl (lv_at hl 1 rfl) ?_
      refine lv_aload_n hx hb dX12_model_33 rfl (lv_at hl 0 rfl) ?_
      refine q_getp (own := RX12) (ref := RX12) (C := RX12) (T := TX12) (N := 57) (kc := 9) (ci := 0) hx hb hts hin12 hown hK hW h_this (by decide) rfl 10 (by decide) hw1 rfl rfl rfl (v := 604) rfl dX12_model_34 (fun hk_13 hq_14 => ?_)
      refine lv_iconst (v := 4) hx hb dX12_model_37 (by decide) ?_
      obtain ⟨hi_15, hf⟩ := g_in hf
      refine q_iald hx hb hK hW hk_13 (inb_of hq_14 hi_15) dX12_model_38 ?_
      obtain ⟨hi_16, hf⟩ := g_in hf
      refine q_iast hx hb hK hW hS hk_11 (inb_of hq_12 hi_16) dX12_model_39 (fun H locs hW hS => ?_)
      obtain ⟨σ_17, eσ_17⟩ : ∃ y : Mm, y = (Mm.si σ_10 604 (ix a1) (Mm.gi σ_10 604 (ix 4))) := ⟨_, rfl⟩
      rw [← eσ_17] at hW
      have hf := g_lt eσ_17 hf
      refine lv_aload_n hx hb dX12_model_40 rfl (lv_at hl 0 rfl) ?_
      refine q_getp (own := RX12) (ref := RX12) (C := RX12) (T := TX12) (N := 57) (kc := 9) (ci := 0) hx hb hts hin12 hown hK hW h_this (by decide) rfl 11 (by decide) hw2 rfl rfl rfl (v := 605) rfl dX12_model_41 (fun hk_18 hq_19 => ?_)
      refine lv_iload_n hx hb dX12_model_44 rfl (lv_at hl 1 rfl) ?_
      refine lv_aload_n hx hb dX12_model_45 rfl (lv_at hl 0 rfl) ?_
      refine q_getp (own := RX12) (ref := RX12) (C := RX12) (T := TX12) (N := 57) (kc := 9) (ci := 0) hx hb hts hin12 hown hK hW h_this (by decide) rfl 11 (by decide) hw2 rfl rfl rfl (v := 605) rfl dX12_model_46 (fun hk_20 hq_21 => ?_)
      refine lv_iconst (v := 4) hx hb dX12_model_49 (by decide) ?_
      obtain ⟨hi_22, hf⟩ := g_in hf
      refine q_iald hx hb hK hW hk_20 (inb_of hq_21 hi_22) dX12_model_50 ?_
      obtain ⟨hi_23, hf⟩ := g_in hf
      refine q_iast hx hb hK hW hS hk_18 (inb_of hq_19 hi_23) dX12_model_51 (fun H locs hW hS => ?_)
      obtain ⟨σ_24, eσ_24⟩ : ∃ y : Mm, y = (Mm.si σ_17 605 (ix a1) (Mm.gi σ_17 605 (ix 4))) := ⟨_, rfl⟩
      rw [← eσ_24] at hW
      have hf := g_lt eσ_24 hf
      refine lv_aload_n hx hb dX12_model_52 rfl (lv_at hl 0 rfl) ?_
      refine q_getp (own := RX12) (ref := RX12) (C := RX12) (T := TX12) (N := 57) (kc := 9) (ci := 0) hx hb hts hin12 hown hK hW h_this (by decide) rfl 12 (by decide) hw3 rfl rfl rfl (v := 606) rfl dX12_model_53 (fun hk_25 hq_26 => ?_)
      refine lv_iload_n hx hb dX12_model_56 rfl (lv_at hl 1 rfl) ?_
      refine lv_aload_n hx hb dX12_model_57 rfl (lv_at hl 0 rfl) ?_
      refine q_getp (own := RX12) (ref := RX12) (C := RX12) (T := TX12) (N := 57) (kc := 9) (ci := 0) hx hb hts hin12 hown hK hW h_this (by decide) rfl 12 (by decide) hw3 rfl rfl rfl (v := 606) rfl dX12_model_58 (fun hk_27 hq_28 => ?_)
      refine lv_iconst (v := 4) hx hb dX12_model_61 (by decide) ?_
      obtain ⟨hi_29, hf⟩ := g_in hf
      refine q_iald hx hb hK hW hk_27 (inb_of hq_28 hi_29) dX12_model_62 ?_
      obtain ⟨hi_30, hf⟩ := g_in hf
      refine q_iast hx hb hK hW hS hk_25 (inb_of hq_26 hi_30) dX12_model_63 (fun H locs hW hS => ?_)
      obtain ⟨σ_31, eσ_31⟩ : ∃ y : Mm, y = (Mm.si σ_24 606 (ix a1) (Mm.gi σ_24 606 (ix 4))) := ⟨_, rfl⟩
      rw [← eσ_31] at hW
      have hf := g_lt eσ_31 hf
      refine lv_aload_n hx hb dX12_model_64 rfl (lv_at hl 0 rfl) ?_
      refine q_getp (own := RX12) (ref := RX12) (C := RX12) (T := TX12) (N := 57) (kc := 9) (ci := 0) hx hb hts hin12 hown hK hW h_this (by decide) rfl 13 (by decide) hw4 rfl rfl rfl (v := 607) rfl dX12_model_65 (fun hk_32 hq_33 => ?_)
      refine lv_iload_n hx hb dX12_model_68 rfl (lv_at hl 1 rfl) ?_
      refine lv_aload_n hx hb dX12_model_69 rfl (lv_at hl 0 rfl) ?_
      refine q_getp (own := RX12) (ref := RX12) (C := RX12) (T := TX12) (N := 57) (kc := 9) (ci := 0) hx hb hts hin12 hown hK hW h_this (by decide) rfl 13 (by decide) hw4 rfl rfl rfl (v := 607) rfl dX12_model_70 (fun hk_34 hq_35 => ?_)
      refine lv_iconst (v := 4) hx hb dX12_model_73 (by decide) ?_
      obtain ⟨hi_36, hf⟩ := g_in hf
      refine q_iald hx hb hK hW hk_34 (inb_of hq_35 hi_36) dX12_model_74 ?_
      obtain ⟨hi_37, hf⟩ := g_in hf
      refine q_iast hx hb hK hW hS hk_32 (inb_of hq_33 hi_37) dX12_model_75 (fun H locs hW hS => ?_)
      obtain ⟨σ_38, eσ_38⟩ : ∃ y : Mm, y = (Mm.si σ_31 607 (ix a1) (Mm.gi σ_31 607 (ix 4))) := ⟨_, rfl⟩
      rw [← eσ_38] at hW
      have hf := g_lt eσ_38 hf
      refine lv_iconst (v := 0) hx hb dX12_model_76 (by decide) ?_
      refine lv_istore_n (lv' := [(2, .int 0), (0, .ref (z + this)), (1, .int a1)]) hx hb dX12_model_77 rfl hl (by decide) rfl (fun ls hl => ?_)
      exact B78 fu 0 σ_38 hf _ _ _ hW hS (lv_sub hl [1, 2, 0] rfl)
    · have hf := g_neg c hf
      refine lv_bipush (v := (-2)) hx hb dX12_model_18 (by decide) ?_
      exact q_iret hx hb hr hlocks hW hS hf dX12_model_20
  · have hf := g_pos c hf
    refine lv_iconst (v := (-1)) hx hb dX12_model_7 (by decide) ?_
    exact q_iret hx hb hr hlocks hW hS hf dX12_model_8
