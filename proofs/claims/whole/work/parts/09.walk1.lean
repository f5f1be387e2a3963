set_option maxRecDepth 100000 in
set_option maxHeartbeats 40000000 in
theorem k_J9_floorDiv_7cf53 (l : Launch) (z n : Nat) (D : va_G) (cy : Nat → ClassId) (Y : Yt) {a0 : Int32} {a1 : Int32} {σ : Mm} {r : Int32} {σ1 : Mm} (hf : f_J9_floorDiv_7cf53 Y a0 a1 σ = some (r, σ1)) : Ki l yJ9_floorDiv_7cf53 wsJ9_floorDiv_7cf53 ({ frames := 0, cells := 0, slots := 0, locals := 0 } : Room) z n D cy Y [.int a0, .int a1] σ r σ1 := by
  refine Met.ofJ (cc := cJ9_floorDiv_7cf53) (maxL := 3) (ret := (some .int)) (by decide +kernel) rfl ?_
  intro p e s m args below meth c s₁ B hml hv
  obtain ⟨rfl, hW, hK, hN⟩ := hv
  have hx := B.exec
  have hb := B.bytes
  have hr := B.returns
  have hts := atoms_spec (ws := wsJ9_floorDiv_7cf53) B.pre
  have hown : s.vm.findClass RJ9 = some m.cls := findClass_of_methodNamed B.named
  have hlocks := B.notSynchronized
  have hS : va_S (Az z) s.heap s.heap [] := va_S.rf
  have hl := lv_entry ([.int a0, .int a1]) (n := 3) (Nat.le_of_ble_eq_true rfl)
  rw [lg_entry_eq]
  generalize (lg_sl ([.int a0, .int a1]) ++ List.replicate (3 - (lg_sl ([.int a0, .int a1])).length) Slot.unset).toArray = ls at hl ⊢
  have hl : lv_has ls 3 [(0, .int a0), (1, .int a1)] := hl
  refine lv_iload_n hx hb dJ9_floorDiv_7cf53_0 rfl (lv_at hl 0 rfl) ?_
  refine lv_iload_n hx hb dJ9_floorDiv_7cf53_1 rfl (lv_at hl 1 rfl) ?_
  obtain ⟨hz_1, hf⟩ := g_ne hf
  refine lv_idiv hx hb dJ9_floorDiv_7cf53_2 hz_1 ?_
  refine lv_topi (fun x2_2 ex2_2 => ?_)
  have hf := g_lt ex2_2 hf
  refine lv_istore_n (lv' := [(2, .int x2_2), (0, .int a0), (1, .int a1)]) hx hb dJ9_floorDiv_7cf53_3 rfl hl (by decide) rfl (fun ls hl => ?_)
  refine lv_iload_n hx hb dJ9_floorDiv_7cf53_4 rfl (lv_at hl 1 rfl) ?_
  refine lv_iload_n hx hb dJ9_floorDiv_7cf53_5 rfl (lv_at hl 2 rfl) ?_
  refine lv_ixor hx hb dJ9_floorDiv_7cf53_6 ?_
  refine lv_if_ge (tgt := 21) hx hb dJ9_floorDiv_7cf53_7 (by decide) (fun c => ?_) (fun c => ?_)
  · have hf := g_pos c hf
    refine lv_iload_n hx hb dJ9_floorDiv_7cf53_21 rfl (lv_at hl 0 rfl) ?_
    exact q_iret hx hb hr hlocks hW hS hf dJ9_floorDiv_7cf53_22
  · have hf := g_neg c hf
    refine lv_iload_n hx hb dJ9_floorDiv_7cf53_10 rfl (lv_at hl 0 rfl) ?_
    refine lv_iload_n hx hb dJ9_floorDiv_7cf53_11 rfl (lv_at hl 2 rfl) ?_
    refine lv_imul hx hb dJ9_floorDiv_7cf53_12 ?_
    refine lv_iload_n hx hb dJ9_floorDiv_7cf53_13 rfl (lv_at hl 1 rfl) ?_
    refine lv_icmp_eq (tgt := 21) hx hb dJ9_floorDiv_7cf53_14 (by decide) (fun c => ?_) (fun c => ?_)
    · have hf := g_pos c hf
      refine lv_iload_n hx hb dJ9_floorDiv_7cf53_21 rfl (lv_at hl 0 rfl) ?_
      exact q_iret hx hb hr hlocks hW hS hf dJ9_floorDiv_7cf53_22
    · have hf := g_neg c hf
      refine lv_iload_n hx hb dJ9_floorDiv_7cf53_17 rfl (lv_at hl 0 rfl) ?_
      refine lv_iconst (v := 1) hx hb dJ9_floorDiv_7cf53_18 (by decide) ?_
      refine lv_isub hx hb dJ9_floorDiv_7cf53_19 ?_
      exact q_iret hx hb hr hlocks hW hS hf dJ9_floorDiv_7cf53_20
set_option maxRecDepth 100000 in
set_option maxHeartbeats 40000000 in
theorem k_J9_floorDiv_f86c9 (l : Launch) (z n : Nat) (D : va_G) (cy : Nat → ClassId) (Y : Yt) {a0 : Int64} {a2 : Int64} {σ : Mm} {r : Int64} {σ1 : Mm} (hf : f_J9_floorDiv_f86c9 Y a0 a2 σ = some (r, σ1)) : Kl l yJ9_floorDiv_f86c9 wsJ9_floorDiv_f86c9 ({ frames := 0, cells := 0, slots := 0, locals := 0 } : Room) z n D cy Y [.long a0, .long a2] σ r σ1 := by
  refine Met.ofJ (cc := cJ9_floorDiv_f86c9) (maxL := 6) (ret := (some .long)) (by decide +kernel) rfl ?_
  intro p e s m args below meth c s₁ B hml hv
  obtain ⟨rfl, hW, hK, hN⟩ := hv
  have hx := B.exec
  have hb := B.bytes
  have hr := B.returns
  have hts := atoms_spec (ws := wsJ9_floorDiv_f86c9) B.pre
  have hown : s.vm.findClass RJ9 = some m.cls := findClass_of_methodNamed B.named
  have hlocks := B.notSynchronized
  have hS : va_S (Az z) s.heap s.heap [] := va_S.rf
  have hl := lv_entry ([.long a0, .long a2]) (n := 6) (Nat.le_of_ble_eq_true rfl)
  rw [lg_entry_eq]
  generalize (lg_sl ([.long a0, .long a2]) ++ List.replicate (6 - (lg_sl ([.long a0, .long a2])).length) Slot.unset).toArray = ls at hl ⊢
  have hl : lv_has ls 6 [(0, .long a0), (2, .long a2)] := hl
  refine lv_lload_n hx hb dJ9_floorDiv_f86c9_0 rfl (lv_at hl 0 rfl) ?_
  refine lv_lload_n hx hb dJ9_floorDiv_f86c9_1 rfl (lv_at hl 1 rfl) ?_
  obtain ⟨hz_1, hf⟩ := g_ne hf
  refine lv_ldiv hx hb dJ9_floorDiv_f86c9_2 hz_1 ?_
  refine lv_topl (fun x4_2 ex4_2 => ?_)
  have hf := g_lt ex4_2 hf
  refine lv_lstore (lv' := [(4, .long x4_2), (0, .long a0), (2, .long a2)]) hx hb dJ9_floorDiv_f86c9_3 hl (by decide) rfl (fun ls hl => ?_)
  refine lv_lload_n hx hb dJ9_floorDiv_f86c9_5 rfl (lv_at hl 1 rfl) ?_
  refine lv_lload_n hx hb dJ9_floorDiv_f86c9_6 rfl (lv_at hl 2 rfl) ?_
  refine lv_lxor hx hb dJ9_floorDiv_f86c9_7 ?_
  refine lv_lconst (v := 0) hx hb dJ9_floorDiv_f86c9_8 (by decide) ?_
  refine W.lcmp hx hb dJ9_floorDiv_f86c9_9 ?_
  refine lv_if_ge (tgt := 27) hx hb dJ9_floorDiv_f86c9_10 (by decide) (fun c => ?_) (fun c => ?_)
  · have hf := g_pos ((lg_cmp_ge _ _).mp c) hf
    refine lv_lload hx hb dJ9_floorDiv_f86c9_27 (lv_at hl 0 rfl) ?_
    exact q_lret hx hb hr hlocks hW hS hf dJ9_floorDiv_f86c9_29
  · have hf := g_neg (fun h => c ((lg_cmp_ge _ _).mpr h)) hf
    refine lv_lload hx hb dJ9_floorDiv_f86c9_13 (lv_at hl 0 rfl) ?_
    refine lv_lload_n hx hb dJ9_floorDiv_f86c9_15 rfl (lv_at hl 2 rfl) ?_
    refine lv_lmul hx hb dJ9_floorDiv_f86c9_16 ?_
    refine lv_lload_n hx hb dJ9_floorDiv_f86c9_17 rfl (lv_at hl 1 rfl) ?_
    refine W.lcmp hx hb dJ9_floorDiv_f86c9_18 ?_
    refine lv_if_eq (tgt := 27) hx hb dJ9_floorDiv_f86c9_19 (by decide) (fun c => ?_) (fun c => ?_)
    · have hf := g_pos ((lg_cmp_eq _ _).mp c) hf
      refine lv_lload hx hb dJ9_floorDiv_f86c9_27 (lv_at hl 0 rfl) ?_
      exact q_lret hx hb hr hlocks hW hS hf dJ9_floorDiv_f86c9_29
    · have hf := g_neg (fun h => c ((lg_cmp_eq _ _).mpr h)) hf
      refine lv_lload hx hb dJ9_floorDiv_f86c9_22 (lv_at hl 0 rfl) ?_
      refine lv_lconst (v := 1) hx hb dJ9_floorDiv_f86c9_24 (by decide) ?_
      refine lv_lsub hx hb dJ9_floorDiv_f86c9_25 ?_
      exact q_lret hx hb hr hlocks hW hS hf dJ9_floorDiv_f86c9_26
set_option maxRecDepth 100000 in
set_option maxHeartbeats 40000000 in
theorem k_X1_floor (l : Launch) (z n : Nat) (D : va_G) (cy : Nat → ClassId) (Y : Yt) {a0 : Int64} {a2 : Int64} {σ : Mm} {r : Int64} {σ1 : Mm} (hf : f_X1_floor Y a0 a2 σ = some (r, σ1)) : Kl l yX1_floor wsX1_floor ({ frames := 1, cells := 0, slots := 0, locals := 60 } : Room) z n D cy Y [.long a0, .long a2] σ r σ1 := by
  refine Met.ofW (cc := cX1_floor) (maxL := 4) (ret := (some .long)) (by decide +kernel) rfl ?_
  intro p e s m args below meth c s₁ B hml hv
  obtain ⟨rfl, hW, hK, hN⟩ := hv
  have hx := B.exec
  have hb := B.bytes
  have hr := B.returns
  have hts := atoms_spec (ws := wsX1_floor) B.pre
  have hown : s.vm.findClass RX1 = some m.cls := findClass_of_methodNamed B.named
  have hlocks := B.notSynchronized
  have hS : va_S (Az z) s.heap s.heap [] := va_S.rf
  have hw0 := hts (.methodLink RX1 7 Lib.MathLoose.max_long.x) (List.mem_of_getElem? (i := 1) rfl)
  have hw1 := hts (.static Lib.MathLoose.max_long.x) (List.mem_of_getElem? (i := 2) rfl)
  have hw2 := hts (.initialized "java/lang/Math") (List.mem_of_getElem? (i := 3) rfl)
  have hw3 := hts (.code Lib.MathLoose.max_long.x Lib.MathLoose.max_long.code 4 (some .long)) (List.mem_of_getElem? (i := 4) rfl)
  have hl := lv_entry ([.long a0, .long a2]) (n := 4) (Nat.le_of_ble_eq_true rfl)
  rw [lg_entry_eq]
  generalize (lg_sl ([.long a0, .long a2]) ++ List.replicate (4 - (lg_sl ([.long a0, .long a2])).length) Slot.unset).toArray = ls at hl ⊢
  have hl : lv_has ls 4 [(0, .long a0), (2, .long a2)] := hl
  refine lv_lload_n hx hb dX1_floor_0 rfl (lv_at hl 0 rfl) ?_
  refine lv_lload_n hx hb dX1_floor_1 rfl (lv_at hl 1 rfl) ?_
  refine lv_lconst (v := 1) hx hb dX1_floor_2 (by decide) ?_
  refine va_mmax_long hx hb (by rw [hml]; exact hl.1.symm) hown hw0 hw1 hw2 hw3 (Nat.le_of_ble_eq_true rfl) (Nat.le_of_ble_eq_true rfl) (Nat.zero_le _) (Nat.zero_le _) dX1_floor_3 ?_
  obtain ⟨r_3, σ_2, hc_1, hf⟩ := g_bnd hf
  refine q_calll (va_runS (As := [.long a0, .long (if 1 < a2 then a2 else 1)]) (rest := []) ⟨hx, hb, hml, hown, hts⟩ (k_J9_floorDiv_f86c9 l z n D cy Y hc_1) (va_cwS 2 hts gX1_floor_J9_floorDiv_f86c9 rfl rfl rfl (by decide +kernel) ⟨Nat.le_of_ble_eq_true rfl, Nat.le_of_ble_eq_true rfl⟩) (q_PS hK hN hW) rfl rfl hl.1 rfl (lv_room (Nat.le_of_ble_eq_true rfl)) dX1_floor_6 ⟨Nat.le_refl _, Nat.le_refl _⟩) hS (fun H locs hW hS => ?_)
  exact q_lret hx hb hr hlocks hW hS hf dX1_floor_9
set_option maxRecDepth 100000 in
set_option maxHeartbeats 40000000 in
theorem k_X1_ceiling (l : Launch) (z n : Nat) (D : va_G) (cy : Nat → ClassId) (Y : Yt) {a0 : Int64} {a2 : Int64} {σ : Mm} {r : Int64} {σ1 : Mm} (hf : f_X1_ceiling Y a0 a2 σ = some (r, σ1)) : Kl l yX1_ceiling wsX1_ceiling ({ frames := 1, cells := 0, slots := 0, locals := 60 } : Room) z n D cy Y [.long a0, .long a2] σ r σ1 := by
  refine Met.ofW (cc := cX1_ceiling) (maxL := 4) (ret := (some .long)) (by decide +kernel) rfl ?_
  intro p e s m args below meth c s₁ B hml hv
  obtain ⟨rfl, hW, hK, hN⟩ := hv
  have hx := B.exec
  have hb := B.bytes
  have hr := B.returns
  have hts := atoms_spec (ws := wsX1_ceiling) B.pre
  have hown : s.vm.findClass RX1 = some m.cls := findClass_of_methodNamed B.named
  have hlocks := B.notSynchronized
  have hS : va_S (Az z) s.heap s.heap [] := va_S.rf
  have hw0 := hts (.methodLink RX1 7 Lib.MathLoose.max_long.x) (List.mem_of_getElem? (i := 1) rfl)
  have hw1 := hts (.static Lib.MathLoose.max_long.x) (List.mem_of_getElem? (i := 2) rfl)
  have hw2 := hts (.initialized "java/lang/Math") (List.mem_of_getElem? (i := 3) rfl)
  have hw3 := hts (.code Lib.MathLoose.max_long.x Lib.MathLoose.max_long.code 4 (some .long)) (List.mem_of_getElem? (i := 4) rfl)
  have hl := lv_entry ([.long a0, .long a2]) (n := 4) (Nat.le_of_ble_eq_true rfl)
  rw [lg_entry_eq]
  generalize (lg_sl ([.long a0, .long a2]) ++ List.replicate (4 - (lg_sl ([.long a0, .long a2])).length) Slot.unset).toArray = ls at hl ⊢
  have hl : lv_has ls 4 [(0, .long a0), (2, .long a2)] := hl
  refine lv_lload_n hx hb dX1_ceiling_0 rfl (lv_at hl 0 rfl) ?_
  refine lv_lneg hx hb dX1_ceiling_1 ?_
  refine lv_lload_n hx hb dX1_ceiling_2 rfl (lv_at hl 1 rfl) ?_
  refine lv_lconst (v := 1) hx hb dX1_ceiling_3 (by decide) ?_
  refine va_mmax_long hx hb (by rw [hml]; exact hl.1.symm) hown hw0 hw1 hw2 hw3 (Nat.le_of_ble_eq_true rfl) (Nat.le_of_ble_eq_true rfl) (Nat.zero_le _) (Nat.zero_le _) dX1_ceiling_4 ?_
  obtain ⟨r_3, σ_2, hc_1, hf⟩ := g_bnd hf
  refine q_calll (va_runS (As := [.long (-a0), .long (if 1 < a2 then a2 else 1)]) (rest := []) ⟨hx, hb, hml, hown, hts⟩ (k_J9_floorDiv_f86c9 l z n D cy Y hc_1) (va_cwS 2 hts gX1_ceiling_J9_floorDiv_f86c9 rfl rfl rfl (by decide +kernel) ⟨Nat.le_of_ble_eq_true rfl, Nat.le_of_ble_eq_true rfl⟩) (q_PS hK hN hW) rfl rfl hl.1 rfl (lv_room (Nat.le_of_ble_eq_true rfl)) dX1_ceiling_7 ⟨Nat.le_refl _, Nat.le_refl _⟩) hS (fun H locs hW hS => ?_)
  refine lv_lneg hx hb dX1_ceiling_10 ?_
  exact q_lret hx hb hr hlocks hW hS hf dX1_ceiling_11
set_option maxRecDepth 100000 in
set_option maxHeartbeats 40000000 in
theorem k_X1_isAtLeast (l : Launch) (z n : Nat) (D : va_G) (cy : Nat → ClassId) (Y : Yt) {a0 : Int64} {a2 : Int64} {a4 : Int64} {a6 : Int64} {σ : Mm} {r : Int32} {σ1 : Mm} (hf : f_X1_isAtLeast Y a0 a2 a4 a6 σ = some (r, σ1)) : Ki l yX1_isAtLeast wsX1_isAtLeast ({ frames := 2, cells := 0, slots := 0, locals := 83 } : Room) z n D cy Y [.long a0, .long a2, .long a4, .long a6] σ r σ1 := by
  refine Met.ofW (cc := cX1_isAtLeast) (maxL := 12) (ret := (some .boolean)) (by decide +kernel) rfl ?_
  intro p e s m args below meth c s₁ B hml hv
  obtain ⟨rfl, hW, hK, hN⟩ := hv
  have hx := B.exec
  have hb := B.bytes
  have hr := B.returns
  have hts := atoms_spec (ws := wsX1_isAtLeast) B.pre
  have hown : s.vm.findClass RX1 = some m.cls := findClass_of_methodNamed B.named
  have hlocks := B.notSynchronized
  have hS : va_S (Az z) s.heap s.heap [] := va_S.rf
  have hl := lv_entry ([.long a0, .long a2, .long a4, .long a6]) (n := 12) (Nat.le_of_ble_eq_true rfl)
  rw [lg_entry_eq]
  generalize (lg_sl ([.long a0, .long a2, .long a4, .long a6]) ++ List.replicate (12 - (lg_sl ([.long a0, .long a2, .long a4, .long a6])).length) Slot.unset).toArray = ls at hl ⊢
  have hl : lv_has ls 12 [(0, .long a0), (2, .long a2), (4, .long a4), (6, .long a6)] := hl
  refine lv_lload_n hx hb dX1_isAtLeast_0 rfl (lv_at hl 0 rfl) ?_
  refine lv_lload_n hx hb dX1_isAtLeast_1 rfl (lv_at hl 1 rfl) ?_
  obtain ⟨r_3, σ_2, hc_1, hf⟩ := g_bnd hf
  refine q_calll (va_runS (As := [.long a0, .long a2]) (rest := []) ⟨hx, hb, hml, hown, hts⟩ (k_X1_floor l z n D cy Y hc_1) (va_cwS 2 hts gX1_isAtLeast_X1_floor rfl rfl rfl (by decide +kernel) ⟨Nat.le_of_ble_eq_true rfl, Nat.le_of_ble_eq_true rfl⟩) (q_PS hK hN hW) rfl rfl hl.1 rfl (lv_room (Nat.le_of_ble_eq_true rfl)) dX1_isAtLeast_2 ⟨Nat.le_refl _, Nat.le_refl _⟩) hS (fun H locs hW hS => ?_)
  refine lv_lstore (lv' := [(8, .long r_3), (0, .long a0), (2, .long a2), (4, .long a4), (6, .long a6)]) hx hb dX1_isAtLeast_5 hl (by decide) rfl (fun ls hl => ?_)
  refine lv_lload hx hb dX1_isAtLeast_7 (lv_at hl 3 rfl) ?_
  refine lv_lload hx hb dX1_isAtLeast_9 (lv_at hl 4 rfl) ?_
  obtain ⟨r_6, σ_5, hc_4, hf⟩ := g_bnd hf
  refine q_calll (va_runS (As := [.long a4, .long a6]) (rest := []) ⟨hx, hb, hml, hown, hts⟩ (k_X1_floor l z n D cy Y hc_4) (va_cwS 2 hts gX1_isAtLeast_X1_floor rfl rfl rfl (by decide +kernel) ⟨Nat.le_of_ble_eq_true rfl, Nat.le_of_ble_eq_true rfl⟩) (q_PS hK hN hW) rfl rfl hl.1 rfl (lv_room (Nat.le_of_ble_eq_true rfl)) dX1_isAtLeast_11 ⟨Nat.le_refl _, Nat.le_refl _⟩) hS (fun H locs hW hS => ?_)
  refine lv_lstore (lv' := [(10, .long r_6), (8, .long r_3), (0, .long a0), (2, .long a2), (4, .long a4), (6, .long a6)]) hx hb dX1_isAtLeast_14 hl (by decide) rfl (fun ls hl => ?_)
  refine lv_lload hx hb dX1_isAtLeast_16 (lv_at hl 1 rfl) ?_
  refine lv_lload hx hb dX1_isAtLeast_18 (lv_at hl 0 rfl) ?_
  refine W.lcmp hx hb dX1_isAtLeast_20 ?_
  refine lv_if_eq (tgt := 38) hx hb dX1_isAtLeast_21 (by decide) (fun c => ?_) (fun c => ?_)
  · have hf := g_pos ((lg_cmp_eq _ _).mp c) hf
    refine lv_lload_n hx hb dX1_isAtLeast_38 rfl (lv_at hl 2 rfl) ?_
    refine lv_lload hx hb dX1_isAtLeast_39 (lv_at hl 1 rfl) ?_
    refine lv_lload_n hx hb dX1_isAtLeast_41 rfl (lv_at hl 3 rfl) ?_
    refine lv_lmul hx hb dX1_isAtLeast_42 ?_
    refine lv_lsub hx hb dX1_isAtLeast_43 ?_
    refine lv_lload hx hb dX1_isAtLeast_44 (lv_at hl 5 rfl) ?_
    refine lv_lmul hx hb dX1_isAtLeast_46 ?_
    refine lv_lload hx hb dX1_isAtLeast_47 (lv_at hl 4 rfl) ?_
    refine lv_lload hx hb dX1_isAtLeast_49 (lv_at hl 0 rfl) ?_
    refine lv_lload hx hb dX1_isAtLeast_51 (lv_at hl 5 rfl) ?_
    refine lv_lmul hx hb dX1_isAtLeast_53 ?_
    refine lv_lsub hx hb dX1_isAtLeast_54 ?_
    refine lv_lload_n hx hb dX1_isAtLeast_55 rfl (lv_at hl 3 rfl) ?_
    refine lv_lmul hx hb dX1_isAtLeast_56 ?_
    refine W.lcmp hx hb dX1_isAtLeast_57 ?_
    refine lv_if_lt (tgt := 65) hx hb dX1_isAtLeast_58 (by decide) (fun c => ?_) (fun c => ?_)
    · have hf := g_pos ((lg_cmp_lt _ _).mp c) hf
      refine lv_iconst (v := 0) hx hb dX1_isAtLeast_65 (by decide) ?_
      exact q_zret hx hb hr hlocks hW hS hf dX1_isAtLeast_66
    · have hf := g_neg (fun h => c ((lg_cmp_lt _ _).mpr h)) hf
      refine lv_iconst (v := 1) hx hb dX1_isAtLeast_61 (by decide) ?_
      refine lv_goto (tgt := 66) hx hb dX1_isAtLeast_62 (by decide) ?_
      exact q_zret hx hb hr hlocks hW hS hf dX1_isAtLeast_66
  · have hf := g_neg (fun h => c ((lg_cmp_eq _ _).mpr h)) hf
    refine lv_lload hx hb dX1_isAtLeast_24 (lv_at hl 1 rfl) ?_
    refine lv_lload hx hb dX1_isAtLeast_26 (lv_at hl 0 rfl) ?_
    refine W.lcmp hx hb dX1_isAtLeast_28 ?_
    refine lv_if_le (tgt := 36) hx hb dX1_isAtLeast_29 (by decide) (fun c => ?_) (fun c => ?_)
    · have hf := g_pos ((lg_cmp_le _ _).mp c) hf
      refine lv_iconst (v := 0) hx hb dX1_isAtLeast_36 (by decide) ?_
      exact q_zret hx hb hr hlocks hW hS hf dX1_isAtLeast_37
    · have hf := g_neg (fun h => c ((lg_cmp_le _ _).mpr h)) hf
      refine lv_iconst (v := 1) hx hb dX1_isAtLeast_32 (by decide) ?_
      refine lv_goto (tgt := 37) hx hb dX1_isAtLeast_33 (by decide) ?_
      exact q_zret hx hb hr hlocks hW hS hf dX1_isAtLeast_37
set_option maxRecDepth 100000 in
set_option maxHeartbeats 40000000 in
theorem k_X1_commonDivisor (l : Launch) (z n : Nat) (D : va_G) (cy : Nat → ClassId) (Y : Yt) {fu : Nat} {a0 : Int64} {a2 : Int64} {σ : Mm} {r : Int64} {σ1 : Mm} (hf : f_X1_commonDivisor Y fu a0 a2 σ = some (r, σ1)) : Kl l yX1_commonDivisor wsX1_commonDivisor ({ frames := 1, cells := 0, slots := 0, locals := 60 } : Room) z n D cy Y [.long a0, .long a2] σ r σ1 := by
  refine Met.ofW (cc := cX1_commonDivisor) (maxL := 11) (ret := (some .long)) (by decide +kernel) rfl ?_
  intro p e s m args below meth c s₁ B hml hv
  obtain ⟨rfl, hW, hK, hN⟩ := hv
  have hx := B.exec
  have hb := B.bytes
  have hr := B.returns
  have hts := atoms_spec (ws := wsX1_commonDivisor) B.pre
  have hown : s.vm.findClass RX1 = some m.cls := findClass_of_methodNamed B.named
  have hlocks := B.notSynchronized
  have hS : va_S (Az z) s.heap s.heap [] := va_S.rf
  have hw0 := hts (.methodLink RX1 21 Lib.MathLoose.abs_long.x) (List.mem_of_getElem? (i := 1) rfl)
  have hw1 := hts (.static Lib.MathLoose.abs_long.x) (List.mem_of_getElem? (i := 2) rfl)
  have hw2 := hts (.initialized "java/lang/Math") (List.mem_of_getElem? (i := 3) rfl)
  have hw3 := hts (.code Lib.MathLoose.abs_long.x Lib.MathLoose.abs_long.code 2 (some .long)) (List.mem_of_getElem? (i := 4) rfl)
  have hw4 := hts (.methodLink RX1 7 Lib.MathLoose.max_long.x) (List.mem_of_getElem? (i := 5) rfl)
  have hw5 := hts (.static Lib.MathLoose.max_long.x) (List.mem_of_getElem? (i := 6) rfl)
  have hw6 := hts (.code Lib.MathLoose.max_long.x Lib.MathLoose.max_long.code 4 (some .long)) (List.mem_of_getElem? (i := 7) rfl)
  have hl := lv_entry ([.long a0, .long a2]) (n := 11) (Nat.le_of_ble_eq_true rfl)
  rw [lg_entry_eq]
  generalize (lg_sl ([.long a0, .long a2]) ++ List.replicate (11 - (lg_sl ([.long a0, .long a2])).length) Slot.unset).toArray = ls at hl ⊢
  have hl : lv_has ls 11 [(0, .long a0), (2, .long a2)] := hl
  have B15 : ∀ (nn : Nat) (x4 : Int64) (x6 : Int64) (x8 : Int32) (σ : Mm), b_X1_commonDivisor_15 Y fu a0 a2 nn x4 x6 x8 σ = some (r, σ1) → ∀ (H : Heap) (locs : List Loc) (ls : Array Slot), WH z n D cy Y σ H → va_S (Az z) s.heap H locs → lv_has ls 11 [(0, .long a0), (2, .long a2), (4, .long x4), (6, .long x6), (8, .int x8)] → W p l e ({ frames := 1, cells := 0, slots := 0, locals := 60 } : Room) s m ([.long a0, .long a2] : List Value).toArray below meth c H locs 0 0 (MQ below (va_Ql (fun (x : Int64) (_ : Unit) => x = r) (fun _ t => WH z n D cy Y σ1 t.heap) (Az z)) ([.long a0, .long a2] : List Value).toArray s 0 0 (Az z)) (F0 m 15 ls []) := by
    intro nn
    induction nn with
    | zero =>
      intro x4 x6 x8 σ  hf
      have h9 : (none : Option (Int64 × Mm)) = some (r, σ1) := hf
      cases h9
    | succ nn H15 =>
      intro x4 x6 x8 σ  hf H locs ls hW hS hl
      have hf : s_X1_commonDivisor_15 Y fu a0 a2 (b_X1_commonDivisor_15 Y fu a0 a2 nn) x4 x6 x8 σ = some (r, σ1) := hf
      generalize hkk : b_X1_commonDivisor_15 Y fu a0 a2 nn = k15 at hf H15
      refine lv_iload hx hb dX1_commonDivisor_15 (lv_at hl 4 rfl) ?_
      refine lv_sipush (v := 200) hx hb dX1_commonDivisor_17 (by decide) ?_
      refine lv_icmp_ge (tgt := 51) hx hb dX1_commonDivisor_20 (by decide) (fun c => ?_) (fun c => ?_)
      · have hf := g_pos c hf
        refine lv_lload hx hb dX1_commonDivisor_51 (lv_at hl 2 rfl) ?_
        refine lv_lconst (v := 1) hx hb dX1_commonDivisor_53 (by decide) ?_
        refine va_mmax_long hx hb (by rw [hml]; exact hl.1.symm) hown hw4 hw5 hw2 hw6 (Nat.le_of_ble_eq_true rfl) (Nat.le_of_ble_eq_true rfl) (Nat.zero_le _) (Nat.zero_le _) dX1_commonDivisor_54 ?_
        exact q_lret hx hb hr hlocks hW hS hf dX1_commonDivisor_57
      · have hf := g_neg c hf
        refine lv_lload hx hb dX1_commonDivisor_23 (lv_at hl 3 rfl) ?_
        refine lv_lconst (v := 0) hx hb dX1_commonDivisor_25 (by decide) ?_
        refine W.lcmp hx hb dX1_commonDivisor_26 ?_
        refine lv_if_eq (tgt := 51) hx hb dX1_commonDivisor_27 (by decide) (fun c => ?_) (fun c => ?_)
        · have hf := g_pos ((lg_cmp_eq _ _).mp c) hf
          refine lv_lload hx hb dX1_commonDivisor_51 (lv_at hl 2 rfl) ?_
          refine lv_lconst (v := 1) hx hb dX1_commonDivisor_53 (by decide) ?_
          refine va_mmax_long hx hb (by rw [hml]; exact hl.1.symm) hown hw4 hw5 hw2 hw6 (Nat.le_of_ble_eq_true rfl) (Nat.le_of_ble_eq_true rfl) (Nat.zero_le _) (Nat.zero_le _) dX1_commonDivisor_54 ?_
          exact q_lret hx hb hr hlocks hW hS hf dX1_commonDivisor_57
        · have hf := g_neg (fun h => c ((lg_cmp_eq _ _).mpr h)) hf
          refine lv_lload hx hb dX1_commonDivisor_30 (lv_at hl 2 rfl) ?_
          refine lv_lload hx hb dX1_commonDivisor_32 (lv_at hl 3 rfl) ?_
          obtain ⟨hz_3, hf⟩ := g_ne hf
          refine lv_lrem hx hb dX1_commonDivisor_34 hz_3 ?_
          refine lv_topl (fun x9_4 ex9_4 => ?_)
          have hf := g_lt ex9_4 hf
          refine lv_lstore (lv' := [(9, .long x9_4), (0, .long a0), (2, .long a2), (4, .long x4), (6, .long x6), (8, .int x8)]) hx hb dX1_commonDivisor_35 hl (by decide) rfl (fun ls hl => ?_)
          refine lv_lload hx hb dX1_commonDivisor_37 (lv_at hl 4 rfl) ?_
          refine lv_lstore (lv' := [(4, .long x6), (9, .long x9_4), (0, .long a0), (2, .long a2), (6, .long x6), (8, .int x8)]) hx hb dX1_commonDivisor_39 hl (by decide) rfl (fun ls hl => ?_)
          refine lv_lload hx hb dX1_commonDivisor_41 (lv_at hl 1 rfl) ?_
          refine lv_lstore (lv' := [(6, .long x9_4), (4, .long x6), (9, .long x9_4), (0, .long a0), (2, .long a2), (8, .int x8)]) hx hb dX1_commonDivisor_43 hl (by decide) rfl (fun ls hl => ?_)
          obtain ⟨x8_5, ex8_5⟩ : ∃ y : Int32, y = x8 + 1 := ⟨_, rfl⟩
          have hf := g_lt ex8_5 hf
          refine lv_iinc (v := x8_5) (lv' := [(8, .int x8_5), (6, .long x9_4), (4, .long x6), (9, .long x9_4), (0, .long a0), (2, .long a2)]) hx hb dX1_commonDivisor_45 hl (k := 5) rfl (by rw [ex8_5]; rfl) (by decide) rfl (fun ls hl => ?_)
          refine lv_goto (tgt := 15) hx hb dX1_commonDivisor_48 (by decide) ?_
          exact H15 x6 x9_4 x8_5 σ hf _ _ _ hW hS (lv_sub hl [4, 5, 2, 1, 0] rfl)
  refine lv_lload_n hx hb dX1_commonDivisor_0 rfl (lv_at hl 0 rfl) ?_
  refine va_mabs_long hx hb (by rw [hml]; exact hl.1.symm) hown hw0 hw1 hw2 hw3 (Nat.le_of_ble_eq_true rfl) (Nat.le_of_ble_eq_true rfl) (Nat.zero_le _) (Nat.zero_le _) dX1_commonDivisor_1 ?_
  refine lv_topl (fun x4_1 ex4_1 => ?_)
  have hf := g_lt ex4_1 hf
  refine lv_lstore (lv' := [(4, .long x4_1), (0, .long a0), (2, .long a2)]) hx hb dX1_commonDivisor_4 hl (by decide) rfl (fun ls hl => ?_)
  refine lv_lload_n hx hb dX1_commonDivisor_6 rfl (lv_at hl 2 rfl) ?_
  refine va_mabs_long hx hb (by rw [hml]; exact hl.1.symm) hown hw0 hw1 hw2 hw3 (Nat.le_of_ble_eq_true rfl) (Nat.le_of_ble_eq_true rfl) (Nat.zero_le _) (Nat.zero_le _) dX1_commonDivisor_7 ?_
  refine lv_topl (fun x6_2 ex6_2 => ?_)
  have hf := g_lt ex6_2 hf
  refine lv_lstore (lv' := [(6, .long x6_2), (4, .long x4_1), (0, .long a0), (2, .long a2)]) hx hb dX1_commonDivisor_10 hl (by decide) rfl (fun ls hl => ?_)
  refine lv_iconst (v := 0) hx hb dX1_commonDivisor_12 (by decide) ?_
  refine lv_istore (lv' := [(8, .int 0), (6, .long x6_2), (4, .long x4_1), (0, .long a0), (2, .long a2)]) hx hb dX1_commonDivisor_13 hl (by decide) rfl (fun ls hl => ?_)
  exact B15 fu x4_1 x6_2 0 σ hf _ _ _ hW hS (lv_sub hl [3, 4, 2, 1, 0] rfl)
set_option maxRecDepth 100000 in
set_option maxHeartbeats 40000000 in
theorem k_X0_stands (l : Launch) (z n : Nat) (D : va_G) (cy : Nat → ClassId) (Y : Yt) {this : Nat} {σ : Mm} {r : Int32} {σ1 : Mm} (h_this : okk Y n 0 this) (hf : f_X0_stands Y this σ = some (r, σ1)) : Ki l yX0_stands wsX0_stands ({ frames := 0, cells := 0, slots := 0, locals := 0 } : Room) z n D cy Y [.ref (z + this)] σ r σ1 := by
  refine Met.ofW (cc := cX0_stands) (maxL := 1) (ret := (some .boolean)) (by decide +kernel) rfl ?_
  intro p e s m args below meth c s₁ B hml hv
  obtain ⟨rfl, hW, hK, hN⟩ := hv
  have hx := B.exec
  have hb := B.bytes
  have hr := B.returns
  have hts := atoms_spec (ws := wsX0_stands) B.pre
  have hown : s.vm.findClass RX0 = some m.cls := findClass_of_methodNamed B.named
  have hlocks := B.notSynchronized
  have hS : va_S (Az z) s.heap s.heap [] := va_S.rf
  have hin0 : ∀ w ∈ wsX00, w ∈ wsX0_stands := fun w h => List.mem_cons_of_mem _ (List.mem_append_right _ h)
  have hw0 := hts (.fieldLink RX0 41 "SkyClocks$Carried" "asked" "Z") (List.mem_of_getElem? (i := 1) rfl)
  have hw1 := hts (.fieldLink RX0 45 "SkyClocks$Carried" "spent" "Z") (List.mem_of_getElem? (i := 2) rfl)
  have hl := lv_entry ([.ref (z + this)]) (n := 1) (Nat.le_of_ble_eq_true rfl)
  rw [lg_entry_eq]
  generalize (lg_sl ([.ref (z + this)]) ++ List.replicate (1 - (lg_sl ([.ref (z + this)])).length) Slot.unset).toArray = ls at hl ⊢
  have hl : lv_has ls 1 [(0, .ref (z + this))] := hl
  refine lv_aload_n hx hb dX0_stands_0 rfl (lv_at hl 0 rfl) ?_
  refine q_geti (own := RX0) (ref := RX0) (C := RX0) (T := TX0) (N := 13) (kc := 0) (ci := 0) hx hb hts hin0 hown hK hW h_this (by decide) rfl 0 (by decide) hw0 rfl rfl dX0_stands_1 ?_
  refine lv_if_eq (tgt := 18) hx hb dX0_stands_4 (by decide) (fun c => ?_) (fun c => ?_)
  · have hf := g_pos c hf
    refine lv_iconst (v := 0) hx hb dX0_stands_18 (by decide) ?_
    exact q_zret hx hb hr hlocks hW hS hf dX0_stands_19
  · have hf := g_neg c hf
    refine lv_aload_n hx hb dX0_stands_7 rfl (lv_at hl 0 rfl) ?_
    refine q_geti (own := RX0) (ref := RX0) (C := RX0) (T := TX0) (N := 13) (kc := 0) (ci := 0) hx hb hts hin0 hown hK hW h_this (by decide) rfl 1 (by decide) hw1 rfl rfl dX0_stands_8 ?_
    refine lv_if_ne (tgt := 18) hx hb dX0_stands_11 (by decide) (fun c => ?_) (fun c => ?_)
    · have hf := g_neg c hf
      refine lv_iconst (v := 0) hx hb dX0_stands_18 (by decide) ?_
      exact q_zret hx hb hr hlocks hW hS hf dX0_stands_19
    · have hf := g_pos c hf
      refine lv_iconst (v := 1) hx hb dX0_stands_14 (by decide) ?_
      refine lv_goto (tgt := 19) hx hb dX0_stands_15 (by decide) ?_
      exact q_zret hx hb hr hlocks hW hS hf dX0_stands_19
set_option maxRecDepth 100000 in
set_option maxHeartbeats 40000000 in
theorem k_X0_begin (l : Launch) (z n : Nat) (D : va_G) (cy : Nat → ClassId) (Y : Yt) {this : Nat} {a1 : Int32} {σ : Mm} {σ1 : Mm} (h_this : okk Y n 0 this) (hf : f_X0_begin Y this a1 σ = some σ1) : Kv l yX0_begin wsX0_begin ({ frames := 0, cells := 0, slots := 0, locals := 0 } : Room) z n D cy Y [.ref (z + this), .int a1] σ σ1 := by
  refine Met.ofW (cc := cX0_begin) (maxL := 2) (ret := none) (by decide +kernel) rfl ?_
  intro p e s m args below meth c s₁ B hml hv
  obtain ⟨rfl, hW, hK, hN⟩ := hv
  have hx := B.exec
  have hb := B.bytes
  have hr := B.returns
  have hts := atoms_spec (ws := wsX0_begin) B.pre
  have hown : s.vm.findClass RX0 = some m.cls := findClass_of_methodNamed B.named
  have hlocks := B.notSynchronized
  have hS : va_S (Az z) s.heap s.heap [] := va_S.rf
  have hin0 : ∀ w ∈ wsX00, w ∈ wsX0_begin := fun w h => List.mem_cons_of_mem _ (List.mem_append_right _ h)
  have hw0 := hts (.fieldLink RX0 41 "SkyClocks$Carried" "asked" "Z") (List.mem_of_getElem? (i := 1) rfl)
  have hw1 := hts (.fieldLink RX0 45 "SkyClocks$Carried" "spent" "Z") (List.mem_of_getElem? (i := 2) rfl)
  have hw2 := hts (.fieldLink RX0 48 "SkyClocks$Carried" "arrivals" "I") (List.mem_of_getElem? (i := 3) rfl)
  have hw3 := hts (.fieldLink RX0 52 "SkyClocks$Carried" "found" "I") (List.mem_of_getElem? (i := 4) rfl)
  have hw4 := hts (.fieldLink RX0 55 "SkyClocks$Carried" "tried" "I") (List.mem_of_getElem? (i := 5) rfl)
  have hl := lv_entry ([.ref (z + this), .int a1]) (n := 2) (Nat.le_of_ble_eq_true rfl)
  rw [lg_entry_eq]
  generalize (lg_sl ([.ref (z + this), .int a1]) ++ List.replicate (2 - (lg_sl ([.ref (z + this), .int a1])).length) Slot.unset).toArray = ls at hl ⊢
  have hl : lv_has ls 2 [(0, .ref (z + this)), (1, .int a1)] := hl
  refine lv_aload_n hx hb dX0_begin_0 rfl (lv_at hl 0 rfl) ?_
  refine lv_iconst (v := 1) hx hb dX0_begin_1 (by decide) ?_
  refine q_puti (own := RX0) (ref := RX0) (C := RX0) (T := TX0) (N := 13) (kc := 0) (ci := 0) hx hb hts hin0 tyX0_ok nmX0 hown hK hW hS h_this (by decide) rfl 0 (by decide) hw0 rfl rfl (ty := .boolean) (tyX0_ok 0 (by decide)) rfl rfl rfl dX0_begin_2 (fun H locs hW hS => ?_)
  obtain ⟨σ_1, eσ_1⟩ : ∃ y : Mm, y = (Mm.si σ this 0 1) := ⟨_, rfl⟩
  rw [← eσ_1] at hW
  have hf := g_lt eσ_1 hf
  refine lv_aload_n hx hb dX0_begin_5 rfl (lv_at hl 0 rfl) ?_
  refine lv_iconst (v := 0) hx hb dX0_begin_6 (by decide) ?_
  refine q_puti (own := RX0) (ref := RX0) (C := RX0) (T := TX0) (N := 13) (kc := 0) (ci := 0) hx hb hts hin0 tyX0_ok nmX0 hown hK hW hS h_this (by decide) rfl 1 (by decide) hw1 rfl rfl (ty := .boolean) (tyX0_ok 1 (by decide)) rfl rfl rfl dX0_begin_7 (fun H locs hW hS => ?_)
  obtain ⟨σ_2, eσ_2⟩ : ∃ y : Mm, y = (Mm.si σ_1 this 1 0) := ⟨_, rfl⟩
  rw [← eσ_2] at hW
  have hf := g_lt eσ_2 hf
  refine lv_aload_n hx hb dX0_begin_10 rfl (lv_at hl 0 rfl) ?_
  refine lv_iload_n hx hb dX0_begin_11 rfl (lv_at hl 1 rfl) ?_
  refine q_puti (own := RX0) (ref := RX0) (C := RX0) (T := TX0) (N := 13) (kc := 0) (ci := 0) hx hb hts hin0 tyX0_ok nmX0 hown hK hW hS h_this (by decide) rfl 2 (by decide) hw2 rfl rfl (ty := .int) (tyX0_ok 2 (by decide)) rfl rfl rfl dX0_begin_12 (fun H locs hW hS => ?_)
  obtain ⟨σ_3, eσ_3⟩ : ∃ y : Mm, y = (Mm.si σ_2 this 2 a1) := ⟨_, rfl⟩
  rw [← eσ_3] at hW
  have hf := g_lt eσ_3 hf
  refine lv_aload_n hx hb dX0_begin_15 rfl (lv_at hl 0 rfl) ?_
  refine lv_iconst (v := 0) hx hb dX0_begin_16 (by decide) ?_
  refine q_puti (own := RX0) (ref := RX0) (C := RX0) (T := TX0) (N := 13) (kc := 0) (ci := 0) hx hb hts hin0 tyX0_ok nmX0 hown hK hW hS h_this (by decide) rfl 3 (by decide) hw3 rfl rfl (ty := .int) (tyX0_ok 3 (by decide)) rfl rfl rfl dX0_begin_17 (fun H locs hW hS => ?_)
  obtain ⟨σ_4, eσ_4⟩ : ∃ y : Mm, y = (Mm.si σ_3 this 3 0) := ⟨_, rfl⟩
  rw [← eσ_4] at hW
  have hf := g_lt eσ_4 hf
  refine lv_aload_n hx hb dX0_begin_20 rfl (lv_at hl 0 rfl) ?_
  refine lv_iconst (v := 0) hx hb dX0_begin_21 (by decide) ?_
  refine q_puti (own := RX0) (ref := RX0) (C := RX0) (T := TX0) (N := 13) (kc := 0) (ci := 0) hx hb hts hin0 tyX0_ok nmX0 hown hK hW hS h_this (by decide) rfl 4 (by decide) hw4 rfl rfl (ty := .int) (tyX0_ok 4 (by decide)) rfl rfl rfl dX0_begin_22 (fun H locs hW hS => ?_)
  obtain ⟨σ_5, eσ_5⟩ : ∃ y : Mm, y = (Mm.si σ_4 this 4 0) := ⟨_, rfl⟩
  rw [← eσ_5] at hW
  have hf := g_lt eσ_5 hf
  exact q_vret hx hb hr hlocks hW hS hf dX0_begin_25
set_option maxRecDepth 100000 in
set_option maxHeartbeats 40000000 in
theorem k_X0_put (l : Launch) (z n : Nat) (D : va_G) (cy : Nat → ClassId) (Y : Yt) {this : Nat} {a1 : Int32} {a2 : Int32} {a3 : Int32} {σ : Mm} {σ1 : Mm} (h_this : okk Y n 0 this) (hf : f_X0_put Y this a1 a2 a3 σ = some σ1) : Kv l yX0_put wsX0_put ({ frames := 0, cells := 0, slots := 0, locals := 0 } : Room) z n D cy Y [.ref (z + this), .int a1, .int a2, .int a3] σ σ1 := by
  refine Met.ofW (cc := cX0_put) (maxL := 4) (ret := none) (by decide +kernel) rfl ?_
  intro p e s m args below meth c s₁ B hml hv
  obtain ⟨rfl, hW, hK, hN⟩ := hv
  have hx := B.exec
  have hb := B.bytes
  have hr := B.returns
  have hts := atoms_spec (ws := wsX0_put) B.pre
  have hown : s.vm.findClass RX0 = some m.cls := findClass_of_methodNamed B.named
  have hlocks := B.notSynchronized
  have hS : va_S (Az z) s.heap s.heap [] := va_S.rf
  have hin0 : ∀ w ∈ wsX00, w ∈ wsX0_put := fun w h => List.mem_cons_of_mem _ (List.mem_append_right _ h)
  have hw0 := hts (.fieldLink RX0 9 "SkyClocks$Carried" "times" "[I") (List.mem_of_getElem? (i := 1) rfl)
  have hw1 := hts (.fieldLink RX0 15 "SkyClocks$Carried" "errs" "[I") (List.mem_of_getElem? (i := 2) rfl)
  have hl := lv_entry ([.ref (z + this), .int a1, .int a2, .int a3]) (n := 4) (Nat.le_of_ble_eq_true rfl)
  rw [lg_entry_eq]
  generalize (lg_sl ([.ref (z + this), .int a1, .int a2, .int a3]) ++ List.replicate (4 - (lg_sl ([.ref (z + this), .int a1, .int a2, .int a3])).length) Slot.unset).toArray = ls at hl ⊢
  have hl : lv_has ls 4 [(0, .ref (z + this)), (1, .int a1), (2, .int a2), (3, .int a3)] := hl
  refine lv_aload_n hx hb dX0_put_0 rfl (lv_at hl 0 rfl) ?_
  refine q_getp (own := RX0) (ref := RX0) (C := RX0) (T := TX0) (N := 13) (kc := 0) (ci := 0) hx hb hts hin0 hown hK hW h_this (by decide) rfl 5 (by decide) hw0 rfl rfl rfl (v := 18) rfl dX0_put_1 (fun hk_1 hq_2 => ?_)
  refine lv_iload_n hx hb dX0_put_4 rfl (lv_at hl 1 rfl) ?_
  refine lv_iload_n hx hb dX0_put_5 rfl (lv_at hl 2 rfl) ?_
  obtain ⟨hi_3, hf⟩ := g_in hf
  refine q_iast hx hb hK hW hS hk_1 (inb_of hq_2 hi_3) dX0_put_6 (fun H locs hW hS => ?_)
  obtain ⟨σ_4, eσ_4⟩ : ∃ y : Mm, y = (Mm.si σ 18 (ix a1) a2) := ⟨_, rfl⟩
  rw [← eσ_4] at hW
  have hf := g_lt eσ_4 hf
  refine lv_aload_n hx hb dX0_put_7 rfl (lv_at hl 0 rfl) ?_
  refine q_getp (own := RX0) (ref := RX0) (C := RX0) (T := TX0) (N := 13) (kc := 0) (ci := 0) hx hb hts hin0 hown hK hW h_this (by decide) rfl 6 (by decide) hw1 rfl rfl rfl (v := 19) rfl dX0_put_8 (fun hk_5 hq_6 => ?_)
  refine lv_iload_n hx hb dX0_put_11 rfl (lv_at hl 1 rfl) ?_
  refine lv_iload_n hx hb dX0_put_12 rfl (lv_at hl 3 rfl) ?_
  obtain ⟨hi_7, hf⟩ := g_in hf
  refine q_iast hx hb hK hW hS hk_5 (inb_of hq_6 hi_7) dX0_put_13 (fun H locs hW hS => ?_)
  obtain ⟨σ_8, eσ_8⟩ : ∃ y : Mm, y = (Mm.si σ_4 19 (ix a1) a3) := ⟨_, rfl⟩
  rw [← eσ_8] at hW
  have hf := g_lt eσ_8 hf
  exact q_vret hx hb hr hlocks hW hS hf dX0_put_14
set_option maxRecDepth 100000 in
set_option maxHeartbeats 40000000 in
theorem k_X5_copy (l : Launch) (z n : Nat) (D : va_G) (cy : Nat → ClassId) (Y : Yt) {this : Nat} {a1 : Nat} {σ : Mm} {σ1 : Mm} (h_this : okk Y n 3 this) (h_a1 : okk Y n 3 a1) (hf : f_X5_copy Y this a1 σ = some σ1) : Kv l yX5_copy wsX5_copy ({ frames := 0, cells := 0, slots := 0, locals := 0 } : Room) z n D cy Y [.ref (z + this), .ref (z + a1)] σ σ1 := by
  refine Met.ofW (cc := cX5_copy) (maxL := 2) (ret := none) (by decide +kernel) rfl ?_
  intro p e s m args below meth c s₁ B hml hv
  obtain ⟨rfl, hW, hK, hN⟩ := hv
  have hx := B.exec
  have hb := B.bytes
  have hr := B.returns
  have hts := atoms_spec (ws := wsX5_copy) B.pre
  have hown : s.vm.findClass RX5 = some m.cls := findClass_of_methodNamed B.named
  have hlocks := B.notSynchronized
  have hS : va_S (Az z) s.heap s.heap [] := va_S.rf
  have hin5 : ∀ w ∈ wsX50, w ∈ wsX5_copy := fun w h => List.mem_cons_of_mem _ (List.mem_append_right _ h)
  have hw0 := hts (.fieldLink RX5 7 "SkyClocks$Periods" "lowAbove" "J") (List.mem_of_getElem? (i := 1) rfl)
  have hw1 := hts (.fieldLink RX5 13 "SkyClocks$Periods" "lowBelow" "J") (List.mem_of_getElem? (i := 2) rfl)
  have hw2 := hts (.fieldLink RX5 16 "SkyClocks$Periods" "highAbove" "J") (List.mem_of_getElem? (i := 3) rfl)
  have hw3 := hts (.fieldLink RX5 19 "SkyClocks$Periods" "highBelow" "J") (List.mem_of_getElem? (i := 4) rfl)
  have hl := lv_entry ([.ref (z + this), .ref (z + a1)]) (n := 2) (Nat.le_of_ble_eq_true rfl)
  rw [lg_entry_eq]
  generalize (lg_sl ([.ref (z + this), .ref (z + a1)]) ++ List.replicate (2 - (lg_sl ([.ref (z + this), .ref (z + a1)])).length) Slot.unset).toArray = ls at hl ⊢
  have hl : lv_has ls 2 [(0, .ref (z + this)), (1, .ref (z + a1))] := hl
  refine lv_aload_n hx hb dX5_copy_0 rfl (lv_at hl 0 rfl) ?_
  refine lv_aload_n hx hb dX5_copy_1 rfl (lv_at hl 1 rfl) ?_
  refine q_getl (own := RX5) (ref := RX5) (C := RX5) (T := TX5) (N := 4) (kc := 3) (ci := 0) hx hb hts hin5 hown hK hW h_a1 (by decide) rfl 0 (by decide) hw0 rfl rfl dX5_copy_2 ?_
  refine q_putl (own := RX5) (ref := RX5) (C := RX5) (T := TX5) (N := 4) (kc := 3) (ci := 0) hx hb hts hin5 tyX5_ok nmX5 hown hK hW hS h_this (by decide) rfl 0 (by decide) hw0 rfl rfl (tyX5_ok 0 (by decide)) rfl dX5_copy_5 (fun H locs hW hS => ?_)
  obtain ⟨σ_1, eσ_1⟩ : ∃ y : Mm, y = (Mm.sl σ this 0 (Mm.gl σ a1 0)) := ⟨_, rfl⟩
  rw [← eσ_1] at hW
  have hf := g_lt eσ_1 hf
  refine lv_aload_n hx hb dX5_copy_8 rfl (lv_at hl 0 rfl) ?_
  refine lv_aload_n hx hb dX5_copy_9 rfl (lv_at hl 1 rfl) ?_
  refine q_getl (own := RX5) (ref := RX5) (C := RX5) (T := TX5) (N := 4) (kc := 3) (ci := 0) hx hb hts hin5 hown hK hW h_a1 (by decide) rfl 1 (by decide) hw1 rfl rfl dX5_copy_10 ?_
  refine q_putl (own := RX5) (ref := RX5) (C := RX5) (T := TX5) (N := 4) (kc := 3) (ci := 0) hx hb hts hin5 tyX5_ok nmX5 hown hK hW hS h_this (by decide) rfl 1 (by decide) hw1 rfl rfl (tyX5_ok 1 (by decide)) rfl dX5_copy_13 (fun H locs hW hS => ?_)
  obtain ⟨σ_2, eσ_2⟩ : ∃ y : Mm, y = (Mm.sl σ_1 this 1 (Mm.gl σ_1 a1 1)) := ⟨_, rfl⟩
  rw [← eσ_2] at hW
  have hf := g_lt eσ_2 hf
  refine lv_aload_n hx hb dX5_copy_16 rfl (lv_at hl 0 rfl) ?_
  refine lv_aload_n hx hb dX5_copy_17 rfl (lv_at hl 1 rfl) ?_
  refine q_getl (own := RX5) (ref := RX5) (C := RX5) (T := TX5) (N := 4) (kc := 3) (ci := 0) hx hb hts hin5 hown hK hW h_a1 (by decide) rfl 2 (by decide) hw2 rfl rfl dX5_copy_18 ?_
  refine q_putl (own := RX5) (ref := RX5) (C := RX5) (T := TX5) (N := 4) (kc := 3) (ci := 0) hx hb hts hin5 tyX5_ok nmX5 hown hK hW hS h_this (by decide) rfl 2 (by decide) hw2 rfl rfl (tyX5_ok 2 (by decide)) rfl dX5_copy_21 (fun H locs hW hS => ?_)
  obtain ⟨σ_3, eσ_3⟩ : ∃ y : Mm, y = (Mm.sl σ_2 this 2 (Mm.gl σ_2 a1 2)) := ⟨_, rfl⟩
  rw [← eσ_3] at hW
  have hf := g_lt eσ_3 hf
  refine lv_aload_n hx hb dX5_copy_24 rfl (lv_at hl 0 rfl) ?_
  refine lv_aload_n hx hb dX5_copy_25 rfl (lv_at hl 1 rfl) ?_
  refine q_getl (own := RX5) (ref := RX5) (C := RX5) (T := TX5) (N := 4) (kc := 3) (ci := 0) hx hb hts hin5 hown hK hW h_a1 (by decide) rfl 3 (by decide) hw3 rfl rfl dX5_copy_26 ?_
  refine q_putl (own := RX5) (ref := RX5) (C := RX5) (T := TX5) (N := 4) (kc := 3) (ci := 0) hx hb hts hin5 tyX5_ok nmX5 hown hK hW hS h_this (by decide) rfl 3 (by decide) hw3 rfl rfl (tyX5_ok 3 (by decide)) rfl dX5_copy_29 (fun H locs hW hS => ?_)
  obtain ⟨σ_4, eσ_4⟩ : ∃ y : Mm, y = (Mm.sl σ_3 this 3 (Mm.gl σ_3 a1 3)) := ⟨_, rfl⟩
  rw [← eσ_4] at hW
  have hf := g_lt eσ_4 hf
  exact q_vret hx hb hr hlocks hW hS hf dX5_copy_32
set_option maxRecDepth 100000 in
set_option maxHeartbeats 40000000 in
theorem k_X0_keep (l : Launch) (z n : Nat) (D : va_G) (cy : Nat → ClassId) (Y : Yt) {this : Nat} {σ : Mm} {σ1 : Mm} (h_this : okk Y n 0 this) (hf : f_X0_keep Y this σ = some σ1) : Kv l yX0_keep wsX0_keep ({ frames := 1, cells := 0, slots := 0, locals := 60 } : Room) z n D cy Y [.ref (z + this)] σ σ1 := by
  refine Met.ofW (cc := cX0_keep) (maxL := 1) (ret := none) (by decide +kernel) rfl ?_
  intro p e s m args below meth c s₁ B hml hv
  obtain ⟨rfl, hW, hK, hN⟩ := hv
  have hx := B.exec
  have hb := B.bytes
  have hr := B.returns
  have hts := atoms_spec (ws := wsX0_keep) B.pre
  have hown : s.vm.findClass RX0 = some m.cls := findClass_of_methodNamed B.named
  have hlocks := B.notSynchronized
  have hS : va_S (Az z) s.heap s.heap [] := va_S.rf
  have hin0 : ∀ w ∈ wsX00, w ∈ wsX0_keep := fun w h => List.mem_cons_of_mem _ (List.mem_append_left _ (List.mem_append_right _ h))
  have hw0 := hts (.fieldLink RX0 52 "SkyClocks$Carried" "found" "I") (List.mem_of_getElem? (i := 1) rfl)
  have hw1 := hts (.fieldLink RX0 18 "SkyClocks$Carried" "row" "[I") (List.mem_of_getElem? (i := 3) rfl)
  have hw2 := hts (.fieldLink RX0 34 "SkyClocks$Carried" "counts" "[I") (List.mem_of_getElem? (i := 4) rfl)
  have hw3 := hts (.fieldLink RX0 48 "SkyClocks$Carried" "arrivals" "I") (List.mem_of_getElem? (i := 5) rfl)
  have hw4 := hts (.methodLink RX0 98 arraycopyName) (List.mem_of_getElem? (i := 6) rfl)
  have hw5 := hts (.native arraycopyName) (List.mem_of_getElem? (i := 7) rfl)
  have hw6 := hts (.static arraycopyName) (List.mem_of_getElem? (i := 8) rfl)
  have hw7 := hts (.initialized "java/lang/System") (List.mem_of_getElem? (i := 9) rfl)
  have hw8 := hts (.fieldLink RX0 37 "SkyClocks$Carried" "periods" "[LSkyClocks$Periods;") (List.mem_of_getElem? (i := 10) rfl)
  have hw9 := hts (.fieldLink RX0 30 "SkyClocks$Carried" "allowed" "[LSkyClocks$Periods;") (List.mem_of_getElem? (i := 11) rfl)
  have hw10 := hts (.fieldLink RX0 45 "SkyClocks$Carried" "spent" "Z") (List.mem_of_getElem? (i := 2) rfl)
  have hl := lv_entry ([.ref (z + this)]) (n := 1) (Nat.le_of_ble_eq_true rfl)
  rw [lg_entry_eq]
  generalize (lg_sl ([.ref (z + this)]) ++ List.replicate (1 - (lg_sl ([.ref (z + this)])).length) Slot.unset).toArray = ls at hl ⊢
  have hl : lv_has ls 1 [(0, .ref (z + this))] := hl
  refine lv_aload_n hx hb dX0_keep_0 rfl (lv_at hl 0 rfl) ?_
  refine q_geti (own := RX0) (ref := RX0) (C := RX0) (T := TX0) (N := 13) (kc := 0) (ci := 0) hx hb hts hin0 hown hK hW h_this (by decide) rfl 3 (by decide) hw0 rfl rfl dX0_keep_1 ?_
  refine lv_sipush (v := 500) hx hb dX0_keep_4 (by decide) ?_
  refine lv_icmp_lt (tgt := 16) hx hb dX0_keep_7 (by decide) (fun c => ?_) (fun c => ?_)
  · have hf := g_pos c hf
    refine lv_aload_n hx hb dX0_keep_16 rfl (lv_at hl 0 rfl) ?_
    refine q_getp (own := RX0) (ref := RX0) (C := RX0) (T := TX0) (N := 13) (kc := 0) (ci := 0) hx hb hts hin0 hown hK hW h_this (by decide) rfl 7 (by decide) hw1 rfl rfl rfl (v := 20) rfl dX0_keep_17 (fun hk_1 hq_2 => ?_)
    refine lv_iconst (v := 0) hx hb dX0_keep_20 (by decide) ?_
    refine lv_aload_n hx hb dX0_keep_21 rfl (lv_at hl 0 rfl) ?_
    refine q_getp (own := RX0) (ref := RX0) (C := RX0) (T := TX0) (N := 13) (kc := 0) (ci := 0) hx hb hts hin0 hown hK hW h_this (by decide) rfl 11 (by decide) hw2 rfl rfl rfl (v := 24) rfl dX0_keep_22 (fun hk_3 hq_4 => ?_)
    refine lv_aload_n hx hb dX0_keep_25 rfl (lv_at hl 0 rfl) ?_
    refine q_geti (own := RX0) (ref := RX0) (C := RX0) (T := TX0) (N := 13) (kc := 0) (ci := 0) hx hb hts hin0 hown hK hW h_this (by decide) rfl 3 (by decide) hw0 rfl rfl dX0_keep_26 ?_
    refine lv_bipush (v := 24) hx hb dX0_keep_29 (by decide) ?_
    refine lv_imul hx hb dX0_keep_31 ?_
    refine lv_aload_n hx hb dX0_keep_32 rfl (lv_at hl 0 rfl) ?_
    refine q_geti (own := RX0) (ref := RX0) (C := RX0) (T := TX0) (N := 13) (kc := 0) (ci := 0) hx hb hts hin0 hown hK hW h_this (by decide) rfl 2 (by decide) hw3 rfl rfl dX0_keep_33 ?_
    obtain ⟨⟨hc_5, hc_6, hc_7, hc_8, hc_9⟩, hf⟩ := g_if hf
    refine q_copy hx hb (by rw [hml]; exact hl.1.symm) hown hw4 hw5 hw6 hw7 hK hW hS hk_1 hk_3 hc_5 hc_6 hc_7 (le_of hq_2 hc_8) (le_of hq_4 hc_9) (Nat.le_of_ble_eq_true rfl) (Nat.le_of_ble_eq_true rfl) dX0_keep_36 (fun H locs hW hS => ?_)
    obtain ⟨σ_10, eσ_10⟩ : ∃ y : Mm, y = (Mm.cp σ 20 (ix 0) 24 (ix ((Mm.gi σ this 3) * 24)) (ix (Mm.gi σ this 2))) := ⟨_, rfl⟩
    rw [← eσ_10] at hW
    have hf := g_lt eσ_10 hf
    refine lv_aload_n hx hb dX0_keep_39 rfl (lv_at hl 0 rfl) ?_
    refine q_getp (own := RX0) (ref := RX0) (C := RX0) (T := TX0) (N := 13) (kc := 0) (ci := 0) hx hb hts hin0 hown hK hW h_this (by decide) rfl 12 (by decide) hw8 rfl rfl rfl (v := 25) rfl dX0_keep_40 (fun hk_11 hq_12 => ?_)
    refine lv_aload_n hx hb dX0_keep_43 rfl (lv_at hl 0 rfl) ?_
    refine q_geti (own := RX0) (ref := RX0) (C := RX0) (T := TX0) (N := 13) (kc := 0) (ci := 0) hx hb hts hin0 hown hK hW h_this (by decide) rfl 3 (by decide) hw0 rfl rfl dX0_keep_44 ?_
    obtain ⟨hi_13, hf⟩ := g_in hf
    refine q_aalp (kc := 13) (t := 3) hx hb hK hW hk_11 rfl (inb_of hq_12 hi_13) rfl dX0_keep_47 (fun hk_14 hq_15 => ?_)
    refine lv_aload_n hx hb dX0_keep_48 rfl (lv_at hl 0 rfl) ?_
    refine q_getp (own := RX0) (ref := RX0) (C := RX0) (T := TX0) (N := 13) (kc := 0) (ci := 0) hx hb hts hin0 hown hK hW h_this (by decide) rfl 10 (by decide) hw9 rfl rfl rfl (v := 23) rfl dX0_keep_49 (fun hk_16 hq_17 => ?_)
    refine lv_aload_n hx hb dX0_keep_52 rfl (lv_at hl 0 rfl) ?_
    refine q_geti (own := RX0) (ref := RX0) (C := RX0) (T := TX0) (N := 13) (kc := 0) (ci := 0) hx hb hts hin0 hown hK hW h_this (by decide) rfl 2 (by decide) hw3 rfl rfl dX0_keep_53 ?_
    refine lv_iconst (v := 1) hx hb dX0_keep_56 (by decide) ?_
    refine lv_isub hx hb dX0_keep_57 ?_
    obtain ⟨hi_18, hf⟩ := g_in hf
    refine q_aalp (kc := 13) (t := 3) hx hb hK hW hk_16 rfl (inb_of hq_17 hi_18) rfl dX0_keep_58 (fun hk_19 hq_20 => ?_)
    obtain ⟨σ_22, hc_21, hf⟩ := g_bn1 hf
    refine q_callv (va_runV (As := [.ref (z + (26 + 1 * ix ((Mm.gi σ_10 this 2) - 1)))]) (rest := []) ⟨hx, hb, hml, hown, hts⟩ (k_X5_copy l z n D cy Y hk_14 hk_19 hc_21) (cwV 1 hts gX0_keep_X5_copy rfl rfl rfl (by decide +kernel) ⟨Nat.le_of_ble_eq_true rfl, Nat.le_of_ble_eq_true rfl⟩) (q_PV (T := TX5) (N := 4) hK hN hW hk_14 (by decide) rfl) rfl rfl hl.1 rfl (lv_room (Nat.le_of_ble_eq_true rfl)) dX0_keep_59 ⟨Nat.le_refl _, Nat.le_refl _⟩) hS (fun H locs hW hS => ?_)
    refine lv_aload_n hx hb dX0_keep_62 rfl (lv_at hl 0 rfl) ?_
    refine lv_dup hx hb dX0_keep_63 rfl ?_
    refine q_geti (own := RX0) (ref := RX0) (C := RX0) (T := TX0) (N := 13) (kc := 0) (ci := 0) hx hb hts hin0 hown hK hW h_this (by decide) rfl 3 (by decide) hw0 rfl rfl dX0_keep_64 ?_
    refine lv_iconst (v := 1) hx hb dX0_keep_67 (by decide) ?_
    refine lv_iadd hx hb dX0_keep_68 ?_
    refine q_puti (own := RX0) (ref := RX0) (C := RX0) (T := TX0) (N := 13) (kc := 0) (ci := 0) hx hb hts hin0 tyX0_ok nmX0 hown hK hW hS h_this (by decide) rfl 3 (by decide) hw0 rfl rfl (ty := .int) (tyX0_ok 3 (by decide)) rfl rfl rfl dX0_keep_69 (fun H locs hW hS => ?_)
    obtain ⟨σ_23, eσ_23⟩ : ∃ y : Mm, y = (Mm.si σ_22 this 3 ((Mm.gi σ_22 this 3) + 1)) := ⟨_, rfl⟩
    rw [← eσ_23] at hW
    have hf := g_lt eσ_23 hf
    exact q_vret hx hb hr hlocks hW hS hf dX0_keep_72
  · have hf := g_neg c hf
    refine lv_aload_n hx hb dX0_keep_10 rfl (lv_at hl 0 rfl) ?_
    refine lv_iconst (v := 1) hx hb dX0_keep_11 (by decide) ?_
    refine q_puti (own := RX0) (ref := RX0) (C := RX0) (T := TX0) (N := 13) (kc := 0) (ci := 0) hx hb hts hin0 tyX0_ok nmX0 hown hK hW hS h_this (by decide) rfl 1 (by decide) hw10 rfl rfl (ty := .boolean) (tyX0_ok 1 (by decide)) rfl rfl rfl dX0_keep_12 (fun H locs hW hS => ?_)
    obtain ⟨σ_24, eσ_24⟩ : ∃ y : Mm, y = (Mm.si σ this 1 1) := ⟨_, rfl⟩
    rw [← eσ_24] at hW
    have hf := g_lt eσ_24 hf
    exact q_vret hx hb hr hlocks hW hS hf dX0_keep_15
set_option maxRecDepth 100000 in
set_option maxHeartbeats 40000000 in
theorem k_X0_highest (l : Launch) (z n : Nat) (D : va_G) (cy : Nat → ClassId) (Y : Yt) {this : Nat} {a1 : Int32} {a2 : Int32} {σ : Mm} {r : Int64} {σ1 : Mm} (h_this : okk Y n 0 this) (hf : f_X0_highest Y this a1 a2 σ = some (r, σ1)) : Kl l yX0_highest wsX0_highest ({ frames := 0, cells := 0, slots := 0, locals := 0 } : Room) z n D cy Y [.ref (z + this), .int a1, .int a2] σ r σ1 := by
  refine Met.ofW (cc := cX0_highest) (maxL := 3) (ret := (some .long)) (by decide +kernel) rfl ?_
  intro p e s m args below meth c s₁ B hml hv
  obtain ⟨rfl, hW, hK, hN⟩ := hv
  have hx := B.exec
  have hb := B.bytes
  have hr := B.returns
  have hts := atoms_spec (ws := wsX0_highest) B.pre
  have hown : s.vm.findClass RX0 = some m.cls := findClass_of_methodNamed B.named
  have hlocks := B.notSynchronized
  have hS : va_S (Az z) s.heap s.heap [] := va_S.rf
  have hin0 : ∀ w ∈ wsX00, w ∈ wsX0_highest := fun w h => List.mem_cons_of_mem _ (List.mem_append_right _ h)
  have hw0 := hts (.constantLong RX0 108 (1000)) (List.mem_of_getElem? (i := 1) rfl)
  have hw1 := hts (.fieldLink RX0 9 "SkyClocks$Carried" "times" "[I") (List.mem_of_getElem? (i := 2) rfl)
  have hw2 := hts (.fieldLink RX0 15 "SkyClocks$Carried" "errs" "[I") (List.mem_of_getElem? (i := 3) rfl)
  have hl := lv_entry ([.ref (z + this), .int a1, .int a2]) (n := 3) (Nat.le_of_ble_eq_true rfl)
  rw [lg_entry_eq]
  generalize (lg_sl ([.ref (z + this), .int a1, .int a2]) ++ List.replicate (3 - (lg_sl ([.ref (z + this), .int a1, .int a2])).length) Slot.unset).toArray = ls at hl ⊢
  have hl : lv_has ls 3 [(0, .ref (z + this)), (1, .int a1), (2, .int a2)] := hl
  refine lv_ldc2 hx hb hown hw0 dX0_highest_0 ?_
  refine lv_iload_n hx hb dX0_highest_3 rfl (lv_at hl 1 rfl) ?_
  refine lv_aload_n hx hb dX0_highest_4 rfl (lv_at hl 0 rfl) ?_
  refine q_getp (own := RX0) (ref := RX0) (C := RX0) (T := TX0) (N := 13) (kc := 0) (ci := 0) hx hb hts hin0 hown hK hW h_this (by decide) rfl 5 (by decide) hw1 rfl rfl rfl (v := 18) rfl dX0_highest_5 (fun hk_1 hq_2 => ?_)
  refine lv_iconst (v := 0) hx hb dX0_highest_8 (by decide) ?_
  obtain ⟨hi_3, hf⟩ := g_in hf
  refine q_iald hx hb hK hW hk_1 (inb_of hq_2 hi_3) dX0_highest_9 ?_
  refine lv_isub hx hb dX0_highest_10 ?_
  refine lv_iload_n hx hb dX0_highest_11 rfl (lv_at hl 2 rfl) ?_
  refine lv_iadd hx hb dX0_highest_12 ?_
  refine lv_aload_n hx hb dX0_highest_13 rfl (lv_at hl 0 rfl) ?_
  refine q_getp (own := RX0) (ref := RX0) (C := RX0) (T := TX0) (N := 13) (kc := 0) (ci := 0) hx hb hts hin0 hown hK hW h_this (by decide) rfl 6 (by decide) hw2 rfl rfl rfl (v := 19) rfl dX0_highest_14 (fun hk_4 hq_5 => ?_)
  refine lv_iconst (v := 0) hx hb dX0_highest_17 (by decide) ?_
  obtain ⟨hi_6, hf⟩ := g_in hf
  refine q_iald hx hb hK hW hk_4 (inb_of hq_5 hi_6) dX0_highest_18 ?_
  refine lv_iadd hx hb dX0_highest_19 ?_
  refine lv_i2l hx hb dX0_highest_20 rfl ?_
  refine lv_lmul hx hb dX0_highest_21 ?_
  exact q_lret hx hb hr hlocks hW hS hf dX0_highest_22
set_option maxRecDepth 100000 in
set_option maxHeartbeats 40000000 in
theorem k_X0_lowest (l : Launch) (z n : Nat) (D : va_G) (cy : Nat → ClassId) (Y : Yt) {this : Nat} {a1 : Int32} {a2 : Int32} {σ : Mm} {r : Int64} {σ1 : Mm} (h_this : okk Y n 0 this) (hf : f_X0_lowest Y this a1 a2 σ = some (r, σ1)) : Kl l yX0_lowest wsX0_lowest ({ frames := 0, cells := 0, slots := 0, locals := 0 } : Room) z n D cy Y [.ref (z + this), .int a1, .int a2] σ r σ1 := by
  refine Met.ofW (cc := cX0_lowest) (maxL := 3) (ret := (some .long)) (by decide +kernel) rfl ?_
  intro p e s m args below meth c s₁ B hml hv
  obtain ⟨rfl, hW, hK, hN⟩ := hv
  have hx := B.exec
  have hb := B.bytes
  have hr := B.returns
  have hts := atoms_spec (ws := wsX0_lowest) B.pre
  have hown : s.vm.findClass RX0 = some m.cls := findClass_of_methodNamed B.named
  have hlocks := B.notSynchronized
  have hS : va_S (Az z) s.heap s.heap [] := va_S.rf
  have hin0 : ∀ w ∈ wsX00, w ∈ wsX0_lowest := fun w h => List.mem_cons_of_mem _ (List.mem_append_right _ h)
  have hw0 := hts (.constantLong RX0 108 (1000)) (List.mem_of_getElem? (i := 1) rfl)
  have hw1 := hts (.fieldLink RX0 9 "SkyClocks$Carried" "times" "[I") (List.mem_of_getElem? (i := 2) rfl)
  have hw2 := hts (.fieldLink RX0 15 "SkyClocks$Carried" "errs" "[I") (List.mem_of_getElem? (i := 3) rfl)
  have hl := lv_entry ([.ref (z + this), .int a1, .int a2]) (n := 3) (Nat.le_of_ble_eq_true rfl)
  rw [lg_entry_eq]
  generalize (lg_sl ([.ref (z + this), .int a1, .int a2]) ++ List.replicate (3 - (lg_sl ([.ref (z + this), .int a1, .int a2])).length) Slot.unset).toArray = ls at hl ⊢
  have hl : lv_has ls 3 [(0, .ref (z + this)), (1, .int a1), (2, .int a2)] := hl
  refine lv_ldc2 hx hb hown hw0 dX0_lowest_0 ?_
  refine lv_iload_n hx hb dX0_lowest_3 rfl (lv_at hl 1 rfl) ?_
  refine lv_aload_n hx hb dX0_lowest_4 rfl (lv_at hl 0 rfl) ?_
  refine q_getp (own := RX0) (ref := RX0) (C := RX0) (T := TX0) (N := 13) (kc := 0) (ci := 0) hx hb hts hin0 hown hK hW h_this (by decide) rfl 5 (by decide) hw1 rfl rfl rfl (v := 18) rfl dX0_lowest_5 (fun hk_1 hq_2 => ?_)
  refine lv_iconst (v := 0) hx hb dX0_lowest_8 (by decide) ?_
  obtain ⟨hi_3, hf⟩ := g_in hf
  refine q_iald hx hb hK hW hk_1 (inb_of hq_2 hi_3) dX0_lowest_9 ?_
  refine lv_isub hx hb dX0_lowest_10 ?_
  refine lv_iload_n hx hb dX0_lowest_11 rfl (lv_at hl 2 rfl) ?_
  refine lv_isub hx hb dX0_lowest_12 ?_
  refine lv_aload_n hx hb dX0_lowest_13 rfl (lv_at hl 0 rfl) ?_
  refine q_getp (own := RX0) (ref := RX0) (C := RX0) (T := TX0) (N := 13) (kc := 0) (ci := 0) hx hb hts hin0 hown hK hW h_this (by decide) rfl 6 (by decide) hw2 rfl rfl rfl (v := 19) rfl dX0_lowest_14 (fun hk_4 hq_5 => ?_)
  refine lv_iconst (v := 0) hx hb dX0_lowest_17 (by decide) ?_
  obtain ⟨hi_6, hf⟩ := g_in hf
  refine q_iald hx hb hK hW hk_4 (inb_of hq_5 hi_6) dX0_lowest_18 ?_
  refine lv_isub hx hb dX0_lowest_19 ?_
  refine lv_i2l hx hb dX0_lowest_20 rfl ?_
  refine lv_lmul hx hb dX0_lowest_21 ?_
  exact q_lret hx hb hr hlocks hW hS hf dX0_lowest_22
set_option maxRecDepth 100000 in
set_option maxHeartbeats 40000000 in
theorem k_X5_greatestCount (l : Launch) (z n : Nat) (D : va_G) (cy : Nat → ClassId) (Y : Yt) {this : Nat} {a1 : Int64} {σ : Mm} {r : Int64} {σ1 : Mm} (h_this : okk Y n 3 this) (hf : f_X5_greatestCount Y this a1 σ = some (r, σ1)) : Kl l yX5_greatestCount wsX5_greatestCount ({ frames := 2, cells := 0, slots := 0, locals := 83 } : Room) z n D cy Y [.ref (z + this), .long a1] σ r σ1 := by
  refine Met.ofW (cc := cX5_greatestCount) (maxL := 3) (ret := (some .long)) (by decide +kernel) rfl ?_
  intro p e s m args below meth c s₁ B hml hv
  obtain ⟨rfl, hW, hK, hN⟩ := hv
  have hx := B.exec
  have hb := B.bytes
  have hr := B.returns
  have hts := atoms_spec (ws := wsX5_greatestCount) B.pre
  have hown : s.vm.findClass RX5 = some m.cls := findClass_of_methodNamed B.named
  have hlocks := B.notSynchronized
  have hS : va_S (Az z) s.heap s.heap [] := va_S.rf
  have hin5 : ∀ w ∈ wsX50, w ∈ wsX5_greatestCount := fun w h => List.mem_cons_of_mem _ (List.mem_append_right _ h)
  have hw0 := hts (.fieldLink RX5 13 "SkyClocks$Periods" "lowBelow" "J") (List.mem_of_getElem? (i := 1) rfl)
  have hw1 := hts (.fieldLink RX5 7 "SkyClocks$Periods" "lowAbove" "J") (List.mem_of_getElem? (i := 2) rfl)
  have hl := lv_entry ([.ref (z + this), .long a1]) (n := 3) (Nat.le_of_ble_eq_true rfl)
  rw [lg_entry_eq]
  generalize (lg_sl ([.ref (z + this), .long a1]) ++ List.replicate (3 - (lg_sl ([.ref (z + this), .long a1])).length) Slot.unset).toArray = ls at hl ⊢
  have hl : lv_has ls 3 [(0, .ref (z + this)), (1, .long a1)] := hl
  refine lv_lload_n hx hb dX5_greatestCount_0 rfl (lv_at hl 1 rfl) ?_
  refine lv_aload_n hx hb dX5_greatestCount_1 rfl (lv_at hl 0 rfl) ?_
  refine q_getl (own := RX5) (ref := RX5) (C := RX5) (T := TX5) (N := 4) (kc := 3) (ci := 0) hx hb hts hin5 hown hK hW h_this (by decide) rfl 1 (by decide) hw0 rfl rfl dX5_greatestCount_2 ?_
  refine lv_lmul hx hb dX5_greatestCount_5 ?_
  refine lv_aload_n hx hb dX5_greatestCount_6 rfl (lv_at hl 0 rfl) ?_
  refine q_getl (own := RX5) (ref := RX5) (C := RX5) (T := TX5) (N := 4) (kc := 3) (ci := 0) hx hb hts hin5 hown hK hW h_this (by decide) rfl 0 (by decide) hw1 rfl rfl dX5_greatestCount_7 ?_
  obtain ⟨r_3, σ_2, hc_1, hf⟩ := g_bnd hf
  refine q_calll (va_runS (As := [.long (a1 * (Mm.gl σ this 1)), .long (Mm.gl σ this 0)]) (rest := []) ⟨hx, hb, hml, hown, hts⟩ (k_X1_floor l z n D cy Y hc_1) (va_cwS 2 hts gX5_greatestCount_X1_floor rfl rfl rfl (by decide +kernel) ⟨Nat.le_of_ble_eq_true rfl, Nat.le_of_ble_eq_true rfl⟩) (q_PS hK hN hW) rfl rfl hl.1 rfl (lv_room (Nat.le_of_ble_eq_true rfl)) dX5_greatestCount_10 ⟨Nat.le_refl _, Nat.le_refl _⟩) hS (fun H locs hW hS => ?_)
  exact q_lret hx hb hr hlocks hW hS hf dX5_greatestCount_13
set_option maxRecDepth 100000 in
set_option maxHeartbeats 40000000 in
theorem k_X5_leastCount (l : Launch) (z n : Nat) (D : va_G) (cy : Nat → ClassId) (Y : Yt) {this : Nat} {a1 : Int64} {σ : Mm} {r : Int64} {σ1 : Mm} (h_this : okk Y n 3 this) (hf : f_X5_leastCount Y this a1 σ = some (r, σ1)) : Kl l yX5_leastCount wsX5_leastCount ({ frames := 2, cells := 0, slots := 0, locals := 83 } : Room) z n D cy Y [.ref (z + this), .long a1] σ r σ1 := by
  refine Met.ofW (cc := cX5_leastCount) (maxL := 3) (ret := (some .long)) (by decide +kernel) rfl ?_
  intro p e s m args below meth c s₁ B hml hv
  obtain ⟨rfl, hW, hK, hN⟩ := hv
  have hx := B.exec
  have hb := B.bytes
  have hr := B.returns
  have hts := atoms_spec (ws := wsX5_leastCount) B.pre
  have hown : s.vm.findClass RX5 = some m.cls := findClass_of_methodNamed B.named
  have hlocks := B.notSynchronized
  have hS : va_S (Az z) s.heap s.heap [] := va_S.rf
  have hin5 : ∀ w ∈ wsX50, w ∈ wsX5_leastCount := fun w h => List.mem_cons_of_mem _ (List.mem_append_right _ h)
  have hw0 := hts (.fieldLink RX5 19 "SkyClocks$Periods" "highBelow" "J") (List.mem_of_getElem? (i := 1) rfl)
  have hw1 := hts (.fieldLink RX5 16 "SkyClocks$Periods" "highAbove" "J") (List.mem_of_getElem? (i := 2) rfl)
  have hl := lv_entry ([.ref (z + this), .long a1]) (n := 3) (Nat.le_of_ble_eq_true rfl)
  rw [lg_entry_eq]
  generalize (lg_sl ([.ref (z + this), .long a1]) ++ List.replicate (3 - (lg_sl ([.ref (z + this), .long a1])).length) Slot.unset).toArray = ls at hl ⊢
  have hl : lv_has ls 3 [(0, .ref (z + this)), (1, .long a1)] := hl
  refine lv_lload_n hx hb dX5_leastCount_0 rfl (lv_at hl 1 rfl) ?_
  refine lv_aload_n hx hb dX5_leastCount_1 rfl (lv_at hl 0 rfl) ?_
  refine q_getl (own := RX5) (ref := RX5) (C := RX5) (T := TX5) (N := 4) (kc := 3) (ci := 0) hx hb hts hin5 hown hK hW h_this (by decide) rfl 3 (by decide) hw0 rfl rfl dX5_leastCount_2 ?_
  refine lv_lmul hx hb dX5_leastCount_5 ?_
  refine lv_aload_n hx hb dX5_leastCount_6 rfl (lv_at hl 0 rfl) ?_
  refine q_getl (own := RX5) (ref := RX5) (C := RX5) (T := TX5) (N := 4) (kc := 3) (ci := 0) hx hb hts hin5 hown hK hW h_this (by decide) rfl 2 (by decide) hw1 rfl rfl dX5_leastCount_7 ?_
  obtain ⟨r_3, σ_2, hc_1, hf⟩ := g_bnd hf
  refine q_calll (va_runS (As := [.long (a1 * (Mm.gl σ this 3)), .long (Mm.gl σ this 2)]) (rest := []) ⟨hx, hb, hml, hown, hts⟩ (k_X1_ceiling l z n D cy Y hc_1) (va_cwS 2 hts gX5_leastCount_X1_ceiling rfl rfl rfl (by decide +kernel) ⟨Nat.le_of_ble_eq_true rfl, Nat.le_of_ble_eq_true rfl⟩) (q_PS hK hN hW) rfl rfl hl.1 rfl (lv_room (Nat.le_of_ble_eq_true rfl)) dX5_leastCount_10 ⟨Nat.le_refl _, Nat.le_refl _⟩) hS (fun H locs hW hS => ?_)
  exact q_lret hx hb hr hlocks hW hS hf dX5_leastCount_13
set_option maxRecDepth 100000 in
set_option maxHeartbeats 40000000 in
theorem k_X0_open (l : Launch) (z n : Nat) (D : va_G) (cy : Nat → ClassId) (Y : Yt) {this : Nat} {a1 : Int32} {σ : Mm} {σ1 : Mm} (h_this : okk Y n 0 this) (hf : f_X0_open Y this a1 σ = some σ1) : Kv l yX0_open wsX0_open ({ frames := 3, cells := 0, slots := 0, locals := 105 } : Room) z n D cy Y [.ref (z + this), .int a1] σ σ1 := by
  refine Met.ofW (cc := cX0_open) (maxL := 6) (ret := none) (by decide +kernel) rfl ?_
  intro p e s m args below meth c s₁ B hml hv
  obtain ⟨rfl, hW, hK, hN⟩ := hv
  have hx := B.exec
  have hb := B.bytes
  have hr := B.returns
  have hts := atoms_spec (ws := wsX0_open) B.pre
  have hown : s.vm.findClass RX0 = some m.cls := findClass_of_methodNamed B.named
  have hlocks := B.notSynchronized
  have hS : va_S (Az z) s.heap s.heap [] := va_S.rf
  have hin0 : ∀ w ∈ wsX00, w ∈ wsX0_open := fun w h => List.mem_cons_of_mem _ (List.mem_append_left _ (List.mem_append_right _ h))
  have hw0 := hts (.fieldLink RX0 9 "SkyClocks$Carried" "times" "[I") (List.mem_of_getElem? (i := 1) rfl)
  have hw1 := hts (.fieldLink RX0 15 "SkyClocks$Carried" "errs" "[I") (List.mem_of_getElem? (i := 2) rfl)
  have hw2 := hts (.fieldLink RX0 21 "SkyClocks$Carried" "nextCounts" "[J") (List.mem_of_getElem? (i := 3) rfl)
  have hw3 := hts (.fieldLink RX0 18 "SkyClocks$Carried" "row" "[I") (List.mem_of_getElem? (i := 4) rfl)
  have hw4 := hts (.fieldLink RX0 30 "SkyClocks$Carried" "allowed" "[LSkyClocks$Periods;") (List.mem_of_getElem? (i := 5) rfl)
  have hw5 := hts (.methodLink RX0 85 Lib.MathLoose.max_long.x) (List.mem_of_getElem? (i := 6) rfl)
  have hw6 := hts (.static Lib.MathLoose.max_long.x) (List.mem_of_getElem? (i := 7) rfl)
  have hw7 := hts (.initialized "java/lang/Math") (List.mem_of_getElem? (i := 8) rfl)
  have hw8 := hts (.code Lib.MathLoose.max_long.x Lib.MathLoose.max_long.code 4 (some .long)) (List.mem_of_getElem? (i := 9) rfl)
  have hw9 := hts (.fieldLink RX0 25 "SkyClocks$Carried" "lastCounts" "[J") (List.mem_of_getElem? (i := 10) rfl)
  have hl := lv_entry ([.ref (z + this), .int a1]) (n := 6) (Nat.le_of_ble_eq_true rfl)
  rw [lg_entry_eq]
  generalize (lg_sl ([.ref (z + this), .int a1]) ++ List.replicate (6 - (lg_sl ([.ref (z + this), .int a1])).length) Slot.unset).toArray = ls at hl ⊢
  have hl : lv_has ls 6 [(0, .ref (z + this)), (1, .int a1)] := hl
  refine lv_aload_n hx hb dX0_open_0 rfl (lv_at hl 0 rfl) ?_
  refine lv_aload_n hx hb dX0_open_1 rfl (lv_at hl 0 rfl) ?_
  refine q_getp (own := RX0) (ref := RX0) (C := RX0) (T := TX0) (N := 13) (kc := 0) (ci := 0) hx hb hts hin0 hown hK hW h_this (by decide) rfl 5 (by decide) hw0 rfl rfl rfl (v := 18) rfl dX0_open_2 (fun hk_1 hq_2 => ?_)
  refine lv_iload_n hx hb dX0_open_5 rfl (lv_at hl 1 rfl) ?_
  obtain ⟨hi_3, hf⟩ := g_in hf
  refine q_iald hx hb hK hW hk_1 (inb_of hq_2 hi_3) dX0_open_6 ?_
  refine lv_aload_n hx hb dX0_open_7 rfl (lv_at hl 0 rfl) ?_
  refine q_getp (own := RX0) (ref := RX0) (C := RX0) (T := TX0) (N := 13) (kc := 0) (ci := 0) hx hb hts hin0 hown hK hW h_this (by decide) rfl 6 (by decide) hw1 rfl rfl rfl (v := 19) rfl dX0_open_8 (fun hk_4 hq_5 => ?_)
  refine lv_iload_n hx hb dX0_open_11 rfl (lv_at hl 1 rfl) ?_
  obtain ⟨hi_6, hf⟩ := g_in hf
  refine q_iald hx hb hK hW hk_4 (inb_of hq_5 hi_6) dX0_open_12 ?_
  obtain ⟨r_9, σ_8, hc_7, hf⟩ := g_bnd hf
  refine q_calll (va_runV (As := [.int (Mm.gi σ 18 (ix a1)), .int (Mm.gi σ 19 (ix a1))]) (rest := []) ⟨hx, hb, hml, hown, hts⟩ (k_X0_lowest l z n D cy Y h_this hc_7) (cwV 2 hts gX0_open_X0_lowest rfl rfl rfl (by decide +kernel) ⟨Nat.le_of_ble_eq_true rfl, Nat.le_of_ble_eq_true rfl⟩) (q_PV (T := TX0) (N := 13) hK hN hW h_this (by decide) rfl) rfl rfl hl.1 rfl (lv_room (Nat.le_of_ble_eq_true rfl)) dX0_open_13 ⟨Nat.le_refl _, Nat.le_refl _⟩) hS (fun H locs hW hS => ?_)
  refine lv_lstore_n (lv' := [(2, .long r_9), (0, .ref (z + this)), (1, .int a1)]) hx hb dX0_open_16 rfl hl (by decide) rfl (fun ls hl => ?_)
  refine lv_aload_n hx hb dX0_open_17 rfl (lv_at hl 1 rfl) ?_
  refine lv_aload_n hx hb dX0_open_18 rfl (lv_at hl 1 rfl) ?_
  refine q_getp (own := RX0) (ref := RX0) (C := RX0) (T := TX0) (N := 13) (kc := 0) (ci := 0) hx hb hts hin0 hown hK hW h_this (by decide) rfl 5 (by decide) hw0 rfl rfl rfl (v := 18) rfl dX0_open_19 (fun hk_10 hq_11 => ?_)
  refine lv_iload_n hx hb dX0_open_22 rfl (lv_at hl 2 rfl) ?_
  obtain ⟨hi_12, hf⟩ := g_in hf
  refine q_iald hx hb hK hW hk_10 (inb_of hq_11 hi_12) dX0_open_23 ?_
  refine lv_aload_n hx hb dX0_open_24 rfl (lv_at hl 1 rfl) ?_
  refine q_getp (own := RX0) (ref := RX0) (C := RX0) (T := TX0) (N := 13) (kc := 0) (ci := 0) hx hb hts hin0 hown hK hW h_this (by decide) rfl 6 (by decide) hw1 rfl rfl rfl (v := 19) rfl dX0_open_25 (fun hk_13 hq_14 => ?_)
  refine lv_iload_n hx hb dX0_open_28 rfl (lv_at hl 2 rfl) ?_
  obtain ⟨hi_15, hf⟩ := g_in hf
  refine q_iald hx hb hK hW hk_13 (inb_of hq_14 hi_15) dX0_open_29 ?_
  obtain ⟨r_18, σ_17, hc_16, hf⟩ := g_bnd hf
  refine q_calll (va_runV (As := [.int (Mm.gi σ_8 18 (ix a1)), .int (Mm.gi σ_8 19 (ix a1))]) (rest := []) ⟨hx, hb, hml, hown, hts⟩ (k_X0_highest l z n D cy Y h_this hc_16) (cwV 2 hts gX0_open_X0_highest rfl rfl rfl (by decide +kernel) ⟨Nat.le_of_ble_eq_true rfl, Nat.le_of_ble_eq_true rfl⟩) (q_PV (T := TX0) (N := 13) hK hN hW h_this (by decide) rfl) rfl rfl hl.1 rfl (lv_room (Nat.le_of_ble_eq_true rfl)) dX0_open_30 ⟨Nat.le_refl _, Nat.le_refl _⟩) hS (fun H locs hW hS => ?_)
  refine lv_lstore (lv' := [(4, .long r_18), (2, .long r_9), (0, .ref (z + this)), (1, .int a1)]) hx hb dX0_open_33 hl (by decide) rfl (fun ls hl => ?_)
  refine lv_aload_n hx hb dX0_open_35 rfl (lv_at hl 2 rfl) ?_
  refine q_getp (own := RX0) (ref := RX0) (C := RX0) (T := TX0) (N := 13) (kc := 0) (ci := 0) hx hb hts hin0 hown hK hW h_this (by decide) rfl 8 (by decide) hw2 rfl rfl rfl (v := 21) rfl dX0_open_36 (fun hk_19 hq_20 => ?_)
  refine lv_iload_n hx hb dX0_open_39 rfl (lv_at hl 3 rfl) ?_
  refine lv_aload_n hx hb dX0_open_40 rfl (lv_at hl 2 rfl) ?_
  refine q_getp (own := RX0) (ref := RX0) (C := RX0) (T := TX0) (N := 13) (kc := 0) (ci := 0) hx hb hts hin0 hown hK hW h_this (by decide) rfl 7 (by decide) hw3 rfl rfl rfl (v := 20) rfl dX0_open_41 (fun hk_21 hq_22 => ?_)
  refine lv_iload_n hx hb dX0_open_44 rfl (lv_at hl 3 rfl) ?_
  refine lv_iconst (v := 1) hx hb dX0_open_45 (by decide) ?_
  refine lv_isub hx hb dX0_open_46 ?_
  obtain ⟨hi_23, hf⟩ := g_in hf
  refine q_iald hx hb hK hW hk_21 (inb_of hq_22 hi_23) dX0_open_47 ?_
  refine lv_i2l hx hb dX0_open_48 rfl ?_
  refine lv_lconst (v := 1) hx hb dX0_open_49 (by decide) ?_
  refine lv_ladd hx hb dX0_open_50 ?_
  refine lv_aload_n hx hb dX0_open_51 rfl (lv_at hl 2 rfl) ?_
  refine q_getp (own := RX0) (ref := RX0) (C := RX0) (T := TX0) (N := 13) (kc := 0) (ci := 0) hx hb hts hin0 hown hK hW h_this (by decide) rfl 10 (by decide) hw4 rfl rfl rfl (v := 23) rfl dX0_open_52 (fun hk_24 hq_25 => ?_)
  refine lv_iload_n hx hb dX0_open_55 rfl (lv_at hl 3 rfl) ?_
  refine lv_iconst (v := 1) hx hb dX0_open_56 (by decide) ?_
  refine lv_isub hx hb dX0_open_57 ?_
  obtain ⟨hi_26, hf⟩ := g_in hf
  refine q_aalp (kc := 13) (t := 3) hx hb hK hW hk_24 rfl (inb_of hq_25 hi_26) rfl dX0_open_58 (fun hk_27 hq_28 => ?_)
  refine lv_lload_n hx hb dX0_open_59 rfl (lv_at hl 1 rfl) ?_
  obtain ⟨r_31, σ_30, hc_29, hf⟩ := g_bnd hf
  refine q_calll (va_runV (As := [.long r_9]) (rest := [.long ((Int32.toInt64 (Mm.gi σ_17 20 (ix (a1 - 1)))) + 1), .int a1, .ref (z + 21)]) ⟨hx, hb, hml, hown, hts⟩ (k_X5_leastCount l z n D cy Y hk_27 hc_29) (cwV 1 hts gX0_open_X5_leastCount rfl rfl rfl (by decide +kernel) ⟨Nat.le_of_ble_eq_true rfl, Nat.le_of_ble_eq_true rfl⟩) (q_PV (T := TX5) (N := 4) hK hN hW hk_27 (by decide) rfl) rfl rfl hl.1 rfl (lv_room (Nat.le_of_ble_eq_true rfl)) dX0_open_60 ⟨Nat.le_refl _, Nat.le_refl _⟩) hS (fun H locs hW hS => ?_)
  refine va_mmax_long hx hb (by rw [hml]; exact hl.1.symm) hown hw5 hw6 hw7 hw8 (Nat.le_of_ble_eq_true rfl) (Nat.le_of_ble_eq_true rfl) (Nat.zero_le _) (Nat.zero_le _) dX0_open_63 ?_
  obtain ⟨hi_32, hf⟩ := g_in hf
  refine q_last hx hb hK hW hS hk_19 (inb_of hq_20 hi_32) dX0_open_66 (fun H locs hW hS => ?_)
  obtain ⟨σ_33, eσ_33⟩ : ∃ y : Mm, y = (Mm.sl σ_30 21 (ix a1) (if r_31 < ((Int32.toInt64 (Mm.gi σ_17 20 (ix (a1 - 1)))) + 1) then ((Int32.toInt64 (Mm.gi σ_17 20 (ix (a1 - 1)))) + 1) else r_31)) := ⟨_, rfl⟩
  rw [← eσ_33] at hW
  have hf := g_lt eσ_33 hf
  refine lv_aload_n hx hb dX0_open_67 rfl (lv_at hl 2 rfl) ?_
  refine q_getp (own := RX0) (ref := RX0) (C := RX0) (T := TX0) (N := 13) (kc := 0) (ci := 0) hx hb hts hin0 hown hK hW h_this (by decide) rfl 9 (by decide) hw9 rfl rfl rfl (v := 22) rfl dX0_open_68 (fun hk_34 hq_35 => ?_)
  refine lv_iload_n hx hb dX0_open_71 rfl (lv_at hl 3 rfl) ?_
  refine lv_aload_n hx hb dX0_open_72 rfl (lv_at hl 2 rfl) ?_
  refine q_getp (own := RX0) (ref := RX0) (C := RX0) (T := TX0) (N := 13) (kc := 0) (ci := 0) hx hb hts hin0 hown hK hW h_this (by decide) rfl 10 (by decide) hw4 rfl rfl rfl (v := 23) rfl dX0_open_73 (fun hk_36 hq_37 => ?_)
  refine lv_iload_n hx hb dX0_open_76 rfl (lv_at hl 3 rfl) ?_
  refine lv_iconst (v := 1) hx hb dX0_open_77 (by decide) ?_
  refine lv_isub hx hb dX0_open_78 ?_
  obtain ⟨hi_38, hf⟩ := g_in hf
  refine q_aalp (kc := 13) (t := 3) hx hb hK hW hk_36 rfl (inb_of hq_37 hi_38) rfl dX0_open_79 (fun hk_39 hq_40 => ?_)
  refine lv_lload hx hb dX0_open_80 (lv_at hl 0 rfl) ?_
  obtain ⟨r_43, σ_42, hc_41, hf⟩ := g_bnd hf
  refine q_calll (va_runV (As := [.long r_18]) (rest := [.int a1, .ref (z + 22)]) ⟨hx, hb, hml, hown, hts⟩ (k_X5_greatestCount l z n D cy Y hk_39 hc_41) (cwV 1 hts gX0_open_X5_greatestCount rfl rfl rfl (by decide +kernel) ⟨Nat.le_of_ble_eq_true rfl, Nat.le_of_ble_eq_true rfl⟩) (q_PV (T := TX5) (N := 4) hK hN hW hk_39 (by decide) rfl) rfl rfl hl.1 rfl (lv_room (Nat.le_of_ble_eq_true rfl)) dX0_open_82 ⟨Nat.le_refl _, Nat.le_refl _⟩) hS (fun H locs hW hS => ?_)
  obtain ⟨hi_44, hf⟩ := g_in hf
  refine q_last hx hb hK hW hS hk_34 (inb_of hq_35 hi_44) dX0_open_85 (fun H locs hW hS => ?_)
  obtain ⟨σ_45, eσ_45⟩ : ∃ y : Mm, y = (Mm.sl σ_42 22 (ix a1) r_43) := ⟨_, rfl⟩
  rw [← eσ_45] at hW
  have hf := g_lt eσ_45 hf
  exact q_vret hx hb hr hlocks hW hS hf dX0_open_86
set_option maxRecDepth 100000 in
set_option maxHeartbeats 40000000 in
theorem k_X5_narrow (l : Launch) (z n : Nat) (D : va_G) (cy : Nat → ClassId) (Y : Yt) {this : Nat} {a1 : Nat} {a2 : Int64} {a4 : Int64} {a6 : Int64} {σ : Mm} {σ1 : Mm} (h_this : okk Y n 3 this) (h_a1 : okk Y n 3 a1) (hf : f_X5_narrow Y this a1 a2 a4 a6 σ = some σ1) : Kv l yX5_narrow wsX5_narrow ({ frames := 1, cells := 0, slots := 0, locals := 21 } : Room) z n D cy Y [.ref (z + this), .ref (z + a1), .long a2, .long a4, .long a6] σ σ1 := by
  refine Met.ofW (cc := cX5_narrow) (maxL := 8) (ret := none) (by decide +kernel) rfl ?_
  intro p e s m args below meth c s₁ B hml hv
  obtain ⟨rfl, hW, hK, hN⟩ := hv
  have hx := B.exec
  have hb := B.bytes
  have hr := B.returns
  have hts := atoms_spec (ws := wsX5_narrow) B.pre
  have hown : s.vm.findClass RX5 = some m.cls := findClass_of_methodNamed B.named
  have hlocks := B.notSynchronized
  have hS : va_S (Az z) s.heap s.heap [] := va_S.rf
  have hin5 : ∀ w ∈ wsX50, w ∈ wsX5_narrow := fun w h => List.mem_cons_of_mem _ (List.mem_append_right _ h)
  have hw0 := hts (.fieldLink RX5 13 "SkyClocks$Periods" "lowBelow" "J") (List.mem_of_getElem? (i := 1) rfl)
  have hw1 := hts (.fieldLink RX5 7 "SkyClocks$Periods" "lowAbove" "J") (List.mem_of_getElem? (i := 2) rfl)
  have hw2 := hts (.fieldLink RX5 19 "SkyClocks$Periods" "highBelow" "J") (List.mem_of_getElem? (i := 3) rfl)
  have hw3 := hts (.fieldLink RX5 16 "SkyClocks$Periods" "highAbove" "J") (List.mem_of_getElem? (i := 4) rfl)
  have hl := lv_entry ([.ref (z + this), .ref (z + a1), .long a2, .long a4, .long a6]) (n := 8) (Nat.le_of_ble_eq_true rfl)
  rw [lg_entry_eq]
  generalize (lg_sl ([.ref (z + this), .ref (z + a1), .long a2, .long a4, .long a6]) ++ List.replicate (8 - (lg_sl ([.ref (z + this), .ref (z + a1), .long a2, .long a4, .long a6])).length) Slot.unset).toArray = ls at hl ⊢
  have hl : lv_has ls 8 [(0, .ref (z + this)), (1, .ref (z + a1)), (2, .long a2), (4, .long a4), (6, .long a6)] := hl
  have B33 : ∀ (σ : Mm), b_X5_narrow_33 Y this a1 a2 a4 a6 σ = some σ1 → ∀ (H : Heap) (locs : List Loc) (ls : Array Slot), WH z n D cy Y σ H → va_S (Az z) s.heap H locs → lv_has ls 8 [(0, .ref (z + this)), (1, .ref (z + a1)), (2, .long a2), (4, .long a4), (6, .long a6)] → W p l e ({ frames := 1, cells := 0, slots := 0, locals := 21 } : Room) s m ([.ref (z + this), .ref (z + a1), .long a2, .long a4, .long a6] : List Value).toArray below meth c H locs 0 0 (MQ below (va_Qv (fun (_ : Unit) => True) (fun _ t => WH z n D cy Y σ1 t.heap) (Az z)) ([.ref (z + this), .ref (z + a1), .long a2, .long a4, .long a6] : List Value).toArray s 0 0 (Az z)) (F0 m 33 ls []) := by
    intro  σ  hf H locs ls hW hS hl
    refine lv_lload hx hb dX5_narrow_33 (lv_at hl 3 rfl) ?_
    refine lv_aload_n hx hb dX5_narrow_35 rfl (lv_at hl 0 rfl) ?_
    refine q_getl (own := RX5) (ref := RX5) (C := RX5) (T := TX5) (N := 4) (kc := 3) (ci := 0) hx hb hts hin5 hown hK hW h_this (by decide) rfl 3 (by decide) hw2 rfl rfl dX5_narrow_36 ?_
    refine lv_lmul hx hb dX5_narrow_39 ?_
    refine lv_aload_n hx hb dX5_narrow_40 rfl (lv_at hl 0 rfl) ?_
    refine q_getl (own := RX5) (ref := RX5) (C := RX5) (T := TX5) (N := 4) (kc := 3) (ci := 0) hx hb hts hin5 hown hK hW h_this (by decide) rfl 2 (by decide) hw3 rfl rfl dX5_narrow_41 ?_
    refine lv_lload hx hb dX5_narrow_44 (lv_at hl 4 rfl) ?_
    refine lv_lmul hx hb dX5_narrow_46 ?_
    refine W.lcmp hx hb dX5_narrow_47 ?_
    refine lv_if_ge (tgt := 63) hx hb dX5_narrow_48 (by decide) (fun c => ?_) (fun c => ?_)
    · have hf := g_pos ((lg_cmp_ge _ _).mp c) hf
      exact q_vret hx hb hr hlocks hW hS hf dX5_narrow_63
    · have hf := g_neg (fun h => c ((lg_cmp_ge _ _).mpr h)) hf
      refine lv_aload_n hx hb dX5_narrow_51 rfl (lv_at hl 0 rfl) ?_
      refine lv_lload hx hb dX5_narrow_52 (lv_at hl 3 rfl) ?_
      refine q_putl (own := RX5) (ref := RX5) (C := RX5) (T := TX5) (N := 4) (kc := 3) (ci := 0) hx hb hts hin5 tyX5_ok nmX5 hown hK hW hS h_this (by decide) rfl 2 (by decide) hw3 rfl rfl (tyX5_ok 2 (by decide)) rfl dX5_narrow_54 (fun H locs hW hS => ?_)
      obtain ⟨σ_3, eσ_3⟩ : ∃ y : Mm, y = (Mm.sl σ this 2 a4) := ⟨_, rfl⟩
      rw [← eσ_3] at hW
      have hf := g_lt eσ_3 hf
      refine lv_aload_n hx hb dX5_narrow_57 rfl (lv_at hl 0 rfl) ?_
      refine lv_lload hx hb dX5_narrow_58 (lv_at hl 4 rfl) ?_
      refine q_putl (own := RX5) (ref := RX5) (C := RX5) (T := TX5) (N := 4) (kc := 3) (ci := 0) hx hb hts hin5 tyX5_ok nmX5 hown hK hW hS h_this (by decide) rfl 3 (by decide) hw2 rfl rfl (tyX5_ok 3 (by decide)) rfl dX5_narrow_60 (fun H locs hW hS => ?_)
      obtain ⟨σ_4, eσ_4⟩ : ∃ y : Mm, y = (Mm.sl σ_3 this 3 a6) := ⟨_, rfl⟩
      rw [← eσ_4] at hW
      have hf := g_lt eσ_4 hf
      exact q_vret hx hb hr hlocks hW hS hf dX5_narrow_63
  refine lv_aload_n hx hb dX5_narrow_0 rfl (lv_at hl 0 rfl) ?_
  refine lv_aload_n hx hb dX5_narrow_1 rfl (lv_at hl 1 rfl) ?_
  obtain ⟨σ_2, hc_1, hf⟩ := g_bn1 hf
  refine q_callv (va_runV (As := [.ref (z + a1)]) (rest := []) ⟨hx, hb, hml, hown, hts⟩ (k_X5_copy l z n D cy Y h_this h_a1 hc_1) (cwV 1 hts gX5_narrow_X5_copy rfl rfl rfl (by decide +kernel) ⟨Nat.le_of_ble_eq_true rfl, Nat.le_of_ble_eq_true rfl⟩) (q_PV (T := TX5) (N := 4) hK hN hW h_this (by decide) rfl) rfl rfl hl.1 rfl (lv_room (Nat.le_of_ble_eq_true rfl)) dX5_narrow_2 ⟨Nat.le_refl _, Nat.le_refl _⟩) hS (fun H locs hW hS => ?_)
  refine lv_lload_n hx hb dX5_narrow_5 rfl (lv_at hl 2 rfl) ?_
  refine lv_aload_n hx hb dX5_narrow_6 rfl (lv_at hl 0 rfl) ?_
  refine q_getl (own := RX5) (ref := RX5) (C := RX5) (T := TX5) (N := 4) (kc := 3) (ci := 0) hx hb hts hin5 hown hK hW h_this (by decide) rfl 1 (by decide) hw0 rfl rfl dX5_narrow_7 ?_
  refine lv_lmul hx hb dX5_narrow_10 ?_
  refine lv_aload_n hx hb dX5_narrow_11 rfl (lv_at hl 0 rfl) ?_
  refine q_getl (own := RX5) (ref := RX5) (C := RX5) (T := TX5) (N := 4) (kc := 3) (ci := 0) hx hb hts hin5 hown hK hW h_this (by decide) rfl 0 (by decide) hw1 rfl rfl dX5_narrow_12 ?_
  refine lv_lload hx hb dX5_narrow_15 (lv_at hl 4 rfl) ?_
  refine lv_lmul hx hb dX5_narrow_17 ?_
  refine W.lcmp hx hb dX5_narrow_18 ?_
  refine lv_if_le (tgt := 33) hx hb dX5_narrow_19 (by decide) (fun c => ?_) (fun c => ?_)
  · have hf := g_pos ((lg_cmp_le _ _).mp c) hf
    exact B33 σ_2 hf _ _ _ hW hS (lv_sub hl [0, 1, 2, 3, 4] rfl)
  · have hf := g_neg (fun h => c ((lg_cmp_le _ _).mpr h)) hf
    refine lv_aload_n hx hb dX5_narrow_22 rfl (lv_at hl 0 rfl) ?_
    refine lv_lload_n hx hb dX5_narrow_23 rfl (lv_at hl 2 rfl) ?_
    refine q_putl (own := RX5) (ref := RX5) (C := RX5) (T := TX5) (N := 4) (kc := 3) (ci := 0) hx hb hts hin5 tyX5_ok nmX5 hown hK hW hS h_this (by decide) rfl 0 (by decide) hw1 rfl rfl (tyX5_ok 0 (by decide)) rfl dX5_narrow_24 (fun H locs hW hS => ?_)
    obtain ⟨σ_5, eσ_5⟩ : ∃ y : Mm, y = (Mm.sl σ_2 this 0 a2) := ⟨_, rfl⟩
    rw [← eσ_5] at hW
    have hf := g_lt eσ_5 hf
    refine lv_aload_n hx hb dX5_narrow_27 rfl (lv_at hl 0 rfl) ?_
    refine lv_lload hx hb dX5_narrow_28 (lv_at hl 4 rfl) ?_
    refine q_putl (own := RX5) (ref := RX5) (C := RX5) (T := TX5) (N := 4) (kc := 3) (ci := 0) hx hb hts hin5 tyX5_ok nmX5 hown hK hW hS h_this (by decide) rfl 1 (by decide) hw0 rfl rfl (tyX5_ok 1 (by decide)) rfl dX5_narrow_30 (fun H locs hW hS => ?_)
    obtain ⟨σ_6, eσ_6⟩ : ∃ y : Mm, y = (Mm.sl σ_5 this 1 a6) := ⟨_, rfl⟩
    rw [← eσ_6] at hW
    have hf := g_lt eσ_6 hf
    exact B33 σ_6 hf _ _ _ hW hS (lv_sub hl [0, 1, 2, 3, 4] rfl)
set_option maxRecDepth 100000 in
set_option maxHeartbeats 40000000 in
theorem k_X0_tryNext (l : Launch) (z n : Nat) (D : va_G) (cy : Nat → ClassId) (Y : Yt) {this : Nat} {a1 : Int32} {σ : Mm} {r : Int32} {σ1 : Mm} (h_this : okk Y n 0 this) (hf : f_X0_tryNext Y this a1 σ = some (r, σ1)) : Ki l yX0_tryNext wsX0_tryNext ({ frames := 2, cells := 0, slots := 0, locals := 48 } : Room) z n D cy Y [.ref (z + this), .int a1] σ r σ1 := by
  refine Met.ofW (cc := cX0_tryNext) (maxL := 2) (ret := (some .boolean)) (by decide +kernel) rfl ?_
  intro p e s m args below meth c s₁ B hml hv
  obtain ⟨rfl, hW, hK, hN⟩ := hv
  have hx := B.exec
  have hb := B.bytes
  have hr := B.returns
  have hts := atoms_spec (ws := wsX0_tryNext) B.pre
  have hown : s.vm.findClass RX0 = some m.cls := findClass_of_methodNamed B.named
  have hlocks := B.notSynchronized
  have hS : va_S (Az z) s.heap s.heap [] := va_S.rf
  have hin0 : ∀ w ∈ wsX00, w ∈ wsX0_tryNext := fun w h => List.mem_cons_of_mem _ (List.mem_append_left _ (List.mem_append_right _ h))
  have hw0 := hts (.fieldLink RX0 55 "SkyClocks$Carried" "tried" "I") (List.mem_of_getElem? (i := 1) rfl)
  have hw1 := hts (.fieldLink RX0 18 "SkyClocks$Carried" "row" "[I") (List.mem_of_getElem? (i := 3) rfl)
  have hw2 := hts (.fieldLink RX0 21 "SkyClocks$Carried" "nextCounts" "[J") (List.mem_of_getElem? (i := 4) rfl)
  have hw3 := hts (.fieldLink RX0 30 "SkyClocks$Carried" "allowed" "[LSkyClocks$Periods;") (List.mem_of_getElem? (i := 5) rfl)
  have hw4 := hts (.fieldLink RX0 9 "SkyClocks$Carried" "times" "[I") (List.mem_of_getElem? (i := 6) rfl)
  have hw5 := hts (.fieldLink RX0 15 "SkyClocks$Carried" "errs" "[I") (List.mem_of_getElem? (i := 7) rfl)
  have hw6 := hts (.fieldLink RX0 45 "SkyClocks$Carried" "spent" "Z") (List.mem_of_getElem? (i := 2) rfl)
  have hl := lv_entry ([.ref (z + this), .int a1]) (n := 2) (Nat.le_of_ble_eq_true rfl)
  rw [lg_entry_eq]
  generalize (lg_sl ([.ref (z + this), .int a1]) ++ List.replicate (2 - (lg_sl ([.ref (z + this), .int a1])).length) Slot.unset).toArray = ls at hl ⊢
  have hl : lv_has ls 2 [(0, .ref (z + this)), (1, .int a1)] := hl
  refine lv_aload_n hx hb dX0_tryNext_0 rfl (lv_at hl 0 rfl) ?_
  refine lv_dup hx hb dX0_tryNext_1 rfl ?_
  refine q_geti (own := RX0) (ref := RX0) (C := RX0) (T := TX0) (N := 13) (kc := 0) (ci := 0) hx hb hts hin0 hown hK hW h_this (by decide) rfl 4 (by decide) hw0 rfl rfl dX0_tryNext_2 ?_
  refine lv_iconst (v := 1) hx hb dX0_tryNext_5 (by decide) ?_
  refine lv_iadd hx hb dX0_tryNext_6 ?_
  refine q_puti (own := RX0) (ref := RX0) (C := RX0) (T := TX0) (N := 13) (kc := 0) (ci := 0) hx hb hts hin0 tyX0_ok nmX0 hown hK hW hS h_this (by decide) rfl 4 (by decide) hw0 rfl rfl (ty := .int) (tyX0_ok 4 (by decide)) rfl rfl rfl dX0_tryNext_7 (fun H locs hW hS => ?_)
  obtain ⟨σ_1, eσ_1⟩ : ∃ y : Mm, y = (Mm.si σ this 4 ((Mm.gi σ this 4) + 1)) := ⟨_, rfl⟩
  rw [← eσ_1] at hW
  have hf := g_lt eσ_1 hf
  refine lv_aload_n hx hb dX0_tryNext_10 rfl (lv_at hl 0 rfl) ?_
  refine q_geti (own := RX0) (ref := RX0) (C := RX0) (T := TX0) (N := 13) (kc := 0) (ci := 0) hx hb hts hin0 hown hK hW h_this (by decide) rfl 4 (by decide) hw0 rfl rfl dX0_tryNext_11 ?_
  refine lv_sipush (v := 20000) hx hb dX0_tryNext_14 (by decide) ?_
  refine lv_icmp_le (tgt := 27) hx hb dX0_tryNext_17 (by decide) (fun c => ?_) (fun c => ?_)
  · have hf := g_pos c hf
    refine lv_aload_n hx hb dX0_tryNext_27 rfl (lv_at hl 0 rfl) ?_
    refine q_getp (own := RX0) (ref := RX0) (C := RX0) (T := TX0) (N := 13) (kc := 0) (ci := 0) hx hb hts hin0 hown hK hW h_this (by decide) rfl 7 (by decide) hw1 rfl rfl rfl (v := 20) rfl dX0_tryNext_28 (fun hk_2 hq_3 => ?_)
    refine lv_iload_n hx hb dX0_tryNext_31 rfl (lv_at hl 1 rfl) ?_
    refine lv_aload_n hx hb dX0_tryNext_32 rfl (lv_at hl 0 rfl) ?_
    refine q_getp (own := RX0) (ref := RX0) (C := RX0) (T := TX0) (N := 13) (kc := 0) (ci := 0) hx hb hts hin0 hown hK hW h_this (by decide) rfl 8 (by decide) hw2 rfl rfl rfl (v := 21) rfl dX0_tryNext_33 (fun hk_4 hq_5 => ?_)
    refine lv_iload_n hx hb dX0_tryNext_36 rfl (lv_at hl 1 rfl) ?_
    obtain ⟨hi_6, hf⟩ := g_in hf
    refine q_lald hx hb hK hW hk_4 (inb_of hq_5 hi_6) dX0_tryNext_37 ?_
    refine lv_l2i hx hb dX0_tryNext_38 rfl ?_
    obtain ⟨hi_7, hf⟩ := g_in hf
    refine q_iast hx hb hK hW hS hk_2 (inb_of hq_3 hi_7) dX0_tryNext_39 (fun H locs hW hS => ?_)
    obtain ⟨σ_8, eσ_8⟩ : ∃ y : Mm, y = (Mm.si σ_1 20 (ix a1) (Int64.toInt32 (Mm.gl σ_1 21 (ix a1)))) := ⟨_, rfl⟩
    rw [← eσ_8] at hW
    have hf := g_lt eσ_8 hf
    refine lv_aload_n hx hb dX0_tryNext_40 rfl (lv_at hl 0 rfl) ?_
    refine q_getp (own := RX0) (ref := RX0) (C := RX0) (T := TX0) (N := 13) (kc := 0) (ci := 0) hx hb hts hin0 hown hK hW h_this (by decide) rfl 8 (by decide) hw2 rfl rfl rfl (v := 21) rfl dX0_tryNext_41 (fun hk_9 hq_10 => ?_)
    refine lv_iload_n hx hb dX0_tryNext_44 rfl (lv_at hl 1 rfl) ?_
    refine lv_dup2_11 hx hb dX0_tryNext_45 rfl rfl ?_
    obtain ⟨hi_11, hf⟩ := g_in hf
    refine q_lald hx hb hK hW hk_9 (inb_of hq_10 hi_11) dX0_tryNext_46 ?_
    refine lv_lconst (v := 1) hx hb dX0_tryNext_47 (by decide) ?_
    refine lv_ladd hx hb dX0_tryNext_48 ?_
    obtain ⟨hi_12, hf⟩ := g_in hf
    refine q_last hx hb hK hW hS hk_9 (inb_of hq_10 hi_12) dX0_tryNext_49 (fun H locs hW hS => ?_)
    obtain ⟨σ_13, eσ_13⟩ : ∃ y : Mm, y = (Mm.sl σ_8 21 (ix a1) ((Mm.gl σ_8 21 (ix a1)) + 1)) := ⟨_, rfl⟩
    rw [← eσ_13] at hW
    have hf := g_lt eσ_13 hf
    refine lv_aload_n hx hb dX0_tryNext_50 rfl (lv_at hl 0 rfl) ?_
    refine q_getp (own := RX0) (ref := RX0) (C := RX0) (T := TX0) (N := 13) (kc := 0) (ci := 0) hx hb hts hin0 hown hK hW h_this (by decide) rfl 10 (by decide) hw3 rfl rfl rfl (v := 23) rfl dX0_tryNext_51 (fun hk_14 hq_15 => ?_)
    refine lv_iload_n hx hb dX0_tryNext_54 rfl (lv_at hl 1 rfl) ?_
    obtain ⟨hi_16, hf⟩ := g_in hf
    refine q_aalp (kc := 13) (t := 3) hx hb hK hW hk_14 rfl (inb_of hq_15 hi_16) rfl dX0_tryNext_55 (fun hk_17 hq_18 => ?_)
    refine lv_aload_n hx hb dX0_tryNext_56 rfl (lv_at hl 0 rfl) ?_
    refine q_getp (own := RX0) (ref := RX0) (C := RX0) (T := TX0) (N := 13) (kc := 0) (ci := 0) hx hb hts hin0 hown hK hW h_this (by decide) rfl 10 (by decide) hw3 rfl rfl rfl (v := 23) rfl dX0_tryNext_57 (fun hk_19 hq_20 => ?_)
    refine lv_iload_n hx hb dX0_tryNext_60 rfl (lv_at hl 1 rfl) ?_
    refine lv_iconst (v := 1) hx hb dX0_tryNext_61 (by decide) ?_
    refine lv_isub hx hb dX0_tryNext_62 ?_
    obtain ⟨hi_21, hf⟩ := g_in hf
    refine q_aalp (kc := 13) (t := 3) hx hb hK hW hk_19 rfl (inb_of hq_20 hi_21) rfl dX0_tryNext_63 (fun hk_22 hq_23 => ?_)
    refine lv_aload_n hx hb dX0_tryNext_64 rfl (lv_at hl 0 rfl) ?_
    refine lv_aload_n hx hb dX0_tryNext_65 rfl (lv_at hl 0 rfl) ?_
    refine q_getp (own := RX0) (ref := RX0) (C := RX0) (T := TX0) (N := 13) (kc := 0) (ci := 0) hx hb hts hin0 hown hK hW h_this (by decide) rfl 5 (by decide) hw4 rfl rfl rfl (v := 18) rfl dX0_tryNext_66 (fun hk_24 hq_25 => ?_)
    refine lv_iload_n hx hb dX0_tryNext_69 rfl (lv_at hl 1 rfl) ?_
    obtain ⟨hi_26, hf⟩ := g_in hf
    refine q_iald hx hb hK hW hk_24 (inb_of hq_25 hi_26) dX0_tryNext_70 ?_
    refine lv_aload_n hx hb dX0_tryNext_71 rfl (lv_at hl 0 rfl) ?_
    refine q_getp (own := RX0) (ref := RX0) (C := RX0) (T := TX0) (N := 13) (kc := 0) (ci := 0) hx hb hts hin0 hown hK hW h_this (by decide) rfl 6 (by decide) hw5 rfl rfl rfl (v := 19) rfl dX0_tryNext_72 (fun hk_27 hq_28 => ?_)
    refine lv_iload_n hx hb dX0_tryNext_75 rfl (lv_at hl 1 rfl) ?_
    obtain ⟨hi_29, hf⟩ := g_in hf
    refine q_iald hx hb hK hW hk_27 (inb_of hq_28 hi_29) dX0_tryNext_76 ?_
    obtain ⟨r_32, σ_31, hc_30, hf⟩ := g_bnd hf
    refine q_calll (va_runV (As := [.int (Mm.gi σ_13 18 (ix a1)), .int (Mm.gi σ_13 19 (ix a1))]) (rest := [.ref (z + (26 + 1 * ix (a1 - 1))), .ref (z + (26 + 1 * ix a1))]) ⟨hx, hb, hml, hown, hts⟩ (k_X0_lowest l z n D cy Y h_this hc_30) (cwV 2 hts gX0_tryNext_X0_lowest rfl rfl rfl (by decide +kernel) ⟨Nat.le_of_ble_eq_true rfl, Nat.le_of_ble_eq_true rfl⟩) (q_PV (T := TX0) (N := 13) hK hN hW h_this (by decide) rfl) rfl rfl hl.1 rfl (lv_room (Nat.le_of_ble_eq_true rfl)) dX0_tryNext_77 ⟨Nat.le_refl _, Nat.le_refl _⟩) hS (fun H locs hW hS => ?_)
    refine lv_aload_n hx hb dX0_tryNext_80 rfl (lv_at hl 0 rfl) ?_
    refine lv_aload_n hx hb dX0_tryNext_81 rfl (lv_at hl 0 rfl) ?_
    refine q_getp (own := RX0) (ref := RX0) (C := RX0) (T := TX0) (N := 13) (kc := 0) (ci := 0) hx hb hts hin0 hown hK hW h_this (by decide) rfl 5 (by decide) hw4 rfl rfl rfl (v := 18) rfl dX0_tryNext_82 (fun hk_33 hq_34 => ?_)
    refine lv_iload_n hx hb dX0_tryNext_85 rfl (lv_at hl 1 rfl) ?_
    obtain ⟨hi_35, hf⟩ := g_in hf
    refine q_iald hx hb hK hW hk_33 (inb_of hq_34 hi_35) dX0_tryNext_86 ?_
    refine lv_aload_n hx hb dX0_tryNext_87 rfl (lv_at hl 0 rfl) ?_
    refine q_getp (own := RX0) (ref := RX0) (C := RX0) (T := TX0) (N := 13) (kc := 0) (ci := 0) hx hb hts hin0 hown hK hW h_this (by decide) rfl 6 (by decide) hw5 rfl rfl rfl (v := 19) rfl dX0_tryNext_88 (fun hk_36 hq_37 => ?_)
    refine lv_iload_n hx hb dX0_tryNext_91 rfl (lv_at hl 1 rfl) ?_
    obtain ⟨hi_38, hf⟩ := g_in hf
    refine q_iald hx hb hK hW hk_36 (inb_of hq_37 hi_38) dX0_tryNext_92 ?_
    obtain ⟨r_41, σ_40, hc_39, hf⟩ := g_bnd hf
    refine q_calll (va_runV (As := [.int (Mm.gi σ_31 18 (ix a1)), .int (Mm.gi σ_31 19 (ix a1))]) (rest := [.long r_32, .ref (z + (26 + 1 * ix (a1 - 1))), .ref (z + (26 + 1 * ix a1))]) ⟨hx, hb, hml, hown, hts⟩ (k_X0_highest l z n D cy Y h_this hc_39) (cwV 2 hts gX0_tryNext_X0_highest rfl rfl rfl (by decide +kernel) ⟨Nat.le_of_ble_eq_true rfl, Nat.le_of_ble_eq_true rfl⟩) (q_PV (T := TX0) (N := 13) hK hN hW h_this (by decide) rfl) rfl rfl hl.1 rfl (lv_room (Nat.le_of_ble_eq_true rfl)) dX0_tryNext_93 ⟨Nat.le_refl _, Nat.le_refl _⟩) hS (fun H locs hW hS => ?_)
    refine lv_aload_n hx hb dX0_tryNext_96 rfl (lv_at hl 0 rfl) ?_
    refine q_getp (own := RX0) (ref := RX0) (C := RX0) (T := TX0) (N := 13) (kc := 0) (ci := 0) hx hb hts hin0 hown hK hW h_this (by decide) rfl 7 (by decide) hw1 rfl rfl rfl (v := 20) rfl dX0_tryNext_97 (fun hk_42 hq_43 => ?_)
    refine lv_iload_n hx hb dX0_tryNext_100 rfl (lv_at hl 1 rfl) ?_
    obtain ⟨hi_44, hf⟩ := g_in hf
    refine q_iald hx hb hK hW hk_42 (inb_of hq_43 hi_44) dX0_tryNext_101 ?_
    refine lv_i2l hx hb dX0_tryNext_102 rfl ?_
    obtain ⟨σ_46, hc_45, hf⟩ := g_bn1 hf
    refine q_callv (va_runV (As := [.ref (z + (26 + 1 * ix (a1 - 1))), .long r_32, .long r_41, .long (Int32.toInt64 (Mm.gi σ_40 20 (ix a1)))]) (rest := []) ⟨hx, hb, hml, hown, hts⟩ (k_X5_narrow l z n D cy Y hk_17 hk_22 hc_45) (cwV 4 hts gX0_tryNext_X5_narrow rfl rfl rfl (by decide +kernel) ⟨Nat.le_of_ble_eq_true rfl, Nat.le_of_ble_eq_true rfl⟩) (q_PV (T := TX5) (N := 4) hK hN hW hk_17 (by decide) rfl) rfl rfl hl.1 rfl (lv_room (Nat.le_of_ble_eq_true rfl)) dX0_tryNext_103 ⟨Nat.le_refl _, Nat.le_refl _⟩) hS (fun H locs hW hS => ?_)
    refine lv_iconst (v := 1) hx hb dX0_tryNext_106 (by decide) ?_
    exact q_zret hx hb hr hlocks hW hS hf dX0_tryNext_107
  · have hf := g_neg c hf
    refine lv_aload_n hx hb dX0_tryNext_20 rfl (lv_at hl 0 rfl) ?_
    refine lv_iconst (v := 1) hx hb dX0_tryNext_21 (by decide) ?_
    refine q_puti (own := RX0) (ref := RX0) (C := RX0) (T := TX0) (N := 13) (kc := 0) (ci := 0) hx hb hts hin0 tyX0_ok nmX0 hown hK hW hS h_this (by decide) rfl 1 (by decide) hw6 rfl rfl (ty := .boolean) (tyX0_ok 1 (by decide)) rfl rfl rfl dX0_tryNext_22 (fun H locs hW hS => ?_)
    obtain ⟨σ_47, eσ_47⟩ : ∃ y : Mm, y = (Mm.si σ_1 this 1 1) := ⟨_, rfl⟩
    rw [← eσ_47] at hW
    have hf := g_lt eσ_47 hf
    refine lv_iconst (v := 0) hx hb dX0_tryNext_25 (by decide) ?_
    exact q_zret hx hb hr hlocks hW hS hf dX0_tryNext_26
set_option maxRecDepth 100000 in
set_option maxHeartbeats 40000000 in
theorem k_X5_span (l : Launch) (z n : Nat) (D : va_G) (cy : Nat → ClassId) (Y : Yt) {this : Nat} {a1 : Int32} {a2 : Int32} {σ : Mm} {σ1 : Mm} (h_this : okk Y n 3 this) (hf : f_X5_span Y this a1 a2 σ = some σ1) : Kv l yX5_span wsX5_span ({ frames := 0, cells := 0, slots := 0, locals := 0 } : Room) z n D cy Y [.ref (z + this), .int a1, .int a2] σ σ1 := by
  refine Met.ofW (cc := cX5_span) (maxL := 3) (ret := none) (by decide +kernel) rfl ?_
  intro p e s m args below meth c s₁ B hml hv
  obtain ⟨rfl, hW, hK, hN⟩ := hv
  have hx := B.exec
  have hb := B.bytes
  have hr := B.returns
  have hts := atoms_spec (ws := wsX5_span) B.pre
  have hown : s.vm.findClass RX5 = some m.cls := findClass_of_methodNamed B.named
  have hlocks := B.notSynchronized
  have hS : va_S (Az z) s.heap s.heap [] := va_S.rf
  have hin5 : ∀ w ∈ wsX50, w ∈ wsX5_span := fun w h => List.mem_cons_of_mem _ (List.mem_append_right _ h)
  have hw0 := hts (.fieldLink RX5 7 "SkyClocks$Periods" "lowAbove" "J") (List.mem_of_getElem? (i := 1) rfl)
  have hw1 := hts (.fieldLink RX5 13 "SkyClocks$Periods" "lowBelow" "J") (List.mem_of_getElem? (i := 2) rfl)
  have hw2 := hts (.fieldLink RX5 16 "SkyClocks$Periods" "highAbove" "J") (List.mem_of_getElem? (i := 3) rfl)
  have hw3 := hts (.fieldLink RX5 19 "SkyClocks$Periods" "highBelow" "J") (List.mem_of_getElem? (i := 4) rfl)
  have hl := lv_entry ([.ref (z + this), .int a1, .int a2]) (n := 3) (Nat.le_of_ble_eq_true rfl)
  rw [lg_entry_eq]
  generalize (lg_sl ([.ref (z + this), .int a1, .int a2]) ++ List.replicate (3 - (lg_sl ([.ref (z + this), .int a1, .int a2])).length) Slot.unset).toArray = ls at hl ⊢
  have hl : lv_has ls 3 [(0, .ref (z + this)), (1, .int a1), (2, .int a2)] := hl
  refine lv_aload_n hx hb dX5_span_0 rfl (lv_at hl 0 rfl) ?_
  refine lv_iload_n hx hb dX5_span_1 rfl (lv_at hl 1 rfl) ?_
  refine lv_i2l hx hb dX5_span_2 rfl ?_
  refine q_putl (own := RX5) (ref := RX5) (C := RX5) (T := TX5) (N := 4) (kc := 3) (ci := 0) hx hb hts hin5 tyX5_ok nmX5 hown hK hW hS h_this (by decide) rfl 0 (by decide) hw0 rfl rfl (tyX5_ok 0 (by decide)) rfl dX5_span_3 (fun H locs hW hS => ?_)
  obtain ⟨σ_1, eσ_1⟩ : ∃ y : Mm, y = (Mm.sl σ this 0 (Int32.toInt64 a1)) := ⟨_, rfl⟩
  rw [← eσ_1] at hW
  have hf := g_lt eσ_1 hf
  refine lv_aload_n hx hb dX5_span_6 rfl (lv_at hl 0 rfl) ?_
  refine lv_lconst (v := 1) hx hb dX5_span_7 (by decide) ?_
  refine q_putl (own := RX5) (ref := RX5) (C := RX5) (T := TX5) (N := 4) (kc := 3) (ci := 0) hx hb hts hin5 tyX5_ok nmX5 hown hK hW hS h_this (by decide) rfl 1 (by decide) hw1 rfl rfl (tyX5_ok 1 (by decide)) rfl dX5_span_8 (fun H locs hW hS => ?_)
  obtain ⟨σ_2, eσ_2⟩ : ∃ y : Mm, y = (Mm.sl σ_1 this 1 1) := ⟨_, rfl⟩
  rw [← eσ_2] at hW
  have hf := g_lt eσ_2 hf
  refine lv_aload_n hx hb dX5_span_11 rfl (lv_at hl 0 rfl) ?_
  refine lv_iload_n hx hb dX5_span_12 rfl (lv_at hl 2 rfl) ?_
  refine lv_i2l hx hb dX5_span_13 rfl ?_
  refine q_putl (own := RX5) (ref := RX5) (C := RX5) (T := TX5) (N := 4) (kc := 3) (ci := 0) hx hb hts hin5 tyX5_ok nmX5 hown hK hW hS h_this (by decide) rfl 2 (by decide) hw2 rfl rfl (tyX5_ok 2 (by decide)) rfl dX5_span_14 (fun H locs hW hS => ?_)
  obtain ⟨σ_3, eσ_3⟩ : ∃ y : Mm, y = (Mm.sl σ_2 this 2 (Int32.toInt64 a2)) := ⟨_, rfl⟩
  rw [← eσ_3] at hW
  have hf := g_lt eσ_3 hf
  refine lv_aload_n hx hb dX5_span_17 rfl (lv_at hl 0 rfl) ?_
  refine lv_lconst (v := 1) hx hb dX5_span_18 (by decide) ?_
  refine q_putl (own := RX5) (ref := RX5) (C := RX5) (T := TX5) (N := 4) (kc := 3) (ci := 0) hx hb hts hin5 tyX5_ok nmX5 hown hK hW hS h_this (by decide) rfl 3 (by decide) hw3 rfl rfl (tyX5_ok 3 (by decide)) rfl dX5_span_19 (fun H locs hW hS => ?_)
  obtain ⟨σ_4, eσ_4⟩ : ∃ y : Mm, y = (Mm.sl σ_3 this 3 1) := ⟨_, rfl⟩
  rw [← eσ_4] at hW
  have hf := g_lt eσ_4 hf
  exact q_vret hx hb hr hlocks hW hS hf dX5_span_22
set_option maxRecDepth 100000 in
set_option maxHeartbeats 40000000 in
theorem k_X0_seek (l : Launch) (z n : Nat) (D : va_G) (cy : Nat → ClassId) (Y : Yt) {fu : Nat} {this : Nat} {a1 : Int32} {a2 : Int32} {σ : Mm} {r : Int32} {σ1 : Mm} (h_this : okk Y n 0 this) (hf : f_X0_seek Y fu this a1 a2 σ = some (r, σ1)) : Ki l yX0_seek wsX0_seek ({ frames := 4, cells := 0, slots := 0, locals := 130 } : Room) z n D cy Y [.ref (z + this), .int a1, .int a2] σ r σ1 := by
  refine Met.ofW (cc := cX0_seek) (maxL := 5) (ret := (some .int)) (by decide +kernel) rfl ?_
  intro p e s m args below meth c s₁ B hml hv
  obtain ⟨rfl, hW, hK, hN⟩ := hv
  have hx := B.exec
  have hb := B.bytes
  have hr := B.returns
  have hts := atoms_spec (ws := wsX0_seek) B.pre
  have hown : s.vm.findClass RX0 = some m.cls := findClass_of_methodNamed B.named
  have hlocks := B.notSynchronized
  have hS : va_S (Az z) s.heap s.heap [] := va_S.rf
  have hin0 : ∀ w ∈ wsX00, w ∈ wsX0_seek := fun w h => List.mem_cons_of_mem _ (List.mem_append_left _ (List.mem_append_right _ h))
  have hw0 := hts (.fieldLink RX0 18 "SkyClocks$Carried" "row" "[I") (List.mem_of_getElem? (i := 1) rfl)
  have hw1 := hts (.fieldLink RX0 30 "SkyClocks$Carried" "allowed" "[LSkyClocks$Periods;") (List.mem_of_getElem? (i := 2) rfl)
  have hw2 := hts (.constant RX0 66 (1000000)) (List.mem_of_getElem? (i := 3) rfl)
  have hw3 := hts (.fieldLink RX0 45 "SkyClocks$Carried" "spent" "Z") (List.mem_of_getElem? (i := 4) rfl)
  have hw4 := hts (.fieldLink RX0 52 "SkyClocks$Carried" "found" "I") (List.mem_of_getElem? (i := 8) rfl)
  have hw5 := hts (.fieldLink RX0 21 "SkyClocks$Carried" "nextCounts" "[J") (List.mem_of_getElem? (i := 5) rfl)
  have hw6 := hts (.fieldLink RX0 25 "SkyClocks$Carried" "lastCounts" "[J") (List.mem_of_getElem? (i := 6) rfl)
  have hw7 := hts (.fieldLink RX0 48 "SkyClocks$Carried" "arrivals" "I") (List.mem_of_getElem? (i := 7) rfl)
  have hl := lv_entry ([.ref (z + this), .int a1, .int a2]) (n := 5) (Nat.le_of_ble_eq_true rfl)
  rw [lg_entry_eq]
  generalize (lg_sl ([.ref (z + this), .int a1, .int a2]) ++ List.replicate (5 - (lg_sl ([.ref (z + this), .int a1, .int a2])).length) Slot.unset).toArray = ls at hl ⊢
  have hl : lv_has ls 5 [(0, .ref (z + this)), (1, .int a1), (2, .int a2)] := hl
  have B107 : ∀ (σ : Mm), b_X0_seek_107 Y fu this a1 a2 σ = some (r, σ1) → ∀ (H : Heap) (locs : List Loc) (ls : Array Slot), WH z n D cy Y σ H → va_S (Az z) s.heap H locs → lv_has ls 5 [(0, .ref (z + this)), (1, .int a1), (2, .int a2)] → W p l e ({ frames := 4, cells := 0, slots := 0, locals := 130 } : Room) s m ([.ref (z + this), .int a1, .int a2] : List Value).toArray below meth c H locs 0 0 (MQ below (va_Qi (fun (x : Int32) (_ : Unit) => x = r) (fun _ t => WH z n D cy Y σ1 t.heap) (Az z)) ([.ref (z + this), .int a1, .int a2] : List Value).toArray s 0 0 (Az z)) (F0 m 107 ls []) := by
    intro  σ  hf H locs ls hW hS hl
    refine lv_aload_n hx hb dX0_seek_107 rfl (lv_at hl 0 rfl) ?_
    refine q_geti (own := RX0) (ref := RX0) (C := RX0) (T := TX0) (N := 13) (kc := 0) (ci := 0) hx hb hts hin0 hown hK hW h_this (by decide) rfl 1 (by decide) hw3 rfl rfl dX0_seek_108 ?_
    refine lv_if_eq (tgt := 122) hx hb dX0_seek_111 (by decide) (fun c => ?_) (fun c => ?_)
    · have hf := g_pos c hf
      refine lv_aload_n hx hb dX0_seek_122 rfl (lv_at hl 0 rfl) ?_
      refine q_geti (own := RX0) (ref := RX0) (C := RX0) (T := TX0) (N := 13) (kc := 0) (ci := 0) hx hb hts hin0 hown hK hW h_this (by decide) rfl 3 (by decide) hw4 rfl rfl dX0_seek_123 ?_
      exact q_iret hx hb hr hlocks hW hS hf dX0_seek_126
    · have hf := g_neg c hf
      refine lv_aload_n hx hb dX0_seek_114 rfl (lv_at hl 0 rfl) ?_
      refine lv_iconst (v := 0) hx hb dX0_seek_115 (by decide) ?_
      refine q_puti (own := RX0) (ref := RX0) (C := RX0) (T := TX0) (N := 13) (kc := 0) (ci := 0) hx hb hts hin0 tyX0_ok nmX0 hown hK hW hS h_this (by decide) rfl 3 (by decide) hw4 rfl rfl (ty := .int) (tyX0_ok 3 (by decide)) rfl rfl rfl dX0_seek_116 (fun H locs hW hS => ?_)
      obtain ⟨σ_14, eσ_14⟩ : ∃ y : Mm, y = (Mm.si σ this 3 0) := ⟨_, rfl⟩
      rw [← eσ_14] at hW
      have hf := g_lt eσ_14 hf
      refine lv_bipush (v := (-5)) hx hb dX0_seek_119 (by decide) ?_
      exact q_iret hx hb hr hlocks hW hS hf dX0_seek_121
  have B101 : ∀ (k28 : Int32 → Int32 → Mm → Option (Int32 × Mm)) (H28 : ∀ (x3 : Int32) (x4 : Int32) (σ : Mm), k28 x3 x4 σ = some (r, σ1) → ∀ (H : Heap) (locs : List Loc) (ls : Array Slot), WH z n D cy Y σ H → va_S (Az z) s.heap H locs → lv_has ls 5 [(0, .ref (z + this)), (1, .int a1), (2, .int a2), (3, .int x3), (4, .int x4)] → W p l e ({ frames := 4, cells := 0, slots := 0, locals := 130 } : Room) s m ([.ref (z + this), .int a1, .int a2] : List Value).toArray below meth c H locs 0 0 (MQ below (va_Qi (fun (x : Int32) (_ : Unit) => x = r) (fun _ t => WH z n D cy Y σ1 t.heap) (Az z)) ([.ref (z + this), .int a1, .int a2] : List Value).toArray s 0 0 (Az z)) (F0 m 28 ls [])) (x3 : Int32) (x4 : Int32) (σ : Mm), b_X0_seek_101 Y fu this a1 a2 k28 x3 x4 σ = some (r, σ1) → ∀ (H : Heap) (locs : List Loc) (ls : Array Slot), WH z n D cy Y σ H → va_S (Az z) s.heap H locs → lv_has ls 5 [(0, .ref (z + this)), (1, .int a1), (2, .int a2), (3, .int x3), (4, .int x4)] → W p l e ({ frames := 4, cells := 0, slots := 0, locals := 130 } : Room) s m ([.ref (z + this), .int a1, .int a2] : List Value).toArray below meth c H locs 0 0 (MQ below (va_Qi (fun (x : Int32) (_ : Unit) => x = r) (fun _ t => WH z n D cy Y σ1 t.heap) (Az z)) ([.ref (z + this), .int a1, .int a2] : List Value).toArray s 0 0 (Az z)) (F0 m 101 ls []) := by
    intro k28 H28 x3 x4 σ  hf H locs ls hW hS hl
    obtain ⟨x4_24, ex4_24⟩ : ∃ y : Int32, y = x4 + 1 := ⟨_, rfl⟩
    have hf := g_lt ex4_24 hf
    refine lv_iinc (v := x4_24) (lv' := [(4, .int x4_24), (0, .ref (z + this)), (1, .int a1), (2, .int a2), (3, .int x3)]) hx hb dX0_seek_101 hl (k := 4) rfl (by rw [ex4_24]; rfl) (by decide) rfl (fun ls hl => ?_)
    refine lv_goto (tgt := 28) hx hb dX0_seek_104 (by decide) ?_
    exact H28 x3 x4_24 σ hf _ _ _ hW hS (lv_sub hl [1, 2, 3, 4, 0] rfl)
  have B28 : ∀ (nn : Nat) (x3 : Int32) (x4 : Int32) (σ : Mm), b_X0_seek_28 Y fu this a1 a2 nn x3 x4 σ = some (r, σ1) → ∀ (H : Heap) (locs : List Loc) (ls : Array Slot), WH z n D cy Y σ H → va_S (Az z) s.heap H locs → lv_has ls 5 [(0, .ref (z + this)), (1, .int a1), (2, .int a2), (3, .int x3), (4, .int x4)] → W p l e ({ frames := 4, cells := 0, slots := 0, locals := 130 } : Room) s m ([.ref (z + this), .int a1, .int a2] : List Value).toArray below meth c H locs 0 0 (MQ below (va_Qi (fun (x : Int32) (_ : Unit) => x = r) (fun _ t => WH z n D cy Y σ1 t.heap) (Az z)) ([.ref (z + this), .int a1, .int a2] : List Value).toArray s 0 0 (Az z)) (F0 m 28 ls []) := by
    intro nn
    induction nn with
    | zero =>
      intro x3 x4 σ  hf
      have h9 : (none : Option (Int32 × Mm)) = some (r, σ1) := hf
      cases h9
    | succ nn H28 =>
      intro x3 x4 σ  hf H locs ls hW hS hl
      have hf : s_X0_seek_28 Y fu this a1 a2 (b_X0_seek_28 Y fu this a1 a2 nn) x3 x4 σ = some (r, σ1) := hf
      generalize hkk : b_X0_seek_28 Y fu this a1 a2 nn = k28 at hf H28
      refine lv_iload hx hb dX0_seek_28 (lv_at hl 4 rfl) ?_
      refine lv_ldc hx hb hown hw2 dX0_seek_30 ?_
      refine lv_icmp_ge (tgt := 107) hx hb dX0_seek_32 (by decide) (fun c => ?_) (fun c => ?_)
      · have hf := g_pos c hf
        exact B107 σ hf _ _ _ hW hS (lv_sub hl [0, 1, 2] rfl)
      · have hf := g_neg c hf
        refine lv_iload_n hx hb dX0_seek_35 rfl (lv_at hl 3 rfl) ?_
        refine lv_if_le (tgt := 107) hx hb dX0_seek_36 (by decide) (fun c => ?_) (fun c => ?_)
        · have hf := g_pos c hf
          exact B107 σ hf _ _ _ hW hS (lv_sub hl [0, 1, 2] rfl)
        · have hf := g_neg c hf
          refine lv_aload_n hx hb dX0_seek_39 rfl (lv_at hl 0 rfl) ?_
          refine q_geti (own := RX0) (ref := RX0) (C := RX0) (T := TX0) (N := 13) (kc := 0) (ci := 0) hx hb hts hin0 hown hK hW h_this (by decide) rfl 1 (by decide) hw3 rfl rfl dX0_seek_40 ?_
          refine lv_if_ne (tgt := 107) hx hb dX0_seek_43 (by decide) (fun c => ?_) (fun c => ?_)
          · have hf := g_neg c hf
            exact B107 σ hf _ _ _ hW hS (lv_sub hl [0, 1, 2] rfl)
          · have hf := g_pos c hf
            refine lv_aload_n hx hb dX0_seek_46 rfl (lv_at hl 0 rfl) ?_
            refine q_getp (own := RX0) (ref := RX0) (C := RX0) (T := TX0) (N := 13) (kc := 0) (ci := 0) hx hb hts hin0 hown hK hW h_this (by decide) rfl 8 (by decide) hw5 rfl rfl rfl (v := 21) rfl dX0_seek_47 (fun hk_15 hq_16 => ?_)
            refine lv_iload_n hx hb dX0_seek_50 rfl (lv_at hl 3 rfl) ?_
            obtain ⟨hi_17, hf⟩ := g_in hf
            refine q_lald hx hb hK hW hk_15 (inb_of hq_16 hi_17) dX0_seek_51 ?_
            refine lv_aload_n hx hb dX0_seek_52 rfl (lv_at hl 0 rfl) ?_
            refine q_getp (own := RX0) (ref := RX0) (C := RX0) (T := TX0) (N := 13) (kc := 0) (ci := 0) hx hb hts hin0 hown hK hW h_this (by decide) rfl 9 (by decide) hw6 rfl rfl rfl (v := 22) rfl dX0_seek_53 (fun hk_18 hq_19 => ?_)
            refine lv_iload_n hx hb dX0_seek_56 rfl (lv_at hl 3 rfl) ?_
            obtain ⟨hi_20, hf⟩ := g_in hf
            refine q_lald hx hb hK hW hk_18 (inb_of hq_19 hi_20) dX0_seek_57 ?_
            refine W.lcmp hx hb dX0_seek_58 ?_
            refine lv_if_le (tgt := 68) hx hb dX0_seek_59 (by decide) (fun c => ?_) (fun c => ?_)
            · have hf := g_pos ((lg_cmp_le _ _).mp c) hf
              refine lv_aload_n hx hb dX0_seek_68 rfl (lv_at hl 0 rfl) ?_
              refine lv_iload_n hx hb dX0_seek_69 rfl (lv_at hl 3 rfl) ?_
              obtain ⟨r_23, σ_22, hc_21, hf⟩ := g_bnd hf
              refine q_calli (va_runV (As := [.int x3]) (rest := []) ⟨hx, hb, hml, hown, hts⟩ (k_X0_tryNext l z n D cy Y h_this hc_21) (cwV 1 hts gX0_seek_X0_tryNext rfl rfl rfl (by decide +kernel) ⟨Nat.le_of_ble_eq_true rfl, Nat.le_of_ble_eq_true rfl⟩) (q_PV (T := TX0) (N := 13) hK hN hW h_this (by decide) rfl) rfl rfl hl.1 rfl (lv_room (Nat.le_of_ble_eq_true rfl)) dX0_seek_70 ⟨Nat.le_refl _, Nat.le_refl _⟩) hS (fun H locs hW hS => ?_)
              refine lv_if_eq (tgt := 101) hx hb dX0_seek_73 (by decide) (fun c => ?_) (fun c => ?_)
              · have hf := g_pos c hf
                exact B101 k28 H28 x3 x4 σ_22 hf _ _ _ hW hS (lv_sub hl [0, 1, 2, 3, 4] rfl)
              · have hf := g_neg c hf
                refine lv_iload_n hx hb dX0_seek_76 rfl (lv_at hl 3 rfl) ?_
                refine lv_aload_n hx hb dX0_seek_77 rfl (lv_at hl 0 rfl) ?_
                refine q_geti (own := RX0) (ref := RX0) (C := RX0) (T := TX0) (N := 13) (kc := 0) (ci := 0) hx hb hts hin0 hown hK hW h_this (by decide) rfl 2 (by decide) hw7 rfl rfl dX0_seek_78 ?_
                refine lv_iconst (v := 1) hx hb dX0_seek_81 (by decide) ?_
                refine lv_isub hx hb dX0_seek_82 ?_
                refine lv_icmp_ge (tgt := 97) hx hb dX0_seek_83 (by decide) (fun c => ?_) (fun c => ?_)
                · have hf := g_pos c hf
                  refine lv_aload_n hx hb dX0_seek_97 rfl (lv_at hl 0 rfl) ?_
                  obtain ⟨σ_26, hc_25, hf⟩ := g_bn1 hf
                  refine q_callv (va_runV (As := []) (rest := []) ⟨hx, hb, hml, hown, hts⟩ (k_X0_keep l z n D cy Y h_this hc_25) (cwV 0 hts gX0_seek_X0_keep rfl rfl rfl (by decide +kernel) ⟨Nat.le_of_ble_eq_true rfl, Nat.le_of_ble_eq_true rfl⟩) (q_PV (T := TX0) (N := 13) hK hN hW h_this (by decide) rfl) rfl rfl hl.1 rfl (lv_room (Nat.le_of_ble_eq_true rfl)) dX0_seek_98 ⟨Nat.le_refl _, Nat.le_refl _⟩) hS (fun H locs hW hS => ?_)
                  exact B101 k28 H28 x3 x4 σ_26 hf _ _ _ hW hS (lv_sub hl [0, 1, 2, 3, 4] rfl)
                · have hf := g_neg c hf
                  obtain ⟨x3_27, ex3_27⟩ : ∃ y : Int32, y = x3 + 1 := ⟨_, rfl⟩
                  have hf := g_lt ex3_27 hf
                  refine lv_iinc (v := x3_27) (lv' := [(3, .int x3_27), (0, .ref (z + this)), (1, .int a1), (2, .int a2), (4, .int x4)]) hx hb dX0_seek_86 hl (k := 3) rfl (by rw [ex3_27]; rfl) (by decide) rfl (fun ls hl => ?_)
                  refine lv_aload_n hx hb dX0_seek_89 rfl (lv_at hl 1 rfl) ?_
                  refine lv_iload_n hx hb dX0_seek_90 rfl (lv_at hl 0 rfl) ?_
                  obtain ⟨σ_29, hc_28, hf⟩ := g_bn1 hf
                  refine q_callv (va_runV (As := [.int x3_27]) (rest := []) ⟨hx, hb, hml, hown, hts⟩ (k_X0_open l z n D cy Y h_this hc_28) (cwV 1 hts gX0_seek_X0_open rfl rfl rfl (by decide +kernel) ⟨Nat.le_of_ble_eq_true rfl, Nat.le_of_ble_eq_true rfl⟩) (q_PV (T := TX0) (N := 13) hK hN hW h_this (by decide) rfl) rfl rfl hl.1 rfl (lv_room (Nat.le_of_ble_eq_true rfl)) dX0_seek_91 ⟨Nat.le_refl _, Nat.le_refl _⟩) hS (fun H locs hW hS => ?_)
                  refine lv_goto (tgt := 101) hx hb dX0_seek_94 (by decide) ?_
                  exact B101 k28 H28 x3_27 x4 σ_29 hf _ _ _ hW hS (lv_sub hl [1, 2, 3, 0, 4] rfl)
            · have hf := g_neg (fun h => c ((lg_cmp_le _ _).mpr h)) hf
              obtain ⟨x3_30, ex3_30⟩ : ∃ y : Int32, y = x3 + (-1) := ⟨_, rfl⟩
              have hf := g_lt ex3_30 hf
              refine lv_iinc (v := x3_30) (lv' := [(3, .int x3_30), (0, .ref (z + this)), (1, .int a1), (2, .int a2), (4, .int x4)]) hx hb dX0_seek_62 hl (k := 3) rfl (by rw [ex3_30]; rfl) (by decide) rfl (fun ls hl => ?_)
              refine lv_goto (tgt := 101) hx hb dX0_seek_65 (by decide) ?_
              exact B101 k28 H28 x3_30 x4 σ hf _ _ _ hW hS (lv_sub hl [1, 2, 3, 0, 4] rfl)
  refine lv_aload_n hx hb dX0_seek_0 rfl (lv_at hl 0 rfl) ?_
  refine q_getp (own := RX0) (ref := RX0) (C := RX0) (T := TX0) (N := 13) (kc := 0) (ci := 0) hx hb hts hin0 hown hK hW h_this (by decide) rfl 7 (by decide) hw0 rfl rfl rfl (v := 20) rfl dX0_seek_1 (fun hk_1 hq_2 => ?_)
  refine lv_iconst (v := 0) hx hb dX0_seek_4 (by decide) ?_
  refine lv_iconst (v := 0) hx hb dX0_seek_5 (by decide) ?_
  obtain ⟨hi_3, hf⟩ := g_in hf
  refine q_iast hx hb hK hW hS hk_1 (inb_of hq_2 hi_3) dX0_seek_6 (fun H locs hW hS => ?_)
  obtain ⟨σ_4, eσ_4⟩ : ∃ y : Mm, y = (Mm.si σ 20 (ix 0) 0) := ⟨_, rfl⟩
  rw [← eσ_4] at hW
  have hf := g_lt eσ_4 hf
  refine lv_aload_n hx hb dX0_seek_7 rfl (lv_at hl 0 rfl) ?_
  refine q_getp (own := RX0) (ref := RX0) (C := RX0) (T := TX0) (N := 13) (kc := 0) (ci := 0) hx hb hts hin0 hown hK hW h_this (by decide) rfl 10 (by decide) hw1 rfl rfl rfl (v := 23) rfl dX0_seek_8 (fun hk_5 hq_6 => ?_)
  refine lv_iconst (v := 0) hx hb dX0_seek_11 (by decide) ?_
  obtain ⟨hi_7, hf⟩ := g_in hf
  refine q_aalp (kc := 13) (t := 3) hx hb hK hW hk_5 rfl (inb_of hq_6 hi_7) rfl dX0_seek_12 (fun hk_8 hq_9 => ?_)
  refine lv_iload_n hx hb dX0_seek_13 rfl (lv_at hl 1 rfl) ?_
  refine lv_iload_n hx hb dX0_seek_14 rfl (lv_at hl 2 rfl) ?_
  obtain ⟨σ_11, hc_10, hf⟩ := g_bn1 hf
  refine q_callv (va_runV (As := [.int a1, .int a2]) (rest := []) ⟨hx, hb, hml, hown, hts⟩ (k_X5_span l z n D cy Y hk_8 hc_10) (cwV 2 hts gX0_seek_X5_span rfl rfl rfl (by decide +kernel) ⟨Nat.le_of_ble_eq_true rfl, Nat.le_of_ble_eq_true rfl⟩) (q_PV (T := TX5) (N := 4) hK hN hW hk_8 (by decide) rfl) rfl rfl hl.1 rfl (lv_room (Nat.le_of_ble_eq_true rfl)) dX0_seek_15 ⟨Nat.le_refl _, Nat.le_refl _⟩) hS (fun H locs hW hS => ?_)
  refine lv_iconst (v := 1) hx hb dX0_seek_18 (by decide) ?_
  refine lv_istore_n (lv' := [(3, .int 1), (0, .ref (z + this)), (1, .int a1), (2, .int a2)]) hx hb dX0_seek_19 rfl hl (by decide) rfl (fun ls hl => ?_)
  refine lv_aload_n hx hb dX0_seek_20 rfl (lv_at hl 1 rfl) ?_
  refine lv_iload_n hx hb dX0_seek_21 rfl (lv_at hl 0 rfl) ?_
  obtain ⟨σ_13, hc_12, hf⟩ := g_bn1 hf
  refine q_callv (va_runV (As := [.int 1]) (rest := []) ⟨hx, hb, hml, hown, hts⟩ (k_X0_open l z n D cy Y h_this hc_12) (cwV 1 hts gX0_seek_X0_open rfl rfl rfl (by decide +kernel) ⟨Nat.le_of_ble_eq_true rfl, Nat.le_of_ble_eq_true rfl⟩) (q_PV (T := TX0) (N := 13) hK hN hW h_this (by decide) rfl) rfl rfl hl.1 rfl (lv_room (Nat.le_of_ble_eq_true rfl)) dX0_seek_22 ⟨Nat.le_refl _, Nat.le_refl _⟩) hS (fun H locs hW hS => ?_)
  refine lv_iconst (v := 0) hx hb dX0_seek_25 (by decide) ?_
  refine lv_istore (lv' := [(4, .int 0), (3, .int 1), (0, .ref (z + this)), (1, .int a1), (2, .int a2)]) hx hb dX0_seek_26 hl (by decide) rfl (fun ls hl => ?_)
  exact B28 fu 1 0 σ_13 hf _ _ _ hW hS (lv_sub hl [2, 3, 4, 1, 0] rfl)
set_option maxRecDepth 100000 in
set_option maxHeartbeats 40000000 in
theorem k_X0_countOf (l : Launch) (z n : Nat) (D : va_G) (cy : Nat → ClassId) (Y : Yt) {this : Nat} {a1 : Int32} {a2 : Int32} {σ : Mm} {r : Int32} {σ1 : Mm} (h_this : okk Y n 0 this) (hf : f_X0_countOf Y this a1 a2 σ = some (r, σ1)) : Ki l yX0_countOf wsX0_countOf ({ frames := 0, cells := 0, slots := 0, locals := 0 } : Room) z n D cy Y [.ref (z + this), .int a1, .int a2] σ r σ1 := by
  refine Met.ofW (cc := cX0_countOf) (maxL := 3) (ret := (some .int)) (by decide +kernel) rfl ?_
  intro p e s m args below meth c s₁ B hml hv
  obtain ⟨rfl, hW, hK, hN⟩ := hv
  have hx := B.exec
  have hb := B.bytes
  have hr := B.returns
  have hts := atoms_spec (ws := wsX0_countOf) B.pre
  have hown : s.vm.findClass RX0 = some m.cls := findClass_of_methodNamed B.named
  have hlocks := B.notSynchronized
  have hS : va_S (Az z) s.heap s.heap [] := va_S.rf
  have hin0 : ∀ w ∈ wsX00, w ∈ wsX0_countOf := fun w h => List.mem_cons_of_mem _ (List.mem_append_right _ h)
  have hw0 := hts (.fieldLink RX0 34 "SkyClocks$Carried" "counts" "[I") (List.mem_of_getElem? (i := 1) rfl)
  have hl := lv_entry ([.ref (z + this), .int a1, .int a2]) (n := 3) (Nat.le_of_ble_eq_true rfl)
  rw [lg_entry_eq]
  generalize (lg_sl ([.ref (z + this), .int a1, .int a2]) ++ List.replicate (3 - (lg_sl ([.ref (z + this), .int a1, .int a2])).length) Slot.unset).toArray = ls at hl ⊢
  have hl : lv_has ls 3 [(0, .ref (z + this)), (1, .int a1), (2, .int a2)] := hl
  refine lv_aload_n hx hb dX0_countOf_0 rfl (lv_at hl 0 rfl) ?_
  refine q_getp (own := RX0) (ref := RX0) (C := RX0) (T := TX0) (N := 13) (kc := 0) (ci := 0) hx hb hts hin0 hown hK hW h_this (by decide) rfl 11 (by decide) hw0 rfl rfl rfl (v := 24) rfl dX0_countOf_1 (fun hk_1 hq_2 => ?_)
  refine lv_iload_n hx hb dX0_countOf_4 rfl (lv_at hl 1 rfl) ?_
  refine lv_bipush (v := 24) hx hb dX0_countOf_5 (by decide) ?_
  refine lv_imul hx hb dX0_countOf_7 ?_
  refine lv_iload_n hx hb dX0_countOf_8 rfl (lv_at hl 2 rfl) ?_
  refine lv_iadd hx hb dX0_countOf_9 ?_
  obtain ⟨hi_3, hf⟩ := g_in hf
  refine q_iald hx hb hK hW hk_1 (inb_of hq_2 hi_3) dX0_countOf_10 ?_
  exact q_iret hx hb hr hlocks hW hS hf dX0_countOf_11
set_option maxRecDepth 100000 in
set_option maxHeartbeats 40000000 in
theorem k_X0_oneCount (l : Launch) (z n : Nat) (D : va_G) (cy : Nat → ClassId) (Y : Yt) {fu : Nat} {this : Nat} {a1 : Int32} {σ : Mm} {r : Int32} {σ1 : Mm} (h_this : okk Y n 0 this) (hf : f_X0_oneCount Y fu this a1 σ = some (r, σ1)) : Ki l yX0_oneCount wsX0_oneCount ({ frames := 1, cells := 0, slots := 0, locals := 22 } : Room) z n D cy Y [.ref (z + this), .int a1] σ r σ1 := by
  refine Met.ofW (cc := cX0_oneCount) (maxL := 3) (ret := (some .int)) (by decide +kernel) rfl ?_
  intro p e s m args below meth c s₁ B hml hv
  obtain ⟨rfl, hW, hK, hN⟩ := hv
  have hx := B.exec
  have hb := B.bytes
  have hr := B.returns
  have hts := atoms_spec (ws := wsX0_oneCount) B.pre
  have hown : s.vm.findClass RX0 = some m.cls := findClass_of_methodNamed B.named
  have hlocks := B.notSynchronized
  have hS : va_S (Az z) s.heap s.heap [] := va_S.rf
  have hin0 : ∀ w ∈ wsX00, w ∈ wsX0_oneCount := fun w h => List.mem_cons_of_mem _ (List.mem_append_right _ h)
  have hw0 := hts (.fieldLink RX0 52 "SkyClocks$Carried" "found" "I") (List.mem_of_getElem? (i := 1) rfl)
  have hl := lv_entry ([.ref (z + this), .int a1]) (n := 3) (Nat.le_of_ble_eq_true rfl)
  rw [lg_entry_eq]
  generalize (lg_sl ([.ref (z + this), .int a1]) ++ List.replicate (3 - (lg_sl ([.ref (z + this), .int a1])).length) Slot.unset).toArray = ls at hl ⊢
  have hl : lv_has ls 3 [(0, .ref (z + this)), (1, .int a1)] := hl
  have B2 : ∀ (nn : Nat) (x2 : Int32) (σ : Mm), b_X0_oneCount_2 Y fu this a1 nn x2 σ = some (r, σ1) → ∀ (H : Heap) (locs : List Loc) (ls : Array Slot), WH z n D cy Y σ H → va_S (Az z) s.heap H locs → lv_has ls 3 [(0, .ref (z + this)), (1, .int a1), (2, .int x2)] → W p l e ({ frames := 1, cells := 0, slots := 0, locals := 22 } : Room) s m ([.ref (z + this), .int a1] : List Value).toArray below meth c H locs 0 0 (MQ below (va_Qi (fun (x : Int32) (_ : Unit) => x = r) (fun _ t => WH z n D cy Y σ1 t.heap) (Az z)) ([.ref (z + this), .int a1] : List Value).toArray s 0 0 (Az z)) (F0 m 2 ls []) := by
    intro nn
    induction nn with
    | zero =>
      intro x2 σ  hf
      have h9 : (none : Option (Int32 × Mm)) = some (r, σ1) := hf
      cases h9
    | succ nn H2 =>
      intro x2 σ  hf H locs ls hW hS hl
      have hf : s_X0_oneCount_2 Y fu this a1 (b_X0_oneCount_2 Y fu this a1 nn) x2 σ = some (r, σ1) := hf
      generalize hkk : b_X0_oneCount_2 Y fu this a1 nn = k2 at hf H2
      refine lv_iload_n hx hb dX0_oneCount_2 rfl (lv_at hl 2 rfl) ?_
      refine lv_aload_n hx hb dX0_oneCount_3 rfl (lv_at hl 0 rfl) ?_
      refine q_geti (own := RX0) (ref := RX0) (C := RX0) (T := TX0) (N := 13) (kc := 0) (ci := 0) hx hb hts hin0 hown hK hW h_this (by decide) rfl 3 (by decide) hw0 rfl rfl dX0_oneCount_4 ?_
      refine lv_icmp_ge (tgt := 34) hx hb dX0_oneCount_7 (by decide) (fun c => ?_) (fun c => ?_)
      · have hf := g_pos c hf
        refine lv_aload_n hx hb dX0_oneCount_34 rfl (lv_at hl 0 rfl) ?_
        refine q_geti (own := RX0) (ref := RX0) (C := RX0) (T := TX0) (N := 13) (kc := 0) (ci := 0) hx hb hts hin0 hown hK hW h_this (by decide) rfl 3 (by decide) hw0 rfl rfl dX0_oneCount_35 ?_
        refine lv_if_ne (tgt := 46) hx hb dX0_oneCount_38 (by decide) (fun c => ?_) (fun c => ?_)
        · have hf := g_neg c hf
          refine lv_aload_n hx hb dX0_oneCount_46 rfl (lv_at hl 0 rfl) ?_
          refine lv_iconst (v := 0) hx hb dX0_oneCount_47 (by decide) ?_
          refine lv_iload_n hx hb dX0_oneCount_48 rfl (lv_at hl 1 rfl) ?_
          obtain ⟨r_3, σ_2, hc_1, hf⟩ := g_bnd hf
          refine q_calli (va_runV (As := [.int 0, .int a1]) (rest := []) ⟨hx, hb, hml, hown, hts⟩ (k_X0_countOf l z n D cy Y h_this hc_1) (cwV 2 hts gX0_oneCount_X0_countOf rfl rfl rfl (by decide +kernel) ⟨Nat.le_of_ble_eq_true rfl, Nat.le_of_ble_eq_true rfl⟩) (q_PV (T := TX0) (N := 13) hK hN hW h_this (by decide) rfl) rfl rfl hl.1 rfl (lv_room (Nat.le_of_ble_eq_true rfl)) dX0_oneCount_49 ⟨Nat.le_refl _, Nat.le_refl _⟩) hS (fun H locs hW hS => ?_)
          exact q_iret hx hb hr hlocks hW hS hf dX0_oneCount_52
        · have hf := g_pos c hf
          refine lv_bipush (v := (-4)) hx hb dX0_oneCount_41 (by decide) ?_
          refine lv_goto (tgt := 52) hx hb dX0_oneCount_43 (by decide) ?_
          exact q_iret hx hb hr hlocks hW hS hf dX0_oneCount_52
      · have hf := g_neg c hf
        refine lv_aload_n hx hb dX0_oneCount_10 rfl (lv_at hl 0 rfl) ?_
        refine lv_iload_n hx hb dX0_oneCount_11 rfl (lv_at hl 2 rfl) ?_
        refine lv_iload_n hx hb dX0_oneCount_12 rfl (lv_at hl 1 rfl) ?_
        obtain ⟨r_6, σ_5, hc_4, hf⟩ := g_bnd hf
        refine q_calli (va_runV (As := [.int x2, .int a1]) (rest := []) ⟨hx, hb, hml, hown, hts⟩ (k_X0_countOf l z n D cy Y h_this hc_4) (cwV 2 hts gX0_oneCount_X0_countOf rfl rfl rfl (by decide +kernel) ⟨Nat.le_of_ble_eq_true rfl, Nat.le_of_ble_eq_true rfl⟩) (q_PV (T := TX0) (N := 13) hK hN hW h_this (by decide) rfl) rfl rfl hl.1 rfl (lv_room (Nat.le_of_ble_eq_true rfl)) dX0_oneCount_13 ⟨Nat.le_refl _, Nat.le_refl _⟩) hS (fun H locs hW hS => ?_)
        refine lv_aload_n hx hb dX0_oneCount_16 rfl (lv_at hl 0 rfl) ?_
        refine lv_iconst (v := 0) hx hb dX0_oneCount_17 (by decide) ?_
        refine lv_iload_n hx hb dX0_oneCount_18 rfl (lv_at hl 1 rfl) ?_
        obtain ⟨r_9, σ_8, hc_7, hf⟩ := g_bnd hf
        refine q_calli (va_runV (As := [.int 0, .int a1]) (rest := [.int r_6]) ⟨hx, hb, hml, hown, hts⟩ (k_X0_countOf l z n D cy Y h_this hc_7) (cwV 2 hts gX0_oneCount_X0_countOf rfl rfl rfl (by decide +kernel) ⟨Nat.le_of_ble_eq_true rfl, Nat.le_of_ble_eq_true rfl⟩) (q_PV (T := TX0) (N := 13) hK hN hW h_this (by decide) rfl) rfl rfl hl.1 rfl (lv_room (Nat.le_of_ble_eq_true rfl)) dX0_oneCount_19 ⟨Nat.le_refl _, Nat.le_refl _⟩) hS (fun H locs hW hS => ?_)
        refine lv_icmp_eq (tgt := 28) hx hb dX0_oneCount_22 (by decide) (fun c => ?_) (fun c => ?_)
        · have hf := g_pos c hf
          obtain ⟨x2_10, ex2_10⟩ : ∃ y : Int32, y = x2 + 1 := ⟨_, rfl⟩
          have hf := g_lt ex2_10 hf
          refine lv_iinc (v := x2_10) (lv' := [(2, .int x2_10), (0, .ref (z + this)), (1, .int a1)]) hx hb dX0_oneCount_28 hl (k := 2) rfl (by rw [ex2_10]; rfl) (by decide) rfl (fun ls hl => ?_)
          refine lv_goto (tgt := 2) hx hb dX0_oneCount_31 (by decide) ?_
          exact H2 x2_10 σ_8 hf _ _ _ hW hS (lv_sub hl [1, 2, 0] rfl)
        · have hf := g_neg c hf
          refine lv_bipush (v := (-4)) hx hb dX0_oneCount_25 (by decide) ?_
          exact q_iret hx hb hr hlocks hW hS hf dX0_oneCount_27
  refine lv_iconst (v := 1) hx hb dX0_oneCount_0 (by decide) ?_
  refine lv_istore_n (lv' := [(2, .int 1), (0, .ref (z + this)), (1, .int a1)]) hx hb dX0_oneCount_1 rfl hl (by decide) rfl (fun ls hl => ?_)
  exact B2 fu 1 σ hf _ _ _ hW hS (lv_sub hl [1, 2, 0] rfl)
set_option maxRecDepth 100000 in
set_option maxHeartbeats 40000000 in
theorem k_X0_canLook (l : Launch) (z n : Nat) (D : va_G) (cy : Nat → ClassId) (Y : Yt) {this : Nat} {a1 : Int32} {σ : Mm} {r : Int32} {σ1 : Mm} (h_this : okk Y n 0 this) (hf : f_X0_canLook Y this a1 σ = some (r, σ1)) : Ki l yX0_canLook wsX0_canLook ({ frames := 1, cells := 0, slots := 0, locals := 20 } : Room) z n D cy Y [.ref (z + this), .int a1] σ r σ1 := by
  refine Met.ofW (cc := cX0_canLook) (maxL := 2) (ret := (some .boolean)) (by decide +kernel) rfl ?_
  intro p e s m args below meth c s₁ B hml hv
  obtain ⟨rfl, hW, hK, hN⟩ := hv
  have hx := B.exec
  have hb := B.bytes
  have hr := B.returns
  have hts := atoms_spec (ws := wsX0_canLook) B.pre
  have hown : s.vm.findClass RX0 = some m.cls := findClass_of_methodNamed B.named
  have hlocks := B.notSynchronized
  have hS : va_S (Az z) s.heap s.heap [] := va_S.rf
  have hin0 : ∀ w ∈ wsX00, w ∈ wsX0_canLook := fun w h => List.mem_cons_of_mem _ (List.mem_append_right _ h)
  have hw0 := hts (.fieldLink RX0 9 "SkyClocks$Carried" "times" "[I") (List.mem_of_getElem? (i := 1) rfl)
  have hw1 := hts (.fieldLink RX0 48 "SkyClocks$Carried" "arrivals" "I") (List.mem_of_getElem? (i := 2) rfl)
  have hl := lv_entry ([.ref (z + this), .int a1]) (n := 2) (Nat.le_of_ble_eq_true rfl)
  rw [lg_entry_eq]
  generalize (lg_sl ([.ref (z + this), .int a1]) ++ List.replicate (2 - (lg_sl ([.ref (z + this), .int a1])).length) Slot.unset).toArray = ls at hl ⊢
  have hl : lv_has ls 2 [(0, .ref (z + this)), (1, .int a1)] := hl
  refine lv_aload_n hx hb dX0_canLook_0 rfl (lv_at hl 0 rfl) ?_
  obtain ⟨r_3, σ_2, hc_1, hf⟩ := g_bnd hf
  refine q_calli (va_runV (As := []) (rest := []) ⟨hx, hb, hml, hown, hts⟩ (k_X0_stands l z n D cy Y h_this hc_1) (cwV 0 hts gX0_canLook_X0_stands rfl rfl rfl (by decide +kernel) ⟨Nat.le_of_ble_eq_true rfl, Nat.le_of_ble_eq_true rfl⟩) (q_PV (T := TX0) (N := 13) hK hN hW h_this (by decide) rfl) rfl rfl hl.1 rfl (lv_room (Nat.le_of_ble_eq_true rfl)) dX0_canLook_1 ⟨Nat.le_refl _, Nat.le_refl _⟩) hS (fun H locs hW hS => ?_)
  refine lv_if_eq (tgt := 26) hx hb dX0_canLook_4 (by decide) (fun c => ?_) (fun c => ?_)
  · have hf := g_pos c hf
    refine lv_iconst (v := 0) hx hb dX0_canLook_26 (by decide) ?_
    exact q_zret hx hb hr hlocks hW hS hf dX0_canLook_27
  · have hf := g_neg c hf
    refine lv_iload_n hx hb dX0_canLook_7 rfl (lv_at hl 1 rfl) ?_
    refine lv_aload_n hx hb dX0_canLook_8 rfl (lv_at hl 0 rfl) ?_
    refine q_getp (own := RX0) (ref := RX0) (C := RX0) (T := TX0) (N := 13) (kc := 0) (ci := 0) hx hb hts hin0 hown hK hW h_this (by decide) rfl 5 (by decide) hw0 rfl rfl rfl (v := 18) rfl dX0_canLook_9 (fun hk_4 hq_5 => ?_)
    refine lv_aload_n hx hb dX0_canLook_12 rfl (lv_at hl 0 rfl) ?_
    refine q_geti (own := RX0) (ref := RX0) (C := RX0) (T := TX0) (N := 13) (kc := 0) (ci := 0) hx hb hts hin0 hown hK hW h_this (by decide) rfl 2 (by decide) hw1 rfl rfl dX0_canLook_13 ?_
    refine lv_iconst (v := 1) hx hb dX0_canLook_16 (by decide) ?_
    refine lv_isub hx hb dX0_canLook_17 ?_
    obtain ⟨hi_6, hf⟩ := g_in hf
    refine q_iald hx hb hK hW hk_4 (inb_of hq_5 hi_6) dX0_canLook_18 ?_
    refine lv_icmp_lt (tgt := 26) hx hb dX0_canLook_19 (by decide) (fun c => ?_) (fun c => ?_)
    · have hf := g_pos c hf
      refine lv_iconst (v := 0) hx hb dX0_canLook_26 (by decide) ?_
      exact q_zret hx hb hr hlocks hW hS hf dX0_canLook_27
    · have hf := g_neg c hf
      refine lv_iconst (v := 1) hx hb dX0_canLook_22 (by decide) ?_
      refine lv_goto (tgt := 27) hx hb dX0_canLook_23 (by decide) ?_
      exact q_zret hx hb hr hlocks hW hS hf dX0_canLook_27
set_option maxRecDepth 100000 in
set_option maxHeartbeats 40000000 in
theorem k_X0_goOn (l : Launch) (z n : Nat) (D : va_G) (cy : Nat → ClassId) (Y : Yt) {fu : Nat} {this : Nat} {a1 : Int32} {a2 : Int32} {σ : Mm} {r : Int32} {σ1 : Mm} (h_this : okk Y n 0 this) (hf : f_X0_goOn Y fu this a1 a2 σ = some (r, σ1)) : Ki l yX0_goOn wsX0_goOn ({ frames := 3, cells := 0, slots := 0, locals := 105 } : Room) z n D cy Y [.ref (z + this), .int a1, .int a2] σ r σ1 := by
  refine Met.ofW (cc := cX0_goOn) (maxL := 7) (ret := (some .int)) (by decide +kernel) rfl ?_
  intro p e s m args below meth c s₁ B hml hv
  obtain ⟨rfl, hW, hK, hN⟩ := hv
  have hx := B.exec
  have hb := B.bytes
  have hr := B.returns
  have hts := atoms_spec (ws := wsX0_goOn) B.pre
  have hown : s.vm.findClass RX0 = some m.cls := findClass_of_methodNamed B.named
  have hlocks := B.notSynchronized
  have hS : va_S (Az z) s.heap s.heap [] := va_S.rf
  have hin0 : ∀ w ∈ wsX00, w ∈ wsX0_goOn := fun w h => List.mem_cons_of_mem _ (List.mem_append_left _ (List.mem_append_right _ h))
  have hw0 := hts (.fieldLink RX0 52 "SkyClocks$Carried" "found" "I") (List.mem_of_getElem? (i := 1) rfl)
  have hw1 := hts (.fieldLink RX0 48 "SkyClocks$Carried" "arrivals" "I") (List.mem_of_getElem? (i := 2) rfl)
  have hw2 := hts (.fieldLink RX0 37 "SkyClocks$Carried" "periods" "[LSkyClocks$Periods;") (List.mem_of_getElem? (i := 3) rfl)
  have hw3 := hts (.methodLink RX0 85 Lib.MathLoose.max_long.x) (List.mem_of_getElem? (i := 4) rfl)
  have hw4 := hts (.static Lib.MathLoose.max_long.x) (List.mem_of_getElem? (i := 5) rfl)
  have hw5 := hts (.initialized "java/lang/Math") (List.mem_of_getElem? (i := 6) rfl)
  have hw6 := hts (.code Lib.MathLoose.max_long.x Lib.MathLoose.max_long.code 4 (some .long)) (List.mem_of_getElem? (i := 7) rfl)
  have hl := lv_entry ([.ref (z + this), .int a1, .int a2]) (n := 7) (Nat.le_of_ble_eq_true rfl)
  rw [lg_entry_eq]
  generalize (lg_sl ([.ref (z + this), .int a1, .int a2]) ++ List.replicate (7 - (lg_sl ([.ref (z + this), .int a1, .int a2])).length) Slot.unset).toArray = ls at hl ⊢
  have hl : lv_has ls 7 [(0, .ref (z + this)), (1, .int a1), (2, .int a2)] := hl
  have B75 : ∀ (k5 : Int32 → Int32 → Mm → Option (Int32 × Mm)) (H5 : ∀ (x3 : Int32) (x4 : Int32) (σ : Mm), k5 x3 x4 σ = some (r, σ1) → ∀ (H : Heap) (locs : List Loc) (ls : Array Slot), WH z n D cy Y σ H → va_S (Az z) s.heap H locs → lv_has ls 7 [(0, .ref (z + this)), (1, .int a1), (2, .int a2), (3, .int x3), (4, .int x4)] → W p l e ({ frames := 3, cells := 0, slots := 0, locals := 105 } : Room) s m ([.ref (z + this), .int a1, .int a2] : List Value).toArray below meth c H locs 0 0 (MQ below (va_Qi (fun (x : Int32) (_ : Unit) => x = r) (fun _ t => WH z n D cy Y σ1 t.heap) (Az z)) ([.ref (z + this), .int a1, .int a2] : List Value).toArray s 0 0 (Az z)) (F0 m 5 ls [])) (x3 : Int32) (x4 : Int32) (σ : Mm), b_X0_goOn_75 Y fu this a1 a2 k5 x3 x4 σ = some (r, σ1) → ∀ (H : Heap) (locs : List Loc) (ls : Array Slot), WH z n D cy Y σ H → va_S (Az z) s.heap H locs → lv_has ls 7 [(0, .ref (z + this)), (1, .int a1), (2, .int a2), (3, .int x3), (4, .int x4)] → W p l e ({ frames := 3, cells := 0, slots := 0, locals := 105 } : Room) s m ([.ref (z + this), .int a1, .int a2] : List Value).toArray below meth c H locs 0 0 (MQ below (va_Qi (fun (x : Int32) (_ : Unit) => x = r) (fun _ t => WH z n D cy Y σ1 t.heap) (Az z)) ([.ref (z + this), .int a1, .int a2] : List Value).toArray s 0 0 (Az z)) (F0 m 75 ls []) := by
    intro k5 H5 x3 x4 σ  hf H locs ls hW hS hl
    obtain ⟨x4_27, ex4_27⟩ : ∃ y : Int32, y = x4 + 1 := ⟨_, rfl⟩
    have hf := g_lt ex4_27 hf
    refine lv_iinc (v := x4_27) (lv' := [(4, .int x4_27), (0, .ref (z + this)), (1, .int a1), (2, .int a2), (3, .int x3)]) hx hb dX0_goOn_75 hl (k := 4) rfl (by rw [ex4_27]; rfl) (by decide) rfl (fun ls hl => ?_)
    refine lv_goto (tgt := 5) hx hb dX0_goOn_78 (by decide) ?_
    exact H5 x3 x4_27 σ hf _ _ _ hW hS (lv_sub hl [1, 2, 3, 4, 0] rfl)
  have B5 : ∀ (nn : Nat) (x3 : Int32) (x4 : Int32) (σ : Mm), b_X0_goOn_5 Y fu this a1 a2 nn x3 x4 σ = some (r, σ1) → ∀ (H : Heap) (locs : List Loc) (ls : Array Slot), WH z n D cy Y σ H → va_S (Az z) s.heap H locs → lv_has ls 7 [(0, .ref (z + this)), (1, .int a1), (2, .int a2), (3, .int x3), (4, .int x4)] → W p l e ({ frames := 3, cells := 0, slots := 0, locals := 105 } : Room) s m ([.ref (z + this), .int a1, .int a2] : List Value).toArray below meth c H locs 0 0 (MQ below (va_Qi (fun (x : Int32) (_ : Unit) => x = r) (fun _ t => WH z n D cy Y σ1 t.heap) (Az z)) ([.ref (z + this), .int a1, .int a2] : List Value).toArray s 0 0 (Az z)) (F0 m 5 ls []) := by
    intro nn
    induction nn with
    | zero =>
      intro x3 x4 σ  hf
      have h9 : (none : Option (Int32 × Mm)) = some (r, σ1) := hf
      cases h9
    | succ nn H5 =>
      intro x3 x4 σ  hf H locs ls hW hS hl
      have hf : s_X0_goOn_5 Y fu this a1 a2 (b_X0_goOn_5 Y fu this a1 a2 nn) x3 x4 σ = some (r, σ1) := hf
      generalize hkk : b_X0_goOn_5 Y fu this a1 a2 nn = k5 at hf H5
      refine lv_iload hx hb dX0_goOn_5 (lv_at hl 4 rfl) ?_
      refine lv_aload_n hx hb dX0_goOn_7 rfl (lv_at hl 0 rfl) ?_
      refine q_geti (own := RX0) (ref := RX0) (C := RX0) (T := TX0) (N := 13) (kc := 0) (ci := 0) hx hb hts hin0 hown hK hW h_this (by decide) rfl 3 (by decide) hw0 rfl rfl dX0_goOn_8 ?_
      refine lv_icmp_ge (tgt := 81) hx hb dX0_goOn_11 (by decide) (fun c => ?_) (fun c => ?_)
      · have hf := g_pos c hf
        refine lv_iload_n hx hb dX0_goOn_81 rfl (lv_at hl 3 rfl) ?_
        exact q_iret hx hb hr hlocks hW hS hf dX0_goOn_82
      · have hf := g_neg c hf
        refine lv_aload_n hx hb dX0_goOn_14 rfl (lv_at hl 0 rfl) ?_
        refine lv_iload hx hb dX0_goOn_15 (lv_at hl 4 rfl) ?_
        refine lv_aload_n hx hb dX0_goOn_17 rfl (lv_at hl 0 rfl) ?_
        refine q_geti (own := RX0) (ref := RX0) (C := RX0) (T := TX0) (N := 13) (kc := 0) (ci := 0) hx hb hts hin0 hown hK hW h_this (by decide) rfl 2 (by decide) hw1 rfl rfl dX0_goOn_18 ?_
        refine lv_iconst (v := 1) hx hb dX0_goOn_21 (by decide) ?_
        refine lv_isub hx hb dX0_goOn_22 ?_
        obtain ⟨r_3, σ_2, hc_1, hf⟩ := g_bnd hf
        refine q_calli (va_runV (As := [.int x4, .int ((Mm.gi σ this 2) - 1)]) (rest := []) ⟨hx, hb, hml, hown, hts⟩ (k_X0_countOf l z n D cy Y h_this hc_1) (cwV 2 hts gX0_goOn_X0_countOf rfl rfl rfl (by decide +kernel) ⟨Nat.le_of_ble_eq_true rfl, Nat.le_of_ble_eq_true rfl⟩) (q_PV (T := TX0) (N := 13) hK hN hW h_this (by decide) rfl) rfl rfl hl.1 rfl (lv_room (Nat.le_of_ble_eq_true rfl)) dX0_goOn_23 ⟨Nat.le_refl _, Nat.le_refl _⟩) hS (fun H locs hW hS => ?_)
        refine lv_i2l hx hb dX0_goOn_26 rfl ?_
        refine lv_lconst (v := 1) hx hb dX0_goOn_27 (by decide) ?_
        refine lv_ladd hx hb dX0_goOn_28 ?_
        refine lv_aload_n hx hb dX0_goOn_29 rfl (lv_at hl 0 rfl) ?_
        refine q_getp (own := RX0) (ref := RX0) (C := RX0) (T := TX0) (N := 13) (kc := 0) (ci := 0) hx hb hts hin0 hown hK hW h_this (by decide) rfl 12 (by decide) hw2 rfl rfl rfl (v := 25) rfl dX0_goOn_30 (fun hk_4 hq_5 => ?_)
        refine lv_iload hx hb dX0_goOn_33 (lv_at hl 4 rfl) ?_
        obtain ⟨hi_6, hf⟩ := g_in hf
        refine q_aalp (kc := 13) (t := 3) hx hb hK hW hk_4 rfl (inb_of hq_5 hi_6) rfl dX0_goOn_35 (fun hk_7 hq_8 => ?_)
        refine lv_aload_n hx hb dX0_goOn_36 rfl (lv_at hl 0 rfl) ?_
        refine lv_iload_n hx hb dX0_goOn_37 rfl (lv_at hl 1 rfl) ?_
        refine lv_iload_n hx hb dX0_goOn_38 rfl (lv_at hl 2 rfl) ?_
        obtain ⟨r_11, σ_10, hc_9, hf⟩ := g_bnd hf
        refine q_calll (va_runV (As := [.int a1, .int a2]) (rest := [.ref (z + (50 + 1 * ix x4)), .long ((Int32.toInt64 r_3) + 1)]) ⟨hx, hb, hml, hown, hts⟩ (k_X0_lowest l z n D cy Y h_this hc_9) (cwV 2 hts gX0_goOn_X0_lowest rfl rfl rfl (by decide +kernel) ⟨Nat.le_of_ble_eq_true rfl, Nat.le_of_ble_eq_true rfl⟩) (q_PV (T := TX0) (N := 13) hK hN hW h_this (by decide) rfl) rfl rfl hl.1 rfl (lv_room (Nat.le_of_ble_eq_true rfl)) dX0_goOn_39 ⟨Nat.le_refl _, Nat.le_refl _⟩) hS (fun H locs hW hS => ?_)
        obtain ⟨r_14, σ_13, hc_12, hf⟩ := g_bnd hf
        refine q_calll (va_runV (As := [.long r_11]) (rest := [.long ((Int32.toInt64 r_3) + 1)]) ⟨hx, hb, hml, hown, hts⟩ (k_X5_leastCount l z n D cy Y hk_7 hc_12) (cwV 1 hts gX0_goOn_X5_leastCount rfl rfl rfl (by decide +kernel) ⟨Nat.le_of_ble_eq_true rfl, Nat.le_of_ble_eq_true rfl⟩) (q_PV (T := TX5) (N := 4) hK hN hW hk_7 (by decide) rfl) rfl rfl hl.1 rfl (lv_room (Nat.le_of_ble_eq_true rfl)) dX0_goOn_42 ⟨Nat.le_refl _, Nat.le_refl _⟩) hS (fun H locs hW hS => ?_)
        refine va_mmax_long hx hb (by rw [hml]; exact hl.1.symm) hown hw3 hw4 hw5 hw6 (Nat.le_of_ble_eq_true rfl) (Nat.le_of_ble_eq_true rfl) (Nat.zero_le _) (Nat.zero_le _) dX0_goOn_45 ?_
        refine lv_topl (fun x5_15 ex5_15 => ?_)
        have hf := g_lt ex5_15 hf
        refine lv_lstore (lv' := [(5, .long x5_15), (0, .ref (z + this)), (1, .int a1), (2, .int a2), (3, .int x3), (4, .int x4)]) hx hb dX0_goOn_48 hl (by decide) rfl (fun ls hl => ?_)
        refine lv_lload hx hb dX0_goOn_50 (lv_at hl 0 rfl) ?_
        refine lv_aload_n hx hb dX0_goOn_52 rfl (lv_at hl 1 rfl) ?_
        refine q_getp (own := RX0) (ref := RX0) (C := RX0) (T := TX0) (N := 13) (kc := 0) (ci := 0) hx hb hts hin0 hown hK hW h_this (by decide) rfl 12 (by decide) hw2 rfl rfl rfl (v := 25) rfl dX0_goOn_53 (fun hk_16 hq_17 => ?_)
        refine lv_iload hx hb dX0_goOn_56 (lv_at hl 5 rfl) ?_
        obtain ⟨hi_18, hf⟩ := g_in hf
        refine q_aalp (kc := 13) (t := 3) hx hb hK hW hk_16 rfl (inb_of hq_17 hi_18) rfl dX0_goOn_58 (fun hk_19 hq_20 => ?_)
        refine lv_aload_n hx hb dX0_goOn_59 rfl (lv_at hl 1 rfl) ?_
        refine lv_iload_n hx hb dX0_goOn_60 rfl (lv_at hl 2 rfl) ?_
        refine lv_iload_n hx hb dX0_goOn_61 rfl (lv_at hl 3 rfl) ?_
        obtain ⟨r_23, σ_22, hc_21, hf⟩ := g_bnd hf
        refine q_calll (va_runV (As := [.int a1, .int a2]) (rest := [.ref (z + (50 + 1 * ix x4)), .long x5_15]) ⟨hx, hb, hml, hown, hts⟩ (k_X0_highest l z n D cy Y h_this hc_21) (cwV 2 hts gX0_goOn_X0_highest rfl rfl rfl (by decide +kernel) ⟨Nat.le_of_ble_eq_true rfl, Nat.le_of_ble_eq_true rfl⟩) (q_PV (T := TX0) (N := 13) hK hN hW h_this (by decide) rfl) rfl rfl hl.1 rfl (lv_room (Nat.le_of_ble_eq_true rfl)) dX0_goOn_62 ⟨Nat.le_refl _, Nat.le_refl _⟩) hS (fun H locs hW hS => ?_)
        obtain ⟨r_26, σ_25, hc_24, hf⟩ := g_bnd hf
        refine q_calll (va_runV (As := [.long r_23]) (rest := [.long x5_15]) ⟨hx, hb, hml, hown, hts⟩ (k_X5_greatestCount l z n D cy Y hk_19 hc_24) (cwV 1 hts gX0_goOn_X5_greatestCount rfl rfl rfl (by decide +kernel) ⟨Nat.le_of_ble_eq_true rfl, Nat.le_of_ble_eq_true rfl⟩) (q_PV (T := TX5) (N := 4) hK hN hW hk_19 (by decide) rfl) rfl rfl hl.1 rfl (lv_room (Nat.le_of_ble_eq_true rfl)) dX0_goOn_65 ⟨Nat.le_refl _, Nat.le_refl _⟩) hS (fun H locs hW hS => ?_)
        refine W.lcmp hx hb dX0_goOn_68 ?_
        refine lv_if_gt (tgt := 75) hx hb dX0_goOn_69 (by decide) (fun c => ?_) (fun c => ?_)
        · have hf := g_pos ((lg_cmp_gt _ _).mp c) hf
          exact B75 k5 H5 x3 x4 σ_25 hf _ _ _ hW hS (lv_sub hl [1, 2, 3, 4, 5] rfl)
        · have hf := g_neg (fun h => c ((lg_cmp_gt _ _).mpr h)) hf
          obtain ⟨x3_28, ex3_28⟩ : ∃ y : Int32, y = x3 + 1 := ⟨_, rfl⟩
          have hf := g_lt ex3_28 hf
          refine lv_iinc (v := x3_28) (lv' := [(3, .int x3_28), (5, .long x5_15), (0, .ref (z + this)), (1, .int a1), (2, .int a2), (4, .int x4)]) hx hb dX0_goOn_72 hl (k := 4) rfl (by rw [ex3_28]; rfl) (by decide) rfl (fun ls hl => ?_)
          exact B75 k5 H5 x3_28 x4 σ_25 hf _ _ _ hW hS (lv_sub hl [2, 3, 4, 0, 5] rfl)
  refine lv_iconst (v := 0) hx hb dX0_goOn_0 (by decide) ?_
  refine lv_istore_n (lv' := [(3, .int 0), (0, .ref (z + this)), (1, .int a1), (2, .int a2)]) hx hb dX0_goOn_1 rfl hl (by decide) rfl (fun ls hl => ?_)
  refine lv_iconst (v := 0) hx hb dX0_goOn_2 (by decide) ?_
  refine lv_istore (lv' := [(4, .int 0), (3, .int 0), (0, .ref (z + this)), (1, .int a1), (2, .int a2)]) hx hb dX0_goOn_3 hl (by decide) rfl (fun ls hl => ?_)
  exact B5 fu 0 0 σ hf _ _ _ hW hS (lv_sub hl [2, 3, 4, 1, 0] rfl)
set_option maxRecDepth 100000 in
set_option maxHeartbeats 40000000 in
theorem k_X0_bestLook (l : Launch) (z n : Nat) (D : va_G) (cy : Nat → ClassId) (Y : Yt) {fu : Nat} {this : Nat} {a1 : Int32} {a2 : Int32} {a3 : Int32} {a4 : Int32} {σ : Mm} {r : Int32} {σ1 : Mm} (h_this : okk Y n 0 this) (hf : f_X0_bestLook Y fu this a1 a2 a3 a4 σ = some (r, σ1)) : Ki l yX0_bestLook wsX0_bestLook ({ frames := 4, cells := 0, slots := 0, locals := 131 } : Room) z n D cy Y [.ref (z + this), .int a1, .int a2, .int a3, .int a4] σ r σ1 := by
  refine Met.ofW (cc := cX0_bestLook) (maxL := 9) (ret := (some .int)) (by decide +kernel) rfl ?_
  intro p e s m args below meth c s₁ B hml hv
  obtain ⟨rfl, hW, hK, hN⟩ := hv
  have hx := B.exec
  have hb := B.bytes
  have hr := B.returns
  have hts := atoms_spec (ws := wsX0_bestLook) B.pre
  have hown : s.vm.findClass RX0 = some m.cls := findClass_of_methodNamed B.named
  have hlocks := B.notSynchronized
  have hS : va_S (Az z) s.heap s.heap [] := va_S.rf
  have hl := lv_entry ([.ref (z + this), .int a1, .int a2, .int a3, .int a4]) (n := 9) (Nat.le_of_ble_eq_true rfl)
  rw [lg_entry_eq]
  generalize (lg_sl ([.ref (z + this), .int a1, .int a2, .int a3, .int a4]) ++ List.replicate (9 - (lg_sl ([.ref (z + this), .int a1, .int a2, .int a3, .int a4])).length) Slot.unset).toArray = ls at hl ⊢
  have hl : lv_has ls 9 [(0, .ref (z + this)), (1, .int a1), (2, .int a2), (3, .int a3), (4, .int a4)] := hl
  have B56 : ∀ (k12 : Int32 → Int32 → Int32 → Mm → Option (Int32 × Mm)) (H12 : ∀ (x5 : Int32) (x6 : Int32) (x7 : Int32) (σ : Mm), k12 x5 x6 x7 σ = some (r, σ1) → ∀ (H : Heap) (locs : List Loc) (ls : Array Slot), WH z n D cy Y σ H → va_S (Az z) s.heap H locs → lv_has ls 9 [(0, .ref (z + this)), (1, .int a1), (2, .int a2), (3, .int a3), (4, .int a4), (5, .int x5), (6, .int x6), (7, .int x7)] → W p l e ({ frames := 4, cells := 0, slots := 0, locals := 131 } : Room) s m ([.ref (z + this), .int a1, .int a2, .int a3, .int a4] : List Value).toArray below meth c H locs 0 0 (MQ below (va_Qi (fun (x : Int32) (_ : Unit) => x = r) (fun _ t => WH z n D cy Y σ1 t.heap) (Az z)) ([.ref (z + this), .int a1, .int a2, .int a3, .int a4] : List Value).toArray s 0 0 (Az z)) (F0 m 12 ls [])) (x5 : Int32) (x6 : Int32) (x7 : Int32) (σ : Mm), b_X0_bestLook_56 Y fu this a1 a2 a3 a4 k12 x5 x6 x7 σ = some (r, σ1) → ∀ (H : Heap) (locs : List Loc) (ls : Array Slot), WH z n D cy Y σ H → va_S (Az z) s.heap H locs → lv_has ls 9 [(0, .ref (z + this)), (1, .int a1), (2, .int a2), (3, .int a3), (4, .int a4), (5, .int x5), (6, .int x6), (7, .int x7)] → W p l e ({ frames := 4, cells := 0, slots := 0, locals := 131 } : Room) s m ([.ref (z + this), .int a1, .int a2, .int a3, .int a4] : List Value).toArray below meth c H locs 0 0 (MQ below (va_Qi (fun (x : Int32) (_ : Unit) => x = r) (fun _ t => WH z n D cy Y σ1 t.heap) (Az z)) ([.ref (z + this), .int a1, .int a2, .int a3, .int a4] : List Value).toArray s 0 0 (Az z)) (F0 m 56 ls []) := by
    intro k12 H12 x5 x6 x7 σ  hf H locs ls hW hS hl
    obtain ⟨x7_4, ex7_4⟩ : ∃ y : Int32, y = x7 + 1 := ⟨_, rfl⟩
    have hf := g_lt ex7_4 hf
    refine lv_iinc (v := x7_4) (lv' := [(7, .int x7_4), (0, .ref (z + this)), (1, .int a1), (2, .int a2), (3, .int a3), (4, .int a4), (5, .int x5), (6, .int x6)]) hx hb dX0_bestLook_56 hl (k := 7) rfl (by rw [ex7_4]; rfl) (by decide) rfl (fun ls hl => ?_)
    refine lv_goto (tgt := 12) hx hb dX0_bestLook_59 (by decide) ?_
    exact H12 x5 x6 x7_4 σ hf _ _ _ hW hS (lv_sub hl [1, 2, 3, 4, 5, 6, 7, 0] rfl)
  have B12 : ∀ (nn : Nat) (x5 : Int32) (x6 : Int32) (x7 : Int32) (σ : Mm), b_X0_bestLook_12 Y fu this a1 a2 a3 a4 nn x5 x6 x7 σ = some (r, σ1) → ∀ (H : Heap) (locs : List Loc) (ls : Array Slot), WH z n D cy Y σ H → va_S (Az z) s.heap H locs → lv_has ls 9 [(0, .ref (z + this)), (1, .int a1), (2, .int a2), (3, .int a3), (4, .int a4), (5, .int x5), (6, .int x6), (7, .int x7)] → W p l e ({ frames := 4, cells := 0, slots := 0, locals := 131 } : Room) s m ([.ref (z + this), .int a1, .int a2, .int a3, .int a4] : List Value).toArray below meth c H locs 0 0 (MQ below (va_Qi (fun (x : Int32) (_ : Unit) => x = r) (fun _ t => WH z n D cy Y σ1 t.heap) (Az z)) ([.ref (z + this), .int a1, .int a2, .int a3, .int a4] : List Value).toArray s 0 0 (Az z)) (F0 m 12 ls []) := by
    intro nn
    induction nn with
    | zero =>
      intro x5 x6 x7 σ  hf
      have h9 : (none : Option (Int32 × Mm)) = some (r, σ1) := hf
      cases h9
    | succ nn H12 =>
      intro x5 x6 x7 σ  hf H locs ls hW hS hl
      have hf : s_X0_bestLook_12 Y fu this a1 a2 a3 a4 (b_X0_bestLook_12 Y fu this a1 a2 a3 a4 nn) x5 x6 x7 σ = some (r, σ1) := hf
      generalize hkk : b_X0_bestLook_12 Y fu this a1 a2 a3 a4 nn = k12 at hf H12
      refine lv_iload hx hb dX0_bestLook_12 (lv_at hl 7 rfl) ?_
      refine lv_iload_n hx hb dX0_bestLook_14 rfl (lv_at hl 3 rfl) ?_
      refine lv_icmp_ge (tgt := 62) hx hb dX0_bestLook_15 (by decide) (fun c => ?_) (fun c => ?_)
      · have hf := g_pos c hf
        refine lv_iload hx hb dX0_bestLook_62 (lv_at hl 5 rfl) ?_
        exact q_iret hx hb hr hlocks hW hS hf dX0_bestLook_64
      · have hf := g_neg c hf
        refine lv_aload_n hx hb dX0_bestLook_18 rfl (lv_at hl 0 rfl) ?_
        refine lv_iload_n hx hb dX0_bestLook_19 rfl (lv_at hl 1 rfl) ?_
        refine lv_iload hx hb dX0_bestLook_20 (lv_at hl 7 rfl) ?_
        refine lv_iload_n hx hb dX0_bestLook_22 rfl (lv_at hl 2 rfl) ?_
        refine lv_imul hx hb dX0_bestLook_23 ?_
        refine lv_iadd hx hb dX0_bestLook_24 ?_
        refine lv_iload hx hb dX0_bestLook_25 (lv_at hl 4 rfl) ?_
        obtain ⟨r_3, σ_2, hc_1, hf⟩ := g_bnd hf
        refine q_calli (va_runV (As := [.int (a1 + (x7 * a2)), .int a4]) (rest := []) ⟨hx, hb, hml, hown, hts⟩ (k_X0_goOn l z n D cy Y h_this hc_1) (cwV 2 hts gX0_bestLook_X0_goOn rfl rfl rfl (by decide +kernel) ⟨Nat.le_of_ble_eq_true rfl, Nat.le_of_ble_eq_true rfl⟩) (q_PV (T := TX0) (N := 13) hK hN hW h_this (by decide) rfl) rfl rfl hl.1 rfl (lv_room (Nat.le_of_ble_eq_true rfl)) dX0_bestLook_27 ⟨Nat.le_refl _, Nat.le_refl _⟩) hS (fun H locs hW hS => ?_)
        refine lv_istore (lv' := [(8, .int r_3), (0, .ref (z + this)), (1, .int a1), (2, .int a2), (3, .int a3), (4, .int a4), (5, .int x5), (6, .int x6), (7, .int x7)]) hx hb dX0_bestLook_30 hl (by decide) rfl (fun ls hl => ?_)
        refine lv_iload hx hb dX0_bestLook_32 (lv_at hl 0 rfl) ?_
        refine lv_if_le (tgt := 56) hx hb dX0_bestLook_34 (by decide) (fun c => ?_) (fun c => ?_)
        · have hf := g_pos c hf
          exact B56 k12 H12 x5 x6 x7 σ_2 hf _ _ _ hW hS (lv_sub hl [1, 2, 3, 4, 5, 6, 7, 8] rfl)
        · have hf := g_neg c hf
          refine lv_iload hx hb dX0_bestLook_37 (lv_at hl 0 rfl) ?_
          refine lv_iload hx hb dX0_bestLook_39 (lv_at hl 7 rfl) ?_
          refine lv_icmp_ge (tgt := 56) hx hb dX0_bestLook_41 (by decide) (fun c => ?_) (fun c => ?_)
          · have hf := g_pos c hf
            exact B56 k12 H12 x5 x6 x7 σ_2 hf _ _ _ hW hS (lv_sub hl [1, 2, 3, 4, 5, 6, 7, 8] rfl)
          · have hf := g_neg c hf
            refine lv_iload hx hb dX0_bestLook_44 (lv_at hl 0 rfl) ?_
            refine lv_istore (lv' := [(6, .int r_3), (8, .int r_3), (0, .ref (z + this)), (1, .int a1), (2, .int a2), (3, .int a3), (4, .int a4), (5, .int x5), (7, .int x7)]) hx hb dX0_bestLook_46 hl (by decide) rfl (fun ls hl => ?_)
            refine lv_iload_n hx hb dX0_bestLook_48 rfl (lv_at hl 3 rfl) ?_
            refine lv_iload hx hb dX0_bestLook_49 (lv_at hl 8 rfl) ?_
            refine lv_iload_n hx hb dX0_bestLook_51 rfl (lv_at hl 4 rfl) ?_
            refine lv_imul hx hb dX0_bestLook_52 ?_
            refine lv_iadd hx hb dX0_bestLook_53 ?_
            refine lv_topi (fun x5_5 ex5_5 => ?_)
            have hf := g_lt ex5_5 hf
            refine lv_istore (lv' := [(5, .int x5_5), (6, .int r_3), (8, .int r_3), (0, .ref (z + this)), (1, .int a1), (2, .int a2), (3, .int a3), (4, .int a4), (7, .int x7)]) hx hb dX0_bestLook_54 hl (by decide) rfl (fun ls hl => ?_)
            exact B56 k12 H12 x5_5 r_3 x7 σ_2 hf _ _ _ hW hS (lv_sub hl [3, 4, 5, 6, 7, 0, 1, 8] rfl)
  refine lv_bipush (v := (-4)) hx hb dX0_bestLook_0 (by decide) ?_
  refine lv_istore (lv' := [(5, .int (-4)), (0, .ref (z + this)), (1, .int a1), (2, .int a2), (3, .int a3), (4, .int a4)]) hx hb dX0_bestLook_2 hl (by decide) rfl (fun ls hl => ?_)
  refine lv_sipush (v := 501) hx hb dX0_bestLook_4 (by decide) ?_
  refine lv_istore (lv' := [(6, .int 501), (5, .int (-4)), (0, .ref (z + this)), (1, .int a1), (2, .int a2), (3, .int a3), (4, .int a4)]) hx hb dX0_bestLook_7 hl (by decide) rfl (fun ls hl => ?_)
  refine lv_iconst (v := 0) hx hb dX0_bestLook_9 (by decide) ?_
  refine lv_istore (lv' := [(7, .int 0), (6, .int 501), (5, .int (-4)), (0, .ref (z + this)), (1, .int a1), (2, .int a2), (3, .int a3), (4, .int a4)]) hx hb dX0_bestLook_10 hl (by decide) rfl (fun ls hl => ?_)
  exact B12 fu (-4) 501 0 σ hf _ _ _ hW hS (lv_sub hl [3, 4, 5, 6, 7, 2, 1, 0] rfl)
set_option maxRecDepth 100000 in
set_option maxHeartbeats 40000000 in
theorem k_X0_outside (l : Launch) (z n : Nat) (D : va_G) (cy : Nat → ClassId) (Y : Yt) {fu : Nat} {this : Nat} {a1 : Int32} {a2 : Int64} {a4 : Int64} {a6 : Int64} {σ : Mm} {r : Int32} {σ1 : Mm} (h_this : okk Y n 0 this) (hf : f_X0_outside Y fu this a1 a2 a4 a6 σ = some (r, σ1)) : Ki l yX0_outside wsX0_outside ({ frames := 1, cells := 0, slots := 0, locals := 60 } : Room) z n D cy Y [.ref (z + this), .int a1, .long a2, .long a4, .long a6] σ r σ1 := by
  refine Met.ofW (cc := cX0_outside) (maxL := 10) (ret := (some .int)) (by decide +kernel) rfl ?_
  intro p e s m args below meth c s₁ B hml hv
  obtain ⟨rfl, hW, hK, hN⟩ := hv
  have hx := B.exec
  have hb := B.bytes
  have hr := B.returns
  have hts := atoms_spec (ws := wsX0_outside) B.pre
  have hown : s.vm.findClass RX0 = some m.cls := findClass_of_methodNamed B.named
  have hlocks := B.notSynchronized
  have hS : va_S (Az z) s.heap s.heap [] := va_S.rf
  have hin0 : ∀ w ∈ wsX00, w ∈ wsX0_outside := fun w h => List.mem_cons_of_mem _ (List.mem_append_right _ h)
  have hw0 := hts (.fieldLink RX0 48 "SkyClocks$Carried" "arrivals" "I") (List.mem_of_getElem? (i := 1) rfl)
  have hw1 := hts (.fieldLink RX0 9 "SkyClocks$Carried" "times" "[I") (List.mem_of_getElem? (i := 2) rfl)
  have hw2 := hts (.methodLink RX0 130 Lib.MathLoose.abs_long.x) (List.mem_of_getElem? (i := 3) rfl)
  have hw3 := hts (.static Lib.MathLoose.abs_long.x) (List.mem_of_getElem? (i := 4) rfl)
  have hw4 := hts (.initialized "java/lang/Math") (List.mem_of_getElem? (i := 5) rfl)
  have hw5 := hts (.code Lib.MathLoose.abs_long.x Lib.MathLoose.abs_long.code 2 (some .long)) (List.mem_of_getElem? (i := 6) rfl)
  have hw6 := hts (.fieldLink RX0 15 "SkyClocks$Carried" "errs" "[I") (List.mem_of_getElem? (i := 7) rfl)
  have hl := lv_entry ([.ref (z + this), .int a1, .long a2, .long a4, .long a6]) (n := 10) (Nat.le_of_ble_eq_true rfl)
  rw [lg_entry_eq]
  generalize (lg_sl ([.ref (z + this), .int a1, .long a2, .long a4, .long a6]) ++ List.replicate (10 - (lg_sl ([.ref (z + this), .int a1, .long a2, .long a4, .long a6])).length) Slot.unset).toArray = ls at hl ⊢
  have hl : lv_has ls 10 [(0, .ref (z + this)), (1, .int a1), (2, .long a2), (4, .long a4), (6, .long a6)] := hl
  have B61 : ∀ (k6 : Int32 → Int32 → Mm → Option (Int32 × Mm)) (H6 : ∀ (x8 : Int32) (x9 : Int32) (σ : Mm), k6 x8 x9 σ = some (r, σ1) → ∀ (H : Heap) (locs : List Loc) (ls : Array Slot), WH z n D cy Y σ H → va_S (Az z) s.heap H locs → lv_has ls 10 [(0, .ref (z + this)), (1, .int a1), (2, .long a2), (4, .long a4), (6, .long a6), (8, .int x8), (9, .int x9)] → W p l e ({ frames := 1, cells := 0, slots := 0, locals := 60 } : Room) s m ([.ref (z + this), .int a1, .long a2, .long a4, .long a6] : List Value).toArray below meth c H locs 0 0 (MQ below (va_Qi (fun (x : Int32) (_ : Unit) => x = r) (fun _ t => WH z n D cy Y σ1 t.heap) (Az z)) ([.ref (z + this), .int a1, .long a2, .long a4, .long a6] : List Value).toArray s 0 0 (Az z)) (F0 m 6 ls [])) (x8 : Int32) (x9 : Int32) (σ : Mm), b_X0_outside_61 Y fu this a1 a2 a4 a6 k6 x8 x9 σ = some (r, σ1) → ∀ (H : Heap) (locs : List Loc) (ls : Array Slot), WH z n D cy Y σ H → va_S (Az z) s.heap H locs → lv_has ls 10 [(0, .ref (z + this)), (1, .int a1), (2, .long a2), (4, .long a4), (6, .long a6), (8, .int x8), (9, .int x9)] → W p l e ({ frames := 1, cells := 0, slots := 0, locals := 60 } : Room) s m ([.ref (z + this), .int a1, .long a2, .long a4, .long a6] : List Value).toArray below meth c H locs 0 0 (MQ below (va_Qi (fun (x : Int32) (_ : Unit) => x = r) (fun _ t => WH z n D cy Y σ1 t.heap) (Az z)) ([.ref (z + this), .int a1, .long a2, .long a4, .long a6] : List Value).toArray s 0 0 (Az z)) (F0 m 61 ls []) := by
    intro k6 H6 x8 x9 σ  hf H locs ls hW hS hl
    obtain ⟨x9_10, ex9_10⟩ : ∃ y : Int32, y = x9 + 1 := ⟨_, rfl⟩
    have hf := g_lt ex9_10 hf
    refine lv_iinc (v := x9_10) (lv' := [(9, .int x9_10), (0, .ref (z + this)), (1, .int a1), (2, .long a2), (4, .long a4), (6, .long a6), (8, .int x8)]) hx hb dX0_outside_61 hl (k := 6) rfl (by rw [ex9_10]; rfl) (by decide) rfl (fun ls hl => ?_)
    refine lv_goto (tgt := 6) hx hb dX0_outside_64 (by decide) ?_
    exact H6 x8 x9_10 σ hf _ _ _ hW hS (lv_sub hl [1, 2, 3, 4, 5, 6, 0] rfl)
  have B6 : ∀ (nn : Nat) (x8 : Int32) (x9 : Int32) (σ : Mm), b_X0_outside_6 Y fu this a1 a2 a4 a6 nn x8 x9 σ = some (r, σ1) → ∀ (H : Heap) (locs : List Loc) (ls : Array Slot), WH z n D cy Y σ H → va_S (Az z) s.heap H locs → lv_has ls 10 [(0, .ref (z + this)), (1, .int a1), (2, .long a2), (4, .long a4), (6, .long a6), (8, .int x8), (9, .int x9)] → W p l e ({ frames := 1, cells := 0, slots := 0, locals := 60 } : Room) s m ([.ref (z + this), .int a1, .long a2, .long a4, .long a6] : List Value).toArray below meth c H locs 0 0 (MQ below (va_Qi (fun (x : Int32) (_ : Unit) => x = r) (fun _ t => WH z n D cy Y σ1 t.heap) (Az z)) ([.ref (z + this), .int a1, .long a2, .long a4, .long a6] : List Value).toArray s 0 0 (Az z)) (F0 m 6 ls []) := by
    intro nn
    induction nn with
    | zero =>
      intro x8 x9 σ  hf
      have h9 : (none : Option (Int32 × Mm)) = some (r, σ1) := hf
      cases h9
    | succ nn H6 =>
      intro x8 x9 σ  hf H locs ls hW hS hl
      have hf : s_X0_outside_6 Y fu this a1 a2 a4 a6 (b_X0_outside_6 Y fu this a1 a2 a4 a6 nn) x8 x9 σ = some (r, σ1) := hf
      generalize hkk : b_X0_outside_6 Y fu this a1 a2 a4 a6 nn = k6 at hf H6
      refine lv_iload hx hb dX0_outside_6 (lv_at hl 6 rfl) ?_
      refine lv_aload_n hx hb dX0_outside_8 rfl (lv_at hl 0 rfl) ?_
      refine q_geti (own := RX0) (ref := RX0) (C := RX0) (T := TX0) (N := 13) (kc := 0) (ci := 0) hx hb hts hin0 hown hK hW h_this (by decide) rfl 2 (by decide) hw0 rfl rfl dX0_outside_9 ?_
      refine lv_icmp_ge (tgt := 67) hx hb dX0_outside_12 (by decide) (fun c => ?_) (fun c => ?_)
      · have hf := g_pos c hf
        refine lv_iload hx hb dX0_outside_67 (lv_at hl 5 rfl) ?_
        exact q_iret hx hb hr hlocks hW hS hf dX0_outside_69
      · have hf := g_neg c hf
        refine lv_aload_n hx hb dX0_outside_15 rfl (lv_at hl 0 rfl) ?_
        refine q_getp (own := RX0) (ref := RX0) (C := RX0) (T := TX0) (N := 13) (kc := 0) (ci := 0) hx hb hts hin0 hown hK hW h_this (by decide) rfl 5 (by decide) hw1 rfl rfl rfl (v := 18) rfl dX0_outside_16 (fun hk_1 hq_2 => ?_)
        refine lv_iload hx hb dX0_outside_19 (lv_at hl 6 rfl) ?_
        obtain ⟨hi_3, hf⟩ := g_in hf
        refine q_iald hx hb hK hW hk_1 (inb_of hq_2 hi_3) dX0_outside_21 ?_
        refine lv_i2l hx hb dX0_outside_22 rfl ?_
        refine lv_lload hx hb dX0_outside_23 (lv_at hl 4 rfl) ?_
        refine lv_lmul hx hb dX0_outside_25 ?_
        refine lv_lload_n hx hb dX0_outside_26 rfl (lv_at hl 2 rfl) ?_
        refine lv_lsub hx hb dX0_outside_27 ?_
        refine lv_aload_n hx hb dX0_outside_28 rfl (lv_at hl 0 rfl) ?_
        refine lv_iload_n hx hb dX0_outside_29 rfl (lv_at hl 1 rfl) ?_
        refine lv_iload hx hb dX0_outside_30 (lv_at hl 6 rfl) ?_
        obtain ⟨r_6, σ_5, hc_4, hf⟩ := g_bnd hf
        refine q_calli (va_runV (As := [.int a1, .int x9]) (rest := [.long (((Int32.toInt64 (Mm.gi σ 18 (ix x9))) * a6) - a2)]) ⟨hx, hb, hml, hown, hts⟩ (k_X0_countOf l z n D cy Y h_this hc_4) (cwV 2 hts gX0_outside_X0_countOf rfl rfl rfl (by decide +kernel) ⟨Nat.le_of_ble_eq_true rfl, Nat.le_of_ble_eq_true rfl⟩) (q_PV (T := TX0) (N := 13) hK hN hW h_this (by decide) rfl) rfl rfl hl.1 rfl (lv_room (Nat.le_of_ble_eq_true rfl)) dX0_outside_32 ⟨Nat.le_refl _, Nat.le_refl _⟩) hS (fun H locs hW hS => ?_)
        refine lv_i2l hx hb dX0_outside_35 rfl ?_
        refine lv_lload hx hb dX0_outside_36 (lv_at hl 3 rfl) ?_
        refine lv_lmul hx hb dX0_outside_38 ?_
        refine lv_lsub hx hb dX0_outside_39 ?_
        refine va_mabs_long hx hb (by rw [hml]; exact hl.1.symm) hown hw2 hw3 hw4 hw5 (Nat.le_of_ble_eq_true rfl) (Nat.le_of_ble_eq_true rfl) (Nat.zero_le _) (Nat.zero_le _) dX0_outside_40 ?_
        refine lv_aload_n hx hb dX0_outside_43 rfl (lv_at hl 0 rfl) ?_
        refine q_getp (own := RX0) (ref := RX0) (C := RX0) (T := TX0) (N := 13) (kc := 0) (ci := 0) hx hb hts hin0 hown hK hW h_this (by decide) rfl 6 (by decide) hw6 rfl rfl rfl (v := 19) rfl dX0_outside_44 (fun hk_7 hq_8 => ?_)
        refine lv_iload hx hb dX0_outside_47 (lv_at hl 6 rfl) ?_
        obtain ⟨hi_9, hf⟩ := g_in hf
        refine q_iald hx hb hK hW hk_7 (inb_of hq_8 hi_9) dX0_outside_49 ?_
        refine lv_i2l hx hb dX0_outside_50 rfl ?_
        refine lv_lload hx hb dX0_outside_51 (lv_at hl 4 rfl) ?_
        refine lv_lmul hx hb dX0_outside_53 ?_
        refine W.lcmp hx hb dX0_outside_54 ?_
        refine lv_if_le (tgt := 61) hx hb dX0_outside_55 (by decide) (fun c => ?_) (fun c => ?_)
        · have hf := g_pos ((lg_cmp_le _ _).mp c) hf
          exact B61 k6 H6 x8 x9 σ_5 hf _ _ _ hW hS (lv_sub hl [0, 1, 2, 3, 4, 5, 6] rfl)
        · have hf := g_neg (fun h => c ((lg_cmp_le _ _).mpr h)) hf
          obtain ⟨x8_11, ex8_11⟩ : ∃ y : Int32, y = x8 + 1 := ⟨_, rfl⟩
          have hf := g_lt ex8_11 hf
          refine lv_iinc (v := x8_11) (lv' := [(8, .int x8_11), (0, .ref (z + this)), (1, .int a1), (2, .long a2), (4, .long a4), (6, .long a6), (9, .int x9)]) hx hb dX0_outside_58 hl (k := 5) rfl (by rw [ex8_11]; rfl) (by decide) rfl (fun ls hl => ?_)
          exact B61 k6 H6 x8_11 x9 σ_5 hf _ _ _ hW hS (lv_sub hl [1, 2, 3, 4, 5, 0, 6] rfl)
  refine lv_iconst (v := 0) hx hb dX0_outside_0 (by decide) ?_
  refine lv_istore (lv' := [(8, .int 0), (0, .ref (z + this)), (1, .int a1), (2, .long a2), (4, .long a4), (6, .long a6)]) hx hb dX0_outside_1 hl (by decide) rfl (fun ls hl => ?_)
  refine lv_iconst (v := 0) hx hb dX0_outside_3 (by decide) ?_
  refine lv_istore (lv' := [(9, .int 0), (8, .int 0), (0, .ref (z + this)), (1, .int a1), (2, .long a2), (4, .long a4), (6, .long a6)]) hx hb dX0_outside_4 hl (by decide) rfl (fun ls hl => ?_)
  exact B6 fu 0 0 σ hf _ _ _ hW hS (lv_sub hl [2, 3, 4, 5, 6, 1, 0] rfl)
set_option maxRecDepth 100000 in
set_option maxHeartbeats 40000000 in
theorem k_X0_fitted (l : Launch) (z n : Nat) (D : va_G) (cy : Nat → ClassId) (Y : Yt) {fu : Nat} {this : Nat} {a1 : Int32} {a2 : Int32} {σ : Mm} {r : Int64} {σ1 : Mm} (h_this : okk Y n 0 this) (hf : f_X0_fitted Y fu this a1 a2 σ = some (r, σ1)) : Kl l yX0_fitted wsX0_fitted ({ frames := 2, cells := 0, slots := 0, locals := 90 } : Room) z n D cy Y [.ref (z + this), .int a1, .int a2] σ r σ1 := by
  refine Met.ofW (cc := cX0_fitted) (maxL := 17) (ret := (some .long)) (by decide +kernel) rfl ?_
  intro p e s m args below meth c s₁ B hml hv
  obtain ⟨rfl, hW, hK, hN⟩ := hv
  have hx := B.exec
  have hb := B.bytes
  have hr := B.returns
  have hts := atoms_spec (ws := wsX0_fitted) B.pre
  have hown : s.vm.findClass RX0 = some m.cls := findClass_of_methodNamed B.named
  have hlocks := B.notSynchronized
  have hS : va_S (Az z) s.heap s.heap [] := va_S.rf
  have hin0 : ∀ w ∈ wsX00, w ∈ wsX0_fitted := fun w h => List.mem_cons_of_mem _ (List.mem_append_right _ h)
  have hw0 := hts (.fieldLink RX0 48 "SkyClocks$Carried" "arrivals" "I") (List.mem_of_getElem? (i := 1) rfl)
  have hw1 := hts (.fieldLink RX0 9 "SkyClocks$Carried" "times" "[I") (List.mem_of_getElem? (i := 2) rfl)
  have hl := lv_entry ([.ref (z + this), .int a1, .int a2]) (n := 17) (Nat.le_of_ble_eq_true rfl)
  rw [lg_entry_eq]
  generalize (lg_sl ([.ref (z + this), .int a1, .int a2]) ++ List.replicate (17 - (lg_sl ([.ref (z + this), .int a1, .int a2])).length) Slot.unset).toArray = ls at hl ⊢
  have hl : lv_has ls 17 [(0, .ref (z + this)), (1, .int a1), (2, .int a2)] := hl
  have B14 : ∀ (nn : Nat) (x3 : Int64) (x5 : Int64) (x7 : Int64) (x9 : Int64) (x11 : Int32) (σ : Mm), b_X0_fitted_14 Y fu this a1 a2 nn x3 x5 x7 x9 x11 σ = some (r, σ1) → ∀ (H : Heap) (locs : List Loc) (ls : Array Slot), WH z n D cy Y σ H → va_S (Az z) s.heap H locs → lv_has ls 17 [(0, .ref (z + this)), (1, .int a1), (2, .int a2), (3, .long x3), (5, .long x5), (7, .long x7), (9, .long x9), (11, .int x11)] → W p l e ({ frames := 2, cells := 0, slots := 0, locals := 90 } : Room) s m ([.ref (z + this), .int a1, .int a2] : List Value).toArray below meth c H locs 0 0 (MQ below (va_Ql (fun (x : Int64) (_ : Unit) => x = r) (fun _ t => WH z n D cy Y σ1 t.heap) (Az z)) ([.ref (z + this), .int a1, .int a2] : List Value).toArray s 0 0 (Az z)) (F0 m 14 ls []) := by
    intro nn
    induction nn with
    | zero =>
      intro x3 x5 x7 x9 x11 σ  hf
      have h9 : (none : Option (Int64 × Mm)) = some (r, σ1) := hf
      cases h9
    | succ nn H14 =>
      intro x3 x5 x7 x9 x11 σ  hf H locs ls hW hS hl
      have hf : s_X0_fitted_14 Y fu this a1 a2 (b_X0_fitted_14 Y fu this a1 a2 nn) x3 x5 x7 x9 x11 σ = some (r, σ1) := hf
      generalize hkk : b_X0_fitted_14 Y fu this a1 a2 nn = k14 at hf H14
      refine lv_iload hx hb dX0_fitted_14 (lv_at hl 7 rfl) ?_
      refine lv_aload_n hx hb dX0_fitted_16 rfl (lv_at hl 0 rfl) ?_
      refine q_geti (own := RX0) (ref := RX0) (C := RX0) (T := TX0) (N := 13) (kc := 0) (ci := 0) hx hb hts hin0 hown hK hW h_this (by decide) rfl 2 (by decide) hw0 rfl rfl dX0_fitted_17 ?_
      refine lv_icmp_ge (tgt := 83) hx hb dX0_fitted_20 (by decide) (fun c => ?_) (fun c => ?_)
      · have hf := g_pos c hf
        refine lv_aload_n hx hb dX0_fitted_83 rfl (lv_at hl 0 rfl) ?_
        refine q_geti (own := RX0) (ref := RX0) (C := RX0) (T := TX0) (N := 13) (kc := 0) (ci := 0) hx hb hts hin0 hown hK hW h_this (by decide) rfl 2 (by decide) hw0 rfl rfl dX0_fitted_84 ?_
        refine lv_i2l hx hb dX0_fitted_87 rfl ?_
        refine lv_lload hx hb dX0_fitted_88 (lv_at hl 5 rfl) ?_
        refine lv_lmul hx hb dX0_fitted_90 ?_
        refine lv_lload_n hx hb dX0_fitted_91 rfl (lv_at hl 3 rfl) ?_
        refine lv_lload_n hx hb dX0_fitted_92 rfl (lv_at hl 3 rfl) ?_
        refine lv_lmul hx hb dX0_fitted_93 ?_
        refine lv_lsub hx hb dX0_fitted_94 ?_
        refine lv_topl (fun x11_1 ex11_1 => ?_)
        have hf := g_lt ex11_1 hf
        refine lv_lstore (lv' := [(11, .long x11_1), (0, .ref (z + this)), (1, .int a1), (2, .int a2), (3, .long x3), (5, .long x5), (7, .long x7), (9, .long x9)]) hx hb dX0_fitted_95 hl (by decide) rfl (fun ls hl => ?_)
        refine lv_lload hx hb dX0_fitted_97 (lv_at hl 5 rfl) ?_
        refine lv_lload hx hb dX0_fitted_99 (lv_at hl 6 rfl) ?_
        refine lv_lmul hx hb dX0_fitted_101 ?_
        refine lv_lload_n hx hb dX0_fitted_102 rfl (lv_at hl 4 rfl) ?_
        refine lv_lload hx hb dX0_fitted_103 (lv_at hl 7 rfl) ?_
        refine lv_lmul hx hb dX0_fitted_105 ?_
        refine lv_lsub hx hb dX0_fitted_106 ?_
        refine lv_topl (fun x13_2 ex13_2 => ?_)
        have hf := g_lt ex13_2 hf
        refine lv_lstore (lv' := [(13, .long x13_2), (11, .long x11_1), (0, .ref (z + this)), (1, .int a1), (2, .int a2), (3, .long x3), (5, .long x5), (7, .long x7), (9, .long x9)]) hx hb dX0_fitted_107 hl (by decide) rfl (fun ls hl => ?_)
        refine lv_aload_n hx hb dX0_fitted_109 rfl (lv_at hl 2 rfl) ?_
        refine q_geti (own := RX0) (ref := RX0) (C := RX0) (T := TX0) (N := 13) (kc := 0) (ci := 0) hx hb hts hin0 hown hK hW h_this (by decide) rfl 2 (by decide) hw0 rfl rfl dX0_fitted_110 ?_
        refine lv_i2l hx hb dX0_fitted_113 rfl ?_
        refine lv_lload hx hb dX0_fitted_114 (lv_at hl 8 rfl) ?_
        refine lv_lmul hx hb dX0_fitted_116 ?_
        refine lv_lload_n hx hb dX0_fitted_117 rfl (lv_at hl 5 rfl) ?_
        refine lv_lload hx hb dX0_fitted_118 (lv_at hl 6 rfl) ?_
        refine lv_lmul hx hb dX0_fitted_120 ?_
        refine lv_lsub hx hb dX0_fitted_121 ?_
        refine lv_topl (fun x15_3 ex15_3 => ?_)
        have hf := g_lt ex15_3 hf
        refine lv_lstore (lv' := [(15, .long x15_3), (13, .long x13_2), (11, .long x11_1), (0, .ref (z + this)), (1, .int a1), (2, .int a2), (3, .long x3), (5, .long x5), (7, .long x7), (9, .long x9)]) hx hb dX0_fitted_122 hl (by decide) rfl (fun ls hl => ?_)
        refine lv_iload_n hx hb dX0_fitted_124 rfl (lv_at hl 5 rfl) ?_
        by_cases c0 : a2 = 0
        · have hf := g_pos c0 hf
          refine q_tcase (k := 0) (off := 31) (tgt := 156) hx hb dX0_fitted_125 c0 (by decide) (by decide) rfl (by decide) ?_
          refine lv_lload hx hb dX0_fitted_156 (lv_at hl 1 rfl) ?_
          refine lv_lload hx hb dX0_fitted_158 (lv_at hl 1 rfl) ?_
          refine lv_lload hx hb dX0_fitted_160 (lv_at hl 2 rfl) ?_
          obtain ⟨r_9, σ_8, hc_7, hf⟩ := g_bnd hf
          refine q_calll (va_runS (As := [.long x13_2, .long x11_1]) (rest := [.long x13_2]) ⟨hx, hb, hml, hown, hts⟩ (k_X1_commonDivisor l z n D cy Y hc_7) (va_cwS 2 hts gX0_fitted_X1_commonDivisor rfl rfl rfl (by decide +kernel) ⟨Nat.le_of_ble_eq_true rfl, Nat.le_of_ble_eq_true rfl⟩) (q_PS hK hN hW) rfl rfl hl.1 rfl (lv_room (Nat.le_of_ble_eq_true rfl)) dX0_fitted_162 ⟨Nat.le_refl _, Nat.le_refl _⟩) hS (fun H locs hW hS => ?_)
          obtain ⟨hz_10, hf⟩ := g_ne hf
          refine lv_ldiv hx hb dX0_fitted_165 hz_10 ?_
          exact q_lret hx hb hr hlocks hW hS hf dX0_fitted_166
        · have hf := g_neg c0 hf
          by_cases c1 : a2 = 1
          · have hf := g_pos c1 hf
            refine q_tcase (k := 1) (off := 42) (tgt := 167) hx hb dX0_fitted_125 c1 (by decide) (by decide) rfl (by decide) ?_
            refine lv_lload hx hb dX0_fitted_167 (lv_at hl 2 rfl) ?_
            refine lv_lload hx hb dX0_fitted_169 (lv_at hl 1 rfl) ?_
            refine lv_lload hx hb dX0_fitted_171 (lv_at hl 2 rfl) ?_
            obtain ⟨r_13, σ_12, hc_11, hf⟩ := g_bnd hf
            refine q_calll (va_runS (As := [.long x13_2, .long x11_1]) (rest := [.long x11_1]) ⟨hx, hb, hml, hown, hts⟩ (k_X1_commonDivisor l z n D cy Y hc_11) (va_cwS 2 hts gX0_fitted_X1_commonDivisor rfl rfl rfl (by decide +kernel) ⟨Nat.le_of_ble_eq_true rfl, Nat.le_of_ble_eq_true rfl⟩) (q_PS hK hN hW) rfl rfl hl.1 rfl (lv_room (Nat.le_of_ble_eq_true rfl)) dX0_fitted_173 ⟨Nat.le_refl _, Nat.le_refl _⟩) hS (fun H locs hW hS => ?_)
            obtain ⟨hz_14, hf⟩ := g_ne hf
            refine lv_ldiv hx hb dX0_fitted_176 hz_14 ?_
            exact q_lret hx hb hr hlocks hW hS hf dX0_fitted_177
          · have hf := g_neg c1 hf
            by_cases c2 : a2 = 2
            · have hf := g_pos c2 hf
              refine q_tcase (k := 2) (off := 53) (tgt := 178) hx hb dX0_fitted_125 c2 (by decide) (by decide) rfl (by decide) ?_
              refine lv_lload hx hb dX0_fitted_178 (lv_at hl 0 rfl) ?_
              refine lv_lload hx hb dX0_fitted_180 (lv_at hl 0 rfl) ?_
              refine lv_lload hx hb dX0_fitted_182 (lv_at hl 2 rfl) ?_
              obtain ⟨r_17, σ_16, hc_15, hf⟩ := g_bnd hf
              refine q_calll (va_runS (As := [.long x15_3, .long x11_1]) (rest := [.long x15_3]) ⟨hx, hb, hml, hown, hts⟩ (k_X1_commonDivisor l z n D cy Y hc_15) (va_cwS 2 hts gX0_fitted_X1_commonDivisor rfl rfl rfl (by decide +kernel) ⟨Nat.le_of_ble_eq_true rfl, Nat.le_of_ble_eq_true rfl⟩) (q_PS hK hN hW) rfl rfl hl.1 rfl (lv_room (Nat.le_of_ble_eq_true rfl)) dX0_fitted_184 ⟨Nat.le_refl _, Nat.le_refl _⟩) hS (fun H locs hW hS => ?_)
              obtain ⟨hz_18, hf⟩ := g_ne hf
              refine lv_ldiv hx hb dX0_fitted_187 hz_18 ?_
              exact q_lret hx hb hr hlocks hW hS hf dX0_fitted_188
            · have hf := g_neg c2 hf
              by_cases c3 : a2 = 3
              · have hf := g_pos c3 hf
                refine q_tcase (k := 3) (off := 64) (tgt := 189) hx hb dX0_fitted_125 c3 (by decide) (by decide) rfl (by decide) ?_
                refine lv_lload hx hb dX0_fitted_189 (lv_at hl 2 rfl) ?_
                refine lv_lload hx hb dX0_fitted_191 (lv_at hl 0 rfl) ?_
                refine lv_lload hx hb dX0_fitted_193 (lv_at hl 2 rfl) ?_
                obtain ⟨r_21, σ_20, hc_19, hf⟩ := g_bnd hf
                refine q_calll (va_runS (As := [.long x15_3, .long x11_1]) (rest := [.long x11_1]) ⟨hx, hb, hml, hown, hts⟩ (k_X1_commonDivisor l z n D cy Y hc_19) (va_cwS 2 hts gX0_fitted_X1_commonDivisor rfl rfl rfl (by decide +kernel) ⟨Nat.le_of_ble_eq_true rfl, Nat.le_of_ble_eq_true rfl⟩) (q_PS hK hN hW) rfl rfl hl.1 rfl (lv_room (Nat.le_of_ble_eq_true rfl)) dX0_fitted_195 ⟨Nat.le_refl _, Nat.le_refl _⟩) hS (fun H locs hW hS => ?_)
                obtain ⟨hz_22, hf⟩ := g_ne hf
                refine lv_ldiv hx hb dX0_fitted_198 hz_22 ?_
                exact q_lret hx hb hr hlocks hW hS hf dX0_fitted_199
              · have hf := g_neg c3 hf
                refine lv_tableOut (tgt := 200) hx hb dX0_fitted_125 (by have t0 := lv_neT (k := 0) c0 (a := 0) rfl; have t1 := lv_neT (k := 1) c1 (a := 1) rfl; have t2 := lv_neT (k := 2) c2 (a := 2) rfl; have t3 := lv_neT (k := 3) c3 (a := 3) rfl; omega) (by decide) ?_
                refine lv_aload_n hx hb dX0_fitted_200 rfl (lv_at hl 3 rfl) ?_
                refine lv_iload_n hx hb dX0_fitted_201 rfl (lv_at hl 4 rfl) ?_
                refine lv_lload hx hb dX0_fitted_202 (lv_at hl 1 rfl) ?_
                refine lv_lload hx hb dX0_fitted_204 (lv_at hl 0 rfl) ?_
                refine lv_lload hx hb dX0_fitted_206 (lv_at hl 2 rfl) ?_
                obtain ⟨r_6, σ_5, hc_4, hf⟩ := g_bnd hf
                refine q_calli (va_runV (As := [.int a1, .long x13_2, .long x15_3, .long x11_1]) (rest := []) ⟨hx, hb, hml, hown, hts⟩ (k_X0_outside l z n D cy Y h_this hc_4) (cwV 4 hts gX0_fitted_X0_outside rfl rfl rfl (by decide +kernel) ⟨Nat.le_of_ble_eq_true rfl, Nat.le_of_ble_eq_true rfl⟩) (q_PV (T := TX0) (N := 13) hK hN hW h_this (by decide) rfl) rfl rfl hl.1 rfl (lv_room (Nat.le_of_ble_eq_true rfl)) dX0_fitted_208 ⟨Nat.le_refl _, Nat.le_refl _⟩) hS (fun H locs hW hS => ?_)
                refine lv_i2l hx hb dX0_fitted_211 rfl ?_
                exact q_lret hx hb hr hlocks hW hS hf dX0_fitted_212
      · have hf := g_neg c hf
        refine lv_aload_n hx hb dX0_fitted_23 rfl (lv_at hl 0 rfl) ?_
        refine lv_iload_n hx hb dX0_fitted_24 rfl (lv_at hl 1 rfl) ?_
        refine lv_iload hx hb dX0_fitted_25 (lv_at hl 7 rfl) ?_
        obtain ⟨r_25, σ_24, hc_23, hf⟩ := g_bnd hf
        refine q_calli (va_runV (As := [.int a1, .int x11]) (rest := []) ⟨hx, hb, hml, hown, hts⟩ (k_X0_countOf l z n D cy Y h_this hc_23) (cwV 2 hts gX0_fitted_X0_countOf rfl rfl rfl (by decide +kernel) ⟨Nat.le_of_ble_eq_true rfl, Nat.le_of_ble_eq_true rfl⟩) (q_PV (T := TX0) (N := 13) hK hN hW h_this (by decide) rfl) rfl rfl hl.1 rfl (lv_room (Nat.le_of_ble_eq_true rfl)) dX0_fitted_27 ⟨Nat.le_refl _, Nat.le_refl _⟩) hS (fun H locs hW hS => ?_)
        refine lv_i2l hx hb dX0_fitted_30 rfl ?_
        refine lv_topl (fun x12_26 ex12_26 => ?_)
        have hf := g_lt ex12_26 hf
        refine lv_lstore (lv' := [(12, .long x12_26), (0, .ref (z + this)), (1, .int a1), (2, .int a2), (3, .long x3), (5, .long x5), (7, .long x7), (9, .long x9), (11, .int x11)]) hx hb dX0_fitted_31 hl (by decide) rfl (fun ls hl => ?_)
        refine lv_lload_n hx hb dX0_fitted_33 rfl (lv_at hl 4 rfl) ?_
        refine lv_lload hx hb dX0_fitted_34 (lv_at hl 0 rfl) ?_
        refine lv_ladd hx hb dX0_fitted_36 ?_
        refine lv_topl (fun x3_27 ex3_27 => ?_)
        have hf := g_lt ex3_27 hf
        refine lv_lstore_n (lv' := [(3, .long x3_27), (12, .long x12_26), (0, .ref (z + this)), (1, .int a1), (2, .int a2), (5, .long x5), (7, .long x7), (9, .long x9), (11, .int x11)]) hx hb dX0_fitted_37 rfl hl (by decide) rfl (fun ls hl => ?_)
        refine lv_lload hx hb dX0_fitted_38 (lv_at hl 5 rfl) ?_
        refine lv_aload_n hx hb dX0_fitted_40 rfl (lv_at hl 2 rfl) ?_
        refine q_getp (own := RX0) (ref := RX0) (C := RX0) (T := TX0) (N := 13) (kc := 0) (ci := 0) hx hb hts hin0 hown hK hW h_this (by decide) rfl 5 (by decide) hw1 rfl rfl rfl (v := 18) rfl dX0_fitted_41 (fun hk_28 hq_29 => ?_)
        refine lv_iload hx hb dX0_fitted_44 (lv_at hl 8 rfl) ?_
        obtain ⟨hi_30, hf⟩ := g_in hf
        refine q_iald hx hb hK hW hk_28 (inb_of hq_29 hi_30) dX0_fitted_46 ?_
        refine lv_i2l hx hb dX0_fitted_47 rfl ?_
        refine lv_ladd hx hb dX0_fitted_48 ?_
        refine lv_topl (fun x5_31 ex5_31 => ?_)
        have hf := g_lt ex5_31 hf
        refine lv_lstore (lv' := [(5, .long x5_31), (3, .long x3_27), (12, .long x12_26), (0, .ref (z + this)), (1, .int a1), (2, .int a2), (7, .long x7), (9, .long x9), (11, .int x11)]) hx hb dX0_fitted_49 hl (by decide) rfl (fun ls hl => ?_)
        refine lv_lload hx hb dX0_fitted_51 (lv_at hl 6 rfl) ?_
        refine lv_lload hx hb dX0_fitted_53 (lv_at hl 2 rfl) ?_
        refine lv_lload hx hb dX0_fitted_55 (lv_at hl 2 rfl) ?_
        refine lv_lmul hx hb dX0_fitted_57 ?_
        refine lv_ladd hx hb dX0_fitted_58 ?_
        refine lv_topl (fun x7_32 ex7_32 => ?_)
        have hf := g_lt ex7_32 hf
        refine lv_lstore (lv' := [(7, .long x7_32), (5, .long x5_31), (3, .long x3_27), (12, .long x12_26), (0, .ref (z + this)), (1, .int a1), (2, .int a2), (9, .long x9), (11, .int x11)]) hx hb dX0_fitted_59 hl (by decide) rfl (fun ls hl => ?_)
        refine lv_lload hx hb dX0_fitted_61 (lv_at hl 7 rfl) ?_
        refine lv_lload hx hb dX0_fitted_63 (lv_at hl 3 rfl) ?_
        refine lv_aload_n hx hb dX0_fitted_65 rfl (lv_at hl 4 rfl) ?_
        refine q_getp (own := RX0) (ref := RX0) (C := RX0) (T := TX0) (N := 13) (kc := 0) (ci := 0) hx hb hts hin0 hown hK hW h_this (by decide) rfl 5 (by decide) hw1 rfl rfl rfl (v := 18) rfl dX0_fitted_66 (fun hk_33 hq_34 => ?_)
        refine lv_iload hx hb dX0_fitted_69 (lv_at hl 8 rfl) ?_
        obtain ⟨hi_35, hf⟩ := g_in hf
        refine q_iald hx hb hK hW hk_33 (inb_of hq_34 hi_35) dX0_fitted_71 ?_
        refine lv_i2l hx hb dX0_fitted_72 rfl ?_
        refine lv_lmul hx hb dX0_fitted_73 ?_
        refine lv_ladd hx hb dX0_fitted_74 ?_
        refine lv_topl (fun x9_36 ex9_36 => ?_)
        have hf := g_lt ex9_36 hf
        refine lv_lstore (lv' := [(9, .long x9_36), (7, .long x7_32), (5, .long x5_31), (3, .long x3_27), (12, .long x12_26), (0, .ref (z + this)), (1, .int a1), (2, .int a2), (11, .int x11)]) hx hb dX0_fitted_75 hl (by decide) rfl (fun ls hl => ?_)
        obtain ⟨x11_37, ex11_37⟩ : ∃ y : Int32, y = x11 + 1 := ⟨_, rfl⟩
        have hf := g_lt ex11_37 hf
        refine lv_iinc (v := x11_37) (lv' := [(11, .int x11_37), (9, .long x9_36), (7, .long x7_32), (5, .long x5_31), (3, .long x3_27), (12, .long x12_26), (0, .ref (z + this)), (1, .int a1), (2, .int a2)]) hx hb dX0_fitted_77 hl (k := 8) rfl (by rw [ex11_37]; rfl) (by decide) rfl (fun ls hl => ?_)
        refine lv_goto (tgt := 14) hx hb dX0_fitted_80 (by decide) ?_
        exact H14 x3_27 x5_31 x7_32 x9_36 x11_37 σ_24 hf _ _ _ hW hS (lv_sub hl [6, 7, 8, 4, 3, 2, 1, 0] rfl)
  refine lv_lconst (v := 0) hx hb dX0_fitted_0 (by decide) ?_
  refine lv_lstore_n (lv' := [(3, .long 0), (0, .ref (z + this)), (1, .int a1), (2, .int a2)]) hx hb dX0_fitted_1 rfl hl (by decide) rfl (fun ls hl => ?_)
  refine lv_lconst (v := 0) hx hb dX0_fitted_2 (by decide) ?_
  refine lv_lstore (lv' := [(5, .long 0), (3, .long 0), (0, .ref (z + this)), (1, .int a1), (2, .int a2)]) hx hb dX0_fitted_3 hl (by decide) rfl (fun ls hl => ?_)
  refine lv_lconst (v := 0) hx hb dX0_fitted_5 (by decide) ?_
  refine lv_lstore (lv' := [(7, .long 0), (5, .long 0), (3, .long 0), (0, .ref (z + this)), (1, .int a1), (2, .int a2)]) hx hb dX0_fitted_6 hl (by decide) rfl (fun ls hl => ?_)
  refine lv_lconst (v := 0) hx hb dX0_fitted_8 (by decide) ?_
  refine lv_lstore (lv' := [(9, .long 0), (7, .long 0), (5, .long 0), (3, .long 0), (0, .ref (z + this)), (1, .int a1), (2, .int a2)]) hx hb dX0_fitted_9 hl (by decide) rfl (fun ls hl => ?_)
  refine lv_iconst (v := 0) hx hb dX0_fitted_11 (by decide) ?_
  refine lv_istore (lv' := [(11, .int 0), (9, .long 0), (7, .long 0), (5, .long 0), (3, .long 0), (0, .ref (z + this)), (1, .int a1), (2, .int a2)]) hx hb dX0_fitted_12 hl (by decide) rfl (fun ls hl => ?_)
  exact B14 fu 0 0 0 0 0 σ hf _ _ _ hW hS (lv_sub hl [5, 6, 7, 4, 3, 2, 1, 0] rfl)
set_option maxRecDepth 100000 in
set_option maxHeartbeats 40000000 in
theorem k_X2_empty (l : Launch) (z n : Nat) (D : va_G) (cy : Nat → ClassId) (Y : Yt) {this : Nat} {σ : Mm} {σ1 : Mm} (h_this : okk Y n 1 this) (hf : f_X2_empty Y this σ = some σ1) : Kv l yX2_empty wsX2_empty ({ frames := 0, cells := 0, slots := 0, locals := 0 } : Room) z n D cy Y [.ref (z + this)] σ σ1 := by
  refine Met.ofW (cc := cX2_empty) (maxL := 1) (ret := none) (by decide +kernel) rfl ?_
  intro p e s m args below meth c s₁ B hml hv
  obtain ⟨rfl, hW, hK, hN⟩ := hv
  have hx := B.exec
  have hb := B.bytes
  have hr := B.returns
  have hts := atoms_spec (ws := wsX2_empty) B.pre
  have hown : s.vm.findClass RX2 = some m.cls := findClass_of_methodNamed B.named
  have hlocks := B.notSynchronized
  have hS : va_S (Az z) s.heap s.heap [] := va_S.rf
  have hin2 : ∀ w ∈ wsX20, w ∈ wsX2_empty := fun w h => List.mem_cons_of_mem _ (List.mem_append_right _ h)
  have hw0 := hts (.fieldLink RX2 15 "SkyClocks$Gaps" "many" "I") (List.mem_of_getElem? (i := 1) rfl)
  have hl := lv_entry ([.ref (z + this)]) (n := 1) (Nat.le_of_ble_eq_true rfl)
  rw [lg_entry_eq]
  generalize (lg_sl ([.ref (z + this)]) ++ List.replicate (1 - (lg_sl ([.ref (z + this)])).length) Slot.unset).toArray = ls at hl ⊢
  have hl : lv_has ls 1 [(0, .ref (z + this))] := hl
  refine lv_aload_n hx hb dX2_empty_0 rfl (lv_at hl 0 rfl) ?_
  refine lv_iconst (v := 0) hx hb dX2_empty_1 (by decide) ?_
  refine q_puti (own := RX2) (ref := RX2) (C := RX2) (T := TX2) (N := 2) (kc := 1) (ci := 0) hx hb hts hin2 tyX2_ok nmX2 hown hK hW hS h_this (by decide) rfl 1 (by decide) hw0 rfl rfl (ty := .int) (tyX2_ok 1 (by decide)) rfl rfl rfl dX2_empty_2 (fun H locs hW hS => ?_)
  obtain ⟨σ_1, eσ_1⟩ : ∃ y : Mm, y = (Mm.si σ this 1 0) := ⟨_, rfl⟩
  rw [← eσ_1] at hW
  have hf := g_lt eσ_1 hf
  exact q_vret hx hb hr hlocks hW hS hf dX2_empty_5
set_option maxRecDepth 100000 in
set_option maxHeartbeats 40000000 in
theorem k_X2_put (l : Launch) (z n : Nat) (D : va_G) (cy : Nat → ClassId) (Y : Yt) {this : Nat} {a1 : Int32} {σ : Mm} {σ1 : Mm} (h_this : okk Y n 1 this) (hf : f_X2_put Y this a1 σ = some σ1) : Kv l yX2_put wsX2_put ({ frames := 0, cells := 0, slots := 0, locals := 0 } : Room) z n D cy Y [.ref (z + this), .int a1] σ σ1 := by
  refine Met.ofW (cc := cX2_put) (maxL := 2) (ret := none) (by decide +kernel) rfl ?_
  intro p e s m args below meth c s₁ B hml hv
  obtain ⟨rfl, hW, hK, hN⟩ := hv
  have hx := B.exec
  have hb := B.bytes
  have hr := B.returns
  have hts := atoms_spec (ws := wsX2_put) B.pre
  have hown : s.vm.findClass RX2 = some m.cls := findClass_of_methodNamed B.named
  have hlocks := B.notSynchronized
  have hS : va_S (Az z) s.heap s.heap [] := va_S.rf
  have hin2 : ∀ w ∈ wsX20, w ∈ wsX2_put := fun w h => List.mem_cons_of_mem _ (List.mem_append_right _ h)
  have hw0 := hts (.fieldLink RX2 15 "SkyClocks$Gaps" "many" "I") (List.mem_of_getElem? (i := 1) rfl)
  have hw1 := hts (.fieldLink RX2 11 "SkyClocks$Gaps" "sizes" "[I") (List.mem_of_getElem? (i := 2) rfl)
  have hl := lv_entry ([.ref (z + this), .int a1]) (n := 2) (Nat.le_of_ble_eq_true rfl)
  rw [lg_entry_eq]
  generalize (lg_sl ([.ref (z + this), .int a1]) ++ List.replicate (2 - (lg_sl ([.ref (z + this), .int a1])).length) Slot.unset).toArray = ls at hl ⊢
  have hl : lv_has ls 2 [(0, .ref (z + this)), (1, .int a1)] := hl
  refine lv_aload_n hx hb dX2_put_0 rfl (lv_at hl 0 rfl) ?_
  refine q_geti (own := RX2) (ref := RX2) (C := RX2) (T := TX2) (N := 2) (kc := 1) (ci := 0) hx hb hts hin2 hown hK hW h_this (by decide) rfl 1 (by decide) hw0 rfl rfl dX2_put_1 ?_
  refine lv_sipush (v := 576) hx hb dX2_put_4 (by decide) ?_
  refine lv_icmp_ge (tgt := 30) hx hb dX2_put_7 (by decide) (fun c => ?_) (fun c => ?_)
  · have hf := g_pos c hf
    exact q_vret hx hb hr hlocks hW hS hf dX2_put_30
  · have hf := g_neg c hf
    refine lv_aload_n hx hb dX2_put_10 rfl (lv_at hl 0 rfl) ?_
    refine q_getp (own := RX2) (ref := RX2) (C := RX2) (T := TX2) (N := 2) (kc := 1) (ci := 0) hx hb hts hin2 hown hK hW h_this (by decide) rfl 0 (by decide) hw1 rfl rfl rfl (v := 554) rfl dX2_put_11 (fun hk_1 hq_2 => ?_)
    refine lv_aload_n hx hb dX2_put_14 rfl (lv_at hl 0 rfl) ?_
    refine q_geti (own := RX2) (ref := RX2) (C := RX2) (T := TX2) (N := 2) (kc := 1) (ci := 0) hx hb hts hin2 hown hK hW h_this (by decide) rfl 1 (by decide) hw0 rfl rfl dX2_put_15 ?_
    refine lv_iload_n hx hb dX2_put_18 rfl (lv_at hl 1 rfl) ?_
    obtain ⟨hi_3, hf⟩ := g_in hf
    refine q_iast hx hb hK hW hS hk_1 (inb_of hq_2 hi_3) dX2_put_19 (fun H locs hW hS => ?_)
    obtain ⟨σ_4, eσ_4⟩ : ∃ y : Mm, y = (Mm.si σ 554 (ix (Mm.gi σ this 1)) a1) := ⟨_, rfl⟩
    rw [← eσ_4] at hW
    have hf := g_lt eσ_4 hf
    refine lv_aload_n hx hb dX2_put_20 rfl (lv_at hl 0 rfl) ?_
    refine lv_dup hx hb dX2_put_21 rfl ?_
    refine q_geti (own := RX2) (ref := RX2) (C := RX2) (T := TX2) (N := 2) (kc := 1) (ci := 0) hx hb hts hin2 hown hK hW h_this (by decide) rfl 1 (by decide) hw0 rfl rfl dX2_put_22 ?_
    refine lv_iconst (v := 1) hx hb dX2_put_25 (by decide) ?_
    refine lv_iadd hx hb dX2_put_26 ?_
    refine q_puti (own := RX2) (ref := RX2) (C := RX2) (T := TX2) (N := 2) (kc := 1) (ci := 0) hx hb hts hin2 tyX2_ok nmX2 hown hK hW hS h_this (by decide) rfl 1 (by decide) hw0 rfl rfl (ty := .int) (tyX2_ok 1 (by decide)) rfl rfl rfl dX2_put_27 (fun H locs hW hS => ?_)
    obtain ⟨σ_5, eσ_5⟩ : ∃ y : Mm, y = (Mm.si σ_4 this 1 ((Mm.gi σ_4 this 1) + 1)) := ⟨_, rfl⟩
    rw [← eσ_5] at hW
    have hf := g_lt eσ_5 hf
    exact q_vret hx hb hr hlocks hW hS hf dX2_put_30
set_option maxRecDepth 100000 in
set_option maxHeartbeats 40000000 in
theorem k_X2_howManyUpTo (l : Launch) (z n : Nat) (D : va_G) (cy : Nat → ClassId) (Y : Yt) {fu : Nat} {this : Nat} {a1 : Int32} {σ : Mm} {r : Int32} {σ1 : Mm} (h_this : okk Y n 1 this) (hf : f_X2_howManyUpTo Y fu this a1 σ = some (r, σ1)) : Ki l yX2_howManyUpTo wsX2_howManyUpTo ({ frames := 0, cells := 0, slots := 0, locals := 0 } : Room) z n D cy Y [.ref (z + this), .int a1] σ r σ1 := by
  refine Met.ofW (cc := cX2_howManyUpTo) (maxL := 4) (ret := (some .int)) (by decide +kernel) rfl ?_
  intro p e s m args below meth c s₁ B hml hv
  obtain ⟨rfl, hW, hK, hN⟩ := hv
  have hx := B.exec
  have hb := B.bytes
  have hr := B.returns
  have hts := atoms_spec (ws := wsX2_howManyUpTo) B.pre
  have hown : s.vm.findClass RX2 = some m.cls := findClass_of_methodNamed B.named
  have hlocks := B.notSynchronized
  have hS : va_S (Az z) s.heap s.heap [] := va_S.rf
  have hin2 : ∀ w ∈ wsX20, w ∈ wsX2_howManyUpTo := fun w h => List.mem_cons_of_mem _ (List.mem_append_right _ h)
  have hw0 := hts (.fieldLink RX2 15 "SkyClocks$Gaps" "many" "I") (List.mem_of_getElem? (i := 1) rfl)
  have hw1 := hts (.fieldLink RX2 11 "SkyClocks$Gaps" "sizes" "[I") (List.mem_of_getElem? (i := 2) rfl)
  have hl := lv_entry ([.ref (z + this), .int a1]) (n := 4) (Nat.le_of_ble_eq_true rfl)
  rw [lg_entry_eq]
  generalize (lg_sl ([.ref (z + this), .int a1]) ++ List.replicate (4 - (lg_sl ([.ref (z + this), .int a1])).length) Slot.unset).toArray = ls at hl ⊢
  have hl : lv_has ls 4 [(0, .ref (z + this)), (1, .int a1)] := hl
  have B25 : ∀ (k4 : Int32 → Int32 → Mm → Option (Int32 × Mm)) (H4 : ∀ (x2 : Int32) (x3 : Int32) (σ : Mm), k4 x2 x3 σ = some (r, σ1) → ∀ (H : Heap) (locs : List Loc) (ls : Array Slot), WH z n D cy Y σ H → va_S (Az z) s.heap H locs → lv_has ls 4 [(0, .ref (z + this)), (1, .int a1), (2, .int x2), (3, .int x3)] → W p l e ({ frames := 0, cells := 0, slots := 0, locals := 0 } : Room) s m ([.ref (z + this), .int a1] : List Value).toArray below meth c H locs 0 0 (MQ below (va_Qi (fun (x : Int32) (_ : Unit) => x = r) (fun _ t => WH z n D cy Y σ1 t.heap) (Az z)) ([.ref (z + this), .int a1] : List Value).toArray s 0 0 (Az z)) (F0 m 4 ls [])) (x2 : Int32) (x3 : Int32) (σ : Mm), b_X2_howManyUpTo_25 Y fu this a1 k4 x2 x3 σ = some (r, σ1) → ∀ (H : Heap) (locs : List Loc) (ls : Array Slot), WH z n D cy Y σ H → va_S (Az z) s.heap H locs → lv_has ls 4 [(0, .ref (z + this)), (1, .int a1), (2, .int x2), (3, .int x3)] → W p l e ({ frames := 0, cells := 0, slots := 0, locals := 0 } : Room) s m ([.ref (z + this), .int a1] : List Value).toArray below meth c H locs 0 0 (MQ below (va_Qi (fun (x : Int32) (_ : Unit) => x = r) (fun _ t => WH z n D cy Y σ1 t.heap) (Az z)) ([.ref (z + this), .int a1] : List Value).toArray s 0 0 (Az z)) (F0 m 25 ls []) := by
    intro k4 H4 x2 x3 σ  hf H locs ls hW hS hl
    obtain ⟨x3_4, ex3_4⟩ : ∃ y : Int32, y = x3 + 1 := ⟨_, rfl⟩
    have hf := g_lt ex3_4 hf
    refine lv_iinc (v := x3_4) (lv' := [(3, .int x3_4), (0, .ref (z + this)), (1, .int a1), (2, .int x2)]) hx hb dX2_howManyUpTo_25 hl (k := 3) rfl (by rw [ex3_4]; rfl) (by decide) rfl (fun ls hl => ?_)
    refine lv_goto (tgt := 4) hx hb dX2_howManyUpTo_28 (by decide) ?_
    exact H4 x2 x3_4 σ hf _ _ _ hW hS (lv_sub hl [1, 2, 3, 0] rfl)
  have B4 : ∀ (nn : Nat) (x2 : Int32) (x3 : Int32) (σ : Mm), b_X2_howManyUpTo_4 Y fu this a1 nn x2 x3 σ = some (r, σ1) → ∀ (H : Heap) (locs : List Loc) (ls : Array Slot), WH z n D cy Y σ H → va_S (Az z) s.heap H locs → lv_has ls 4 [(0, .ref (z + this)), (1, .int a1), (2, .int x2), (3, .int x3)] → W p l e ({ frames := 0, cells := 0, slots := 0, locals := 0 } : Room) s m ([.ref (z + this), .int a1] : List Value).toArray below meth c H locs 0 0 (MQ below (va_Qi (fun (x : Int32) (_ : Unit) => x = r) (fun _ t => WH z n D cy Y σ1 t.heap) (Az z)) ([.ref (z + this), .int a1] : List Value).toArray s 0 0 (Az z)) (F0 m 4 ls []) := by
    intro nn
    induction nn with
    | zero =>
      intro x2 x3 σ  hf
      have h9 : (none : Option (Int32 × Mm)) = some (r, σ1) := hf
      cases h9
    | succ nn H4 =>
      intro x2 x3 σ  hf H locs ls hW hS hl
      have hf : s_X2_howManyUpTo_4 Y fu this a1 (b_X2_howManyUpTo_4 Y fu this a1 nn) x2 x3 σ = some (r, σ1) := hf
      generalize hkk : b_X2_howManyUpTo_4 Y fu this a1 nn = k4 at hf H4
      refine lv_iload_n hx hb dX2_howManyUpTo_4 rfl (lv_at hl 3 rfl) ?_
      refine lv_aload_n hx hb dX2_howManyUpTo_5 rfl (lv_at hl 0 rfl) ?_
      refine q_geti (own := RX2) (ref := RX2) (C := RX2) (T := TX2) (N := 2) (kc := 1) (ci := 0) hx hb hts hin2 hown hK hW h_this (by decide) rfl 1 (by decide) hw0 rfl rfl dX2_howManyUpTo_6 ?_
      refine lv_icmp_ge (tgt := 31) hx hb dX2_howManyUpTo_9 (by decide) (fun c => ?_) (fun c => ?_)
      · have hf := g_pos c hf
        refine lv_iload_n hx hb dX2_howManyUpTo_31 rfl (lv_at hl 2 rfl) ?_
        exact q_iret hx hb hr hlocks hW hS hf dX2_howManyUpTo_32
      · have hf := g_neg c hf
        refine lv_aload_n hx hb dX2_howManyUpTo_12 rfl (lv_at hl 0 rfl) ?_
        refine q_getp (own := RX2) (ref := RX2) (C := RX2) (T := TX2) (N := 2) (kc := 1) (ci := 0) hx hb hts hin2 hown hK hW h_this (by decide) rfl 0 (by decide) hw1 rfl rfl rfl (v := 554) rfl dX2_howManyUpTo_13 (fun hk_1 hq_2 => ?_)
        refine lv_iload_n hx hb dX2_howManyUpTo_16 rfl (lv_at hl 3 rfl) ?_
        obtain ⟨hi_3, hf⟩ := g_in hf
        refine q_iald hx hb hK hW hk_1 (inb_of hq_2 hi_3) dX2_howManyUpTo_17 ?_
        refine lv_iload_n hx hb dX2_howManyUpTo_18 rfl (lv_at hl 1 rfl) ?_
        refine lv_icmp_gt (tgt := 25) hx hb dX2_howManyUpTo_19 (by decide) (fun c => ?_) (fun c => ?_)
        · have hf := g_pos c hf
          exact B25 k4 H4 x2 x3 σ hf _ _ _ hW hS (lv_sub hl [0, 1, 2, 3] rfl)
        · have hf := g_neg c hf
          obtain ⟨x2_5, ex2_5⟩ : ∃ y : Int32, y = x2 + 1 := ⟨_, rfl⟩
          have hf := g_lt ex2_5 hf
          refine lv_iinc (v := x2_5) (lv' := [(2, .int x2_5), (0, .ref (z + this)), (1, .int a1), (3, .int x3)]) hx hb dX2_howManyUpTo_22 hl (k := 2) rfl (by rw [ex2_5]; rfl) (by decide) rfl (fun ls hl => ?_)
          exact B25 k4 H4 x2_5 x3 σ hf _ _ _ hW hS (lv_sub hl [1, 2, 0, 3] rfl)
  refine lv_iconst (v := 0) hx hb dX2_howManyUpTo_0 (by decide) ?_
  refine lv_istore_n (lv' := [(2, .int 0), (0, .ref (z + this)), (1, .int a1)]) hx hb dX2_howManyUpTo_1 rfl hl (by decide) rfl (fun ls hl => ?_)
  refine lv_iconst (v := 0) hx hb dX2_howManyUpTo_2 (by decide) ?_
  refine lv_istore_n (lv' := [(3, .int 0), (2, .int 0), (0, .ref (z + this)), (1, .int a1)]) hx hb dX2_howManyUpTo_3 rfl hl (by decide) rfl (fun ls hl => ?_)
  exact B4 fu 0 0 σ hf _ _ _ hW hS (lv_sub hl [2, 3, 1, 0] rfl)
set_option maxRecDepth 100000 in
set_option maxHeartbeats 40000000 in
theorem k_X2_middle (l : Launch) (z n : Nat) (D : va_G) (cy : Nat → ClassId) (Y : Yt) {fu : Nat} {this : Nat} {σ : Mm} {r : Int32} {σ1 : Mm} (h_this : okk Y n 1 this) (hf : f_X2_middle Y fu this σ = some (r, σ1)) : Ki l yX2_middle wsX2_middle ({ frames := 1, cells := 0, slots := 0, locals := 23 } : Room) z n D cy Y [.ref (z + this)] σ r σ1 := by
  refine Met.ofW (cc := cX2_middle) (maxL := 5) (ret := (some .int)) (by decide +kernel) rfl ?_
  intro p e s m args below meth c s₁ B hml hv
  obtain ⟨rfl, hW, hK, hN⟩ := hv
  have hx := B.exec
  have hb := B.bytes
  have hr := B.returns
  have hts := atoms_spec (ws := wsX2_middle) B.pre
  have hown : s.vm.findClass RX2 = some m.cls := findClass_of_methodNamed B.named
  have hlocks := B.notSynchronized
  have hS : va_S (Az z) s.heap s.heap [] := va_S.rf
  have hin2 : ∀ w ∈ wsX20, w ∈ wsX2_middle := fun w h => List.mem_cons_of_mem _ (List.mem_append_right _ h)
  have hw0 := hts (.constant RX2 19 (-1000000)) (List.mem_of_getElem? (i := 1) rfl)
  have hw1 := hts (.constant RX2 20 (1000000)) (List.mem_of_getElem? (i := 2) rfl)
  have hw2 := hts (.fieldLink RX2 15 "SkyClocks$Gaps" "many" "I") (List.mem_of_getElem? (i := 3) rfl)
  have hl := lv_entry ([.ref (z + this)]) (n := 5) (Nat.le_of_ble_eq_true rfl)
  rw [lg_entry_eq]
  generalize (lg_sl ([.ref (z + this)]) ++ List.replicate (5 - (lg_sl ([.ref (z + this)])).length) Slot.unset).toArray = ls at hl ⊢
  have hl : lv_has ls 5 [(0, .ref (z + this))] := hl
  have B56 : ∀ (k8 : Int32 → Int32 → Int32 → Mm → Option (Int32 × Mm)) (H8 : ∀ (x1 : Int32) (x2 : Int32) (x3 : Int32) (σ : Mm), k8 x1 x2 x3 σ = some (r, σ1) → ∀ (H : Heap) (locs : List Loc) (ls : Array Slot), WH z n D cy Y σ H → va_S (Az z) s.heap H locs → lv_has ls 5 [(0, .ref (z + this)), (1, .int x1), (2, .int x2), (3, .int x3)] → W p l e ({ frames := 1, cells := 0, slots := 0, locals := 23 } : Room) s m ([.ref (z + this)] : List Value).toArray below meth c H locs 0 0 (MQ below (va_Qi (fun (x : Int32) (_ : Unit) => x = r) (fun _ t => WH z n D cy Y σ1 t.heap) (Az z)) ([.ref (z + this)] : List Value).toArray s 0 0 (Az z)) (F0 m 8 ls [])) (x1 : Int32) (x2 : Int32) (x3 : Int32) (σ : Mm), b_X2_middle_56 Y fu this k8 x1 x2 x3 σ = some (r, σ1) → ∀ (H : Heap) (locs : List Loc) (ls : Array Slot), WH z n D cy Y σ H → va_S (Az z) s.heap H locs → lv_has ls 5 [(0, .ref (z + this)), (1, .int x1), (2, .int x2), (3, .int x3)] → W p l e ({ frames := 1, cells := 0, slots := 0, locals := 23 } : Room) s m ([.ref (z + this)] : List Value).toArray below meth c H locs 0 0 (MQ below (va_Qi (fun (x : Int32) (_ : Unit) => x = r) (fun _ t => WH z n D cy Y σ1 t.heap) (Az z)) ([.ref (z + this)] : List Value).toArray s 0 0 (Az z)) (F0 m 56 ls []) := by
    intro k8 H8 x1 x2 x3 σ  hf H locs ls hW hS hl
    obtain ⟨x3_8, ex3_8⟩ : ∃ y : Int32, y = x3 + 1 := ⟨_, rfl⟩
    have hf := g_lt ex3_8 hf
    refine lv_iinc (v := x3_8) (lv' := [(3, .int x3_8), (0, .ref (z + this)), (1, .int x1), (2, .int x2)]) hx hb dX2_middle_56 hl (k := 3) rfl (by rw [ex3_8]; rfl) (by decide) rfl (fun ls hl => ?_)
    refine lv_goto (tgt := 8) hx hb dX2_middle_59 (by decide) ?_
    exact H8 x1 x2 x3_8 σ hf _ _ _ hW hS (lv_sub hl [1, 2, 3, 0] rfl)
  have B8 : ∀ (nn : Nat) (x1 : Int32) (x2 : Int32) (x3 : Int32) (σ : Mm), b_X2_middle_8 Y fu this nn x1 x2 x3 σ = some (r, σ1) → ∀ (H : Heap) (locs : List Loc) (ls : Array Slot), WH z n D cy Y σ H → va_S (Az z) s.heap H locs → lv_has ls 5 [(0, .ref (z + this)), (1, .int x1), (2, .int x2), (3, .int x3)] → W p l e ({ frames := 1, cells := 0, slots := 0, locals := 23 } : Room) s m ([.ref (z + this)] : List Value).toArray below meth c H locs 0 0 (MQ below (va_Qi (fun (x : Int32) (_ : Unit) => x = r) (fun _ t => WH z n D cy Y σ1 t.heap) (Az z)) ([.ref (z + this)] : List Value).toArray s 0 0 (Az z)) (F0 m 8 ls []) := by
    intro nn
    induction nn with
    | zero =>
      intro x1 x2 x3 σ  hf
      have h9 : (none : Option (Int32 × Mm)) = some (r, σ1) := hf
      cases h9
    | succ nn H8 =>
      intro x1 x2 x3 σ  hf H locs ls hW hS hl
      have hf : s_X2_middle_8 Y fu this (b_X2_middle_8 Y fu this nn) x1 x2 x3 σ = some (r, σ1) := hf
      generalize hkk : b_X2_middle_8 Y fu this nn = k8 at hf H8
      refine lv_iload_n hx hb dX2_middle_8 rfl (lv_at hl 3 rfl) ?_
      refine lv_bipush (v := 32) hx hb dX2_middle_9 (by decide) ?_
      refine lv_icmp_ge (tgt := 62) hx hb dX2_middle_11 (by decide) (fun c => ?_) (fun c => ?_)
      · have hf := g_pos c hf
        refine lv_iload_n hx hb dX2_middle_62 rfl (lv_at hl 1 rfl) ?_
        exact q_iret hx hb hr hlocks hW hS hf dX2_middle_63
      · have hf := g_neg c hf
        refine lv_iload_n hx hb dX2_middle_14 rfl (lv_at hl 1 rfl) ?_
        refine lv_iload_n hx hb dX2_middle_15 rfl (lv_at hl 2 rfl) ?_
        refine lv_icmp_ge (tgt := 62) hx hb dX2_middle_16 (by decide) (fun c => ?_) (fun c => ?_)
        · have hf := g_pos c hf
          refine lv_iload_n hx hb dX2_middle_62 rfl (lv_at hl 1 rfl) ?_
          exact q_iret hx hb hr hlocks hW hS hf dX2_middle_63
        · have hf := g_neg c hf
          refine lv_iload_n hx hb dX2_middle_19 rfl (lv_at hl 1 rfl) ?_
          refine lv_iload_n hx hb dX2_middle_20 rfl (lv_at hl 2 rfl) ?_
          refine lv_iadd hx hb dX2_middle_21 ?_
          refine lv_iconst (v := 2) hx hb dX2_middle_22 (by decide) ?_
          obtain ⟨r_3, σ_2, hc_1, hf⟩ := g_bnd hf
          refine q_calli (va_runS (As := [.int (x1 + x2), .int 2]) (rest := []) ⟨hx, hb, hml, hown, hts⟩ (k_J9_floorDiv_7cf53 l z n D cy Y hc_1) (va_cwS 2 hts gX2_middle_J9_floorDiv_7cf53 rfl rfl rfl (by decide +kernel) ⟨Nat.le_of_ble_eq_true rfl, Nat.le_of_ble_eq_true rfl⟩) (q_PS hK hN hW) rfl rfl hl.1 rfl (lv_room (Nat.le_of_ble_eq_true rfl)) dX2_middle_23 ⟨Nat.le_refl _, Nat.le_refl _⟩) hS (fun H locs hW hS => ?_)
          refine lv_istore (lv' := [(4, .int r_3), (0, .ref (z + this)), (1, .int x1), (2, .int x2), (3, .int x3)]) hx hb dX2_middle_26 hl (by decide) rfl (fun ls hl => ?_)
          refine lv_aload_n hx hb dX2_middle_28 rfl (lv_at hl 1 rfl) ?_
          refine lv_iload hx hb dX2_middle_29 (lv_at hl 0 rfl) ?_
          obtain ⟨r_6, σ_5, hc_4, hf⟩ := g_bnd hf
          refine q_calli (va_runV (As := [.int r_3]) (rest := []) ⟨hx, hb, hml, hown, hts⟩ (k_X2_howManyUpTo l z n D cy Y h_this hc_4) (cwV 1 hts gX2_middle_X2_howManyUpTo rfl rfl rfl (by decide +kernel) ⟨Nat.le_of_ble_eq_true rfl, Nat.le_of_ble_eq_true rfl⟩) (q_PV (T := TX2) (N := 2) hK hN hW h_this (by decide) rfl) rfl rfl hl.1 rfl (lv_room (Nat.le_of_ble_eq_true rfl)) dX2_middle_31 ⟨Nat.le_refl _, Nat.le_refl _⟩) hS (fun H locs hW hS => ?_)
          refine lv_aload_n hx hb dX2_middle_34 rfl (lv_at hl 1 rfl) ?_
          refine q_geti (own := RX2) (ref := RX2) (C := RX2) (T := TX2) (N := 2) (kc := 1) (ci := 0) hx hb hts hin2 hown hK hW h_this (by decide) rfl 1 (by decide) hw2 rfl rfl dX2_middle_35 ?_
          refine lv_iconst (v := 1) hx hb dX2_middle_38 (by decide) ?_
          refine lv_isub hx hb dX2_middle_39 ?_
          refine lv_iconst (v := 2) hx hb dX2_middle_40 (by decide) ?_
          refine lv_idiv hx hb dX2_middle_41 (by decide) ?_
          refine lv_icmp_le (tgt := 51) hx hb dX2_middle_42 (by decide) (fun c => ?_) (fun c => ?_)
          · have hf := g_pos c hf
            refine lv_iload hx hb dX2_middle_51 (lv_at hl 0 rfl) ?_
            refine lv_iconst (v := 1) hx hb dX2_middle_53 (by decide) ?_
            refine lv_iadd hx hb dX2_middle_54 ?_
            refine lv_topi (fun x1_7 ex1_7 => ?_)
            have hf := g_lt ex1_7 hf
            refine lv_istore_n (lv' := [(1, .int x1_7), (4, .int r_3), (0, .ref (z + this)), (2, .int x2), (3, .int x3)]) hx hb dX2_middle_55 rfl hl (by decide) rfl (fun ls hl => ?_)
            exact B56 k8 H8 x1_7 x2 x3 σ_5 hf _ _ _ hW hS (lv_sub hl [2, 0, 3, 4] rfl)
          · have hf := g_neg c hf
            refine lv_iload hx hb dX2_middle_45 (lv_at hl 0 rfl) ?_
            refine lv_istore_n (lv' := [(2, .int r_3), (4, .int r_3), (0, .ref (z + this)), (1, .int x1), (3, .int x3)]) hx hb dX2_middle_47 rfl hl (by decide) rfl (fun ls hl => ?_)
            refine lv_goto (tgt := 56) hx hb dX2_middle_48 (by decide) ?_
            exact B56 k8 H8 x1 r_3 x3 σ_5 hf _ _ _ hW hS (lv_sub hl [2, 3, 0, 4] rfl)
  refine lv_ldc hx hb hown hw0 dX2_middle_0 ?_
  refine lv_istore_n (lv' := [(1, .int (-1000000)), (0, .ref (z + this))]) hx hb dX2_middle_2 rfl hl (by decide) rfl (fun ls hl => ?_)
  refine lv_ldc hx hb hown hw1 dX2_middle_3 ?_
  refine lv_istore_n (lv' := [(2, .int 1000000), (1, .int (-1000000)), (0, .ref (z + this))]) hx hb dX2_middle_5 rfl hl (by decide) rfl (fun ls hl => ?_)
  refine lv_iconst (v := 0) hx hb dX2_middle_6 (by decide) ?_
  refine lv_istore_n (lv' := [(3, .int 0), (2, .int 1000000), (1, .int (-1000000)), (0, .ref (z + this))]) hx hb dX2_middle_7 rfl hl (by decide) rfl (fun ls hl => ?_)
  exact B8 fu (-1000000) 1000000 0 σ hf _ _ _ hW hS (lv_sub hl [3, 2, 1, 0] rfl)
set_option maxRecDepth 100000 in
set_option maxHeartbeats 40000000 in
theorem k_X3_products (l : Launch) (z n : Nat) (D : va_G) (cy : Nat → ClassId) (Y : Yt) {fu : Nat} {a0 : Nat} {a1 : Nat} {a2 : Int32} {σ : Mm} {r : Int64} {σ1 : Mm} (h_a0 : okk Y n 10 a0) (h_a1 : okk Y n 10 a1) (hf : f_X3_products Y fu a0 a1 a2 σ = some (r, σ1)) : Kl l yX3_products wsX3_products ({ frames := 0, cells := 0, slots := 0, locals := 0 } : Room) z n D cy Y [.ref (z + a0), .ref (z + a1), .int a2] σ r σ1 := by
  refine Met.ofW (cc := cX3_products) (maxL := 6) (ret := (some .long)) (by decide +kernel) rfl ?_
  intro p e s m args below meth c s₁ B hml hv
  obtain ⟨rfl, hW, hK, hN⟩ := hv
  have hx := B.exec
  have hb := B.bytes
  have hr := B.returns
  have hts := atoms_spec (ws := wsX3_products) B.pre
  have hown : s.vm.findClass RX3 = some m.cls := findClass_of_methodNamed B.named
  have hlocks := B.notSynchronized
  have hS : va_S (Az z) s.heap s.heap [] := va_S.rf
  have hl := lv_entry ([.ref (z + a0), .ref (z + a1), .int a2]) (n := 6) (Nat.le_of_ble_eq_true rfl)
  rw [lg_entry_eq]
  generalize (lg_sl ([.ref (z + a0), .ref (z + a1), .int a2]) ++ List.replicate (6 - (lg_sl ([.ref (z + a0), .ref (z + a1), .int a2])).length) Slot.unset).toArray = ls at hl ⊢
  have hl : lv_has ls 6 [(0, .ref (z + a0)), (1, .ref (z + a1)), (2, .int a2)] := hl
  have B5 : ∀ (nn : Nat) (x3 : Int64) (x5 : Int32) (σ : Mm), b_X3_products_5 Y fu a0 a1 a2 nn x3 x5 σ = some (r, σ1) → ∀ (H : Heap) (locs : List Loc) (ls : Array Slot), WH z n D cy Y σ H → va_S (Az z) s.heap H locs → lv_has ls 6 [(0, .ref (z + a0)), (1, .ref (z + a1)), (2, .int a2), (3, .long x3), (5, .int x5)] → W p l e ({ frames := 0, cells := 0, slots := 0, locals := 0 } : Room) s m ([.ref (z + a0), .ref (z + a1), .int a2] : List Value).toArray below meth c H locs 0 0 (MQ below (va_Ql (fun (x : Int64) (_ : Unit) => x = r) (fun _ t => WH z n D cy Y σ1 t.heap) (Az z)) ([.ref (z + a0), .ref (z + a1), .int a2] : List Value).toArray s 0 0 (Az z)) (F0 m 5 ls []) := by
    intro nn
    induction nn with
    | zero =>
      intro x3 x5 σ  hf
      have h9 : (none : Option (Int64 × Mm)) = some (r, σ1) := hf
      cases h9
    | succ nn H5 =>
      intro x3 x5 σ  hf H locs ls hW hS hl
      have hf : s_X3_products_5 Y fu a0 a1 a2 (b_X3_products_5 Y fu a0 a1 a2 nn) x3 x5 σ = some (r, σ1) := hf
      generalize hkk : b_X3_products_5 Y fu a0 a1 a2 nn = k5 at hf H5
      refine lv_iload hx hb dX3_products_5 (lv_at hl 4 rfl) ?_
      refine lv_iload_n hx hb dX3_products_7 rfl (lv_at hl 2 rfl) ?_
      refine lv_icmp_ge (tgt := 31) hx hb dX3_products_8 (by decide) (fun c => ?_) (fun c => ?_)
      · have hf := g_pos c hf
        refine lv_lload_n hx hb dX3_products_31 rfl (lv_at hl 3 rfl) ?_
        exact q_lret hx hb hr hlocks hW hS hf dX3_products_32
      · have hf := g_neg c hf
        refine lv_lload_n hx hb dX3_products_11 rfl (lv_at hl 3 rfl) ?_
        refine lv_aload_n hx hb dX3_products_12 rfl (lv_at hl 0 rfl) ?_
        refine lv_iload hx hb dX3_products_13 (lv_at hl 4 rfl) ?_
        obtain ⟨hi_1, hf⟩ := g_in hf
        refine q_iald hx hb hK hW h_a0 hi_1 dX3_products_15 ?_
        refine lv_i2l hx hb dX3_products_16 rfl ?_
        refine lv_aload_n hx hb dX3_products_17 rfl (lv_at hl 1 rfl) ?_
        refine lv_iload hx hb dX3_products_18 (lv_at hl 4 rfl) ?_
        obtain ⟨hi_2, hf⟩ := g_in hf
        refine q_iald hx hb hK hW h_a1 hi_2 dX3_products_20 ?_
        refine lv_i2l hx hb dX3_products_21 rfl ?_
        refine lv_lmul hx hb dX3_products_22 ?_
        refine lv_ladd hx hb dX3_products_23 ?_
        refine lv_topl (fun x3_3 ex3_3 => ?_)
        have hf := g_lt ex3_3 hf
        refine lv_lstore_n (lv' := [(3, .long x3_3), (0, .ref (z + a0)), (1, .ref (z + a1)), (2, .int a2), (5, .int x5)]) hx hb dX3_products_24 rfl hl (by decide) rfl (fun ls hl => ?_)
        obtain ⟨x5_4, ex5_4⟩ : ∃ y : Int32, y = x5 + 1 := ⟨_, rfl⟩
        have hf := g_lt ex5_4 hf
        refine lv_iinc (v := x5_4) (lv' := [(5, .int x5_4), (3, .long x3_3), (0, .ref (z + a0)), (1, .ref (z + a1)), (2, .int a2)]) hx hb dX3_products_25 hl (k := 4) rfl (by rw [ex5_4]; rfl) (by decide) rfl (fun ls hl => ?_)
        refine lv_goto (tgt := 5) hx hb dX3_products_28 (by decide) ?_
        exact H5 x3_3 x5_4 σ hf _ _ _ hW hS (lv_sub hl [2, 3, 4, 1, 0] rfl)
  refine lv_lconst (v := 0) hx hb dX3_products_0 (by decide) ?_
  refine lv_lstore_n (lv' := [(3, .long 0), (0, .ref (z + a0)), (1, .ref (z + a1)), (2, .int a2)]) hx hb dX3_products_1 rfl hl (by decide) rfl (fun ls hl => ?_)
  refine lv_iconst (v := 0) hx hb dX3_products_2 (by decide) ?_
  refine lv_istore (lv' := [(5, .int 0), (3, .long 0), (0, .ref (z + a0)), (1, .ref (z + a1)), (2, .int a2)]) hx hb dX3_products_3 hl (by decide) rfl (fun ls hl => ?_)
  exact B5 fu 0 0 σ hf _ _ _ hW hS (lv_sub hl [2, 3, 4, 1, 0] rfl)
set_option maxRecDepth 100000 in
set_option maxHeartbeats 40000000 in
theorem kk_X3_asGreatFrom (l : Launch) (z n : Nat) (D : va_G) (cy : Nat → ClassId) (Y : Yt) {fu : Nat} : ∀ (dd : Nat) (a0 : Nat) (a1 : Nat) (a2 : Int32) (a3 : Int32) (a4 : Int32) (a5 : Int64) (σ : Mm) (r : Int32) (σ1 : Mm) (_ : okk Y n 10 a0) (_ : okk Y n 10 a1), f_X3_asGreatFrom Y fu dd a0 a1 a2 a3 a4 a5 σ = some (r, σ1) → Ki l yX3_asGreatFrom wsX3_asGreatFrom ({ frames := dd, cells := 0, slots := 0, locals := 60 * dd } : Room) z n D cy Y [.ref (z + a0), .ref (z + a1), .int a2, .int a3, .int a4, .long a5] σ r σ1 := by
  intro dd
  induction dd with
  | zero =>
    intro a0 a1 a2 a3 a4 a5 σ r σ1 h_a0 h_a1 hf
    have h9 : (none : Option (Int32 × Mm)) = some (r, σ1) := hf
    cases h9
  | succ dd ih =>
    intro a0 a1 a2 a3 a4 a5 σ r σ1 h_a0 h_a1 hf
    have hf : g_X3_asGreatFrom Y fu (f_X3_asGreatFrom Y fu dd) a0 a1 a2 a3 a4 a5 σ = some (r, σ1) := hf
    have selfroom : 8 + (9 + 11) + 60 * dd ≤ 60 * (dd + 1) := by omega
    have selfK : ∀ (a0 : Nat) (a1 : Nat) (a2 : Int32) (a3 : Int32) (a4 : Int32) (a5 : Int64) (σ : Mm) (r : Int32) (σ1 : Mm) (_ : okk Y n 10 a0) (_ : okk Y n 10 a1), f_X3_asGreatFrom Y fu dd a0 a1 a2 a3 a4 a5 σ = some (r, σ1) → Ki l yX3_asGreatFrom wsX3_asGreatFrom ({ frames := dd, cells := 0, slots := 0, locals := 60 * dd } : Room) z n D cy Y [.ref (z + a0), .ref (z + a1), .int a2, .int a3, .int a4, .long a5] σ r σ1 := ih
    refine Met.ofW (cc := cX3_asGreatFrom) (maxL := 9) (ret := (some .int)) (by decide +kernel) rfl ?_
    intro p e s m args below meth c s₁ B hml hv
    obtain ⟨rfl, hW, hK, hN⟩ := hv
    have hx := B.exec
    have hb := B.bytes
    have hr := B.returns
    have hts := atoms_spec (ws := wsX3_asGreatFrom) B.pre
    have hown : s.vm.findClass RX3 = some m.cls := findClass_of_methodNamed B.named
    have hlocks := B.notSynchronized
    have hS : va_S (Az z) s.heap s.heap [] := va_S.rf
    have hl := lv_entry ([.ref (z + a0), .ref (z + a1), .int a2, .int a3, .int a4, .long a5]) (n := 9) (Nat.le_of_ble_eq_true rfl)
    rw [lg_entry_eq]
    generalize (lg_sl ([.ref (z + a0), .ref (z + a1), .int a2, .int a3, .int a4, .long a5]) ++ List.replicate (9 - (lg_sl ([.ref (z + a0), .ref (z + a1), .int a2, .int a3, .int a4, .long a5])).length) Slot.unset).toArray = ls at hl ⊢
    have hl : lv_has ls 9 [(0, .ref (z + a0)), (1, .ref (z + a1)), (2, .int a2), (3, .int a3), (4, .int a4), (5, .long a5)] := hl
    have B11 : ∀ (σ : Mm), b_X3_asGreatFrom_11 Y fu (f_X3_asGreatFrom Y fu dd) a0 a1 a2 a3 a4 a5 σ = some (r, σ1) → ∀ (H : Heap) (locs : List Loc) (ls : Array Slot), WH z n D cy Y σ H → va_S (Az z) s.heap H locs → lv_has ls 9 [(0, .ref (z + a0)), (1, .ref (z + a1)), (2, .int a2), (3, .int a3), (4, .int a4), (5, .long a5)] → W p l e ({ frames := dd + 1, cells := 0, slots := 0, locals := 60 * (dd + 1) } : Room) s m ([.ref (z + a0), .ref (z + a1), .int a2, .int a3, .int a4, .long a5] : List Value).toArray below meth c H locs 0 0 (MQ below (va_Qi (fun (x : Int32) (_ : Unit) => x = r) (fun _ t => WH z n D cy Y σ1 t.heap) (Az z)) ([.ref (z + a0), .ref (z + a1), .int a2, .int a3, .int a4, .long a5] : List Value).toArray s 0 0 (Az z)) (F0 m 11 ls []) := by
      intro  σ  hf H locs ls hW hS hl
      refine lv_lload hx hb dX3_asGreatFrom_11 (lv_at hl 5 rfl) ?_
      refine lv_lconst (v := 0) hx hb dX3_asGreatFrom_13 (by decide) ?_
      refine W.lcmp hx hb dX3_asGreatFrom_14 ?_
      refine lv_if_gt (tgt := 22) hx hb dX3_asGreatFrom_15 (by decide) (fun c => ?_) (fun c => ?_)
      · have hf := g_pos ((lg_cmp_gt _ _).mp c) hf
        refine lv_iconst (v := 0) hx hb dX3_asGreatFrom_22 (by decide) ?_
        exact q_iret hx hb hr hlocks hW hS hf dX3_asGreatFrom_23
      · have hf := g_neg (fun h => c ((lg_cmp_gt _ _).mpr h)) hf
        refine lv_iconst (v := 1) hx hb dX3_asGreatFrom_18 (by decide) ?_
        refine lv_goto (tgt := 23) hx hb dX3_asGreatFrom_19 (by decide) ?_
        exact q_iret hx hb hr hlocks hW hS hf dX3_asGreatFrom_23
    have B80 : ∀ (k30 : Int32 → Int32 → Mm → Option (Int32 × Mm)) (H30 : ∀ (x7 : Int32) (x8 : Int32) (σ : Mm), k30 x7 x8 σ = some (r, σ1) → ∀ (H : Heap) (locs : List Loc) (ls : Array Slot), WH z n D cy Y σ H → va_S (Az z) s.heap H locs → lv_has ls 9 [(0, .ref (z + a0)), (1, .ref (z + a1)), (2, .int a2), (3, .int a3), (4, .int a4), (5, .long a5), (7, .int x7), (8, .int x8)] → W p l e ({ frames := dd + 1, cells := 0, slots := 0, locals := 60 * (dd + 1) } : Room) s m ([.ref (z + a0), .ref (z + a1), .int a2, .int a3, .int a4, .long a5] : List Value).toArray below meth c H locs 0 0 (MQ below (va_Qi (fun (x : Int32) (_ : Unit) => x = r) (fun _ t => WH z n D cy Y σ1 t.heap) (Az z)) ([.ref (z + a0), .ref (z + a1), .int a2, .int a3, .int a4, .long a5] : List Value).toArray s 0 0 (Az z)) (F0 m 30 ls [])) (x7 : Int32) (x8 : Int32) (σ : Mm), b_X3_asGreatFrom_80 Y fu (f_X3_asGreatFrom Y fu dd) a0 a1 a2 a3 a4 a5 k30 x7 x8 σ = some (r, σ1) → ∀ (H : Heap) (locs : List Loc) (ls : Array Slot), WH z n D cy Y σ H → va_S (Az z) s.heap H locs → lv_has ls 9 [(0, .ref (z + a0)), (1, .ref (z + a1)), (2, .int a2), (3, .int a3), (4, .int a4), (5, .long a5), (7, .int x7), (8, .int x8)] → W p l e ({ frames := dd + 1, cells := 0, slots := 0, locals := 60 * (dd + 1) } : Room) s m ([.ref (z + a0), .ref (z + a1), .int a2, .int a3, .int a4, .long a5] : List Value).toArray below meth c H locs 0 0 (MQ below (va_Qi (fun (x : Int32) (_ : Unit) => x = r) (fun _ t => WH z n D cy Y σ1 t.heap) (Az z)) ([.ref (z + a0), .ref (z + a1), .int a2, .int a3, .int a4, .long a5] : List Value).toArray s 0 0 (Az z)) (F0 m 80 ls []) := by
      intro k30 H30 x7 x8 σ  hf H locs ls hW hS hl
      obtain ⟨x8_1, ex8_1⟩ : ∃ y : Int32, y = x8 + 1 := ⟨_, rfl⟩
      have hf := g_lt ex8_1 hf
      refine lv_iinc (v := x8_1) (lv' := [(8, .int x8_1), (0, .ref (z + a0)), (1, .ref (z + a1)), (2, .int a2), (3, .int a3), (4, .int a4), (5, .long a5), (7, .int x7)]) hx hb dX3_asGreatFrom_80 hl (k := 7) rfl (by rw [ex8_1]; rfl) (by decide) rfl (fun ls hl => ?_)
      refine lv_goto (tgt := 30) hx hb dX3_asGreatFrom_83 (by decide) ?_
      exact H30 x7 x8_1 σ hf _ _ _ hW hS (lv_sub hl [1, 2, 3, 4, 5, 6, 7, 0] rfl)
    have B30 : ∀ (nn : Nat) (x7 : Int32) (x8 : Int32) (σ : Mm), b_X3_asGreatFrom_30 Y fu (f_X3_asGreatFrom Y fu dd) a0 a1 a2 a3 a4 a5 nn x7 x8 σ = some (r, σ1) → ∀ (H : Heap) (locs : List Loc) (ls : Array Slot), WH z n D cy Y σ H → va_S (Az z) s.heap H locs → lv_has ls 9 [(0, .ref (z + a0)), (1, .ref (z + a1)), (2, .int a2), (3, .int a3), (4, .int a4), (5, .long a5), (7, .int x7), (8, .int x8)] → W p l e ({ frames := dd + 1, cells := 0, slots := 0, locals := 60 * (dd + 1) } : Room) s m ([.ref (z + a0), .ref (z + a1), .int a2, .int a3, .int a4, .long a5] : List Value).toArray below meth c H locs 0 0 (MQ below (va_Qi (fun (x : Int32) (_ : Unit) => x = r) (fun _ t => WH z n D cy Y σ1 t.heap) (Az z)) ([.ref (z + a0), .ref (z + a1), .int a2, .int a3, .int a4, .long a5] : List Value).toArray s 0 0 (Az z)) (F0 m 30 ls []) := by
      intro nn
      induction nn with
      | zero =>
        intro x7 x8 σ  hf
        have h9 : (none : Option (Int32 × Mm)) = some (r, σ1) := hf
        cases h9
      | succ nn H30 =>
        intro x7 x8 σ  hf H locs ls hW hS hl
        have hf : s_X3_asGreatFrom_30 Y fu (f_X3_asGreatFrom Y fu dd) a0 a1 a2 a3 a4 a5 (b_X3_asGreatFrom_30 Y fu (f_X3_asGreatFrom Y fu dd) a0 a1 a2 a3 a4 a5 nn) x7 x8 σ = some (r, σ1) := hf
        generalize hkk : b_X3_asGreatFrom_30 Y fu (f_X3_asGreatFrom Y fu dd) a0 a1 a2 a3 a4 a5 nn = k30 at hf H30
        refine lv_iload hx hb dX3_asGreatFrom_30 (lv_at hl 7 rfl) ?_
        refine lv_iload_n hx hb dX3_asGreatFrom_32 rfl (lv_at hl 2 rfl) ?_
        refine lv_icmp_ge (tgt := 86) hx hb dX3_asGreatFrom_33 (by decide) (fun c => ?_) (fun c => ?_)
        · have hf := g_pos c hf
          refine lv_iload hx hb dX3_asGreatFrom_86 (lv_at hl 6 rfl) ?_
          exact q_iret hx hb hr hlocks hW hS hf dX3_asGreatFrom_88
        · have hf := g_neg c hf
          refine lv_iload hx hb dX3_asGreatFrom_36 (lv_at hl 4 rfl) ?_
          refine lv_iload hx hb dX3_asGreatFrom_38 (lv_at hl 7 rfl) ?_
          refine lv_ishr hx hb dX3_asGreatFrom_40 ?_
          refine lv_iconst (v := 1) hx hb dX3_asGreatFrom_41 (by decide) ?_
          refine lv_iand hx hb dX3_asGreatFrom_42 ?_
          refine lv_if_ne (tgt := 80) hx hb dX3_asGreatFrom_43 (by decide) (fun c => ?_) (fun c => ?_)
          · have hf := g_neg c hf
            exact B80 k30 H30 x7 x8 σ hf _ _ _ hW hS (lv_sub hl [0, 1, 2, 3, 4, 5, 6, 7] rfl)
          · have hf := g_pos c hf
            refine lv_iload hx hb dX3_asGreatFrom_46 (lv_at hl 6 rfl) ?_
            refine lv_aload_n hx hb dX3_asGreatFrom_48 rfl (lv_at hl 0 rfl) ?_
            refine lv_aload_n hx hb dX3_asGreatFrom_49 rfl (lv_at hl 1 rfl) ?_
            refine lv_iload_n hx hb dX3_asGreatFrom_50 rfl (lv_at hl 2 rfl) ?_
            refine lv_iload_n hx hb dX3_asGreatFrom_51 rfl (lv_at hl 3 rfl) ?_
            refine lv_iconst (v := 1) hx hb dX3_asGreatFrom_52 (by decide) ?_
            refine lv_iadd hx hb dX3_asGreatFrom_53 ?_
            refine lv_iload hx hb dX3_asGreatFrom_54 (lv_at hl 4 rfl) ?_
            refine lv_iconst (v := 1) hx hb dX3_asGreatFrom_56 (by decide) ?_
            refine lv_iload hx hb dX3_asGreatFrom_57 (lv_at hl 7 rfl) ?_
            refine lv_ishl hx hb dX3_asGreatFrom_59 ?_
            refine lv_ior hx hb dX3_asGreatFrom_60 ?_
            refine lv_lload hx hb dX3_asGreatFrom_61 (lv_at hl 5 rfl) ?_
            refine lv_aload_n hx hb dX3_asGreatFrom_63 rfl (lv_at hl 0 rfl) ?_
            refine lv_iload_n hx hb dX3_asGreatFrom_64 rfl (lv_at hl 3 rfl) ?_
            obtain ⟨hi_2, hf⟩ := g_in hf
            refine q_iald hx hb hK hW h_a0 hi_2 dX3_asGreatFrom_65 ?_
            refine lv_i2l hx hb dX3_asGreatFrom_66 rfl ?_
            refine lv_aload_n hx hb dX3_asGreatFrom_67 rfl (lv_at hl 1 rfl) ?_
            refine lv_iload hx hb dX3_asGreatFrom_68 (lv_at hl 7 rfl) ?_
            obtain ⟨hi_3, hf⟩ := g_in hf
            refine q_iald hx hb hK hW h_a1 hi_3 dX3_asGreatFrom_70 ?_
            refine lv_i2l hx hb dX3_asGreatFrom_71 rfl ?_
            refine lv_lmul hx hb dX3_asGreatFrom_72 ?_
            refine lv_lsub hx hb dX3_asGreatFrom_73 ?_
            obtain ⟨r_6, σ_5, hc_4, hf⟩ := g_bnd hf
            refine q_calli (va_runS (As := [.ref (z + a0), .ref (z + a1), .int a2, .int (a3 + 1), .int (a4 ||| (1 <<< (x8 &&& 31))), .long (a5 - ((Int32.toInt64 (Mm.gi σ a0 (ix a3))) * (Int32.toInt64 (Mm.gi σ a1 (ix x8)))))]) (rest := [.int x7]) ⟨hx, hb, hml, hown, hts⟩ (selfK a0 a1 a2 (a3 + 1) (a4 ||| (1 <<< (x8 &&& 31))) (a5 - ((Int32.toInt64 (Mm.gi σ a0 (ix a3))) * (Int32.toInt64 (Mm.gi σ a1 (ix x8))))) σ r_6 σ_5 h_a0 h_a1 hc_4) (va_cwS 6 hts gX3_asGreatFrom_X3_asGreatFrom rfl rfl rfl (by decide +kernel) ⟨Nat.le_refl _, selfroom⟩) (q_PS hK hN hW) rfl rfl hl.1 rfl (lv_room (Nat.le_of_ble_eq_true rfl)) dX3_asGreatFrom_74 ⟨Nat.le_refl _, Nat.le_refl _⟩) hS (fun H locs hW hS => ?_)
            refine lv_iadd hx hb dX3_asGreatFrom_77 ?_
            refine lv_topi (fun x7_7 ex7_7 => ?_)
            have hf := g_lt ex7_7 hf
            refine lv_istore (lv' := [(7, .int x7_7), (0, .ref (z + a0)), (1, .ref (z + a1)), (2, .int a2), (3, .int a3), (4, .int a4), (5, .long a5), (8, .int x8)]) hx hb dX3_asGreatFrom_78 hl (by decide) rfl (fun ls hl => ?_)
            exact B80 k30 H30 x7_7 x8 σ_5 hf _ _ _ hW hS (lv_sub hl [1, 2, 3, 4, 5, 6, 0, 7] rfl)
    refine lv_iload_n hx hb dX3_asGreatFrom_0 rfl (lv_at hl 3 rfl) ?_
    refine lv_iload_n hx hb dX3_asGreatFrom_1 rfl (lv_at hl 2 rfl) ?_
    refine lv_icmp_ge (tgt := 11) hx hb dX3_asGreatFrom_2 (by decide) (fun c => ?_) (fun c => ?_)
    · have hf := g_pos c hf
      exact B11 σ hf _ _ _ hW hS (lv_sub hl [0, 1, 2, 3, 4, 5] rfl)
    · have hf := g_neg c hf
      refine lv_iload_n hx hb dX3_asGreatFrom_5 rfl (lv_at hl 3 rfl) ?_
      refine lv_bipush (v := 7) hx hb dX3_asGreatFrom_6 (by decide) ?_
      refine lv_icmp_lt (tgt := 24) hx hb dX3_asGreatFrom_8 (by decide) (fun c => ?_) (fun c => ?_)
      · have hf := g_pos c hf
        refine lv_iconst (v := 0) hx hb dX3_asGreatFrom_24 (by decide) ?_
        refine lv_istore (lv' := [(7, .int 0), (0, .ref (z + a0)), (1, .ref (z + a1)), (2, .int a2), (3, .int a3), (4, .int a4), (5, .long a5)]) hx hb dX3_asGreatFrom_25 hl (by decide) rfl (fun ls hl => ?_)
        refine lv_iconst (v := 0) hx hb dX3_asGreatFrom_27 (by decide) ?_
        refine lv_istore (lv' := [(8, .int 0), (7, .int 0), (0, .ref (z + a0)), (1, .ref (z + a1)), (2, .int a2), (3, .int a3), (4, .int a4), (5, .long a5)]) hx hb dX3_asGreatFrom_28 hl (by decide) rfl (fun ls hl => ?_)
        exact B30 fu 0 0 σ hf _ _ _ hW hS (lv_sub hl [2, 3, 4, 5, 6, 7, 1, 0] rfl)
      · have hf := g_neg c hf
        exact B11 σ hf _ _ _ hW hS (lv_sub hl [0, 1, 2, 3, 4, 5] rfl)
theorem k_X3_asGreatFrom (l : Launch) (z n : Nat) (D : va_G) (cy : Nat → ClassId) (Y : Yt) {fu : Nat} {a0 : Nat} {a1 : Nat} {a2 : Int32} {a3 : Int32} {a4 : Int32} {a5 : Int64} {σ : Mm} {r : Int32} {σ1 : Mm} (h_a0 : okk Y n 10 a0) (h_a1 : okk Y n 10 a1) (hf : f_X3_asGreatFrom Y fu 9 a0 a1 a2 a3 a4 a5 σ = some (r, σ1)) : Ki l yX3_asGreatFrom wsX3_asGreatFrom ({ frames := 9, cells := 0, slots := 0, locals := 540 } : Room) z n D cy Y [.ref (z + a0), .ref (z + a1), .int a2, .int a3, .int a4, .long a5] σ r σ1 := kk_X3_asGreatFrom l z n D cy Y 9 _ _ _ _ _ _ _ _ _ h_a0 h_a1 hf
set_option maxRecDepth 100000 in
set_option maxHeartbeats 40000000 in
theorem k_X3_asGreatOrders (l : Launch) (z n : Nat) (D : va_G) (cy : Nat → ClassId) (Y : Yt) {fu : Nat} {a0 : Nat} {a1 : Nat} {a2 : Int32} {σ : Mm} {r : Int32} {σ1 : Mm} (h_a0 : okk Y n 10 a0) (h_a1 : okk Y n 10 a1) (hf : f_X3_asGreatOrders Y fu a0 a1 a2 σ = some (r, σ1)) : Ki l yX3_asGreatOrders wsX3_asGreatOrders ({ frames := 10, cells := 0, slots := 0, locals := 568 } : Room) z n D cy Y [.ref (z + a0), .ref (z + a1), .int a2] σ r σ1 := by
  refine Met.ofW (cc := cX3_asGreatOrders) (maxL := 3) (ret := (some .int)) (by decide +kernel) rfl ?_
  intro p e s m args below meth c s₁ B hml hv
  obtain ⟨rfl, hW, hK, hN⟩ := hv
  have hx := B.exec
  have hb := B.bytes
  have hr := B.returns
  have hts := atoms_spec (ws := wsX3_asGreatOrders) B.pre
  have hown : s.vm.findClass RX3 = some m.cls := findClass_of_methodNamed B.named
  have hlocks := B.notSynchronized
  have hS : va_S (Az z) s.heap s.heap [] := va_S.rf
  have hl := lv_entry ([.ref (z + a0), .ref (z + a1), .int a2]) (n := 3) (Nat.le_of_ble_eq_true rfl)
  rw [lg_entry_eq]
  generalize (lg_sl ([.ref (z + a0), .ref (z + a1), .int a2]) ++ List.replicate (3 - (lg_sl ([.ref (z + a0), .ref (z + a1), .int a2])).length) Slot.unset).toArray = ls at hl ⊢
  have hl : lv_has ls 3 [(0, .ref (z + a0)), (1, .ref (z + a1)), (2, .int a2)] := hl
  refine lv_aload_n hx hb dX3_asGreatOrders_0 rfl (lv_at hl 0 rfl) ?_
  refine lv_aload_n hx hb dX3_asGreatOrders_1 rfl (lv_at hl 1 rfl) ?_
  refine lv_iload_n hx hb dX3_asGreatOrders_2 rfl (lv_at hl 2 rfl) ?_
  refine lv_iconst (v := 0) hx hb dX3_asGreatOrders_3 (by decide) ?_
  refine lv_iconst (v := 0) hx hb dX3_asGreatOrders_4 (by decide) ?_
  refine lv_aload_n hx hb dX3_asGreatOrders_5 rfl (lv_at hl 0 rfl) ?_
  refine lv_aload_n hx hb dX3_asGreatOrders_6 rfl (lv_at hl 1 rfl) ?_
  refine lv_iload_n hx hb dX3_asGreatOrders_7 rfl (lv_at hl 2 rfl) ?_
  obtain ⟨r_3, σ_2, hc_1, hf⟩ := g_bnd hf
  refine q_calll (va_runS (As := [.ref (z + a0), .ref (z + a1), .int a2]) (rest := [.int 0, .int 0, .int a2, .ref (z + a1), .ref (z + a0)]) ⟨hx, hb, hml, hown, hts⟩ (k_X3_products l z n D cy Y h_a0 h_a1 hc_1) (va_cwS 3 hts gX3_asGreatOrders_X3_products rfl rfl rfl (by decide +kernel) ⟨Nat.le_of_ble_eq_true rfl, Nat.le_of_ble_eq_true rfl⟩) (q_PS hK hN hW) rfl rfl hl.1 rfl (lv_room (Nat.le_of_ble_eq_true rfl)) dX3_asGreatOrders_8 ⟨Nat.le_refl _, Nat.le_refl _⟩) hS (fun H locs hW hS => ?_)
  obtain ⟨r_6, σ_5, hc_4, hf⟩ := g_bnd hf
  refine q_calli (va_runS (As := [.ref (z + a0), .ref (z + a1), .int a2, .int 0, .int 0, .long r_3]) (rest := []) ⟨hx, hb, hml, hown, hts⟩ (k_X3_asGreatFrom l z n D cy Y h_a0 h_a1 hc_4) (va_cwS 6 hts gX3_asGreatOrders_X3_asGreatFrom rfl rfl rfl (by decide +kernel) ⟨Nat.le_of_ble_eq_true rfl, Nat.le_of_ble_eq_true rfl⟩) (q_PS hK hN hW) rfl rfl hl.1 rfl (lv_room (Nat.le_of_ble_eq_true rfl)) dX3_asGreatOrders_11 ⟨Nat.le_refl _, Nat.le_refl _⟩) hS (fun H locs hW hS => ?_)
  exact q_iret hx hb hr hlocks hW hS hf dX3_asGreatOrders_14
set_option maxRecDepth 100000 in
set_option maxHeartbeats 40000000 in
theorem k_X4_empty (l : Launch) (z n : Nat) (D : va_G) (cy : Nat → ClassId) (Y : Yt) {this : Nat} {σ : Mm} {σ1 : Mm} (h_this : okk Y n 2 this) (hf : f_X4_empty Y this σ = some σ1) : Kv l yX4_empty wsX4_empty ({ frames := 0, cells := 0, slots := 0, locals := 0 } : Room) z n D cy Y [.ref (z + this)] σ σ1 := by
  refine Met.ofW (cc := cX4_empty) (maxL := 1) (ret := none) (by decide +kernel) rfl ?_
  intro p e s m args below meth c s₁ B hml hv
  obtain ⟨rfl, hW, hK, hN⟩ := hv
  have hx := B.exec
  have hb := B.bytes
  have hr := B.returns
  have hts := atoms_spec (ws := wsX4_empty) B.pre
  have hown : s.vm.findClass RX4 = some m.cls := findClass_of_methodNamed B.named
  have hlocks := B.notSynchronized
  have hS : va_S (Az z) s.heap s.heap [] := va_S.rf
  have hin4 : ∀ w ∈ wsX40, w ∈ wsX4_empty := fun w h => List.mem_cons_of_mem _ (List.mem_append_right _ h)
  have hw0 := hts (.fieldLink RX4 24 "SkyClocks$Model" "items" "I") (List.mem_of_getElem? (i := 1) rfl)
  have hw1 := hts (.fieldLink RX4 28 "SkyClocks$Model" "period" "I") (List.mem_of_getElem? (i := 2) rfl)
  have hw2 := hts (.fieldLink RX4 31 "SkyClocks$Model" "zero" "I") (List.mem_of_getElem? (i := 3) rfl)
  have hw3 := hts (.fieldLink RX4 34 "SkyClocks$Model" "hasZero" "Z") (List.mem_of_getElem? (i := 4) rfl)
  have hw4 := hts (.fieldLink RX4 38 "SkyClocks$Model" "drift" "I") (List.mem_of_getElem? (i := 5) rfl)
  have hw5 := hts (.fieldLink RX4 41 "SkyClocks$Model" "hasDrift" "Z") (List.mem_of_getElem? (i := 6) rfl)
  have hw6 := hts (.fieldLink RX4 44 "SkyClocks$Model" "slips" "I") (List.mem_of_getElem? (i := 7) rfl)
  have hw7 := hts (.fieldLink RX4 47 "SkyClocks$Model" "companions" "I") (List.mem_of_getElem? (i := 8) rfl)
  have hl := lv_entry ([.ref (z + this)]) (n := 1) (Nat.le_of_ble_eq_true rfl)
  rw [lg_entry_eq]
  generalize (lg_sl ([.ref (z + this)]) ++ List.replicate (1 - (lg_sl ([.ref (z + this)])).length) Slot.unset).toArray = ls at hl ⊢
  have hl : lv_has ls 1 [(0, .ref (z + this))] := hl
  refine lv_aload_n hx hb dX4_empty_0 rfl (lv_at hl 0 rfl) ?_
  refine lv_iconst (v := 0) hx hb dX4_empty_1 (by decide) ?_
  refine q_puti (own := RX4) (ref := RX4) (C := RX4) (T := TX4) (N := 12) (kc := 2) (ci := 0) hx hb hts hin4 tyX4_ok nmX4 hown hK hW hS h_this (by decide) rfl 0 (by decide) hw0 rfl rfl (ty := .int) (tyX4_ok 0 (by decide)) rfl rfl rfl dX4_empty_2 (fun H locs hW hS => ?_)
  obtain ⟨σ_1, eσ_1⟩ : ∃ y : Mm, y = (Mm.si σ this 0 0) := ⟨_, rfl⟩
  rw [← eσ_1] at hW
  have hf := g_lt eσ_1 hf
  refine lv_aload_n hx hb dX4_empty_5 rfl (lv_at hl 0 rfl) ?_
  refine lv_iconst (v := 0) hx hb dX4_empty_6 (by decide) ?_
  refine q_puti (own := RX4) (ref := RX4) (C := RX4) (T := TX4) (N := 12) (kc := 2) (ci := 0) hx hb hts hin4 tyX4_ok nmX4 hown hK hW hS h_this (by decide) rfl 1 (by decide) hw1 rfl rfl (ty := .int) (tyX4_ok 1 (by decide)) rfl rfl rfl dX4_empty_7 (fun H locs hW hS => ?_)
  obtain ⟨σ_2, eσ_2⟩ : ∃ y : Mm, y = (Mm.si σ_1 this 1 0) := ⟨_, rfl⟩
  rw [← eσ_2] at hW
  have hf := g_lt eσ_2 hf
  refine lv_aload_n hx hb dX4_empty_10 rfl (lv_at hl 0 rfl) ?_
  refine lv_iconst (v := 0) hx hb dX4_empty_11 (by decide) ?_
  refine q_puti (own := RX4) (ref := RX4) (C := RX4) (T := TX4) (N := 12) (kc := 2) (ci := 0) hx hb hts hin4 tyX4_ok nmX4 hown hK hW hS h_this (by decide) rfl 2 (by decide) hw2 rfl rfl (ty := .int) (tyX4_ok 2 (by decide)) rfl rfl rfl dX4_empty_12 (fun H locs hW hS => ?_)
  obtain ⟨σ_3, eσ_3⟩ : ∃ y : Mm, y = (Mm.si σ_2 this 2 0) := ⟨_, rfl⟩
  rw [← eσ_3] at hW
  have hf := g_lt eσ_3 hf
  refine lv_aload_n hx hb dX4_empty_15 rfl (lv_at hl 0 rfl) ?_
  refine lv_iconst (v := 0) hx hb dX4_empty_16 (by decide) ?_
  refine q_puti (own := RX4) (ref := RX4) (C := RX4) (T := TX4) (N := 12) (kc := 2) (ci := 0) hx hb hts hin4 tyX4_ok nmX4 hown hK hW hS h_this (by decide) rfl 3 (by decide) hw3 rfl rfl (ty := .boolean) (tyX4_ok 3 (by decide)) rfl rfl rfl dX4_empty_17 (fun H locs hW hS => ?_)
  obtain ⟨σ_4, eσ_4⟩ : ∃ y : Mm, y = (Mm.si σ_3 this 3 0) := ⟨_, rfl⟩
  rw [← eσ_4] at hW
  have hf := g_lt eσ_4 hf
  refine lv_aload_n hx hb dX4_empty_20 rfl (lv_at hl 0 rfl) ?_
  refine lv_iconst (v := 0) hx hb dX4_empty_21 (by decide) ?_
  refine q_puti (own := RX4) (ref := RX4) (C := RX4) (T := TX4) (N := 12) (kc := 2) (ci := 0) hx hb hts hin4 tyX4_ok nmX4 hown hK hW hS h_this (by decide) rfl 4 (by decide) hw4 rfl rfl (ty := .int) (tyX4_ok 4 (by decide)) rfl rfl rfl dX4_empty_22 (fun H locs hW hS => ?_)
  obtain ⟨σ_5, eσ_5⟩ : ∃ y : Mm, y = (Mm.si σ_4 this 4 0) := ⟨_, rfl⟩
  rw [← eσ_5] at hW
  have hf := g_lt eσ_5 hf
  refine lv_aload_n hx hb dX4_empty_25 rfl (lv_at hl 0 rfl) ?_
  refine lv_iconst (v := 0) hx hb dX4_empty_26 (by decide) ?_
  refine q_puti (own := RX4) (ref := RX4) (C := RX4) (T := TX4) (N := 12) (kc := 2) (ci := 0) hx hb hts hin4 tyX4_ok nmX4 hown hK hW hS h_this (by decide) rfl 5 (by decide) hw5 rfl rfl (ty := .boolean) (tyX4_ok 5 (by decide)) rfl rfl rfl dX4_empty_27 (fun H locs hW hS => ?_)
  obtain ⟨σ_6, eσ_6⟩ : ∃ y : Mm, y = (Mm.si σ_5 this 5 0) := ⟨_, rfl⟩
  rw [← eσ_6] at hW
  have hf := g_lt eσ_6 hf
  refine lv_aload_n hx hb dX4_empty_30 rfl (lv_at hl 0 rfl) ?_
  refine lv_iconst (v := 0) hx hb dX4_empty_31 (by decide) ?_
  refine q_puti (own := RX4) (ref := RX4) (C := RX4) (T := TX4) (N := 12) (kc := 2) (ci := 0) hx hb hts hin4 tyX4_ok nmX4 hown hK hW hS h_this (by decide) rfl 6 (by decide) hw6 rfl rfl (ty := .int) (tyX4_ok 6 (by decide)) rfl rfl rfl dX4_empty_32 (fun H locs hW hS => ?_)
  obtain ⟨σ_7, eσ_7⟩ : ∃ y : Mm, y = (Mm.si σ_6 this 6 0) := ⟨_, rfl⟩
  rw [← eσ_7] at hW
  have hf := g_lt eσ_7 hf
  refine lv_aload_n hx hb dX4_empty_35 rfl (lv_at hl 0 rfl) ?_
  refine lv_iconst (v := 0) hx hb dX4_empty_36 (by decide) ?_
  refine q_puti (own := RX4) (ref := RX4) (C := RX4) (T := TX4) (N := 12) (kc := 2) (ci := 0) hx hb hts hin4 tyX4_ok nmX4 hown hK hW hS h_this (by decide) rfl 9 (by decide) hw7 rfl rfl (ty := .int) (tyX4_ok 9 (by decide)) rfl rfl rfl dX4_empty_37 (fun H locs hW hS => ?_)
  obtain ⟨σ_8, eσ_8⟩ : ∃ y : Mm, y = (Mm.si σ_7 this 9 0) := ⟨_, rfl⟩
  rw [← eσ_8] at hW
  have hf := g_lt eσ_8 hf
  exact q_vret hx hb hr hlocks hW hS hf dX4_empty_40
set_option maxRecDepth 100000 in
set_option maxHeartbeats 40000000 in
theorem k_X11_within (l : Launch) (z n : Nat) (D : va_G) (cy : Nat → ClassId) (Y : Yt) {a0 : Int32} {a1 : Int32} {a2 : Int32} {σ : Mm} {r : Int32} {σ1 : Mm} (hf : f_X11_within Y a0 a1 a2 σ = some (r, σ1)) : Ki l yX11_within wsX11_within ({ frames := 0, cells := 0, slots := 0, locals := 0 } : Room) z n D cy Y [.int a0, .int a1, .int a2] σ r σ1 := by
  refine Met.ofW (cc := cX11_within) (maxL := 3) (ret := (some .boolean)) (by decide +kernel) rfl ?_
  intro p e s m args below meth c s₁ B hml hv
  obtain ⟨rfl, hW, hK, hN⟩ := hv
  have hx := B.exec
  have hb := B.bytes
  have hr := B.returns
  have hts := atoms_spec (ws := wsX11_within) B.pre
  have hown : s.vm.findClass RX11 = some m.cls := findClass_of_methodNamed B.named
  have hlocks := B.notSynchronized
  have hS : va_S (Az z) s.heap s.heap [] := va_S.rf
  have hl := lv_entry ([.int a0, .int a1, .int a2]) (n := 3) (Nat.le_of_ble_eq_true rfl)
  rw [lg_entry_eq]
  generalize (lg_sl ([.int a0, .int a1, .int a2]) ++ List.replicate (3 - (lg_sl ([.int a0, .int a1, .int a2])).length) Slot.unset).toArray = ls at hl ⊢
  have hl : lv_has ls 3 [(0, .int a0), (1, .int a1), (2, .int a2)] := hl
  refine lv_iload_n hx hb dX11_within_0 rfl (lv_at hl 0 rfl) ?_
  refine lv_iload_n hx hb dX11_within_1 rfl (lv_at hl 1 rfl) ?_
  refine lv_icmp_lt (tgt := 14) hx hb dX11_within_2 (by decide) (fun c => ?_) (fun c => ?_)
  · have hf := g_pos c hf
    refine lv_iconst (v := 0) hx hb dX11_within_14 (by decide) ?_
    exact q_zret hx hb hr hlocks hW hS hf dX11_within_15
  · have hf := g_neg c hf
    refine lv_iload_n hx hb dX11_within_5 rfl (lv_at hl 0 rfl) ?_
    refine lv_iload_n hx hb dX11_within_6 rfl (lv_at hl 2 rfl) ?_
    refine lv_icmp_gt (tgt := 14) hx hb dX11_within_7 (by decide) (fun c => ?_) (fun c => ?_)
    · have hf := g_pos c hf
      refine lv_iconst (v := 0) hx hb dX11_within_14 (by decide) ?_
      exact q_zret hx hb hr hlocks hW hS hf dX11_within_15
    · have hf := g_neg c hf
      refine lv_iconst (v := 1) hx hb dX11_within_10 (by decide) ?_
      refine lv_goto (tgt := 15) hx hb dX11_within_11 (by decide) ?_
      exact q_zret hx hb hr hlocks hW hS hf dX11_within_15
set_option maxRecDepth 100000 in
set_option maxHeartbeats 40000000 in
theorem k_X4_isLate (l : Launch) (z n : Nat) (D : va_G) (cy : Nat → ClassId) (Y : Yt) {a0 : Int32} {σ : Mm} {r : Int32} {σ1 : Mm} (hf : f_X4_isLate Y a0 σ = some (r, σ1)) : Ki l yX4_isLate wsX4_isLate ({ frames := 1, cells := 0, slots := 0, locals := 22 } : Room) z n D cy Y [.int a0] σ r σ1 := by
  refine Met.ofW (cc := cX4_isLate) (maxL := 1) (ret := (some .boolean)) (by decide +kernel) rfl ?_
  intro p e s m args below meth c s₁ B hml hv
  obtain ⟨rfl, hW, hK, hN⟩ := hv
  have hx := B.exec
  have hb := B.bytes
  have hr := B.returns
  have hts := atoms_spec (ws := wsX4_isLate) B.pre
  have hown : s.vm.findClass RX4 = some m.cls := findClass_of_methodNamed B.named
  have hlocks := B.notSynchronized
  have hS : va_S (Az z) s.heap s.heap [] := va_S.rf
  have hw0 := hts (.constant RX4 83 (-50000)) (List.mem_of_getElem? (i := 1) rfl)
  have hw1 := hts (.constant RX4 84 (50000)) (List.mem_of_getElem? (i := 2) rfl)
  have hw2 : va_Nw (.methodLinkNest RX4 74 yX11_within "SkyClocks") s := hN _ (List.mem_of_getElem? (i := 21) rfl)
  have hw3 := hts (.initialized RX11) (List.mem_of_getElem? (i := 4) rfl)
  have hw4 := hts (.static yX11_within) (List.mem_of_getElem? (i := 3) rfl)
  have hl := lv_entry ([.int a0]) (n := 1) (Nat.le_of_ble_eq_true rfl)
  rw [lg_entry_eq]
  generalize (lg_sl ([.int a0]) ++ List.replicate (1 - (lg_sl ([.int a0])).length) Slot.unset).toArray = ls at hl ⊢
  have hl : lv_has ls 1 [(0, .int a0)] := hl
  refine lv_iload_n hx hb dX4_isLate_0 rfl (lv_at hl 0 rfl) ?_
  refine lv_ldc hx hb hown hw0 dX4_isLate_1 ?_
  refine lv_ldc hx hb hown hw1 dX4_isLate_3 ?_
  obtain ⟨r_3, σ_2, hc_1, hf⟩ := g_bnd hf
  refine q_calli (va_runSN (As := [.int a0, .int (-50000), .int 50000]) (rest := []) ⟨hx, hb, hml, hown, hts⟩ (k_X11_within l z n D cy Y hc_1) ⟨va_cnB (host := "SkyClocks") 3 hts gX4_isLate_X11_within_n74 rfl rfl rfl hw2 hw3 (by decide +kernel) ⟨Nat.le_of_ble_eq_true rfl, Nat.le_of_ble_eq_true rfl⟩, hw4, trivial⟩ (q_PS hK hN hW) rfl rfl hl.1 rfl (lv_room (Nat.le_of_ble_eq_true rfl)) dX4_isLate_5 ⟨Nat.le_refl _, Nat.le_refl _⟩) hS (fun H locs hW hS => ?_)
  exact q_zret hx hb hr hlocks hW hS hf dX4_isLate_8
set_option maxRecDepth 100000 in
set_option maxHeartbeats 40000000 in
theorem k_X4_putCompanion (l : Launch) (z n : Nat) (D : va_G) (cy : Nat → ClassId) (Y : Yt) {fu : Nat} {this : Nat} {a1 : Nat} {σ : Mm} {r : Int32} {σ1 : Mm} (h_this : okk Y n 2 this) (h_a1 : okk Y n 10 a1) (hf : f_X4_putCompanion Y fu this a1 σ = some (r, σ1)) : Ki l yX4_putCompanion wsX4_putCompanion ({ frames := 2, cells := 0, slots := 0, locals := 42 } : Room) z n D cy Y [.ref (z + this), .ref (z + a1)] σ r σ1 := by
  refine Met.ofW (cc := cX4_putCompanion) (maxL := 3) (ret := (some .boolean)) (by decide +kernel) rfl ?_
  intro p e s m args below meth c s₁ B hml hv
  obtain ⟨rfl, hW, hK, hN⟩ := hv
  have hx := B.exec
  have hb := B.bytes
  have hr := B.returns
  have hts := atoms_spec (ws := wsX4_putCompanion) B.pre
  have hown : s.vm.findClass RX4 = some m.cls := findClass_of_methodNamed B.named
  have hlocks := B.notSynchronized
  have hS : va_S (Az z) s.heap s.heap [] := va_S.rf
  have hin4 : ∀ w ∈ wsX40, w ∈ wsX4_putCompanion := fun w h => List.mem_cons_of_mem _ (List.mem_append_right _ h)
  have hw0 := hts (.fieldLink RX4 47 "SkyClocks$Model" "companions" "I") (List.mem_of_getElem? (i := 1) rfl)
  have hw1 : va_Nw (.methodLinkNest RX4 74 yX11_within "SkyClocks") s := hN _ (List.mem_of_getElem? (i := 21) rfl)
  have hw2 := hts (.initialized RX11) (List.mem_of_getElem? (i := 5) rfl)
  have hw3 := hts (.static yX11_within) (List.mem_of_getElem? (i := 4) rfl)
  have hw4 := hts (.fieldLink RX4 18 "SkyClocks$Model" "cycles" "[I") (List.mem_of_getElem? (i := 3) rfl)
  have hw5 := hts (.fieldLink RX4 21 "SkyClocks$Model" "lates" "[I") (List.mem_of_getElem? (i := 2) rfl)
  have hl := lv_entry ([.ref (z + this), .ref (z + a1)]) (n := 3) (Nat.le_of_ble_eq_true rfl)
  rw [lg_entry_eq]
  generalize (lg_sl ([.ref (z + this), .ref (z + a1)]) ++ List.replicate (3 - (lg_sl ([.ref (z + this), .ref (z + a1)])).length) Slot.unset).toArray = ls at hl ⊢
  have hl : lv_has ls 3 [(0, .ref (z + this)), (1, .ref (z + a1))] := hl
  have B25 : ∀ (nn : Nat) (x2 : Int32) (σ : Mm), b_X4_putCompanion_25 Y fu this a1 nn x2 σ = some (r, σ1) → ∀ (H : Heap) (locs : List Loc) (ls : Array Slot), WH z n D cy Y σ H → va_S (Az z) s.heap H locs → lv_has ls 3 [(0, .ref (z + this)), (1, .ref (z + a1)), (2, .int x2)] → W p l e ({ frames := 2, cells := 0, slots := 0, locals := 42 } : Room) s m ([.ref (z + this), .ref (z + a1)] : List Value).toArray below meth c H locs 0 0 (MQ below (va_Qi (fun (x : Int32) (_ : Unit) => x = r) (fun _ t => WH z n D cy Y σ1 t.heap) (Az z)) ([.ref (z + this), .ref (z + a1)] : List Value).toArray s 0 0 (Az z)) (F0 m 25 ls []) := by
    intro nn
    induction nn with
    | zero =>
      intro x2 σ  hf
      have h9 : (none : Option (Int32 × Mm)) = some (r, σ1) := hf
      cases h9
    | succ nn H25 =>
      intro x2 σ  hf H locs ls hW hS hl
      have hf : s_X4_putCompanion_25 Y fu this a1 (b_X4_putCompanion_25 Y fu this a1 nn) x2 σ = some (r, σ1) := hf
      generalize hkk : b_X4_putCompanion_25 Y fu this a1 nn = k25 at hf H25
      refine lv_iload_n hx hb dX4_putCompanion_25 rfl (lv_at hl 2 rfl) ?_
      refine lv_iconst (v := 4) hx hb dX4_putCompanion_26 (by decide) ?_
      refine lv_icmp_ge (tgt := 67) hx hb dX4_putCompanion_27 (by decide) (fun c => ?_) (fun c => ?_)
      · have hf := g_pos c hf
        refine lv_aload_n hx hb dX4_putCompanion_67 rfl (lv_at hl 0 rfl) ?_
        refine q_getp (own := RX4) (ref := RX4) (C := RX4) (T := TX4) (N := 12) (kc := 2) (ci := 0) hx hb hts hin4 hown hK hW h_this (by decide) rfl 10 (by decide) hw4 rfl rfl rfl (v := (this + 3)) rfl dX4_putCompanion_68 (fun hk_5 hq_6 => ?_)
        refine lv_aload_n hx hb dX4_putCompanion_71 rfl (lv_at hl 0 rfl) ?_
        refine q_geti (own := RX4) (ref := RX4) (C := RX4) (T := TX4) (N := 12) (kc := 2) (ci := 0) hx hb hts hin4 hown hK hW h_this (by decide) rfl 9 (by decide) hw0 rfl rfl dX4_putCompanion_72 ?_
        refine lv_aload_n hx hb dX4_putCompanion_75 rfl (lv_at hl 1 rfl) ?_
        refine lv_iconst (v := 0) hx hb dX4_putCompanion_76 (by decide) ?_
        obtain ⟨hi_7, hf⟩ := g_in hf
        refine q_iald hx hb hK hW h_a1 hi_7 dX4_putCompanion_77 ?_
        obtain ⟨hi_8, hf⟩ := g_in hf
        refine q_iast hx hb hK hW hS hk_5 (inb_of hq_6 hi_8) dX4_putCompanion_78 (fun H locs hW hS => ?_)
        obtain ⟨σ_9, eσ_9⟩ : ∃ y : Mm, y = (Mm.si σ (this + 3) (ix (Mm.gi σ this 9)) (Mm.gi σ a1 (ix 0))) := ⟨_, rfl⟩
        rw [← eσ_9] at hW
        have hf := g_lt eσ_9 hf
        refine lv_aload_n hx hb dX4_putCompanion_79 rfl (lv_at hl 0 rfl) ?_
        refine lv_dup hx hb dX4_putCompanion_80 rfl ?_
        refine q_geti (own := RX4) (ref := RX4) (C := RX4) (T := TX4) (N := 12) (kc := 2) (ci := 0) hx hb hts hin4 hown hK hW h_this (by decide) rfl 9 (by decide) hw0 rfl rfl dX4_putCompanion_81 ?_
        refine lv_iconst (v := 1) hx hb dX4_putCompanion_84 (by decide) ?_
        refine lv_iadd hx hb dX4_putCompanion_85 ?_
        refine q_puti (own := RX4) (ref := RX4) (C := RX4) (T := TX4) (N := 12) (kc := 2) (ci := 0) hx hb hts hin4 tyX4_ok nmX4 hown hK hW hS h_this (by decide) rfl 9 (by decide) hw0 rfl rfl (ty := .int) (tyX4_ok 9 (by decide)) rfl rfl rfl dX4_putCompanion_86 (fun H locs hW hS => ?_)
        obtain ⟨σ_10, eσ_10⟩ : ∃ y : Mm, y = (Mm.si σ_9 this 9 ((Mm.gi σ_9 this 9) + 1)) := ⟨_, rfl⟩
        rw [← eσ_10] at hW
        have hf := g_lt eσ_10 hf
        refine lv_iconst (v := 1) hx hb dX4_putCompanion_89 (by decide) ?_
        exact q_zret hx hb hr hlocks hW hS hf dX4_putCompanion_90
      · have hf := g_neg c hf
        refine lv_aload_n hx hb dX4_putCompanion_30 rfl (lv_at hl 1 rfl) ?_
        refine lv_iload_n hx hb dX4_putCompanion_31 rfl (lv_at hl 2 rfl) ?_
        refine lv_iconst (v := 1) hx hb dX4_putCompanion_32 (by decide) ?_
        refine lv_iadd hx hb dX4_putCompanion_33 ?_
        obtain ⟨hi_11, hf⟩ := g_in hf
        refine q_iald hx hb hK hW h_a1 hi_11 dX4_putCompanion_34 ?_
        obtain ⟨r_14, σ_13, hc_12, hf⟩ := g_bnd hf
        refine q_calli (va_runS (As := [.int (Mm.gi σ a1 (ix (x2 + 1)))]) (rest := []) ⟨hx, hb, hml, hown, hts⟩ (k_X4_isLate l z n D cy Y hc_12) (va_cwS 1 hts gX4_putCompanion_X4_isLate rfl rfl rfl (by decide +kernel) ⟨Nat.le_of_ble_eq_true rfl, Nat.le_of_ble_eq_true rfl⟩) (q_PS hK hN hW) rfl rfl hl.1 rfl (lv_room (Nat.le_of_ble_eq_true rfl)) dX4_putCompanion_35 ⟨Nat.le_refl _, Nat.le_refl _⟩) hS (fun H locs hW hS => ?_)
        refine lv_if_ne (tgt := 43) hx hb dX4_putCompanion_38 (by decide) (fun c => ?_) (fun c => ?_)
        · have hf := g_neg c hf
          refine lv_aload_n hx hb dX4_putCompanion_43 rfl (lv_at hl 0 rfl) ?_
          refine q_getp (own := RX4) (ref := RX4) (C := RX4) (T := TX4) (N := 12) (kc := 2) (ci := 0) hx hb hts hin4 hown hK hW h_this (by decide) rfl 11 (by decide) hw5 rfl rfl rfl (v := (this + 4)) rfl dX4_putCompanion_44 (fun hk_15 hq_16 => ?_)
          refine lv_aload_n hx hb dX4_putCompanion_47 rfl (lv_at hl 0 rfl) ?_
          refine q_geti (own := RX4) (ref := RX4) (C := RX4) (T := TX4) (N := 12) (kc := 2) (ci := 0) hx hb hts hin4 hown hK hW h_this (by decide) rfl 9 (by decide) hw0 rfl rfl dX4_putCompanion_48 ?_
          refine lv_iconst (v := 4) hx hb dX4_putCompanion_51 (by decide) ?_
          refine lv_imul hx hb dX4_putCompanion_52 ?_
          refine lv_iload_n hx hb dX4_putCompanion_53 rfl (lv_at hl 2 rfl) ?_
          refine lv_iadd hx hb dX4_putCompanion_54 ?_
          refine lv_aload_n hx hb dX4_putCompanion_55 rfl (lv_at hl 1 rfl) ?_
          refine lv_iload_n hx hb dX4_putCompanion_56 rfl (lv_at hl 2 rfl) ?_
          refine lv_iconst (v := 1) hx hb dX4_putCompanion_57 (by decide) ?_
          refine lv_iadd hx hb dX4_putCompanion_58 ?_
          obtain ⟨hi_17, hf⟩ := g_in hf
          refine q_iald hx hb hK hW h_a1 hi_17 dX4_putCompanion_59 ?_
          obtain ⟨hi_18, hf⟩ := g_in hf
          refine q_iast hx hb hK hW hS hk_15 (inb_of hq_16 hi_18) dX4_putCompanion_60 (fun H locs hW hS => ?_)
          obtain ⟨σ_19, eσ_19⟩ : ∃ y : Mm, y = (Mm.si σ_13 (this + 4) (ix (((Mm.gi σ_13 this 9) * 4) + x2)) (Mm.gi σ_13 a1 (ix (x2 + 1)))) := ⟨_, rfl⟩
          rw [← eσ_19] at hW
          have hf := g_lt eσ_19 hf
          obtain ⟨x2_20, ex2_20⟩ : ∃ y : Int32, y = x2 + 1 := ⟨_, rfl⟩
          have hf := g_lt ex2_20 hf
          refine lv_iinc (v := x2_20) (lv' := [(2, .int x2_20), (0, .ref (z + this)), (1, .ref (z + a1))]) hx hb dX4_putCompanion_61 hl (k := 2) rfl (by rw [ex2_20]; rfl) (by decide) rfl (fun ls hl => ?_)
          refine lv_goto (tgt := 25) hx hb dX4_putCompanion_64 (by decide) ?_
          exact H25 x2_20 σ_19 hf _ _ _ hW hS (lv_sub hl [1, 2, 0] rfl)
        · have hf := g_pos c hf
          refine lv_iconst (v := 0) hx hb dX4_putCompanion_41 (by decide) ?_
          exact q_zret hx hb hr hlocks hW hS hf dX4_putCompanion_42
  refine lv_aload_n hx hb dX4_putCompanion_0 rfl (lv_at hl 0 rfl) ?_
  refine q_geti (own := RX4) (ref := RX4) (C := RX4) (T := TX4) (N := 12) (kc := 2) (ci := 0) hx hb hts hin4 hown hK hW h_this (by decide) rfl 9 (by decide) hw0 rfl rfl dX4_putCompanion_1 ?_
  refine lv_iconst (v := 2) hx hb dX4_putCompanion_4 (by decide) ?_
  refine lv_icmp_ge (tgt := 21) hx hb dX4_putCompanion_5 (by decide) (fun c => ?_) (fun c => ?_)
  · have hf := g_pos c hf
    refine lv_iconst (v := 0) hx hb dX4_putCompanion_21 (by decide) ?_
    exact q_zret hx hb hr hlocks hW hS hf dX4_putCompanion_22
  · have hf := g_neg c hf
    refine lv_aload_n hx hb dX4_putCompanion_8 rfl (lv_at hl 1 rfl) ?_
    refine lv_iconst (v := 0) hx hb dX4_putCompanion_9 (by decide) ?_
    obtain ⟨hi_1, hf⟩ := g_in hf
    refine q_iald hx hb hK hW h_a1 hi_1 dX4_putCompanion_10 ?_
    refine lv_iconst (v := 4) hx hb dX4_putCompanion_11 (by decide) ?_
    refine lv_sipush (v := 1000) hx hb dX4_putCompanion_12 (by decide) ?_
    obtain ⟨r_4, σ_3, hc_2, hf⟩ := g_bnd hf
    refine q_calli (va_runSN (As := [.int (Mm.gi σ a1 (ix 0)), .int 4, .int 1000]) (rest := []) ⟨hx, hb, hml, hown, hts⟩ (k_X11_within l z n D cy Y hc_2) ⟨va_cnB (host := "SkyClocks") 3 hts gX4_putCompanion_X11_within_n74 rfl rfl rfl hw1 hw2 (by decide +kernel) ⟨Nat.le_of_ble_eq_true rfl, Nat.le_of_ble_eq_true rfl⟩, hw3, trivial⟩ (q_PS hK hN hW) rfl rfl hl.1 rfl (lv_room (Nat.le_of_ble_eq_true rfl)) dX4_putCompanion_15 ⟨Nat.le_refl _, Nat.le_refl _⟩) hS (fun H locs hW hS => ?_)
    refine lv_if_ne (tgt := 23) hx hb dX4_putCompanion_18 (by decide) (fun c => ?_) (fun c => ?_)
    · have hf := g_neg c hf
      refine lv_iconst (v := 0) hx hb dX4_putCompanion_23 (by decide) ?_
      refine lv_istore_n (lv' := [(2, .int 0), (0, .ref (z + this)), (1, .ref (z + a1))]) hx hb dX4_putCompanion_24 rfl hl (by decide) rfl (fun ls hl => ?_)
      exact B25 fu 0 σ_3 hf _ _ _ hW hS (lv_sub hl [1, 2, 0] rfl)
    · have hf := g_pos c hf
      refine lv_iconst (v := 0) hx hb dX4_putCompanion_21 (by decide) ?_
      exact q_zret hx hb hr hlocks hW hS hf dX4_putCompanion_22
set_option maxRecDepth 100000 in
set_option maxHeartbeats 40000000 in
theorem k_X4_putDrift (l : Launch) (z n : Nat) (D : va_G) (cy : Nat → ClassId) (Y : Yt) {this : Nat} {a1 : Int32} {σ : Mm} {r : Int32} {σ1 : Mm} (h_this : okk Y n 2 this) (hf : f_X4_putDrift Y this a1 σ = some (r, σ1)) : Ki l yX4_putDrift wsX4_putDrift ({ frames := 1, cells := 0, slots := 0, locals := 22 } : Room) z n D cy Y [.ref (z + this), .int a1] σ r σ1 := by
  refine Met.ofW (cc := cX4_putDrift) (maxL := 2) (ret := (some .boolean)) (by decide +kernel) rfl ?_
  intro p e s m args below meth c s₁ B hml hv
  obtain ⟨rfl, hW, hK, hN⟩ := hv
  have hx := B.exec
  have hb := B.bytes
  have hr := B.returns
  have hts := atoms_spec (ws := wsX4_putDrift) B.pre
  have hown : s.vm.findClass RX4 = some m.cls := findClass_of_methodNamed B.named
  have hlocks := B.notSynchronized
  have hS : va_S (Az z) s.heap s.heap [] := va_S.rf
  have hin4 : ∀ w ∈ wsX40, w ∈ wsX4_putDrift := fun w h => List.mem_cons_of_mem _ (List.mem_append_right _ h)
  have hw0 := hts (.fieldLink RX4 41 "SkyClocks$Model" "hasDrift" "Z") (List.mem_of_getElem? (i := 1) rfl)
  have hw1 := hts (.constant RX4 79 (-100000)) (List.mem_of_getElem? (i := 2) rfl)
  have hw2 := hts (.constant RX4 72 (100000)) (List.mem_of_getElem? (i := 3) rfl)
  have hw3 : va_Nw (.methodLinkNest RX4 74 yX11_within "SkyClocks") s := hN _ (List.mem_of_getElem? (i := 21) rfl)
  have hw4 := hts (.initialized RX11) (List.mem_of_getElem? (i := 6) rfl)
  have hw5 := hts (.static yX11_within) (List.mem_of_getElem? (i := 5) rfl)
  have hw6 := hts (.fieldLink RX4 38 "SkyClocks$Model" "drift" "I") (List.mem_of_getElem? (i := 4) rfl)
  have hl := lv_entry ([.ref (z + this), .int a1]) (n := 2) (Nat.le_of_ble_eq_true rfl)
  rw [lg_entry_eq]
  generalize (lg_sl ([.ref (z + this), .int a1]) ++ List.replicate (2 - (lg_sl ([.ref (z + this), .int a1])).length) Slot.unset).toArray = ls at hl ⊢
  have hl : lv_has ls 2 [(0, .ref (z + this)), (1, .int a1)] := hl
  refine lv_aload_n hx hb dX4_putDrift_0 rfl (lv_at hl 0 rfl) ?_
  refine q_geti (own := RX4) (ref := RX4) (C := RX4) (T := TX4) (N := 12) (kc := 2) (ci := 0) hx hb hts hin4 hown hK hW h_this (by decide) rfl 5 (by decide) hw0 rfl rfl dX4_putDrift_1 ?_
  refine lv_if_ne (tgt := 18) hx hb dX4_putDrift_4 (by decide) (fun c => ?_) (fun c => ?_)
  · have hf := g_neg c hf
    refine lv_iconst (v := 0) hx hb dX4_putDrift_18 (by decide) ?_
    exact q_zret hx hb hr hlocks hW hS hf dX4_putDrift_19
  · have hf := g_pos c hf
    refine lv_iload_n hx hb dX4_putDrift_7 rfl (lv_at hl 1 rfl) ?_
    refine lv_ldc hx hb hown hw1 dX4_putDrift_8 ?_
    refine lv_ldc hx hb hown hw2 dX4_putDrift_10 ?_
    obtain ⟨r_3, σ_2, hc_1, hf⟩ := g_bnd hf
    refine q_calli (va_runSN (As := [.int a1, .int (-100000), .int 100000]) (rest := []) ⟨hx, hb, hml, hown, hts⟩ (k_X11_within l z n D cy Y hc_1) ⟨va_cnB (host := "SkyClocks") 3 hts gX4_putDrift_X11_within_n74 rfl rfl rfl hw3 hw4 (by decide +kernel) ⟨Nat.le_of_ble_eq_true rfl, Nat.le_of_ble_eq_true rfl⟩, hw5, trivial⟩ (q_PS hK hN hW) rfl rfl hl.1 rfl (lv_room (Nat.le_of_ble_eq_true rfl)) dX4_putDrift_12 ⟨Nat.le_refl _, Nat.le_refl _⟩) hS (fun H locs hW hS => ?_)
    refine lv_if_ne (tgt := 20) hx hb dX4_putDrift_15 (by decide) (fun c => ?_) (fun c => ?_)
    · have hf := g_neg c hf
      refine lv_aload_n hx hb dX4_putDrift_20 rfl (lv_at hl 0 rfl) ?_
      refine lv_iconst (v := 1) hx hb dX4_putDrift_21 (by decide) ?_
      refine q_puti (own := RX4) (ref := RX4) (C := RX4) (T := TX4) (N := 12) (kc := 2) (ci := 0) hx hb hts hin4 tyX4_ok nmX4 hown hK hW hS h_this (by decide) rfl 5 (by decide) hw0 rfl rfl (ty := .boolean) (tyX4_ok 5 (by decide)) rfl rfl rfl dX4_putDrift_22 (fun H locs hW hS => ?_)
      obtain ⟨σ_4, eσ_4⟩ : ∃ y : Mm, y = (Mm.si σ_2 this 5 1) := ⟨_, rfl⟩
      rw [← eσ_4] at hW
      have hf := g_lt eσ_4 hf
      refine lv_aload_n hx hb dX4_putDrift_25 rfl (lv_at hl 0 rfl) ?_
      refine lv_iload_n hx hb dX4_putDrift_26 rfl (lv_at hl 1 rfl) ?_
      refine q_puti (own := RX4) (ref := RX4) (C := RX4) (T := TX4) (N := 12) (kc := 2) (ci := 0) hx hb hts hin4 tyX4_ok nmX4 hown hK hW hS h_this (by decide) rfl 4 (by decide) hw6 rfl rfl (ty := .int) (tyX4_ok 4 (by decide)) rfl rfl rfl dX4_putDrift_27 (fun H locs hW hS => ?_)
      obtain ⟨σ_5, eσ_5⟩ : ∃ y : Mm, y = (Mm.si σ_4 this 4 a1) := ⟨_, rfl⟩
      rw [← eσ_5] at hW
      have hf := g_lt eσ_5 hf
      refine lv_iconst (v := 1) hx hb dX4_putDrift_30 (by decide) ?_
      exact q_zret hx hb hr hlocks hW hS hf dX4_putDrift_31
    · have hf := g_pos c hf
      refine lv_iconst (v := 0) hx hb dX4_putDrift_18 (by decide) ?_
      exact q_zret hx hb hr hlocks hW hS hf dX4_putDrift_19
set_option maxRecDepth 100000 in
set_option maxHeartbeats 40000000 in
theorem k_X4_putPeriod (l : Launch) (z n : Nat) (D : va_G) (cy : Nat → ClassId) (Y : Yt) {this : Nat} {a1 : Int32} {σ : Mm} {r : Int32} {σ1 : Mm} (h_this : okk Y n 2 this) (hf : f_X4_putPeriod Y this a1 σ = some (r, σ1)) : Ki l yX4_putPeriod wsX4_putPeriod ({ frames := 1, cells := 0, slots := 0, locals := 22 } : Room) z n D cy Y [.ref (z + this), .int a1] σ r σ1 := by
  refine Met.ofW (cc := cX4_putPeriod) (maxL := 2) (ret := (some .boolean)) (by decide +kernel) rfl ?_
  intro p e s m args below meth c s₁ B hml hv
  obtain ⟨rfl, hW, hK, hN⟩ := hv
  have hx := B.exec
  have hb := B.bytes
  have hr := B.returns
  have hts := atoms_spec (ws := wsX4_putPeriod) B.pre
  have hown : s.vm.findClass RX4 = some m.cls := findClass_of_methodNamed B.named
  have hlocks := B.notSynchronized
  have hS : va_S (Az z) s.heap s.heap [] := va_S.rf
  have hin4 : ∀ w ∈ wsX40, w ∈ wsX4_putPeriod := fun w h => List.mem_cons_of_mem _ (List.mem_append_right _ h)
  have hw0 := hts (.fieldLink RX4 28 "SkyClocks$Model" "period" "I") (List.mem_of_getElem? (i := 1) rfl)
  have hw1 := hts (.constant RX4 72 (100000)) (List.mem_of_getElem? (i := 2) rfl)
  have hw2 := hts (.constant RX4 73 (100000000)) (List.mem_of_getElem? (i := 3) rfl)
  have hw3 : va_Nw (.methodLinkNest RX4 74 yX11_within "SkyClocks") s := hN _ (List.mem_of_getElem? (i := 21) rfl)
  have hw4 := hts (.initialized RX11) (List.mem_of_getElem? (i := 5) rfl)
  have hw5 := hts (.static yX11_within) (List.mem_of_getElem? (i := 4) rfl)
  have hl := lv_entry ([.ref (z + this), .int a1]) (n := 2) (Nat.le_of_ble_eq_true rfl)
  rw [lg_entry_eq]
  generalize (lg_sl ([.ref (z + this), .int a1]) ++ List.replicate (2 - (lg_sl ([.ref (z + this), .int a1])).length) Slot.unset).toArray = ls at hl ⊢
  have hl : lv_has ls 2 [(0, .ref (z + this)), (1, .int a1)] := hl
  refine lv_aload_n hx hb dX4_putPeriod_0 rfl (lv_at hl 0 rfl) ?_
  refine lv_iload_n hx hb dX4_putPeriod_1 rfl (lv_at hl 1 rfl) ?_
  refine q_puti (own := RX4) (ref := RX4) (C := RX4) (T := TX4) (N := 12) (kc := 2) (ci := 0) hx hb hts hin4 tyX4_ok nmX4 hown hK hW hS h_this (by decide) rfl 1 (by decide) hw0 rfl rfl (ty := .int) (tyX4_ok 1 (by decide)) rfl rfl rfl dX4_putPeriod_2 (fun H locs hW hS => ?_)
  obtain ⟨σ_1, eσ_1⟩ : ∃ y : Mm, y = (Mm.si σ this 1 a1) := ⟨_, rfl⟩
  rw [← eσ_1] at hW
  have hf := g_lt eσ_1 hf
  refine lv_iload_n hx hb dX4_putPeriod_5 rfl (lv_at hl 1 rfl) ?_
  refine lv_ldc hx hb hown hw1 dX4_putPeriod_6 ?_
  refine lv_ldc hx hb hown hw2 dX4_putPeriod_8 ?_
  obtain ⟨r_4, σ_3, hc_2, hf⟩ := g_bnd hf
  refine q_calli (va_runSN (As := [.int a1, .int 100000, .int 100000000]) (rest := []) ⟨hx, hb, hml, hown, hts⟩ (k_X11_within l z n D cy Y hc_2) ⟨va_cnB (host := "SkyClocks") 3 hts gX4_putPeriod_X11_within_n74 rfl rfl rfl hw3 hw4 (by decide +kernel) ⟨Nat.le_of_ble_eq_true rfl, Nat.le_of_ble_eq_true rfl⟩, hw5, trivial⟩ (q_PS hK hN hW) rfl rfl hl.1 rfl (lv_room (Nat.le_of_ble_eq_true rfl)) dX4_putPeriod_10 ⟨Nat.le_refl _, Nat.le_refl _⟩) hS (fun H locs hW hS => ?_)
  exact q_zret hx hb hr hlocks hW hS hf dX4_putPeriod_13
set_option maxRecDepth 100000 in
set_option maxHeartbeats 40000000 in
theorem k_X4_putSlip (l : Launch) (z n : Nat) (D : va_G) (cy : Nat → ClassId) (Y : Yt) {this : Nat} {a1 : Int32} {a2 : Int32} {σ : Mm} {r : Int32} {σ1 : Mm} (h_this : okk Y n 2 this) (hf : f_X4_putSlip Y this a1 a2 σ = some (r, σ1)) : Ki l yX4_putSlip wsX4_putSlip ({ frames := 2, cells := 0, slots := 0, locals := 42 } : Room) z n D cy Y [.ref (z + this), .int a1, .int a2] σ r σ1 := by
  refine Met.ofW (cc := cX4_putSlip) (maxL := 3) (ret := (some .boolean)) (by decide +kernel) rfl ?_
  intro p e s m args below meth c s₁ B hml hv
  obtain ⟨rfl, hW, hK, hN⟩ := hv
  have hx := B.exec
  have hb := B.bytes
  have hr := B.returns
  have hts := atoms_spec (ws := wsX4_putSlip) B.pre
  have hown : s.vm.findClass RX4 = some m.cls := findClass_of_methodNamed B.named
  have hlocks := B.notSynchronized
  have hS : va_S (Az z) s.heap s.heap [] := va_S.rf
  have hin4 : ∀ w ∈ wsX40, w ∈ wsX4_putSlip := fun w h => List.mem_cons_of_mem _ (List.mem_append_right _ h)
  have hw0 := hts (.fieldLink RX4 44 "SkyClocks$Model" "slips" "I") (List.mem_of_getElem? (i := 1) rfl)
  have hw1 := hts (.constant RX4 78 (1000000)) (List.mem_of_getElem? (i := 2) rfl)
  have hw2 : va_Nw (.methodLinkNest RX4 74 yX11_within "SkyClocks") s := hN _ (List.mem_of_getElem? (i := 21) rfl)
  have hw3 := hts (.initialized RX11) (List.mem_of_getElem? (i := 6) rfl)
  have hw4 := hts (.static yX11_within) (List.mem_of_getElem? (i := 5) rfl)
  have hw5 := hts (.fieldLink RX4 11 "SkyClocks$Model" "slipTimes" "[I") (List.mem_of_getElem? (i := 3) rfl)
  have hw6 := hts (.fieldLink RX4 15 "SkyClocks$Model" "slipSizes" "[I") (List.mem_of_getElem? (i := 4) rfl)
  have hl := lv_entry ([.ref (z + this), .int a1, .int a2]) (n := 3) (Nat.le_of_ble_eq_true rfl)
  rw [lg_entry_eq]
  generalize (lg_sl ([.ref (z + this), .int a1, .int a2]) ++ List.replicate (3 - (lg_sl ([.ref (z + this), .int a1, .int a2])).length) Slot.unset).toArray = ls at hl ⊢
  have hl : lv_has ls 3 [(0, .ref (z + this)), (1, .int a1), (2, .int a2)] := hl
  refine lv_aload_n hx hb dX4_putSlip_0 rfl (lv_at hl 0 rfl) ?_
  refine q_geti (own := RX4) (ref := RX4) (C := RX4) (T := TX4) (N := 12) (kc := 2) (ci := 0) hx hb hts hin4 hown hK hW h_this (by decide) rfl 6 (by decide) hw0 rfl rfl dX4_putSlip_1 ?_
  refine lv_iconst (v := 3) hx hb dX4_putSlip_4 (by decide) ?_
  refine lv_icmp_ge (tgt := 25) hx hb dX4_putSlip_5 (by decide) (fun c => ?_) (fun c => ?_)
  · have hf := g_pos c hf
    refine lv_iconst (v := 0) hx hb dX4_putSlip_25 (by decide) ?_
    exact q_zret hx hb hr hlocks hW hS hf dX4_putSlip_26
  · have hf := g_neg c hf
    refine lv_iload_n hx hb dX4_putSlip_8 rfl (lv_at hl 1 rfl) ?_
    refine lv_iconst (v := 0) hx hb dX4_putSlip_9 (by decide) ?_
    refine lv_ldc hx hb hown hw1 dX4_putSlip_10 ?_
    obtain ⟨r_3, σ_2, hc_1, hf⟩ := g_bnd hf
    refine q_calli (va_runSN (As := [.int a1, .int 0, .int 1000000]) (rest := []) ⟨hx, hb, hml, hown, hts⟩ (k_X11_within l z n D cy Y hc_1) ⟨va_cnB (host := "SkyClocks") 3 hts gX4_putSlip_X11_within_n74 rfl rfl rfl hw2 hw3 (by decide +kernel) ⟨Nat.le_of_ble_eq_true rfl, Nat.le_of_ble_eq_true rfl⟩, hw4, trivial⟩ (q_PS hK hN hW) rfl rfl hl.1 rfl (lv_room (Nat.le_of_ble_eq_true rfl)) dX4_putSlip_12 ⟨Nat.le_refl _, Nat.le_refl _⟩) hS (fun H locs hW hS => ?_)
    refine lv_if_eq (tgt := 25) hx hb dX4_putSlip_15 (by decide) (fun c => ?_) (fun c => ?_)
    · have hf := g_pos c hf
      refine lv_iconst (v := 0) hx hb dX4_putSlip_25 (by decide) ?_
      exact q_zret hx hb hr hlocks hW hS hf dX4_putSlip_26
    · have hf := g_neg c hf
      refine lv_iload_n hx hb dX4_putSlip_18 rfl (lv_at hl 2 rfl) ?_
      obtain ⟨r_6, σ_5, hc_4, hf⟩ := g_bnd hf
      refine q_calli (va_runS (As := [.int a2]) (rest := []) ⟨hx, hb, hml, hown, hts⟩ (k_X4_isLate l z n D cy Y hc_4) (va_cwS 1 hts gX4_putSlip_X4_isLate rfl rfl rfl (by decide +kernel) ⟨Nat.le_of_ble_eq_true rfl, Nat.le_of_ble_eq_true rfl⟩) (q_PS hK hN hW) rfl rfl hl.1 rfl (lv_room (Nat.le_of_ble_eq_true rfl)) dX4_putSlip_19 ⟨Nat.le_refl _, Nat.le_refl _⟩) hS (fun H locs hW hS => ?_)
      refine lv_if_ne (tgt := 27) hx hb dX4_putSlip_22 (by decide) (fun c => ?_) (fun c => ?_)
      · have hf := g_neg c hf
        refine lv_aload_n hx hb dX4_putSlip_27 rfl (lv_at hl 0 rfl) ?_
        refine q_getp (own := RX4) (ref := RX4) (C := RX4) (T := TX4) (N := 12) (kc := 2) (ci := 0) hx hb hts hin4 hown hK hW h_this (by decide) rfl 7 (by decide) hw5 rfl rfl rfl (v := (this + 1)) rfl dX4_putSlip_28 (fun hk_7 hq_8 => ?_)
        refine lv_aload_n hx hb dX4_putSlip_31 rfl (lv_at hl 0 rfl) ?_
        refine q_geti (own := RX4) (ref := RX4) (C := RX4) (T := TX4) (N := 12) (kc := 2) (ci := 0) hx hb hts hin4 hown hK hW h_this (by decide) rfl 6 (by decide) hw0 rfl rfl dX4_putSlip_32 ?_
        refine lv_iload_n hx hb dX4_putSlip_35 rfl (lv_at hl 1 rfl) ?_
        obtain ⟨hi_9, hf⟩ := g_in hf
        refine q_iast hx hb hK hW hS hk_7 (inb_of hq_8 hi_9) dX4_putSlip_36 (fun H locs hW hS => ?_)
        obtain ⟨σ_10, eσ_10⟩ : ∃ y : Mm, y = (Mm.si σ_5 (this + 1) (ix (Mm.gi σ_5 this 6)) a1) := ⟨_, rfl⟩
        rw [← eσ_10] at hW
        have hf := g_lt eσ_10 hf
        refine lv_aload_n hx hb dX4_putSlip_37 rfl (lv_at hl 0 rfl) ?_
        refine q_getp (own := RX4) (ref := RX4) (C := RX4) (T := TX4) (N := 12) (kc := 2) (ci := 0) hx hb hts hin4 hown hK hW h_this (by decide) rfl 8 (by decide) hw6 rfl rfl rfl (v := (this + 2)) rfl dX4_putSlip_38 (fun hk_11 hq_12 => ?_)
        refine lv_aload_n hx hb dX4_putSlip_41 rfl (lv_at hl 0 rfl) ?_
        refine q_geti (own := RX4) (ref := RX4) (C := RX4) (T := TX4) (N := 12) (kc := 2) (ci := 0) hx hb hts hin4 hown hK hW h_this (by decide) rfl 6 (by decide) hw0 rfl rfl dX4_putSlip_42 ?_
        refine lv_iload_n hx hb dX4_putSlip_45 rfl (lv_at hl 2 rfl) ?_
        obtain ⟨hi_13, hf⟩ := g_in hf
        refine q_iast hx hb hK hW hS hk_11 (inb_of hq_12 hi_13) dX4_putSlip_46 (fun H locs hW hS => ?_)
        obtain ⟨σ_14, eσ_14⟩ : ∃ y : Mm, y = (Mm.si σ_10 (this + 2) (ix (Mm.gi σ_10 this 6)) a2) := ⟨_, rfl⟩
        rw [← eσ_14] at hW
        have hf := g_lt eσ_14 hf
        refine lv_aload_n hx hb dX4_putSlip_47 rfl (lv_at hl 0 rfl) ?_
        refine lv_dup hx hb dX4_putSlip_48 rfl ?_
        refine q_geti (own := RX4) (ref := RX4) (C := RX4) (T := TX4) (N := 12) (kc := 2) (ci := 0) hx hb hts hin4 hown hK hW h_this (by decide) rfl 6 (by decide) hw0 rfl rfl dX4_putSlip_49 ?_
        refine lv_iconst (v := 1) hx hb dX4_putSlip_52 (by decide) ?_
        refine lv_iadd hx hb dX4_putSlip_53 ?_
        refine q_puti (own := RX4) (ref := RX4) (C := RX4) (T := TX4) (N := 12) (kc := 2) (ci := 0) hx hb hts hin4 tyX4_ok nmX4 hown hK hW hS h_this (by decide) rfl 6 (by decide) hw0 rfl rfl (ty := .int) (tyX4_ok 6 (by decide)) rfl rfl rfl dX4_putSlip_54 (fun H locs hW hS => ?_)
        obtain ⟨σ_15, eσ_15⟩ : ∃ y : Mm, y = (Mm.si σ_14 this 6 ((Mm.gi σ_14 this 6) + 1)) := ⟨_, rfl⟩
        rw [← eσ_15] at hW
        have hf := g_lt eσ_15 hf
        refine lv_iconst (v := 1) hx hb dX4_putSlip_57 (by decide) ?_
        exact q_zret hx hb hr hlocks hW hS hf dX4_putSlip_58
      · have hf := g_pos c hf
        refine lv_iconst (v := 0) hx hb dX4_putSlip_25 (by decide) ?_
        exact q_zret hx hb hr hlocks hW hS hf dX4_putSlip_26
