set_option maxRecDepth 100000 in
set_option maxHeartbeats 40000000 in
theorem k_X11_isPlace (l : Launch) (z n : Nat) (D : va_G) (cy : Nat → ClassId) (Y : Yt) {a0 : Int32} {σ : Mm} {r : Int32} {σ1 : Mm} (hf : f_X11_isPlace Y a0 σ = some (r, σ1)) : Ki l yX11_isPlace wsX11_isPlace ({ frames := 1, cells := 0, slots := 0, locals := 22 } : Room) z n D cy Y [.int a0] σ r σ1 := by
  refine Met.ofW (cc := cX11_isPlace) (maxL := 1) (ret := (some .boolean)) (by decide +kernel) rfl ?_
  intro p e s m args below meth c s₁ B hml hv
  obtain ⟨rfl, hW, hK, hN⟩ := hv
  have hx := B.exec
  have hb := B.bytes
  have hr := B.returns
  have hts := atoms_spec (ws := wsX11_isPlace) B.pre
  have hown : s.vm.findClass RX11 = some m.cls := findClass_of_methodNamed B.named
  have hlocks := B.notSynchronized
  have hS : va_S (Az z) s.heap s.heap [] := va_S.rf
  have hl := lv_entry ([.int a0]) (n := 1) (Nat.le_of_ble_eq_true rfl)
  rw [lg_entry_eq]
  generalize (lg_sl ([.int a0]) ++ List.replicate (1 - (lg_sl ([.int a0])).length) Slot.unset).toArray = ls at hl ⊢
  have hl : lv_has ls 1 [(0, .int a0)] := hl
  refine lv_iload_n hx hb dX11_isPlace_0 rfl (lv_at hl 0 rfl) ?_
  refine lv_iconst (v := 0) hx hb dX11_isPlace_1 (by decide) ?_
  refine lv_bipush (v := 23) hx hb dX11_isPlace_2 (by decide) ?_
  obtain ⟨r_3, σ_2, hc_1, hf⟩ := g_bnd hf
  refine q_calli (va_runS (As := [.int a0, .int 0, .int 23]) (rest := []) ⟨hx, hb, hml, hown, hts⟩ (k_X11_within l z n D cy Y hc_1) (va_cwS 3 hts gX11_isPlace_X11_within rfl rfl rfl (by decide +kernel) ⟨Nat.le_of_ble_eq_true rfl, Nat.le_of_ble_eq_true rfl⟩) (q_PS hK hN hW) rfl rfl hl.1 rfl (lv_room (Nat.le_of_ble_eq_true rfl)) dX11_isPlace_4 ⟨Nat.le_refl _, Nat.le_refl _⟩) hS (fun H locs hW hS => ?_)
  exact q_zret hx hb hr hlocks hW hS hf dX11_isPlace_7
set_option maxRecDepth 100000 in
set_option maxHeartbeats 40000000 in
theorem k_X11_at (l : Launch) (z n : Nat) (D : va_G) (cy : Nat → ClassId) (Y : Yt) {this : Nat} {a1 : Int32} {a2 : Int32} {a3 : Int32} {σ : Mm} {r : Int32} {σ1 : Mm} (h_this : okk Y n 8 this) (hf : f_X11_at Y this a1 a2 a3 σ = some (r, σ1)) : Ki l yX11_at wsX11_at ({ frames := 2, cells := 0, slots := 0, locals := 46 } : Room) z n D cy Y [.ref (z + this), .int a1, .int a2, .int a3] σ r σ1 := by
  refine Met.ofW (cc := cX11_at) (maxL := 4) (ret := (some .int)) (by decide +kernel) rfl ?_
  intro p e s m args below meth c s₁ B hml hv
  obtain ⟨rfl, hW, hK, hN⟩ := hv
  have hx := B.exec
  have hb := B.bytes
  have hr := B.returns
  have hts := atoms_spec (ws := wsX11_at) B.pre
  have hown : s.vm.findClass RX11 = some m.cls := findClass_of_methodNamed B.named
  have hlocks := B.notSynchronized
  have hS : va_S (Az z) s.heap s.heap [] := va_S.rf
  have hin11 : ∀ w ∈ wsX110, w ∈ wsX11_at := fun w h => List.mem_cons_of_mem _ (List.mem_append_left _ (List.mem_append_left _ (List.mem_append_right _ h)))
  have hin7 : ∀ w ∈ wsX70, w ∈ wsX11_at := fun w h => List.mem_cons_of_mem _ (List.mem_append_left _ (List.mem_append_right _ h))
  have hin8 : ∀ w ∈ wsX80, w ∈ wsX11_at := fun w h => List.mem_cons_of_mem _ (List.mem_append_right _ h)
  have hw0 := hts (.constant RX11 97 (-100000)) (List.mem_of_getElem? (i := 1) rfl)
  have hw1 := hts (.fieldLink RX11 18 "SkyClocks" "stars" "[LSkyClocks$Star;") (List.mem_of_getElem? (i := 2) rfl)
  have hw2 : va_Nw (.fieldLinkNest RX11 114 "SkyClocks$Star" "seen" "I" "SkyClocks") s := hN _ (List.mem_of_getElem? (i := 11) rfl)
  have hw3 := hts (.fieldLink RX11 10 "SkyClocks" "tables" "LSkyClocks$Tables;") (List.mem_of_getElem? (i := 4) rfl)
  have hw4 : va_Nw (.fieldLinkNest RX11 105 "SkyClocks$Tables" "version" "I" "SkyClocks") s := hN _ (List.mem_of_getElem? (i := 2) rfl)
  have hw5 := hts (.constant RX11 117 (-100002)) (List.mem_of_getElem? (i := 3) rfl)
  have hl := lv_entry ([.ref (z + this), .int a1, .int a2, .int a3]) (n := 4) (Nat.le_of_ble_eq_true rfl)
  rw [lg_entry_eq]
  generalize (lg_sl ([.ref (z + this), .int a1, .int a2, .int a3]) ++ List.replicate (4 - (lg_sl ([.ref (z + this), .int a1, .int a2, .int a3])).length) Slot.unset).toArray = ls at hl ⊢
  have hl : lv_has ls 4 [(0, .ref (z + this)), (1, .int a1), (2, .int a2), (3, .int a3)] := hl
  refine lv_iload_n hx hb dX11_at_0 rfl (lv_at hl 1 rfl) ?_
  obtain ⟨r_3, σ_2, hc_1, hf⟩ := g_bnd hf
  refine q_calli (va_runS (As := [.int a1]) (rest := []) ⟨hx, hb, hml, hown, hts⟩ (k_X11_isStar l z n D cy Y hc_1) (va_cwS 1 hts gX11_at_X11_isStar rfl rfl rfl (by decide +kernel) ⟨Nat.le_of_ble_eq_true rfl, Nat.le_of_ble_eq_true rfl⟩) (q_PS hK hN hW) rfl rfl hl.1 rfl (lv_room (Nat.le_of_ble_eq_true rfl)) dX11_at_1 ⟨Nat.le_refl _, Nat.le_refl _⟩) hS (fun H locs hW hS => ?_)
  refine lv_if_eq (tgt := 23) hx hb dX11_at_4 (by decide) (fun c => ?_) (fun c => ?_)
  · have hf := g_pos c hf
    refine lv_ldc hx hb hown hw0 dX11_at_23 ?_
    exact q_iret hx hb hr hlocks hW hS hf dX11_at_25
  · have hf := g_neg c hf
    refine lv_iload_n hx hb dX11_at_7 rfl (lv_at hl 2 rfl) ?_
    obtain ⟨r_6, σ_5, hc_4, hf⟩ := g_bnd hf
    refine q_calli (va_runS (As := [.int a2]) (rest := []) ⟨hx, hb, hml, hown, hts⟩ (k_X11_isPlace l z n D cy Y hc_4) (va_cwS 1 hts gX11_at_X11_isPlace rfl rfl rfl (by decide +kernel) ⟨Nat.le_of_ble_eq_true rfl, Nat.le_of_ble_eq_true rfl⟩) (q_PS hK hN hW) rfl rfl hl.1 rfl (lv_room (Nat.le_of_ble_eq_true rfl)) dX11_at_8 ⟨Nat.le_refl _, Nat.le_refl _⟩) hS (fun H locs hW hS => ?_)
    refine lv_if_eq (tgt := 23) hx hb dX11_at_11 (by decide) (fun c => ?_) (fun c => ?_)
    · have hf := g_pos c hf
      refine lv_ldc hx hb hown hw0 dX11_at_23 ?_
      exact q_iret hx hb hr hlocks hW hS hf dX11_at_25
    · have hf := g_neg c hf
      refine lv_iload_n hx hb dX11_at_14 rfl (lv_at hl 3 rfl) ?_
      refine lv_iconst (v := 0) hx hb dX11_at_15 (by decide) ?_
      refine lv_iconst (v := 4) hx hb dX11_at_16 (by decide) ?_
      obtain ⟨r_9, σ_8, hc_7, hf⟩ := g_bnd hf
      refine q_calli (va_runS (As := [.int a3, .int 0, .int 4]) (rest := []) ⟨hx, hb, hml, hown, hts⟩ (k_X11_within l z n D cy Y hc_7) (va_cwS 3 hts gX11_at_X11_within rfl rfl rfl (by decide +kernel) ⟨Nat.le_of_ble_eq_true rfl, Nat.le_of_ble_eq_true rfl⟩) (q_PS hK hN hW) rfl rfl hl.1 rfl (lv_room (Nat.le_of_ble_eq_true rfl)) dX11_at_17 ⟨Nat.le_refl _, Nat.le_refl _⟩) hS (fun H locs hW hS => ?_)
      refine lv_if_ne (tgt := 26) hx hb dX11_at_20 (by decide) (fun c => ?_) (fun c => ?_)
      · have hf := g_neg c hf
        refine lv_iload_n hx hb dX11_at_26 rfl (lv_at hl 2 rfl) ?_
        refine lv_aload_n hx hb dX11_at_27 rfl (lv_at hl 0 rfl) ?_
        refine q_getp (own := RX11) (ref := RX11) (C := RX11) (T := TX11) (N := 10) (kc := 8) (ci := 0) hx hb hts hin11 hown hK hW h_this (by decide) rfl 1 (by decide) hw1 rfl rfl rfl (v := 7) rfl dX11_at_28 (fun hk_10 hq_11 => ?_)
        refine lv_iload_n hx hb dX11_at_31 rfl (lv_at hl 1 rfl) ?_
        obtain ⟨hi_12, hf⟩ := g_in hf
        refine q_aalp (kc := 14) (t := 4) hx hb hK hW hk_10 rfl (inb_of hq_11 hi_12) rfl dX11_at_32 (fun hk_13 hq_14 => ?_)
        refine q_getiN (own := RX11) (ref := RX7) (C := RX7) (T := TX7) (N := 4) (kc := 4) (ci := 0) (host := "SkyClocks") hx hb hts hin7 hown hK hW hk_13 (by decide) rfl 3 (by decide) hw2 rfl rfl dX11_at_33 ?_
        refine lv_icmp_lt (tgt := 42) hx hb dX11_at_36 (by decide) (fun c => ?_) (fun c => ?_)
        · have hf := g_pos c hf
          refine lv_iload_n hx hb dX11_at_42 rfl (lv_at hl 3 rfl) ?_
          refine lv_iconst (v := 4) hx hb dX11_at_43 (by decide) ?_
          refine lv_icmp_ne (tgt := 63) hx hb dX11_at_44 (by decide) (fun c => ?_) (fun c => ?_)
          · have hf := g_neg c hf
            refine lv_aload_n hx hb dX11_at_63 rfl (lv_at hl 0 rfl) ?_
            refine q_getp (own := RX11) (ref := RX11) (C := RX11) (T := TX11) (N := 10) (kc := 8) (ci := 0) hx hb hts hin11 hown hK hW h_this (by decide) rfl 1 (by decide) hw1 rfl rfl rfl (v := 7) rfl dX11_at_64 (fun hk_15 hq_16 => ?_)
            refine lv_iload_n hx hb dX11_at_67 rfl (lv_at hl 1 rfl) ?_
            obtain ⟨hi_17, hf⟩ := g_in hf
            refine q_aalp (kc := 14) (t := 4) hx hb hK hW hk_15 rfl (inb_of hq_16 hi_17) rfl dX11_at_68 (fun hk_18 hq_19 => ?_)
            refine lv_iload_n hx hb dX11_at_69 rfl (lv_at hl 2 rfl) ?_
            refine lv_iload_n hx hb dX11_at_70 rfl (lv_at hl 3 rfl) ?_
            obtain ⟨r_22, σ_21, hc_20, hf⟩ := g_bnd hf
            refine q_calli (va_runV (As := [.int a2, .int a3]) (rest := []) ⟨hx, hb, hml, hown, hts⟩ (k_X7_value l z n D cy Y hk_18 hc_20) (cwV 2 hts gX11_at_X7_value rfl rfl rfl (by decide +kernel) ⟨Nat.le_of_ble_eq_true rfl, Nat.le_of_ble_eq_true rfl⟩) (q_PV (T := TX7) (N := 4) hK hN hW hk_18 (by decide) rfl) rfl rfl hl.1 rfl (lv_room (Nat.le_of_ble_eq_true rfl)) dX11_at_71 ⟨Nat.le_refl _, Nat.le_refl _⟩) hS (fun H locs hW hS => ?_)
            exact q_iret hx hb hr hlocks hW hS hf dX11_at_74
          · have hf := g_pos c hf
            refine lv_aload_n hx hb dX11_at_47 rfl (lv_at hl 0 rfl) ?_
            refine lv_iload_n hx hb dX11_at_48 rfl (lv_at hl 1 rfl) ?_
            refine lv_iload_n hx hb dX11_at_49 rfl (lv_at hl 2 rfl) ?_
            refine lv_aload_n hx hb dX11_at_50 rfl (lv_at hl 0 rfl) ?_
            refine q_getp (own := RX11) (ref := RX11) (C := RX11) (T := TX11) (N := 10) (kc := 8) (ci := 0) hx hb hts hin11 hown hK hW h_this (by decide) rfl 0 (by decide) hw3 rfl rfl rfl (v := 2) rfl dX11_at_51 (fun hk_23 hq_24 => ?_)
            refine q_getiN (own := RX11) (ref := RX8) (C := RX8) (T := TX8) (N := 4) (kc := 5) (ci := 0) (host := "SkyClocks") hx hb hts hin8 hown hK hW hk_23 (by decide) rfl 2 (by decide) hw4 rfl rfl dX11_at_54 ?_
            obtain ⟨r_27, σ_26, hc_25, hf⟩ := g_bnd hf
            refine q_calli (va_runV (As := [.int a1, .int a2, .int (Mm.gi σ_8 2 2)]) (rest := []) ⟨hx, hb, hml, hown, hts⟩ (k_X11_corrected l z n D cy Y h_this hc_25) (cwV 3 hts gX11_at_X11_corrected rfl rfl rfl (by decide +kernel) ⟨Nat.le_of_ble_eq_true rfl, Nat.le_of_ble_eq_true rfl⟩) (q_PV (T := TX11) (N := 10) hK hN hW h_this (by decide) rfl) rfl rfl hl.1 rfl (lv_room (Nat.le_of_ble_eq_true rfl)) dX11_at_57 ⟨Nat.le_refl _, Nat.le_refl _⟩) hS (fun H locs hW hS => ?_)
            refine lv_goto (tgt := 74) hx hb dX11_at_60 (by decide) ?_
            exact q_iret hx hb hr hlocks hW hS hf dX11_at_74
        · have hf := g_neg c hf
          refine lv_ldc hx hb hown hw5 dX11_at_39 ?_
          exact q_iret hx hb hr hlocks hW hS hf dX11_at_41
      · have hf := g_pos c hf
        refine lv_ldc hx hb hown hw0 dX11_at_23 ?_
        exact q_iret hx hb hr hlocks hW hS hf dX11_at_25
set_option maxRecDepth 100000 in
set_option maxHeartbeats 40000000 in
theorem k_X11_turnOf (l : Launch) (z n : Nat) (D : va_G) (cy : Nat → ClassId) (Y : Yt) {fu : Nat} {this : Nat} {a1 : Int32} {a2 : Int32} {σ : Mm} {r : Int32} {σ1 : Mm} (h_this : okk Y n 8 this) (hf : f_X11_turnOf Y fu this a1 a2 σ = some (r, σ1)) : Ki l yX11_turnOf wsX11_turnOf ({ frames := 3, cells := 0, slots := 0, locals := 89 } : Room) z n D cy Y [.ref (z + this), .int a1, .int a2] σ r σ1 := by
  refine Met.ofW (cc := cX11_turnOf) (maxL := 3) (ret := (some .int)) (by decide +kernel) rfl ?_
  intro p e s m args below meth c s₁ B hml hv
  obtain ⟨rfl, hW, hK, hN⟩ := hv
  have hx := B.exec
  have hb := B.bytes
  have hr := B.returns
  have hts := atoms_spec (ws := wsX11_turnOf) B.pre
  have hown : s.vm.findClass RX11 = some m.cls := findClass_of_methodNamed B.named
  have hlocks := B.notSynchronized
  have hS : va_S (Az z) s.heap s.heap [] := va_S.rf
  have hin11 : ∀ w ∈ wsX110, w ∈ wsX11_turnOf := fun w h => List.mem_cons_of_mem _ (List.mem_append_left _ (List.mem_append_left _ (List.mem_append_left _ (List.mem_append_left _ (List.mem_append_right _ h)))))
  have hin8 : ∀ w ∈ wsX80, w ∈ wsX11_turnOf := fun w h => List.mem_cons_of_mem _ (List.mem_append_left _ (List.mem_append_left _ (List.mem_append_left _ (List.mem_append_right _ h))))
  have hw0 := hts (.fieldLink RX11 24 "SkyClocks" "clocks" "[LSkyClocks$Turns;") (List.mem_of_getElem? (i := 1) rfl)
  have hw1 := hts (.fieldLink RX11 10 "SkyClocks" "tables" "LSkyClocks$Tables;") (List.mem_of_getElem? (i := 2) rfl)
  have hw2 : va_Nw (.fieldLinkNest RX11 105 "SkyClocks$Tables" "version" "I" "SkyClocks") s := hN _ (List.mem_of_getElem? (i := 2) rfl)
  have hw3 := hts (.constantLong RX11 274 (1000000)) (List.mem_of_getElem? (i := 3) rfl)
  have hl := lv_entry ([.ref (z + this), .int a1, .int a2]) (n := 3) (Nat.le_of_ble_eq_true rfl)
  rw [lg_entry_eq]
  generalize (lg_sl ([.ref (z + this), .int a1, .int a2]) ++ List.replicate (3 - (lg_sl ([.ref (z + this), .int a1, .int a2])).length) Slot.unset).toArray = ls at hl ⊢
  have hl : lv_has ls 3 [(0, .ref (z + this)), (1, .int a1), (2, .int a2)] := hl
  refine lv_aload_n hx hb dX11_turnOf_0 rfl (lv_at hl 0 rfl) ?_
  refine q_getp (own := RX11) (ref := RX11) (C := RX11) (T := TX11) (N := 10) (kc := 8) (ci := 0) hx hb hts hin11 hown hK hW h_this (by decide) rfl 2 (by decide) hw0 rfl rfl rfl (v := 8) rfl dX11_turnOf_1 (fun hk_1 hq_2 => ?_)
  refine lv_iload_n hx hb dX11_turnOf_4 rfl (lv_at hl 1 rfl) ?_
  obtain ⟨hi_3, hf⟩ := g_in hf
  refine q_aalp (kc := 15) (t := 7) hx hb hK hW hk_1 rfl (inb_of hq_2 hi_3) rfl dX11_turnOf_5 (fun hk_4 hq_5 => ?_)
  refine lv_aload_n hx hb dX11_turnOf_6 rfl (lv_at hl 0 rfl) ?_
  refine lv_iload_n hx hb dX11_turnOf_7 rfl (lv_at hl 1 rfl) ?_
  refine lv_iload_n hx hb dX11_turnOf_8 rfl (lv_at hl 2 rfl) ?_
  refine lv_aload_n hx hb dX11_turnOf_9 rfl (lv_at hl 0 rfl) ?_
  refine q_getp (own := RX11) (ref := RX11) (C := RX11) (T := TX11) (N := 10) (kc := 8) (ci := 0) hx hb hts hin11 hown hK hW h_this (by decide) rfl 0 (by decide) hw1 rfl rfl rfl (v := 2) rfl dX11_turnOf_10 (fun hk_6 hq_7 => ?_)
  refine q_getiN (own := RX11) (ref := RX8) (C := RX8) (T := TX8) (N := 4) (kc := 5) (ci := 0) (host := "SkyClocks") hx hb hts hin8 hown hK hW hk_6 (by decide) rfl 2 (by decide) hw2 rfl rfl dX11_turnOf_13 ?_
  obtain ⟨r_10, σ_9, hc_8, hf⟩ := g_bnd hf
  refine q_calli (va_runV (As := [.int a1, .int a2, .int (Mm.gi σ 2 2)]) (rest := [.ref (z + (558 + 10 * ix a1))]) ⟨hx, hb, hml, hown, hts⟩ (k_X11_corrected l z n D cy Y h_this hc_8) (cwV 3 hts gX11_turnOf_X11_corrected rfl rfl rfl (by decide +kernel) ⟨Nat.le_of_ble_eq_true rfl, Nat.le_of_ble_eq_true rfl⟩) (q_PV (T := TX11) (N := 10) hK hN hW h_this (by decide) rfl) rfl rfl hl.1 rfl (lv_room (Nat.le_of_ble_eq_true rfl)) dX11_turnOf_16 ⟨Nat.le_refl _, Nat.le_refl _⟩) hS (fun H locs hW hS => ?_)
  refine lv_i2l hx hb dX11_turnOf_19 rfl ?_
  refine lv_ldc2 hx hb hown hw3 dX11_turnOf_20 ?_
  refine lv_lmul hx hb dX11_turnOf_23 ?_
  obtain ⟨r_13, σ_12, hc_11, hf⟩ := g_bnd hf
  refine q_calli (va_runV (As := [.long ((Int32.toInt64 r_10) * 1000000)]) (rest := []) ⟨hx, hb, hml, hown, hts⟩ (k_X10_nearest l z n D cy Y hk_4 hc_11) (cwV 1 hts gX11_turnOf_X10_nearest rfl rfl rfl (by decide +kernel) ⟨Nat.le_of_ble_eq_true rfl, Nat.le_of_ble_eq_true rfl⟩) (q_PV (T := TX10) (N := 3) hK hN hW hk_4 (by decide) rfl) rfl rfl hl.1 rfl (lv_room (Nat.le_of_ble_eq_true rfl)) dX11_turnOf_24 ⟨Nat.le_refl _, Nat.le_refl _⟩) hS (fun H locs hW hS => ?_)
  exact q_iret hx hb hr hlocks hW hS hf dX11_turnOf_27
set_option maxRecDepth 100000 in
set_option maxHeartbeats 40000000 in
theorem k_X11_gatherGaps (l : Launch) (z n : Nat) (D : va_G) (cy : Nat → ClassId) (Y : Yt) {fu : Nat} {this : Nat} {a1 : Int32} {a2 : Int32} {a3 : Int32} {σ : Mm} {σ1 : Mm} (h_this : okk Y n 8 this) (hf : f_X11_gatherGaps Y fu this a1 a2 a3 σ = some σ1) : Kv l yX11_gatherGaps wsX11_gatherGaps ({ frames := 4, cells := 0, slots := 0, locals := 111 } : Room) z n D cy Y [.ref (z + this), .int a1, .int a2, .int a3] σ σ1 := by
  refine Met.ofW (cc := cX11_gatherGaps) (maxL := 7) (ret := none) (by decide +kernel) rfl ?_
  intro p e s m args below meth c s₁ B hml hv
  obtain ⟨rfl, hW, hK, hN⟩ := hv
  have hx := B.exec
  have hb := B.bytes
  have hr := B.returns
  have hts := atoms_spec (ws := wsX11_gatherGaps) B.pre
  have hown : s.vm.findClass RX11 = some m.cls := findClass_of_methodNamed B.named
  have hlocks := B.notSynchronized
  have hS : va_S (Az z) s.heap s.heap [] := va_S.rf
  have hin11 : ∀ w ∈ wsX110, w ∈ wsX11_gatherGaps := fun w h => List.mem_cons_of_mem _ (List.mem_append_left _ (List.mem_append_left _ (List.mem_append_left _ (List.mem_append_left _ (List.mem_append_left _ (List.mem_append_right _ h))))))
  have hin7 : ∀ w ∈ wsX70, w ∈ wsX11_gatherGaps := fun w h => List.mem_cons_of_mem _ (List.mem_append_left _ (List.mem_append_left _ (List.mem_append_left _ (List.mem_append_left _ (List.mem_append_right _ h)))))
  have hw0 := hts (.fieldLink RX11 18 "SkyClocks" "stars" "[LSkyClocks$Star;") (List.mem_of_getElem? (i := 1) rfl)
  have hw1 : va_Nw (.fieldLinkNest RX11 114 "SkyClocks$Star" "seen" "I" "SkyClocks") s := hN _ (List.mem_of_getElem? (i := 11) rfl)
  have hw2 := hts (.fieldLink RX11 56 "SkyClocks" "turnNumbers" "[I") (List.mem_of_getElem? (i := 2) rfl)
  have hw3 := hts (.fieldLink RX11 62 "SkyClocks" "gaps" "LSkyClocks$Gaps;") (List.mem_of_getElem? (i := 3) rfl)
  have hl := lv_entry ([.ref (z + this), .int a1, .int a2, .int a3]) (n := 7) (Nat.le_of_ble_eq_true rfl)
  rw [lg_entry_eq]
  generalize (lg_sl ([.ref (z + this), .int a1, .int a2, .int a3]) ++ List.replicate (7 - (lg_sl ([.ref (z + this), .int a1, .int a2, .int a3])).length) Slot.unset).toArray = ls at hl ⊢
  have hl : lv_has ls 7 [(0, .ref (z + this)), (1, .int a1), (2, .int a2), (3, .int a3)] := hl
  have B132 : ∀ (k44 : Nat → Int32 → Mm → Option (Mm)) (H44 : ∀ (x4 : Nat) (x5 : Int32) (σ : Mm), okk Y n 4 x4 → k44 x4 x5 σ = some σ1 → ∀ (H : Heap) (locs : List Loc) (ls : Array Slot), WH z n D cy Y σ H → va_S (Az z) s.heap H locs → lv_has ls 7 [(0, .ref (z + this)), (1, .int a1), (2, .int a2), (3, .int a3), (4, .ref (z + x4)), (5, .int x5)] → W p l e ({ frames := 4, cells := 0, slots := 0, locals := 111 } : Room) s m ([.ref (z + this), .int a1, .int a2, .int a3] : List Value).toArray below meth c H locs 0 0 (MQ below (va_Qv (fun (_ : Unit) => True) (fun _ t => WH z n D cy Y σ1 t.heap) (Az z)) ([.ref (z + this), .int a1, .int a2, .int a3] : List Value).toArray s 0 0 (Az z)) (F0 m 44 ls [])) (k57 : Nat → Int32 → Int32 → Mm → Option (Mm)) (H57 : ∀ (x4 : Nat) (x5 : Int32) (x6 : Int32) (σ : Mm), okk Y n 4 x4 → k57 x4 x5 x6 σ = some σ1 → ∀ (H : Heap) (locs : List Loc) (ls : Array Slot), WH z n D cy Y σ H → va_S (Az z) s.heap H locs → lv_has ls 7 [(0, .ref (z + this)), (1, .int a1), (2, .int a2), (3, .int a3), (4, .ref (z + x4)), (5, .int x5), (6, .int x6)] → W p l e ({ frames := 4, cells := 0, slots := 0, locals := 111 } : Room) s m ([.ref (z + this), .int a1, .int a2, .int a3] : List Value).toArray below meth c H locs 0 0 (MQ below (va_Qv (fun (_ : Unit) => True) (fun _ t => WH z n D cy Y σ1 t.heap) (Az z)) ([.ref (z + this), .int a1, .int a2, .int a3] : List Value).toArray s 0 0 (Az z)) (F0 m 57 ls [])) (x4 : Nat) (x5 : Int32) (x6 : Int32) (σ : Mm), okk Y n 4 x4 → b_X11_gatherGaps_132 Y fu this a1 a2 a3 k44 k57 x4 x5 x6 σ = some σ1 → ∀ (H : Heap) (locs : List Loc) (ls : Array Slot), WH z n D cy Y σ H → va_S (Az z) s.heap H locs → lv_has ls 7 [(0, .ref (z + this)), (1, .int a1), (2, .int a2), (3, .int a3), (4, .ref (z + x4)), (5, .int x5), (6, .int x6)] → W p l e ({ frames := 4, cells := 0, slots := 0, locals := 111 } : Room) s m ([.ref (z + this), .int a1, .int a2, .int a3] : List Value).toArray below meth c H locs 0 0 (MQ below (va_Qv (fun (_ : Unit) => True) (fun _ t => WH z n D cy Y σ1 t.heap) (Az z)) ([.ref (z + this), .int a1, .int a2, .int a3] : List Value).toArray s 0 0 (Az z)) (F0 m 132 ls []) := by
    intro k44 H44 k57 H57 x4 x5 x6 σ h_x4 hf H locs ls hW hS hl
    obtain ⟨x6_10, ex6_10⟩ : ∃ y : Int32, y = x6 + 1 := ⟨_, rfl⟩
    have hf := g_lt ex6_10 hf
    refine lv_iinc (v := x6_10) (lv' := [(6, .int x6_10), (0, .ref (z + this)), (1, .int a1), (2, .int a2), (3, .int a3), (4, .ref (z + x4)), (5, .int x5)]) hx hb dX11_gatherGaps_132 hl (k := 6) rfl (by rw [ex6_10]; rfl) (by decide) rfl (fun ls hl => ?_)
    refine lv_goto (tgt := 57) hx hb dX11_gatherGaps_135 (by decide) ?_
    exact H57 x4 x5 x6_10 σ h_x4 hf _ _ _ hW hS (lv_sub hl [1, 2, 3, 4, 5, 6, 0] rfl)
  have B57 : ∀ (k44 : Nat → Int32 → Mm → Option (Mm)) (H44 : ∀ (x4 : Nat) (x5 : Int32) (σ : Mm), okk Y n 4 x4 → k44 x4 x5 σ = some σ1 → ∀ (H : Heap) (locs : List Loc) (ls : Array Slot), WH z n D cy Y σ H → va_S (Az z) s.heap H locs → lv_has ls 7 [(0, .ref (z + this)), (1, .int a1), (2, .int a2), (3, .int a3), (4, .ref (z + x4)), (5, .int x5)] → W p l e ({ frames := 4, cells := 0, slots := 0, locals := 111 } : Room) s m ([.ref (z + this), .int a1, .int a2, .int a3] : List Value).toArray below meth c H locs 0 0 (MQ below (va_Qv (fun (_ : Unit) => True) (fun _ t => WH z n D cy Y σ1 t.heap) (Az z)) ([.ref (z + this), .int a1, .int a2, .int a3] : List Value).toArray s 0 0 (Az z)) (F0 m 44 ls [])) (nn : Nat) (x4 : Nat) (x5 : Int32) (x6 : Int32) (σ : Mm), okk Y n 4 x4 → b_X11_gatherGaps_57 Y fu this a1 a2 a3 k44 nn x4 x5 x6 σ = some σ1 → ∀ (H : Heap) (locs : List Loc) (ls : Array Slot), WH z n D cy Y σ H → va_S (Az z) s.heap H locs → lv_has ls 7 [(0, .ref (z + this)), (1, .int a1), (2, .int a2), (3, .int a3), (4, .ref (z + x4)), (5, .int x5), (6, .int x6)] → W p l e ({ frames := 4, cells := 0, slots := 0, locals := 111 } : Room) s m ([.ref (z + this), .int a1, .int a2, .int a3] : List Value).toArray below meth c H locs 0 0 (MQ below (va_Qv (fun (_ : Unit) => True) (fun _ t => WH z n D cy Y σ1 t.heap) (Az z)) ([.ref (z + this), .int a1, .int a2, .int a3] : List Value).toArray s 0 0 (Az z)) (F0 m 57 ls []) := by
    intro k44 H44
    intro nn
    induction nn with
    | zero =>
      intro x4 x5 x6 σ h_x4 hf
      have h9 : (none : Option (Mm)) = some σ1 := hf
      cases h9
    | succ nn H57 =>
      intro x4 x5 x6 σ h_x4 hf H locs ls hW hS hl
      have hf : s_X11_gatherGaps_57 Y fu this a1 a2 a3 k44 (b_X11_gatherGaps_57 Y fu this a1 a2 a3 k44 nn) x4 x5 x6 σ = some σ1 := hf
      generalize hkk : b_X11_gatherGaps_57 Y fu this a1 a2 a3 k44 nn = k57 at hf H57
      refine lv_iload hx hb dX11_gatherGaps_57 (lv_at hl 6 rfl) ?_
      refine lv_aload hx hb dX11_gatherGaps_59 (lv_at hl 4 rfl) ?_
      refine q_getiN (own := RX11) (ref := RX7) (C := RX7) (T := TX7) (N := 4) (kc := 4) (ci := 0) (host := "SkyClocks") hx hb hts hin7 hown hK hW h_x4 (by decide) rfl 3 (by decide) hw1 rfl rfl dX11_gatherGaps_61 ?_
      refine lv_icmp_ge (tgt := 138) hx hb dX11_gatherGaps_64 (by decide) (fun c => ?_) (fun c => ?_)
      · have hf := g_pos c hf
        obtain ⟨x5_6, ex5_6⟩ : ∃ y : Int32, y = x5 + 1 := ⟨_, rfl⟩
        have hf := g_lt ex5_6 hf
        refine lv_iinc (v := x5_6) (lv' := [(5, .int x5_6), (0, .ref (z + this)), (1, .int a1), (2, .int a2), (3, .int a3), (4, .ref (z + x4)), (6, .int x6)]) hx hb dX11_gatherGaps_138 hl (k := 5) rfl (by rw [ex5_6]; rfl) (by decide) rfl (fun ls hl => ?_)
        refine lv_goto (tgt := 44) hx hb dX11_gatherGaps_141 (by decide) ?_
        exact H44 x4 x5_6 σ h_x4 hf _ _ _ hW hS (lv_sub hl [1, 2, 3, 4, 5, 0] rfl)
      · have hf := g_neg c hf
        refine lv_aload hx hb dX11_gatherGaps_67 (lv_at hl 4 rfl) ?_
        refine lv_iload hx hb dX11_gatherGaps_69 (lv_at hl 5 rfl) ?_
        refine lv_iconst (v := 2) hx hb dX11_gatherGaps_71 (by decide) ?_
        obtain ⟨r_9, σ_8, hc_7, hf⟩ := g_bnd hf
        refine q_calli (va_runV (As := [.int x5, .int 2]) (rest := []) ⟨hx, hb, hml, hown, hts⟩ (k_X7_value l z n D cy Y h_x4 hc_7) (cwV 2 hts gX11_gatherGaps_X7_value rfl rfl rfl (by decide +kernel) ⟨Nat.le_of_ble_eq_true rfl, Nat.le_of_ble_eq_true rfl⟩) (q_PV (T := TX7) (N := 4) hK hN hW h_x4 (by decide) rfl) rfl rfl hl.1 rfl (lv_room (Nat.le_of_ble_eq_true rfl)) dX11_gatherGaps_72 ⟨Nat.le_refl _, Nat.le_refl _⟩) hS (fun H locs hW hS => ?_)
        refine lv_iload_n hx hb dX11_gatherGaps_75 rfl (lv_at hl 2 rfl) ?_
        refine lv_icmp_ne (tgt := 132) hx hb dX11_gatherGaps_76 (by decide) (fun c => ?_) (fun c => ?_)
        · have hf := g_neg c hf
          exact B132 k44 H44 k57 H57 x4 x5 x6 σ_8 h_x4 hf _ _ _ hW hS (lv_sub hl [0, 1, 2, 3, 4, 5, 6] rfl)
        · have hf := g_pos c hf
          refine lv_aload hx hb dX11_gatherGaps_79 (lv_at hl 4 rfl) ?_
          refine lv_iload hx hb dX11_gatherGaps_81 (lv_at hl 6 rfl) ?_
          refine lv_iconst (v := 2) hx hb dX11_gatherGaps_83 (by decide) ?_
          obtain ⟨r_13, σ_12, hc_11, hf⟩ := g_bnd hf
          refine q_calli (va_runV (As := [.int x6, .int 2]) (rest := []) ⟨hx, hb, hml, hown, hts⟩ (k_X7_value l z n D cy Y h_x4 hc_11) (cwV 2 hts gX11_gatherGaps_X7_value rfl rfl rfl (by decide +kernel) ⟨Nat.le_of_ble_eq_true rfl, Nat.le_of_ble_eq_true rfl⟩) (q_PV (T := TX7) (N := 4) hK hN hW h_x4 (by decide) rfl) rfl rfl hl.1 rfl (lv_room (Nat.le_of_ble_eq_true rfl)) dX11_gatherGaps_84 ⟨Nat.le_refl _, Nat.le_refl _⟩) hS (fun H locs hW hS => ?_)
          refine lv_iload_n hx hb dX11_gatherGaps_87 rfl (lv_at hl 3 rfl) ?_
          refine lv_icmp_ne (tgt := 132) hx hb dX11_gatherGaps_88 (by decide) (fun c => ?_) (fun c => ?_)
          · have hf := g_neg c hf
            exact B132 k44 H44 k57 H57 x4 x5 x6 σ_12 h_x4 hf _ _ _ hW hS (lv_sub hl [0, 1, 2, 3, 4, 5, 6] rfl)
          · have hf := g_pos c hf
            refine lv_aload_n hx hb dX11_gatherGaps_91 rfl (lv_at hl 0 rfl) ?_
            refine q_getp (own := RX11) (ref := RX11) (C := RX11) (T := TX11) (N := 10) (kc := 8) (ci := 0) hx hb hts hin11 hown hK hW h_this (by decide) rfl 8 (by decide) hw2 rfl rfl rfl (v := 552) rfl dX11_gatherGaps_92 (fun hk_14 hq_15 => ?_)
            refine lv_iload hx hb dX11_gatherGaps_95 (lv_at hl 5 rfl) ?_
            obtain ⟨hi_16, hf⟩ := g_in hf
            refine q_iald hx hb hK hW hk_14 (inb_of hq_15 hi_16) dX11_gatherGaps_97 ?_
            refine lv_aload_n hx hb dX11_gatherGaps_98 rfl (lv_at hl 0 rfl) ?_
            refine q_getp (own := RX11) (ref := RX11) (C := RX11) (T := TX11) (N := 10) (kc := 8) (ci := 0) hx hb hts hin11 hown hK hW h_this (by decide) rfl 8 (by decide) hw2 rfl rfl rfl (v := 552) rfl dX11_gatherGaps_99 (fun hk_17 hq_18 => ?_)
            refine lv_iload hx hb dX11_gatherGaps_102 (lv_at hl 6 rfl) ?_
            obtain ⟨hi_19, hf⟩ := g_in hf
            refine q_iald hx hb hK hW hk_17 (inb_of hq_18 hi_19) dX11_gatherGaps_104 ?_
            refine lv_icmp_ne (tgt := 132) hx hb dX11_gatherGaps_105 (by decide) (fun c => ?_) (fun c => ?_)
            · have hf := g_neg c hf
              exact B132 k44 H44 k57 H57 x4 x5 x6 σ_12 h_x4 hf _ _ _ hW hS (lv_sub hl [0, 1, 2, 3, 4, 5, 6] rfl)
            · have hf := g_pos c hf
              refine lv_aload_n hx hb dX11_gatherGaps_108 rfl (lv_at hl 0 rfl) ?_
              refine q_getp (own := RX11) (ref := RX11) (C := RX11) (T := TX11) (N := 10) (kc := 8) (ci := 0) hx hb hts hin11 hown hK hW h_this (by decide) rfl 9 (by decide) hw3 rfl rfl rfl (v := 553) rfl dX11_gatherGaps_109 (fun hk_20 hq_21 => ?_)
              refine lv_aload hx hb dX11_gatherGaps_112 (lv_at hl 4 rfl) ?_
              refine lv_iload hx hb dX11_gatherGaps_114 (lv_at hl 5 rfl) ?_
              refine lv_iconst (v := 0) hx hb dX11_gatherGaps_116 (by decide) ?_
              obtain ⟨r_24, σ_23, hc_22, hf⟩ := g_bnd hf
              refine q_calli (va_runV (As := [.int x5, .int 0]) (rest := [.ref (z + 553)]) ⟨hx, hb, hml, hown, hts⟩ (k_X7_value l z n D cy Y h_x4 hc_22) (cwV 2 hts gX11_gatherGaps_X7_value rfl rfl rfl (by decide +kernel) ⟨Nat.le_of_ble_eq_true rfl, Nat.le_of_ble_eq_true rfl⟩) (q_PV (T := TX7) (N := 4) hK hN hW h_x4 (by decide) rfl) rfl rfl hl.1 rfl (lv_room (Nat.le_of_ble_eq_true rfl)) dX11_gatherGaps_117 ⟨Nat.le_refl _, Nat.le_refl _⟩) hS (fun H locs hW hS => ?_)
              refine lv_aload hx hb dX11_gatherGaps_120 (lv_at hl 4 rfl) ?_
              refine lv_iload hx hb dX11_gatherGaps_122 (lv_at hl 6 rfl) ?_
              refine lv_iconst (v := 0) hx hb dX11_gatherGaps_124 (by decide) ?_
              obtain ⟨r_27, σ_26, hc_25, hf⟩ := g_bnd hf
              refine q_calli (va_runV (As := [.int x6, .int 0]) (rest := [.int r_24, .ref (z + 553)]) ⟨hx, hb, hml, hown, hts⟩ (k_X7_value l z n D cy Y h_x4 hc_25) (cwV 2 hts gX11_gatherGaps_X7_value rfl rfl rfl (by decide +kernel) ⟨Nat.le_of_ble_eq_true rfl, Nat.le_of_ble_eq_true rfl⟩) (q_PV (T := TX7) (N := 4) hK hN hW h_x4 (by decide) rfl) rfl rfl hl.1 rfl (lv_room (Nat.le_of_ble_eq_true rfl)) dX11_gatherGaps_125 ⟨Nat.le_refl _, Nat.le_refl _⟩) hS (fun H locs hW hS => ?_)
              refine lv_isub hx hb dX11_gatherGaps_128 ?_
              obtain ⟨σ_29, hc_28, hf⟩ := g_bn1 hf
              refine q_callv (va_runV (As := [.int (r_24 - r_27)]) (rest := []) ⟨hx, hb, hml, hown, hts⟩ (k_X2_put l z n D cy Y hk_20 hc_28) (cwV 1 hts gX11_gatherGaps_X2_put rfl rfl rfl (by decide +kernel) ⟨Nat.le_of_ble_eq_true rfl, Nat.le_of_ble_eq_true rfl⟩) (q_PV (T := TX2) (N := 2) hK hN hW hk_20 (by decide) rfl) rfl rfl hl.1 rfl (lv_room (Nat.le_of_ble_eq_true rfl)) dX11_gatherGaps_129 ⟨Nat.le_refl _, Nat.le_refl _⟩) hS (fun H locs hW hS => ?_)
              exact B132 k44 H44 k57 H57 x4 x5 x6 σ_29 h_x4 hf _ _ _ hW hS (lv_sub hl [0, 1, 2, 3, 4, 5, 6] rfl)
  have B44 : ∀ (nn : Nat) (x4 : Nat) (x5 : Int32) (σ : Mm), okk Y n 4 x4 → b_X11_gatherGaps_44 Y fu this a1 a2 a3 nn x4 x5 σ = some σ1 → ∀ (H : Heap) (locs : List Loc) (ls : Array Slot), WH z n D cy Y σ H → va_S (Az z) s.heap H locs → lv_has ls 7 [(0, .ref (z + this)), (1, .int a1), (2, .int a2), (3, .int a3), (4, .ref (z + x4)), (5, .int x5)] → W p l e ({ frames := 4, cells := 0, slots := 0, locals := 111 } : Room) s m ([.ref (z + this), .int a1, .int a2, .int a3] : List Value).toArray below meth c H locs 0 0 (MQ below (va_Qv (fun (_ : Unit) => True) (fun _ t => WH z n D cy Y σ1 t.heap) (Az z)) ([.ref (z + this), .int a1, .int a2, .int a3] : List Value).toArray s 0 0 (Az z)) (F0 m 44 ls []) := by
    intro nn
    induction nn with
    | zero =>
      intro x4 x5 σ h_x4 hf
      have h9 : (none : Option (Mm)) = some σ1 := hf
      cases h9
    | succ nn H44 =>
      intro x4 x5 σ h_x4 hf H locs ls hW hS hl
      have hf : s_X11_gatherGaps_44 Y fu this a1 a2 a3 (b_X11_gatherGaps_44 Y fu this a1 a2 a3 nn) x4 x5 σ = some σ1 := hf
      generalize hkk : b_X11_gatherGaps_44 Y fu this a1 a2 a3 nn = k44 at hf H44
      refine lv_iload hx hb dX11_gatherGaps_44 (lv_at hl 5 rfl) ?_
      refine lv_aload hx hb dX11_gatherGaps_46 (lv_at hl 4 rfl) ?_
      refine q_getiN (own := RX11) (ref := RX7) (C := RX7) (T := TX7) (N := 4) (kc := 4) (ci := 0) (host := "SkyClocks") hx hb hts hin7 hown hK hW h_x4 (by decide) rfl 3 (by decide) hw1 rfl rfl dX11_gatherGaps_48 ?_
      refine lv_icmp_ge (tgt := 144) hx hb dX11_gatherGaps_51 (by decide) (fun c => ?_) (fun c => ?_)
      · have hf := g_pos c hf
        exact q_vret hx hb hr hlocks hW hS hf dX11_gatherGaps_144
      · have hf := g_neg c hf
        refine lv_iconst (v := 0) hx hb dX11_gatherGaps_54 (by decide) ?_
        refine lv_istore (lv' := [(6, .int 0), (0, .ref (z + this)), (1, .int a1), (2, .int a2), (3, .int a3), (4, .ref (z + x4)), (5, .int x5)]) hx hb dX11_gatherGaps_55 hl (by decide) rfl (fun ls hl => ?_)
        exact B57 k44 H44 fu x4 x5 0 σ h_x4 hf _ _ _ hW hS (lv_sub hl [1, 2, 3, 4, 5, 6, 0] rfl)
  have B11 : ∀ (nn : Nat) (x4 : Nat) (x5 : Int32) (σ : Mm), okk Y n 4 x4 → b_X11_gatherGaps_11 Y fu this a1 a2 a3 nn x4 x5 σ = some σ1 → ∀ (H : Heap) (locs : List Loc) (ls : Array Slot), WH z n D cy Y σ H → va_S (Az z) s.heap H locs → lv_has ls 7 [(0, .ref (z + this)), (1, .int a1), (2, .int a2), (3, .int a3), (4, .ref (z + x4)), (5, .int x5)] → W p l e ({ frames := 4, cells := 0, slots := 0, locals := 111 } : Room) s m ([.ref (z + this), .int a1, .int a2, .int a3] : List Value).toArray below meth c H locs 0 0 (MQ below (va_Qv (fun (_ : Unit) => True) (fun _ t => WH z n D cy Y σ1 t.heap) (Az z)) ([.ref (z + this), .int a1, .int a2, .int a3] : List Value).toArray s 0 0 (Az z)) (F0 m 11 ls []) := by
    intro nn
    induction nn with
    | zero =>
      intro x4 x5 σ h_x4 hf
      have h9 : (none : Option (Mm)) = some σ1 := hf
      cases h9
    | succ nn H11 =>
      intro x4 x5 σ h_x4 hf H locs ls hW hS hl
      have hf : s_X11_gatherGaps_11 Y fu this a1 a2 a3 (b_X11_gatherGaps_11 Y fu this a1 a2 a3 nn) x4 x5 σ = some σ1 := hf
      generalize hkk : b_X11_gatherGaps_11 Y fu this a1 a2 a3 nn = k11 at hf H11
      refine lv_iload hx hb dX11_gatherGaps_11 (lv_at hl 5 rfl) ?_
      refine lv_aload hx hb dX11_gatherGaps_13 (lv_at hl 4 rfl) ?_
      refine q_getiN (own := RX11) (ref := RX7) (C := RX7) (T := TX7) (N := 4) (kc := 4) (ci := 0) (host := "SkyClocks") hx hb hts hin7 hown hK hW h_x4 (by decide) rfl 3 (by decide) hw1 rfl rfl dX11_gatherGaps_15 ?_
      refine lv_icmp_ge (tgt := 41) hx hb dX11_gatherGaps_18 (by decide) (fun c => ?_) (fun c => ?_)
      · have hf := g_pos c hf
        refine lv_iconst (v := 0) hx hb dX11_gatherGaps_41 (by decide) ?_
        refine lv_istore (lv' := [(5, .int 0), (0, .ref (z + this)), (1, .int a1), (2, .int a2), (3, .int a3), (4, .ref (z + x4))]) hx hb dX11_gatherGaps_42 hl (by decide) rfl (fun ls hl => ?_)
        exact B44 fu x4 0 σ h_x4 hf _ _ _ hW hS (lv_sub hl [1, 2, 3, 4, 5, 0] rfl)
      · have hf := g_neg c hf
        refine lv_aload_n hx hb dX11_gatherGaps_21 rfl (lv_at hl 0 rfl) ?_
        refine q_getp (own := RX11) (ref := RX11) (C := RX11) (T := TX11) (N := 10) (kc := 8) (ci := 0) hx hb hts hin11 hown hK hW h_this (by decide) rfl 8 (by decide) hw2 rfl rfl rfl (v := 552) rfl dX11_gatherGaps_22 (fun hk_30 hq_31 => ?_)
        refine lv_iload hx hb dX11_gatherGaps_25 (lv_at hl 5 rfl) ?_
        refine lv_aload_n hx hb dX11_gatherGaps_27 rfl (lv_at hl 0 rfl) ?_
        refine lv_iload_n hx hb dX11_gatherGaps_28 rfl (lv_at hl 1 rfl) ?_
        refine lv_iload hx hb dX11_gatherGaps_29 (lv_at hl 5 rfl) ?_
        obtain ⟨r_34, σ_33, hc_32, hf⟩ := g_bnd hf
        refine q_calli (va_runV (As := [.int a1, .int x5]) (rest := [.int x5, .ref (z + 552)]) ⟨hx, hb, hml, hown, hts⟩ (k_X11_turnOf l z n D cy Y h_this hc_32) (cwV 2 hts gX11_gatherGaps_X11_turnOf rfl rfl rfl (by decide +kernel) ⟨Nat.le_of_ble_eq_true rfl, Nat.le_of_ble_eq_true rfl⟩) (q_PV (T := TX11) (N := 10) hK hN hW h_this (by decide) rfl) rfl rfl hl.1 rfl (lv_room (Nat.le_of_ble_eq_true rfl)) dX11_gatherGaps_31 ⟨Nat.le_refl _, Nat.le_refl _⟩) hS (fun H locs hW hS => ?_)
        obtain ⟨hi_35, hf⟩ := g_in hf
        refine q_iast hx hb hK hW hS hk_30 (inb_of hq_31 hi_35) dX11_gatherGaps_34 (fun H locs hW hS => ?_)
        obtain ⟨σ_36, eσ_36⟩ : ∃ y : Mm, y = (Mm.si σ_33 552 (ix x5) r_34) := ⟨_, rfl⟩
        rw [← eσ_36] at hW
        have hf := g_lt eσ_36 hf
        obtain ⟨x5_37, ex5_37⟩ : ∃ y : Int32, y = x5 + 1 := ⟨_, rfl⟩
        have hf := g_lt ex5_37 hf
        refine lv_iinc (v := x5_37) (lv' := [(5, .int x5_37), (0, .ref (z + this)), (1, .int a1), (2, .int a2), (3, .int a3), (4, .ref (z + x4))]) hx hb dX11_gatherGaps_35 hl (k := 5) rfl (by rw [ex5_37]; rfl) (by decide) rfl (fun ls hl => ?_)
        refine lv_goto (tgt := 11) hx hb dX11_gatherGaps_38 (by decide) ?_
        exact H11 x4 x5_37 σ_36 h_x4 hf _ _ _ hW hS (lv_sub hl [1, 2, 3, 4, 5, 0] rfl)
  refine lv_aload_n hx hb dX11_gatherGaps_0 rfl (lv_at hl 0 rfl) ?_
  refine q_getp (own := RX11) (ref := RX11) (C := RX11) (T := TX11) (N := 10) (kc := 8) (ci := 0) hx hb hts hin11 hown hK hW h_this (by decide) rfl 1 (by decide) hw0 rfl rfl rfl (v := 7) rfl dX11_gatherGaps_1 (fun hk_1 hq_2 => ?_)
  refine lv_iload_n hx hb dX11_gatherGaps_4 rfl (lv_at hl 1 rfl) ?_
  obtain ⟨hi_3, hf⟩ := g_in hf
  refine q_aalp (kc := 14) (t := 4) hx hb hK hW hk_1 rfl (inb_of hq_2 hi_3) rfl dX11_gatherGaps_5 (fun hk_4 hq_5 => ?_)
  refine lv_astore (lv' := [(4, .ref (z + (555 + 10 * ix a1))), (0, .ref (z + this)), (1, .int a1), (2, .int a2), (3, .int a3)]) hx hb dX11_gatherGaps_6 hl (by decide) rfl (fun ls hl => ?_)
  refine lv_iconst (v := 0) hx hb dX11_gatherGaps_8 (by decide) ?_
  refine lv_istore (lv' := [(5, .int 0), (4, .ref (z + (555 + 10 * ix a1))), (0, .ref (z + this)), (1, .int a1), (2, .int a2), (3, .int a3)]) hx hb dX11_gatherGaps_9 hl (by decide) rfl (fun ls hl => ?_)
  exact B11 fu (555 + 10 * ix a1) 0 σ hk_4 hf _ _ _ hW hS (lv_sub hl [2, 3, 4, 5, 1, 0] rfl)
set_option maxRecDepth 100000 in
set_option maxHeartbeats 40000000 in
theorem k_X11_middleGap (l : Launch) (z n : Nat) (D : va_G) (cy : Nat → ClassId) (Y : Yt) {fu : Nat} {this : Nat} {a1 : Int32} {a2 : Int32} {σ : Mm} {r : Int32} {σ1 : Mm} (h_this : okk Y n 8 this) (hf : f_X11_middleGap Y fu this a1 a2 σ = some (r, σ1)) : Ki l yX11_middleGap wsX11_middleGap ({ frames := 5, cells := 0, slots := 0, locals := 137 } : Room) z n D cy Y [.ref (z + this), .int a1, .int a2] σ r σ1 := by
  refine Met.ofW (cc := cX11_middleGap) (maxL := 4) (ret := (some .int)) (by decide +kernel) rfl ?_
  intro p e s m args below meth c s₁ B hml hv
  obtain ⟨rfl, hW, hK, hN⟩ := hv
  have hx := B.exec
  have hb := B.bytes
  have hr := B.returns
  have hts := atoms_spec (ws := wsX11_middleGap) B.pre
  have hown : s.vm.findClass RX11 = some m.cls := findClass_of_methodNamed B.named
  have hlocks := B.notSynchronized
  have hS : va_S (Az z) s.heap s.heap [] := va_S.rf
  have hin11 : ∀ w ∈ wsX110, w ∈ wsX11_middleGap := fun w h => List.mem_cons_of_mem _ (List.mem_append_left _ (List.mem_append_left _ (List.mem_append_left _ (List.mem_append_left _ (List.mem_append_left _ (List.mem_append_right _ h))))))
  have hin2 : ∀ w ∈ wsX20, w ∈ wsX11_middleGap := fun w h => List.mem_cons_of_mem _ (List.mem_append_left _ (List.mem_append_left _ (List.mem_append_left _ (List.mem_append_left _ (List.mem_append_right _ h)))))
  have hw0 := hts (.fieldLink RX11 62 "SkyClocks" "gaps" "LSkyClocks$Gaps;") (List.mem_of_getElem? (i := 1) rfl)
  have hw1 : va_Nw (.fieldLinkNest RX11 288 "SkyClocks$Gaps" "many" "I" "SkyClocks") s := hN _ (List.mem_of_getElem? (i := 10) rfl)
  have hw2 := hts (.constant RX11 246 (-10000002)) (List.mem_of_getElem? (i := 3) rfl)
  have hw3 := hts (.fieldLink RX11 24 "SkyClocks" "clocks" "[LSkyClocks$Turns;") (List.mem_of_getElem? (i := 2) rfl)
  have hl := lv_entry ([.ref (z + this), .int a1, .int a2]) (n := 4) (Nat.le_of_ble_eq_true rfl)
  rw [lg_entry_eq]
  generalize (lg_sl ([.ref (z + this), .int a1, .int a2]) ++ List.replicate (4 - (lg_sl ([.ref (z + this), .int a1, .int a2])).length) Slot.unset).toArray = ls at hl ⊢
  have hl : lv_has ls 4 [(0, .ref (z + this)), (1, .int a1), (2, .int a2)] := hl
  have B33 : ∀ (k9 : Int32 → Mm → Option (Int32 × Mm)) (H9 : ∀ (x3 : Int32) (σ : Mm), k9 x3 σ = some (r, σ1) → ∀ (H : Heap) (locs : List Loc) (ls : Array Slot), WH z n D cy Y σ H → va_S (Az z) s.heap H locs → lv_has ls 4 [(0, .ref (z + this)), (1, .int a1), (2, .int a2), (3, .int x3)] → W p l e ({ frames := 5, cells := 0, slots := 0, locals := 137 } : Room) s m ([.ref (z + this), .int a1, .int a2] : List Value).toArray below meth c H locs 0 0 (MQ below (va_Qi (fun (x : Int32) (_ : Unit) => x = r) (fun _ t => WH z n D cy Y σ1 t.heap) (Az z)) ([.ref (z + this), .int a1, .int a2] : List Value).toArray s 0 0 (Az z)) (F0 m 9 ls [])) (x3 : Int32) (σ : Mm), b_X11_middleGap_33 Y fu this a1 a2 k9 x3 σ = some (r, σ1) → ∀ (H : Heap) (locs : List Loc) (ls : Array Slot), WH z n D cy Y σ H → va_S (Az z) s.heap H locs → lv_has ls 4 [(0, .ref (z + this)), (1, .int a1), (2, .int a2), (3, .int x3)] → W p l e ({ frames := 5, cells := 0, slots := 0, locals := 137 } : Room) s m ([.ref (z + this), .int a1, .int a2] : List Value).toArray below meth c H locs 0 0 (MQ below (va_Qi (fun (x : Int32) (_ : Unit) => x = r) (fun _ t => WH z n D cy Y σ1 t.heap) (Az z)) ([.ref (z + this), .int a1, .int a2] : List Value).toArray s 0 0 (Az z)) (F0 m 33 ls []) := by
    intro k9 H9 x3 σ  hf H locs ls hW hS hl
    obtain ⟨x3_20, ex3_20⟩ : ∃ y : Int32, y = x3 + 1 := ⟨_, rfl⟩
    have hf := g_lt ex3_20 hf
    refine lv_iinc (v := x3_20) (lv' := [(3, .int x3_20), (0, .ref (z + this)), (1, .int a1), (2, .int a2)]) hx hb dX11_middleGap_33 hl (k := 3) rfl (by rw [ex3_20]; rfl) (by decide) rfl (fun ls hl => ?_)
    refine lv_goto (tgt := 9) hx hb dX11_middleGap_36 (by decide) ?_
    exact H9 x3_20 σ hf _ _ _ hW hS (lv_sub hl [1, 2, 3, 0] rfl)
  have B9 : ∀ (nn : Nat) (x3 : Int32) (σ : Mm), b_X11_middleGap_9 Y fu this a1 a2 nn x3 σ = some (r, σ1) → ∀ (H : Heap) (locs : List Loc) (ls : Array Slot), WH z n D cy Y σ H → va_S (Az z) s.heap H locs → lv_has ls 4 [(0, .ref (z + this)), (1, .int a1), (2, .int a2), (3, .int x3)] → W p l e ({ frames := 5, cells := 0, slots := 0, locals := 137 } : Room) s m ([.ref (z + this), .int a1, .int a2] : List Value).toArray below meth c H locs 0 0 (MQ below (va_Qi (fun (x : Int32) (_ : Unit) => x = r) (fun _ t => WH z n D cy Y σ1 t.heap) (Az z)) ([.ref (z + this), .int a1, .int a2] : List Value).toArray s 0 0 (Az z)) (F0 m 9 ls []) := by
    intro nn
    induction nn with
    | zero =>
      intro x3 σ  hf
      have h9 : (none : Option (Int32 × Mm)) = some (r, σ1) := hf
      cases h9
    | succ nn H9 =>
      intro x3 σ  hf H locs ls hW hS hl
      have hf : s_X11_middleGap_9 Y fu this a1 a2 (b_X11_middleGap_9 Y fu this a1 a2 nn) x3 σ = some (r, σ1) := hf
      generalize hkk : b_X11_middleGap_9 Y fu this a1 a2 nn = k9 at hf H9
      refine lv_iload_n hx hb dX11_middleGap_9 rfl (lv_at hl 3 rfl) ?_
      refine lv_iconst (v := 4) hx hb dX11_middleGap_10 (by decide) ?_
      refine lv_icmp_ge (tgt := 39) hx hb dX11_middleGap_11 (by decide) (fun c => ?_) (fun c => ?_)
      · have hf := g_pos c hf
        refine lv_aload_n hx hb dX11_middleGap_39 rfl (lv_at hl 0 rfl) ?_
        refine q_getp (own := RX11) (ref := RX11) (C := RX11) (T := TX11) (N := 10) (kc := 8) (ci := 0) hx hb hts hin11 hown hK hW h_this (by decide) rfl 9 (by decide) hw0 rfl rfl rfl (v := 553) rfl dX11_middleGap_40 (fun hk_5 hq_6 => ?_)
        refine q_getiN (own := RX11) (ref := RX2) (C := RX2) (T := TX2) (N := 2) (kc := 1) (ci := 0) (host := "SkyClocks") hx hb hts hin2 hown hK hW hk_5 (by decide) rfl 1 (by decide) hw1 rfl rfl dX11_middleGap_43 ?_
        refine lv_if_ne (tgt := 54) hx hb dX11_middleGap_46 (by decide) (fun c => ?_) (fun c => ?_)
        · have hf := g_neg c hf
          refine lv_aload_n hx hb dX11_middleGap_54 rfl (lv_at hl 0 rfl) ?_
          refine q_getp (own := RX11) (ref := RX11) (C := RX11) (T := TX11) (N := 10) (kc := 8) (ci := 0) hx hb hts hin11 hown hK hW h_this (by decide) rfl 9 (by decide) hw0 rfl rfl rfl (v := 553) rfl dX11_middleGap_55 (fun hk_7 hq_8 => ?_)
          obtain ⟨r_11, σ_10, hc_9, hf⟩ := g_bnd hf
          refine q_calli (va_runV (As := []) (rest := []) ⟨hx, hb, hml, hown, hts⟩ (k_X2_middle l z n D cy Y hk_7 hc_9) (cwV 0 hts gX11_middleGap_X2_middle rfl rfl rfl (by decide +kernel) ⟨Nat.le_of_ble_eq_true rfl, Nat.le_of_ble_eq_true rfl⟩) (q_PV (T := TX2) (N := 2) hK hN hW hk_7 (by decide) rfl) rfl rfl hl.1 rfl (lv_room (Nat.le_of_ble_eq_true rfl)) dX11_middleGap_58 ⟨Nat.le_refl _, Nat.le_refl _⟩) hS (fun H locs hW hS => ?_)
          exact q_iret hx hb hr hlocks hW hS hf dX11_middleGap_61
        · have hf := g_pos c hf
          refine lv_ldc hx hb hown hw2 dX11_middleGap_49 ?_
          refine lv_goto (tgt := 61) hx hb dX11_middleGap_51 (by decide) ?_
          exact q_iret hx hb hr hlocks hW hS hf dX11_middleGap_61
      · have hf := g_neg c hf
        refine lv_aload_n hx hb dX11_middleGap_14 rfl (lv_at hl 0 rfl) ?_
        refine q_getp (own := RX11) (ref := RX11) (C := RX11) (T := TX11) (N := 10) (kc := 8) (ci := 0) hx hb hts hin11 hown hK hW h_this (by decide) rfl 2 (by decide) hw3 rfl rfl rfl (v := 8) rfl dX11_middleGap_15 (fun hk_12 hq_13 => ?_)
        refine lv_iload_n hx hb dX11_middleGap_18 rfl (lv_at hl 3 rfl) ?_
        obtain ⟨hi_14, hf⟩ := g_in hf
        refine q_aalp (kc := 15) (t := 7) hx hb hK hW hk_12 rfl (inb_of hq_13 hi_14) rfl dX11_middleGap_19 (fun hk_15 hq_16 => ?_)
        obtain ⟨r_19, σ_18, hc_17, hf⟩ := g_bnd hf
        refine q_calli (va_runV (As := []) (rest := []) ⟨hx, hb, hml, hown, hts⟩ (k_X10_stands l z n D cy Y hk_15 hc_17) (cwV 0 hts gX11_middleGap_X10_stands rfl rfl rfl (by decide +kernel) ⟨Nat.le_of_ble_eq_true rfl, Nat.le_of_ble_eq_true rfl⟩) (q_PV (T := TX10) (N := 3) hK hN hW hk_15 (by decide) rfl) rfl rfl hl.1 rfl (lv_room (Nat.le_of_ble_eq_true rfl)) dX11_middleGap_20 ⟨Nat.le_refl _, Nat.le_refl _⟩) hS (fun H locs hW hS => ?_)
        refine lv_if_eq (tgt := 33) hx hb dX11_middleGap_23 (by decide) (fun c => ?_) (fun c => ?_)
        · have hf := g_pos c hf
          exact B33 k9 H9 x3 σ_18 hf _ _ _ hW hS (lv_sub hl [0, 1, 2, 3] rfl)
        · have hf := g_neg c hf
          refine lv_aload_n hx hb dX11_middleGap_26 rfl (lv_at hl 0 rfl) ?_
          refine lv_iload_n hx hb dX11_middleGap_27 rfl (lv_at hl 3 rfl) ?_
          refine lv_iload_n hx hb dX11_middleGap_28 rfl (lv_at hl 1 rfl) ?_
          refine lv_iload_n hx hb dX11_middleGap_29 rfl (lv_at hl 2 rfl) ?_
          obtain ⟨σ_22, hc_21, hf⟩ := g_bn1 hf
          refine q_callv (va_runV (As := [.int x3, .int a1, .int a2]) (rest := []) ⟨hx, hb, hml, hown, hts⟩ (k_X11_gatherGaps l z n D cy Y h_this hc_21) (cwV 3 hts gX11_middleGap_X11_gatherGaps rfl rfl rfl (by decide +kernel) ⟨Nat.le_of_ble_eq_true rfl, Nat.le_of_ble_eq_true rfl⟩) (q_PV (T := TX11) (N := 10) hK hN hW h_this (by decide) rfl) rfl rfl hl.1 rfl (lv_room (Nat.le_of_ble_eq_true rfl)) dX11_middleGap_30 ⟨Nat.le_refl _, Nat.le_refl _⟩) hS (fun H locs hW hS => ?_)
          exact B33 k9 H9 x3 σ_22 hf _ _ _ hW hS (lv_sub hl [0, 1, 2, 3] rfl)
  refine lv_aload_n hx hb dX11_middleGap_0 rfl (lv_at hl 0 rfl) ?_
  refine q_getp (own := RX11) (ref := RX11) (C := RX11) (T := TX11) (N := 10) (kc := 8) (ci := 0) hx hb hts hin11 hown hK hW h_this (by decide) rfl 9 (by decide) hw0 rfl rfl rfl (v := 553) rfl dX11_middleGap_1 (fun hk_1 hq_2 => ?_)
  obtain ⟨σ_4, hc_3, hf⟩ := g_bn1 hf
  refine q_callv (va_runV (As := []) (rest := []) ⟨hx, hb, hml, hown, hts⟩ (k_X2_empty l z n D cy Y hk_1 hc_3) (cwV 0 hts gX11_middleGap_X2_empty rfl rfl rfl (by decide +kernel) ⟨Nat.le_of_ble_eq_true rfl, Nat.le_of_ble_eq_true rfl⟩) (q_PV (T := TX2) (N := 2) hK hN hW hk_1 (by decide) rfl) rfl rfl hl.1 rfl (lv_room (Nat.le_of_ble_eq_true rfl)) dX11_middleGap_4 ⟨Nat.le_refl _, Nat.le_refl _⟩) hS (fun H locs hW hS => ?_)
  refine lv_iconst (v := 0) hx hb dX11_middleGap_7 (by decide) ?_
  refine lv_istore_n (lv' := [(3, .int 0), (0, .ref (z + this)), (1, .int a1), (2, .int a2)]) hx hb dX11_middleGap_8 rfl hl (by decide) rfl (fun ls hl => ?_)
  exact B9 fu 0 σ_4 hf _ _ _ hW hS (lv_sub hl [1, 2, 3, 0] rfl)
set_option maxRecDepth 100000 in
set_option maxHeartbeats 40000000 in
theorem k_X11_between (l : Launch) (z n : Nat) (D : va_G) (cy : Nat → ClassId) (Y : Yt) {fu : Nat} {this : Nat} {a1 : Int32} {a2 : Int32} {σ : Mm} {r : Int32} {σ1 : Mm} (h_this : okk Y n 8 this) (hf : f_X11_between Y fu this a1 a2 σ = some (r, σ1)) : Ki l yX11_between wsX11_between ({ frames := 6, cells := 0, slots := 0, locals := 160 } : Room) z n D cy Y [.ref (z + this), .int a1, .int a2] σ r σ1 := by
  refine Met.ofW (cc := cX11_between) (maxL := 3) (ret := (some .int)) (by decide +kernel) rfl ?_
  intro p e s m args below meth c s₁ B hml hv
  obtain ⟨rfl, hW, hK, hN⟩ := hv
  have hx := B.exec
  have hb := B.bytes
  have hr := B.returns
  have hts := atoms_spec (ws := wsX11_between) B.pre
  have hown : s.vm.findClass RX11 = some m.cls := findClass_of_methodNamed B.named
  have hlocks := B.notSynchronized
  have hS : va_S (Az z) s.heap s.heap [] := va_S.rf
  have hw0 := hts (.constant RX11 242 (-10000000)) (List.mem_of_getElem? (i := 1) rfl)
  have hl := lv_entry ([.ref (z + this), .int a1, .int a2]) (n := 3) (Nat.le_of_ble_eq_true rfl)
  rw [lg_entry_eq]
  generalize (lg_sl ([.ref (z + this), .int a1, .int a2]) ++ List.replicate (3 - (lg_sl ([.ref (z + this), .int a1, .int a2])).length) Slot.unset).toArray = ls at hl ⊢
  have hl : lv_has ls 3 [(0, .ref (z + this)), (1, .int a1), (2, .int a2)] := hl
  refine lv_iload_n hx hb dX11_between_0 rfl (lv_at hl 1 rfl) ?_
  obtain ⟨r_3, σ_2, hc_1, hf⟩ := g_bnd hf
  refine q_calli (va_runS (As := [.int a1]) (rest := []) ⟨hx, hb, hml, hown, hts⟩ (k_X11_isInstrument l z n D cy Y hc_1) (va_cwS 1 hts gX11_between_X11_isInstrument rfl rfl rfl (by decide +kernel) ⟨Nat.le_of_ble_eq_true rfl, Nat.le_of_ble_eq_true rfl⟩) (q_PS hK hN hW) rfl rfl hl.1 rfl (lv_room (Nat.le_of_ble_eq_true rfl)) dX11_between_1 ⟨Nat.le_refl _, Nat.le_refl _⟩) hS (fun H locs hW hS => ?_)
  refine lv_if_eq (tgt := 19) hx hb dX11_between_4 (by decide) (fun c => ?_) (fun c => ?_)
  · have hf := g_pos c hf
    refine lv_ldc hx hb hown hw0 dX11_between_19 ?_
    exact q_iret hx hb hr hlocks hW hS hf dX11_between_21
  · have hf := g_neg c hf
    refine lv_iload_n hx hb dX11_between_7 rfl (lv_at hl 2 rfl) ?_
    obtain ⟨r_6, σ_5, hc_4, hf⟩ := g_bnd hf
    refine q_calli (va_runS (As := [.int a2]) (rest := []) ⟨hx, hb, hml, hown, hts⟩ (k_X11_isInstrument l z n D cy Y hc_4) (va_cwS 1 hts gX11_between_X11_isInstrument rfl rfl rfl (by decide +kernel) ⟨Nat.le_of_ble_eq_true rfl, Nat.le_of_ble_eq_true rfl⟩) (q_PS hK hN hW) rfl rfl hl.1 rfl (lv_room (Nat.le_of_ble_eq_true rfl)) dX11_between_8 ⟨Nat.le_refl _, Nat.le_refl _⟩) hS (fun H locs hW hS => ?_)
    refine lv_if_eq (tgt := 19) hx hb dX11_between_11 (by decide) (fun c => ?_) (fun c => ?_)
    · have hf := g_pos c hf
      refine lv_ldc hx hb hown hw0 dX11_between_19 ?_
      exact q_iret hx hb hr hlocks hW hS hf dX11_between_21
    · have hf := g_neg c hf
      refine lv_iload_n hx hb dX11_between_14 rfl (lv_at hl 1 rfl) ?_
      refine lv_iload_n hx hb dX11_between_15 rfl (lv_at hl 2 rfl) ?_
      refine lv_icmp_ne (tgt := 22) hx hb dX11_between_16 (by decide) (fun c => ?_) (fun c => ?_)
      · have hf := g_neg c hf
        refine lv_aload_n hx hb dX11_between_22 rfl (lv_at hl 0 rfl) ?_
        refine lv_iload_n hx hb dX11_between_23 rfl (lv_at hl 1 rfl) ?_
        refine lv_iload_n hx hb dX11_between_24 rfl (lv_at hl 2 rfl) ?_
        obtain ⟨r_9, σ_8, hc_7, hf⟩ := g_bnd hf
        refine q_calli (va_runV (As := [.int a1, .int a2]) (rest := []) ⟨hx, hb, hml, hown, hts⟩ (k_X11_middleGap l z n D cy Y h_this hc_7) (cwV 2 hts gX11_between_X11_middleGap rfl rfl rfl (by decide +kernel) ⟨Nat.le_of_ble_eq_true rfl, Nat.le_of_ble_eq_true rfl⟩) (q_PV (T := TX11) (N := 10) hK hN hW h_this (by decide) rfl) rfl rfl hl.1 rfl (lv_room (Nat.le_of_ble_eq_true rfl)) dX11_between_25 ⟨Nat.le_refl _, Nat.le_refl _⟩) hS (fun H locs hW hS => ?_)
        exact q_iret hx hb hr hlocks hW hS hf dX11_between_28
      · have hf := g_pos c hf
        refine lv_ldc hx hb hown hw0 dX11_between_19 ?_
        exact q_iret hx hb hr hlocks hW hS hf dX11_between_21
set_option maxRecDepth 100000 in
set_option maxHeartbeats 40000000 in
theorem k_X11_clear (l : Launch) (z n : Nat) (D : va_G) (cy : Nat → ClassId) (Y : Yt) {this : Nat} {a1 : Int32} {σ : Mm} {r : Int32} {σ1 : Mm} (h_this : okk Y n 8 this) (hf : f_X11_clear Y this a1 σ = some (r, σ1)) : Ki l yX11_clear wsX11_clear ({ frames := 2, cells := 0, slots := 0, locals := 42 } : Room) z n D cy Y [.ref (z + this), .int a1] σ r σ1 := by
  refine Met.ofW (cc := cX11_clear) (maxL := 2) (ret := (some .int)) (by decide +kernel) rfl ?_
  intro p e s m args below meth c s₁ B hml hv
  obtain ⟨rfl, hW, hK, hN⟩ := hv
  have hx := B.exec
  have hb := B.bytes
  have hr := B.returns
  have hts := atoms_spec (ws := wsX11_clear) B.pre
  have hown : s.vm.findClass RX11 = some m.cls := findClass_of_methodNamed B.named
  have hlocks := B.notSynchronized
  have hS : va_S (Az z) s.heap s.heap [] := va_S.rf
  have hin11 : ∀ w ∈ wsX110, w ∈ wsX11_clear := fun w h => List.mem_cons_of_mem _ (List.mem_append_left _ (List.mem_append_right _ h))
  have hw0 := hts (.fieldLink RX11 18 "SkyClocks" "stars" "[LSkyClocks$Star;") (List.mem_of_getElem? (i := 1) rfl)
  have hl := lv_entry ([.ref (z + this), .int a1]) (n := 2) (Nat.le_of_ble_eq_true rfl)
  rw [lg_entry_eq]
  generalize (lg_sl ([.ref (z + this), .int a1]) ++ List.replicate (2 - (lg_sl ([.ref (z + this), .int a1])).length) Slot.unset).toArray = ls at hl ⊢
  have hl : lv_has ls 2 [(0, .ref (z + this)), (1, .int a1)] := hl
  refine lv_iload_n hx hb dX11_clear_0 rfl (lv_at hl 1 rfl) ?_
  obtain ⟨r_3, σ_2, hc_1, hf⟩ := g_bnd hf
  refine q_calli (va_runS (As := [.int a1]) (rest := []) ⟨hx, hb, hml, hown, hts⟩ (k_X11_isStar l z n D cy Y hc_1) (va_cwS 1 hts gX11_clear_X11_isStar rfl rfl rfl (by decide +kernel) ⟨Nat.le_of_ble_eq_true rfl, Nat.le_of_ble_eq_true rfl⟩) (q_PS hK hN hW) rfl rfl hl.1 rfl (lv_room (Nat.le_of_ble_eq_true rfl)) dX11_clear_1 ⟨Nat.le_refl _, Nat.le_refl _⟩) hS (fun H locs hW hS => ?_)
  refine lv_if_eq (tgt := 19) hx hb dX11_clear_4 (by decide) (fun c => ?_) (fun c => ?_)
  · have hf := g_pos c hf
    refine lv_iconst (v := (-1)) hx hb dX11_clear_19 (by decide) ?_
    exact q_iret hx hb hr hlocks hW hS hf dX11_clear_20
  · have hf := g_neg c hf
    refine lv_aload_n hx hb dX11_clear_7 rfl (lv_at hl 0 rfl) ?_
    refine q_getp (own := RX11) (ref := RX11) (C := RX11) (T := TX11) (N := 10) (kc := 8) (ci := 0) hx hb hts hin11 hown hK hW h_this (by decide) rfl 1 (by decide) hw0 rfl rfl rfl (v := 7) rfl dX11_clear_8 (fun hk_4 hq_5 => ?_)
    refine lv_iload_n hx hb dX11_clear_11 rfl (lv_at hl 1 rfl) ?_
    obtain ⟨hi_6, hf⟩ := g_in hf
    refine q_aalp (kc := 14) (t := 4) hx hb hK hW hk_4 rfl (inb_of hq_5 hi_6) rfl dX11_clear_12 (fun hk_7 hq_8 => ?_)
    obtain ⟨r_11, σ_10, hc_9, hf⟩ := g_bnd hf
    refine q_calli (va_runV (As := []) (rest := []) ⟨hx, hb, hml, hown, hts⟩ (k_X7_dropAll l z n D cy Y hk_7 hc_9) (cwV 0 hts gX11_clear_X7_dropAll rfl rfl rfl (by decide +kernel) ⟨Nat.le_of_ble_eq_true rfl, Nat.le_of_ble_eq_true rfl⟩) (q_PV (T := TX7) (N := 4) hK hN hW hk_7 (by decide) rfl) rfl rfl hl.1 rfl (lv_room (Nat.le_of_ble_eq_true rfl)) dX11_clear_13 ⟨Nat.le_refl _, Nat.le_refl _⟩) hS (fun H locs hW hS => ?_)
    refine lv_goto (tgt := 20) hx hb dX11_clear_16 (by decide) ?_
    exact q_iret hx hb hr hlocks hW hS hf dX11_clear_20
set_option maxRecDepth 100000 in
set_option maxHeartbeats 40000000 in
theorem k_X11_comes (l : Launch) (z n : Nat) (D : va_G) (cy : Nat → ClassId) (Y : Yt) {fu : Nat} {this : Nat} {a1 : Int32} {a2 : Int32} {σ : Mm} {r : Int64} {σ1 : Mm} (h_this : okk Y n 8 this) (hf : f_X11_comes Y fu this a1 a2 σ = some (r, σ1)) : Kl l yX11_comes wsX11_comes ({ frames := 2, cells := 0, slots := 0, locals := 47 } : Room) z n D cy Y [.ref (z + this), .int a1, .int a2] σ r σ1 := by
  refine Met.ofW (cc := cX11_comes) (maxL := 3) (ret := (some .long)) (by decide +kernel) rfl ?_
  intro p e s m args below meth c s₁ B hml hv
  obtain ⟨rfl, hW, hK, hN⟩ := hv
  have hx := B.exec
  have hb := B.bytes
  have hr := B.returns
  have hts := atoms_spec (ws := wsX11_comes) B.pre
  have hown : s.vm.findClass RX11 = some m.cls := findClass_of_methodNamed B.named
  have hlocks := B.notSynchronized
  have hS : va_S (Az z) s.heap s.heap [] := va_S.rf
  have hin11 : ∀ w ∈ wsX110, w ∈ wsX11_comes := fun w h => List.mem_cons_of_mem _ (List.mem_append_left _ (List.mem_append_left _ (List.mem_append_right _ h)))
  have hin10 : ∀ w ∈ wsX100, w ∈ wsX11_comes := fun w h => List.mem_cons_of_mem _ (List.mem_append_left _ (List.mem_append_right _ h))
  have hw0 := hts (.constantLong RX11 147 (-1)) (List.mem_of_getElem? (i := 1) rfl)
  have hw1 := hts (.fieldLink RX11 24 "SkyClocks" "clocks" "[LSkyClocks$Turns;") (List.mem_of_getElem? (i := 2) rfl)
  have hw2 : va_Nw (.fieldLinkNest RX11 149 "SkyClocks$Turns" "turns" "I" "SkyClocks") s := hN _ (List.mem_of_getElem? (i := 12) rfl)
  have hw3 := hts (.constantLong RX11 156 (-2)) (List.mem_of_getElem? (i := 3) rfl)
  have hl := lv_entry ([.ref (z + this), .int a1, .int a2]) (n := 3) (Nat.le_of_ble_eq_true rfl)
  rw [lg_entry_eq]
  generalize (lg_sl ([.ref (z + this), .int a1, .int a2]) ++ List.replicate (3 - (lg_sl ([.ref (z + this), .int a1, .int a2])).length) Slot.unset).toArray = ls at hl ⊢
  have hl : lv_has ls 3 [(0, .ref (z + this)), (1, .int a1), (2, .int a2)] := hl
  refine lv_iload_n hx hb dX11_comes_0 rfl (lv_at hl 1 rfl) ?_
  obtain ⟨r_3, σ_2, hc_1, hf⟩ := g_bnd hf
  refine q_calli (va_runS (As := [.int a1]) (rest := []) ⟨hx, hb, hml, hown, hts⟩ (k_X11_isStar l z n D cy Y hc_1) (va_cwS 1 hts gX11_comes_X11_isStar rfl rfl rfl (by decide +kernel) ⟨Nat.le_of_ble_eq_true rfl, Nat.le_of_ble_eq_true rfl⟩) (q_PS hK hN hW) rfl rfl hl.1 rfl (lv_room (Nat.le_of_ble_eq_true rfl)) dX11_comes_1 ⟨Nat.le_refl _, Nat.le_refl _⟩) hS (fun H locs hW hS => ?_)
  refine lv_if_eq (tgt := 18) hx hb dX11_comes_4 (by decide) (fun c => ?_) (fun c => ?_)
  · have hf := g_pos c hf
    refine lv_ldc2 hx hb hown hw0 dX11_comes_18 ?_
    exact q_lret hx hb hr hlocks hW hS hf dX11_comes_21
  · have hf := g_neg c hf
    refine lv_iload_n hx hb dX11_comes_7 rfl (lv_at hl 2 rfl) ?_
    refine lv_iconst (v := 0) hx hb dX11_comes_8 (by decide) ?_
    refine lv_sipush (v := 10000) hx hb dX11_comes_9 (by decide) ?_
    obtain ⟨r_6, σ_5, hc_4, hf⟩ := g_bnd hf
    refine q_calli (va_runS (As := [.int a2, .int 0, .int 10000]) (rest := []) ⟨hx, hb, hml, hown, hts⟩ (k_X11_within l z n D cy Y hc_4) (va_cwS 3 hts gX11_comes_X11_within rfl rfl rfl (by decide +kernel) ⟨Nat.le_of_ble_eq_true rfl, Nat.le_of_ble_eq_true rfl⟩) (q_PS hK hN hW) rfl rfl hl.1 rfl (lv_room (Nat.le_of_ble_eq_true rfl)) dX11_comes_12 ⟨Nat.le_refl _, Nat.le_refl _⟩) hS (fun H locs hW hS => ?_)
    refine lv_if_ne (tgt := 22) hx hb dX11_comes_15 (by decide) (fun c => ?_) (fun c => ?_)
    · have hf := g_neg c hf
      refine lv_iload_n hx hb dX11_comes_22 rfl (lv_at hl 2 rfl) ?_
      refine lv_aload_n hx hb dX11_comes_23 rfl (lv_at hl 0 rfl) ?_
      refine q_getp (own := RX11) (ref := RX11) (C := RX11) (T := TX11) (N := 10) (kc := 8) (ci := 0) hx hb hts hin11 hown hK hW h_this (by decide) rfl 2 (by decide) hw1 rfl rfl rfl (v := 8) rfl dX11_comes_24 (fun hk_7 hq_8 => ?_)
      refine lv_iload_n hx hb dX11_comes_27 rfl (lv_at hl 1 rfl) ?_
      obtain ⟨hi_9, hf⟩ := g_in hf
      refine q_aalp (kc := 15) (t := 7) hx hb hK hW hk_7 rfl (inb_of hq_8 hi_9) rfl dX11_comes_28 (fun hk_10 hq_11 => ?_)
      refine q_getiN (own := RX11) (ref := RX10) (C := RX10) (T := TX10) (N := 3) (kc := 7) (ci := 0) (host := "SkyClocks") hx hb hts hin10 hown hK hW hk_10 (by decide) rfl 2 (by decide) hw2 rfl rfl dX11_comes_29 ?_
      refine lv_icmp_ge (tgt := 48) hx hb dX11_comes_32 (by decide) (fun c => ?_) (fun c => ?_)
      · have hf := g_pos c hf
        refine lv_ldc2 hx hb hown hw3 dX11_comes_48 ?_
        exact q_lret hx hb hr hlocks hW hS hf dX11_comes_51
      · have hf := g_neg c hf
        refine lv_aload_n hx hb dX11_comes_35 rfl (lv_at hl 0 rfl) ?_
        refine q_getp (own := RX11) (ref := RX11) (C := RX11) (T := TX11) (N := 10) (kc := 8) (ci := 0) hx hb hts hin11 hown hK hW h_this (by decide) rfl 2 (by decide) hw1 rfl rfl rfl (v := 8) rfl dX11_comes_36 (fun hk_12 hq_13 => ?_)
        refine lv_iload_n hx hb dX11_comes_39 rfl (lv_at hl 1 rfl) ?_
        obtain ⟨hi_14, hf⟩ := g_in hf
        refine q_aalp (kc := 15) (t := 7) hx hb hK hW hk_12 rfl (inb_of hq_13 hi_14) rfl dX11_comes_40 (fun hk_15 hq_16 => ?_)
        refine lv_iload_n hx hb dX11_comes_41 rfl (lv_at hl 2 rfl) ?_
        obtain ⟨r_19, σ_18, hc_17, hf⟩ := g_bnd hf
        refine q_calll (va_runV (As := [.int a2]) (rest := []) ⟨hx, hb, hml, hown, hts⟩ (k_X10_comesAt l z n D cy Y hk_15 hc_17) (cwV 1 hts gX11_comes_X10_comesAt rfl rfl rfl (by decide +kernel) ⟨Nat.le_of_ble_eq_true rfl, Nat.le_of_ble_eq_true rfl⟩) (q_PV (T := TX10) (N := 3) hK hN hW hk_15 (by decide) rfl) rfl rfl hl.1 rfl (lv_room (Nat.le_of_ble_eq_true rfl)) dX11_comes_42 ⟨Nat.le_refl _, Nat.le_refl _⟩) hS (fun H locs hW hS => ?_)
        refine lv_goto (tgt := 51) hx hb dX11_comes_45 (by decide) ?_
        exact q_lret hx hb hr hlocks hW hS hf dX11_comes_51
    · have hf := g_pos c hf
      refine lv_ldc2 hx hb hown hw0 dX11_comes_18 ?_
      exact q_lret hx hb hr hlocks hW hS hf dX11_comes_21
set_option maxRecDepth 100000 in
set_option maxHeartbeats 40000000 in
theorem k_X11_countingArrivals (l : Launch) (z n : Nat) (D : va_G) (cy : Nat → ClassId) (Y : Yt) {fu : Nat} {this : Nat} {σ : Mm} {r : Int32} {σ1 : Mm} (h_this : okk Y n 8 this) (hf : f_X11_countingArrivals Y fu this σ = some (r, σ1)) : Ki l yX11_countingArrivals wsX11_countingArrivals ({ frames := 0, cells := 0, slots := 0, locals := 0 } : Room) z n D cy Y [.ref (z + this)] σ r σ1 := by
  refine Met.ofW (cc := cX11_countingArrivals) (maxL := 3) (ret := (some .int)) (by decide +kernel) rfl ?_
  intro p e s m args below meth c s₁ B hml hv
  obtain ⟨rfl, hW, hK, hN⟩ := hv
  have hx := B.exec
  have hb := B.bytes
  have hr := B.returns
  have hts := atoms_spec (ws := wsX11_countingArrivals) B.pre
  have hown : s.vm.findClass RX11 = some m.cls := findClass_of_methodNamed B.named
  have hlocks := B.notSynchronized
  have hS : va_S (Az z) s.heap s.heap [] := va_S.rf
  have hin11 : ∀ w ∈ wsX110, w ∈ wsX11_countingArrivals := fun w h => List.mem_cons_of_mem _ (List.mem_append_left _ (List.mem_append_right _ h))
  have hin7 : ∀ w ∈ wsX70, w ∈ wsX11_countingArrivals := fun w h => List.mem_cons_of_mem _ (List.mem_append_right _ h)
  have hw0 := hts (.fieldLink RX11 18 "SkyClocks" "stars" "[LSkyClocks$Star;") (List.mem_of_getElem? (i := 1) rfl)
  have hw1 : va_Nw (.fieldLinkNest RX11 114 "SkyClocks$Star" "seen" "I" "SkyClocks") s := hN _ (List.mem_of_getElem? (i := 11) rfl)
  have hl := lv_entry ([.ref (z + this)]) (n := 3) (Nat.le_of_ble_eq_true rfl)
  rw [lg_entry_eq]
  generalize (lg_sl ([.ref (z + this)]) ++ List.replicate (3 - (lg_sl ([.ref (z + this)])).length) Slot.unset).toArray = ls at hl ⊢
  have hl : lv_has ls 3 [(0, .ref (z + this))] := hl
  have B4 : ∀ (nn : Nat) (x1 : Int32) (x2 : Int32) (σ : Mm), b_X11_countingArrivals_4 Y fu this nn x1 x2 σ = some (r, σ1) → ∀ (H : Heap) (locs : List Loc) (ls : Array Slot), WH z n D cy Y σ H → va_S (Az z) s.heap H locs → lv_has ls 3 [(0, .ref (z + this)), (1, .int x1), (2, .int x2)] → W p l e ({ frames := 0, cells := 0, slots := 0, locals := 0 } : Room) s m ([.ref (z + this)] : List Value).toArray below meth c H locs 0 0 (MQ below (va_Qi (fun (x : Int32) (_ : Unit) => x = r) (fun _ t => WH z n D cy Y σ1 t.heap) (Az z)) ([.ref (z + this)] : List Value).toArray s 0 0 (Az z)) (F0 m 4 ls []) := by
    intro nn
    induction nn with
    | zero =>
      intro x1 x2 σ  hf
      have h9 : (none : Option (Int32 × Mm)) = some (r, σ1) := hf
      cases h9
    | succ nn H4 =>
      intro x1 x2 σ  hf H locs ls hW hS hl
      have hf : s_X11_countingArrivals_4 Y fu this (b_X11_countingArrivals_4 Y fu this nn) x1 x2 σ = some (r, σ1) := hf
      generalize hkk : b_X11_countingArrivals_4 Y fu this nn = k4 at hf H4
      refine lv_iload_n hx hb dX11_countingArrivals_4 rfl (lv_at hl 2 rfl) ?_
      refine lv_iconst (v := 4) hx hb dX11_countingArrivals_5 (by decide) ?_
      refine lv_icmp_ge (tgt := 27) hx hb dX11_countingArrivals_6 (by decide) (fun c => ?_) (fun c => ?_)
      · have hf := g_pos c hf
        refine lv_iload_n hx hb dX11_countingArrivals_27 rfl (lv_at hl 1 rfl) ?_
        exact q_iret hx hb hr hlocks hW hS hf dX11_countingArrivals_28
      · have hf := g_neg c hf
        refine lv_iload_n hx hb dX11_countingArrivals_9 rfl (lv_at hl 1 rfl) ?_
        refine lv_aload_n hx hb dX11_countingArrivals_10 rfl (lv_at hl 0 rfl) ?_
        refine q_getp (own := RX11) (ref := RX11) (C := RX11) (T := TX11) (N := 10) (kc := 8) (ci := 0) hx hb hts hin11 hown hK hW h_this (by decide) rfl 1 (by decide) hw0 rfl rfl rfl (v := 7) rfl dX11_countingArrivals_11 (fun hk_1 hq_2 => ?_)
        refine lv_iload_n hx hb dX11_countingArrivals_14 rfl (lv_at hl 2 rfl) ?_
        obtain ⟨hi_3, hf⟩ := g_in hf
        refine q_aalp (kc := 14) (t := 4) hx hb hK hW hk_1 rfl (inb_of hq_2 hi_3) rfl dX11_countingArrivals_15 (fun hk_4 hq_5 => ?_)
        refine q_getiN (own := RX11) (ref := RX7) (C := RX7) (T := TX7) (N := 4) (kc := 4) (ci := 0) (host := "SkyClocks") hx hb hts hin7 hown hK hW hk_4 (by decide) rfl 3 (by decide) hw1 rfl rfl dX11_countingArrivals_16 ?_
        refine lv_iadd hx hb dX11_countingArrivals_19 ?_
        refine lv_topi (fun x1_6 ex1_6 => ?_)
        have hf := g_lt ex1_6 hf
        refine lv_istore_n (lv' := [(1, .int x1_6), (0, .ref (z + this)), (2, .int x2)]) hx hb dX11_countingArrivals_20 rfl hl (by decide) rfl (fun ls hl => ?_)
        obtain ⟨x2_7, ex2_7⟩ : ∃ y : Int32, y = x2 + 1 := ⟨_, rfl⟩
        have hf := g_lt ex2_7 hf
        refine lv_iinc (v := x2_7) (lv' := [(2, .int x2_7), (1, .int x1_6), (0, .ref (z + this))]) hx hb dX11_countingArrivals_21 hl (k := 2) rfl (by rw [ex2_7]; rfl) (by decide) rfl (fun ls hl => ?_)
        refine lv_goto (tgt := 4) hx hb dX11_countingArrivals_24 (by decide) ?_
        exact H4 x1_6 x2_7 σ hf _ _ _ hW hS (lv_sub hl [2, 1, 0] rfl)
  refine lv_iconst (v := 0) hx hb dX11_countingArrivals_0 (by decide) ?_
  refine lv_istore_n (lv' := [(1, .int 0), (0, .ref (z + this))]) hx hb dX11_countingArrivals_1 rfl hl (by decide) rfl (fun ls hl => ?_)
  refine lv_iconst (v := 0) hx hb dX11_countingArrivals_2 (by decide) ?_
  refine lv_istore_n (lv' := [(2, .int 0), (1, .int 0), (0, .ref (z + this))]) hx hb dX11_countingArrivals_3 rfl hl (by decide) rfl (fun ls hl => ?_)
  exact B4 fu 0 0 σ hf _ _ _ hW hS (lv_sub hl [2, 1, 0] rfl)
set_option maxRecDepth 100000 in
set_option maxHeartbeats 40000000 in
theorem k_X11_standingModels (l : Launch) (z n : Nat) (D : va_G) (cy : Nat → ClassId) (Y : Yt) {fu : Nat} {this : Nat} {σ : Mm} {r : Int32} {σ1 : Mm} (h_this : okk Y n 8 this) (hf : f_X11_standingModels Y fu this σ = some (r, σ1)) : Ki l yX11_standingModels wsX11_standingModels ({ frames := 1, cells := 0, slots := 0, locals := 20 } : Room) z n D cy Y [.ref (z + this)] σ r σ1 := by
  refine Met.ofW (cc := cX11_standingModels) (maxL := 3) (ret := (some .int)) (by decide +kernel) rfl ?_
  intro p e s m args below meth c s₁ B hml hv
  obtain ⟨rfl, hW, hK, hN⟩ := hv
  have hx := B.exec
  have hb := B.bytes
  have hr := B.returns
  have hts := atoms_spec (ws := wsX11_standingModels) B.pre
  have hown : s.vm.findClass RX11 = some m.cls := findClass_of_methodNamed B.named
  have hlocks := B.notSynchronized
  have hS : va_S (Az z) s.heap s.heap [] := va_S.rf
  have hin11 : ∀ w ∈ wsX110, w ∈ wsX11_standingModels := fun w h => List.mem_cons_of_mem _ (List.mem_append_left _ (List.mem_append_right _ h))
  have hw0 := hts (.fieldLink RX11 24 "SkyClocks" "clocks" "[LSkyClocks$Turns;") (List.mem_of_getElem? (i := 1) rfl)
  have hl := lv_entry ([.ref (z + this)]) (n := 3) (Nat.le_of_ble_eq_true rfl)
  rw [lg_entry_eq]
  generalize (lg_sl ([.ref (z + this)]) ++ List.replicate (3 - (lg_sl ([.ref (z + this)])).length) Slot.unset).toArray = ls at hl ⊢
  have hl : lv_has ls 3 [(0, .ref (z + this))] := hl
  have B24 : ∀ (k4 : Int32 → Int32 → Mm → Option (Int32 × Mm)) (H4 : ∀ (x1 : Int32) (x2 : Int32) (σ : Mm), k4 x1 x2 σ = some (r, σ1) → ∀ (H : Heap) (locs : List Loc) (ls : Array Slot), WH z n D cy Y σ H → va_S (Az z) s.heap H locs → lv_has ls 3 [(0, .ref (z + this)), (1, .int x1), (2, .int x2)] → W p l e ({ frames := 1, cells := 0, slots := 0, locals := 20 } : Room) s m ([.ref (z + this)] : List Value).toArray below meth c H locs 0 0 (MQ below (va_Qi (fun (x : Int32) (_ : Unit) => x = r) (fun _ t => WH z n D cy Y σ1 t.heap) (Az z)) ([.ref (z + this)] : List Value).toArray s 0 0 (Az z)) (F0 m 4 ls [])) (x1 : Int32) (x2 : Int32) (σ : Mm), b_X11_standingModels_24 Y fu this k4 x1 x2 σ = some (r, σ1) → ∀ (H : Heap) (locs : List Loc) (ls : Array Slot), WH z n D cy Y σ H → va_S (Az z) s.heap H locs → lv_has ls 3 [(0, .ref (z + this)), (1, .int x1), (2, .int x2)] → W p l e ({ frames := 1, cells := 0, slots := 0, locals := 20 } : Room) s m ([.ref (z + this)] : List Value).toArray below meth c H locs 0 0 (MQ below (va_Qi (fun (x : Int32) (_ : Unit) => x = r) (fun _ t => WH z n D cy Y σ1 t.heap) (Az z)) ([.ref (z + this)] : List Value).toArray s 0 0 (Az z)) (F0 m 24 ls []) := by
    intro k4 H4 x1 x2 σ  hf H locs ls hW hS hl
    obtain ⟨x2_9, ex2_9⟩ : ∃ y : Int32, y = x2 + 1 := ⟨_, rfl⟩
    have hf := g_lt ex2_9 hf
    refine lv_iinc (v := x2_9) (lv' := [(2, .int x2_9), (0, .ref (z + this)), (1, .int x1)]) hx hb dX11_standingModels_24 hl (k := 2) rfl (by rw [ex2_9]; rfl) (by decide) rfl (fun ls hl => ?_)
    refine lv_goto (tgt := 4) hx hb dX11_standingModels_27 (by decide) ?_
    exact H4 x1 x2_9 σ hf _ _ _ hW hS (lv_sub hl [1, 2, 0] rfl)
  have B4 : ∀ (nn : Nat) (x1 : Int32) (x2 : Int32) (σ : Mm), b_X11_standingModels_4 Y fu this nn x1 x2 σ = some (r, σ1) → ∀ (H : Heap) (locs : List Loc) (ls : Array Slot), WH z n D cy Y σ H → va_S (Az z) s.heap H locs → lv_has ls 3 [(0, .ref (z + this)), (1, .int x1), (2, .int x2)] → W p l e ({ frames := 1, cells := 0, slots := 0, locals := 20 } : Room) s m ([.ref (z + this)] : List Value).toArray below meth c H locs 0 0 (MQ below (va_Qi (fun (x : Int32) (_ : Unit) => x = r) (fun _ t => WH z n D cy Y σ1 t.heap) (Az z)) ([.ref (z + this)] : List Value).toArray s 0 0 (Az z)) (F0 m 4 ls []) := by
    intro nn
    induction nn with
    | zero =>
      intro x1 x2 σ  hf
      have h9 : (none : Option (Int32 × Mm)) = some (r, σ1) := hf
      cases h9
    | succ nn H4 =>
      intro x1 x2 σ  hf H locs ls hW hS hl
      have hf : s_X11_standingModels_4 Y fu this (b_X11_standingModels_4 Y fu this nn) x1 x2 σ = some (r, σ1) := hf
      generalize hkk : b_X11_standingModels_4 Y fu this nn = k4 at hf H4
      refine lv_iload_n hx hb dX11_standingModels_4 rfl (lv_at hl 2 rfl) ?_
      refine lv_iconst (v := 4) hx hb dX11_standingModels_5 (by decide) ?_
      refine lv_icmp_ge (tgt := 30) hx hb dX11_standingModels_6 (by decide) (fun c => ?_) (fun c => ?_)
      · have hf := g_pos c hf
        refine lv_iload_n hx hb dX11_standingModels_30 rfl (lv_at hl 1 rfl) ?_
        exact q_iret hx hb hr hlocks hW hS hf dX11_standingModels_31
      · have hf := g_neg c hf
        refine lv_aload_n hx hb dX11_standingModels_9 rfl (lv_at hl 0 rfl) ?_
        refine q_getp (own := RX11) (ref := RX11) (C := RX11) (T := TX11) (N := 10) (kc := 8) (ci := 0) hx hb hts hin11 hown hK hW h_this (by decide) rfl 2 (by decide) hw0 rfl rfl rfl (v := 8) rfl dX11_standingModels_10 (fun hk_1 hq_2 => ?_)
        refine lv_iload_n hx hb dX11_standingModels_13 rfl (lv_at hl 2 rfl) ?_
        obtain ⟨hi_3, hf⟩ := g_in hf
        refine q_aalp (kc := 15) (t := 7) hx hb hK hW hk_1 rfl (inb_of hq_2 hi_3) rfl dX11_standingModels_14 (fun hk_4 hq_5 => ?_)
        obtain ⟨r_8, σ_7, hc_6, hf⟩ := g_bnd hf
        refine q_calli (va_runV (As := []) (rest := []) ⟨hx, hb, hml, hown, hts⟩ (k_X10_stands l z n D cy Y hk_4 hc_6) (cwV 0 hts gX11_standingModels_X10_stands rfl rfl rfl (by decide +kernel) ⟨Nat.le_of_ble_eq_true rfl, Nat.le_of_ble_eq_true rfl⟩) (q_PV (T := TX10) (N := 3) hK hN hW hk_4 (by decide) rfl) rfl rfl hl.1 rfl (lv_room (Nat.le_of_ble_eq_true rfl)) dX11_standingModels_15 ⟨Nat.le_refl _, Nat.le_refl _⟩) hS (fun H locs hW hS => ?_)
        refine lv_if_eq (tgt := 24) hx hb dX11_standingModels_18 (by decide) (fun c => ?_) (fun c => ?_)
        · have hf := g_pos c hf
          exact B24 k4 H4 x1 x2 σ_7 hf _ _ _ hW hS (lv_sub hl [0, 1, 2] rfl)
        · have hf := g_neg c hf
          obtain ⟨x1_10, ex1_10⟩ : ∃ y : Int32, y = x1 + 1 := ⟨_, rfl⟩
          have hf := g_lt ex1_10 hf
          refine lv_iinc (v := x1_10) (lv' := [(1, .int x1_10), (0, .ref (z + this)), (2, .int x2)]) hx hb dX11_standingModels_21 hl (k := 1) rfl (by rw [ex1_10]; rfl) (by decide) rfl (fun ls hl => ?_)
          exact B24 k4 H4 x1_10 x2 σ_7 hf _ _ _ hW hS (lv_sub hl [1, 0, 2] rfl)
  refine lv_iconst (v := 0) hx hb dX11_standingModels_0 (by decide) ?_
  refine lv_istore_n (lv' := [(1, .int 0), (0, .ref (z + this))]) hx hb dX11_standingModels_1 rfl hl (by decide) rfl (fun ls hl => ?_)
  refine lv_iconst (v := 0) hx hb dX11_standingModels_2 (by decide) ?_
  refine lv_istore_n (lv' := [(2, .int 0), (1, .int 0), (0, .ref (z + this))]) hx hb dX11_standingModels_3 rfl hl (by decide) rfl (fun ls hl => ?_)
  exact B4 fu 0 0 σ hf _ _ _ hW hS (lv_sub hl [2, 1, 0] rfl)
set_option maxRecDepth 100000 in
set_option maxHeartbeats 40000000 in
theorem k_X11_count (l : Launch) (z n : Nat) (D : va_G) (cy : Nat → ClassId) (Y : Yt) {fu : Nat} {this : Nat} {a1 : Int32} {σ : Mm} {r : Int32} {σ1 : Mm} (h_this : okk Y n 8 this) (hf : f_X11_count Y fu this a1 σ = some (r, σ1)) : Ki l yX11_count wsX11_count ({ frames := 2, cells := 0, slots := 0, locals := 42 } : Room) z n D cy Y [.ref (z + this), .int a1] σ r σ1 := by
  refine Met.ofW (cc := cX11_count) (maxL := 2) (ret := (some .int)) (by decide +kernel) rfl ?_
  intro p e s m args below meth c s₁ B hml hv
  obtain ⟨rfl, hW, hK, hN⟩ := hv
  have hx := B.exec
  have hb := B.bytes
  have hr := B.returns
  have hts := atoms_spec (ws := wsX11_count) B.pre
  have hown : s.vm.findClass RX11 = some m.cls := findClass_of_methodNamed B.named
  have hlocks := B.notSynchronized
  have hS : va_S (Az z) s.heap s.heap [] := va_S.rf
  have hin11 : ∀ w ∈ wsX110, w ∈ wsX11_count := fun w h => List.mem_cons_of_mem _ (List.mem_append_left _ (List.mem_append_left _ (List.mem_append_left _ (List.mem_append_left _ (List.mem_append_right _ h)))))
  have hin9 : ∀ w ∈ wsX90, w ∈ wsX11_count := fun w h => List.mem_cons_of_mem _ (List.mem_append_left _ (List.mem_append_left _ (List.mem_append_left _ (List.mem_append_right _ h))))
  have hin0 : ∀ w ∈ wsX00, w ∈ wsX11_count := fun w h => List.mem_cons_of_mem _ (List.mem_append_left _ (List.mem_append_left _ (List.mem_append_right _ h)))
  have hw0 := hts (.fieldLink RX11 31 "SkyClocks" "text" "LSkyClocks$Text;") (List.mem_of_getElem? (i := 1) rfl)
  have hw1 : va_Nw (.fieldLinkNest RX11 262 "SkyClocks$Text" "length" "I" "SkyClocks") s := hN _ (List.mem_of_getElem? (i := 4) rfl)
  have hw2 := hts (.fieldLink RX11 45 "SkyClocks" "carried" "LSkyClocks$Carried;") (List.mem_of_getElem? (i := 2) rfl)
  have hw3 : va_Nw (.fieldLinkNest RX11 188 "SkyClocks$Carried" "found" "I" "SkyClocks") s := hN _ (List.mem_of_getElem? (i := 9) rfl)
  have hl := lv_entry ([.ref (z + this), .int a1]) (n := 2) (Nat.le_of_ble_eq_true rfl)
  rw [lg_entry_eq]
  generalize (lg_sl ([.ref (z + this), .int a1]) ++ List.replicate (2 - (lg_sl ([.ref (z + this), .int a1])).length) Slot.unset).toArray = ls at hl ⊢
  have hl : lv_has ls 2 [(0, .ref (z + this)), (1, .int a1)] := hl
  refine lv_iload_n hx hb dX11_count_0 rfl (lv_at hl 1 rfl) ?_
  by_cases c0 : a1 = 0
  · have hf := g_pos c0 hf
    refine q_tcase (k := 0) (off := 31) (tgt := 32) hx hb dX11_count_1 c0 (by decide) (by decide) rfl (by decide) ?_
    refine lv_aload_n hx hb dX11_count_32 rfl (lv_at hl 0 rfl) ?_
    obtain ⟨r_3, σ_2, hc_1, hf⟩ := g_bnd hf
    refine q_calli (va_runV (As := []) (rest := []) ⟨hx, hb, hml, hown, hts⟩ (k_X11_countingArrivals l z n D cy Y h_this hc_1) (cwV 0 hts gX11_count_X11_countingArrivals rfl rfl rfl (by decide +kernel) ⟨Nat.le_of_ble_eq_true rfl, Nat.le_of_ble_eq_true rfl⟩) (q_PV (T := TX11) (N := 10) hK hN hW h_this (by decide) rfl) rfl rfl hl.1 rfl (lv_room (Nat.le_of_ble_eq_true rfl)) dX11_count_33 ⟨Nat.le_refl _, Nat.le_refl _⟩) hS (fun H locs hW hS => ?_)
    exact q_iret hx hb hr hlocks hW hS hf dX11_count_36
  · have hf := g_neg c0 hf
    by_cases c1 : a1 = 1
    · have hf := g_pos c1 hf
      refine q_tcase (k := 1) (off := 36) (tgt := 37) hx hb dX11_count_1 c1 (by decide) (by decide) rfl (by decide) ?_
      refine lv_aload_n hx hb dX11_count_37 rfl (lv_at hl 0 rfl) ?_
      obtain ⟨r_6, σ_5, hc_4, hf⟩ := g_bnd hf
      refine q_calli (va_runV (As := []) (rest := []) ⟨hx, hb, hml, hown, hts⟩ (k_X11_standingModels l z n D cy Y h_this hc_4) (cwV 0 hts gX11_count_X11_standingModels rfl rfl rfl (by decide +kernel) ⟨Nat.le_of_ble_eq_true rfl, Nat.le_of_ble_eq_true rfl⟩) (q_PV (T := TX11) (N := 10) hK hN hW h_this (by decide) rfl) rfl rfl hl.1 rfl (lv_room (Nat.le_of_ble_eq_true rfl)) dX11_count_38 ⟨Nat.le_refl _, Nat.le_refl _⟩) hS (fun H locs hW hS => ?_)
      exact q_iret hx hb hr hlocks hW hS hf dX11_count_41
    · have hf := g_neg c1 hf
      by_cases c2 : a1 = 2
      · have hf := g_pos c2 hf
        refine q_tcase (k := 2) (off := 41) (tgt := 42) hx hb dX11_count_1 c2 (by decide) (by decide) rfl (by decide) ?_
        refine lv_aload_n hx hb dX11_count_42 rfl (lv_at hl 0 rfl) ?_
        refine q_getp (own := RX11) (ref := RX11) (C := RX11) (T := TX11) (N := 10) (kc := 8) (ci := 0) hx hb hts hin11 hown hK hW h_this (by decide) rfl 3 (by decide) hw0 rfl rfl rfl (v := 9) rfl dX11_count_43 (fun hk_7 hq_8 => ?_)
        refine q_getiN (own := RX11) (ref := RX9) (C := RX9) (T := TX9) (N := 4) (kc := 6) (ci := 0) (host := "SkyClocks") hx hb hts hin9 hown hK hW hk_7 (by decide) rfl 1 (by decide) hw1 rfl rfl dX11_count_46 ?_
        exact q_iret hx hb hr hlocks hW hS hf dX11_count_49
      · have hf := g_neg c2 hf
        by_cases c3 : a1 = 3
        · have hf := g_pos c3 hf
          refine q_tcase (k := 3) (off := 49) (tgt := 50) hx hb dX11_count_1 c3 (by decide) (by decide) rfl (by decide) ?_
          refine lv_aload_n hx hb dX11_count_50 rfl (lv_at hl 0 rfl) ?_
          refine q_getp (own := RX11) (ref := RX11) (C := RX11) (T := TX11) (N := 10) (kc := 8) (ci := 0) hx hb hts hin11 hown hK hW h_this (by decide) rfl 5 (by decide) hw2 rfl rfl rfl (v := 17) rfl dX11_count_51 (fun hk_9 hq_10 => ?_)
          refine q_getiN (own := RX11) (ref := RX0) (C := RX0) (T := TX0) (N := 13) (kc := 0) (ci := 0) (host := "SkyClocks") hx hb hts hin0 hown hK hW hk_9 (by decide) rfl 3 (by decide) hw3 rfl rfl dX11_count_54 ?_
          exact q_iret hx hb hr hlocks hW hS hf dX11_count_57
        · have hf := g_neg c3 hf
          refine lv_tableOut (tgt := 58) hx hb dX11_count_1 (by have t0 := lv_neT (k := 0) c0 (a := 0) rfl; have t1 := lv_neT (k := 1) c1 (a := 1) rfl; have t2 := lv_neT (k := 2) c2 (a := 2) rfl; have t3 := lv_neT (k := 3) c3 (a := 3) rfl; omega) (by decide) ?_
          refine lv_iconst (v := (-1)) hx hb dX11_count_58 (by decide) ?_
          exact q_iret hx hb hr hlocks hW hS hf dX11_count_59
set_option maxRecDepth 100000 in
set_option maxHeartbeats 40000000 in
theorem k_X11_residuesOf (l : Launch) (z n : Nat) (D : va_G) (cy : Nat → ClassId) (Y : Yt) {fu : Nat} {this : Nat} {a1 : Int32} {a2 : Nat} {σ : Mm} {r : Int32} {σ1 : Mm} (h_this : okk Y n 8 this) (h_a2 : okk Y n 10 a2) (hf : f_X11_residuesOf Y fu this a1 a2 σ = some (r, σ1)) : Ki l yX11_residuesOf wsX11_residuesOf ({ frames := 5, cells := 0, slots := 0, locals := 135 } : Room) z n D cy Y [.ref (z + this), .int a1, .ref (z + a2)] σ r σ1 := by
  refine Met.ofW (cc := cX11_residuesOf) (maxL := 5) (ret := (some .int)) (by decide +kernel) rfl ?_
  intro p e s m args below meth c s₁ B hml hv
  obtain ⟨rfl, hW, hK, hN⟩ := hv
  have hx := B.exec
  have hb := B.bytes
  have hr := B.returns
  have hts := atoms_spec (ws := wsX11_residuesOf) B.pre
  have hown : s.vm.findClass RX11 = some m.cls := findClass_of_methodNamed B.named
  have hlocks := B.notSynchronized
  have hS : va_S (Az z) s.heap s.heap [] := va_S.rf
  have hin11 : ∀ w ∈ wsX110, w ∈ wsX11_residuesOf := fun w h => List.mem_cons_of_mem _ (List.mem_append_left _ (List.mem_append_left _ (List.mem_append_left _ (List.mem_append_left _ (List.mem_append_right _ h)))))
  have hin7 : ∀ w ∈ wsX70, w ∈ wsX11_residuesOf := fun w h => List.mem_cons_of_mem _ (List.mem_append_left _ (List.mem_append_left _ (List.mem_append_left _ (List.mem_append_right _ h))))
  have hin8 : ∀ w ∈ wsX80, w ∈ wsX11_residuesOf := fun w h => List.mem_cons_of_mem _ (List.mem_append_left _ (List.mem_append_left _ (List.mem_append_right _ h)))
  have hw0 := hts (.fieldLink RX11 24 "SkyClocks" "clocks" "[LSkyClocks$Turns;") (List.mem_of_getElem? (i := 1) rfl)
  have hw1 := hts (.fieldLink RX11 18 "SkyClocks" "stars" "[LSkyClocks$Star;") (List.mem_of_getElem? (i := 2) rfl)
  have hw2 : va_Nw (.fieldLinkNest RX11 114 "SkyClocks$Star" "seen" "I" "SkyClocks") s := hN _ (List.mem_of_getElem? (i := 11) rfl)
  have hw3 := hts (.fieldLink RX11 10 "SkyClocks" "tables" "LSkyClocks$Tables;") (List.mem_of_getElem? (i := 3) rfl)
  have hw4 : va_Nw (.fieldLinkNest RX11 105 "SkyClocks$Tables" "version" "I" "SkyClocks") s := hN _ (List.mem_of_getElem? (i := 2) rfl)
  have hl := lv_entry ([.ref (z + this), .int a1, .ref (z + a2)]) (n := 5) (Nat.le_of_ble_eq_true rfl)
  rw [lg_entry_eq]
  generalize (lg_sl ([.ref (z + this), .int a1, .ref (z + a2)]) ++ List.replicate (5 - (lg_sl ([.ref (z + this), .int a1, .ref (z + a2)])).length) Slot.unset).toArray = ls at hl ⊢
  have hl : lv_has ls 5 [(0, .ref (z + this)), (1, .int a1), (2, .ref (z + a2))] := hl
  have B27 : ∀ (nn : Nat) (x3 : Int32) (x4 : Int32) (σ : Mm), b_X11_residuesOf_27 Y fu this a1 a2 nn x3 x4 σ = some (r, σ1) → ∀ (H : Heap) (locs : List Loc) (ls : Array Slot), WH z n D cy Y σ H → va_S (Az z) s.heap H locs → lv_has ls 5 [(0, .ref (z + this)), (1, .int a1), (2, .ref (z + a2)), (3, .int x3), (4, .int x4)] → W p l e ({ frames := 5, cells := 0, slots := 0, locals := 135 } : Room) s m ([.ref (z + this), .int a1, .ref (z + a2)] : List Value).toArray below meth c H locs 0 0 (MQ below (va_Qi (fun (x : Int32) (_ : Unit) => x = r) (fun _ t => WH z n D cy Y σ1 t.heap) (Az z)) ([.ref (z + this), .int a1, .ref (z + a2)] : List Value).toArray s 0 0 (Az z)) (F0 m 27 ls []) := by
    intro nn
    induction nn with
    | zero =>
      intro x3 x4 σ  hf
      have h9 : (none : Option (Int32 × Mm)) = some (r, σ1) := hf
      cases h9
    | succ nn H27 =>
      intro x3 x4 σ  hf H locs ls hW hS hl
      have hf : s_X11_residuesOf_27 Y fu this a1 a2 (b_X11_residuesOf_27 Y fu this a1 a2 nn) x3 x4 σ = some (r, σ1) := hf
      generalize hkk : b_X11_residuesOf_27 Y fu this a1 a2 nn = k27 at hf H27
      refine lv_iload hx hb dX11_residuesOf_27 (lv_at hl 4 rfl) ?_
      refine lv_iload_n hx hb dX11_residuesOf_29 rfl (lv_at hl 3 rfl) ?_
      refine lv_icmp_ge (tgt := 57) hx hb dX11_residuesOf_30 (by decide) (fun c => ?_) (fun c => ?_)
      · have hf := g_pos c hf
        refine lv_iload_n hx hb dX11_residuesOf_57 rfl (lv_at hl 3 rfl) ?_
        exact q_iret hx hb hr hlocks hW hS hf dX11_residuesOf_58
      · have hf := g_neg c hf
        refine lv_aload_n hx hb dX11_residuesOf_33 rfl (lv_at hl 2 rfl) ?_
        refine lv_iload hx hb dX11_residuesOf_34 (lv_at hl 4 rfl) ?_
        refine lv_aload_n hx hb dX11_residuesOf_36 rfl (lv_at hl 0 rfl) ?_
        refine lv_iload_n hx hb dX11_residuesOf_37 rfl (lv_at hl 1 rfl) ?_
        refine lv_iload hx hb dX11_residuesOf_38 (lv_at hl 4 rfl) ?_
        refine lv_aload_n hx hb dX11_residuesOf_40 rfl (lv_at hl 0 rfl) ?_
        refine q_getp (own := RX11) (ref := RX11) (C := RX11) (T := TX11) (N := 10) (kc := 8) (ci := 0) hx hb hts hin11 hown hK hW h_this (by decide) rfl 0 (by decide) hw3 rfl rfl rfl (v := 2) rfl dX11_residuesOf_41 (fun hk_15 hq_16 => ?_)
        refine q_getiN (own := RX11) (ref := RX8) (C := RX8) (T := TX8) (N := 4) (kc := 5) (ci := 0) (host := "SkyClocks") hx hb hts hin8 hown hK hW hk_15 (by decide) rfl 2 (by decide) hw4 rfl rfl dX11_residuesOf_44 ?_
        obtain ⟨r_19, σ_18, hc_17, hf⟩ := g_bnd hf
        refine q_calli (va_runV (As := [.int a1, .int x4, .int (Mm.gi σ 2 2)]) (rest := [.int x4, .ref (z + a2)]) ⟨hx, hb, hml, hown, hts⟩ (k_X11_residueBy l z n D cy Y h_this hc_17) (cwV 3 hts gX11_residuesOf_X11_residueBy rfl rfl rfl (by decide +kernel) ⟨Nat.le_of_ble_eq_true rfl, Nat.le_of_ble_eq_true rfl⟩) (q_PV (T := TX11) (N := 10) hK hN hW h_this (by decide) rfl) rfl rfl hl.1 rfl (lv_room (Nat.le_of_ble_eq_true rfl)) dX11_residuesOf_47 ⟨Nat.le_refl _, Nat.le_refl _⟩) hS (fun H locs hW hS => ?_)
        obtain ⟨hi_20, hf⟩ := g_in hf
        refine q_iast hx hb hK hW hS h_a2 hi_20 dX11_residuesOf_50 (fun H locs hW hS => ?_)
        obtain ⟨σ_21, eσ_21⟩ : ∃ y : Mm, y = (Mm.si σ_18 a2 (ix x4) r_19) := ⟨_, rfl⟩
        rw [← eσ_21] at hW
        have hf := g_lt eσ_21 hf
        obtain ⟨x4_22, ex4_22⟩ : ∃ y : Int32, y = x4 + 1 := ⟨_, rfl⟩
        have hf := g_lt ex4_22 hf
        refine lv_iinc (v := x4_22) (lv' := [(4, .int x4_22), (0, .ref (z + this)), (1, .int a1), (2, .ref (z + a2)), (3, .int x3)]) hx hb dX11_residuesOf_51 hl (k := 4) rfl (by rw [ex4_22]; rfl) (by decide) rfl (fun ls hl => ?_)
        refine lv_goto (tgt := 27) hx hb dX11_residuesOf_54 (by decide) ?_
        exact H27 x3 x4_22 σ_21 hf _ _ _ hW hS (lv_sub hl [1, 2, 3, 4, 0] rfl)
  refine lv_aload_n hx hb dX11_residuesOf_0 rfl (lv_at hl 0 rfl) ?_
  refine q_getp (own := RX11) (ref := RX11) (C := RX11) (T := TX11) (N := 10) (kc := 8) (ci := 0) hx hb hts hin11 hown hK hW h_this (by decide) rfl 2 (by decide) hw0 rfl rfl rfl (v := 8) rfl dX11_residuesOf_1 (fun hk_1 hq_2 => ?_)
  refine lv_iload_n hx hb dX11_residuesOf_4 rfl (lv_at hl 1 rfl) ?_
  obtain ⟨hi_3, hf⟩ := g_in hf
  refine q_aalp (kc := 15) (t := 7) hx hb hK hW hk_1 rfl (inb_of hq_2 hi_3) rfl dX11_residuesOf_5 (fun hk_4 hq_5 => ?_)
  obtain ⟨r_8, σ_7, hc_6, hf⟩ := g_bnd hf
  refine q_calli (va_runV (As := []) (rest := []) ⟨hx, hb, hml, hown, hts⟩ (k_X10_stands l z n D cy Y hk_4 hc_6) (cwV 0 hts gX11_residuesOf_X10_stands rfl rfl rfl (by decide +kernel) ⟨Nat.le_of_ble_eq_true rfl, Nat.le_of_ble_eq_true rfl⟩) (q_PV (T := TX10) (N := 3) hK hN hW hk_4 (by decide) rfl) rfl rfl hl.1 rfl (lv_room (Nat.le_of_ble_eq_true rfl)) dX11_residuesOf_6 ⟨Nat.le_refl _, Nat.le_refl _⟩) hS (fun H locs hW hS => ?_)
  refine lv_if_ne (tgt := 14) hx hb dX11_residuesOf_9 (by decide) (fun c => ?_) (fun c => ?_)
  · have hf := g_neg c hf
    refine lv_aload_n hx hb dX11_residuesOf_14 rfl (lv_at hl 0 rfl) ?_
    refine q_getp (own := RX11) (ref := RX11) (C := RX11) (T := TX11) (N := 10) (kc := 8) (ci := 0) hx hb hts hin11 hown hK hW h_this (by decide) rfl 1 (by decide) hw1 rfl rfl rfl (v := 7) rfl dX11_residuesOf_15 (fun hk_9 hq_10 => ?_)
    refine lv_iload_n hx hb dX11_residuesOf_18 rfl (lv_at hl 1 rfl) ?_
    obtain ⟨hi_11, hf⟩ := g_in hf
    refine q_aalp (kc := 14) (t := 4) hx hb hK hW hk_9 rfl (inb_of hq_10 hi_11) rfl dX11_residuesOf_19 (fun hk_12 hq_13 => ?_)
    refine q_getiN (own := RX11) (ref := RX7) (C := RX7) (T := TX7) (N := 4) (kc := 4) (ci := 0) (host := "SkyClocks") hx hb hts hin7 hown hK hW hk_12 (by decide) rfl 3 (by decide) hw2 rfl rfl dX11_residuesOf_20 ?_
    refine lv_topi (fun x3_14 ex3_14 => ?_)
    have hf := g_lt ex3_14 hf
    refine lv_istore_n (lv' := [(3, .int x3_14), (0, .ref (z + this)), (1, .int a1), (2, .ref (z + a2))]) hx hb dX11_residuesOf_23 rfl hl (by decide) rfl (fun ls hl => ?_)
    refine lv_iconst (v := 0) hx hb dX11_residuesOf_24 (by decide) ?_
    refine lv_istore (lv' := [(4, .int 0), (3, .int x3_14), (0, .ref (z + this)), (1, .int a1), (2, .ref (z + a2))]) hx hb dX11_residuesOf_25 hl (by decide) rfl (fun ls hl => ?_)
    exact B27 fu x3_14 0 σ_7 hf _ _ _ hW hS (lv_sub hl [2, 3, 4, 1, 0] rfl)
  · have hf := g_pos c hf
    refine lv_iconst (v := 0) hx hb dX11_residuesOf_12 (by decide) ?_
    exact q_iret hx hb hr hlocks hW hS hf dX11_residuesOf_13
set_option maxRecDepth 100000 in
set_option maxHeartbeats 40000000 in
theorem k_X11_falseShare (l : Launch) (z n : Nat) (D : va_G) (cy : Nat → ClassId) (Y : Yt) {fu : Nat} {this : Nat} {a1 : Int32} {σ : Mm} {r : Int32} {σ1 : Mm} (h_this : okk Y n 8 this) (hf : f_X11_falseShare Y fu this a1 σ = some (r, σ1)) : Ki l yX11_falseShare wsX11_falseShare ({ frames := 6, cells := 0, slots := 0, locals := 172 } : Room) z n D cy Y [.ref (z + this), .int a1] σ r σ1 := by
  refine Met.ofW (cc := cX11_falseShare) (maxL := 3) (ret := (some .int)) (by decide +kernel) rfl ?_
  intro p e s m args below meth c s₁ B hml hv
  obtain ⟨rfl, hW, hK, hN⟩ := hv
  have hx := B.exec
  have hb := B.bytes
  have hr := B.returns
  have hts := atoms_spec (ws := wsX11_falseShare) B.pre
  have hown : s.vm.findClass RX11 = some m.cls := findClass_of_methodNamed B.named
  have hlocks := B.notSynchronized
  have hS : va_S (Az z) s.heap s.heap [] := va_S.rf
  have hin11 : ∀ w ∈ wsX110, w ∈ wsX11_falseShare := fun w h => List.mem_cons_of_mem _ (List.mem_append_left _ (List.mem_append_left _ (List.mem_append_left _ (List.mem_append_left _ (List.mem_append_right _ h)))))
  have hw0 := hts (.fieldLink RX11 49 "SkyClocks" "residues" "[I") (List.mem_of_getElem? (i := 1) rfl)
  have hl := lv_entry ([.ref (z + this), .int a1]) (n := 3) (Nat.le_of_ble_eq_true rfl)
  rw [lg_entry_eq]
  generalize (lg_sl ([.ref (z + this), .int a1]) ++ List.replicate (3 - (lg_sl ([.ref (z + this), .int a1])).length) Slot.unset).toArray = ls at hl ⊢
  have hl : lv_has ls 3 [(0, .ref (z + this)), (1, .int a1)] := hl
  refine lv_iload_n hx hb dX11_falseShare_0 rfl (lv_at hl 1 rfl) ?_
  obtain ⟨r_3, σ_2, hc_1, hf⟩ := g_bnd hf
  refine q_calli (va_runS (As := [.int a1]) (rest := []) ⟨hx, hb, hml, hown, hts⟩ (k_X11_isStar l z n D cy Y hc_1) (va_cwS 1 hts gX11_falseShare_X11_isStar rfl rfl rfl (by decide +kernel) ⟨Nat.le_of_ble_eq_true rfl, Nat.le_of_ble_eq_true rfl⟩) (q_PS hK hN hW) rfl rfl hl.1 rfl (lv_room (Nat.le_of_ble_eq_true rfl)) dX11_falseShare_1 ⟨Nat.le_refl _, Nat.le_refl _⟩) hS (fun H locs hW hS => ?_)
  refine lv_if_ne (tgt := 9) hx hb dX11_falseShare_4 (by decide) (fun c => ?_) (fun c => ?_)
  · have hf := g_neg c hf
    refine lv_aload_n hx hb dX11_falseShare_9 rfl (lv_at hl 0 rfl) ?_
    refine lv_iload_n hx hb dX11_falseShare_10 rfl (lv_at hl 1 rfl) ?_
    refine lv_aload_n hx hb dX11_falseShare_11 rfl (lv_at hl 0 rfl) ?_
    refine q_getp (own := RX11) (ref := RX11) (C := RX11) (T := TX11) (N := 10) (kc := 8) (ci := 0) hx hb hts hin11 hown hK hW h_this (by decide) rfl 6 (by decide) hw0 rfl rfl rfl (v := 550) rfl dX11_falseShare_12 (fun hk_4 hq_5 => ?_)
    obtain ⟨r_8, σ_7, hc_6, hf⟩ := g_bnd hf
    refine q_calli (va_runV (As := [.int a1, .ref (z + 550)]) (rest := []) ⟨hx, hb, hml, hown, hts⟩ (k_X11_residuesOf l z n D cy Y h_this hk_4 hc_6) (cwV 2 hts gX11_falseShare_X11_residuesOf rfl rfl rfl (by decide +kernel) ⟨Nat.le_of_ble_eq_true rfl, Nat.le_of_ble_eq_true rfl⟩) (q_PV (T := TX11) (N := 10) hK hN hW h_this (by decide) rfl) rfl rfl hl.1 rfl (lv_room (Nat.le_of_ble_eq_true rfl)) dX11_falseShare_15 ⟨Nat.le_refl _, Nat.le_refl _⟩) hS (fun H locs hW hS => ?_)
    refine lv_istore_n (lv' := [(2, .int r_8), (0, .ref (z + this)), (1, .int a1)]) hx hb dX11_falseShare_18 rfl hl (by decide) rfl (fun ls hl => ?_)
    refine lv_iload_n hx hb dX11_falseShare_19 rfl (lv_at hl 0 rfl) ?_
    refine lv_iconst (v := 4) hx hb dX11_falseShare_20 (by decide) ?_
    refine lv_bipush (v := 12) hx hb dX11_falseShare_21 (by decide) ?_
    obtain ⟨r_11, σ_10, hc_9, hf⟩ := g_bnd hf
    refine q_calli (va_runS (As := [.int r_8, .int 4, .int 12]) (rest := []) ⟨hx, hb, hml, hown, hts⟩ (k_X11_within l z n D cy Y hc_9) (va_cwS 3 hts gX11_falseShare_X11_within rfl rfl rfl (by decide +kernel) ⟨Nat.le_of_ble_eq_true rfl, Nat.le_of_ble_eq_true rfl⟩) (q_PS hK hN hW) rfl rfl hl.1 rfl (lv_room (Nat.le_of_ble_eq_true rfl)) dX11_falseShare_23 ⟨Nat.le_refl _, Nat.le_refl _⟩) hS (fun H locs hW hS => ?_)
    refine lv_if_eq (tgt := 40) hx hb dX11_falseShare_26 (by decide) (fun c => ?_) (fun c => ?_)
    · have hf := g_pos c hf
      refine lv_bipush (v := (-2)) hx hb dX11_falseShare_40 (by decide) ?_
      exact q_iret hx hb hr hlocks hW hS hf dX11_falseShare_42
    · have hf := g_neg c hf
      refine lv_aload_n hx hb dX11_falseShare_29 rfl (lv_at hl 1 rfl) ?_
      refine q_getp (own := RX11) (ref := RX11) (C := RX11) (T := TX11) (N := 10) (kc := 8) (ci := 0) hx hb hts hin11 hown hK hW h_this (by decide) rfl 6 (by decide) hw0 rfl rfl rfl (v := 550) rfl dX11_falseShare_30 (fun hk_12 hq_13 => ?_)
      refine lv_iload_n hx hb dX11_falseShare_33 rfl (lv_at hl 0 rfl) ?_
      obtain ⟨r_16, σ_15, hc_14, hf⟩ := g_bnd hf
      refine q_calli (va_runS (As := [.ref (z + 550), .int r_8]) (rest := []) ⟨hx, hb, hml, hown, hts⟩ (k_X6_asGreatRows l z n D cy Y hk_12 hc_14) (va_cwS 2 hts gX11_falseShare_X6_asGreatRows rfl rfl rfl (by decide +kernel) ⟨Nat.le_of_ble_eq_true rfl, Nat.le_of_ble_eq_true rfl⟩) (q_PS hK hN hW) rfl rfl hl.1 rfl (lv_room (Nat.le_of_ble_eq_true rfl)) dX11_falseShare_34 ⟨Nat.le_refl _, Nat.le_refl _⟩) hS (fun H locs hW hS => ?_)
      refine lv_goto (tgt := 42) hx hb dX11_falseShare_37 (by decide) ?_
      exact q_iret hx hb hr hlocks hW hS hf dX11_falseShare_42
  · have hf := g_pos c hf
    refine lv_iconst (v := (-1)) hx hb dX11_falseShare_7 (by decide) ?_
    exact q_iret hx hb hr hlocks hW hS hf dX11_falseShare_8
set_option maxRecDepth 100000 in
set_option maxHeartbeats 40000000 in
theorem k_X11_fault (l : Launch) (z n : Nat) (D : va_G) (cy : Nat → ClassId) (Y : Yt) {fu : Nat} {this : Nat} {σ : Mm} {r : Int32} {σ1 : Mm} (h_this : okk Y n 8 this) (hf : f_X11_fault Y fu this σ = some (r, σ1)) : Ki l yX11_fault wsX11_fault ({ frames := 7, cells := 0, slots := 0, locals := 156 } : Room) z n D cy Y [.ref (z + this)] σ r σ1 := by
  refine Met.ofW (cc := cX11_fault) (maxL := 1) (ret := (some .int)) (by decide +kernel) rfl ?_
  intro p e s m args below meth c s₁ B hml hv
  obtain ⟨rfl, hW, hK, hN⟩ := hv
  have hx := B.exec
  have hb := B.bytes
  have hr := B.returns
  have hts := atoms_spec (ws := wsX11_fault) B.pre
  have hown : s.vm.findClass RX11 = some m.cls := findClass_of_methodNamed B.named
  have hlocks := B.notSynchronized
  have hS : va_S (Az z) s.heap s.heap [] := va_S.rf
  have hin11 : ∀ w ∈ wsX110, w ∈ wsX11_fault := fun w h => List.mem_cons_of_mem _ (List.mem_append_left _ (List.mem_append_left _ (List.mem_append_right _ h)))
  have hw0 := hts (.fieldLink RX11 31 "SkyClocks" "text" "LSkyClocks$Text;") (List.mem_of_getElem? (i := 1) rfl)
  have hw1 := hts (.fieldLink RX11 38 "SkyClocks" "draft" "LSkyClocks$Model;") (List.mem_of_getElem? (i := 2) rfl)
  have hl := lv_entry ([.ref (z + this)]) (n := 1) (Nat.le_of_ble_eq_true rfl)
  rw [lg_entry_eq]
  generalize (lg_sl ([.ref (z + this)]) ++ List.replicate (1 - (lg_sl ([.ref (z + this)])).length) Slot.unset).toArray = ls at hl ⊢
  have hl : lv_has ls 1 [(0, .ref (z + this))] := hl
  refine lv_aload_n hx hb dX11_fault_0 rfl (lv_at hl 0 rfl) ?_
  refine q_getp (own := RX11) (ref := RX11) (C := RX11) (T := TX11) (N := 10) (kc := 8) (ci := 0) hx hb hts hin11 hown hK hW h_this (by decide) rfl 3 (by decide) hw0 rfl rfl rfl (v := 9) rfl dX11_fault_1 (fun hk_1 hq_2 => ?_)
  refine lv_aload_n hx hb dX11_fault_4 rfl (lv_at hl 0 rfl) ?_
  refine q_getr (own := RX11) (ref := RX11) (C := RX11) (T := TX11) (N := 10) (kc := 8) (ci := 0) hx hb hts hin11 hown hK hW h_this (by decide) rfl 4 (by decide) hw1 rfl rfl dX11_fault_5 (fun hk_3 => ?_)
  obtain ⟨r_6, σ_5, hc_4, hf⟩ := g_bnd hf
  refine q_calli (va_runV (As := [.ref (z + (Mm.gr σ this 4))]) (rest := []) ⟨hx, hb, hml, hown, hts⟩ (k_X9_read l z n D cy Y hk_1 hk_3 hc_4) (cwV 1 hts gX11_fault_X9_read rfl rfl rfl (by decide +kernel) ⟨Nat.le_of_ble_eq_true rfl, Nat.le_of_ble_eq_true rfl⟩) (q_PV (T := TX9) (N := 4) hK hN hW hk_1 (by decide) rfl) rfl rfl hl.1 rfl (lv_room (Nat.le_of_ble_eq_true rfl)) dX11_fault_8 ⟨Nat.le_refl _, Nat.le_refl _⟩) hS (fun H locs hW hS => ?_)
  exact q_iret hx hb hr hlocks hW hS hf dX11_fault_11
set_option maxRecDepth 100000 in
set_option maxHeartbeats 40000000 in
theorem k_X11_fit (l : Launch) (z n : Nat) (D : va_G) (cy : Nat → ClassId) (Y : Yt) {fu : Nat} {this : Nat} {a1 : Int32} {a2 : Int32} {σ : Mm} {r : Int64} {σ1 : Mm} (h_this : okk Y n 8 this) (hf : f_X11_fit Y fu this a1 a2 σ = some (r, σ1)) : Kl l yX11_fit wsX11_fit ({ frames := 3, cells := 0, slots := 0, locals := 126 } : Room) z n D cy Y [.ref (z + this), .int a1, .int a2] σ r σ1 := by
  refine Met.ofW (cc := cX11_fit) (maxL := 3) (ret := (some .long)) (by decide +kernel) rfl ?_
  intro p e s m args below meth c s₁ B hml hv
  obtain ⟨rfl, hW, hK, hN⟩ := hv
  have hx := B.exec
  have hb := B.bytes
  have hr := B.returns
  have hts := atoms_spec (ws := wsX11_fit) B.pre
  have hown : s.vm.findClass RX11 = some m.cls := findClass_of_methodNamed B.named
  have hlocks := B.notSynchronized
  have hS : va_S (Az z) s.heap s.heap [] := va_S.rf
  have hin11 : ∀ w ∈ wsX110, w ∈ wsX11_fit := fun w h => List.mem_cons_of_mem _ (List.mem_append_left _ (List.mem_append_right _ h))
  have hin0 : ∀ w ∈ wsX00, w ∈ wsX11_fit := fun w h => List.mem_cons_of_mem _ (List.mem_append_right _ h)
  have hw0 := hts (.constantLong RX11 198 (-1000000000000000000)) (List.mem_of_getElem? (i := 1) rfl)
  have hw1 := hts (.fieldLink RX11 45 "SkyClocks" "carried" "LSkyClocks$Carried;") (List.mem_of_getElem? (i := 2) rfl)
  have hw2 := hts (.constantLong RX11 200 (-1000000000000000002)) (List.mem_of_getElem? (i := 3) rfl)
  have hw3 : va_Nw (.fieldLinkNest RX11 188 "SkyClocks$Carried" "found" "I" "SkyClocks") s := hN _ (List.mem_of_getElem? (i := 9) rfl)
  have hl := lv_entry ([.ref (z + this), .int a1, .int a2]) (n := 3) (Nat.le_of_ble_eq_true rfl)
  rw [lg_entry_eq]
  generalize (lg_sl ([.ref (z + this), .int a1, .int a2]) ++ List.replicate (3 - (lg_sl ([.ref (z + this), .int a1, .int a2])).length) Slot.unset).toArray = ls at hl ⊢
  have hl : lv_has ls 3 [(0, .ref (z + this)), (1, .int a1), (2, .int a2)] := hl
  refine lv_iload_n hx hb dX11_fit_0 rfl (lv_at hl 1 rfl) ?_
  refine lv_if_lt (tgt := 13) hx hb dX11_fit_1 (by decide) (fun c => ?_) (fun c => ?_)
  · have hf := g_pos c hf
    refine lv_ldc2 hx hb hown hw0 dX11_fit_13 ?_
    exact q_lret hx hb hr hlocks hW hS hf dX11_fit_16
  · have hf := g_neg c hf
    refine lv_iload_n hx hb dX11_fit_4 rfl (lv_at hl 2 rfl) ?_
    refine lv_iconst (v := 0) hx hb dX11_fit_5 (by decide) ?_
    refine lv_iconst (v := 4) hx hb dX11_fit_6 (by decide) ?_
    obtain ⟨r_3, σ_2, hc_1, hf⟩ := g_bnd hf
    refine q_calli (va_runS (As := [.int a2, .int 0, .int 4]) (rest := []) ⟨hx, hb, hml, hown, hts⟩ (k_X11_within l z n D cy Y hc_1) (va_cwS 3 hts gX11_fit_X11_within rfl rfl rfl (by decide +kernel) ⟨Nat.le_of_ble_eq_true rfl, Nat.le_of_ble_eq_true rfl⟩) (q_PS hK hN hW) rfl rfl hl.1 rfl (lv_room (Nat.le_of_ble_eq_true rfl)) dX11_fit_7 ⟨Nat.le_refl _, Nat.le_refl _⟩) hS (fun H locs hW hS => ?_)
    refine lv_if_ne (tgt := 17) hx hb dX11_fit_10 (by decide) (fun c => ?_) (fun c => ?_)
    · have hf := g_neg c hf
      refine lv_aload_n hx hb dX11_fit_17 rfl (lv_at hl 0 rfl) ?_
      refine q_getp (own := RX11) (ref := RX11) (C := RX11) (T := TX11) (N := 10) (kc := 8) (ci := 0) hx hb hts hin11 hown hK hW h_this (by decide) rfl 5 (by decide) hw1 rfl rfl rfl (v := 17) rfl dX11_fit_18 (fun hk_4 hq_5 => ?_)
      obtain ⟨r_8, σ_7, hc_6, hf⟩ := g_bnd hf
      refine q_calli (va_runV (As := []) (rest := []) ⟨hx, hb, hml, hown, hts⟩ (k_X0_stands l z n D cy Y hk_4 hc_6) (cwV 0 hts gX11_fit_X0_stands rfl rfl rfl (by decide +kernel) ⟨Nat.le_of_ble_eq_true rfl, Nat.le_of_ble_eq_true rfl⟩) (q_PV (T := TX0) (N := 13) hK hN hW hk_4 (by decide) rfl) rfl rfl hl.1 rfl (lv_room (Nat.le_of_ble_eq_true rfl)) dX11_fit_21 ⟨Nat.le_refl _, Nat.le_refl _⟩) hS (fun H locs hW hS => ?_)
      refine lv_if_eq (tgt := 38) hx hb dX11_fit_24 (by decide) (fun c => ?_) (fun c => ?_)
      · have hf := g_pos c hf
        refine lv_ldc2 hx hb hown hw2 dX11_fit_38 ?_
        exact q_lret hx hb hr hlocks hW hS hf dX11_fit_41
      · have hf := g_neg c hf
        refine lv_iload_n hx hb dX11_fit_27 rfl (lv_at hl 1 rfl) ?_
        refine lv_aload_n hx hb dX11_fit_28 rfl (lv_at hl 0 rfl) ?_
        refine q_getp (own := RX11) (ref := RX11) (C := RX11) (T := TX11) (N := 10) (kc := 8) (ci := 0) hx hb hts hin11 hown hK hW h_this (by decide) rfl 5 (by decide) hw1 rfl rfl rfl (v := 17) rfl dX11_fit_29 (fun hk_9 hq_10 => ?_)
        refine q_getiN (own := RX11) (ref := RX0) (C := RX0) (T := TX0) (N := 13) (kc := 0) (ci := 0) (host := "SkyClocks") hx hb hts hin0 hown hK hW hk_9 (by decide) rfl 3 (by decide) hw3 rfl rfl dX11_fit_32 ?_
        refine lv_icmp_lt (tgt := 42) hx hb dX11_fit_35 (by decide) (fun c => ?_) (fun c => ?_)
        · have hf := g_pos c hf
          refine lv_aload_n hx hb dX11_fit_42 rfl (lv_at hl 0 rfl) ?_
          refine q_getp (own := RX11) (ref := RX11) (C := RX11) (T := TX11) (N := 10) (kc := 8) (ci := 0) hx hb hts hin11 hown hK hW h_this (by decide) rfl 5 (by decide) hw1 rfl rfl rfl (v := 17) rfl dX11_fit_43 (fun hk_11 hq_12 => ?_)
          refine lv_iload_n hx hb dX11_fit_46 rfl (lv_at hl 1 rfl) ?_
          refine lv_iload_n hx hb dX11_fit_47 rfl (lv_at hl 2 rfl) ?_
          obtain ⟨r_15, σ_14, hc_13, hf⟩ := g_bnd hf
          refine q_calll (va_runV (As := [.int a1, .int a2]) (rest := []) ⟨hx, hb, hml, hown, hts⟩ (k_X0_fitted l z n D cy Y hk_11 hc_13) (cwV 2 hts gX11_fit_X0_fitted rfl rfl rfl (by decide +kernel) ⟨Nat.le_of_ble_eq_true rfl, Nat.le_of_ble_eq_true rfl⟩) (q_PV (T := TX0) (N := 13) hK hN hW hk_11 (by decide) rfl) rfl rfl hl.1 rfl (lv_room (Nat.le_of_ble_eq_true rfl)) dX11_fit_48 ⟨Nat.le_refl _, Nat.le_refl _⟩) hS (fun H locs hW hS => ?_)
          exact q_lret hx hb hr hlocks hW hS hf dX11_fit_51
        · have hf := g_neg c hf
          refine lv_ldc2 hx hb hown hw2 dX11_fit_38 ?_
          exact q_lret hx hb hr hlocks hW hS hf dX11_fit_41
    · have hf := g_pos c hf
      refine lv_ldc2 hx hb hown hw0 dX11_fit_13 ?_
      exact q_lret hx hb hr hlocks hW hS hf dX11_fit_16
set_option maxRecDepth 100000 in
set_option maxHeartbeats 40000000 in
theorem k_X11_commonResidues (l : Launch) (z n : Nat) (D : va_G) (cy : Nat → ClassId) (Y : Yt) {fu : Nat} {this : Nat} {a1 : Int32} {a2 : Int32} {σ : Mm} {r : Int32} {σ1 : Mm} (h_this : okk Y n 8 this) (hf : f_X11_commonResidues Y fu this a1 a2 σ = some (r, σ1)) : Ki l yX11_commonResidues wsX11_commonResidues ({ frames := 6, cells := 0, slots := 0, locals := 159 } : Room) z n D cy Y [.ref (z + this), .int a1, .int a2] σ r σ1 := by
  refine Met.ofW (cc := cX11_commonResidues) (maxL := 4) (ret := (some .int)) (by decide +kernel) rfl ?_
  intro p e s m args below meth c s₁ B hml hv
  obtain ⟨rfl, hW, hK, hN⟩ := hv
  have hx := B.exec
  have hb := B.bytes
  have hr := B.returns
  have hts := atoms_spec (ws := wsX11_commonResidues) B.pre
  have hown : s.vm.findClass RX11 = some m.cls := findClass_of_methodNamed B.named
  have hlocks := B.notSynchronized
  have hS : va_S (Az z) s.heap s.heap [] := va_S.rf
  have hin11 : ∀ w ∈ wsX110, w ∈ wsX11_commonResidues := fun w h => List.mem_cons_of_mem _ (List.mem_append_left _ (List.mem_append_left _ (List.mem_append_left _ (List.mem_append_left _ (List.mem_append_right _ h)))))
  have hw0 := hts (.fieldLink RX11 49 "SkyClocks" "residues" "[I") (List.mem_of_getElem? (i := 1) rfl)
  have hw1 := hts (.fieldLink RX11 53 "SkyClocks" "others" "[I") (List.mem_of_getElem? (i := 2) rfl)
  have hw2 := hts (.methodLink RX11 280 Lib.Math.min.name) (List.mem_of_getElem? (i := 3) rfl)
  have hw3 := hts (.static Lib.Math.min.name) (List.mem_of_getElem? (i := 4) rfl)
  have hw4 := hts (.initialized "java/lang/Math") (List.mem_of_getElem? (i := 5) rfl)
  have hw5 := hts (.code Lib.Math.min.name Lib.Math.min.code 2 (some .int)) (List.mem_of_getElem? (i := 6) rfl)
  have hl := lv_entry ([.ref (z + this), .int a1, .int a2]) (n := 4) (Nat.le_of_ble_eq_true rfl)
  rw [lg_entry_eq]
  generalize (lg_sl ([.ref (z + this), .int a1, .int a2]) ++ List.replicate (4 - (lg_sl ([.ref (z + this), .int a1, .int a2])).length) Slot.unset).toArray = ls at hl ⊢
  have hl : lv_has ls 4 [(0, .ref (z + this)), (1, .int a1), (2, .int a2)] := hl
  refine lv_aload_n hx hb dX11_commonResidues_0 rfl (lv_at hl 0 rfl) ?_
  refine lv_iload_n hx hb dX11_commonResidues_1 rfl (lv_at hl 1 rfl) ?_
  refine lv_aload_n hx hb dX11_commonResidues_2 rfl (lv_at hl 0 rfl) ?_
  refine q_getp (own := RX11) (ref := RX11) (C := RX11) (T := TX11) (N := 10) (kc := 8) (ci := 0) hx hb hts hin11 hown hK hW h_this (by decide) rfl 6 (by decide) hw0 rfl rfl rfl (v := 550) rfl dX11_commonResidues_3 (fun hk_1 hq_2 => ?_)
  obtain ⟨r_5, σ_4, hc_3, hf⟩ := g_bnd hf
  refine q_calli (va_runV (As := [.int a1, .ref (z + 550)]) (rest := []) ⟨hx, hb, hml, hown, hts⟩ (k_X11_residuesOf l z n D cy Y h_this hk_1 hc_3) (cwV 2 hts gX11_commonResidues_X11_residuesOf rfl rfl rfl (by decide +kernel) ⟨Nat.le_of_ble_eq_true rfl, Nat.le_of_ble_eq_true rfl⟩) (q_PV (T := TX11) (N := 10) hK hN hW h_this (by decide) rfl) rfl rfl hl.1 rfl (lv_room (Nat.le_of_ble_eq_true rfl)) dX11_commonResidues_6 ⟨Nat.le_refl _, Nat.le_refl _⟩) hS (fun H locs hW hS => ?_)
  refine lv_aload_n hx hb dX11_commonResidues_9 rfl (lv_at hl 0 rfl) ?_
  refine lv_iload_n hx hb dX11_commonResidues_10 rfl (lv_at hl 2 rfl) ?_
  refine lv_aload_n hx hb dX11_commonResidues_11 rfl (lv_at hl 0 rfl) ?_
  refine q_getp (own := RX11) (ref := RX11) (C := RX11) (T := TX11) (N := 10) (kc := 8) (ci := 0) hx hb hts hin11 hown hK hW h_this (by decide) rfl 7 (by decide) hw1 rfl rfl rfl (v := 551) rfl dX11_commonResidues_12 (fun hk_6 hq_7 => ?_)
  obtain ⟨r_10, σ_9, hc_8, hf⟩ := g_bnd hf
  refine q_calli (va_runV (As := [.int a2, .ref (z + 551)]) (rest := [.int r_5]) ⟨hx, hb, hml, hown, hts⟩ (k_X11_residuesOf l z n D cy Y h_this hk_6 hc_8) (cwV 2 hts gX11_commonResidues_X11_residuesOf rfl rfl rfl (by decide +kernel) ⟨Nat.le_of_ble_eq_true rfl, Nat.le_of_ble_eq_true rfl⟩) (q_PV (T := TX11) (N := 10) hK hN hW h_this (by decide) rfl) rfl rfl hl.1 rfl (lv_room (Nat.le_of_ble_eq_true rfl)) dX11_commonResidues_15 ⟨Nat.le_refl _, Nat.le_refl _⟩) hS (fun H locs hW hS => ?_)
  refine va_mmin hx hb (by rw [hml]; exact hl.1.symm) hown hw2 hw3 hw4 hw5 (Nat.le_of_ble_eq_true rfl) (Nat.le_of_ble_eq_true rfl) (Nat.zero_le _) (Nat.zero_le _) dX11_commonResidues_18 ?_
  refine lv_topi (fun x3_11 ex3_11 => ?_)
  have hf := g_lt ex3_11 hf
  refine lv_istore_n (lv' := [(3, .int x3_11), (0, .ref (z + this)), (1, .int a1), (2, .int a2)]) hx hb dX11_commonResidues_21 rfl hl (by decide) rfl (fun ls hl => ?_)
  refine lv_iload_n hx hb dX11_commonResidues_22 rfl (lv_at hl 0 rfl) ?_
  refine lv_bipush (v := 7) hx hb dX11_commonResidues_23 (by decide) ?_
  refine va_mmin hx hb (by rw [hml]; exact hl.1.symm) hown hw2 hw3 hw4 hw5 (Nat.le_of_ble_eq_true rfl) (Nat.le_of_ble_eq_true rfl) (Nat.zero_le _) (Nat.zero_le _) dX11_commonResidues_25 ?_
  exact q_iret hx hb hr hlocks hW hS hf dX11_commonResidues_28
set_option maxRecDepth 100000 in
set_option maxHeartbeats 40000000 in
theorem k_X11_hum (l : Launch) (z n : Nat) (D : va_G) (cy : Nat → ClassId) (Y : Yt) {fu : Nat} {this : Nat} {a1 : Int32} {a2 : Int32} {σ : Mm} {r : Int64} {σ1 : Mm} (h_this : okk Y n 8 this) (hf : f_X11_hum Y fu this a1 a2 σ = some (r, σ1)) : Kl l yX11_hum wsX11_hum ({ frames := 7, cells := 0, slots := 0, locals := 182 } : Room) z n D cy Y [.ref (z + this), .int a1, .int a2] σ r σ1 := by
  refine Met.ofW (cc := cX11_hum) (maxL := 4) (ret := (some .long)) (by decide +kernel) rfl ?_
  intro p e s m args below meth c s₁ B hml hv
  obtain ⟨rfl, hW, hK, hN⟩ := hv
  have hx := B.exec
  have hb := B.bytes
  have hr := B.returns
  have hts := atoms_spec (ws := wsX11_hum) B.pre
  have hown : s.vm.findClass RX11 = some m.cls := findClass_of_methodNamed B.named
  have hlocks := B.notSynchronized
  have hS : va_S (Az z) s.heap s.heap [] := va_S.rf
  have hin11 : ∀ w ∈ wsX110, w ∈ wsX11_hum := fun w h => List.mem_cons_of_mem _ (List.mem_append_left _ (List.mem_append_left _ (List.mem_append_left _ (List.mem_append_left _ (List.mem_append_right _ h)))))
  have hw0 := hts (.constantLong RX11 198 (-1000000000000000000)) (List.mem_of_getElem? (i := 1) rfl)
  have hw1 := hts (.fieldLink RX11 49 "SkyClocks" "residues" "[I") (List.mem_of_getElem? (i := 3) rfl)
  have hw2 := hts (.fieldLink RX11 53 "SkyClocks" "others" "[I") (List.mem_of_getElem? (i := 4) rfl)
  have hw3 := hts (.constantLong RX11 200 (-1000000000000000002)) (List.mem_of_getElem? (i := 2) rfl)
  have hl := lv_entry ([.ref (z + this), .int a1, .int a2]) (n := 4) (Nat.le_of_ble_eq_true rfl)
  rw [lg_entry_eq]
  generalize (lg_sl ([.ref (z + this), .int a1, .int a2]) ++ List.replicate (4 - (lg_sl ([.ref (z + this), .int a1, .int a2])).length) Slot.unset).toArray = ls at hl ⊢
  have hl : lv_has ls 4 [(0, .ref (z + this)), (1, .int a1), (2, .int a2)] := hl
  refine lv_iload_n hx hb dX11_hum_0 rfl (lv_at hl 1 rfl) ?_
  obtain ⟨r_3, σ_2, hc_1, hf⟩ := g_bnd hf
  refine q_calli (va_runS (As := [.int a1]) (rest := []) ⟨hx, hb, hml, hown, hts⟩ (k_X11_isStar l z n D cy Y hc_1) (va_cwS 1 hts gX11_hum_X11_isStar rfl rfl rfl (by decide +kernel) ⟨Nat.le_of_ble_eq_true rfl, Nat.le_of_ble_eq_true rfl⟩) (q_PS hK hN hW) rfl rfl hl.1 rfl (lv_room (Nat.le_of_ble_eq_true rfl)) dX11_hum_1 ⟨Nat.le_refl _, Nat.le_refl _⟩) hS (fun H locs hW hS => ?_)
  refine lv_if_eq (tgt := 19) hx hb dX11_hum_4 (by decide) (fun c => ?_) (fun c => ?_)
  · have hf := g_pos c hf
    refine lv_ldc2 hx hb hown hw0 dX11_hum_19 ?_
    exact q_lret hx hb hr hlocks hW hS hf dX11_hum_22
  · have hf := g_neg c hf
    refine lv_iload_n hx hb dX11_hum_7 rfl (lv_at hl 2 rfl) ?_
    obtain ⟨r_6, σ_5, hc_4, hf⟩ := g_bnd hf
    refine q_calli (va_runS (As := [.int a2]) (rest := []) ⟨hx, hb, hml, hown, hts⟩ (k_X11_isStar l z n D cy Y hc_4) (va_cwS 1 hts gX11_hum_X11_isStar rfl rfl rfl (by decide +kernel) ⟨Nat.le_of_ble_eq_true rfl, Nat.le_of_ble_eq_true rfl⟩) (q_PS hK hN hW) rfl rfl hl.1 rfl (lv_room (Nat.le_of_ble_eq_true rfl)) dX11_hum_8 ⟨Nat.le_refl _, Nat.le_refl _⟩) hS (fun H locs hW hS => ?_)
    refine lv_if_eq (tgt := 19) hx hb dX11_hum_11 (by decide) (fun c => ?_) (fun c => ?_)
    · have hf := g_pos c hf
      refine lv_ldc2 hx hb hown hw0 dX11_hum_19 ?_
      exact q_lret hx hb hr hlocks hW hS hf dX11_hum_22
    · have hf := g_neg c hf
      refine lv_iload_n hx hb dX11_hum_14 rfl (lv_at hl 1 rfl) ?_
      refine lv_iload_n hx hb dX11_hum_15 rfl (lv_at hl 2 rfl) ?_
      refine lv_icmp_ne (tgt := 23) hx hb dX11_hum_16 (by decide) (fun c => ?_) (fun c => ?_)
      · have hf := g_neg c hf
        refine lv_aload_n hx hb dX11_hum_23 rfl (lv_at hl 0 rfl) ?_
        refine lv_iload_n hx hb dX11_hum_24 rfl (lv_at hl 1 rfl) ?_
        refine lv_iload_n hx hb dX11_hum_25 rfl (lv_at hl 2 rfl) ?_
        obtain ⟨r_9, σ_8, hc_7, hf⟩ := g_bnd hf
        refine q_calli (va_runV (As := [.int a1, .int a2]) (rest := []) ⟨hx, hb, hml, hown, hts⟩ (k_X11_commonResidues l z n D cy Y h_this hc_7) (cwV 2 hts gX11_hum_X11_commonResidues rfl rfl rfl (by decide +kernel) ⟨Nat.le_of_ble_eq_true rfl, Nat.le_of_ble_eq_true rfl⟩) (q_PV (T := TX11) (N := 10) hK hN hW h_this (by decide) rfl) rfl rfl hl.1 rfl (lv_room (Nat.le_of_ble_eq_true rfl)) dX11_hum_26 ⟨Nat.le_refl _, Nat.le_refl _⟩) hS (fun H locs hW hS => ?_)
        refine lv_istore_n (lv' := [(3, .int r_9), (0, .ref (z + this)), (1, .int a1), (2, .int a2)]) hx hb dX11_hum_29 rfl hl (by decide) rfl (fun ls hl => ?_)
        refine lv_iload_n hx hb dX11_hum_30 rfl (lv_at hl 0 rfl) ?_
        refine lv_iconst (v := 2) hx hb dX11_hum_31 (by decide) ?_
        refine lv_icmp_ge (tgt := 41) hx hb dX11_hum_32 (by decide) (fun c => ?_) (fun c => ?_)
        · have hf := g_pos c hf
          refine lv_aload_n hx hb dX11_hum_41 rfl (lv_at hl 1 rfl) ?_
          refine q_getp (own := RX11) (ref := RX11) (C := RX11) (T := TX11) (N := 10) (kc := 8) (ci := 0) hx hb hts hin11 hown hK hW h_this (by decide) rfl 6 (by decide) hw1 rfl rfl rfl (v := 550) rfl dX11_hum_42 (fun hk_10 hq_11 => ?_)
          refine lv_aload_n hx hb dX11_hum_45 rfl (lv_at hl 1 rfl) ?_
          refine q_getp (own := RX11) (ref := RX11) (C := RX11) (T := TX11) (N := 10) (kc := 8) (ci := 0) hx hb hts hin11 hown hK hW h_this (by decide) rfl 7 (by decide) hw2 rfl rfl rfl (v := 551) rfl dX11_hum_46 (fun hk_12 hq_13 => ?_)
          refine lv_iload_n hx hb dX11_hum_49 rfl (lv_at hl 0 rfl) ?_
          obtain ⟨r_16, σ_15, hc_14, hf⟩ := g_bnd hf
          refine q_calll (va_runS (As := [.ref (z + 550), .ref (z + 551), .int r_9]) (rest := []) ⟨hx, hb, hml, hown, hts⟩ (k_X3_products l z n D cy Y hk_10 hk_12 hc_14) (va_cwS 3 hts gX11_hum_X3_products rfl rfl rfl (by decide +kernel) ⟨Nat.le_of_ble_eq_true rfl, Nat.le_of_ble_eq_true rfl⟩) (q_PS hK hN hW) rfl rfl hl.1 rfl (lv_room (Nat.le_of_ble_eq_true rfl)) dX11_hum_50 ⟨Nat.le_refl _, Nat.le_refl _⟩) hS (fun H locs hW hS => ?_)
          exact q_lret hx hb hr hlocks hW hS hf dX11_hum_53
        · have hf := g_neg c hf
          refine lv_ldc2 hx hb hown hw3 dX11_hum_35 ?_
          refine lv_goto (tgt := 53) hx hb dX11_hum_38 (by decide) ?_
          exact q_lret hx hb hr hlocks hW hS hf dX11_hum_53
      · have hf := g_pos c hf
        refine lv_ldc2 hx hb hown hw0 dX11_hum_19 ?_
        exact q_lret hx hb hr hlocks hW hS hf dX11_hum_22
set_option maxRecDepth 100000 in
set_option maxHeartbeats 40000000 in
theorem k_X11_left (l : Launch) (z n : Nat) (D : va_G) (cy : Nat → ClassId) (Y : Yt) {fu : Nat} {this : Nat} {a1 : Int32} {a2 : Int32} {σ : Mm} {r : Int32} {σ1 : Mm} (h_this : okk Y n 8 this) (hf : f_X11_left Y fu this a1 a2 σ = some (r, σ1)) : Ki l yX11_left wsX11_left ({ frames := 4, cells := 0, slots := 0, locals := 131 } : Room) z n D cy Y [.ref (z + this), .int a1, .int a2] σ r σ1 := by
  refine Met.ofW (cc := cX11_left) (maxL := 3) (ret := (some .int)) (by decide +kernel) rfl ?_
  intro p e s m args below meth c s₁ B hml hv
  obtain ⟨rfl, hW, hK, hN⟩ := hv
  have hx := B.exec
  have hb := B.bytes
  have hr := B.returns
  have hts := atoms_spec (ws := wsX11_left) B.pre
  have hown : s.vm.findClass RX11 = some m.cls := findClass_of_methodNamed B.named
  have hlocks := B.notSynchronized
  have hS : va_S (Az z) s.heap s.heap [] := va_S.rf
  have hin11 : ∀ w ∈ wsX110, w ∈ wsX11_left := fun w h => List.mem_cons_of_mem _ (List.mem_append_left _ (List.mem_append_left _ (List.mem_append_right _ h)))
  have hw0 := hts (.constant RX11 80 (2000000)) (List.mem_of_getElem? (i := 1) rfl)
  have hw1 := hts (.fieldLink RX11 45 "SkyClocks" "carried" "LSkyClocks$Carried;") (List.mem_of_getElem? (i := 2) rfl)
  have hl := lv_entry ([.ref (z + this), .int a1, .int a2]) (n := 3) (Nat.le_of_ble_eq_true rfl)
  rw [lg_entry_eq]
  generalize (lg_sl ([.ref (z + this), .int a1, .int a2]) ++ List.replicate (3 - (lg_sl ([.ref (z + this), .int a1, .int a2])).length) Slot.unset).toArray = ls at hl ⊢
  have hl : lv_has ls 3 [(0, .ref (z + this)), (1, .int a1), (2, .int a2)] := hl
  refine lv_iload_n hx hb dX11_left_0 rfl (lv_at hl 1 rfl) ?_
  refine lv_iconst (v := 0) hx hb dX11_left_1 (by decide) ?_
  refine lv_ldc hx hb hown hw0 dX11_left_2 ?_
  obtain ⟨r_3, σ_2, hc_1, hf⟩ := g_bnd hf
  refine q_calli (va_runS (As := [.int a1, .int 0, .int 2000000]) (rest := []) ⟨hx, hb, hml, hown, hts⟩ (k_X11_within l z n D cy Y hc_1) (va_cwS 3 hts gX11_left_X11_within rfl rfl rfl (by decide +kernel) ⟨Nat.le_of_ble_eq_true rfl, Nat.le_of_ble_eq_true rfl⟩) (q_PS hK hN hW) rfl rfl hl.1 rfl (lv_room (Nat.le_of_ble_eq_true rfl)) dX11_left_4 ⟨Nat.le_refl _, Nat.le_refl _⟩) hS (fun H locs hW hS => ?_)
  refine lv_if_eq (tgt := 21) hx hb dX11_left_7 (by decide) (fun c => ?_) (fun c => ?_)
  · have hf := g_pos c hf
    refine lv_iconst (v := (-1)) hx hb dX11_left_21 (by decide) ?_
    exact q_iret hx hb hr hlocks hW hS hf dX11_left_22
  · have hf := g_neg c hf
    refine lv_iload_n hx hb dX11_left_10 rfl (lv_at hl 2 rfl) ?_
    refine lv_iconst (v := 0) hx hb dX11_left_11 (by decide) ?_
    refine lv_sipush (v := 1000) hx hb dX11_left_12 (by decide) ?_
    obtain ⟨r_6, σ_5, hc_4, hf⟩ := g_bnd hf
    refine q_calli (va_runS (As := [.int a2, .int 0, .int 1000]) (rest := []) ⟨hx, hb, hml, hown, hts⟩ (k_X11_within l z n D cy Y hc_4) (va_cwS 3 hts gX11_left_X11_within rfl rfl rfl (by decide +kernel) ⟨Nat.le_of_ble_eq_true rfl, Nat.le_of_ble_eq_true rfl⟩) (q_PS hK hN hW) rfl rfl hl.1 rfl (lv_room (Nat.le_of_ble_eq_true rfl)) dX11_left_15 ⟨Nat.le_refl _, Nat.le_refl _⟩) hS (fun H locs hW hS => ?_)
    refine lv_if_ne (tgt := 23) hx hb dX11_left_18 (by decide) (fun c => ?_) (fun c => ?_)
    · have hf := g_neg c hf
      refine lv_aload_n hx hb dX11_left_23 rfl (lv_at hl 0 rfl) ?_
      refine q_getp (own := RX11) (ref := RX11) (C := RX11) (T := TX11) (N := 10) (kc := 8) (ci := 0) hx hb hts hin11 hown hK hW h_this (by decide) rfl 5 (by decide) hw1 rfl rfl rfl (v := 17) rfl dX11_left_24 (fun hk_7 hq_8 => ?_)
      refine lv_iload_n hx hb dX11_left_27 rfl (lv_at hl 1 rfl) ?_
      obtain ⟨r_11, σ_10, hc_9, hf⟩ := g_bnd hf
      refine q_calli (va_runV (As := [.int a1]) (rest := []) ⟨hx, hb, hml, hown, hts⟩ (k_X0_canLook l z n D cy Y hk_7 hc_9) (cwV 1 hts gX11_left_X0_canLook rfl rfl rfl (by decide +kernel) ⟨Nat.le_of_ble_eq_true rfl, Nat.le_of_ble_eq_true rfl⟩) (q_PV (T := TX0) (N := 13) hK hN hW hk_7 (by decide) rfl) rfl rfl hl.1 rfl (lv_room (Nat.le_of_ble_eq_true rfl)) dX11_left_28 ⟨Nat.le_refl _, Nat.le_refl _⟩) hS (fun H locs hW hS => ?_)
      refine lv_if_eq (tgt := 46) hx hb dX11_left_31 (by decide) (fun c => ?_) (fun c => ?_)
      · have hf := g_pos c hf
        refine lv_bipush (v := (-2)) hx hb dX11_left_46 (by decide) ?_
        exact q_iret hx hb hr hlocks hW hS hf dX11_left_48
      · have hf := g_neg c hf
        refine lv_aload_n hx hb dX11_left_34 rfl (lv_at hl 0 rfl) ?_
        refine q_getp (own := RX11) (ref := RX11) (C := RX11) (T := TX11) (N := 10) (kc := 8) (ci := 0) hx hb hts hin11 hown hK hW h_this (by decide) rfl 5 (by decide) hw1 rfl rfl rfl (v := 17) rfl dX11_left_35 (fun hk_12 hq_13 => ?_)
        refine lv_iload_n hx hb dX11_left_38 rfl (lv_at hl 1 rfl) ?_
        refine lv_iload_n hx hb dX11_left_39 rfl (lv_at hl 2 rfl) ?_
        obtain ⟨r_16, σ_15, hc_14, hf⟩ := g_bnd hf
        refine q_calli (va_runV (As := [.int a1, .int a2]) (rest := []) ⟨hx, hb, hml, hown, hts⟩ (k_X0_goOn l z n D cy Y hk_12 hc_14) (cwV 2 hts gX11_left_X0_goOn rfl rfl rfl (by decide +kernel) ⟨Nat.le_of_ble_eq_true rfl, Nat.le_of_ble_eq_true rfl⟩) (q_PV (T := TX0) (N := 13) hK hN hW hk_12 (by decide) rfl) rfl rfl hl.1 rfl (lv_room (Nat.le_of_ble_eq_true rfl)) dX11_left_40 ⟨Nat.le_refl _, Nat.le_refl _⟩) hS (fun H locs hW hS => ?_)
        refine lv_goto (tgt := 48) hx hb dX11_left_43 (by decide) ?_
        exact q_iret hx hb hr hlocks hW hS hf dX11_left_48
    · have hf := g_pos c hf
      refine lv_iconst (v := (-1)) hx hb dX11_left_21 (by decide) ?_
      exact q_iret hx hb hr hlocks hW hS hf dX11_left_22
set_option maxRecDepth 100000 in
set_option maxHeartbeats 40000000 in
theorem k_X11_look (l : Launch) (z n : Nat) (D : va_G) (cy : Nat → ClassId) (Y : Yt) {fu : Nat} {this : Nat} {a1 : Int32} {a2 : Int32} {a3 : Int32} {a4 : Int32} {σ : Mm} {r : Int32} {σ1 : Mm} (h_this : okk Y n 8 this) (hf : f_X11_look Y fu this a1 a2 a3 a4 σ = some (r, σ1)) : Ki l yX11_look wsX11_look ({ frames := 5, cells := 0, slots := 0, locals := 159 } : Room) z n D cy Y [.ref (z + this), .int a1, .int a2, .int a3, .int a4] σ r σ1 := by
  refine Met.ofW (cc := cX11_look) (maxL := 5) (ret := (some .int)) (by decide +kernel) rfl ?_
  intro p e s m args below meth c s₁ B hml hv
  obtain ⟨rfl, hW, hK, hN⟩ := hv
  have hx := B.exec
  have hb := B.bytes
  have hr := B.returns
  have hts := atoms_spec (ws := wsX11_look) B.pre
  have hown : s.vm.findClass RX11 = some m.cls := findClass_of_methodNamed B.named
  have hlocks := B.notSynchronized
  have hS : va_S (Az z) s.heap s.heap [] := va_S.rf
  have hin11 : ∀ w ∈ wsX110, w ∈ wsX11_look := fun w h => List.mem_cons_of_mem _ (List.mem_append_left _ (List.mem_append_left _ (List.mem_append_right _ h)))
  have hw0 := hts (.constant RX11 80 (2000000)) (List.mem_of_getElem? (i := 1) rfl)
  have hw1 := hts (.constant RX11 170 (100000)) (List.mem_of_getElem? (i := 2) rfl)
  have hw2 := hts (.fieldLink RX11 45 "SkyClocks" "carried" "LSkyClocks$Carried;") (List.mem_of_getElem? (i := 3) rfl)
  have hl := lv_entry ([.ref (z + this), .int a1, .int a2, .int a3, .int a4]) (n := 5) (Nat.le_of_ble_eq_true rfl)
  rw [lg_entry_eq]
  generalize (lg_sl ([.ref (z + this), .int a1, .int a2, .int a3, .int a4]) ++ List.replicate (5 - (lg_sl ([.ref (z + this), .int a1, .int a2, .int a3, .int a4])).length) Slot.unset).toArray = ls at hl ⊢
  have hl : lv_has ls 5 [(0, .ref (z + this)), (1, .int a1), (2, .int a2), (3, .int a3), (4, .int a4)] := hl
  refine lv_iload_n hx hb dX11_look_0 rfl (lv_at hl 1 rfl) ?_
  refine lv_iconst (v := 0) hx hb dX11_look_1 (by decide) ?_
  refine lv_ldc hx hb hown hw0 dX11_look_2 ?_
  obtain ⟨r_3, σ_2, hc_1, hf⟩ := g_bnd hf
  refine q_calli (va_runS (As := [.int a1, .int 0, .int 2000000]) (rest := []) ⟨hx, hb, hml, hown, hts⟩ (k_X11_within l z n D cy Y hc_1) (va_cwS 3 hts gX11_look_X11_within rfl rfl rfl (by decide +kernel) ⟨Nat.le_of_ble_eq_true rfl, Nat.le_of_ble_eq_true rfl⟩) (q_PS hK hN hW) rfl rfl hl.1 rfl (lv_room (Nat.le_of_ble_eq_true rfl)) dX11_look_4 ⟨Nat.le_refl _, Nat.le_refl _⟩) hS (fun H locs hW hS => ?_)
  refine lv_if_eq (tgt := 54) hx hb dX11_look_7 (by decide) (fun c => ?_) (fun c => ?_)
  · have hf := g_pos c hf
    refine lv_iconst (v := (-1)) hx hb dX11_look_54 (by decide) ?_
    exact q_iret hx hb hr hlocks hW hS hf dX11_look_55
  · have hf := g_neg c hf
    refine lv_iload_n hx hb dX11_look_10 rfl (lv_at hl 2 rfl) ?_
    refine lv_iconst (v := 1) hx hb dX11_look_11 (by decide) ?_
    refine lv_ldc hx hb hown hw1 dX11_look_12 ?_
    obtain ⟨r_6, σ_5, hc_4, hf⟩ := g_bnd hf
    refine q_calli (va_runS (As := [.int a2, .int 1, .int 100000]) (rest := []) ⟨hx, hb, hml, hown, hts⟩ (k_X11_within l z n D cy Y hc_4) (va_cwS 3 hts gX11_look_X11_within rfl rfl rfl (by decide +kernel) ⟨Nat.le_of_ble_eq_true rfl, Nat.le_of_ble_eq_true rfl⟩) (q_PS hK hN hW) rfl rfl hl.1 rfl (lv_room (Nat.le_of_ble_eq_true rfl)) dX11_look_14 ⟨Nat.le_refl _, Nat.le_refl _⟩) hS (fun H locs hW hS => ?_)
    refine lv_if_eq (tgt := 54) hx hb dX11_look_17 (by decide) (fun c => ?_) (fun c => ?_)
    · have hf := g_pos c hf
      refine lv_iconst (v := (-1)) hx hb dX11_look_54 (by decide) ?_
      exact q_iret hx hb hr hlocks hW hS hf dX11_look_55
    · have hf := g_neg c hf
      refine lv_iload_n hx hb dX11_look_20 rfl (lv_at hl 3 rfl) ?_
      refine lv_iconst (v := 1) hx hb dX11_look_21 (by decide) ?_
      refine lv_bipush (v := 20) hx hb dX11_look_22 (by decide) ?_
      obtain ⟨r_9, σ_8, hc_7, hf⟩ := g_bnd hf
      refine q_calli (va_runS (As := [.int a3, .int 1, .int 20]) (rest := []) ⟨hx, hb, hml, hown, hts⟩ (k_X11_within l z n D cy Y hc_7) (va_cwS 3 hts gX11_look_X11_within rfl rfl rfl (by decide +kernel) ⟨Nat.le_of_ble_eq_true rfl, Nat.le_of_ble_eq_true rfl⟩) (q_PS hK hN hW) rfl rfl hl.1 rfl (lv_room (Nat.le_of_ble_eq_true rfl)) dX11_look_24 ⟨Nat.le_refl _, Nat.le_refl _⟩) hS (fun H locs hW hS => ?_)
      refine lv_if_eq (tgt := 54) hx hb dX11_look_27 (by decide) (fun c => ?_) (fun c => ?_)
      · have hf := g_pos c hf
        refine lv_iconst (v := (-1)) hx hb dX11_look_54 (by decide) ?_
        exact q_iret hx hb hr hlocks hW hS hf dX11_look_55
      · have hf := g_neg c hf
        refine lv_iload hx hb dX11_look_30 (lv_at hl 4 rfl) ?_
        refine lv_iconst (v := 0) hx hb dX11_look_32 (by decide) ?_
        refine lv_sipush (v := 1000) hx hb dX11_look_33 (by decide) ?_
        obtain ⟨r_12, σ_11, hc_10, hf⟩ := g_bnd hf
        refine q_calli (va_runS (As := [.int a4, .int 0, .int 1000]) (rest := []) ⟨hx, hb, hml, hown, hts⟩ (k_X11_within l z n D cy Y hc_10) (va_cwS 3 hts gX11_look_X11_within rfl rfl rfl (by decide +kernel) ⟨Nat.le_of_ble_eq_true rfl, Nat.le_of_ble_eq_true rfl⟩) (q_PS hK hN hW) rfl rfl hl.1 rfl (lv_room (Nat.le_of_ble_eq_true rfl)) dX11_look_36 ⟨Nat.le_refl _, Nat.le_refl _⟩) hS (fun H locs hW hS => ?_)
        refine lv_if_eq (tgt := 54) hx hb dX11_look_39 (by decide) (fun c => ?_) (fun c => ?_)
        · have hf := g_pos c hf
          refine lv_iconst (v := (-1)) hx hb dX11_look_54 (by decide) ?_
          exact q_iret hx hb hr hlocks hW hS hf dX11_look_55
        · have hf := g_neg c hf
          refine lv_iload_n hx hb dX11_look_42 rfl (lv_at hl 1 rfl) ?_
          refine lv_iload_n hx hb dX11_look_43 rfl (lv_at hl 2 rfl) ?_
          refine lv_iload_n hx hb dX11_look_44 rfl (lv_at hl 3 rfl) ?_
          refine lv_iconst (v := 1) hx hb dX11_look_45 (by decide) ?_
          refine lv_isub hx hb dX11_look_46 ?_
          refine lv_imul hx hb dX11_look_47 ?_
          refine lv_iadd hx hb dX11_look_48 ?_
          refine lv_ldc hx hb hown hw0 dX11_look_49 ?_
          refine lv_icmp_le (tgt := 56) hx hb dX11_look_51 (by decide) (fun c => ?_) (fun c => ?_)
          · have hf := g_pos c hf
            refine lv_aload_n hx hb dX11_look_56 rfl (lv_at hl 0 rfl) ?_
            refine q_getp (own := RX11) (ref := RX11) (C := RX11) (T := TX11) (N := 10) (kc := 8) (ci := 0) hx hb hts hin11 hown hK hW h_this (by decide) rfl 5 (by decide) hw2 rfl rfl rfl (v := 17) rfl dX11_look_57 (fun hk_13 hq_14 => ?_)
            refine lv_iload_n hx hb dX11_look_60 rfl (lv_at hl 1 rfl) ?_
            obtain ⟨r_17, σ_16, hc_15, hf⟩ := g_bnd hf
            refine q_calli (va_runV (As := [.int a1]) (rest := []) ⟨hx, hb, hml, hown, hts⟩ (k_X0_canLook l z n D cy Y hk_13 hc_15) (cwV 1 hts gX11_look_X0_canLook rfl rfl rfl (by decide +kernel) ⟨Nat.le_of_ble_eq_true rfl, Nat.le_of_ble_eq_true rfl⟩) (q_PV (T := TX0) (N := 13) hK hN hW hk_13 (by decide) rfl) rfl rfl hl.1 rfl (lv_room (Nat.le_of_ble_eq_true rfl)) dX11_look_61 ⟨Nat.le_refl _, Nat.le_refl _⟩) hS (fun H locs hW hS => ?_)
            refine lv_if_eq (tgt := 82) hx hb dX11_look_64 (by decide) (fun c => ?_) (fun c => ?_)
            · have hf := g_pos c hf
              refine lv_bipush (v := (-2)) hx hb dX11_look_82 (by decide) ?_
              exact q_iret hx hb hr hlocks hW hS hf dX11_look_84
            · have hf := g_neg c hf
              refine lv_aload_n hx hb dX11_look_67 rfl (lv_at hl 0 rfl) ?_
              refine q_getp (own := RX11) (ref := RX11) (C := RX11) (T := TX11) (N := 10) (kc := 8) (ci := 0) hx hb hts hin11 hown hK hW h_this (by decide) rfl 5 (by decide) hw2 rfl rfl rfl (v := 17) rfl dX11_look_68 (fun hk_18 hq_19 => ?_)
              refine lv_iload_n hx hb dX11_look_71 rfl (lv_at hl 1 rfl) ?_
              refine lv_iload_n hx hb dX11_look_72 rfl (lv_at hl 2 rfl) ?_
              refine lv_iload_n hx hb dX11_look_73 rfl (lv_at hl 3 rfl) ?_
              refine lv_iload hx hb dX11_look_74 (lv_at hl 4 rfl) ?_
              obtain ⟨r_22, σ_21, hc_20, hf⟩ := g_bnd hf
              refine q_calli (va_runV (As := [.int a1, .int a2, .int a3, .int a4]) (rest := []) ⟨hx, hb, hml, hown, hts⟩ (k_X0_bestLook l z n D cy Y hk_18 hc_20) (cwV 4 hts gX11_look_X0_bestLook rfl rfl rfl (by decide +kernel) ⟨Nat.le_of_ble_eq_true rfl, Nat.le_of_ble_eq_true rfl⟩) (q_PV (T := TX0) (N := 13) hK hN hW hk_18 (by decide) rfl) rfl rfl hl.1 rfl (lv_room (Nat.le_of_ble_eq_true rfl)) dX11_look_76 ⟨Nat.le_refl _, Nat.le_refl _⟩) hS (fun H locs hW hS => ?_)
              refine lv_goto (tgt := 84) hx hb dX11_look_79 (by decide) ?_
              exact q_iret hx hb hr hlocks hW hS hf dX11_look_84
          · have hf := g_neg c hf
            refine lv_iconst (v := (-1)) hx hb dX11_look_54 (by decide) ?_
            exact q_iret hx hb hr hlocks hW hS hf dX11_look_55
set_option maxRecDepth 100000 in
set_option maxHeartbeats 40000000 in
theorem k_X11_loop (l : Launch) (z n : Nat) (D : va_G) (cy : Nat → ClassId) (Y : Yt) {fu : Nat} {this : Nat} {a1 : Int32} {a2 : Int32} {a3 : Int32} {σ : Mm} {r : Int32} {σ1 : Mm} (h_this : okk Y n 8 this) (hf : f_X11_loop Y fu this a1 a2 a3 σ = some (r, σ1)) : Ki l yX11_loop wsX11_loop ({ frames := 6, cells := 0, slots := 0, locals := 160 } : Room) z n D cy Y [.ref (z + this), .int a1, .int a2, .int a3] σ r σ1 := by
  refine Met.ofW (cc := cX11_loop) (maxL := 7) (ret := (some .int)) (by decide +kernel) rfl ?_
  intro p e s m args below meth c s₁ B hml hv
  obtain ⟨rfl, hW, hK, hN⟩ := hv
  have hx := B.exec
  have hb := B.bytes
  have hr := B.returns
  have hts := atoms_spec (ws := wsX11_loop) B.pre
  have hown : s.vm.findClass RX11 = some m.cls := findClass_of_methodNamed B.named
  have hlocks := B.notSynchronized
  have hS : va_S (Az z) s.heap s.heap [] := va_S.rf
  have hw0 := hts (.constant RX11 242 (-10000000)) (List.mem_of_getElem? (i := 1) rfl)
  have hw1 := hts (.constant RX11 246 (-10000002)) (List.mem_of_getElem? (i := 2) rfl)
  have hl := lv_entry ([.ref (z + this), .int a1, .int a2, .int a3]) (n := 7) (Nat.le_of_ble_eq_true rfl)
  rw [lg_entry_eq]
  generalize (lg_sl ([.ref (z + this), .int a1, .int a2, .int a3]) ++ List.replicate (7 - (lg_sl ([.ref (z + this), .int a1, .int a2, .int a3])).length) Slot.unset).toArray = ls at hl ⊢
  have hl : lv_has ls 7 [(0, .ref (z + this)), (1, .int a1), (2, .int a2), (3, .int a3)] := hl
  refine lv_iload_n hx hb dX11_loop_0 rfl (lv_at hl 1 rfl) ?_
  obtain ⟨r_3, σ_2, hc_1, hf⟩ := g_bnd hf
  refine q_calli (va_runS (As := [.int a1]) (rest := []) ⟨hx, hb, hml, hown, hts⟩ (k_X11_isInstrument l z n D cy Y hc_1) (va_cwS 1 hts gX11_loop_X11_isInstrument rfl rfl rfl (by decide +kernel) ⟨Nat.le_of_ble_eq_true rfl, Nat.le_of_ble_eq_true rfl⟩) (q_PS hK hN hW) rfl rfl hl.1 rfl (lv_room (Nat.le_of_ble_eq_true rfl)) dX11_loop_1 ⟨Nat.le_refl _, Nat.le_refl _⟩) hS (fun H locs hW hS => ?_)
  refine lv_if_eq (tgt := 36) hx hb dX11_loop_4 (by decide) (fun c => ?_) (fun c => ?_)
  · have hf := g_pos c hf
    refine lv_ldc hx hb hown hw0 dX11_loop_36 ?_
    exact q_iret hx hb hr hlocks hW hS hf dX11_loop_38
  · have hf := g_neg c hf
    refine lv_iload_n hx hb dX11_loop_7 rfl (lv_at hl 2 rfl) ?_
    obtain ⟨r_6, σ_5, hc_4, hf⟩ := g_bnd hf
    refine q_calli (va_runS (As := [.int a2]) (rest := []) ⟨hx, hb, hml, hown, hts⟩ (k_X11_isInstrument l z n D cy Y hc_4) (va_cwS 1 hts gX11_loop_X11_isInstrument rfl rfl rfl (by decide +kernel) ⟨Nat.le_of_ble_eq_true rfl, Nat.le_of_ble_eq_true rfl⟩) (q_PS hK hN hW) rfl rfl hl.1 rfl (lv_room (Nat.le_of_ble_eq_true rfl)) dX11_loop_8 ⟨Nat.le_refl _, Nat.le_refl _⟩) hS (fun H locs hW hS => ?_)
    refine lv_if_eq (tgt := 36) hx hb dX11_loop_11 (by decide) (fun c => ?_) (fun c => ?_)
    · have hf := g_pos c hf
      refine lv_ldc hx hb hown hw0 dX11_loop_36 ?_
      exact q_iret hx hb hr hlocks hW hS hf dX11_loop_38
    · have hf := g_neg c hf
      refine lv_iload_n hx hb dX11_loop_14 rfl (lv_at hl 3 rfl) ?_
      obtain ⟨r_9, σ_8, hc_7, hf⟩ := g_bnd hf
      refine q_calli (va_runS (As := [.int a3]) (rest := []) ⟨hx, hb, hml, hown, hts⟩ (k_X11_isInstrument l z n D cy Y hc_7) (va_cwS 1 hts gX11_loop_X11_isInstrument rfl rfl rfl (by decide +kernel) ⟨Nat.le_of_ble_eq_true rfl, Nat.le_of_ble_eq_true rfl⟩) (q_PS hK hN hW) rfl rfl hl.1 rfl (lv_room (Nat.le_of_ble_eq_true rfl)) dX11_loop_15 ⟨Nat.le_refl _, Nat.le_refl _⟩) hS (fun H locs hW hS => ?_)
      refine lv_if_eq (tgt := 36) hx hb dX11_loop_18 (by decide) (fun c => ?_) (fun c => ?_)
      · have hf := g_pos c hf
        refine lv_ldc hx hb hown hw0 dX11_loop_36 ?_
        exact q_iret hx hb hr hlocks hW hS hf dX11_loop_38
      · have hf := g_neg c hf
        refine lv_iload_n hx hb dX11_loop_21 rfl (lv_at hl 1 rfl) ?_
        refine lv_iload_n hx hb dX11_loop_22 rfl (lv_at hl 2 rfl) ?_
        refine lv_icmp_eq (tgt := 36) hx hb dX11_loop_23 (by decide) (fun c => ?_) (fun c => ?_)
        · have hf := g_pos c hf
          refine lv_ldc hx hb hown hw0 dX11_loop_36 ?_
          exact q_iret hx hb hr hlocks hW hS hf dX11_loop_38
        · have hf := g_neg c hf
          refine lv_iload_n hx hb dX11_loop_26 rfl (lv_at hl 2 rfl) ?_
          refine lv_iload_n hx hb dX11_loop_27 rfl (lv_at hl 3 rfl) ?_
          refine lv_icmp_eq (tgt := 36) hx hb dX11_loop_28 (by decide) (fun c => ?_) (fun c => ?_)
          · have hf := g_pos c hf
            refine lv_ldc hx hb hown hw0 dX11_loop_36 ?_
            exact q_iret hx hb hr hlocks hW hS hf dX11_loop_38
          · have hf := g_neg c hf
            refine lv_iload_n hx hb dX11_loop_31 rfl (lv_at hl 1 rfl) ?_
            refine lv_iload_n hx hb dX11_loop_32 rfl (lv_at hl 3 rfl) ?_
            refine lv_icmp_ne (tgt := 39) hx hb dX11_loop_33 (by decide) (fun c => ?_) (fun c => ?_)
            · have hf := g_neg c hf
              refine lv_aload_n hx hb dX11_loop_39 rfl (lv_at hl 0 rfl) ?_
              refine lv_iload_n hx hb dX11_loop_40 rfl (lv_at hl 1 rfl) ?_
              refine lv_iload_n hx hb dX11_loop_41 rfl (lv_at hl 2 rfl) ?_
              obtain ⟨r_12, σ_11, hc_10, hf⟩ := g_bnd hf
              refine q_calli (va_runV (As := [.int a1, .int a2]) (rest := []) ⟨hx, hb, hml, hown, hts⟩ (k_X11_middleGap l z n D cy Y h_this hc_10) (cwV 2 hts gX11_loop_X11_middleGap rfl rfl rfl (by decide +kernel) ⟨Nat.le_of_ble_eq_true rfl, Nat.le_of_ble_eq_true rfl⟩) (q_PV (T := TX11) (N := 10) hK hN hW h_this (by decide) rfl) rfl rfl hl.1 rfl (lv_room (Nat.le_of_ble_eq_true rfl)) dX11_loop_42 ⟨Nat.le_refl _, Nat.le_refl _⟩) hS (fun H locs hW hS => ?_)
              refine lv_istore (lv' := [(4, .int r_12), (0, .ref (z + this)), (1, .int a1), (2, .int a2), (3, .int a3)]) hx hb dX11_loop_45 hl (by decide) rfl (fun ls hl => ?_)
              refine lv_aload_n hx hb dX11_loop_47 rfl (lv_at hl 1 rfl) ?_
              refine lv_iload_n hx hb dX11_loop_48 rfl (lv_at hl 3 rfl) ?_
              refine lv_iload_n hx hb dX11_loop_49 rfl (lv_at hl 4 rfl) ?_
              obtain ⟨r_15, σ_14, hc_13, hf⟩ := g_bnd hf
              refine q_calli (va_runV (As := [.int a2, .int a3]) (rest := []) ⟨hx, hb, hml, hown, hts⟩ (k_X11_middleGap l z n D cy Y h_this hc_13) (cwV 2 hts gX11_loop_X11_middleGap rfl rfl rfl (by decide +kernel) ⟨Nat.le_of_ble_eq_true rfl, Nat.le_of_ble_eq_true rfl⟩) (q_PV (T := TX11) (N := 10) hK hN hW h_this (by decide) rfl) rfl rfl hl.1 rfl (lv_room (Nat.le_of_ble_eq_true rfl)) dX11_loop_50 ⟨Nat.le_refl _, Nat.le_refl _⟩) hS (fun H locs hW hS => ?_)
              refine lv_istore (lv' := [(5, .int r_15), (4, .int r_12), (0, .ref (z + this)), (1, .int a1), (2, .int a2), (3, .int a3)]) hx hb dX11_loop_53 hl (by decide) rfl (fun ls hl => ?_)
              refine lv_aload_n hx hb dX11_loop_55 rfl (lv_at hl 2 rfl) ?_
              refine lv_iload_n hx hb dX11_loop_56 rfl (lv_at hl 3 rfl) ?_
              refine lv_iload_n hx hb dX11_loop_57 rfl (lv_at hl 5 rfl) ?_
              obtain ⟨r_18, σ_17, hc_16, hf⟩ := g_bnd hf
              refine q_calli (va_runV (As := [.int a1, .int a3]) (rest := []) ⟨hx, hb, hml, hown, hts⟩ (k_X11_middleGap l z n D cy Y h_this hc_16) (cwV 2 hts gX11_loop_X11_middleGap rfl rfl rfl (by decide +kernel) ⟨Nat.le_of_ble_eq_true rfl, Nat.le_of_ble_eq_true rfl⟩) (q_PV (T := TX11) (N := 10) hK hN hW h_this (by decide) rfl) rfl rfl hl.1 rfl (lv_room (Nat.le_of_ble_eq_true rfl)) dX11_loop_58 ⟨Nat.le_refl _, Nat.le_refl _⟩) hS (fun H locs hW hS => ?_)
              refine lv_istore (lv' := [(6, .int r_18), (5, .int r_15), (4, .int r_12), (0, .ref (z + this)), (1, .int a1), (2, .int a2), (3, .int a3)]) hx hb dX11_loop_61 hl (by decide) rfl (fun ls hl => ?_)
              refine lv_iload hx hb dX11_loop_63 (lv_at hl 2 rfl) ?_
              refine lv_ldc hx hb hown hw1 dX11_loop_65 ?_
              refine lv_icmp_eq (tgt := 84) hx hb dX11_loop_67 (by decide) (fun c => ?_) (fun c => ?_)
              · have hf := g_pos c hf
                refine lv_ldc hx hb hown hw1 dX11_loop_84 ?_
                exact q_iret hx hb hr hlocks hW hS hf dX11_loop_86
              · have hf := g_neg c hf
                refine lv_iload hx hb dX11_loop_70 (lv_at hl 1 rfl) ?_
                refine lv_ldc hx hb hown hw1 dX11_loop_72 ?_
                refine lv_icmp_eq (tgt := 84) hx hb dX11_loop_74 (by decide) (fun c => ?_) (fun c => ?_)
                · have hf := g_pos c hf
                  refine lv_ldc hx hb hown hw1 dX11_loop_84 ?_
                  exact q_iret hx hb hr hlocks hW hS hf dX11_loop_86
                · have hf := g_neg c hf
                  refine lv_iload hx hb dX11_loop_77 (lv_at hl 0 rfl) ?_
                  refine lv_ldc hx hb hown hw1 dX11_loop_79 ?_
                  refine lv_icmp_ne (tgt := 87) hx hb dX11_loop_81 (by decide) (fun c => ?_) (fun c => ?_)
                  · have hf := g_neg c hf
                    refine lv_iload hx hb dX11_loop_87 (lv_at hl 2 rfl) ?_
                    refine lv_iload hx hb dX11_loop_89 (lv_at hl 1 rfl) ?_
                    refine lv_iadd hx hb dX11_loop_91 ?_
                    refine lv_iload hx hb dX11_loop_92 (lv_at hl 0 rfl) ?_
                    refine lv_isub hx hb dX11_loop_94 ?_
                    exact q_iret hx hb hr hlocks hW hS hf dX11_loop_95
                  · have hf := g_pos c hf
                    refine lv_ldc hx hb hown hw1 dX11_loop_84 ?_
                    exact q_iret hx hb hr hlocks hW hS hf dX11_loop_86
            · have hf := g_pos c hf
              refine lv_ldc hx hb hown hw0 dX11_loop_36 ?_
              exact q_iret hx hb hr hlocks hW hS hf dX11_loop_38
set_option maxRecDepth 100000 in
set_option maxHeartbeats 40000000 in
theorem k_X11_many (l : Launch) (z n : Nat) (D : va_G) (cy : Nat → ClassId) (Y : Yt) {this : Nat} {a1 : Int32} {σ : Mm} {r : Int32} {σ1 : Mm} (h_this : okk Y n 8 this) (hf : f_X11_many Y this a1 σ = some (r, σ1)) : Ki l yX11_many wsX11_many ({ frames := 2, cells := 0, slots := 0, locals := 42 } : Room) z n D cy Y [.ref (z + this), .int a1] σ r σ1 := by
  refine Met.ofW (cc := cX11_many) (maxL := 2) (ret := (some .int)) (by decide +kernel) rfl ?_
  intro p e s m args below meth c s₁ B hml hv
  obtain ⟨rfl, hW, hK, hN⟩ := hv
  have hx := B.exec
  have hb := B.bytes
  have hr := B.returns
  have hts := atoms_spec (ws := wsX11_many) B.pre
  have hown : s.vm.findClass RX11 = some m.cls := findClass_of_methodNamed B.named
  have hlocks := B.notSynchronized
  have hS : va_S (Az z) s.heap s.heap [] := va_S.rf
  have hin11 : ∀ w ∈ wsX110, w ∈ wsX11_many := fun w h => List.mem_cons_of_mem _ (List.mem_append_left _ (List.mem_append_right _ h))
  have hin7 : ∀ w ∈ wsX70, w ∈ wsX11_many := fun w h => List.mem_cons_of_mem _ (List.mem_append_right _ h)
  have hw0 := hts (.fieldLink RX11 18 "SkyClocks" "stars" "[LSkyClocks$Star;") (List.mem_of_getElem? (i := 1) rfl)
  have hw1 : va_Nw (.fieldLinkNest RX11 114 "SkyClocks$Star" "seen" "I" "SkyClocks") s := hN _ (List.mem_of_getElem? (i := 11) rfl)
  have hl := lv_entry ([.ref (z + this), .int a1]) (n := 2) (Nat.le_of_ble_eq_true rfl)
  rw [lg_entry_eq]
  generalize (lg_sl ([.ref (z + this), .int a1]) ++ List.replicate (2 - (lg_sl ([.ref (z + this), .int a1])).length) Slot.unset).toArray = ls at hl ⊢
  have hl : lv_has ls 2 [(0, .ref (z + this)), (1, .int a1)] := hl
  refine lv_iload_n hx hb dX11_many_0 rfl (lv_at hl 1 rfl) ?_
  obtain ⟨r_3, σ_2, hc_1, hf⟩ := g_bnd hf
  refine q_calli (va_runS (As := [.int a1]) (rest := []) ⟨hx, hb, hml, hown, hts⟩ (k_X11_isStar l z n D cy Y hc_1) (va_cwS 1 hts gX11_many_X11_isStar rfl rfl rfl (by decide +kernel) ⟨Nat.le_of_ble_eq_true rfl, Nat.le_of_ble_eq_true rfl⟩) (q_PS hK hN hW) rfl rfl hl.1 rfl (lv_room (Nat.le_of_ble_eq_true rfl)) dX11_many_1 ⟨Nat.le_refl _, Nat.le_refl _⟩) hS (fun H locs hW hS => ?_)
  refine lv_if_eq (tgt := 19) hx hb dX11_many_4 (by decide) (fun c => ?_) (fun c => ?_)
  · have hf := g_pos c hf
    refine lv_iconst (v := (-1)) hx hb dX11_many_19 (by decide) ?_
    exact q_iret hx hb hr hlocks hW hS hf dX11_many_20
  · have hf := g_neg c hf
    refine lv_aload_n hx hb dX11_many_7 rfl (lv_at hl 0 rfl) ?_
    refine q_getp (own := RX11) (ref := RX11) (C := RX11) (T := TX11) (N := 10) (kc := 8) (ci := 0) hx hb hts hin11 hown hK hW h_this (by decide) rfl 1 (by decide) hw0 rfl rfl rfl (v := 7) rfl dX11_many_8 (fun hk_4 hq_5 => ?_)
    refine lv_iload_n hx hb dX11_many_11 rfl (lv_at hl 1 rfl) ?_
    obtain ⟨hi_6, hf⟩ := g_in hf
    refine q_aalp (kc := 14) (t := 4) hx hb hK hW hk_4 rfl (inb_of hq_5 hi_6) rfl dX11_many_12 (fun hk_7 hq_8 => ?_)
    refine q_getiN (own := RX11) (ref := RX7) (C := RX7) (T := TX7) (N := 4) (kc := 4) (ci := 0) (host := "SkyClocks") hx hb hts hin7 hown hK hW hk_7 (by decide) rfl 3 (by decide) hw1 rfl rfl dX11_many_13 ?_
    refine lv_goto (tgt := 20) hx hb dX11_many_16 (by decide) ?_
    exact q_iret hx hb hr hlocks hW hS hf dX11_many_20
set_option maxRecDepth 100000 in
set_option maxHeartbeats 40000000 in
theorem k_X11_model (l : Launch) (z n : Nat) (D : va_G) (cy : Nat → ClassId) (Y : Yt) {fu : Nat} {this : Nat} {a1 : Int32} {σ : Mm} {r : Int32} {σ1 : Mm} (h_this : okk Y n 8 this) (hf : f_X11_model Y fu this a1 σ = some (r, σ1)) : Ki l yX11_model wsX11_model ({ frames := 7, cells := 0, slots := 0, locals := 156 } : Room) z n D cy Y [.ref (z + this), .int a1] σ r σ1 := by
  refine Met.ofW (cc := cX11_model) (maxL := 3) (ret := (some .int)) (by decide +kernel) rfl ?_
  intro p e s m args below meth c s₁ B hml hv
  obtain ⟨rfl, hW, hK, hN⟩ := hv
  have hx := B.exec
  have hb := B.bytes
  have hr := B.returns
  have hts := atoms_spec (ws := wsX11_model) B.pre
  have hown : s.vm.findClass RX11 = some m.cls := findClass_of_methodNamed B.named
  have hlocks := B.notSynchronized
  have hS : va_S (Az z) s.heap s.heap [] := va_S.rf
  have hin11 : ∀ w ∈ wsX110, w ∈ wsX11_model := fun w h => List.mem_cons_of_mem _ (List.mem_append_left _ (List.mem_append_left _ (List.mem_append_left _ (List.mem_append_right _ h))))
  have hin4 : ∀ w ∈ wsX40, w ∈ wsX11_model := fun w h => List.mem_cons_of_mem _ (List.mem_append_left _ (List.mem_append_left _ (List.mem_append_right _ h)))
  have hw0 := hts (.fieldLink RX11 31 "SkyClocks" "text" "LSkyClocks$Text;") (List.mem_of_getElem? (i := 1) rfl)
  have hw1 := hts (.fieldLink RX11 38 "SkyClocks" "draft" "LSkyClocks$Model;") (List.mem_of_getElem? (i := 2) rfl)
  have hw2 : va_Nw (.fieldLinkNest RX11 140 "SkyClocks$Model" "items" "I" "SkyClocks") s := hN _ (List.mem_of_getElem? (i := 6) rfl)
  have hw3 := hts (.fieldLink RX11 24 "SkyClocks" "clocks" "[LSkyClocks$Turns;") (List.mem_of_getElem? (i := 3) rfl)
  have hl := lv_entry ([.ref (z + this), .int a1]) (n := 3) (Nat.le_of_ble_eq_true rfl)
  rw [lg_entry_eq]
  generalize (lg_sl ([.ref (z + this), .int a1]) ++ List.replicate (3 - (lg_sl ([.ref (z + this), .int a1])).length) Slot.unset).toArray = ls at hl ⊢
  have hl : lv_has ls 3 [(0, .ref (z + this)), (1, .int a1)] := hl
  refine lv_iload_n hx hb dX11_model_0 rfl (lv_at hl 1 rfl) ?_
  obtain ⟨r_3, σ_2, hc_1, hf⟩ := g_bnd hf
  refine q_calli (va_runS (As := [.int a1]) (rest := []) ⟨hx, hb, hml, hown, hts⟩ (k_X11_isStar l z n D cy Y hc_1) (va_cwS 1 hts gX11_model_X11_isStar rfl rfl rfl (by decide +kernel) ⟨Nat.le_of_ble_eq_true rfl, Nat.le_of_ble_eq_true rfl⟩) (q_PS hK hN hW) rfl rfl hl.1 rfl (lv_room (Nat.le_of_ble_eq_true rfl)) dX11_model_1 ⟨Nat.le_refl _, Nat.le_refl _⟩) hS (fun H locs hW hS => ?_)
  refine lv_if_ne (tgt := 9) hx hb dX11_model_4 (by decide) (fun c => ?_) (fun c => ?_)
  · have hf := g_neg c hf
    refine lv_aload_n hx hb dX11_model_9 rfl (lv_at hl 0 rfl) ?_
    refine q_getp (own := RX11) (ref := RX11) (C := RX11) (T := TX11) (N := 10) (kc := 8) (ci := 0) hx hb hts hin11 hown hK hW h_this (by decide) rfl 3 (by decide) hw0 rfl rfl rfl (v := 9) rfl dX11_model_10 (fun hk_4 hq_5 => ?_)
    refine lv_aload_n hx hb dX11_model_13 rfl (lv_at hl 0 rfl) ?_
    refine q_getr (own := RX11) (ref := RX11) (C := RX11) (T := TX11) (N := 10) (kc := 8) (ci := 0) hx hb hts hin11 hown hK hW h_this (by decide) rfl 4 (by decide) hw1 rfl rfl dX11_model_14 (fun hk_6 => ?_)
    obtain ⟨r_9, σ_8, hc_7, hf⟩ := g_bnd hf
    refine q_calli (va_runV (As := [.ref (z + (Mm.gr σ_2 this 4))]) (rest := []) ⟨hx, hb, hml, hown, hts⟩ (k_X9_read l z n D cy Y hk_4 hk_6 hc_7) (cwV 1 hts gX11_model_X9_read rfl rfl rfl (by decide +kernel) ⟨Nat.le_of_ble_eq_true rfl, Nat.le_of_ble_eq_true rfl⟩) (q_PV (T := TX9) (N := 4) hK hN hW hk_4 (by decide) rfl) rfl rfl hl.1 rfl (lv_room (Nat.le_of_ble_eq_true rfl)) dX11_model_17 ⟨Nat.le_refl _, Nat.le_refl _⟩) hS (fun H locs hW hS => ?_)
    refine lv_bipush (v := (-4)) hx hb dX11_model_20 (by decide) ?_
    refine lv_icmp_eq (tgt := 28) hx hb dX11_model_22 (by decide) (fun c => ?_) (fun c => ?_)
    · have hf := g_pos c hf
      refine lv_aload_n hx hb dX11_model_28 rfl (lv_at hl 0 rfl) ?_
      refine q_getr (own := RX11) (ref := RX11) (C := RX11) (T := TX11) (N := 10) (kc := 8) (ci := 0) hx hb hts hin11 hown hK hW h_this (by decide) rfl 4 (by decide) hw1 rfl rfl dX11_model_29 (fun hk_10 => ?_)
      refine q_getiN (own := RX11) (ref := RX4) (C := RX4) (T := TX4) (N := 12) (kc := 2) (ci := 0) (host := "SkyClocks") hx hb hts hin4 hown hK hW hk_10 (by decide) rfl 0 (by decide) hw2 rfl rfl dX11_model_32 ?_
      refine lv_topi (fun x2_11 ex2_11 => ?_)
      have hf := g_lt ex2_11 hf
      refine lv_istore_n (lv' := [(2, .int x2_11), (0, .ref (z + this)), (1, .int a1)]) hx hb dX11_model_35 rfl hl (by decide) rfl (fun ls hl => ?_)
      refine lv_aload_n hx hb dX11_model_36 rfl (lv_at hl 1 rfl) ?_
      refine lv_aload_n hx hb dX11_model_37 rfl (lv_at hl 1 rfl) ?_
      refine q_getp (own := RX11) (ref := RX11) (C := RX11) (T := TX11) (N := 10) (kc := 8) (ci := 0) hx hb hts hin11 hown hK hW h_this (by decide) rfl 2 (by decide) hw3 rfl rfl rfl (v := 8) rfl dX11_model_38 (fun hk_12 hq_13 => ?_)
      refine lv_iload_n hx hb dX11_model_41 rfl (lv_at hl 2 rfl) ?_
      obtain ⟨hi_14, hf⟩ := g_in hf
      refine q_aalp (kc := 15) (t := 7) hx hb hK hW hk_12 rfl (inb_of hq_13 hi_14) rfl dX11_model_42 (fun hk_15 hq_16 => ?_)
      refine lv_aload_n hx hb dX11_model_43 rfl (lv_at hl 1 rfl) ?_
      refine q_getr (own := RX11) (ref := RX11) (C := RX11) (T := TX11) (N := 10) (kc := 8) (ci := 0) hx hb hts hin11 hown hK hW h_this (by decide) rfl 4 (by decide) hw1 rfl rfl dX11_model_44 (fun hk_17 => ?_)
      obtain ⟨r_20, σ_19, hc_18, hf⟩ := g_bnd hf
      refine q_callr (va_runV (As := [.ref (z + (Mm.gr σ_8 this 4))]) (rest := [.ref (z + this)]) ⟨hx, hb, hml, hown, hts⟩ (k_X10_exchange l z n D cy Y hk_15 hk_17 hc_18) (cwV 1 hts gX11_model_X10_exchange rfl rfl rfl (by decide +kernel) ⟨Nat.le_of_ble_eq_true rfl, Nat.le_of_ble_eq_true rfl⟩) (q_PV (T := TX10) (N := 3) hK hN hW hk_15 (by decide) rfl) rfl rfl hl.1 rfl (lv_room (Nat.le_of_ble_eq_true rfl)) dX11_model_47 ⟨Nat.le_refl _, Nat.le_refl _⟩) hS (fun H locs hk_21 hW hS => ?_)
      refine q_putr (own := RX11) (ref := RX11) (C := RX11) (T := TX11) (N := 10) (kc := 8) (ci := 0) hx hb hts hin11 tyX11_ok nmX11 hown hK hW hS h_this (by decide) rfl 4 (by decide) hw1 rfl rfl (ty := tyX11 4) (tyX11_ok 4 (by decide)) rfl rfl rfl rfl hk_21 dX11_model_50 (fun H locs hW hS => ?_)
      obtain ⟨σ_22, eσ_22⟩ : ∃ y : Mm, y = (Mm.sr σ_19 this 4 r_20) := ⟨_, rfl⟩
      rw [← eσ_22] at hW
      have hf := g_lt eσ_22 hf
      refine lv_iload_n hx hb dX11_model_53 rfl (lv_at hl 0 rfl) ?_
      exact q_iret hx hb hr hlocks hW hS hf dX11_model_54
    · have hf := g_neg c hf
      refine lv_bipush (v := (-2)) hx hb dX11_model_25 (by decide) ?_
      exact q_iret hx hb hr hlocks hW hS hf dX11_model_27
  · have hf := g_pos c hf
    refine lv_iconst (v := (-1)) hx hb dX11_model_7 (by decide) ?_
    exact q_iret hx hb hr hlocks hW hS hf dX11_model_8
set_option maxRecDepth 100000 in
set_option maxHeartbeats 40000000 in
theorem k_X11_moved (l : Launch) (z n : Nat) (D : va_G) (cy : Nat → ClassId) (Y : Yt) {fu : Nat} {this : Nat} {a1 : Int32} {σ : Mm} {r : Int64} {σ1 : Mm} (h_this : okk Y n 8 this) (hf : f_X11_moved Y fu this a1 σ = some (r, σ1)) : Kl l yX11_moved wsX11_moved ({ frames := 5, cells := 0, slots := 0, locals := 135 } : Room) z n D cy Y [.ref (z + this), .int a1] σ r σ1 := by
  refine Met.ofW (cc := cX11_moved) (maxL := 5) (ret := (some .long)) (by decide +kernel) rfl ?_
  intro p e s m args below meth c s₁ B hml hv
  obtain ⟨rfl, hW, hK, hN⟩ := hv
  have hx := B.exec
  have hb := B.bytes
  have hr := B.returns
  have hts := atoms_spec (ws := wsX11_moved) B.pre
  have hown : s.vm.findClass RX11 = some m.cls := findClass_of_methodNamed B.named
  have hlocks := B.notSynchronized
  have hS : va_S (Az z) s.heap s.heap [] := va_S.rf
  have hin11 : ∀ w ∈ wsX110, w ∈ wsX11_moved := fun w h => List.mem_cons_of_mem _ (List.mem_append_left _ (List.mem_append_left _ (List.mem_append_left _ (List.mem_append_left _ (List.mem_append_right _ h)))))
  have hin7 : ∀ w ∈ wsX70, w ∈ wsX11_moved := fun w h => List.mem_cons_of_mem _ (List.mem_append_left _ (List.mem_append_left _ (List.mem_append_left _ (List.mem_append_right _ h))))
  have hw0 := hts (.fieldLink RX11 24 "SkyClocks" "clocks" "[LSkyClocks$Turns;") (List.mem_of_getElem? (i := 2) rfl)
  have hw1 := hts (.fieldLink RX11 18 "SkyClocks" "stars" "[LSkyClocks$Star;") (List.mem_of_getElem? (i := 4) rfl)
  have hw2 : va_Nw (.fieldLinkNest RX11 114 "SkyClocks$Star" "seen" "I" "SkyClocks") s := hN _ (List.mem_of_getElem? (i := 11) rfl)
  have hw3 := hts (.methodLink RX11 248 Lib.Math.abs.name) (List.mem_of_getElem? (i := 5) rfl)
  have hw4 := hts (.static Lib.Math.abs.name) (List.mem_of_getElem? (i := 6) rfl)
  have hw5 := hts (.initialized "java/lang/Math") (List.mem_of_getElem? (i := 7) rfl)
  have hw6 := hts (.code Lib.Math.abs.name Lib.Math.abs.code 1 (some .int)) (List.mem_of_getElem? (i := 8) rfl)
  have hw7 := hts (.constantLong RX11 156 (-2)) (List.mem_of_getElem? (i := 3) rfl)
  have hw8 := hts (.constantLong RX11 147 (-1)) (List.mem_of_getElem? (i := 1) rfl)
  have hl := lv_entry ([.ref (z + this), .int a1]) (n := 5) (Nat.le_of_ble_eq_true rfl)
  rw [lg_entry_eq]
  generalize (lg_sl ([.ref (z + this), .int a1]) ++ List.replicate (5 - (lg_sl ([.ref (z + this), .int a1])).length) Slot.unset).toArray = ls at hl ⊢
  have hl : lv_has ls 5 [(0, .ref (z + this)), (1, .int a1)] := hl
  have B32 : ∀ (nn : Nat) (x2 : Int64) (x4 : Int32) (σ : Mm), b_X11_moved_32 Y fu this a1 nn x2 x4 σ = some (r, σ1) → ∀ (H : Heap) (locs : List Loc) (ls : Array Slot), WH z n D cy Y σ H → va_S (Az z) s.heap H locs → lv_has ls 5 [(0, .ref (z + this)), (1, .int a1), (2, .long x2), (4, .int x4)] → W p l e ({ frames := 5, cells := 0, slots := 0, locals := 135 } : Room) s m ([.ref (z + this), .int a1] : List Value).toArray below meth c H locs 0 0 (MQ below (va_Ql (fun (x : Int64) (_ : Unit) => x = r) (fun _ t => WH z n D cy Y σ1 t.heap) (Az z)) ([.ref (z + this), .int a1] : List Value).toArray s 0 0 (Az z)) (F0 m 32 ls []) := by
    intro nn
    induction nn with
    | zero =>
      intro x2 x4 σ  hf
      have h9 : (none : Option (Int64 × Mm)) = some (r, σ1) := hf
      cases h9
    | succ nn H32 =>
      intro x2 x4 σ  hf H locs ls hW hS hl
      have hf : s_X11_moved_32 Y fu this a1 (b_X11_moved_32 Y fu this a1 nn) x2 x4 σ = some (r, σ1) := hf
      generalize hkk : b_X11_moved_32 Y fu this a1 nn = k32 at hf H32
      refine lv_iload hx hb dX11_moved_32 (lv_at hl 3 rfl) ?_
      refine lv_aload_n hx hb dX11_moved_34 rfl (lv_at hl 0 rfl) ?_
      refine q_getp (own := RX11) (ref := RX11) (C := RX11) (T := TX11) (N := 10) (kc := 8) (ci := 0) hx hb hts hin11 hown hK hW h_this (by decide) rfl 1 (by decide) hw1 rfl rfl rfl (v := 7) rfl dX11_moved_35 (fun hk_12 hq_13 => ?_)
      refine lv_iload_n hx hb dX11_moved_38 rfl (lv_at hl 1 rfl) ?_
      obtain ⟨hi_14, hf⟩ := g_in hf
      refine q_aalp (kc := 14) (t := 4) hx hb hK hW hk_12 rfl (inb_of hq_13 hi_14) rfl dX11_moved_39 (fun hk_15 hq_16 => ?_)
      refine q_getiN (own := RX11) (ref := RX7) (C := RX7) (T := TX7) (N := 4) (kc := 4) (ci := 0) (host := "SkyClocks") hx hb hts hin7 hown hK hW hk_15 (by decide) rfl 3 (by decide) hw2 rfl rfl dX11_moved_40 ?_
      refine lv_icmp_ge (tgt := 76) hx hb dX11_moved_43 (by decide) (fun c => ?_) (fun c => ?_)
      · have hf := g_pos c hf
        refine lv_lload_n hx hb dX11_moved_76 rfl (lv_at hl 2 rfl) ?_
        exact q_lret hx hb hr hlocks hW hS hf dX11_moved_77
      · have hf := g_neg c hf
        refine lv_lload_n hx hb dX11_moved_46 rfl (lv_at hl 2 rfl) ?_
        refine lv_aload_n hx hb dX11_moved_47 rfl (lv_at hl 0 rfl) ?_
        refine lv_iload_n hx hb dX11_moved_48 rfl (lv_at hl 1 rfl) ?_
        refine lv_iload hx hb dX11_moved_49 (lv_at hl 3 rfl) ?_
        refine lv_iconst (v := 1) hx hb dX11_moved_51 (by decide) ?_
        obtain ⟨r_19, σ_18, hc_17, hf⟩ := g_bnd hf
        refine q_calli (va_runV (As := [.int a1, .int x4, .int 1]) (rest := [.long x2]) ⟨hx, hb, hml, hown, hts⟩ (k_X11_residueBy l z n D cy Y h_this hc_17) (cwV 3 hts gX11_moved_X11_residueBy rfl rfl rfl (by decide +kernel) ⟨Nat.le_of_ble_eq_true rfl, Nat.le_of_ble_eq_true rfl⟩) (q_PV (T := TX11) (N := 10) hK hN hW h_this (by decide) rfl) rfl rfl hl.1 rfl (lv_room (Nat.le_of_ble_eq_true rfl)) dX11_moved_52 ⟨Nat.le_refl _, Nat.le_refl _⟩) hS (fun H locs hW hS => ?_)
        refine lv_aload_n hx hb dX11_moved_55 rfl (lv_at hl 0 rfl) ?_
        refine lv_iload_n hx hb dX11_moved_56 rfl (lv_at hl 1 rfl) ?_
        refine lv_iload hx hb dX11_moved_57 (lv_at hl 3 rfl) ?_
        refine lv_iconst (v := 0) hx hb dX11_moved_59 (by decide) ?_
        obtain ⟨r_22, σ_21, hc_20, hf⟩ := g_bnd hf
        refine q_calli (va_runV (As := [.int a1, .int x4, .int 0]) (rest := [.int r_19, .long x2]) ⟨hx, hb, hml, hown, hts⟩ (k_X11_residueBy l z n D cy Y h_this hc_20) (cwV 3 hts gX11_moved_X11_residueBy rfl rfl rfl (by decide +kernel) ⟨Nat.le_of_ble_eq_true rfl, Nat.le_of_ble_eq_true rfl⟩) (q_PV (T := TX11) (N := 10) hK hN hW h_this (by decide) rfl) rfl rfl hl.1 rfl (lv_room (Nat.le_of_ble_eq_true rfl)) dX11_moved_60 ⟨Nat.le_refl _, Nat.le_refl _⟩) hS (fun H locs hW hS => ?_)
        refine lv_isub hx hb dX11_moved_63 ?_
        refine va_mabs hx hb (by rw [hml]; exact hl.1.symm) hown hw3 hw4 hw5 hw6 (Nat.le_of_ble_eq_true rfl) (Nat.le_of_ble_eq_true rfl) (Nat.zero_le _) (Nat.zero_le _) dX11_moved_64 ?_
        refine lv_i2l hx hb dX11_moved_67 rfl ?_
        refine lv_ladd hx hb dX11_moved_68 ?_
        refine lv_topl (fun x2_23 ex2_23 => ?_)
        have hf := g_lt ex2_23 hf
        refine lv_lstore_n (lv' := [(2, .long x2_23), (0, .ref (z + this)), (1, .int a1), (4, .int x4)]) hx hb dX11_moved_69 rfl hl (by decide) rfl (fun ls hl => ?_)
        obtain ⟨x4_24, ex4_24⟩ : ∃ y : Int32, y = x4 + 1 := ⟨_, rfl⟩
        have hf := g_lt ex4_24 hf
        refine lv_iinc (v := x4_24) (lv' := [(4, .int x4_24), (2, .long x2_23), (0, .ref (z + this)), (1, .int a1)]) hx hb dX11_moved_70 hl (k := 3) rfl (by rw [ex4_24]; rfl) (by decide) rfl (fun ls hl => ?_)
        refine lv_goto (tgt := 32) hx hb dX11_moved_73 (by decide) ?_
        exact H32 x2_23 x4_24 σ_21 hf _ _ _ hW hS (lv_sub hl [2, 3, 1, 0] rfl)
  refine lv_iload_n hx hb dX11_moved_0 rfl (lv_at hl 1 rfl) ?_
  obtain ⟨r_3, σ_2, hc_1, hf⟩ := g_bnd hf
  refine q_calli (va_runS (As := [.int a1]) (rest := []) ⟨hx, hb, hml, hown, hts⟩ (k_X11_isStar l z n D cy Y hc_1) (va_cwS 1 hts gX11_moved_X11_isStar rfl rfl rfl (by decide +kernel) ⟨Nat.le_of_ble_eq_true rfl, Nat.le_of_ble_eq_true rfl⟩) (q_PS hK hN hW) rfl rfl hl.1 rfl (lv_room (Nat.le_of_ble_eq_true rfl)) dX11_moved_1 ⟨Nat.le_refl _, Nat.le_refl _⟩) hS (fun H locs hW hS => ?_)
  refine lv_if_ne (tgt := 11) hx hb dX11_moved_4 (by decide) (fun c => ?_) (fun c => ?_)
  · have hf := g_neg c hf
    refine lv_aload_n hx hb dX11_moved_11 rfl (lv_at hl 0 rfl) ?_
    refine q_getp (own := RX11) (ref := RX11) (C := RX11) (T := TX11) (N := 10) (kc := 8) (ci := 0) hx hb hts hin11 hown hK hW h_this (by decide) rfl 2 (by decide) hw0 rfl rfl rfl (v := 8) rfl dX11_moved_12 (fun hk_4 hq_5 => ?_)
    refine lv_iload_n hx hb dX11_moved_15 rfl (lv_at hl 1 rfl) ?_
    obtain ⟨hi_6, hf⟩ := g_in hf
    refine q_aalp (kc := 15) (t := 7) hx hb hK hW hk_4 rfl (inb_of hq_5 hi_6) rfl dX11_moved_16 (fun hk_7 hq_8 => ?_)
    obtain ⟨r_11, σ_10, hc_9, hf⟩ := g_bnd hf
    refine q_calli (va_runV (As := []) (rest := []) ⟨hx, hb, hml, hown, hts⟩ (k_X10_stands l z n D cy Y hk_7 hc_9) (cwV 0 hts gX11_moved_X10_stands rfl rfl rfl (by decide +kernel) ⟨Nat.le_of_ble_eq_true rfl, Nat.le_of_ble_eq_true rfl⟩) (q_PV (T := TX10) (N := 3) hK hN hW hk_7 (by decide) rfl) rfl rfl hl.1 rfl (lv_room (Nat.le_of_ble_eq_true rfl)) dX11_moved_17 ⟨Nat.le_refl _, Nat.le_refl _⟩) hS (fun H locs hW hS => ?_)
    refine lv_if_ne (tgt := 27) hx hb dX11_moved_20 (by decide) (fun c => ?_) (fun c => ?_)
    · have hf := g_neg c hf
      refine lv_lconst (v := 0) hx hb dX11_moved_27 (by decide) ?_
      refine lv_lstore_n (lv' := [(2, .long 0), (0, .ref (z + this)), (1, .int a1)]) hx hb dX11_moved_28 rfl hl (by decide) rfl (fun ls hl => ?_)
      refine lv_iconst (v := 0) hx hb dX11_moved_29 (by decide) ?_
      refine lv_istore (lv' := [(4, .int 0), (2, .long 0), (0, .ref (z + this)), (1, .int a1)]) hx hb dX11_moved_30 hl (by decide) rfl (fun ls hl => ?_)
      exact B32 fu 0 0 σ_10 hf _ _ _ hW hS (lv_sub hl [2, 3, 1, 0] rfl)
    · have hf := g_pos c hf
      refine lv_ldc2 hx hb hown hw7 dX11_moved_23 ?_
      exact q_lret hx hb hr hlocks hW hS hf dX11_moved_26
  · have hf := g_pos c hf
    refine lv_ldc2 hx hb hown hw8 dX11_moved_7 ?_
    exact q_lret hx hb hr hlocks hW hS hf dX11_moved_10
set_option maxRecDepth 100000 in
set_option maxHeartbeats 40000000 in
theorem k_X11_offset (l : Launch) (z n : Nat) (D : va_G) (cy : Nat → ClassId) (Y : Yt) {this : Nat} {a1 : Int32} {a2 : Int32} {σ : Mm} {r : Int32} {σ1 : Mm} (h_this : okk Y n 8 this) (hf : f_X11_offset Y this a1 a2 σ = some (r, σ1)) : Ki l yX11_offset wsX11_offset ({ frames := 2, cells := 0, slots := 0, locals := 42 } : Room) z n D cy Y [.ref (z + this), .int a1, .int a2] σ r σ1 := by
  refine Met.ofW (cc := cX11_offset) (maxL := 4) (ret := (some .int)) (by decide +kernel) rfl ?_
  intro p e s m args below meth c s₁ B hml hv
  obtain ⟨rfl, hW, hK, hN⟩ := hv
  have hx := B.exec
  have hb := B.bytes
  have hr := B.returns
  have hts := atoms_spec (ws := wsX11_offset) B.pre
  have hown : s.vm.findClass RX11 = some m.cls := findClass_of_methodNamed B.named
  have hlocks := B.notSynchronized
  have hS : va_S (Az z) s.heap s.heap [] := va_S.rf
  have hin11 : ∀ w ∈ wsX110, w ∈ wsX11_offset := fun w h => List.mem_cons_of_mem _ (List.mem_append_left _ (List.mem_append_right _ h))
  have hin8 : ∀ w ∈ wsX80, w ∈ wsX11_offset := fun w h => List.mem_cons_of_mem _ (List.mem_append_right _ h)
  have hw0 := hts (.constant RX11 97 (-100000)) (List.mem_of_getElem? (i := 1) rfl)
  have hw1 := hts (.fieldLink RX11 10 "SkyClocks" "tables" "LSkyClocks$Tables;") (List.mem_of_getElem? (i := 2) rfl)
  have hw2 : va_Nw (.fieldLinkNest RX11 98 "SkyClocks$Tables" "offsets" "[I" "SkyClocks") s := hN _ (List.mem_of_getElem? (i := 0) rfl)
  have hl := lv_entry ([.ref (z + this), .int a1, .int a2]) (n := 4) (Nat.le_of_ble_eq_true rfl)
  rw [lg_entry_eq]
  generalize (lg_sl ([.ref (z + this), .int a1, .int a2]) ++ List.replicate (4 - (lg_sl ([.ref (z + this), .int a1, .int a2])).length) Slot.unset).toArray = ls at hl ⊢
  have hl : lv_has ls 4 [(0, .ref (z + this)), (1, .int a1), (2, .int a2)] := hl
  refine lv_iload_n hx hb dX11_offset_0 rfl (lv_at hl 1 rfl) ?_
  obtain ⟨r_3, σ_2, hc_1, hf⟩ := g_bnd hf
  refine q_calli (va_runS (As := [.int a1]) (rest := []) ⟨hx, hb, hml, hown, hts⟩ (k_X11_isInstrument l z n D cy Y hc_1) (va_cwS 1 hts gX11_offset_X11_isInstrument rfl rfl rfl (by decide +kernel) ⟨Nat.le_of_ble_eq_true rfl, Nat.le_of_ble_eq_true rfl⟩) (q_PS hK hN hW) rfl rfl hl.1 rfl (lv_room (Nat.le_of_ble_eq_true rfl)) dX11_offset_1 ⟨Nat.le_refl _, Nat.le_refl _⟩) hS (fun H locs hW hS => ?_)
  refine lv_if_eq (tgt := 20) hx hb dX11_offset_4 (by decide) (fun c => ?_) (fun c => ?_)
  · have hf := g_pos c hf
    refine lv_ldc hx hb hown hw0 dX11_offset_20 ?_
    exact q_iret hx hb hr hlocks hW hS hf dX11_offset_22
  · have hf := g_neg c hf
    refine lv_iload_n hx hb dX11_offset_7 rfl (lv_at hl 2 rfl) ?_
    refine lv_sipush (v := (-1000)) hx hb dX11_offset_8 (by decide) ?_
    refine lv_sipush (v := 1000) hx hb dX11_offset_11 (by decide) ?_
    obtain ⟨r_6, σ_5, hc_4, hf⟩ := g_bnd hf
    refine q_calli (va_runS (As := [.int a2, .int (-1000), .int 1000]) (rest := []) ⟨hx, hb, hml, hown, hts⟩ (k_X11_within l z n D cy Y hc_4) (va_cwS 3 hts gX11_offset_X11_within rfl rfl rfl (by decide +kernel) ⟨Nat.le_of_ble_eq_true rfl, Nat.le_of_ble_eq_true rfl⟩) (q_PS hK hN hW) rfl rfl hl.1 rfl (lv_room (Nat.le_of_ble_eq_true rfl)) dX11_offset_14 ⟨Nat.le_refl _, Nat.le_refl _⟩) hS (fun H locs hW hS => ?_)
    refine lv_if_ne (tgt := 23) hx hb dX11_offset_17 (by decide) (fun c => ?_) (fun c => ?_)
    · have hf := g_neg c hf
      refine lv_aload_n hx hb dX11_offset_23 rfl (lv_at hl 0 rfl) ?_
      refine q_getp (own := RX11) (ref := RX11) (C := RX11) (T := TX11) (N := 10) (kc := 8) (ci := 0) hx hb hts hin11 hown hK hW h_this (by decide) rfl 0 (by decide) hw1 rfl rfl rfl (v := 2) rfl dX11_offset_24 (fun hk_7 hq_8 => ?_)
      refine q_getpN (own := RX11) (ref := RX8) (C := RX8) (T := TX8) (N := 4) (kc := 5) (ci := 0) (host := "SkyClocks") hx hb hts hin8 hown hK hW hk_7 (by decide) rfl 0 (by decide) hw2 rfl rfl rfl (v := 3) rfl dX11_offset_27 (fun hk_9 hq_10 => ?_)
      refine lv_iload_n hx hb dX11_offset_30 rfl (lv_at hl 1 rfl) ?_
      obtain ⟨hi_11, hf⟩ := g_in hf
      refine q_iald hx hb hK hW hk_9 (inb_of hq_10 hi_11) dX11_offset_31 ?_
      refine lv_topi (fun x3_12 ex3_12 => ?_)
      have hf := g_lt ex3_12 hf
      refine lv_istore_n (lv' := [(3, .int x3_12), (0, .ref (z + this)), (1, .int a1), (2, .int a2)]) hx hb dX11_offset_32 rfl hl (by decide) rfl (fun ls hl => ?_)
      refine lv_aload_n hx hb dX11_offset_33 rfl (lv_at hl 1 rfl) ?_
      refine q_getp (own := RX11) (ref := RX11) (C := RX11) (T := TX11) (N := 10) (kc := 8) (ci := 0) hx hb hts hin11 hown hK hW h_this (by decide) rfl 0 (by decide) hw1 rfl rfl rfl (v := 2) rfl dX11_offset_34 (fun hk_13 hq_14 => ?_)
      refine q_getpN (own := RX11) (ref := RX8) (C := RX8) (T := TX8) (N := 4) (kc := 5) (ci := 0) (host := "SkyClocks") hx hb hts hin8 hown hK hW hk_13 (by decide) rfl 0 (by decide) hw2 rfl rfl rfl (v := 3) rfl dX11_offset_37 (fun hk_15 hq_16 => ?_)
      refine lv_iload_n hx hb dX11_offset_40 rfl (lv_at hl 2 rfl) ?_
      refine lv_iload_n hx hb dX11_offset_41 rfl (lv_at hl 3 rfl) ?_
      obtain ⟨hi_17, hf⟩ := g_in hf
      refine q_iast hx hb hK hW hS hk_15 (inb_of hq_16 hi_17) dX11_offset_42 (fun H locs hW hS => ?_)
      obtain ⟨σ_18, eσ_18⟩ : ∃ y : Mm, y = (Mm.si σ_5 3 (ix a1) a2) := ⟨_, rfl⟩
      rw [← eσ_18] at hW
      have hf := g_lt eσ_18 hf
      refine lv_iload_n hx hb dX11_offset_43 rfl (lv_at hl 0 rfl) ?_
      exact q_iret hx hb hr hlocks hW hS hf dX11_offset_44
    · have hf := g_pos c hf
      refine lv_ldc hx hb hown hw0 dX11_offset_20 ?_
      exact q_iret hx hb hr hlocks hW hS hf dX11_offset_22
set_option maxRecDepth 100000 in
set_option maxHeartbeats 40000000 in
theorem k_X11_hasResidue (l : Launch) (z n : Nat) (D : va_G) (cy : Nat → ClassId) (Y : Yt) {this : Nat} {a1 : Int32} {a2 : Int32} {σ : Mm} {r : Int32} {σ1 : Mm} (h_this : okk Y n 8 this) (hf : f_X11_hasResidue Y this a1 a2 σ = some (r, σ1)) : Ki l yX11_hasResidue wsX11_hasResidue ({ frames := 1, cells := 0, slots := 0, locals := 20 } : Room) z n D cy Y [.ref (z + this), .int a1, .int a2] σ r σ1 := by
  refine Met.ofW (cc := cX11_hasResidue) (maxL := 3) (ret := (some .boolean)) (by decide +kernel) rfl ?_
  intro p e s m args below meth c s₁ B hml hv
  obtain ⟨rfl, hW, hK, hN⟩ := hv
  have hx := B.exec
  have hb := B.bytes
  have hr := B.returns
  have hts := atoms_spec (ws := wsX11_hasResidue) B.pre
  have hown : s.vm.findClass RX11 = some m.cls := findClass_of_methodNamed B.named
  have hlocks := B.notSynchronized
  have hS : va_S (Az z) s.heap s.heap [] := va_S.rf
  have hin11 : ∀ w ∈ wsX110, w ∈ wsX11_hasResidue := fun w h => List.mem_cons_of_mem _ (List.mem_append_left _ (List.mem_append_left _ (List.mem_append_right _ h)))
  have hin7 : ∀ w ∈ wsX70, w ∈ wsX11_hasResidue := fun w h => List.mem_cons_of_mem _ (List.mem_append_left _ (List.mem_append_right _ h))
  have hw0 := hts (.fieldLink RX11 24 "SkyClocks" "clocks" "[LSkyClocks$Turns;") (List.mem_of_getElem? (i := 1) rfl)
  have hw1 := hts (.fieldLink RX11 18 "SkyClocks" "stars" "[LSkyClocks$Star;") (List.mem_of_getElem? (i := 2) rfl)
  have hw2 : va_Nw (.fieldLinkNest RX11 114 "SkyClocks$Star" "seen" "I" "SkyClocks") s := hN _ (List.mem_of_getElem? (i := 11) rfl)
  have hl := lv_entry ([.ref (z + this), .int a1, .int a2]) (n := 3) (Nat.le_of_ble_eq_true rfl)
  rw [lg_entry_eq]
  generalize (lg_sl ([.ref (z + this), .int a1, .int a2]) ++ List.replicate (3 - (lg_sl ([.ref (z + this), .int a1, .int a2])).length) Slot.unset).toArray = ls at hl ⊢
  have hl : lv_has ls 3 [(0, .ref (z + this)), (1, .int a1), (2, .int a2)] := hl
  refine lv_aload_n hx hb dX11_hasResidue_0 rfl (lv_at hl 0 rfl) ?_
  refine q_getp (own := RX11) (ref := RX11) (C := RX11) (T := TX11) (N := 10) (kc := 8) (ci := 0) hx hb hts hin11 hown hK hW h_this (by decide) rfl 2 (by decide) hw0 rfl rfl rfl (v := 8) rfl dX11_hasResidue_1 (fun hk_1 hq_2 => ?_)
  refine lv_iload_n hx hb dX11_hasResidue_4 rfl (lv_at hl 1 rfl) ?_
  obtain ⟨hi_3, hf⟩ := g_in hf
  refine q_aalp (kc := 15) (t := 7) hx hb hK hW hk_1 rfl (inb_of hq_2 hi_3) rfl dX11_hasResidue_5 (fun hk_4 hq_5 => ?_)
  obtain ⟨r_8, σ_7, hc_6, hf⟩ := g_bnd hf
  refine q_calli (va_runV (As := []) (rest := []) ⟨hx, hb, hml, hown, hts⟩ (k_X10_stands l z n D cy Y hk_4 hc_6) (cwV 0 hts gX11_hasResidue_X10_stands rfl rfl rfl (by decide +kernel) ⟨Nat.le_of_ble_eq_true rfl, Nat.le_of_ble_eq_true rfl⟩) (q_PV (T := TX10) (N := 3) hK hN hW hk_4 (by decide) rfl) rfl rfl hl.1 rfl (lv_room (Nat.le_of_ble_eq_true rfl)) dX11_hasResidue_6 ⟨Nat.le_refl _, Nat.le_refl _⟩) hS (fun H locs hW hS => ?_)
  refine lv_if_eq (tgt := 29) hx hb dX11_hasResidue_9 (by decide) (fun c => ?_) (fun c => ?_)
  · have hf := g_pos c hf
    refine lv_iconst (v := 0) hx hb dX11_hasResidue_29 (by decide) ?_
    exact q_zret hx hb hr hlocks hW hS hf dX11_hasResidue_30
  · have hf := g_neg c hf
    refine lv_iload_n hx hb dX11_hasResidue_12 rfl (lv_at hl 2 rfl) ?_
    refine lv_aload_n hx hb dX11_hasResidue_13 rfl (lv_at hl 0 rfl) ?_
    refine q_getp (own := RX11) (ref := RX11) (C := RX11) (T := TX11) (N := 10) (kc := 8) (ci := 0) hx hb hts hin11 hown hK hW h_this (by decide) rfl 1 (by decide) hw1 rfl rfl rfl (v := 7) rfl dX11_hasResidue_14 (fun hk_9 hq_10 => ?_)
    refine lv_iload_n hx hb dX11_hasResidue_17 rfl (lv_at hl 1 rfl) ?_
    obtain ⟨hi_11, hf⟩ := g_in hf
    refine q_aalp (kc := 14) (t := 4) hx hb hK hW hk_9 rfl (inb_of hq_10 hi_11) rfl dX11_hasResidue_18 (fun hk_12 hq_13 => ?_)
    refine q_getiN (own := RX11) (ref := RX7) (C := RX7) (T := TX7) (N := 4) (kc := 4) (ci := 0) (host := "SkyClocks") hx hb hts hin7 hown hK hW hk_12 (by decide) rfl 3 (by decide) hw2 rfl rfl dX11_hasResidue_19 ?_
    refine lv_icmp_ge (tgt := 29) hx hb dX11_hasResidue_22 (by decide) (fun c => ?_) (fun c => ?_)
    · have hf := g_pos c hf
      refine lv_iconst (v := 0) hx hb dX11_hasResidue_29 (by decide) ?_
      exact q_zret hx hb hr hlocks hW hS hf dX11_hasResidue_30
    · have hf := g_neg c hf
      refine lv_iconst (v := 1) hx hb dX11_hasResidue_25 (by decide) ?_
      refine lv_goto (tgt := 30) hx hb dX11_hasResidue_26 (by decide) ?_
      exact q_zret hx hb hr hlocks hW hS hf dX11_hasResidue_30
set_option maxRecDepth 100000 in
set_option maxHeartbeats 40000000 in
theorem k_X11_residue (l : Launch) (z n : Nat) (D : va_G) (cy : Nat → ClassId) (Y : Yt) {fu : Nat} {this : Nat} {a1 : Int32} {a2 : Int32} {σ : Mm} {r : Int32} {σ1 : Mm} (h_this : okk Y n 8 this) (hf : f_X11_residue Y fu this a1 a2 σ = some (r, σ1)) : Ki l yX11_residue wsX11_residue ({ frames := 5, cells := 0, slots := 0, locals := 135 } : Room) z n D cy Y [.ref (z + this), .int a1, .int a2] σ r σ1 := by
  refine Met.ofW (cc := cX11_residue) (maxL := 3) (ret := (some .int)) (by decide +kernel) rfl ?_
  intro p e s m args below meth c s₁ B hml hv
  obtain ⟨rfl, hW, hK, hN⟩ := hv
  have hx := B.exec
  have hb := B.bytes
  have hr := B.returns
  have hts := atoms_spec (ws := wsX11_residue) B.pre
  have hown : s.vm.findClass RX11 = some m.cls := findClass_of_methodNamed B.named
  have hlocks := B.notSynchronized
  have hS : va_S (Az z) s.heap s.heap [] := va_S.rf
  have hin11 : ∀ w ∈ wsX110, w ∈ wsX11_residue := fun w h => List.mem_cons_of_mem _ (List.mem_append_left _ (List.mem_append_left _ (List.mem_append_left _ (List.mem_append_left _ (List.mem_append_right _ h)))))
  have hin8 : ∀ w ∈ wsX80, w ∈ wsX11_residue := fun w h => List.mem_cons_of_mem _ (List.mem_append_left _ (List.mem_append_left _ (List.mem_append_left _ (List.mem_append_right _ h))))
  have hw0 := hts (.constant RX11 158 (-1000000000)) (List.mem_of_getElem? (i := 1) rfl)
  have hw1 := hts (.constant RX11 166 (-1000000002)) (List.mem_of_getElem? (i := 3) rfl)
  have hw2 := hts (.fieldLink RX11 10 "SkyClocks" "tables" "LSkyClocks$Tables;") (List.mem_of_getElem? (i := 2) rfl)
  have hw3 : va_Nw (.fieldLinkNest RX11 105 "SkyClocks$Tables" "version" "I" "SkyClocks") s := hN _ (List.mem_of_getElem? (i := 2) rfl)
  have hl := lv_entry ([.ref (z + this), .int a1, .int a2]) (n := 3) (Nat.le_of_ble_eq_true rfl)
  rw [lg_entry_eq]
  generalize (lg_sl ([.ref (z + this), .int a1, .int a2]) ++ List.replicate (3 - (lg_sl ([.ref (z + this), .int a1, .int a2])).length) Slot.unset).toArray = ls at hl ⊢
  have hl : lv_has ls 3 [(0, .ref (z + this)), (1, .int a1), (2, .int a2)] := hl
  refine lv_iload_n hx hb dX11_residue_0 rfl (lv_at hl 1 rfl) ?_
  obtain ⟨r_3, σ_2, hc_1, hf⟩ := g_bnd hf
  refine q_calli (va_runS (As := [.int a1]) (rest := []) ⟨hx, hb, hml, hown, hts⟩ (k_X11_isStar l z n D cy Y hc_1) (va_cwS 1 hts gX11_residue_X11_isStar rfl rfl rfl (by decide +kernel) ⟨Nat.le_of_ble_eq_true rfl, Nat.le_of_ble_eq_true rfl⟩) (q_PS hK hN hW) rfl rfl hl.1 rfl (lv_room (Nat.le_of_ble_eq_true rfl)) dX11_residue_1 ⟨Nat.le_refl _, Nat.le_refl _⟩) hS (fun H locs hW hS => ?_)
  refine lv_if_eq (tgt := 14) hx hb dX11_residue_4 (by decide) (fun c => ?_) (fun c => ?_)
  · have hf := g_pos c hf
    refine lv_ldc hx hb hown hw0 dX11_residue_14 ?_
    exact q_iret hx hb hr hlocks hW hS hf dX11_residue_16
  · have hf := g_neg c hf
    refine lv_iload_n hx hb dX11_residue_7 rfl (lv_at hl 2 rfl) ?_
    obtain ⟨r_6, σ_5, hc_4, hf⟩ := g_bnd hf
    refine q_calli (va_runS (As := [.int a2]) (rest := []) ⟨hx, hb, hml, hown, hts⟩ (k_X11_isPlace l z n D cy Y hc_4) (va_cwS 1 hts gX11_residue_X11_isPlace rfl rfl rfl (by decide +kernel) ⟨Nat.le_of_ble_eq_true rfl, Nat.le_of_ble_eq_true rfl⟩) (q_PS hK hN hW) rfl rfl hl.1 rfl (lv_room (Nat.le_of_ble_eq_true rfl)) dX11_residue_8 ⟨Nat.le_refl _, Nat.le_refl _⟩) hS (fun H locs hW hS => ?_)
    refine lv_if_ne (tgt := 17) hx hb dX11_residue_11 (by decide) (fun c => ?_) (fun c => ?_)
    · have hf := g_neg c hf
      refine lv_aload_n hx hb dX11_residue_17 rfl (lv_at hl 0 rfl) ?_
      refine lv_iload_n hx hb dX11_residue_18 rfl (lv_at hl 1 rfl) ?_
      refine lv_iload_n hx hb dX11_residue_19 rfl (lv_at hl 2 rfl) ?_
      obtain ⟨r_9, σ_8, hc_7, hf⟩ := g_bnd hf
      refine q_calli (va_runV (As := [.int a1, .int a2]) (rest := []) ⟨hx, hb, hml, hown, hts⟩ (k_X11_hasResidue l z n D cy Y h_this hc_7) (cwV 2 hts gX11_residue_X11_hasResidue rfl rfl rfl (by decide +kernel) ⟨Nat.le_of_ble_eq_true rfl, Nat.le_of_ble_eq_true rfl⟩) (q_PV (T := TX11) (N := 10) hK hN hW h_this (by decide) rfl) rfl rfl hl.1 rfl (lv_room (Nat.le_of_ble_eq_true rfl)) dX11_residue_20 ⟨Nat.le_refl _, Nat.le_refl _⟩) hS (fun H locs hW hS => ?_)
      refine lv_if_eq (tgt := 42) hx hb dX11_residue_23 (by decide) (fun c => ?_) (fun c => ?_)
      · have hf := g_pos c hf
        refine lv_ldc hx hb hown hw1 dX11_residue_42 ?_
        exact q_iret hx hb hr hlocks hW hS hf dX11_residue_44
      · have hf := g_neg c hf
        refine lv_aload_n hx hb dX11_residue_26 rfl (lv_at hl 0 rfl) ?_
        refine lv_iload_n hx hb dX11_residue_27 rfl (lv_at hl 1 rfl) ?_
        refine lv_iload_n hx hb dX11_residue_28 rfl (lv_at hl 2 rfl) ?_
        refine lv_aload_n hx hb dX11_residue_29 rfl (lv_at hl 0 rfl) ?_
        refine q_getp (own := RX11) (ref := RX11) (C := RX11) (T := TX11) (N := 10) (kc := 8) (ci := 0) hx hb hts hin11 hown hK hW h_this (by decide) rfl 0 (by decide) hw2 rfl rfl rfl (v := 2) rfl dX11_residue_30 (fun hk_10 hq_11 => ?_)
        refine q_getiN (own := RX11) (ref := RX8) (C := RX8) (T := TX8) (N := 4) (kc := 5) (ci := 0) (host := "SkyClocks") hx hb hts hin8 hown hK hW hk_10 (by decide) rfl 2 (by decide) hw3 rfl rfl dX11_residue_33 ?_
        obtain ⟨r_14, σ_13, hc_12, hf⟩ := g_bnd hf
        refine q_calli (va_runV (As := [.int a1, .int a2, .int (Mm.gi σ_8 2 2)]) (rest := []) ⟨hx, hb, hml, hown, hts⟩ (k_X11_residueBy l z n D cy Y h_this hc_12) (cwV 3 hts gX11_residue_X11_residueBy rfl rfl rfl (by decide +kernel) ⟨Nat.le_of_ble_eq_true rfl, Nat.le_of_ble_eq_true rfl⟩) (q_PV (T := TX11) (N := 10) hK hN hW h_this (by decide) rfl) rfl rfl hl.1 rfl (lv_room (Nat.le_of_ble_eq_true rfl)) dX11_residue_36 ⟨Nat.le_refl _, Nat.le_refl _⟩) hS (fun H locs hW hS => ?_)
        refine lv_goto (tgt := 44) hx hb dX11_residue_39 (by decide) ?_
        exact q_iret hx hb hr hlocks hW hS hf dX11_residue_44
    · have hf := g_pos c hf
      refine lv_ldc hx hb hown hw0 dX11_residue_14 ?_
      exact q_iret hx hb hr hlocks hW hS hf dX11_residue_16
set_option maxRecDepth 100000 in
set_option maxHeartbeats 40000000 in
theorem k_X11_seeAll (l : Launch) (z n : Nat) (D : va_G) (cy : Nat → ClassId) (Y : Yt) {fu : Nat} {this : Nat} {σ : Mm} {σ1 : Mm} (h_this : okk Y n 8 this) (hf : f_X11_seeAll Y fu this σ = some σ1) : Kv l yX11_seeAll wsX11_seeAll ({ frames := 1, cells := 0, slots := 0, locals := 22 } : Room) z n D cy Y [.ref (z + this)] σ σ1 := by
  refine Met.ofW (cc := cX11_seeAll) (maxL := 2) (ret := none) (by decide +kernel) rfl ?_
  intro p e s m args below meth c s₁ B hml hv
  obtain ⟨rfl, hW, hK, hN⟩ := hv
  have hx := B.exec
  have hb := B.bytes
  have hr := B.returns
  have hts := atoms_spec (ws := wsX11_seeAll) B.pre
  have hown : s.vm.findClass RX11 = some m.cls := findClass_of_methodNamed B.named
  have hlocks := B.notSynchronized
  have hS : va_S (Az z) s.heap s.heap [] := va_S.rf
  have hin11 : ∀ w ∈ wsX110, w ∈ wsX11_seeAll := fun w h => List.mem_cons_of_mem _ (List.mem_append_left _ (List.mem_append_left _ (List.mem_append_right _ h)))
  have hin8 : ∀ w ∈ wsX80, w ∈ wsX11_seeAll := fun w h => List.mem_cons_of_mem _ (List.mem_append_left _ (List.mem_append_right _ h))
  have hw0 := hts (.fieldLink RX11 18 "SkyClocks" "stars" "[LSkyClocks$Star;") (List.mem_of_getElem? (i := 1) rfl)
  have hw1 := hts (.fieldLink RX11 10 "SkyClocks" "tables" "LSkyClocks$Tables;") (List.mem_of_getElem? (i := 2) rfl)
  have hw2 : va_Nw (.fieldLinkNest RX11 85 "SkyClocks$Tables" "asOf" "I" "SkyClocks") s := hN _ (List.mem_of_getElem? (i := 3) rfl)
  have hl := lv_entry ([.ref (z + this)]) (n := 2) (Nat.le_of_ble_eq_true rfl)
  rw [lg_entry_eq]
  generalize (lg_sl ([.ref (z + this)]) ++ List.replicate (2 - (lg_sl ([.ref (z + this)])).length) Slot.unset).toArray = ls at hl ⊢
  have hl : lv_has ls 2 [(0, .ref (z + this))] := hl
  have B2 : ∀ (nn : Nat) (x1 : Int32) (σ : Mm), b_X11_seeAll_2 Y fu this nn x1 σ = some σ1 → ∀ (H : Heap) (locs : List Loc) (ls : Array Slot), WH z n D cy Y σ H → va_S (Az z) s.heap H locs → lv_has ls 2 [(0, .ref (z + this)), (1, .int x1)] → W p l e ({ frames := 1, cells := 0, slots := 0, locals := 22 } : Room) s m ([.ref (z + this)] : List Value).toArray below meth c H locs 0 0 (MQ below (va_Qv (fun (_ : Unit) => True) (fun _ t => WH z n D cy Y σ1 t.heap) (Az z)) ([.ref (z + this)] : List Value).toArray s 0 0 (Az z)) (F0 m 2 ls []) := by
    intro nn
    induction nn with
    | zero =>
      intro x1 σ  hf
      have h9 : (none : Option (Mm)) = some σ1 := hf
      cases h9
    | succ nn H2 =>
      intro x1 σ  hf H locs ls hW hS hl
      have hf : s_X11_seeAll_2 Y fu this (b_X11_seeAll_2 Y fu this nn) x1 σ = some σ1 := hf
      generalize hkk : b_X11_seeAll_2 Y fu this nn = k2 at hf H2
      refine lv_iload_n hx hb dX11_seeAll_2 rfl (lv_at hl 1 rfl) ?_
      refine lv_iconst (v := 4) hx hb dX11_seeAll_3 (by decide) ?_
      refine lv_icmp_ge (tgt := 29) hx hb dX11_seeAll_4 (by decide) (fun c => ?_) (fun c => ?_)
      · have hf := g_pos c hf
        exact q_vret hx hb hr hlocks hW hS hf dX11_seeAll_29
      · have hf := g_neg c hf
        refine lv_aload_n hx hb dX11_seeAll_7 rfl (lv_at hl 0 rfl) ?_
        refine q_getp (own := RX11) (ref := RX11) (C := RX11) (T := TX11) (N := 10) (kc := 8) (ci := 0) hx hb hts hin11 hown hK hW h_this (by decide) rfl 1 (by decide) hw0 rfl rfl rfl (v := 7) rfl dX11_seeAll_8 (fun hk_1 hq_2 => ?_)
        refine lv_iload_n hx hb dX11_seeAll_11 rfl (lv_at hl 1 rfl) ?_
        obtain ⟨hi_3, hf⟩ := g_in hf
        refine q_aalp (kc := 14) (t := 4) hx hb hK hW hk_1 rfl (inb_of hq_2 hi_3) rfl dX11_seeAll_12 (fun hk_4 hq_5 => ?_)
        refine lv_aload_n hx hb dX11_seeAll_13 rfl (lv_at hl 0 rfl) ?_
        refine q_getp (own := RX11) (ref := RX11) (C := RX11) (T := TX11) (N := 10) (kc := 8) (ci := 0) hx hb hts hin11 hown hK hW h_this (by decide) rfl 0 (by decide) hw1 rfl rfl rfl (v := 2) rfl dX11_seeAll_14 (fun hk_6 hq_7 => ?_)
        refine q_getiN (own := RX11) (ref := RX8) (C := RX8) (T := TX8) (N := 4) (kc := 5) (ci := 0) (host := "SkyClocks") hx hb hts hin8 hown hK hW hk_6 (by decide) rfl 3 (by decide) hw2 rfl rfl dX11_seeAll_17 ?_
        obtain ⟨σ_9, hc_8, hf⟩ := g_bn1 hf
        refine q_callv (va_runV (As := [.int (Mm.gi σ 2 3)]) (rest := []) ⟨hx, hb, hml, hown, hts⟩ (k_X7_see l z n D cy Y hk_4 hc_8) (cwV 1 hts gX11_seeAll_X7_see rfl rfl rfl (by decide +kernel) ⟨Nat.le_of_ble_eq_true rfl, Nat.le_of_ble_eq_true rfl⟩) (q_PV (T := TX7) (N := 4) hK hN hW hk_4 (by decide) rfl) rfl rfl hl.1 rfl (lv_room (Nat.le_of_ble_eq_true rfl)) dX11_seeAll_20 ⟨Nat.le_refl _, Nat.le_refl _⟩) hS (fun H locs hW hS => ?_)
        obtain ⟨x1_10, ex1_10⟩ : ∃ y : Int32, y = x1 + 1 := ⟨_, rfl⟩
        have hf := g_lt ex1_10 hf
        refine lv_iinc (v := x1_10) (lv' := [(1, .int x1_10), (0, .ref (z + this))]) hx hb dX11_seeAll_23 hl (k := 1) rfl (by rw [ex1_10]; rfl) (by decide) rfl (fun ls hl => ?_)
        refine lv_goto (tgt := 2) hx hb dX11_seeAll_26 (by decide) ?_
        exact H2 x1_10 σ_9 hf _ _ _ hW hS (lv_sub hl [1, 0] rfl)
  refine lv_iconst (v := 0) hx hb dX11_seeAll_0 (by decide) ?_
  refine lv_istore_n (lv' := [(1, .int 0), (0, .ref (z + this))]) hx hb dX11_seeAll_1 rfl hl (by decide) rfl (fun ls hl => ?_)
  exact B2 fu 0 σ hf _ _ _ hW hS (lv_sub hl [1, 0] rfl)
set_option maxRecDepth 100000 in
set_option maxHeartbeats 40000000 in
theorem k_X11_rule (l : Launch) (z n : Nat) (D : va_G) (cy : Nat → ClassId) (Y : Yt) {fu : Nat} {this : Nat} {a1 : Int32} {a2 : Int32} {σ : Mm} {r : Int32} {σ1 : Mm} (h_this : okk Y n 8 this) (hf : f_X11_rule Y fu this a1 a2 σ = some (r, σ1)) : Ki l yX11_rule wsX11_rule ({ frames := 2, cells := 0, slots := 0, locals := 43 } : Room) z n D cy Y [.ref (z + this), .int a1, .int a2] σ r σ1 := by
  refine Met.ofW (cc := cX11_rule) (maxL := 4) (ret := (some .int)) (by decide +kernel) rfl ?_
  intro p e s m args below meth c s₁ B hml hv
  obtain ⟨rfl, hW, hK, hN⟩ := hv
  have hx := B.exec
  have hb := B.bytes
  have hr := B.returns
  have hts := atoms_spec (ws := wsX11_rule) B.pre
  have hown : s.vm.findClass RX11 = some m.cls := findClass_of_methodNamed B.named
  have hlocks := B.notSynchronized
  have hS : va_S (Az z) s.heap s.heap [] := va_S.rf
  have hin11 : ∀ w ∈ wsX110, w ∈ wsX11_rule := fun w h => List.mem_cons_of_mem _ (List.mem_append_left _ (List.mem_append_left _ (List.mem_append_right _ h)))
  have hin8 : ∀ w ∈ wsX80, w ∈ wsX11_rule := fun w h => List.mem_cons_of_mem _ (List.mem_append_left _ (List.mem_append_right _ h))
  have hw0 := hts (.constant RX11 80 (2000000)) (List.mem_of_getElem? (i := 2) rfl)
  have hw1 := hts (.fieldLink RX11 10 "SkyClocks" "tables" "LSkyClocks$Tables;") (List.mem_of_getElem? (i := 1) rfl)
  have hw2 : va_Nw (.fieldLinkNest RX11 85 "SkyClocks$Tables" "asOf" "I" "SkyClocks") s := hN _ (List.mem_of_getElem? (i := 3) rfl)
  have hw3 : va_Nw (.fieldLinkNest RX11 105 "SkyClocks$Tables" "version" "I" "SkyClocks") s := hN _ (List.mem_of_getElem? (i := 2) rfl)
  have hl := lv_entry ([.ref (z + this), .int a1, .int a2]) (n := 4) (Nat.le_of_ble_eq_true rfl)
  rw [lg_entry_eq]
  generalize (lg_sl ([.ref (z + this), .int a1, .int a2]) ++ List.replicate (4 - (lg_sl ([.ref (z + this), .int a1, .int a2])).length) Slot.unset).toArray = ls at hl ⊢
  have hl : lv_has ls 4 [(0, .ref (z + this)), (1, .int a1), (2, .int a2)] := hl
  have B31 : ∀ (σ : Mm), b_X11_rule_31 Y fu this a1 a2 σ = some (r, σ1) → ∀ (H : Heap) (locs : List Loc) (ls : Array Slot), WH z n D cy Y σ H → va_S (Az z) s.heap H locs → lv_has ls 4 [(0, .ref (z + this)), (1, .int a1), (2, .int a2)] → W p l e ({ frames := 2, cells := 0, slots := 0, locals := 43 } : Room) s m ([.ref (z + this), .int a1, .int a2] : List Value).toArray below meth c H locs 0 0 (MQ below (va_Qi (fun (x : Int32) (_ : Unit) => x = r) (fun _ t => WH z n D cy Y σ1 t.heap) (Az z)) ([.ref (z + this), .int a1, .int a2] : List Value).toArray s 0 0 (Az z)) (F0 m 31 ls []) := by
    intro  σ  hf H locs ls hW hS hl
    refine lv_iload_n hx hb dX11_rule_31 rfl (lv_at hl 1 rfl) ?_
    refine lv_iconst (v := 1) hx hb dX11_rule_32 (by decide) ?_
    refine lv_icmp_ne (tgt := 68) hx hb dX11_rule_33 (by decide) (fun c => ?_) (fun c => ?_)
    · have hf := g_neg c hf
      refine lv_iconst (v := (-1)) hx hb dX11_rule_68 (by decide) ?_
      exact q_iret hx hb hr hlocks hW hS hf dX11_rule_69
    · have hf := g_pos c hf
      refine lv_iload_n hx hb dX11_rule_36 rfl (lv_at hl 2 rfl) ?_
      refine lv_iconst (v := 0) hx hb dX11_rule_37 (by decide) ?_
      refine lv_ldc hx hb hown hw0 dX11_rule_38 ?_
      obtain ⟨r_3, σ_2, hc_1, hf⟩ := g_bnd hf
      refine q_calli (va_runS (As := [.int a2, .int 0, .int 2000000]) (rest := []) ⟨hx, hb, hml, hown, hts⟩ (k_X11_within l z n D cy Y hc_1) (va_cwS 3 hts gX11_rule_X11_within rfl rfl rfl (by decide +kernel) ⟨Nat.le_of_ble_eq_true rfl, Nat.le_of_ble_eq_true rfl⟩) (q_PS hK hN hW) rfl rfl hl.1 rfl (lv_room (Nat.le_of_ble_eq_true rfl)) dX11_rule_40 ⟨Nat.le_refl _, Nat.le_refl _⟩) hS (fun H locs hW hS => ?_)
      refine lv_if_eq (tgt := 68) hx hb dX11_rule_43 (by decide) (fun c => ?_) (fun c => ?_)
      · have hf := g_pos c hf
        refine lv_iconst (v := (-1)) hx hb dX11_rule_68 (by decide) ?_
        exact q_iret hx hb hr hlocks hW hS hf dX11_rule_69
      · have hf := g_neg c hf
        refine lv_aload_n hx hb dX11_rule_46 rfl (lv_at hl 0 rfl) ?_
        refine q_getp (own := RX11) (ref := RX11) (C := RX11) (T := TX11) (N := 10) (kc := 8) (ci := 0) hx hb hts hin11 hown hK hW h_this (by decide) rfl 0 (by decide) hw1 rfl rfl rfl (v := 2) rfl dX11_rule_47 (fun hk_4 hq_5 => ?_)
        refine q_getiN (own := RX11) (ref := RX8) (C := RX8) (T := TX8) (N := 4) (kc := 5) (ci := 0) (host := "SkyClocks") hx hb hts hin8 hown hK hW hk_4 (by decide) rfl 3 (by decide) hw2 rfl rfl dX11_rule_50 ?_
        refine lv_topi (fun x3_6 ex3_6 => ?_)
        have hf := g_lt ex3_6 hf
        refine lv_istore_n (lv' := [(3, .int x3_6), (0, .ref (z + this)), (1, .int a1), (2, .int a2)]) hx hb dX11_rule_53 rfl hl (by decide) rfl (fun ls hl => ?_)
        refine lv_aload_n hx hb dX11_rule_54 rfl (lv_at hl 1 rfl) ?_
        refine q_getp (own := RX11) (ref := RX11) (C := RX11) (T := TX11) (N := 10) (kc := 8) (ci := 0) hx hb hts hin11 hown hK hW h_this (by decide) rfl 0 (by decide) hw1 rfl rfl rfl (v := 2) rfl dX11_rule_55 (fun hk_7 hq_8 => ?_)
        refine lv_iload_n hx hb dX11_rule_58 rfl (lv_at hl 3 rfl) ?_
        refine q_putiN (own := RX11) (ref := RX8) (C := RX8) (T := TX8) (N := 4) (kc := 5) (ci := 0) (host := "SkyClocks") hx hb hts hin8 tyX8_ok nmX8 hown hK hW hS hk_7 (by decide) rfl 3 (by decide) hw2 rfl rfl (ty := .int) (tyX8_ok 3 (by decide)) rfl rfl rfl dX11_rule_59 (fun H locs hW hS => ?_)
        obtain ⟨σ_9, eσ_9⟩ : ∃ y : Mm, y = (Mm.si σ_2 2 3 a2) := ⟨_, rfl⟩
        rw [← eσ_9] at hW
        have hf := g_lt eσ_9 hf
        refine lv_aload_n hx hb dX11_rule_62 rfl (lv_at hl 1 rfl) ?_
        obtain ⟨σ_11, hc_10, hf⟩ := g_bn1 hf
        refine q_callv (va_runV (As := []) (rest := []) ⟨hx, hb, hml, hown, hts⟩ (k_X11_seeAll l z n D cy Y h_this hc_10) (cwV 0 hts gX11_rule_X11_seeAll rfl rfl rfl (by decide +kernel) ⟨Nat.le_of_ble_eq_true rfl, Nat.le_of_ble_eq_true rfl⟩) (q_PV (T := TX11) (N := 10) hK hN hW h_this (by decide) rfl) rfl rfl hl.1 rfl (lv_room (Nat.le_of_ble_eq_true rfl)) dX11_rule_63 ⟨Nat.le_refl _, Nat.le_refl _⟩) hS (fun H locs hW hS => ?_)
        refine lv_iload_n hx hb dX11_rule_66 rfl (lv_at hl 0 rfl) ?_
        exact q_iret hx hb hr hlocks hW hS hf dX11_rule_67
  refine lv_iload_n hx hb dX11_rule_0 rfl (lv_at hl 1 rfl) ?_
  refine lv_if_ne (tgt := 31) hx hb dX11_rule_1 (by decide) (fun c => ?_) (fun c => ?_)
  · have hf := g_neg c hf
    exact B31 σ hf _ _ _ hW hS (lv_sub hl [0, 1, 2] rfl)
  · have hf := g_pos c hf
    refine lv_iload_n hx hb dX11_rule_4 rfl (lv_at hl 2 rfl) ?_
    refine lv_iconst (v := 0) hx hb dX11_rule_5 (by decide) ?_
    refine lv_iconst (v := 1) hx hb dX11_rule_6 (by decide) ?_
    obtain ⟨r_14, σ_13, hc_12, hf⟩ := g_bnd hf
    refine q_calli (va_runS (As := [.int a2, .int 0, .int 1]) (rest := []) ⟨hx, hb, hml, hown, hts⟩ (k_X11_within l z n D cy Y hc_12) (va_cwS 3 hts gX11_rule_X11_within rfl rfl rfl (by decide +kernel) ⟨Nat.le_of_ble_eq_true rfl, Nat.le_of_ble_eq_true rfl⟩) (q_PS hK hN hW) rfl rfl hl.1 rfl (lv_room (Nat.le_of_ble_eq_true rfl)) dX11_rule_7 ⟨Nat.le_refl _, Nat.le_refl _⟩) hS (fun H locs hW hS => ?_)
    refine lv_if_eq (tgt := 31) hx hb dX11_rule_10 (by decide) (fun c => ?_) (fun c => ?_)
    · have hf := g_pos c hf
      exact B31 σ_13 hf _ _ _ hW hS (lv_sub hl [0, 1, 2] rfl)
    · have hf := g_neg c hf
      refine lv_aload_n hx hb dX11_rule_13 rfl (lv_at hl 0 rfl) ?_
      refine q_getp (own := RX11) (ref := RX11) (C := RX11) (T := TX11) (N := 10) (kc := 8) (ci := 0) hx hb hts hin11 hown hK hW h_this (by decide) rfl 0 (by decide) hw1 rfl rfl rfl (v := 2) rfl dX11_rule_14 (fun hk_15 hq_16 => ?_)
      refine q_getiN (own := RX11) (ref := RX8) (C := RX8) (T := TX8) (N := 4) (kc := 5) (ci := 0) (host := "SkyClocks") hx hb hts hin8 hown hK hW hk_15 (by decide) rfl 2 (by decide) hw3 rfl rfl dX11_rule_17 ?_
      refine lv_topi (fun x3_17 ex3_17 => ?_)
      have hf := g_lt ex3_17 hf
      refine lv_istore_n (lv' := [(3, .int x3_17), (0, .ref (z + this)), (1, .int a1), (2, .int a2)]) hx hb dX11_rule_20 rfl hl (by decide) rfl (fun ls hl => ?_)
      refine lv_aload_n hx hb dX11_rule_21 rfl (lv_at hl 1 rfl) ?_
      refine q_getp (own := RX11) (ref := RX11) (C := RX11) (T := TX11) (N := 10) (kc := 8) (ci := 0) hx hb hts hin11 hown hK hW h_this (by decide) rfl 0 (by decide) hw1 rfl rfl rfl (v := 2) rfl dX11_rule_22 (fun hk_18 hq_19 => ?_)
      refine lv_iload_n hx hb dX11_rule_25 rfl (lv_at hl 3 rfl) ?_
      refine q_putiN (own := RX11) (ref := RX8) (C := RX8) (T := TX8) (N := 4) (kc := 5) (ci := 0) (host := "SkyClocks") hx hb hts hin8 tyX8_ok nmX8 hown hK hW hS hk_18 (by decide) rfl 2 (by decide) hw3 rfl rfl (ty := .int) (tyX8_ok 2 (by decide)) rfl rfl rfl dX11_rule_26 (fun H locs hW hS => ?_)
      obtain ⟨σ_20, eσ_20⟩ : ∃ y : Mm, y = (Mm.si σ_13 2 2 a2) := ⟨_, rfl⟩
      rw [← eσ_20] at hW
      have hf := g_lt eσ_20 hf
      refine lv_iload_n hx hb dX11_rule_29 rfl (lv_at hl 0 rfl) ?_
      exact q_iret hx hb hr hlocks hW hS hf dX11_rule_30
set_option maxRecDepth 100000 in
set_option maxHeartbeats 40000000 in
theorem k_X11_shift (l : Launch) (z n : Nat) (D : va_G) (cy : Nat → ClassId) (Y : Yt) {this : Nat} {a1 : Int32} {a2 : Int32} {a3 : Int32} {σ : Mm} {r : Int32} {σ1 : Mm} (h_this : okk Y n 8 this) (hf : f_X11_shift Y this a1 a2 a3 σ = some (r, σ1)) : Ki l yX11_shift wsX11_shift ({ frames := 1, cells := 0, slots := 0, locals := 22 } : Room) z n D cy Y [.ref (z + this), .int a1, .int a2, .int a3] σ r σ1 := by
  refine Met.ofW (cc := cX11_shift) (maxL := 5) (ret := (some .int)) (by decide +kernel) rfl ?_
  intro p e s m args below meth c s₁ B hml hv
  obtain ⟨rfl, hW, hK, hN⟩ := hv
  have hx := B.exec
  have hb := B.bytes
  have hr := B.returns
  have hts := atoms_spec (ws := wsX11_shift) B.pre
  have hown : s.vm.findClass RX11 = some m.cls := findClass_of_methodNamed B.named
  have hlocks := B.notSynchronized
  have hS : va_S (Az z) s.heap s.heap [] := va_S.rf
  have hin11 : ∀ w ∈ wsX110, w ∈ wsX11_shift := fun w h => List.mem_cons_of_mem _ (List.mem_append_left _ (List.mem_append_right _ h))
  have hin8 : ∀ w ∈ wsX80, w ∈ wsX11_shift := fun w h => List.mem_cons_of_mem _ (List.mem_append_right _ h)
  have hw0 := hts (.constant RX11 97 (-100000)) (List.mem_of_getElem? (i := 1) rfl)
  have hw1 := hts (.fieldLink RX11 10 "SkyClocks" "tables" "LSkyClocks$Tables;") (List.mem_of_getElem? (i := 2) rfl)
  have hw2 : va_Nw (.fieldLinkNest RX11 101 "SkyClocks$Tables" "shifts" "[[I" "SkyClocks") s := hN _ (List.mem_of_getElem? (i := 1) rfl)
  have hl := lv_entry ([.ref (z + this), .int a1, .int a2, .int a3]) (n := 5) (Nat.le_of_ble_eq_true rfl)
  rw [lg_entry_eq]
  generalize (lg_sl ([.ref (z + this), .int a1, .int a2, .int a3]) ++ List.replicate (5 - (lg_sl ([.ref (z + this), .int a1, .int a2, .int a3])).length) Slot.unset).toArray = ls at hl ⊢
  have hl : lv_has ls 5 [(0, .ref (z + this)), (1, .int a1), (2, .int a2), (3, .int a3)] := hl
  refine lv_iload_n hx hb dX11_shift_0 rfl (lv_at hl 1 rfl) ?_
  refine lv_iconst (v := 0) hx hb dX11_shift_1 (by decide) ?_
  refine lv_iconst (v := 1) hx hb dX11_shift_2 (by decide) ?_
  obtain ⟨r_3, σ_2, hc_1, hf⟩ := g_bnd hf
  refine q_calli (va_runS (As := [.int a1, .int 0, .int 1]) (rest := []) ⟨hx, hb, hml, hown, hts⟩ (k_X11_within l z n D cy Y hc_1) (va_cwS 3 hts gX11_shift_X11_within rfl rfl rfl (by decide +kernel) ⟨Nat.le_of_ble_eq_true rfl, Nat.le_of_ble_eq_true rfl⟩) (q_PS hK hN hW) rfl rfl hl.1 rfl (lv_room (Nat.le_of_ble_eq_true rfl)) dX11_shift_3 ⟨Nat.le_refl _, Nat.le_refl _⟩) hS (fun H locs hW hS => ?_)
  refine lv_if_eq (tgt := 32) hx hb dX11_shift_6 (by decide) (fun c => ?_) (fun c => ?_)
  · have hf := g_pos c hf
    refine lv_ldc hx hb hown hw0 dX11_shift_32 ?_
    exact q_iret hx hb hr hlocks hW hS hf dX11_shift_34
  · have hf := g_neg c hf
    refine lv_iload_n hx hb dX11_shift_9 rfl (lv_at hl 2 rfl) ?_
    refine lv_iconst (v := 0) hx hb dX11_shift_10 (by decide) ?_
    refine lv_bipush (v := 10) hx hb dX11_shift_11 (by decide) ?_
    obtain ⟨r_6, σ_5, hc_4, hf⟩ := g_bnd hf
    refine q_calli (va_runS (As := [.int a2, .int 0, .int 10]) (rest := []) ⟨hx, hb, hml, hown, hts⟩ (k_X11_within l z n D cy Y hc_4) (va_cwS 3 hts gX11_shift_X11_within rfl rfl rfl (by decide +kernel) ⟨Nat.le_of_ble_eq_true rfl, Nat.le_of_ble_eq_true rfl⟩) (q_PS hK hN hW) rfl rfl hl.1 rfl (lv_room (Nat.le_of_ble_eq_true rfl)) dX11_shift_13 ⟨Nat.le_refl _, Nat.le_refl _⟩) hS (fun H locs hW hS => ?_)
    refine lv_if_eq (tgt := 32) hx hb dX11_shift_16 (by decide) (fun c => ?_) (fun c => ?_)
    · have hf := g_pos c hf
      refine lv_ldc hx hb hown hw0 dX11_shift_32 ?_
      exact q_iret hx hb hr hlocks hW hS hf dX11_shift_34
    · have hf := g_neg c hf
      refine lv_iload_n hx hb dX11_shift_19 rfl (lv_at hl 3 rfl) ?_
      refine lv_sipush (v := (-500)) hx hb dX11_shift_20 (by decide) ?_
      refine lv_sipush (v := 500) hx hb dX11_shift_23 (by decide) ?_
      obtain ⟨r_9, σ_8, hc_7, hf⟩ := g_bnd hf
      refine q_calli (va_runS (As := [.int a3, .int (-500), .int 500]) (rest := []) ⟨hx, hb, hml, hown, hts⟩ (k_X11_within l z n D cy Y hc_7) (va_cwS 3 hts gX11_shift_X11_within rfl rfl rfl (by decide +kernel) ⟨Nat.le_of_ble_eq_true rfl, Nat.le_of_ble_eq_true rfl⟩) (q_PS hK hN hW) rfl rfl hl.1 rfl (lv_room (Nat.le_of_ble_eq_true rfl)) dX11_shift_26 ⟨Nat.le_refl _, Nat.le_refl _⟩) hS (fun H locs hW hS => ?_)
      refine lv_if_ne (tgt := 35) hx hb dX11_shift_29 (by decide) (fun c => ?_) (fun c => ?_)
      · have hf := g_neg c hf
        refine lv_aload_n hx hb dX11_shift_35 rfl (lv_at hl 0 rfl) ?_
        refine q_getp (own := RX11) (ref := RX11) (C := RX11) (T := TX11) (N := 10) (kc := 8) (ci := 0) hx hb hts hin11 hown hK hW h_this (by decide) rfl 0 (by decide) hw1 rfl rfl rfl (v := 2) rfl dX11_shift_36 (fun hk_10 hq_11 => ?_)
        refine q_getpN (own := RX11) (ref := RX8) (C := RX8) (T := TX8) (N := 4) (kc := 5) (ci := 0) (host := "SkyClocks") hx hb hts hin8 hown hK hW hk_10 (by decide) rfl 1 (by decide) hw2 rfl rfl rfl (v := 4) rfl dX11_shift_39 (fun hk_12 hq_13 => ?_)
        refine lv_iload_n hx hb dX11_shift_42 rfl (lv_at hl 1 rfl) ?_
        obtain ⟨hi_14, hf⟩ := g_in hf
        refine q_aalp (kc := 16) (t := 10) hx hb hK hW hk_12 rfl (inb_of hq_13 hi_14) rfl dX11_shift_43 (fun hk_15 hq_16 => ?_)
        refine lv_iload_n hx hb dX11_shift_44 rfl (lv_at hl 2 rfl) ?_
        obtain ⟨hi_17, hf⟩ := g_in hf
        refine q_iald hx hb hK hW hk_15 (inb_of hq_16 hi_17) dX11_shift_45 ?_
        refine lv_topi (fun x4_18 ex4_18 => ?_)
        have hf := g_lt ex4_18 hf
        refine lv_istore (lv' := [(4, .int x4_18), (0, .ref (z + this)), (1, .int a1), (2, .int a2), (3, .int a3)]) hx hb dX11_shift_46 hl (by decide) rfl (fun ls hl => ?_)
        refine lv_aload_n hx hb dX11_shift_48 rfl (lv_at hl 1 rfl) ?_
        refine q_getp (own := RX11) (ref := RX11) (C := RX11) (T := TX11) (N := 10) (kc := 8) (ci := 0) hx hb hts hin11 hown hK hW h_this (by decide) rfl 0 (by decide) hw1 rfl rfl rfl (v := 2) rfl dX11_shift_49 (fun hk_19 hq_20 => ?_)
        refine q_getpN (own := RX11) (ref := RX8) (C := RX8) (T := TX8) (N := 4) (kc := 5) (ci := 0) (host := "SkyClocks") hx hb hts hin8 hown hK hW hk_19 (by decide) rfl 1 (by decide) hw2 rfl rfl rfl (v := 4) rfl dX11_shift_52 (fun hk_21 hq_22 => ?_)
        refine lv_iload_n hx hb dX11_shift_55 rfl (lv_at hl 2 rfl) ?_
        obtain ⟨hi_23, hf⟩ := g_in hf
        refine q_aalp (kc := 16) (t := 10) hx hb hK hW hk_21 rfl (inb_of hq_22 hi_23) rfl dX11_shift_56 (fun hk_24 hq_25 => ?_)
        refine lv_iload_n hx hb dX11_shift_57 rfl (lv_at hl 3 rfl) ?_
        refine lv_iload_n hx hb dX11_shift_58 rfl (lv_at hl 4 rfl) ?_
        obtain ⟨hi_26, hf⟩ := g_in hf
        refine q_iast hx hb hK hW hS hk_24 (inb_of hq_25 hi_26) dX11_shift_59 (fun H locs hW hS => ?_)
        obtain ⟨σ_27, eσ_27⟩ : ∃ y : Mm, y = (Mm.si σ_8 (5 + 1 * ix a1) (ix a2) a3) := ⟨_, rfl⟩
        rw [← eσ_27] at hW
        have hf := g_lt eσ_27 hf
        refine lv_iload hx hb dX11_shift_60 (lv_at hl 0 rfl) ?_
        exact q_iret hx hb hr hlocks hW hS hf dX11_shift_62
      · have hf := g_pos c hf
        refine lv_ldc hx hb hown hw0 dX11_shift_32 ?_
        exact q_iret hx hb hr hlocks hW hS hf dX11_shift_34
set_option maxRecDepth 100000 in
set_option maxHeartbeats 40000000 in
theorem k_X11_shuffled (l : Launch) (z n : Nat) (D : va_G) (cy : Nat → ClassId) (Y : Yt) {fu : Nat} {this : Nat} {a1 : Int32} {a2 : Int32} {σ : Mm} {r : Int32} {σ1 : Mm} (h_this : okk Y n 8 this) (hf : f_X11_shuffled Y fu this a1 a2 σ = some (r, σ1)) : Ki l yX11_shuffled wsX11_shuffled ({ frames := 11, cells := 0, slots := 0, locals := 590 } : Room) z n D cy Y [.ref (z + this), .int a1, .int a2] σ r σ1 := by
  refine Met.ofW (cc := cX11_shuffled) (maxL := 4) (ret := (some .int)) (by decide +kernel) rfl ?_
  intro p e s m args below meth c s₁ B hml hv
  obtain ⟨rfl, hW, hK, hN⟩ := hv
  have hx := B.exec
  have hb := B.bytes
  have hr := B.returns
  have hts := atoms_spec (ws := wsX11_shuffled) B.pre
  have hown : s.vm.findClass RX11 = some m.cls := findClass_of_methodNamed B.named
  have hlocks := B.notSynchronized
  have hS : va_S (Az z) s.heap s.heap [] := va_S.rf
  have hin11 : ∀ w ∈ wsX110, w ∈ wsX11_shuffled := fun w h => List.mem_cons_of_mem _ (List.mem_append_left _ (List.mem_append_left _ (List.mem_append_left _ (List.mem_append_left _ (List.mem_append_right _ h)))))
  have hw0 := hts (.fieldLink RX11 49 "SkyClocks" "residues" "[I") (List.mem_of_getElem? (i := 1) rfl)
  have hw1 := hts (.fieldLink RX11 53 "SkyClocks" "others" "[I") (List.mem_of_getElem? (i := 2) rfl)
  have hl := lv_entry ([.ref (z + this), .int a1, .int a2]) (n := 4) (Nat.le_of_ble_eq_true rfl)
  rw [lg_entry_eq]
  generalize (lg_sl ([.ref (z + this), .int a1, .int a2]) ++ List.replicate (4 - (lg_sl ([.ref (z + this), .int a1, .int a2])).length) Slot.unset).toArray = ls at hl ⊢
  have hl : lv_has ls 4 [(0, .ref (z + this)), (1, .int a1), (2, .int a2)] := hl
  refine lv_iload_n hx hb dX11_shuffled_0 rfl (lv_at hl 1 rfl) ?_
  obtain ⟨r_3, σ_2, hc_1, hf⟩ := g_bnd hf
  refine q_calli (va_runS (As := [.int a1]) (rest := []) ⟨hx, hb, hml, hown, hts⟩ (k_X11_isStar l z n D cy Y hc_1) (va_cwS 1 hts gX11_shuffled_X11_isStar rfl rfl rfl (by decide +kernel) ⟨Nat.le_of_ble_eq_true rfl, Nat.le_of_ble_eq_true rfl⟩) (q_PS hK hN hW) rfl rfl hl.1 rfl (lv_room (Nat.le_of_ble_eq_true rfl)) dX11_shuffled_1 ⟨Nat.le_refl _, Nat.le_refl _⟩) hS (fun H locs hW hS => ?_)
  refine lv_if_eq (tgt := 19) hx hb dX11_shuffled_4 (by decide) (fun c => ?_) (fun c => ?_)
  · have hf := g_pos c hf
    refine lv_iconst (v := (-1)) hx hb dX11_shuffled_19 (by decide) ?_
    exact q_iret hx hb hr hlocks hW hS hf dX11_shuffled_20
  · have hf := g_neg c hf
    refine lv_iload_n hx hb dX11_shuffled_7 rfl (lv_at hl 2 rfl) ?_
    obtain ⟨r_6, σ_5, hc_4, hf⟩ := g_bnd hf
    refine q_calli (va_runS (As := [.int a2]) (rest := []) ⟨hx, hb, hml, hown, hts⟩ (k_X11_isStar l z n D cy Y hc_4) (va_cwS 1 hts gX11_shuffled_X11_isStar rfl rfl rfl (by decide +kernel) ⟨Nat.le_of_ble_eq_true rfl, Nat.le_of_ble_eq_true rfl⟩) (q_PS hK hN hW) rfl rfl hl.1 rfl (lv_room (Nat.le_of_ble_eq_true rfl)) dX11_shuffled_8 ⟨Nat.le_refl _, Nat.le_refl _⟩) hS (fun H locs hW hS => ?_)
    refine lv_if_eq (tgt := 19) hx hb dX11_shuffled_11 (by decide) (fun c => ?_) (fun c => ?_)
    · have hf := g_pos c hf
      refine lv_iconst (v := (-1)) hx hb dX11_shuffled_19 (by decide) ?_
      exact q_iret hx hb hr hlocks hW hS hf dX11_shuffled_20
    · have hf := g_neg c hf
      refine lv_iload_n hx hb dX11_shuffled_14 rfl (lv_at hl 1 rfl) ?_
      refine lv_iload_n hx hb dX11_shuffled_15 rfl (lv_at hl 2 rfl) ?_
      refine lv_icmp_ne (tgt := 21) hx hb dX11_shuffled_16 (by decide) (fun c => ?_) (fun c => ?_)
      · have hf := g_neg c hf
        refine lv_aload_n hx hb dX11_shuffled_21 rfl (lv_at hl 0 rfl) ?_
        refine lv_iload_n hx hb dX11_shuffled_22 rfl (lv_at hl 1 rfl) ?_
        refine lv_iload_n hx hb dX11_shuffled_23 rfl (lv_at hl 2 rfl) ?_
        obtain ⟨r_9, σ_8, hc_7, hf⟩ := g_bnd hf
        refine q_calli (va_runV (As := [.int a1, .int a2]) (rest := []) ⟨hx, hb, hml, hown, hts⟩ (k_X11_commonResidues l z n D cy Y h_this hc_7) (cwV 2 hts gX11_shuffled_X11_commonResidues rfl rfl rfl (by decide +kernel) ⟨Nat.le_of_ble_eq_true rfl, Nat.le_of_ble_eq_true rfl⟩) (q_PV (T := TX11) (N := 10) hK hN hW h_this (by decide) rfl) rfl rfl hl.1 rfl (lv_room (Nat.le_of_ble_eq_true rfl)) dX11_shuffled_24 ⟨Nat.le_refl _, Nat.le_refl _⟩) hS (fun H locs hW hS => ?_)
        refine lv_istore_n (lv' := [(3, .int r_9), (0, .ref (z + this)), (1, .int a1), (2, .int a2)]) hx hb dX11_shuffled_27 rfl hl (by decide) rfl (fun ls hl => ?_)
        refine lv_iload_n hx hb dX11_shuffled_28 rfl (lv_at hl 0 rfl) ?_
        refine lv_iconst (v := 2) hx hb dX11_shuffled_29 (by decide) ?_
        refine lv_icmp_ge (tgt := 38) hx hb dX11_shuffled_30 (by decide) (fun c => ?_) (fun c => ?_)
        · have hf := g_pos c hf
          refine lv_aload_n hx hb dX11_shuffled_38 rfl (lv_at hl 1 rfl) ?_
          refine q_getp (own := RX11) (ref := RX11) (C := RX11) (T := TX11) (N := 10) (kc := 8) (ci := 0) hx hb hts hin11 hown hK hW h_this (by decide) rfl 6 (by decide) hw0 rfl rfl rfl (v := 550) rfl dX11_shuffled_39 (fun hk_10 hq_11 => ?_)
          refine lv_aload_n hx hb dX11_shuffled_42 rfl (lv_at hl 1 rfl) ?_
          refine q_getp (own := RX11) (ref := RX11) (C := RX11) (T := TX11) (N := 10) (kc := 8) (ci := 0) hx hb hts hin11 hown hK hW h_this (by decide) rfl 7 (by decide) hw1 rfl rfl rfl (v := 551) rfl dX11_shuffled_43 (fun hk_12 hq_13 => ?_)
          refine lv_iload_n hx hb dX11_shuffled_46 rfl (lv_at hl 0 rfl) ?_
          obtain ⟨r_16, σ_15, hc_14, hf⟩ := g_bnd hf
          refine q_calli (va_runS (As := [.ref (z + 550), .ref (z + 551), .int r_9]) (rest := []) ⟨hx, hb, hml, hown, hts⟩ (k_X3_asGreatOrders l z n D cy Y hk_10 hk_12 hc_14) (va_cwS 3 hts gX11_shuffled_X3_asGreatOrders rfl rfl rfl (by decide +kernel) ⟨Nat.le_of_ble_eq_true rfl, Nat.le_of_ble_eq_true rfl⟩) (q_PS hK hN hW) rfl rfl hl.1 rfl (lv_room (Nat.le_of_ble_eq_true rfl)) dX11_shuffled_47 ⟨Nat.le_refl _, Nat.le_refl _⟩) hS (fun H locs hW hS => ?_)
          exact q_iret hx hb hr hlocks hW hS hf dX11_shuffled_50
        · have hf := g_neg c hf
          refine lv_bipush (v := (-2)) hx hb dX11_shuffled_33 (by decide) ?_
          refine lv_goto (tgt := 50) hx hb dX11_shuffled_35 (by decide) ?_
          exact q_iret hx hb hr hlocks hW hS hf dX11_shuffled_50
      · have hf := g_pos c hf
        refine lv_iconst (v := (-1)) hx hb dX11_shuffled_19 (by decide) ?_
        exact q_iret hx hb hr hlocks hW hS hf dX11_shuffled_20
set_option maxRecDepth 100000 in
set_option maxHeartbeats 40000000 in
theorem k_X11_slip (l : Launch) (z n : Nat) (D : va_G) (cy : Nat → ClassId) (Y : Yt) {fu : Nat} {this : Nat} {a1 : Int32} {σ : Mm} {r : Int32} {σ1 : Mm} (h_this : okk Y n 8 this) (hf : f_X11_slip Y fu this a1 σ = some (r, σ1)) : Ki l yX11_slip wsX11_slip ({ frames := 6, cells := 0, slots := 0, locals := 159 } : Room) z n D cy Y [.ref (z + this), .int a1] σ r σ1 := by
  refine Met.ofW (cc := cX11_slip) (maxL := 3) (ret := (some .int)) (by decide +kernel) rfl ?_
  intro p e s m args below meth c s₁ B hml hv
  obtain ⟨rfl, hW, hK, hN⟩ := hv
  have hx := B.exec
  have hb := B.bytes
  have hr := B.returns
  have hts := atoms_spec (ws := wsX11_slip) B.pre
  have hown : s.vm.findClass RX11 = some m.cls := findClass_of_methodNamed B.named
  have hlocks := B.notSynchronized
  have hS : va_S (Az z) s.heap s.heap [] := va_S.rf
  have hin11 : ∀ w ∈ wsX110, w ∈ wsX11_slip := fun w h => List.mem_cons_of_mem _ (List.mem_append_left _ (List.mem_append_left _ (List.mem_append_left _ (List.mem_append_left _ (List.mem_append_right _ h)))))
  have hw0 := hts (.fieldLink RX11 49 "SkyClocks" "residues" "[I") (List.mem_of_getElem? (i := 1) rfl)
  have hl := lv_entry ([.ref (z + this), .int a1]) (n := 3) (Nat.le_of_ble_eq_true rfl)
  rw [lg_entry_eq]
  generalize (lg_sl ([.ref (z + this), .int a1]) ++ List.replicate (3 - (lg_sl ([.ref (z + this), .int a1])).length) Slot.unset).toArray = ls at hl ⊢
  have hl : lv_has ls 3 [(0, .ref (z + this)), (1, .int a1)] := hl
  refine lv_iload_n hx hb dX11_slip_0 rfl (lv_at hl 1 rfl) ?_
  obtain ⟨r_3, σ_2, hc_1, hf⟩ := g_bnd hf
  refine q_calli (va_runS (As := [.int a1]) (rest := []) ⟨hx, hb, hml, hown, hts⟩ (k_X11_isStar l z n D cy Y hc_1) (va_cwS 1 hts gX11_slip_X11_isStar rfl rfl rfl (by decide +kernel) ⟨Nat.le_of_ble_eq_true rfl, Nat.le_of_ble_eq_true rfl⟩) (q_PS hK hN hW) rfl rfl hl.1 rfl (lv_room (Nat.le_of_ble_eq_true rfl)) dX11_slip_1 ⟨Nat.le_refl _, Nat.le_refl _⟩) hS (fun H locs hW hS => ?_)
  refine lv_if_ne (tgt := 9) hx hb dX11_slip_4 (by decide) (fun c => ?_) (fun c => ?_)
  · have hf := g_neg c hf
    refine lv_aload_n hx hb dX11_slip_9 rfl (lv_at hl 0 rfl) ?_
    refine lv_iload_n hx hb dX11_slip_10 rfl (lv_at hl 1 rfl) ?_
    refine lv_aload_n hx hb dX11_slip_11 rfl (lv_at hl 0 rfl) ?_
    refine q_getp (own := RX11) (ref := RX11) (C := RX11) (T := TX11) (N := 10) (kc := 8) (ci := 0) hx hb hts hin11 hown hK hW h_this (by decide) rfl 6 (by decide) hw0 rfl rfl rfl (v := 550) rfl dX11_slip_12 (fun hk_4 hq_5 => ?_)
    obtain ⟨r_8, σ_7, hc_6, hf⟩ := g_bnd hf
    refine q_calli (va_runV (As := [.int a1, .ref (z + 550)]) (rest := []) ⟨hx, hb, hml, hown, hts⟩ (k_X11_residuesOf l z n D cy Y h_this hk_4 hc_6) (cwV 2 hts gX11_slip_X11_residuesOf rfl rfl rfl (by decide +kernel) ⟨Nat.le_of_ble_eq_true rfl, Nat.le_of_ble_eq_true rfl⟩) (q_PV (T := TX11) (N := 10) hK hN hW h_this (by decide) rfl) rfl rfl hl.1 rfl (lv_room (Nat.le_of_ble_eq_true rfl)) dX11_slip_15 ⟨Nat.le_refl _, Nat.le_refl _⟩) hS (fun H locs hW hS => ?_)
    refine lv_istore_n (lv' := [(2, .int r_8), (0, .ref (z + this)), (1, .int a1)]) hx hb dX11_slip_18 rfl hl (by decide) rfl (fun ls hl => ?_)
    refine lv_iload_n hx hb dX11_slip_19 rfl (lv_at hl 0 rfl) ?_
    refine lv_iconst (v := 4) hx hb dX11_slip_20 (by decide) ?_
    refine lv_icmp_ge (tgt := 29) hx hb dX11_slip_21 (by decide) (fun c => ?_) (fun c => ?_)
    · have hf := g_pos c hf
      refine lv_aload_n hx hb dX11_slip_29 rfl (lv_at hl 1 rfl) ?_
      refine q_getp (own := RX11) (ref := RX11) (C := RX11) (T := TX11) (N := 10) (kc := 8) (ci := 0) hx hb hts hin11 hown hK hW h_this (by decide) rfl 6 (by decide) hw0 rfl rfl rfl (v := 550) rfl dX11_slip_30 (fun hk_9 hq_10 => ?_)
      refine lv_iload_n hx hb dX11_slip_33 rfl (lv_at hl 0 rfl) ?_
      obtain ⟨r_13, σ_12, hc_11, hf⟩ := g_bnd hf
      refine q_calli (va_runS (As := [.ref (z + 550), .int r_8]) (rest := []) ⟨hx, hb, hml, hown, hts⟩ (k_X6_placeOf l z n D cy Y hk_9 hc_11) (va_cwS 2 hts gX11_slip_X6_placeOf rfl rfl rfl (by decide +kernel) ⟨Nat.le_of_ble_eq_true rfl, Nat.le_of_ble_eq_true rfl⟩) (q_PS hK hN hW) rfl rfl hl.1 rfl (lv_room (Nat.le_of_ble_eq_true rfl)) dX11_slip_34 ⟨Nat.le_refl _, Nat.le_refl _⟩) hS (fun H locs hW hS => ?_)
      exact q_iret hx hb hr hlocks hW hS hf dX11_slip_37
    · have hf := g_neg c hf
      refine lv_bipush (v := (-2)) hx hb dX11_slip_24 (by decide) ?_
      refine lv_goto (tgt := 37) hx hb dX11_slip_26 (by decide) ?_
      exact q_iret hx hb hr hlocks hW hS hf dX11_slip_37
  · have hf := g_pos c hf
    refine lv_iconst (v := (-1)) hx hb dX11_slip_7 (by decide) ?_
    exact q_iret hx hb hr hlocks hW hS hf dX11_slip_8
set_option maxRecDepth 100000 in
set_option maxHeartbeats 40000000 in
theorem k_X11_sure (l : Launch) (z n : Nat) (D : va_G) (cy : Nat → ClassId) (Y : Yt) {fu : Nat} {this : Nat} {a1 : Int32} {σ : Mm} {r : Int32} {σ1 : Mm} (h_this : okk Y n 8 this) (hf : f_X11_sure Y fu this a1 σ = some (r, σ1)) : Ki l yX11_sure wsX11_sure ({ frames := 2, cells := 0, slots := 0, locals := 44 } : Room) z n D cy Y [.ref (z + this), .int a1] σ r σ1 := by
  refine Met.ofW (cc := cX11_sure) (maxL := 2) (ret := (some .int)) (by decide +kernel) rfl ?_
  intro p e s m args below meth c s₁ B hml hv
  obtain ⟨rfl, hW, hK, hN⟩ := hv
  have hx := B.exec
  have hb := B.bytes
  have hr := B.returns
  have hts := atoms_spec (ws := wsX11_sure) B.pre
  have hown : s.vm.findClass RX11 = some m.cls := findClass_of_methodNamed B.named
  have hlocks := B.notSynchronized
  have hS : va_S (Az z) s.heap s.heap [] := va_S.rf
  have hin11 : ∀ w ∈ wsX110, w ∈ wsX11_sure := fun w h => List.mem_cons_of_mem _ (List.mem_append_left _ (List.mem_append_right _ h))
  have hin0 : ∀ w ∈ wsX00, w ∈ wsX11_sure := fun w h => List.mem_cons_of_mem _ (List.mem_append_right _ h)
  have hw0 := hts (.fieldLink RX11 45 "SkyClocks" "carried" "LSkyClocks$Carried;") (List.mem_of_getElem? (i := 1) rfl)
  have hw1 : va_Nw (.fieldLinkNest RX11 185 "SkyClocks$Carried" "arrivals" "I" "SkyClocks") s := hN _ (List.mem_of_getElem? (i := 8) rfl)
  have hl := lv_entry ([.ref (z + this), .int a1]) (n := 2) (Nat.le_of_ble_eq_true rfl)
  rw [lg_entry_eq]
  generalize (lg_sl ([.ref (z + this), .int a1]) ++ List.replicate (2 - (lg_sl ([.ref (z + this), .int a1])).length) Slot.unset).toArray = ls at hl ⊢
  have hl : lv_has ls 2 [(0, .ref (z + this)), (1, .int a1)] := hl
  refine lv_iload_n hx hb dX11_sure_0 rfl (lv_at hl 1 rfl) ?_
  obtain ⟨r_3, σ_2, hc_1, hf⟩ := g_bnd hf
  refine q_calli (va_runS (As := [.int a1]) (rest := []) ⟨hx, hb, hml, hown, hts⟩ (k_X11_isPlace l z n D cy Y hc_1) (va_cwS 1 hts gX11_sure_X11_isPlace rfl rfl rfl (by decide +kernel) ⟨Nat.le_of_ble_eq_true rfl, Nat.le_of_ble_eq_true rfl⟩) (q_PS hK hN hW) rfl rfl hl.1 rfl (lv_room (Nat.le_of_ble_eq_true rfl)) dX11_sure_1 ⟨Nat.le_refl _, Nat.le_refl _⟩) hS (fun H locs hW hS => ?_)
  refine lv_if_ne (tgt := 9) hx hb dX11_sure_4 (by decide) (fun c => ?_) (fun c => ?_)
  · have hf := g_neg c hf
    refine lv_aload_n hx hb dX11_sure_9 rfl (lv_at hl 0 rfl) ?_
    refine q_getp (own := RX11) (ref := RX11) (C := RX11) (T := TX11) (N := 10) (kc := 8) (ci := 0) hx hb hts hin11 hown hK hW h_this (by decide) rfl 5 (by decide) hw0 rfl rfl rfl (v := 17) rfl dX11_sure_10 (fun hk_4 hq_5 => ?_)
    obtain ⟨r_8, σ_7, hc_6, hf⟩ := g_bnd hf
    refine q_calli (va_runV (As := []) (rest := []) ⟨hx, hb, hml, hown, hts⟩ (k_X0_stands l z n D cy Y hk_4 hc_6) (cwV 0 hts gX11_sure_X0_stands rfl rfl rfl (by decide +kernel) ⟨Nat.le_of_ble_eq_true rfl, Nat.le_of_ble_eq_true rfl⟩) (q_PV (T := TX0) (N := 13) hK hN hW hk_4 (by decide) rfl) rfl rfl hl.1 rfl (lv_room (Nat.le_of_ble_eq_true rfl)) dX11_sure_13 ⟨Nat.le_refl _, Nat.le_refl _⟩) hS (fun H locs hW hS => ?_)
    refine lv_if_eq (tgt := 30) hx hb dX11_sure_16 (by decide) (fun c => ?_) (fun c => ?_)
    · have hf := g_pos c hf
      refine lv_bipush (v := (-2)) hx hb dX11_sure_30 (by decide) ?_
      exact q_iret hx hb hr hlocks hW hS hf dX11_sure_32
    · have hf := g_neg c hf
      refine lv_iload_n hx hb dX11_sure_19 rfl (lv_at hl 1 rfl) ?_
      refine lv_aload_n hx hb dX11_sure_20 rfl (lv_at hl 0 rfl) ?_
      refine q_getp (own := RX11) (ref := RX11) (C := RX11) (T := TX11) (N := 10) (kc := 8) (ci := 0) hx hb hts hin11 hown hK hW h_this (by decide) rfl 5 (by decide) hw0 rfl rfl rfl (v := 17) rfl dX11_sure_21 (fun hk_9 hq_10 => ?_)
      refine q_getiN (own := RX11) (ref := RX0) (C := RX0) (T := TX0) (N := 13) (kc := 0) (ci := 0) (host := "SkyClocks") hx hb hts hin0 hown hK hW hk_9 (by decide) rfl 2 (by decide) hw1 rfl rfl dX11_sure_24 ?_
      refine lv_icmp_lt (tgt := 33) hx hb dX11_sure_27 (by decide) (fun c => ?_) (fun c => ?_)
      · have hf := g_pos c hf
        refine lv_aload_n hx hb dX11_sure_33 rfl (lv_at hl 0 rfl) ?_
        refine q_getp (own := RX11) (ref := RX11) (C := RX11) (T := TX11) (N := 10) (kc := 8) (ci := 0) hx hb hts hin11 hown hK hW h_this (by decide) rfl 5 (by decide) hw0 rfl rfl rfl (v := 17) rfl dX11_sure_34 (fun hk_11 hq_12 => ?_)
        refine lv_iload_n hx hb dX11_sure_37 rfl (lv_at hl 1 rfl) ?_
        obtain ⟨r_15, σ_14, hc_13, hf⟩ := g_bnd hf
        refine q_calli (va_runV (As := [.int a1]) (rest := []) ⟨hx, hb, hml, hown, hts⟩ (k_X0_oneCount l z n D cy Y hk_11 hc_13) (cwV 1 hts gX11_sure_X0_oneCount rfl rfl rfl (by decide +kernel) ⟨Nat.le_of_ble_eq_true rfl, Nat.le_of_ble_eq_true rfl⟩) (q_PV (T := TX0) (N := 13) hK hN hW hk_11 (by decide) rfl) rfl rfl hl.1 rfl (lv_room (Nat.le_of_ble_eq_true rfl)) dX11_sure_38 ⟨Nat.le_refl _, Nat.le_refl _⟩) hS (fun H locs hW hS => ?_)
        exact q_iret hx hb hr hlocks hW hS hf dX11_sure_41
      · have hf := g_neg c hf
        refine lv_bipush (v := (-2)) hx hb dX11_sure_30 (by decide) ?_
        exact q_iret hx hb hr hlocks hW hS hf dX11_sure_32
  · have hf := g_pos c hf
    refine lv_iconst (v := (-1)) hx hb dX11_sure_7 (by decide) ?_
    exact q_iret hx hb hr hlocks hW hS hf dX11_sure_8
set_option maxRecDepth 100000 in
set_option maxHeartbeats 40000000 in
theorem k_X11_turn (l : Launch) (z n : Nat) (D : va_G) (cy : Nat → ClassId) (Y : Yt) {fu : Nat} {this : Nat} {a1 : Int32} {a2 : Int32} {σ : Mm} {r : Int32} {σ1 : Mm} (h_this : okk Y n 8 this) (hf : f_X11_turn Y fu this a1 a2 σ = some (r, σ1)) : Ki l yX11_turn wsX11_turn ({ frames := 4, cells := 0, slots := 0, locals := 111 } : Room) z n D cy Y [.ref (z + this), .int a1, .int a2] σ r σ1 := by
  refine Met.ofW (cc := cX11_turn) (maxL := 3) (ret := (some .int)) (by decide +kernel) rfl ?_
  intro p e s m args below meth c s₁ B hml hv
  obtain ⟨rfl, hW, hK, hN⟩ := hv
  have hx := B.exec
  have hb := B.bytes
  have hr := B.returns
  have hts := atoms_spec (ws := wsX11_turn) B.pre
  have hown : s.vm.findClass RX11 = some m.cls := findClass_of_methodNamed B.named
  have hlocks := B.notSynchronized
  have hS : va_S (Az z) s.heap s.heap [] := va_S.rf
  have hl := lv_entry ([.ref (z + this), .int a1, .int a2]) (n := 3) (Nat.le_of_ble_eq_true rfl)
  rw [lg_entry_eq]
  generalize (lg_sl ([.ref (z + this), .int a1, .int a2]) ++ List.replicate (3 - (lg_sl ([.ref (z + this), .int a1, .int a2])).length) Slot.unset).toArray = ls at hl ⊢
  have hl : lv_has ls 3 [(0, .ref (z + this)), (1, .int a1), (2, .int a2)] := hl
  refine lv_iload_n hx hb dX11_turn_0 rfl (lv_at hl 1 rfl) ?_
  obtain ⟨r_3, σ_2, hc_1, hf⟩ := g_bnd hf
  refine q_calli (va_runS (As := [.int a1]) (rest := []) ⟨hx, hb, hml, hown, hts⟩ (k_X11_isStar l z n D cy Y hc_1) (va_cwS 1 hts gX11_turn_X11_isStar rfl rfl rfl (by decide +kernel) ⟨Nat.le_of_ble_eq_true rfl, Nat.le_of_ble_eq_true rfl⟩) (q_PS hK hN hW) rfl rfl hl.1 rfl (lv_room (Nat.le_of_ble_eq_true rfl)) dX11_turn_1 ⟨Nat.le_refl _, Nat.le_refl _⟩) hS (fun H locs hW hS => ?_)
  refine lv_if_eq (tgt := 14) hx hb dX11_turn_4 (by decide) (fun c => ?_) (fun c => ?_)
  · have hf := g_pos c hf
    refine lv_iconst (v := (-1)) hx hb dX11_turn_14 (by decide) ?_
    exact q_iret hx hb hr hlocks hW hS hf dX11_turn_15
  · have hf := g_neg c hf
    refine lv_iload_n hx hb dX11_turn_7 rfl (lv_at hl 2 rfl) ?_
    obtain ⟨r_6, σ_5, hc_4, hf⟩ := g_bnd hf
    refine q_calli (va_runS (As := [.int a2]) (rest := []) ⟨hx, hb, hml, hown, hts⟩ (k_X11_isPlace l z n D cy Y hc_4) (va_cwS 1 hts gX11_turn_X11_isPlace rfl rfl rfl (by decide +kernel) ⟨Nat.le_of_ble_eq_true rfl, Nat.le_of_ble_eq_true rfl⟩) (q_PS hK hN hW) rfl rfl hl.1 rfl (lv_room (Nat.le_of_ble_eq_true rfl)) dX11_turn_8 ⟨Nat.le_refl _, Nat.le_refl _⟩) hS (fun H locs hW hS => ?_)
    refine lv_if_ne (tgt := 16) hx hb dX11_turn_11 (by decide) (fun c => ?_) (fun c => ?_)
    · have hf := g_neg c hf
      refine lv_aload_n hx hb dX11_turn_16 rfl (lv_at hl 0 rfl) ?_
      refine lv_iload_n hx hb dX11_turn_17 rfl (lv_at hl 1 rfl) ?_
      refine lv_iload_n hx hb dX11_turn_18 rfl (lv_at hl 2 rfl) ?_
      obtain ⟨r_9, σ_8, hc_7, hf⟩ := g_bnd hf
      refine q_calli (va_runV (As := [.int a1, .int a2]) (rest := []) ⟨hx, hb, hml, hown, hts⟩ (k_X11_hasResidue l z n D cy Y h_this hc_7) (cwV 2 hts gX11_turn_X11_hasResidue rfl rfl rfl (by decide +kernel) ⟨Nat.le_of_ble_eq_true rfl, Nat.le_of_ble_eq_true rfl⟩) (q_PV (T := TX11) (N := 10) hK hN hW h_this (by decide) rfl) rfl rfl hl.1 rfl (lv_room (Nat.le_of_ble_eq_true rfl)) dX11_turn_19 ⟨Nat.le_refl _, Nat.le_refl _⟩) hS (fun H locs hW hS => ?_)
      refine lv_if_eq (tgt := 34) hx hb dX11_turn_22 (by decide) (fun c => ?_) (fun c => ?_)
      · have hf := g_pos c hf
        refine lv_bipush (v := (-2)) hx hb dX11_turn_34 (by decide) ?_
        exact q_iret hx hb hr hlocks hW hS hf dX11_turn_36
      · have hf := g_neg c hf
        refine lv_aload_n hx hb dX11_turn_25 rfl (lv_at hl 0 rfl) ?_
        refine lv_iload_n hx hb dX11_turn_26 rfl (lv_at hl 1 rfl) ?_
        refine lv_iload_n hx hb dX11_turn_27 rfl (lv_at hl 2 rfl) ?_
        obtain ⟨r_12, σ_11, hc_10, hf⟩ := g_bnd hf
        refine q_calli (va_runV (As := [.int a1, .int a2]) (rest := []) ⟨hx, hb, hml, hown, hts⟩ (k_X11_turnOf l z n D cy Y h_this hc_10) (cwV 2 hts gX11_turn_X11_turnOf rfl rfl rfl (by decide +kernel) ⟨Nat.le_of_ble_eq_true rfl, Nat.le_of_ble_eq_true rfl⟩) (q_PV (T := TX11) (N := 10) hK hN hW h_this (by decide) rfl) rfl rfl hl.1 rfl (lv_room (Nat.le_of_ble_eq_true rfl)) dX11_turn_28 ⟨Nat.le_refl _, Nat.le_refl _⟩) hS (fun H locs hW hS => ?_)
        refine lv_goto (tgt := 36) hx hb dX11_turn_31 (by decide) ?_
        exact q_iret hx hb hr hlocks hW hS hf dX11_turn_36
    · have hf := g_pos c hf
      refine lv_iconst (v := (-1)) hx hb dX11_turn_14 (by decide) ?_
      exact q_iret hx hb hr hlocks hW hS hf dX11_turn_15
set_option maxRecDepth 100000 in
set_option maxHeartbeats 40000000 in
theorem k_X11_way (l : Launch) (z n : Nat) (D : va_G) (cy : Nat → ClassId) (Y : Yt) {this : Nat} {a1 : Int32} {a2 : Int32} {σ : Mm} {r : Int32} {σ1 : Mm} (h_this : okk Y n 8 this) (hf : f_X11_way Y this a1 a2 σ = some (r, σ1)) : Ki l yX11_way wsX11_way ({ frames := 2, cells := 0, slots := 0, locals := 42 } : Room) z n D cy Y [.ref (z + this), .int a1, .int a2] σ r σ1 := by
  refine Met.ofW (cc := cX11_way) (maxL := 3) (ret := (some .int)) (by decide +kernel) rfl ?_
  intro p e s m args below meth c s₁ B hml hv
  obtain ⟨rfl, hW, hK, hN⟩ := hv
  have hx := B.exec
  have hb := B.bytes
  have hr := B.returns
  have hts := atoms_spec (ws := wsX11_way) B.pre
  have hown : s.vm.findClass RX11 = some m.cls := findClass_of_methodNamed B.named
  have hlocks := B.notSynchronized
  have hS : va_S (Az z) s.heap s.heap [] := va_S.rf
  have hin11 : ∀ w ∈ wsX110, w ∈ wsX11_way := fun w h => List.mem_cons_of_mem _ (List.mem_append_left _ (List.mem_append_right _ h))
  have hin0 : ∀ w ∈ wsX00, w ∈ wsX11_way := fun w h => List.mem_cons_of_mem _ (List.mem_append_right _ h)
  have hw0 := hts (.fieldLink RX11 45 "SkyClocks" "carried" "LSkyClocks$Carried;") (List.mem_of_getElem? (i := 1) rfl)
  have hw1 : va_Nw (.fieldLinkNest RX11 185 "SkyClocks$Carried" "arrivals" "I" "SkyClocks") s := hN _ (List.mem_of_getElem? (i := 8) rfl)
  have hw2 : va_Nw (.fieldLinkNest RX11 188 "SkyClocks$Carried" "found" "I" "SkyClocks") s := hN _ (List.mem_of_getElem? (i := 9) rfl)
  have hl := lv_entry ([.ref (z + this), .int a1, .int a2]) (n := 3) (Nat.le_of_ble_eq_true rfl)
  rw [lg_entry_eq]
  generalize (lg_sl ([.ref (z + this), .int a1, .int a2]) ++ List.replicate (3 - (lg_sl ([.ref (z + this), .int a1, .int a2])).length) Slot.unset).toArray = ls at hl ⊢
  have hl : lv_has ls 3 [(0, .ref (z + this)), (1, .int a1), (2, .int a2)] := hl
  refine lv_iload_n hx hb dX11_way_0 rfl (lv_at hl 1 rfl) ?_
  refine lv_if_lt (tgt := 11) hx hb dX11_way_1 (by decide) (fun c => ?_) (fun c => ?_)
  · have hf := g_pos c hf
    refine lv_iconst (v := (-1)) hx hb dX11_way_11 (by decide) ?_
    exact q_iret hx hb hr hlocks hW hS hf dX11_way_12
  · have hf := g_neg c hf
    refine lv_iload_n hx hb dX11_way_4 rfl (lv_at hl 2 rfl) ?_
    obtain ⟨r_3, σ_2, hc_1, hf⟩ := g_bnd hf
    refine q_calli (va_runS (As := [.int a2]) (rest := []) ⟨hx, hb, hml, hown, hts⟩ (k_X11_isPlace l z n D cy Y hc_1) (va_cwS 1 hts gX11_way_X11_isPlace rfl rfl rfl (by decide +kernel) ⟨Nat.le_of_ble_eq_true rfl, Nat.le_of_ble_eq_true rfl⟩) (q_PS hK hN hW) rfl rfl hl.1 rfl (lv_room (Nat.le_of_ble_eq_true rfl)) dX11_way_5 ⟨Nat.le_refl _, Nat.le_refl _⟩) hS (fun H locs hW hS => ?_)
    refine lv_if_ne (tgt := 13) hx hb dX11_way_8 (by decide) (fun c => ?_) (fun c => ?_)
    · have hf := g_neg c hf
      refine lv_aload_n hx hb dX11_way_13 rfl (lv_at hl 0 rfl) ?_
      refine q_getp (own := RX11) (ref := RX11) (C := RX11) (T := TX11) (N := 10) (kc := 8) (ci := 0) hx hb hts hin11 hown hK hW h_this (by decide) rfl 5 (by decide) hw0 rfl rfl rfl (v := 17) rfl dX11_way_14 (fun hk_4 hq_5 => ?_)
      obtain ⟨r_8, σ_7, hc_6, hf⟩ := g_bnd hf
      refine q_calli (va_runV (As := []) (rest := []) ⟨hx, hb, hml, hown, hts⟩ (k_X0_stands l z n D cy Y hk_4 hc_6) (cwV 0 hts gX11_way_X0_stands rfl rfl rfl (by decide +kernel) ⟨Nat.le_of_ble_eq_true rfl, Nat.le_of_ble_eq_true rfl⟩) (q_PV (T := TX0) (N := 13) hK hN hW hk_4 (by decide) rfl) rfl rfl hl.1 rfl (lv_room (Nat.le_of_ble_eq_true rfl)) dX11_way_17 ⟨Nat.le_refl _, Nat.le_refl _⟩) hS (fun H locs hW hS => ?_)
      refine lv_if_eq (tgt := 34) hx hb dX11_way_20 (by decide) (fun c => ?_) (fun c => ?_)
      · have hf := g_pos c hf
        refine lv_bipush (v := (-2)) hx hb dX11_way_34 (by decide) ?_
        exact q_iret hx hb hr hlocks hW hS hf dX11_way_36
      · have hf := g_neg c hf
        refine lv_iload_n hx hb dX11_way_23 rfl (lv_at hl 2 rfl) ?_
        refine lv_aload_n hx hb dX11_way_24 rfl (lv_at hl 0 rfl) ?_
        refine q_getp (own := RX11) (ref := RX11) (C := RX11) (T := TX11) (N := 10) (kc := 8) (ci := 0) hx hb hts hin11 hown hK hW h_this (by decide) rfl 5 (by decide) hw0 rfl rfl rfl (v := 17) rfl dX11_way_25 (fun hk_9 hq_10 => ?_)
        refine q_getiN (own := RX11) (ref := RX0) (C := RX0) (T := TX0) (N := 13) (kc := 0) (ci := 0) (host := "SkyClocks") hx hb hts hin0 hown hK hW hk_9 (by decide) rfl 2 (by decide) hw1 rfl rfl dX11_way_28 ?_
        refine lv_icmp_lt (tgt := 37) hx hb dX11_way_31 (by decide) (fun c => ?_) (fun c => ?_)
        · have hf := g_pos c hf
          refine lv_iload_n hx hb dX11_way_37 rfl (lv_at hl 1 rfl) ?_
          refine lv_aload_n hx hb dX11_way_38 rfl (lv_at hl 0 rfl) ?_
          refine q_getp (own := RX11) (ref := RX11) (C := RX11) (T := TX11) (N := 10) (kc := 8) (ci := 0) hx hb hts hin11 hown hK hW h_this (by decide) rfl 5 (by decide) hw0 rfl rfl rfl (v := 17) rfl dX11_way_39 (fun hk_11 hq_12 => ?_)
          refine q_getiN (own := RX11) (ref := RX0) (C := RX0) (T := TX0) (N := 13) (kc := 0) (ci := 0) (host := "SkyClocks") hx hb hts hin0 hown hK hW hk_11 (by decide) rfl 3 (by decide) hw2 rfl rfl dX11_way_42 ?_
          refine lv_icmp_ge (tgt := 60) hx hb dX11_way_45 (by decide) (fun c => ?_) (fun c => ?_)
          · have hf := g_pos c hf
            refine lv_bipush (v := (-4)) hx hb dX11_way_60 (by decide) ?_
            exact q_iret hx hb hr hlocks hW hS hf dX11_way_62
          · have hf := g_neg c hf
            refine lv_aload_n hx hb dX11_way_48 rfl (lv_at hl 0 rfl) ?_
            refine q_getp (own := RX11) (ref := RX11) (C := RX11) (T := TX11) (N := 10) (kc := 8) (ci := 0) hx hb hts hin11 hown hK hW h_this (by decide) rfl 5 (by decide) hw0 rfl rfl rfl (v := 17) rfl dX11_way_49 (fun hk_13 hq_14 => ?_)
            refine lv_iload_n hx hb dX11_way_52 rfl (lv_at hl 1 rfl) ?_
            refine lv_iload_n hx hb dX11_way_53 rfl (lv_at hl 2 rfl) ?_
            obtain ⟨r_17, σ_16, hc_15, hf⟩ := g_bnd hf
            refine q_calli (va_runV (As := [.int a1, .int a2]) (rest := []) ⟨hx, hb, hml, hown, hts⟩ (k_X0_countOf l z n D cy Y hk_13 hc_15) (cwV 2 hts gX11_way_X0_countOf rfl rfl rfl (by decide +kernel) ⟨Nat.le_of_ble_eq_true rfl, Nat.le_of_ble_eq_true rfl⟩) (q_PV (T := TX0) (N := 13) hK hN hW hk_13 (by decide) rfl) rfl rfl hl.1 rfl (lv_room (Nat.le_of_ble_eq_true rfl)) dX11_way_54 ⟨Nat.le_refl _, Nat.le_refl _⟩) hS (fun H locs hW hS => ?_)
            refine lv_goto (tgt := 62) hx hb dX11_way_57 (by decide) ?_
            exact q_iret hx hb hr hlocks hW hS hf dX11_way_62
        · have hf := g_neg c hf
          refine lv_bipush (v := (-2)) hx hb dX11_way_34 (by decide) ?_
          exact q_iret hx hb hr hlocks hW hS hf dX11_way_36
    · have hf := g_pos c hf
      refine lv_iconst (v := (-1)) hx hb dX11_way_11 (by decide) ?_
      exact q_iret hx hb hr hlocks hW hS hf dX11_way_12
set_option maxRecDepth 100000 in
set_option maxHeartbeats 40000000 in
theorem k_X11_ways (l : Launch) (z n : Nat) (D : va_G) (cy : Nat → ClassId) (Y : Yt) {fu : Nat} {this : Nat} {a1 : Int32} {a2 : Int32} {a3 : Int32} {σ : Mm} {r : Int32} {σ1 : Mm} (h_this : okk Y n 8 this) (hf : f_X11_ways Y fu this a1 a2 a3 σ = some (r, σ1)) : Ki l yX11_ways wsX11_ways ({ frames := 5, cells := 0, slots := 0, locals := 154 } : Room) z n D cy Y [.ref (z + this), .int a1, .int a2, .int a3] σ r σ1 := by
  refine Met.ofW (cc := cX11_ways) (maxL := 6) (ret := (some .int)) (by decide +kernel) rfl ?_
  intro p e s m args below meth c s₁ B hml hv
  obtain ⟨rfl, hW, hK, hN⟩ := hv
  have hx := B.exec
  have hb := B.bytes
  have hr := B.returns
  have hts := atoms_spec (ws := wsX11_ways) B.pre
  have hown : s.vm.findClass RX11 = some m.cls := findClass_of_methodNamed B.named
  have hlocks := B.notSynchronized
  have hS : va_S (Az z) s.heap s.heap [] := va_S.rf
  have hin11 : ∀ w ∈ wsX110, w ∈ wsX11_ways := fun w h => List.mem_cons_of_mem _ (List.mem_append_left _ (List.mem_append_left _ (List.mem_append_left _ (List.mem_append_left _ (List.mem_append_right _ h)))))
  have hin7 : ∀ w ∈ wsX70, w ∈ wsX11_ways := fun w h => List.mem_cons_of_mem _ (List.mem_append_left _ (List.mem_append_left _ (List.mem_append_left _ (List.mem_append_right _ h))))
  have hin8 : ∀ w ∈ wsX80, w ∈ wsX11_ways := fun w h => List.mem_cons_of_mem _ (List.mem_append_left _ (List.mem_append_left _ (List.mem_append_right _ h)))
  have hw0 := hts (.constant RX11 170 (100000)) (List.mem_of_getElem? (i := 1) rfl)
  have hw1 := hts (.constant RX11 171 (100000000)) (List.mem_of_getElem? (i := 2) rfl)
  have hw2 := hts (.fieldLink RX11 18 "SkyClocks" "stars" "[LSkyClocks$Star;") (List.mem_of_getElem? (i := 3) rfl)
  have hw3 : va_Nw (.fieldLinkNest RX11 114 "SkyClocks$Star" "seen" "I" "SkyClocks") s := hN _ (List.mem_of_getElem? (i := 11) rfl)
  have hw4 := hts (.fieldLink RX11 45 "SkyClocks" "carried" "LSkyClocks$Carried;") (List.mem_of_getElem? (i := 4) rfl)
  have hw5 := hts (.fieldLink RX11 10 "SkyClocks" "tables" "LSkyClocks$Tables;") (List.mem_of_getElem? (i := 5) rfl)
  have hw6 : va_Nw (.fieldLinkNest RX11 105 "SkyClocks$Tables" "version" "I" "SkyClocks") s := hN _ (List.mem_of_getElem? (i := 2) rfl)
  have hl := lv_entry ([.ref (z + this), .int a1, .int a2, .int a3]) (n := 6) (Nat.le_of_ble_eq_true rfl)
  rw [lg_entry_eq]
  generalize (lg_sl ([.ref (z + this), .int a1, .int a2, .int a3]) ++ List.replicate (6 - (lg_sl ([.ref (z + this), .int a1, .int a2, .int a3])).length) Slot.unset).toArray = ls at hl ⊢
  have hl : lv_has ls 6 [(0, .ref (z + this)), (1, .int a1), (2, .int a2), (3, .int a3)] := hl
  have B68 : ∀ (nn : Nat) (x4 : Int32) (x5 : Int32) (σ : Mm), b_X11_ways_68 Y fu this a1 a2 a3 nn x4 x5 σ = some (r, σ1) → ∀ (H : Heap) (locs : List Loc) (ls : Array Slot), WH z n D cy Y σ H → va_S (Az z) s.heap H locs → lv_has ls 6 [(0, .ref (z + this)), (1, .int a1), (2, .int a2), (3, .int a3), (4, .int x4), (5, .int x5)] → W p l e ({ frames := 5, cells := 0, slots := 0, locals := 154 } : Room) s m ([.ref (z + this), .int a1, .int a2, .int a3] : List Value).toArray below meth c H locs 0 0 (MQ below (va_Qi (fun (x : Int32) (_ : Unit) => x = r) (fun _ t => WH z n D cy Y σ1 t.heap) (Az z)) ([.ref (z + this), .int a1, .int a2, .int a3] : List Value).toArray s 0 0 (Az z)) (F0 m 68 ls []) := by
    intro nn
    induction nn with
    | zero =>
      intro x4 x5 σ  hf
      have h9 : (none : Option (Int32 × Mm)) = some (r, σ1) := hf
      cases h9
    | succ nn H68 =>
      intro x4 x5 σ  hf H locs ls hW hS hl
      have hf : s_X11_ways_68 Y fu this a1 a2 a3 (b_X11_ways_68 Y fu this a1 a2 a3 nn) x4 x5 σ = some (r, σ1) := hf
      generalize hkk : b_X11_ways_68 Y fu this a1 a2 a3 nn = k68 at hf H68
      refine lv_iload hx hb dX11_ways_68 (lv_at hl 5 rfl) ?_
      refine lv_iload hx hb dX11_ways_70 (lv_at hl 4 rfl) ?_
      refine lv_icmp_ge (tgt := 116) hx hb dX11_ways_72 (by decide) (fun c => ?_) (fun c => ?_)
      · have hf := g_pos c hf
        refine lv_aload_n hx hb dX11_ways_116 rfl (lv_at hl 0 rfl) ?_
        refine q_getp (own := RX11) (ref := RX11) (C := RX11) (T := TX11) (N := 10) (kc := 8) (ci := 0) hx hb hts hin11 hown hK hW h_this (by decide) rfl 5 (by decide) hw4 rfl rfl rfl (v := 17) rfl dX11_ways_117 (fun hk_20 hq_21 => ?_)
        refine lv_iload_n hx hb dX11_ways_120 rfl (lv_at hl 2 rfl) ?_
        refine lv_iload_n hx hb dX11_ways_121 rfl (lv_at hl 3 rfl) ?_
        obtain ⟨r_24, σ_23, hc_22, hf⟩ := g_bnd hf
        refine q_calli (va_runV (As := [.int a2, .int a3]) (rest := []) ⟨hx, hb, hml, hown, hts⟩ (k_X0_seek l z n D cy Y hk_20 hc_22) (cwV 2 hts gX11_ways_X0_seek rfl rfl rfl (by decide +kernel) ⟨Nat.le_of_ble_eq_true rfl, Nat.le_of_ble_eq_true rfl⟩) (q_PV (T := TX0) (N := 13) hK hN hW hk_20 (by decide) rfl) rfl rfl hl.1 rfl (lv_room (Nat.le_of_ble_eq_true rfl)) dX11_ways_122 ⟨Nat.le_refl _, Nat.le_refl _⟩) hS (fun H locs hW hS => ?_)
        exact q_iret hx hb hr hlocks hW hS hf dX11_ways_125
      · have hf := g_neg c hf
        refine lv_aload_n hx hb dX11_ways_75 rfl (lv_at hl 0 rfl) ?_
        refine q_getp (own := RX11) (ref := RX11) (C := RX11) (T := TX11) (N := 10) (kc := 8) (ci := 0) hx hb hts hin11 hown hK hW h_this (by decide) rfl 5 (by decide) hw4 rfl rfl rfl (v := 17) rfl dX11_ways_76 (fun hk_25 hq_26 => ?_)
        refine lv_iload hx hb dX11_ways_79 (lv_at hl 5 rfl) ?_
        refine lv_aload_n hx hb dX11_ways_81 rfl (lv_at hl 0 rfl) ?_
        refine lv_iload_n hx hb dX11_ways_82 rfl (lv_at hl 1 rfl) ?_
        refine lv_iload hx hb dX11_ways_83 (lv_at hl 5 rfl) ?_
        refine lv_aload_n hx hb dX11_ways_85 rfl (lv_at hl 0 rfl) ?_
        refine q_getp (own := RX11) (ref := RX11) (C := RX11) (T := TX11) (N := 10) (kc := 8) (ci := 0) hx hb hts hin11 hown hK hW h_this (by decide) rfl 0 (by decide) hw5 rfl rfl rfl (v := 2) rfl dX11_ways_86 (fun hk_27 hq_28 => ?_)
        refine q_getiN (own := RX11) (ref := RX8) (C := RX8) (T := TX8) (N := 4) (kc := 5) (ci := 0) (host := "SkyClocks") hx hb hts hin8 hown hK hW hk_27 (by decide) rfl 2 (by decide) hw6 rfl rfl dX11_ways_89 ?_
        obtain ⟨r_31, σ_30, hc_29, hf⟩ := g_bnd hf
        refine q_calli (va_runV (As := [.int a1, .int x5, .int (Mm.gi σ 2 2)]) (rest := [.int x5, .ref (z + 17)]) ⟨hx, hb, hml, hown, hts⟩ (k_X11_corrected l z n D cy Y h_this hc_29) (cwV 3 hts gX11_ways_X11_corrected rfl rfl rfl (by decide +kernel) ⟨Nat.le_of_ble_eq_true rfl, Nat.le_of_ble_eq_true rfl⟩) (q_PV (T := TX11) (N := 10) hK hN hW h_this (by decide) rfl) rfl rfl hl.1 rfl (lv_room (Nat.le_of_ble_eq_true rfl)) dX11_ways_92 ⟨Nat.le_refl _, Nat.le_refl _⟩) hS (fun H locs hW hS => ?_)
        refine lv_aload_n hx hb dX11_ways_95 rfl (lv_at hl 0 rfl) ?_
        refine q_getp (own := RX11) (ref := RX11) (C := RX11) (T := TX11) (N := 10) (kc := 8) (ci := 0) hx hb hts hin11 hown hK hW h_this (by decide) rfl 1 (by decide) hw2 rfl rfl rfl (v := 7) rfl dX11_ways_96 (fun hk_32 hq_33 => ?_)
        refine lv_iload_n hx hb dX11_ways_99 rfl (lv_at hl 1 rfl) ?_
        obtain ⟨hi_34, hf⟩ := g_in hf
        refine q_aalp (kc := 14) (t := 4) hx hb hK hW hk_32 rfl (inb_of hq_33 hi_34) rfl dX11_ways_100 (fun hk_35 hq_36 => ?_)
        refine lv_iload hx hb dX11_ways_101 (lv_at hl 5 rfl) ?_
        refine lv_iconst (v := 1) hx hb dX11_ways_103 (by decide) ?_
        obtain ⟨r_39, σ_38, hc_37, hf⟩ := g_bnd hf
        refine q_calli (va_runV (As := [.int x5, .int 1]) (rest := [.int r_31, .int x5, .ref (z + 17)]) ⟨hx, hb, hml, hown, hts⟩ (k_X7_value l z n D cy Y hk_35 hc_37) (cwV 2 hts gX11_ways_X7_value rfl rfl rfl (by decide +kernel) ⟨Nat.le_of_ble_eq_true rfl, Nat.le_of_ble_eq_true rfl⟩) (q_PV (T := TX7) (N := 4) hK hN hW hk_35 (by decide) rfl) rfl rfl hl.1 rfl (lv_room (Nat.le_of_ble_eq_true rfl)) dX11_ways_104 ⟨Nat.le_refl _, Nat.le_refl _⟩) hS (fun H locs hW hS => ?_)
        obtain ⟨σ_41, hc_40, hf⟩ := g_bn1 hf
        refine q_callv (va_runV (As := [.int x5, .int r_31, .int r_39]) (rest := []) ⟨hx, hb, hml, hown, hts⟩ (k_X0_put l z n D cy Y hk_25 hc_40) (cwV 3 hts gX11_ways_X0_put rfl rfl rfl (by decide +kernel) ⟨Nat.le_of_ble_eq_true rfl, Nat.le_of_ble_eq_true rfl⟩) (q_PV (T := TX0) (N := 13) hK hN hW hk_25 (by decide) rfl) rfl rfl hl.1 rfl (lv_room (Nat.le_of_ble_eq_true rfl)) dX11_ways_107 ⟨Nat.le_refl _, Nat.le_refl _⟩) hS (fun H locs hW hS => ?_)
        obtain ⟨x5_42, ex5_42⟩ : ∃ y : Int32, y = x5 + 1 := ⟨_, rfl⟩
        have hf := g_lt ex5_42 hf
        refine lv_iinc (v := x5_42) (lv' := [(5, .int x5_42), (0, .ref (z + this)), (1, .int a1), (2, .int a2), (3, .int a3), (4, .int x4)]) hx hb dX11_ways_110 hl (k := 5) rfl (by rw [ex5_42]; rfl) (by decide) rfl (fun ls hl => ?_)
        refine lv_goto (tgt := 68) hx hb dX11_ways_113 (by decide) ?_
        exact H68 x4 x5_42 σ_41 hf _ _ _ hW hS (lv_sub hl [1, 2, 3, 4, 5, 0] rfl)
  refine lv_iload_n hx hb dX11_ways_0 rfl (lv_at hl 1 rfl) ?_
  obtain ⟨r_3, σ_2, hc_1, hf⟩ := g_bnd hf
  refine q_calli (va_runS (As := [.int a1]) (rest := []) ⟨hx, hb, hml, hown, hts⟩ (k_X11_isStar l z n D cy Y hc_1) (va_cwS 1 hts gX11_ways_X11_isStar rfl rfl rfl (by decide +kernel) ⟨Nat.le_of_ble_eq_true rfl, Nat.le_of_ble_eq_true rfl⟩) (q_PS hK hN hW) rfl rfl hl.1 rfl (lv_room (Nat.le_of_ble_eq_true rfl)) dX11_ways_1 ⟨Nat.le_refl _, Nat.le_refl _⟩) hS (fun H locs hW hS => ?_)
  refine lv_if_eq (tgt := 34) hx hb dX11_ways_4 (by decide) (fun c => ?_) (fun c => ?_)
  · have hf := g_pos c hf
    refine lv_iconst (v := (-1)) hx hb dX11_ways_34 (by decide) ?_
    exact q_iret hx hb hr hlocks hW hS hf dX11_ways_35
  · have hf := g_neg c hf
    refine lv_iload_n hx hb dX11_ways_7 rfl (lv_at hl 2 rfl) ?_
    refine lv_ldc hx hb hown hw0 dX11_ways_8 ?_
    refine lv_ldc hx hb hown hw1 dX11_ways_10 ?_
    obtain ⟨r_6, σ_5, hc_4, hf⟩ := g_bnd hf
    refine q_calli (va_runS (As := [.int a2, .int 100000, .int 100000000]) (rest := []) ⟨hx, hb, hml, hown, hts⟩ (k_X11_within l z n D cy Y hc_4) (va_cwS 3 hts gX11_ways_X11_within rfl rfl rfl (by decide +kernel) ⟨Nat.le_of_ble_eq_true rfl, Nat.le_of_ble_eq_true rfl⟩) (q_PS hK hN hW) rfl rfl hl.1 rfl (lv_room (Nat.le_of_ble_eq_true rfl)) dX11_ways_12 ⟨Nat.le_refl _, Nat.le_refl _⟩) hS (fun H locs hW hS => ?_)
    refine lv_if_eq (tgt := 34) hx hb dX11_ways_15 (by decide) (fun c => ?_) (fun c => ?_)
    · have hf := g_pos c hf
      refine lv_iconst (v := (-1)) hx hb dX11_ways_34 (by decide) ?_
      exact q_iret hx hb hr hlocks hW hS hf dX11_ways_35
    · have hf := g_neg c hf
      refine lv_iload_n hx hb dX11_ways_18 rfl (lv_at hl 3 rfl) ?_
      refine lv_ldc hx hb hown hw0 dX11_ways_19 ?_
      refine lv_ldc hx hb hown hw1 dX11_ways_21 ?_
      obtain ⟨r_9, σ_8, hc_7, hf⟩ := g_bnd hf
      refine q_calli (va_runS (As := [.int a3, .int 100000, .int 100000000]) (rest := []) ⟨hx, hb, hml, hown, hts⟩ (k_X11_within l z n D cy Y hc_7) (va_cwS 3 hts gX11_ways_X11_within rfl rfl rfl (by decide +kernel) ⟨Nat.le_of_ble_eq_true rfl, Nat.le_of_ble_eq_true rfl⟩) (q_PS hK hN hW) rfl rfl hl.1 rfl (lv_room (Nat.le_of_ble_eq_true rfl)) dX11_ways_23 ⟨Nat.le_refl _, Nat.le_refl _⟩) hS (fun H locs hW hS => ?_)
      refine lv_if_eq (tgt := 34) hx hb dX11_ways_26 (by decide) (fun c => ?_) (fun c => ?_)
      · have hf := g_pos c hf
        refine lv_iconst (v := (-1)) hx hb dX11_ways_34 (by decide) ?_
        exact q_iret hx hb hr hlocks hW hS hf dX11_ways_35
      · have hf := g_neg c hf
        refine lv_iload_n hx hb dX11_ways_29 rfl (lv_at hl 2 rfl) ?_
        refine lv_iload_n hx hb dX11_ways_30 rfl (lv_at hl 3 rfl) ?_
        refine lv_icmp_le (tgt := 36) hx hb dX11_ways_31 (by decide) (fun c => ?_) (fun c => ?_)
        · have hf := g_pos c hf
          refine lv_aload_n hx hb dX11_ways_36 rfl (lv_at hl 0 rfl) ?_
          refine q_getp (own := RX11) (ref := RX11) (C := RX11) (T := TX11) (N := 10) (kc := 8) (ci := 0) hx hb hts hin11 hown hK hW h_this (by decide) rfl 1 (by decide) hw2 rfl rfl rfl (v := 7) rfl dX11_ways_37 (fun hk_10 hq_11 => ?_)
          refine lv_iload_n hx hb dX11_ways_40 rfl (lv_at hl 1 rfl) ?_
          obtain ⟨hi_12, hf⟩ := g_in hf
          refine q_aalp (kc := 14) (t := 4) hx hb hK hW hk_10 rfl (inb_of hq_11 hi_12) rfl dX11_ways_41 (fun hk_13 hq_14 => ?_)
          refine q_getiN (own := RX11) (ref := RX7) (C := RX7) (T := TX7) (N := 4) (kc := 4) (ci := 0) (host := "SkyClocks") hx hb hts hin7 hown hK hW hk_13 (by decide) rfl 3 (by decide) hw3 rfl rfl dX11_ways_42 ?_
          refine lv_topi (fun x4_15 ex4_15 => ?_)
          have hf := g_lt ex4_15 hf
          refine lv_istore (lv' := [(4, .int x4_15), (0, .ref (z + this)), (1, .int a1), (2, .int a2), (3, .int a3)]) hx hb dX11_ways_45 hl (by decide) rfl (fun ls hl => ?_)
          refine lv_iload hx hb dX11_ways_47 (lv_at hl 0 rfl) ?_
          refine lv_iconst (v := 2) hx hb dX11_ways_49 (by decide) ?_
          refine lv_icmp_ge (tgt := 56) hx hb dX11_ways_50 (by decide) (fun c => ?_) (fun c => ?_)
          · have hf := g_pos c hf
            refine lv_aload_n hx hb dX11_ways_56 rfl (lv_at hl 1 rfl) ?_
            refine q_getp (own := RX11) (ref := RX11) (C := RX11) (T := TX11) (N := 10) (kc := 8) (ci := 0) hx hb hts hin11 hown hK hW h_this (by decide) rfl 5 (by decide) hw4 rfl rfl rfl (v := 17) rfl dX11_ways_57 (fun hk_16 hq_17 => ?_)
            refine lv_iload hx hb dX11_ways_60 (lv_at hl 0 rfl) ?_
            obtain ⟨σ_19, hc_18, hf⟩ := g_bn1 hf
            refine q_callv (va_runV (As := [.int x4_15]) (rest := []) ⟨hx, hb, hml, hown, hts⟩ (k_X0_begin l z n D cy Y hk_16 hc_18) (cwV 1 hts gX11_ways_X0_begin rfl rfl rfl (by decide +kernel) ⟨Nat.le_of_ble_eq_true rfl, Nat.le_of_ble_eq_true rfl⟩) (q_PV (T := TX0) (N := 13) hK hN hW hk_16 (by decide) rfl) rfl rfl hl.1 rfl (lv_room (Nat.le_of_ble_eq_true rfl)) dX11_ways_62 ⟨Nat.le_refl _, Nat.le_refl _⟩) hS (fun H locs hW hS => ?_)
            refine lv_iconst (v := 0) hx hb dX11_ways_65 (by decide) ?_
            refine lv_istore (lv' := [(5, .int 0), (4, .int x4_15), (0, .ref (z + this)), (1, .int a1), (2, .int a2), (3, .int a3)]) hx hb dX11_ways_66 hl (by decide) rfl (fun ls hl => ?_)
            exact B68 fu x4_15 0 σ_19 hf _ _ _ hW hS (lv_sub hl [2, 3, 4, 5, 1, 0] rfl)
          · have hf := g_neg c hf
            refine lv_bipush (v := (-2)) hx hb dX11_ways_53 (by decide) ?_
            exact q_iret hx hb hr hlocks hW hS hf dX11_ways_55
        · have hf := g_neg c hf
          refine lv_iconst (v := (-1)) hx hb dX11_ways_34 (by decide) ?_
          exact q_iret hx hb hr hlocks hW hS hf dX11_ways_35
set_option maxRecDepth 100000 in
set_option maxHeartbeats 40000000 in
theorem k_X11_wipe (l : Launch) (z n : Nat) (D : va_G) (cy : Nat → ClassId) (Y : Yt) {this : Nat} {σ : Mm} {r : Int32} {σ1 : Mm} (h_this : okk Y n 8 this) (hf : f_X11_wipe Y this σ = some (r, σ1)) : Ki l yX11_wipe wsX11_wipe ({ frames := 1, cells := 0, slots := 0, locals := 21 } : Room) z n D cy Y [.ref (z + this)] σ r σ1 := by
  refine Met.ofW (cc := cX11_wipe) (maxL := 1) (ret := (some .int)) (by decide +kernel) rfl ?_
  intro p e s m args below meth c s₁ B hml hv
  obtain ⟨rfl, hW, hK, hN⟩ := hv
  have hx := B.exec
  have hb := B.bytes
  have hr := B.returns
  have hts := atoms_spec (ws := wsX11_wipe) B.pre
  have hown : s.vm.findClass RX11 = some m.cls := findClass_of_methodNamed B.named
  have hlocks := B.notSynchronized
  have hS : va_S (Az z) s.heap s.heap [] := va_S.rf
  have hin11 : ∀ w ∈ wsX110, w ∈ wsX11_wipe := fun w h => List.mem_cons_of_mem _ (List.mem_append_left _ (List.mem_append_right _ h))
  have hw0 := hts (.fieldLink RX11 31 "SkyClocks" "text" "LSkyClocks$Text;") (List.mem_of_getElem? (i := 1) rfl)
  have hl := lv_entry ([.ref (z + this)]) (n := 1) (Nat.le_of_ble_eq_true rfl)
  rw [lg_entry_eq]
  generalize (lg_sl ([.ref (z + this)]) ++ List.replicate (1 - (lg_sl ([.ref (z + this)])).length) Slot.unset).toArray = ls at hl ⊢
  have hl : lv_has ls 1 [(0, .ref (z + this))] := hl
  refine lv_aload_n hx hb dX11_wipe_0 rfl (lv_at hl 0 rfl) ?_
  refine q_getp (own := RX11) (ref := RX11) (C := RX11) (T := TX11) (N := 10) (kc := 8) (ci := 0) hx hb hts hin11 hown hK hW h_this (by decide) rfl 3 (by decide) hw0 rfl rfl rfl (v := 9) rfl dX11_wipe_1 (fun hk_1 hq_2 => ?_)
  obtain ⟨r_5, σ_4, hc_3, hf⟩ := g_bnd hf
  refine q_calli (va_runV (As := []) (rest := []) ⟨hx, hb, hml, hown, hts⟩ (k_X9_empty l z n D cy Y hk_1 hc_3) (cwV 0 hts gX11_wipe_X9_empty rfl rfl rfl (by decide +kernel) ⟨Nat.le_of_ble_eq_true rfl, Nat.le_of_ble_eq_true rfl⟩) (q_PV (T := TX9) (N := 4) hK hN hW hk_1 (by decide) rfl) rfl rfl hl.1 rfl (lv_room (Nat.le_of_ble_eq_true rfl)) dX11_wipe_4 ⟨Nat.le_refl _, Nat.le_refl _⟩) hS (fun H locs hW hS => ?_)
  exact q_iret hx hb hr hlocks hW hS hf dX11_wipe_7
set_option maxRecDepth 100000 in
set_option maxHeartbeats 40000000 in
theorem k_X11_write (l : Launch) (z n : Nat) (D : va_G) (cy : Nat → ClassId) (Y : Yt) {fu : Nat} {this : Nat} {a1 : Int32} {a2 : Int64} {σ : Mm} {r : Int32} {σ1 : Mm} (h_this : okk Y n 8 this) (hf : f_X11_write Y fu this a1 a2 σ = some (r, σ1)) : Ki l yX11_write wsX11_write ({ frames := 1, cells := 0, slots := 0, locals := 24 } : Room) z n D cy Y [.ref (z + this), .int a1, .long a2] σ r σ1 := by
  refine Met.ofW (cc := cX11_write) (maxL := 4) (ret := (some .int)) (by decide +kernel) rfl ?_
  intro p e s m args below meth c s₁ B hml hv
  obtain ⟨rfl, hW, hK, hN⟩ := hv
  have hx := B.exec
  have hb := B.bytes
  have hr := B.returns
  have hts := atoms_spec (ws := wsX11_write) B.pre
  have hown : s.vm.findClass RX11 = some m.cls := findClass_of_methodNamed B.named
  have hlocks := B.notSynchronized
  have hS : va_S (Az z) s.heap s.heap [] := va_S.rf
  have hin11 : ∀ w ∈ wsX110, w ∈ wsX11_write := fun w h => List.mem_cons_of_mem _ (List.mem_append_left _ (List.mem_append_right _ h))
  have hw0 := hts (.fieldLink RX11 31 "SkyClocks" "text" "LSkyClocks$Text;") (List.mem_of_getElem? (i := 1) rfl)
  have hl := lv_entry ([.ref (z + this), .int a1, .long a2]) (n := 4) (Nat.le_of_ble_eq_true rfl)
  rw [lg_entry_eq]
  generalize (lg_sl ([.ref (z + this), .int a1, .long a2]) ++ List.replicate (4 - (lg_sl ([.ref (z + this), .int a1, .long a2])).length) Slot.unset).toArray = ls at hl ⊢
  have hl : lv_has ls 4 [(0, .ref (z + this)), (1, .int a1), (2, .long a2)] := hl
  refine lv_iload_n hx hb dX11_write_0 rfl (lv_at hl 1 rfl) ?_
  refine lv_iconst (v := 1) hx hb dX11_write_1 (by decide) ?_
  refine lv_bipush (v := 8) hx hb dX11_write_2 (by decide) ?_
  obtain ⟨r_3, σ_2, hc_1, hf⟩ := g_bnd hf
  refine q_calli (va_runS (As := [.int a1, .int 1, .int 8]) (rest := []) ⟨hx, hb, hml, hown, hts⟩ (k_X11_within l z n D cy Y hc_1) (va_cwS 3 hts gX11_write_X11_within rfl rfl rfl (by decide +kernel) ⟨Nat.le_of_ble_eq_true rfl, Nat.le_of_ble_eq_true rfl⟩) (q_PS hK hN hW) rfl rfl hl.1 rfl (lv_room (Nat.le_of_ble_eq_true rfl)) dX11_write_4 ⟨Nat.le_refl _, Nat.le_refl _⟩) hS (fun H locs hW hS => ?_)
  refine lv_if_ne (tgt := 12) hx hb dX11_write_7 (by decide) (fun c => ?_) (fun c => ?_)
  · have hf := g_neg c hf
    refine lv_aload_n hx hb dX11_write_12 rfl (lv_at hl 0 rfl) ?_
    refine q_getp (own := RX11) (ref := RX11) (C := RX11) (T := TX11) (N := 10) (kc := 8) (ci := 0) hx hb hts hin11 hown hK hW h_this (by decide) rfl 3 (by decide) hw0 rfl rfl rfl (v := 9) rfl dX11_write_13 (fun hk_4 hq_5 => ?_)
    refine lv_iload_n hx hb dX11_write_16 rfl (lv_at hl 1 rfl) ?_
    obtain ⟨r_8, σ_7, hc_6, hf⟩ := g_bnd hf
    refine q_calli (va_runV (As := [.int a1]) (rest := []) ⟨hx, hb, hml, hown, hts⟩ (k_X9_hasRoom l z n D cy Y hk_4 hc_6) (cwV 1 hts gX11_write_X9_hasRoom rfl rfl rfl (by decide +kernel) ⟨Nat.le_of_ble_eq_true rfl, Nat.le_of_ble_eq_true rfl⟩) (q_PV (T := TX9) (N := 4) hK hN hW hk_4 (by decide) rfl) rfl rfl hl.1 rfl (lv_room (Nat.le_of_ble_eq_true rfl)) dX11_write_17 ⟨Nat.le_refl _, Nat.le_refl _⟩) hS (fun H locs hW hS => ?_)
    refine lv_if_eq (tgt := 35) hx hb dX11_write_20 (by decide) (fun c => ?_) (fun c => ?_)
    · have hf := g_pos c hf
      refine lv_bipush (v := (-3)) hx hb dX11_write_35 (by decide) ?_
      exact q_iret hx hb hr hlocks hW hS hf dX11_write_37
    · have hf := g_neg c hf
      refine lv_aload_n hx hb dX11_write_23 rfl (lv_at hl 0 rfl) ?_
      refine q_getp (own := RX11) (ref := RX11) (C := RX11) (T := TX11) (N := 10) (kc := 8) (ci := 0) hx hb hts hin11 hown hK hW h_this (by decide) rfl 3 (by decide) hw0 rfl rfl rfl (v := 9) rfl dX11_write_24 (fun hk_9 hq_10 => ?_)
      refine lv_iload_n hx hb dX11_write_27 rfl (lv_at hl 1 rfl) ?_
      refine lv_lload_n hx hb dX11_write_28 rfl (lv_at hl 2 rfl) ?_
      obtain ⟨r_13, σ_12, hc_11, hf⟩ := g_bnd hf
      refine q_calli (va_runV (As := [.int a1, .long a2]) (rest := []) ⟨hx, hb, hml, hown, hts⟩ (k_X9_append l z n D cy Y hk_9 hc_11) (cwV 2 hts gX11_write_X9_append rfl rfl rfl (by decide +kernel) ⟨Nat.le_of_ble_eq_true rfl, Nat.le_of_ble_eq_true rfl⟩) (q_PV (T := TX9) (N := 4) hK hN hW hk_9 (by decide) rfl) rfl rfl hl.1 rfl (lv_room (Nat.le_of_ble_eq_true rfl)) dX11_write_29 ⟨Nat.le_refl _, Nat.le_refl _⟩) hS (fun H locs hW hS => ?_)
      refine lv_goto (tgt := 37) hx hb dX11_write_32 (by decide) ?_
      exact q_iret hx hb hr hlocks hW hS hf dX11_write_37
  · have hf := g_pos c hf
    refine lv_iconst (v := (-1)) hx hb dX11_write_10 (by decide) ?_
    exact q_iret hx hb hr hlocks hW hS hf dX11_write_11
set_option maxRecDepth 100000 in
set_option maxHeartbeats 40000000 in
theorem k_X12_in (l : Launch) (z n : Nat) (D : va_G) (cy : Nat → ClassId) (Y : Yt) {a0 : Int64} {a2 : Int64} {a4 : Int64} {σ : Mm} {r : Int32} {σ1 : Mm} (hf : f_X12_in Y a0 a2 a4 σ = some (r, σ1)) : Ki l yX12_in wsX12_in ({ frames := 0, cells := 0, slots := 0, locals := 0 } : Room) z n D cy Y [.long a0, .long a2, .long a4] σ r σ1 := by
  refine Met.ofW (cc := cX12_in) (maxL := 6) (ret := (some .boolean)) (by decide +kernel) rfl ?_
  intro p e s m args below meth c s₁ B hml hv
  obtain ⟨rfl, hW, hK, hN⟩ := hv
  have hx := B.exec
  have hb := B.bytes
  have hr := B.returns
  have hts := atoms_spec (ws := wsX12_in) B.pre
  have hown : s.vm.findClass RX12 = some m.cls := findClass_of_methodNamed B.named
  have hlocks := B.notSynchronized
  have hS : va_S (Az z) s.heap s.heap [] := va_S.rf
  have hl := lv_entry ([.long a0, .long a2, .long a4]) (n := 6) (Nat.le_of_ble_eq_true rfl)
  rw [lg_entry_eq]
  generalize (lg_sl ([.long a0, .long a2, .long a4]) ++ List.replicate (6 - (lg_sl ([.long a0, .long a2, .long a4])).length) Slot.unset).toArray = ls at hl ⊢
  have hl : lv_has ls 6 [(0, .long a0), (2, .long a2), (4, .long a4)] := hl
  refine lv_lload_n hx hb dX12_in_0 rfl (lv_at hl 0 rfl) ?_
  refine lv_lload_n hx hb dX12_in_1 rfl (lv_at hl 1 rfl) ?_
  refine W.lcmp hx hb dX12_in_2 ?_
  refine lv_if_lt (tgt := 17) hx hb dX12_in_3 (by decide) (fun c => ?_) (fun c => ?_)
  · have hf := g_pos ((lg_cmp_lt _ _).mp c) hf
    refine lv_iconst (v := 0) hx hb dX12_in_17 (by decide) ?_
    exact q_zret hx hb hr hlocks hW hS hf dX12_in_18
  · have hf := g_neg (fun h => c ((lg_cmp_lt _ _).mpr h)) hf
    refine lv_lload_n hx hb dX12_in_6 rfl (lv_at hl 0 rfl) ?_
    refine lv_lload hx hb dX12_in_7 (lv_at hl 2 rfl) ?_
    refine W.lcmp hx hb dX12_in_9 ?_
    refine lv_if_gt (tgt := 17) hx hb dX12_in_10 (by decide) (fun c => ?_) (fun c => ?_)
    · have hf := g_pos ((lg_cmp_gt _ _).mp c) hf
      refine lv_iconst (v := 0) hx hb dX12_in_17 (by decide) ?_
      exact q_zret hx hb hr hlocks hW hS hf dX12_in_18
    · have hf := g_neg (fun h => c ((lg_cmp_gt _ _).mpr h)) hf
      refine lv_iconst (v := 1) hx hb dX12_in_13 (by decide) ?_
      refine lv_goto (tgt := 18) hx hb dX12_in_14 (by decide) ?_
      exact q_zret hx hb hr hlocks hW hS hf dX12_in_18
set_option maxRecDepth 100000 in
set_option maxHeartbeats 40000000 in
theorem k_X12_isStar (l : Launch) (z n : Nat) (D : va_G) (cy : Nat → ClassId) (Y : Yt) {a0 : Int32} {σ : Mm} {r : Int32} {σ1 : Mm} (hf : f_X12_isStar Y a0 σ = some (r, σ1)) : Ki l yX12_isStar wsX12_isStar ({ frames := 1, cells := 0, slots := 0, locals := 25 } : Room) z n D cy Y [.int a0] σ r σ1 := by
  refine Met.ofW (cc := cX12_isStar) (maxL := 1) (ret := (some .boolean)) (by decide +kernel) rfl ?_
  intro p e s m args below meth c s₁ B hml hv
  obtain ⟨rfl, hW, hK, hN⟩ := hv
  have hx := B.exec
  have hb := B.bytes
  have hr := B.returns
  have hts := atoms_spec (ws := wsX12_isStar) B.pre
  have hown : s.vm.findClass RX12 = some m.cls := findClass_of_methodNamed B.named
  have hlocks := B.notSynchronized
  have hS : va_S (Az z) s.heap s.heap [] := va_S.rf
  have hw0 := hts (.constantLong RX12 134 (3)) (List.mem_of_getElem? (i := 1) rfl)
  have hl := lv_entry ([.int a0]) (n := 1) (Nat.le_of_ble_eq_true rfl)
  rw [lg_entry_eq]
  generalize (lg_sl ([.int a0]) ++ List.replicate (1 - (lg_sl ([.int a0])).length) Slot.unset).toArray = ls at hl ⊢
  have hl : lv_has ls 1 [(0, .int a0)] := hl
  refine lv_iload_n hx hb dX12_isStar_0 rfl (lv_at hl 0 rfl) ?_
  refine lv_i2l hx hb dX12_isStar_1 rfl ?_
  refine lv_lconst (v := 0) hx hb dX12_isStar_2 (by decide) ?_
  refine lv_ldc2 hx hb hown hw0 dX12_isStar_3 ?_
  obtain ⟨r_3, σ_2, hc_1, hf⟩ := g_bnd hf
  refine q_calli (va_runS (As := [.long (Int32.toInt64 a0), .long 0, .long 3]) (rest := []) ⟨hx, hb, hml, hown, hts⟩ (k_X12_in l z n D cy Y hc_1) (va_cwS 3 hts gX12_isStar_X12_in rfl rfl rfl (by decide +kernel) ⟨Nat.le_of_ble_eq_true rfl, Nat.le_of_ble_eq_true rfl⟩) (q_PS hK hN hW) rfl rfl hl.1 rfl (lv_room (Nat.le_of_ble_eq_true rfl)) dX12_isStar_6 ⟨Nat.le_refl _, Nat.le_refl _⟩) hS (fun H locs hW hS => ?_)
  exact q_zret hx hb hr hlocks hW hS hf dX12_isStar_9
set_option maxRecDepth 100000 in
set_option maxHeartbeats 40000000 in
theorem k_X12_corrected (l : Launch) (z n : Nat) (D : va_G) (cy : Nat → ClassId) (Y : Yt) {this : Nat} {a1 : Int32} {a2 : Int32} {σ : Mm} {r : Int32} {σ1 : Mm} (h_this : okk Y n 9 this) (hf : f_X12_corrected Y this a1 a2 σ = some (r, σ1)) : Ki l yX12_corrected wsX12_corrected ({ frames := 0, cells := 0, slots := 0, locals := 0 } : Room) z n D cy Y [.ref (z + this), .int a1, .int a2] σ r σ1 := by
  refine Met.ofW (cc := cX12_corrected) (maxL := 3) (ret := (some .int)) (by decide +kernel) rfl ?_
  intro p e s m args below meth c s₁ B hml hv
  obtain ⟨rfl, hW, hK, hN⟩ := hv
  have hx := B.exec
  have hb := B.bytes
  have hr := B.returns
  have hts := atoms_spec (ws := wsX12_corrected) B.pre
  have hown : s.vm.findClass RX12 = some m.cls := findClass_of_methodNamed B.named
  have hlocks := B.notSynchronized
  have hS : va_S (Az z) s.heap s.heap [] := va_S.rf
  have hin12 : ∀ w ∈ wsX120, w ∈ wsX12_corrected := fun w h => List.mem_cons_of_mem _ (List.mem_append_right _ h)
  have hw0 := hts (.fieldLink RX12 13 "SkyClocksModel" "ats" "[I") (List.mem_of_getElem? (i := 1) rfl)
  have hw1 := hts (.fieldLink RX12 25 "SkyClocksModel" "offsets" "[I") (List.mem_of_getElem? (i := 2) rfl)
  have hw2 := hts (.fieldLink RX12 19 "SkyClocksModel" "tools" "[I") (List.mem_of_getElem? (i := 3) rfl)
  have hw3 := hts (.fieldLink RX12 28 "SkyClocksModel" "shifts" "[I") (List.mem_of_getElem? (i := 4) rfl)
  have hw4 := hts (.constant RX12 170 (100000)) (List.mem_of_getElem? (i := 5) rfl)
  have hl := lv_entry ([.ref (z + this), .int a1, .int a2]) (n := 3) (Nat.le_of_ble_eq_true rfl)
  rw [lg_entry_eq]
  generalize (lg_sl ([.ref (z + this), .int a1, .int a2]) ++ List.replicate (3 - (lg_sl ([.ref (z + this), .int a1, .int a2])).length) Slot.unset).toArray = ls at hl ⊢
  have hl : lv_has ls 3 [(0, .ref (z + this)), (1, .int a1), (2, .int a2)] := hl
  refine lv_aload_n hx hb dX12_corrected_0 rfl (lv_at hl 0 rfl) ?_
  refine q_getp (own := RX12) (ref := RX12) (C := RX12) (T := TX12) (N := 57) (kc := 9) (ci := 0) hx hb hts hin12 hown hK hW h_this (by decide) rfl 1 (by decide) hw0 rfl rfl rfl (v := 597) rfl dX12_corrected_1 (fun hk_1 hq_2 => ?_)
  refine lv_iload_n hx hb dX12_corrected_4 rfl (lv_at hl 1 rfl) ?_
  obtain ⟨hi_3, hf⟩ := g_in hf
  refine q_iald hx hb hK hW hk_1 (inb_of hq_2 hi_3) dX12_corrected_5 ?_
  refine lv_aload_n hx hb dX12_corrected_6 rfl (lv_at hl 0 rfl) ?_
  refine q_getp (own := RX12) (ref := RX12) (C := RX12) (T := TX12) (N := 57) (kc := 9) (ci := 0) hx hb hts hin12 hown hK hW h_this (by decide) rfl 5 (by decide) hw1 rfl rfl rfl (v := 601) rfl dX12_corrected_7 (fun hk_4 hq_5 => ?_)
  refine lv_aload_n hx hb dX12_corrected_10 rfl (lv_at hl 0 rfl) ?_
  refine q_getp (own := RX12) (ref := RX12) (C := RX12) (T := TX12) (N := 57) (kc := 9) (ci := 0) hx hb hts hin12 hown hK hW h_this (by decide) rfl 3 (by decide) hw2 rfl rfl rfl (v := 599) rfl dX12_corrected_11 (fun hk_6 hq_7 => ?_)
  refine lv_iload_n hx hb dX12_corrected_14 rfl (lv_at hl 1 rfl) ?_
  obtain ⟨hi_8, hf⟩ := g_in hf
  refine q_iald hx hb hK hW hk_6 (inb_of hq_7 hi_8) dX12_corrected_15 ?_
  obtain ⟨hi_9, hf⟩ := g_in hf
  refine q_iald hx hb hK hW hk_4 (inb_of hq_5 hi_9) dX12_corrected_16 ?_
  refine lv_isub hx hb dX12_corrected_17 ?_
  refine lv_aload_n hx hb dX12_corrected_18 rfl (lv_at hl 0 rfl) ?_
  refine q_getp (own := RX12) (ref := RX12) (C := RX12) (T := TX12) (N := 57) (kc := 9) (ci := 0) hx hb hts hin12 hown hK hW h_this (by decide) rfl 6 (by decide) hw3 rfl rfl rfl (v := 602) rfl dX12_corrected_19 (fun hk_10 hq_11 => ?_)
  refine lv_bipush (v := 11) hx hb dX12_corrected_22 (by decide) ?_
  refine lv_iload_n hx hb dX12_corrected_24 rfl (lv_at hl 2 rfl) ?_
  refine lv_imul hx hb dX12_corrected_25 ?_
  refine lv_aload_n hx hb dX12_corrected_26 rfl (lv_at hl 0 rfl) ?_
  refine q_getp (own := RX12) (ref := RX12) (C := RX12) (T := TX12) (N := 57) (kc := 9) (ci := 0) hx hb hts hin12 hown hK hW h_this (by decide) rfl 1 (by decide) hw0 rfl rfl rfl (v := 597) rfl dX12_corrected_27 (fun hk_12 hq_13 => ?_)
  refine lv_iload_n hx hb dX12_corrected_30 rfl (lv_at hl 1 rfl) ?_
  obtain ⟨hi_14, hf⟩ := g_in hf
  refine q_iald hx hb hK hW hk_12 (inb_of hq_13 hi_14) dX12_corrected_31 ?_
  refine lv_ldc hx hb hown hw4 dX12_corrected_32 ?_
  refine lv_idiv hx hb dX12_corrected_34 (by decide) ?_
  refine lv_iadd hx hb dX12_corrected_35 ?_
  obtain ⟨hi_15, hf⟩ := g_in hf
  refine q_iald hx hb hK hW hk_10 (inb_of hq_11 hi_15) dX12_corrected_36 ?_
  refine lv_iadd hx hb dX12_corrected_37 ?_
  exact q_iret hx hb hr hlocks hW hS hf dX12_corrected_38
set_option maxRecDepth 100000 in
set_option maxHeartbeats 40000000 in
theorem k_X12_layCounts (l : Launch) (z n : Nat) (D : va_G) (cy : Nat → ClassId) (Y : Yt) {fu : Nat} {this : Nat} {a1 : Int32} {σ : Mm} {σ1 : Mm} (h_this : okk Y n 9 this) (hf : f_X12_layCounts Y fu this a1 σ = some σ1) : Kv l yX12_layCounts wsX12_layCounts ({ frames := 0, cells := 0, slots := 0, locals := 0 } : Room) z n D cy Y [.ref (z + this), .int a1] σ σ1 := by
  refine Met.ofW (cc := cX12_layCounts) (maxL := 3) (ret := none) (by decide +kernel) rfl ?_
  intro p e s m args below meth c s₁ B hml hv
  obtain ⟨rfl, hW, hK, hN⟩ := hv
  have hx := B.exec
  have hb := B.bytes
  have hr := B.returns
  have hts := atoms_spec (ws := wsX12_layCounts) B.pre
  have hown : s.vm.findClass RX12 = some m.cls := findClass_of_methodNamed B.named
  have hlocks := B.notSynchronized
  have hS : va_S (Az z) s.heap s.heap [] := va_S.rf
  have hin12 : ∀ w ∈ wsX120, w ∈ wsX12_layCounts := fun w h => List.mem_cons_of_mem _ (List.mem_append_right _ h)
  have hw0 := hts (.fieldLink RX12 167 "SkyClocksModel" "counts" "I") (List.mem_of_getElem? (i := 1) rfl)
  have hw1 := hts (.fieldLink RX12 7 "SkyClocksModel" "manyOf" "[I") (List.mem_of_getElem? (i := 2) rfl)
  have hw2 := hts (.fieldLink RX12 22 "SkyClocksModel" "knowns" "[I") (List.mem_of_getElem? (i := 3) rfl)
  have hw3 := hts (.fieldLink RX12 32 "SkyClocksModel" "asOf" "I") (List.mem_of_getElem? (i := 4) rfl)
  have hw4 := hts (.fieldLink RX12 70 "SkyClocksModel" "place" "[I") (List.mem_of_getElem? (i := 5) rfl)
  have hl := lv_entry ([.ref (z + this), .int a1]) (n := 3) (Nat.le_of_ble_eq_true rfl)
  rw [lg_entry_eq]
  generalize (lg_sl ([.ref (z + this), .int a1]) ++ List.replicate (3 - (lg_sl ([.ref (z + this), .int a1])).length) Slot.unset).toArray = ls at hl ⊢
  have hl : lv_has ls 3 [(0, .ref (z + this)), (1, .int a1)] := hl
  have B58 : ∀ (k10 : Int32 → Mm → Option (Mm)) (H10 : ∀ (x2 : Int32) (σ : Mm), k10 x2 σ = some σ1 → ∀ (H : Heap) (locs : List Loc) (ls : Array Slot), WH z n D cy Y σ H → va_S (Az z) s.heap H locs → lv_has ls 3 [(0, .ref (z + this)), (1, .int a1), (2, .int x2)] → W p l e ({ frames := 0, cells := 0, slots := 0, locals := 0 } : Room) s m ([.ref (z + this), .int a1] : List Value).toArray below meth c H locs 0 0 (MQ below (va_Qv (fun (_ : Unit) => True) (fun _ t => WH z n D cy Y σ1 t.heap) (Az z)) ([.ref (z + this), .int a1] : List Value).toArray s 0 0 (Az z)) (F0 m 10 ls [])) (x2 : Int32) (σ : Mm), b_X12_layCounts_58 Y fu this a1 k10 x2 σ = some σ1 → ∀ (H : Heap) (locs : List Loc) (ls : Array Slot), WH z n D cy Y σ H → va_S (Az z) s.heap H locs → lv_has ls 3 [(0, .ref (z + this)), (1, .int a1), (2, .int x2)] → W p l e ({ frames := 0, cells := 0, slots := 0, locals := 0 } : Room) s m ([.ref (z + this), .int a1] : List Value).toArray below meth c H locs 0 0 (MQ below (va_Qv (fun (_ : Unit) => True) (fun _ t => WH z n D cy Y σ1 t.heap) (Az z)) ([.ref (z + this), .int a1] : List Value).toArray s 0 0 (Az z)) (F0 m 58 ls []) := by
    intro k10 H10 x2 σ  hf H locs ls hW hS hl
    obtain ⟨x2_9, ex2_9⟩ : ∃ y : Int32, y = x2 + 1 := ⟨_, rfl⟩
    have hf := g_lt ex2_9 hf
    refine lv_iinc (v := x2_9) (lv' := [(2, .int x2_9), (0, .ref (z + this)), (1, .int a1)]) hx hb dX12_layCounts_58 hl (k := 2) rfl (by rw [ex2_9]; rfl) (by decide) rfl (fun ls hl => ?_)
    refine lv_goto (tgt := 10) hx hb dX12_layCounts_61 (by decide) ?_
    exact H10 x2_9 σ hf _ _ _ hW hS (lv_sub hl [1, 2, 0] rfl)
  have B10 : ∀ (nn : Nat) (x2 : Int32) (σ : Mm), b_X12_layCounts_10 Y fu this a1 nn x2 σ = some σ1 → ∀ (H : Heap) (locs : List Loc) (ls : Array Slot), WH z n D cy Y σ H → va_S (Az z) s.heap H locs → lv_has ls 3 [(0, .ref (z + this)), (1, .int a1), (2, .int x2)] → W p l e ({ frames := 0, cells := 0, slots := 0, locals := 0 } : Room) s m ([.ref (z + this), .int a1] : List Value).toArray below meth c H locs 0 0 (MQ below (va_Qv (fun (_ : Unit) => True) (fun _ t => WH z n D cy Y σ1 t.heap) (Az z)) ([.ref (z + this), .int a1] : List Value).toArray s 0 0 (Az z)) (F0 m 10 ls []) := by
    intro nn
    induction nn with
    | zero =>
      intro x2 σ  hf
      have h9 : (none : Option (Mm)) = some σ1 := hf
      cases h9
    | succ nn H10 =>
      intro x2 σ  hf H locs ls hW hS hl
      have hf : s_X12_layCounts_10 Y fu this a1 (b_X12_layCounts_10 Y fu this a1 nn) x2 σ = some σ1 := hf
      generalize hkk : b_X12_layCounts_10 Y fu this a1 nn = k10 at hf H10
      refine lv_iload_n hx hb dX12_layCounts_10 rfl (lv_at hl 2 rfl) ?_
      refine lv_bipush (v := 24) hx hb dX12_layCounts_11 (by decide) ?_
      refine lv_iload_n hx hb dX12_layCounts_13 rfl (lv_at hl 1 rfl) ?_
      refine lv_imul hx hb dX12_layCounts_14 ?_
      refine lv_aload_n hx hb dX12_layCounts_15 rfl (lv_at hl 0 rfl) ?_
      refine q_getp (own := RX12) (ref := RX12) (C := RX12) (T := TX12) (N := 57) (kc := 9) (ci := 0) hx hb hts hin12 hown hK hW h_this (by decide) rfl 0 (by decide) hw1 rfl rfl rfl (v := 596) rfl dX12_layCounts_16 (fun hk_3 hq_4 => ?_)
      refine lv_iload_n hx hb dX12_layCounts_19 rfl (lv_at hl 1 rfl) ?_
      obtain ⟨hi_5, hf⟩ := g_in hf
      refine q_iald hx hb hK hW hk_3 (inb_of hq_4 hi_5) dX12_layCounts_20 ?_
      refine lv_iadd hx hb dX12_layCounts_21 ?_
      refine lv_icmp_ge (tgt := 64) hx hb dX12_layCounts_22 (by decide) (fun c => ?_) (fun c => ?_)
      · have hf := g_pos c hf
        exact q_vret hx hb hr hlocks hW hS hf dX12_layCounts_64
      · have hf := g_neg c hf
        refine lv_aload_n hx hb dX12_layCounts_25 rfl (lv_at hl 0 rfl) ?_
        refine q_getp (own := RX12) (ref := RX12) (C := RX12) (T := TX12) (N := 57) (kc := 9) (ci := 0) hx hb hts hin12 hown hK hW h_this (by decide) rfl 4 (by decide) hw2 rfl rfl rfl (v := 600) rfl dX12_layCounts_26 (fun hk_6 hq_7 => ?_)
        refine lv_iload_n hx hb dX12_layCounts_29 rfl (lv_at hl 2 rfl) ?_
        obtain ⟨hi_8, hf⟩ := g_in hf
        refine q_iald hx hb hK hW hk_6 (inb_of hq_7 hi_8) dX12_layCounts_30 ?_
        refine lv_aload_n hx hb dX12_layCounts_31 rfl (lv_at hl 0 rfl) ?_
        refine q_geti (own := RX12) (ref := RX12) (C := RX12) (T := TX12) (N := 57) (kc := 9) (ci := 0) hx hb hts hin12 hown hK hW h_this (by decide) rfl 8 (by decide) hw3 rfl rfl dX12_layCounts_32 ?_
        refine lv_icmp_gt (tgt := 58) hx hb dX12_layCounts_35 (by decide) (fun c => ?_) (fun c => ?_)
        · have hf := g_pos c hf
          exact B58 k10 H10 x2 σ hf _ _ _ hW hS (lv_sub hl [0, 1, 2] rfl)
        · have hf := g_neg c hf
          refine lv_aload_n hx hb dX12_layCounts_38 rfl (lv_at hl 0 rfl) ?_
          refine q_getp (own := RX12) (ref := RX12) (C := RX12) (T := TX12) (N := 57) (kc := 9) (ci := 0) hx hb hts hin12 hown hK hW h_this (by decide) rfl 21 (by decide) hw4 rfl rfl rfl (v := 614) rfl dX12_layCounts_39 (fun hk_10 hq_11 => ?_)
          refine lv_aload_n hx hb dX12_layCounts_42 rfl (lv_at hl 0 rfl) ?_
          refine q_geti (own := RX12) (ref := RX12) (C := RX12) (T := TX12) (N := 57) (kc := 9) (ci := 0) hx hb hts hin12 hown hK hW h_this (by decide) rfl 22 (by decide) hw0 rfl rfl dX12_layCounts_43 ?_
          refine lv_iload_n hx hb dX12_layCounts_46 rfl (lv_at hl 2 rfl) ?_
          obtain ⟨hi_12, hf⟩ := g_in hf
          refine q_iast hx hb hK hW hS hk_10 (inb_of hq_11 hi_12) dX12_layCounts_47 (fun H locs hW hS => ?_)
          obtain ⟨σ_13, eσ_13⟩ : ∃ y : Mm, y = (Mm.si σ 614 (ix (Mm.gi σ this 22)) x2) := ⟨_, rfl⟩
          rw [← eσ_13] at hW
          have hf := g_lt eσ_13 hf
          refine lv_aload_n hx hb dX12_layCounts_48 rfl (lv_at hl 0 rfl) ?_
          refine lv_dup hx hb dX12_layCounts_49 rfl ?_
          refine q_geti (own := RX12) (ref := RX12) (C := RX12) (T := TX12) (N := 57) (kc := 9) (ci := 0) hx hb hts hin12 hown hK hW h_this (by decide) rfl 22 (by decide) hw0 rfl rfl dX12_layCounts_50 ?_
          refine lv_iconst (v := 1) hx hb dX12_layCounts_53 (by decide) ?_
          refine lv_iadd hx hb dX12_layCounts_54 ?_
          refine q_puti (own := RX12) (ref := RX12) (C := RX12) (T := TX12) (N := 57) (kc := 9) (ci := 0) hx hb hts hin12 tyX12_ok nmX12 hown hK hW hS h_this (by decide) rfl 22 (by decide) hw0 rfl rfl (ty := .int) (tyX12_ok 22 (by decide)) rfl rfl rfl dX12_layCounts_55 (fun H locs hW hS => ?_)
          obtain ⟨σ_14, eσ_14⟩ : ∃ y : Mm, y = (Mm.si σ_13 this 22 ((Mm.gi σ_13 this 22) + 1)) := ⟨_, rfl⟩
          rw [← eσ_14] at hW
          have hf := g_lt eσ_14 hf
          exact B58 k10 H10 x2 σ_14 hf _ _ _ hW hS (lv_sub hl [0, 1, 2] rfl)
  refine lv_aload_n hx hb dX12_layCounts_0 rfl (lv_at hl 0 rfl) ?_
  refine lv_iconst (v := 0) hx hb dX12_layCounts_1 (by decide) ?_
  refine q_puti (own := RX12) (ref := RX12) (C := RX12) (T := TX12) (N := 57) (kc := 9) (ci := 0) hx hb hts hin12 tyX12_ok nmX12 hown hK hW hS h_this (by decide) rfl 22 (by decide) hw0 rfl rfl (ty := .int) (tyX12_ok 22 (by decide)) rfl rfl rfl dX12_layCounts_2 (fun H locs hW hS => ?_)
  obtain ⟨σ_1, eσ_1⟩ : ∃ y : Mm, y = (Mm.si σ this 22 0) := ⟨_, rfl⟩
  rw [← eσ_1] at hW
  have hf := g_lt eσ_1 hf
  refine lv_bipush (v := 24) hx hb dX12_layCounts_5 (by decide) ?_
  refine lv_iload_n hx hb dX12_layCounts_7 rfl (lv_at hl 1 rfl) ?_
  refine lv_imul hx hb dX12_layCounts_8 ?_
  refine lv_topi (fun x2_2 ex2_2 => ?_)
  have hf := g_lt ex2_2 hf
  refine lv_istore_n (lv' := [(2, .int x2_2), (0, .ref (z + this)), (1, .int a1)]) hx hb dX12_layCounts_9 rfl hl (by decide) rfl (fun ls hl => ?_)
  exact B10 fu x2_2 σ_1 hf _ _ _ hW hS (lv_sub hl [1, 2, 0] rfl)
set_option maxRecDepth 100000 in
set_option maxHeartbeats 40000000 in
theorem k_X12_later (l : Launch) (z n : Nat) (D : va_G) (cy : Nat → ClassId) (Y : Yt) {fu : Nat} {this : Nat} {a1 : Int32} {a2 : Int32} {σ : Mm} {r : Int64} {σ1 : Mm} (h_this : okk Y n 9 this) (hf : f_X12_later Y fu this a1 a2 σ = some (r, σ1)) : Kl l yX12_later wsX12_later ({ frames := 0, cells := 0, slots := 0, locals := 0 } : Room) z n D cy Y [.ref (z + this), .int a1, .int a2] σ r σ1 := by
  refine Met.ofW (cc := cX12_later) (maxL := 7) (ret := (some .long)) (by decide +kernel) rfl ?_
  intro p e s m args below meth c s₁ B hml hv
  obtain ⟨rfl, hW, hK, hN⟩ := hv
  have hx := B.exec
  have hb := B.bytes
  have hr := B.returns
  have hts := atoms_spec (ws := wsX12_later) B.pre
  have hown : s.vm.findClass RX12 = some m.cls := findClass_of_methodNamed B.named
  have hlocks := B.notSynchronized
  have hS : va_S (Az z) s.heap s.heap [] := va_S.rf
  have hin12 : ∀ w ∈ wsX120, w ∈ wsX12_later := fun w h => List.mem_cons_of_mem _ (List.mem_append_right _ h)
  have hw0 := hts (.fieldLink RX12 58 "SkyClocksModel" "friendMany" "[I") (List.mem_of_getElem? (i := 1) rfl)
  have hw1 := hts (.constantLong RX12 148 (1000)) (List.mem_of_getElem? (i := 4) rfl)
  have hw2 := hts (.fieldLink RX12 61 "SkyClocksModel" "friendTurns" "[I") (List.mem_of_getElem? (i := 2) rfl)
  have hw3 := hts (.fieldLink RX12 64 "SkyClocksModel" "friendBy" "[I") (List.mem_of_getElem? (i := 3) rfl)
  have hl := lv_entry ([.ref (z + this), .int a1, .int a2]) (n := 7) (Nat.le_of_ble_eq_true rfl)
  rw [lg_entry_eq]
  generalize (lg_sl ([.ref (z + this), .int a1, .int a2]) ++ List.replicate (7 - (lg_sl ([.ref (z + this), .int a1, .int a2])).length) Slot.unset).toArray = ls at hl ⊢
  have hl : lv_has ls 7 [(0, .ref (z + this)), (1, .int a1), (2, .int a2)] := hl
  have B5 : ∀ (nn : Nat) (x3 : Int64) (x5 : Int32) (σ : Mm), b_X12_later_5 Y fu this a1 a2 nn x3 x5 σ = some (r, σ1) → ∀ (H : Heap) (locs : List Loc) (ls : Array Slot), WH z n D cy Y σ H → va_S (Az z) s.heap H locs → lv_has ls 7 [(0, .ref (z + this)), (1, .int a1), (2, .int a2), (3, .long x3), (5, .int x5)] → W p l e ({ frames := 0, cells := 0, slots := 0, locals := 0 } : Room) s m ([.ref (z + this), .int a1, .int a2] : List Value).toArray below meth c H locs 0 0 (MQ below (va_Ql (fun (x : Int64) (_ : Unit) => x = r) (fun _ t => WH z n D cy Y σ1 t.heap) (Az z)) ([.ref (z + this), .int a1, .int a2] : List Value).toArray s 0 0 (Az z)) (F0 m 5 ls []) := by
    intro nn
    induction nn with
    | zero =>
      intro x3 x5 σ  hf
      have h9 : (none : Option (Int64 × Mm)) = some (r, σ1) := hf
      cases h9
    | succ nn H5 =>
      intro x3 x5 σ  hf H locs ls hW hS hl
      have hf : s_X12_later_5 Y fu this a1 a2 (b_X12_later_5 Y fu this a1 a2 nn) x3 x5 σ = some (r, σ1) := hf
      generalize hkk : b_X12_later_5 Y fu this a1 a2 nn = k5 at hf H5
      refine lv_iload hx hb dX12_later_5 (lv_at hl 4 rfl) ?_
      refine lv_aload_n hx hb dX12_later_7 rfl (lv_at hl 0 rfl) ?_
      refine q_getp (own := RX12) (ref := RX12) (C := RX12) (T := TX12) (N := 57) (kc := 9) (ci := 0) hx hb hts hin12 hown hK hW h_this (by decide) rfl 16 (by decide) hw0 rfl rfl rfl (v := 610) rfl dX12_later_8 (fun hk_1 hq_2 => ?_)
      refine lv_iload_n hx hb dX12_later_11 rfl (lv_at hl 1 rfl) ?_
      obtain ⟨hi_3, hf⟩ := g_in hf
      refine q_iald hx hb hK hW hk_1 (inb_of hq_2 hi_3) dX12_later_12 ?_
      refine lv_icmp_ge (tgt := 62) hx hb dX12_later_13 (by decide) (fun c => ?_) (fun c => ?_)
      · have hf := g_pos c hf
        refine lv_ldc2 hx hb hown hw1 dX12_later_62 ?_
        refine lv_lload_n hx hb dX12_later_65 rfl (lv_at hl 3 rfl) ?_
        refine lv_lmul hx hb dX12_later_66 ?_
        exact q_lret hx hb hr hlocks hW hS hf dX12_later_67
      · have hf := g_neg c hf
        refine lv_aload_n hx hb dX12_later_16 rfl (lv_at hl 0 rfl) ?_
        refine q_getp (own := RX12) (ref := RX12) (C := RX12) (T := TX12) (N := 57) (kc := 9) (ci := 0) hx hb hts hin12 hown hK hW h_this (by decide) rfl 17 (by decide) hw2 rfl rfl rfl (v := 611) rfl dX12_later_17 (fun hk_4 hq_5 => ?_)
        refine lv_iconst (v := 2) hx hb dX12_later_20 (by decide) ?_
        refine lv_iload_n hx hb dX12_later_21 rfl (lv_at hl 1 rfl) ?_
        refine lv_imul hx hb dX12_later_22 ?_
        refine lv_iload hx hb dX12_later_23 (lv_at hl 4 rfl) ?_
        refine lv_iadd hx hb dX12_later_25 ?_
        obtain ⟨hi_6, hf⟩ := g_in hf
        refine q_iald hx hb hK hW hk_4 (inb_of hq_5 hi_6) dX12_later_26 ?_
        refine lv_topi (fun x6_7 ex6_7 => ?_)
        have hf := g_lt ex6_7 hf
        refine lv_istore (lv' := [(6, .int x6_7), (0, .ref (z + this)), (1, .int a1), (2, .int a2), (3, .long x3), (5, .int x5)]) hx hb dX12_later_27 hl (by decide) rfl (fun ls hl => ?_)
        refine lv_lload_n hx hb dX12_later_29 rfl (lv_at hl 4 rfl) ?_
        refine lv_aload_n hx hb dX12_later_30 rfl (lv_at hl 1 rfl) ?_
        refine q_getp (own := RX12) (ref := RX12) (C := RX12) (T := TX12) (N := 57) (kc := 9) (ci := 0) hx hb hts hin12 hown hK hW h_this (by decide) rfl 18 (by decide) hw3 rfl rfl rfl (v := 612) rfl dX12_later_31 (fun hk_8 hq_9 => ?_)
        refine lv_iconst (v := 4) hx hb dX12_later_34 (by decide) ?_
        refine lv_iconst (v := 2) hx hb dX12_later_35 (by decide) ?_
        refine lv_iload_n hx hb dX12_later_36 rfl (lv_at hl 2 rfl) ?_
        refine lv_imul hx hb dX12_later_37 ?_
        refine lv_iload hx hb dX12_later_38 (lv_at hl 5 rfl) ?_
        refine lv_iadd hx hb dX12_later_40 ?_
        refine lv_imul hx hb dX12_later_41 ?_
        refine lv_iconst (v := 4) hx hb dX12_later_42 (by decide) ?_
        refine lv_iload_n hx hb dX12_later_43 rfl (lv_at hl 3 rfl) ?_
        refine lv_iload hx hb dX12_later_44 (lv_at hl 0 rfl) ?_
        obtain ⟨hz_10, hf⟩ := g_ne hf
        refine lv_irem hx hb dX12_later_46 hz_10 ?_
        refine lv_imul hx hb dX12_later_47 ?_
        refine lv_iload hx hb dX12_later_48 (lv_at hl 0 rfl) ?_
        obtain ⟨hz_11, hf⟩ := g_ne hf
        refine lv_idiv hx hb dX12_later_50 hz_11 ?_
        refine lv_iadd hx hb dX12_later_51 ?_
        obtain ⟨hi_12, hf⟩ := g_in hf
        refine q_iald hx hb hK hW hk_8 (inb_of hq_9 hi_12) dX12_later_52 ?_
        refine lv_i2l hx hb dX12_later_53 rfl ?_
        refine lv_ladd hx hb dX12_later_54 ?_
        refine lv_topl (fun x3_13 ex3_13 => ?_)
        have hf := g_lt ex3_13 hf
        refine lv_lstore_n (lv' := [(3, .long x3_13), (6, .int x6_7), (0, .ref (z + this)), (1, .int a1), (2, .int a2), (5, .int x5)]) hx hb dX12_later_55 rfl hl (by decide) rfl (fun ls hl => ?_)
        obtain ⟨x5_14, ex5_14⟩ : ∃ y : Int32, y = x5 + 1 := ⟨_, rfl⟩
        have hf := g_lt ex5_14 hf
        refine lv_iinc (v := x5_14) (lv' := [(5, .int x5_14), (3, .long x3_13), (6, .int x6_7), (0, .ref (z + this)), (1, .int a1), (2, .int a2)]) hx hb dX12_later_56 hl (k := 5) rfl (by rw [ex5_14]; rfl) (by decide) rfl (fun ls hl => ?_)
        refine lv_goto (tgt := 5) hx hb dX12_later_59 (by decide) ?_
        exact H5 x3_13 x5_14 σ hf _ _ _ hW hS (lv_sub hl [3, 4, 5, 1, 0] rfl)
  refine lv_lconst (v := 0) hx hb dX12_later_0 (by decide) ?_
  refine lv_lstore_n (lv' := [(3, .long 0), (0, .ref (z + this)), (1, .int a1), (2, .int a2)]) hx hb dX12_later_1 rfl hl (by decide) rfl (fun ls hl => ?_)
  refine lv_iconst (v := 0) hx hb dX12_later_2 (by decide) ?_
  refine lv_istore (lv' := [(5, .int 0), (3, .long 0), (0, .ref (z + this)), (1, .int a1), (2, .int a2)]) hx hb dX12_later_3 hl (by decide) rfl (fun ls hl => ?_)
  exact B5 fu 0 0 σ hf _ _ _ hW hS (lv_sub hl [2, 3, 4, 1, 0] rfl)
