set_option maxRecDepth 100000 in
set_option maxHeartbeats 40000000 in
theorem k_X4_putZero (l : Launch) (z n : Nat) (D : va_G) (cy : Nat → ClassId) (Y : Yt) {this : Nat} {a1 : Int32} {σ : Mm} {r : Int32} {σ1 : Mm} (h_this : okk Y n 2 this) (hf : f_X4_putZero Y this a1 σ = some (r, σ1)) : Ki l yX4_putZero wsX4_putZero ({ frames := 1, cells := 0, slots := 0, locals := 22 } : Room) z n D cy Y [.ref (z + this), .int a1] σ r σ1 := by
  refine Met.ofW (cc := cX4_putZero) (maxL := 2) (ret := (some .boolean)) (by decide +kernel) rfl ?_
  intro p e s m args below meth c s₁ B hml hv
  obtain ⟨rfl, hW, hK, hN⟩ := hv
  have hx := B.exec
  have hb := B.bytes
  have hr := B.returns
  have hts := atoms_spec (ws := wsX4_putZero) B.pre
  have hown : s.vm.findClass RX4 = some m.cls := findClass_of_methodNamed B.named
  have hlocks := B.notSynchronized
  have hS : va_S (Az z) s.heap s.heap [] := va_S.rf
  have hin4 : ∀ w ∈ wsX40, w ∈ wsX4_putZero := fun w h => List.mem_cons_of_mem _ (List.mem_append_right _ h)
  have hw0 := hts (.fieldLink RX4 34 "SkyClocks$Model" "hasZero" "Z") (List.mem_of_getElem? (i := 1) rfl)
  have hw1 := hts (.constant RX4 78 (1000000)) (List.mem_of_getElem? (i := 2) rfl)
  have hw2 : va_Nw (.methodLinkNest RX4 74 yX11_within "SkyClocks") s := hN _ (List.mem_of_getElem? (i := 21) rfl)
  have hw3 := hts (.initialized RX11) (List.mem_of_getElem? (i := 5) rfl)
  have hw4 := hts (.static yX11_within) (List.mem_of_getElem? (i := 4) rfl)
  have hw5 := hts (.fieldLink RX4 31 "SkyClocks$Model" "zero" "I") (List.mem_of_getElem? (i := 3) rfl)
  have hl := lv_entry ([.ref (z + this), .int a1]) (n := 2) (Nat.le_of_ble_eq_true rfl)
  rw [lg_entry_eq]
  generalize (lg_sl ([.ref (z + this), .int a1]) ++ List.replicate (2 - (lg_sl ([.ref (z + this), .int a1])).length) Slot.unset).toArray = ls at hl ⊢
  have hl : lv_has ls 2 [(0, .ref (z + this)), (1, .int a1)] := hl
  refine lv_aload_n hx hb dX4_putZero_0 rfl (lv_at hl 0 rfl) ?_
  refine q_geti (own := RX4) (ref := RX4) (C := RX4) (T := TX4) (N := 12) (kc := 2) (ci := 0) hx hb hts hin4 hown hK hW h_this (by decide) rfl 3 (by decide) hw0 rfl rfl dX4_putZero_1 ?_
  refine lv_if_ne (tgt := 17) hx hb dX4_putZero_4 (by decide) (fun c => ?_) (fun c => ?_)
  · have hf := g_neg c hf
    refine lv_iconst (v := 0) hx hb dX4_putZero_17 (by decide) ?_
    exact q_zret hx hb hr hlocks hW hS hf dX4_putZero_18
  · have hf := g_pos c hf
    refine lv_iload_n hx hb dX4_putZero_7 rfl (lv_at hl 1 rfl) ?_
    refine lv_iconst (v := 0) hx hb dX4_putZero_8 (by decide) ?_
    refine lv_ldc hx hb hown hw1 dX4_putZero_9 ?_
    obtain ⟨r_3, σ_2, hc_1, hf⟩ := g_bnd hf
    refine q_calli (va_runSN (As := [.int a1, .int 0, .int 1000000]) (rest := []) ⟨hx, hb, hml, hown, hts⟩ (k_X11_within l z n D cy Y hc_1) ⟨va_cnB (host := "SkyClocks") 3 hts gX4_putZero_X11_within_n74 rfl rfl rfl hw2 hw3 (by decide +kernel) ⟨Nat.le_of_ble_eq_true rfl, Nat.le_of_ble_eq_true rfl⟩, hw4, trivial⟩ (q_PS hK hN hW) rfl rfl hl.1 rfl (lv_room (Nat.le_of_ble_eq_true rfl)) dX4_putZero_11 ⟨Nat.le_refl _, Nat.le_refl _⟩) hS (fun H locs hW hS => ?_)
    refine lv_if_ne (tgt := 19) hx hb dX4_putZero_14 (by decide) (fun c => ?_) (fun c => ?_)
    · have hf := g_neg c hf
      refine lv_aload_n hx hb dX4_putZero_19 rfl (lv_at hl 0 rfl) ?_
      refine lv_iconst (v := 1) hx hb dX4_putZero_20 (by decide) ?_
      refine q_puti (own := RX4) (ref := RX4) (C := RX4) (T := TX4) (N := 12) (kc := 2) (ci := 0) hx hb hts hin4 tyX4_ok nmX4 hown hK hW hS h_this (by decide) rfl 3 (by decide) hw0 rfl rfl (ty := .boolean) (tyX4_ok 3 (by decide)) rfl rfl rfl dX4_putZero_21 (fun H locs hW hS => ?_)
      obtain ⟨σ_4, eσ_4⟩ : ∃ y : Mm, y = (Mm.si σ_2 this 3 1) := ⟨_, rfl⟩
      rw [← eσ_4] at hW
      have hf := g_lt eσ_4 hf
      refine lv_aload_n hx hb dX4_putZero_24 rfl (lv_at hl 0 rfl) ?_
      refine lv_iload_n hx hb dX4_putZero_25 rfl (lv_at hl 1 rfl) ?_
      refine q_puti (own := RX4) (ref := RX4) (C := RX4) (T := TX4) (N := 12) (kc := 2) (ci := 0) hx hb hts hin4 tyX4_ok nmX4 hown hK hW hS h_this (by decide) rfl 2 (by decide) hw5 rfl rfl (ty := .int) (tyX4_ok 2 (by decide)) rfl rfl rfl dX4_putZero_26 (fun H locs hW hS => ?_)
      obtain ⟨σ_5, eσ_5⟩ : ∃ y : Mm, y = (Mm.si σ_4 this 2 a1) := ⟨_, rfl⟩
      rw [← eσ_5] at hW
      have hf := g_lt eσ_5 hf
      refine lv_iconst (v := 1) hx hb dX4_putZero_29 (by decide) ?_
      exact q_zret hx hb hr hlocks hW hS hf dX4_putZero_30
    · have hf := g_pos c hf
      refine lv_iconst (v := 0) hx hb dX4_putZero_17 (by decide) ?_
      exact q_zret hx hb hr hlocks hW hS hf dX4_putZero_18
set_option maxRecDepth 100000 in
set_option maxHeartbeats 40000000 in
theorem k_X4_taken (l : Launch) (z n : Nat) (D : va_G) (cy : Nat → ClassId) (Y : Yt) {fu : Nat} {this : Nat} {a1 : Int32} {a2 : Nat} {σ : Mm} {r : Int32} {σ1 : Mm} (h_this : okk Y n 2 this) (h_a2 : okk Y n 10 a2) (hf : f_X4_taken Y fu this a1 a2 σ = some (r, σ1)) : Ki l yX4_taken wsX4_taken ({ frames := 3, cells := 0, slots := 0, locals := 64 } : Room) z n D cy Y [.ref (z + this), .int a1, .ref (z + a2)] σ r σ1 := by
  refine Met.ofW (cc := cX4_taken) (maxL := 3) (ret := (some .boolean)) (by decide +kernel) rfl ?_
  intro p e s m args below meth c s₁ B hml hv
  obtain ⟨rfl, hW, hK, hN⟩ := hv
  have hx := B.exec
  have hb := B.bytes
  have hr := B.returns
  have hts := atoms_spec (ws := wsX4_taken) B.pre
  have hown : s.vm.findClass RX4 = some m.cls := findClass_of_methodNamed B.named
  have hlocks := B.notSynchronized
  have hS : va_S (Az z) s.heap s.heap [] := va_S.rf
  have hl := lv_entry ([.ref (z + this), .int a1, .ref (z + a2)]) (n := 3) (Nat.le_of_ble_eq_true rfl)
  rw [lg_entry_eq]
  generalize (lg_sl ([.ref (z + this), .int a1, .ref (z + a2)]) ++ List.replicate (3 - (lg_sl ([.ref (z + this), .int a1, .ref (z + a2)])).length) Slot.unset).toArray = ls at hl ⊢
  have hl : lv_has ls 3 [(0, .ref (z + this)), (1, .int a1), (2, .ref (z + a2))] := hl
  refine lv_iload_n hx hb dX4_taken_0 rfl (lv_at hl 1 rfl) ?_
  by_cases c0 : a1 = 99
  · have hf := g_pos c0 hf
    refine q_lcase (k := 99) (off := 86) (tgt := 87) hx hb dX4_taken_1 rfl c0 rfl (by decide) ?_
    refine lv_aload_n hx hb dX4_taken_87 rfl (lv_at hl 0 rfl) ?_
    refine lv_aload_n hx hb dX4_taken_88 rfl (lv_at hl 2 rfl) ?_
    obtain ⟨r_3, σ_2, hc_1, hf⟩ := g_bnd hf
    refine q_calli (va_runV (As := [.ref (z + a2)]) (rest := []) ⟨hx, hb, hml, hown, hts⟩ (k_X4_putCompanion l z n D cy Y h_this h_a2 hc_1) (cwV 1 hts gX4_taken_X4_putCompanion rfl rfl rfl (by decide +kernel) ⟨Nat.le_of_ble_eq_true rfl, Nat.le_of_ble_eq_true rfl⟩) (q_PV (T := TX4) (N := 12) hK hN hW h_this (by decide) rfl) rfl rfl hl.1 rfl (lv_room (Nat.le_of_ble_eq_true rfl)) dX4_taken_89 ⟨Nat.le_refl _, Nat.le_refl _⟩) hS (fun H locs hW hS => ?_)
    exact q_zret hx hb hr hlocks hW hS hf dX4_taken_92
  · have hf := g_neg c0 hf
    by_cases c1 : a1 = 100
    · have hf := g_pos c1 hf
      refine q_lcase (k := 100) (off := 67) (tgt := 68) hx hb dX4_taken_1 rfl c1 rfl (by decide) ?_
      refine lv_aload_n hx hb dX4_taken_68 rfl (lv_at hl 0 rfl) ?_
      refine lv_aload_n hx hb dX4_taken_69 rfl (lv_at hl 2 rfl) ?_
      refine lv_iconst (v := 0) hx hb dX4_taken_70 (by decide) ?_
      obtain ⟨hi_4, hf⟩ := g_in hf
      refine q_iald hx hb hK hW h_a2 hi_4 dX4_taken_71 ?_
      obtain ⟨r_7, σ_6, hc_5, hf⟩ := g_bnd hf
      refine q_calli (va_runV (As := [.int (Mm.gi σ a2 (ix 0))]) (rest := []) ⟨hx, hb, hml, hown, hts⟩ (k_X4_putDrift l z n D cy Y h_this hc_5) (cwV 1 hts gX4_taken_X4_putDrift rfl rfl rfl (by decide +kernel) ⟨Nat.le_of_ble_eq_true rfl, Nat.le_of_ble_eq_true rfl⟩) (q_PV (T := TX4) (N := 12) hK hN hW h_this (by decide) rfl) rfl rfl hl.1 rfl (lv_room (Nat.le_of_ble_eq_true rfl)) dX4_taken_72 ⟨Nat.le_refl _, Nat.le_refl _⟩) hS (fun H locs hW hS => ?_)
      exact q_zret hx hb hr hlocks hW hS hf dX4_taken_75
    · have hf := g_neg c1 hf
      by_cases c2 : a1 = 112
      · have hf := g_pos c2 hf
        refine q_lcase (k := 112) (off := 51) (tgt := 52) hx hb dX4_taken_1 rfl c2 rfl (by decide) ?_
        refine lv_aload_n hx hb dX4_taken_52 rfl (lv_at hl 0 rfl) ?_
        refine lv_aload_n hx hb dX4_taken_53 rfl (lv_at hl 2 rfl) ?_
        refine lv_iconst (v := 0) hx hb dX4_taken_54 (by decide) ?_
        obtain ⟨hi_8, hf⟩ := g_in hf
        refine q_iald hx hb hK hW h_a2 hi_8 dX4_taken_55 ?_
        obtain ⟨r_11, σ_10, hc_9, hf⟩ := g_bnd hf
        refine q_calli (va_runV (As := [.int (Mm.gi σ a2 (ix 0))]) (rest := []) ⟨hx, hb, hml, hown, hts⟩ (k_X4_putPeriod l z n D cy Y h_this hc_9) (cwV 1 hts gX4_taken_X4_putPeriod rfl rfl rfl (by decide +kernel) ⟨Nat.le_of_ble_eq_true rfl, Nat.le_of_ble_eq_true rfl⟩) (q_PV (T := TX4) (N := 12) hK hN hW h_this (by decide) rfl) rfl rfl hl.1 rfl (lv_room (Nat.le_of_ble_eq_true rfl)) dX4_taken_56 ⟨Nat.le_refl _, Nat.le_refl _⟩) hS (fun H locs hW hS => ?_)
        exact q_zret hx hb hr hlocks hW hS hf dX4_taken_59
      · have hf := g_neg c2 hf
        by_cases c3 : a1 = 115
        · have hf := g_pos c3 hf
          refine q_lcase (k := 115) (off := 75) (tgt := 76) hx hb dX4_taken_1 rfl c3 rfl (by decide) ?_
          refine lv_aload_n hx hb dX4_taken_76 rfl (lv_at hl 0 rfl) ?_
          refine lv_aload_n hx hb dX4_taken_77 rfl (lv_at hl 2 rfl) ?_
          refine lv_iconst (v := 0) hx hb dX4_taken_78 (by decide) ?_
          obtain ⟨hi_12, hf⟩ := g_in hf
          refine q_iald hx hb hK hW h_a2 hi_12 dX4_taken_79 ?_
          refine lv_aload_n hx hb dX4_taken_80 rfl (lv_at hl 2 rfl) ?_
          refine lv_iconst (v := 1) hx hb dX4_taken_81 (by decide) ?_
          obtain ⟨hi_13, hf⟩ := g_in hf
          refine q_iald hx hb hK hW h_a2 hi_13 dX4_taken_82 ?_
          obtain ⟨r_16, σ_15, hc_14, hf⟩ := g_bnd hf
          refine q_calli (va_runV (As := [.int (Mm.gi σ a2 (ix 0)), .int (Mm.gi σ a2 (ix 1))]) (rest := []) ⟨hx, hb, hml, hown, hts⟩ (k_X4_putSlip l z n D cy Y h_this hc_14) (cwV 2 hts gX4_taken_X4_putSlip rfl rfl rfl (by decide +kernel) ⟨Nat.le_of_ble_eq_true rfl, Nat.le_of_ble_eq_true rfl⟩) (q_PV (T := TX4) (N := 12) hK hN hW h_this (by decide) rfl) rfl rfl hl.1 rfl (lv_room (Nat.le_of_ble_eq_true rfl)) dX4_taken_83 ⟨Nat.le_refl _, Nat.le_refl _⟩) hS (fun H locs hW hS => ?_)
          exact q_zret hx hb hr hlocks hW hS hf dX4_taken_86
        · have hf := g_neg c3 hf
          by_cases c4 : a1 = 122
          · have hf := g_pos c4 hf
            refine q_lcase (k := 122) (off := 59) (tgt := 60) hx hb dX4_taken_1 rfl c4 rfl (by decide) ?_
            refine lv_aload_n hx hb dX4_taken_60 rfl (lv_at hl 0 rfl) ?_
            refine lv_aload_n hx hb dX4_taken_61 rfl (lv_at hl 2 rfl) ?_
            refine lv_iconst (v := 0) hx hb dX4_taken_62 (by decide) ?_
            obtain ⟨hi_17, hf⟩ := g_in hf
            refine q_iald hx hb hK hW h_a2 hi_17 dX4_taken_63 ?_
            obtain ⟨r_20, σ_19, hc_18, hf⟩ := g_bnd hf
            refine q_calli (va_runV (As := [.int (Mm.gi σ a2 (ix 0))]) (rest := []) ⟨hx, hb, hml, hown, hts⟩ (k_X4_putZero l z n D cy Y h_this hc_18) (cwV 1 hts gX4_taken_X4_putZero rfl rfl rfl (by decide +kernel) ⟨Nat.le_of_ble_eq_true rfl, Nat.le_of_ble_eq_true rfl⟩) (q_PV (T := TX4) (N := 12) hK hN hW h_this (by decide) rfl) rfl rfl hl.1 rfl (lv_room (Nat.le_of_ble_eq_true rfl)) dX4_taken_64 ⟨Nat.le_refl _, Nat.le_refl _⟩) hS (fun H locs hW hS => ?_)
            exact q_zret hx hb hr hlocks hW hS hf dX4_taken_67
          · have hf := g_neg c4 hf
            refine lv_lookup (off := 92) (tgt := 93) hx hb dX4_taken_1 rfl ((lv_osw (k := 99) c0 rfl).trans ((lv_osw (k := 100) c1 rfl).trans ((lv_osw (k := 112) c2 rfl).trans ((lv_osw (k := 115) c3 rfl).trans ((lv_osw (k := 122) c4 rfl).trans rfl))))) (by decide) ?_
            refine lv_iconst (v := 0) hx hb dX4_taken_93 (by decide) ?_
            exact q_zret hx hb hr hlocks hW hS hf dX4_taken_94
set_option maxRecDepth 100000 in
set_option maxHeartbeats 40000000 in
theorem k_X4_put (l : Launch) (z n : Nat) (D : va_G) (cy : Nat → ClassId) (Y : Yt) {fu : Nat} {this : Nat} {a1 : Int32} {a2 : Nat} {σ : Mm} {r : Int32} {σ1 : Mm} (h_this : okk Y n 2 this) (h_a2 : okk Y n 10 a2) (hf : f_X4_put Y fu this a1 a2 σ = some (r, σ1)) : Ki l yX4_put wsX4_put ({ frames := 4, cells := 0, slots := 0, locals := 86 } : Room) z n D cy Y [.ref (z + this), .int a1, .ref (z + a2)] σ r σ1 := by
  refine Met.ofW (cc := cX4_put) (maxL := 4) (ret := (some .boolean)) (by decide +kernel) rfl ?_
  intro p e s m args below meth c s₁ B hml hv
  obtain ⟨rfl, hW, hK, hN⟩ := hv
  have hx := B.exec
  have hb := B.bytes
  have hr := B.returns
  have hts := atoms_spec (ws := wsX4_put) B.pre
  have hown : s.vm.findClass RX4 = some m.cls := findClass_of_methodNamed B.named
  have hlocks := B.notSynchronized
  have hS : va_S (Az z) s.heap s.heap [] := va_S.rf
  have hin4 : ∀ w ∈ wsX40, w ∈ wsX4_put := fun w h => List.mem_cons_of_mem _ (List.mem_append_right _ h)
  have hw0 := hts (.fieldLink RX4 24 "SkyClocks$Model" "items" "I") (List.mem_of_getElem? (i := 1) rfl)
  have hl := lv_entry ([.ref (z + this), .int a1, .ref (z + a2)]) (n := 4) (Nat.le_of_ble_eq_true rfl)
  rw [lg_entry_eq]
  generalize (lg_sl ([.ref (z + this), .int a1, .ref (z + a2)]) ++ List.replicate (4 - (lg_sl ([.ref (z + this), .int a1, .ref (z + a2)])).length) Slot.unset).toArray = ls at hl ⊢
  have hl : lv_has ls 4 [(0, .ref (z + this)), (1, .int a1), (2, .ref (z + a2))] := hl
  have B25 : ∀ (t0 : Int32) (t1 : Int32) (σ : Mm), b_X4_put_25 Y fu this a1 a2 t0 t1 σ = some (r, σ1) → ∀ (H : Heap) (locs : List Loc) (ls : Array Slot), WH z n D cy Y σ H → va_S (Az z) s.heap H locs → lv_has ls 4 [(0, .ref (z + this)), (1, .int a1), (2, .ref (z + a2))] → W p l e ({ frames := 4, cells := 0, slots := 0, locals := 86 } : Room) s m ([.ref (z + this), .int a1, .ref (z + a2)] : List Value).toArray below meth c H locs 0 0 (MQ below (va_Qi (fun (x : Int32) (_ : Unit) => x = r) (fun _ t => WH z n D cy Y σ1 t.heap) (Az z)) ([.ref (z + this), .int a1, .ref (z + a2)] : List Value).toArray s 0 0 (Az z)) (F0 m 25 ls [.int t0, .int t1]) := by
    intro  t0 t1 σ  hf H locs ls hW hS hl
    refine lv_icmp_ne (tgt := 37) hx hb dX4_put_25 (by decide) (fun c => ?_) (fun c => ?_)
    · have hf := g_neg c hf
      refine lv_iconst (v := 0) hx hb dX4_put_37 (by decide) ?_
      exact q_zret hx hb hr hlocks hW hS hf dX4_put_38
    · have hf := g_pos c hf
      refine lv_aload_n hx hb dX4_put_28 rfl (lv_at hl 0 rfl) ?_
      refine lv_iload_n hx hb dX4_put_29 rfl (lv_at hl 1 rfl) ?_
      refine lv_aload_n hx hb dX4_put_30 rfl (lv_at hl 2 rfl) ?_
      obtain ⟨r_3, σ_2, hc_1, hf⟩ := g_bnd hf
      refine q_calli (va_runV (As := [.int a1, .ref (z + a2)]) (rest := []) ⟨hx, hb, hml, hown, hts⟩ (k_X4_taken l z n D cy Y h_this h_a2 hc_1) (cwV 2 hts gX4_put_X4_taken rfl rfl rfl (by decide +kernel) ⟨Nat.le_of_ble_eq_true rfl, Nat.le_of_ble_eq_true rfl⟩) (q_PV (T := TX4) (N := 12) hK hN hW h_this (by decide) rfl) rfl rfl hl.1 rfl (lv_room (Nat.le_of_ble_eq_true rfl)) dX4_put_31 ⟨Nat.le_refl _, Nat.le_refl _⟩) hS (fun H locs hW hS => ?_)
      refine lv_if_ne (tgt := 39) hx hb dX4_put_34 (by decide) (fun c => ?_) (fun c => ?_)
      · have hf := g_neg c hf
        refine lv_aload_n hx hb dX4_put_39 rfl (lv_at hl 0 rfl) ?_
        refine lv_dup hx hb dX4_put_40 rfl ?_
        refine q_geti (own := RX4) (ref := RX4) (C := RX4) (T := TX4) (N := 12) (kc := 2) (ci := 0) hx hb hts hin4 hown hK hW h_this (by decide) rfl 0 (by decide) hw0 rfl rfl dX4_put_41 ?_
        refine lv_iconst (v := 1) hx hb dX4_put_44 (by decide) ?_
        refine lv_iadd hx hb dX4_put_45 ?_
        refine q_puti (own := RX4) (ref := RX4) (C := RX4) (T := TX4) (N := 12) (kc := 2) (ci := 0) hx hb hts hin4 tyX4_ok nmX4 hown hK hW hS h_this (by decide) rfl 0 (by decide) hw0 rfl rfl (ty := .int) (tyX4_ok 0 (by decide)) rfl rfl rfl dX4_put_46 (fun H locs hW hS => ?_)
        obtain ⟨σ_4, eσ_4⟩ : ∃ y : Mm, y = (Mm.si σ_2 this 0 ((Mm.gi σ_2 this 0) + 1)) := ⟨_, rfl⟩
        rw [← eσ_4] at hW
        have hf := g_lt eσ_4 hf
        refine lv_iconst (v := 1) hx hb dX4_put_49 (by decide) ?_
        exact q_zret hx hb hr hlocks hW hS hf dX4_put_50
      · have hf := g_pos c hf
        refine lv_iconst (v := 0) hx hb dX4_put_37 (by decide) ?_
        exact q_zret hx hb hr hlocks hW hS hf dX4_put_38
  have B12 : ∀ (t0 : Int32) (σ : Mm), b_X4_put_12 Y fu this a1 a2 t0 σ = some (r, σ1) → ∀ (H : Heap) (locs : List Loc) (ls : Array Slot), WH z n D cy Y σ H → va_S (Az z) s.heap H locs → lv_has ls 4 [(0, .ref (z + this)), (1, .int a1), (2, .ref (z + a2))] → W p l e ({ frames := 4, cells := 0, slots := 0, locals := 86 } : Room) s m ([.ref (z + this), .int a1, .ref (z + a2)] : List Value).toArray below meth c H locs 0 0 (MQ below (va_Qi (fun (x : Int32) (_ : Unit) => x = r) (fun _ t => WH z n D cy Y σ1 t.heap) (Az z)) ([.ref (z + this), .int a1, .ref (z + a2)] : List Value).toArray s 0 0 (Az z)) (F0 m 12 ls [.int t0]) := by
    intro  t0 σ  hf H locs ls hW hS hl
    refine lv_istore_n (lv' := [(3, .int t0), (0, .ref (z + this)), (1, .int a1), (2, .ref (z + a2))]) hx hb dX4_put_12 rfl hl (by decide) rfl (fun ls hl => ?_)
    refine lv_iload_n hx hb dX4_put_13 rfl (lv_at hl 0 rfl) ?_
    refine lv_iload_n hx hb dX4_put_14 rfl (lv_at hl 2 rfl) ?_
    refine lv_bipush (v := 112) hx hb dX4_put_15 (by decide) ?_
    refine lv_icmp_ne (tgt := 24) hx hb dX4_put_17 (by decide) (fun c => ?_) (fun c => ?_)
    · have hf := g_neg c hf
      refine lv_iconst (v := 0) hx hb dX4_put_24 (by decide) ?_
      exact B25 0 t0 σ hf _ _ _ hW hS (lv_sub hl [1, 2, 3] rfl)
    · have hf := g_pos c hf
      refine lv_iconst (v := 1) hx hb dX4_put_20 (by decide) ?_
      refine lv_goto (tgt := 25) hx hb dX4_put_21 (by decide) ?_
      exact B25 1 t0 σ hf _ _ _ hW hS (lv_sub hl [1, 2, 3] rfl)
  refine lv_aload_n hx hb dX4_put_0 rfl (lv_at hl 0 rfl) ?_
  refine q_geti (own := RX4) (ref := RX4) (C := RX4) (T := TX4) (N := 12) (kc := 2) (ci := 0) hx hb hts hin4 hown hK hW h_this (by decide) rfl 0 (by decide) hw0 rfl rfl dX4_put_1 ?_
  refine lv_if_ne (tgt := 11) hx hb dX4_put_4 (by decide) (fun c => ?_) (fun c => ?_)
  · have hf := g_neg c hf
    refine lv_iconst (v := 0) hx hb dX4_put_11 (by decide) ?_
    exact B12 0 σ hf _ _ _ hW hS (lv_sub hl [0, 1, 2] rfl)
  · have hf := g_pos c hf
    refine lv_iconst (v := 1) hx hb dX4_put_7 (by decide) ?_
    refine lv_goto (tgt := 12) hx hb dX4_put_8 (by decide) ?_
    exact B12 1 σ hf _ _ _ hW hS (lv_sub hl [0, 1, 2] rfl)
set_option maxRecDepth 100000 in
set_option maxHeartbeats 40000000 in
theorem k_X4_lengthOf (l : Launch) (z n : Nat) (D : va_G) (cy : Nat → ClassId) (Y : Yt) {fu : Nat} {this : Nat} {a1 : Int32} {a2 : Int64} {σ : Mm} {r : Int64} {σ1 : Mm} (h_this : okk Y n 2 this) (hf : f_X4_lengthOf Y fu this a1 a2 σ = some (r, σ1)) : Kl l yX4_lengthOf wsX4_lengthOf ({ frames := 1, cells := 0, slots := 0, locals := 60 } : Room) z n D cy Y [.ref (z + this), .int a1, .long a2] σ r σ1 := by
  refine Met.ofW (cc := cX4_lengthOf) (maxL := 7) (ret := (some .long)) (by decide +kernel) rfl ?_
  intro p e s m args below meth c s₁ B hml hv
  obtain ⟨rfl, hW, hK, hN⟩ := hv
  have hx := B.exec
  have hb := B.bytes
  have hr := B.returns
  have hts := atoms_spec (ws := wsX4_lengthOf) B.pre
  have hown : s.vm.findClass RX4 = some m.cls := findClass_of_methodNamed B.named
  have hlocks := B.notSynchronized
  have hS : va_S (Az z) s.heap s.heap [] := va_S.rf
  have hin4 : ∀ w ∈ wsX40, w ∈ wsX4_lengthOf := fun w h => List.mem_cons_of_mem _ (List.mem_append_right _ h)
  have hw0 := hts (.constantLong RX4 85 (1000)) (List.mem_of_getElem? (i := 1) rfl)
  have hw1 := hts (.fieldLink RX4 28 "SkyClocks$Model" "period" "I") (List.mem_of_getElem? (i := 2) rfl)
  have hw2 := hts (.fieldLink RX4 38 "SkyClocks$Model" "drift" "I") (List.mem_of_getElem? (i := 3) rfl)
  have hw3 := hts (.fieldLink RX4 44 "SkyClocks$Model" "slips" "I") (List.mem_of_getElem? (i := 4) rfl)
  have hw4 := hts (.constantLong RX4 87 (1000000)) (List.mem_of_getElem? (i := 6) rfl)
  have hw5 := hts (.methodLink RX4 89 Lib.MathLoose.max_long.x) (List.mem_of_getElem? (i := 8) rfl)
  have hw6 := hts (.static Lib.MathLoose.max_long.x) (List.mem_of_getElem? (i := 9) rfl)
  have hw7 := hts (.initialized "java/lang/Math") (List.mem_of_getElem? (i := 10) rfl)
  have hw8 := hts (.code Lib.MathLoose.max_long.x Lib.MathLoose.max_long.code 4 (some .long)) (List.mem_of_getElem? (i := 11) rfl)
  have hw9 := hts (.fieldLink RX4 11 "SkyClocks$Model" "slipTimes" "[I") (List.mem_of_getElem? (i := 5) rfl)
  have hw10 := hts (.fieldLink RX4 15 "SkyClocks$Model" "slipSizes" "[I") (List.mem_of_getElem? (i := 7) rfl)
  have hl := lv_entry ([.ref (z + this), .int a1, .long a2]) (n := 7) (Nat.le_of_ble_eq_true rfl)
  rw [lg_entry_eq]
  generalize (lg_sl ([.ref (z + this), .int a1, .long a2]) ++ List.replicate (7 - (lg_sl ([.ref (z + this), .int a1, .long a2])).length) Slot.unset).toArray = ls at hl ⊢
  have hl : lv_has ls 7 [(0, .ref (z + this)), (1, .int a1), (2, .long a2)] := hl
  have B66 : ∀ (k23 : Int64 → Int32 → Mm → Option (Int64 × Mm)) (H23 : ∀ (x4 : Int64) (x6 : Int32) (σ : Mm), k23 x4 x6 σ = some (r, σ1) → ∀ (H : Heap) (locs : List Loc) (ls : Array Slot), WH z n D cy Y σ H → va_S (Az z) s.heap H locs → lv_has ls 7 [(0, .ref (z + this)), (1, .int a1), (2, .long a2), (4, .long x4), (6, .int x6)] → W p l e ({ frames := 1, cells := 0, slots := 0, locals := 60 } : Room) s m ([.ref (z + this), .int a1, .long a2] : List Value).toArray below meth c H locs 0 0 (MQ below (va_Ql (fun (x : Int64) (_ : Unit) => x = r) (fun _ t => WH z n D cy Y σ1 t.heap) (Az z)) ([.ref (z + this), .int a1, .long a2] : List Value).toArray s 0 0 (Az z)) (F0 m 23 ls [])) (x4 : Int64) (x6 : Int32) (σ : Mm), b_X4_lengthOf_66 Y fu this a1 a2 k23 x4 x6 σ = some (r, σ1) → ∀ (H : Heap) (locs : List Loc) (ls : Array Slot), WH z n D cy Y σ H → va_S (Az z) s.heap H locs → lv_has ls 7 [(0, .ref (z + this)), (1, .int a1), (2, .long a2), (4, .long x4), (6, .int x6)] → W p l e ({ frames := 1, cells := 0, slots := 0, locals := 60 } : Room) s m ([.ref (z + this), .int a1, .long a2] : List Value).toArray below meth c H locs 0 0 (MQ below (va_Ql (fun (x : Int64) (_ : Unit) => x = r) (fun _ t => WH z n D cy Y σ1 t.heap) (Az z)) ([.ref (z + this), .int a1, .long a2] : List Value).toArray s 0 0 (Az z)) (F0 m 66 ls []) := by
    intro k23 H23 x4 x6 σ  hf H locs ls hW hS hl
    obtain ⟨x6_5, ex6_5⟩ : ∃ y : Int32, y = x6 + 1 := ⟨_, rfl⟩
    have hf := g_lt ex6_5 hf
    refine lv_iinc (v := x6_5) (lv' := [(6, .int x6_5), (0, .ref (z + this)), (1, .int a1), (2, .long a2), (4, .long x4)]) hx hb dX4_lengthOf_66 hl (k := 4) rfl (by rw [ex6_5]; rfl) (by decide) rfl (fun ls hl => ?_)
    refine lv_goto (tgt := 23) hx hb dX4_lengthOf_69 (by decide) ?_
    exact H23 x4 x6_5 σ hf _ _ _ hW hS (lv_sub hl [1, 2, 3, 4, 0] rfl)
  have B23 : ∀ (nn : Nat) (x4 : Int64) (x6 : Int32) (σ : Mm), b_X4_lengthOf_23 Y fu this a1 a2 nn x4 x6 σ = some (r, σ1) → ∀ (H : Heap) (locs : List Loc) (ls : Array Slot), WH z n D cy Y σ H → va_S (Az z) s.heap H locs → lv_has ls 7 [(0, .ref (z + this)), (1, .int a1), (2, .long a2), (4, .long x4), (6, .int x6)] → W p l e ({ frames := 1, cells := 0, slots := 0, locals := 60 } : Room) s m ([.ref (z + this), .int a1, .long a2] : List Value).toArray below meth c H locs 0 0 (MQ below (va_Ql (fun (x : Int64) (_ : Unit) => x = r) (fun _ t => WH z n D cy Y σ1 t.heap) (Az z)) ([.ref (z + this), .int a1, .long a2] : List Value).toArray s 0 0 (Az z)) (F0 m 23 ls []) := by
    intro nn
    induction nn with
    | zero =>
      intro x4 x6 σ  hf
      have h9 : (none : Option (Int64 × Mm)) = some (r, σ1) := hf
      cases h9
    | succ nn H23 =>
      intro x4 x6 σ  hf H locs ls hW hS hl
      have hf : s_X4_lengthOf_23 Y fu this a1 a2 (b_X4_lengthOf_23 Y fu this a1 a2 nn) x4 x6 σ = some (r, σ1) := hf
      generalize hkk : b_X4_lengthOf_23 Y fu this a1 a2 nn = k23 at hf H23
      refine lv_iload hx hb dX4_lengthOf_23 (lv_at hl 4 rfl) ?_
      refine lv_aload_n hx hb dX4_lengthOf_25 rfl (lv_at hl 0 rfl) ?_
      refine q_geti (own := RX4) (ref := RX4) (C := RX4) (T := TX4) (N := 12) (kc := 2) (ci := 0) hx hb hts hin4 hown hK hW h_this (by decide) rfl 6 (by decide) hw3 rfl rfl dX4_lengthOf_26 ?_
      refine lv_icmp_ge (tgt := 72) hx hb dX4_lengthOf_29 (by decide) (fun c => ?_) (fun c => ?_)
      · have hf := g_pos c hf
        refine lv_lload hx hb dX4_lengthOf_72 (lv_at hl 3 rfl) ?_
        refine lv_ldc2 hx hb hown hw4 dX4_lengthOf_74 ?_
        refine va_mmax_long hx hb (by rw [hml]; exact hl.1.symm) hown hw5 hw6 hw7 hw8 (Nat.le_of_ble_eq_true rfl) (Nat.le_of_ble_eq_true rfl) (Nat.zero_le _) (Nat.zero_le _) dX4_lengthOf_77 ?_
        exact q_lret hx hb hr hlocks hW hS hf dX4_lengthOf_80
      · have hf := g_neg c hf
        refine lv_aload_n hx hb dX4_lengthOf_32 rfl (lv_at hl 0 rfl) ?_
        refine q_getp (own := RX4) (ref := RX4) (C := RX4) (T := TX4) (N := 12) (kc := 2) (ci := 0) hx hb hts hin4 hown hK hW h_this (by decide) rfl 7 (by decide) hw9 rfl rfl rfl (v := (this + 1)) rfl dX4_lengthOf_33 (fun hk_2 hq_3 => ?_)
        refine lv_iload hx hb dX4_lengthOf_36 (lv_at hl 4 rfl) ?_
        obtain ⟨hi_4, hf⟩ := g_in hf
        refine q_iald hx hb hK hW hk_2 (inb_of hq_3 hi_4) dX4_lengthOf_38 ?_
        refine lv_i2l hx hb dX4_lengthOf_39 rfl ?_
        refine lv_ldc2 hx hb hown hw4 dX4_lengthOf_40 ?_
        refine lv_lmul hx hb dX4_lengthOf_43 ?_
        refine lv_lload_n hx hb dX4_lengthOf_44 rfl (lv_at hl 2 rfl) ?_
        refine W.lcmp hx hb dX4_lengthOf_45 ?_
        refine lv_if_gt (tgt := 66) hx hb dX4_lengthOf_46 (by decide) (fun c => ?_) (fun c => ?_)
        · have hf := g_pos ((lg_cmp_gt _ _).mp c) hf
          exact B66 k23 H23 x4 x6 σ hf _ _ _ hW hS (lv_sub hl [0, 1, 2, 3, 4] rfl)
        · have hf := g_neg (fun h => c ((lg_cmp_gt _ _).mpr h)) hf
          refine lv_lload hx hb dX4_lengthOf_49 (lv_at hl 3 rfl) ?_
          refine lv_ldc2 hx hb hown hw0 dX4_lengthOf_51 ?_
          refine lv_aload_n hx hb dX4_lengthOf_54 rfl (lv_at hl 0 rfl) ?_
          refine q_getp (own := RX4) (ref := RX4) (C := RX4) (T := TX4) (N := 12) (kc := 2) (ci := 0) hx hb hts hin4 hown hK hW h_this (by decide) rfl 8 (by decide) hw10 rfl rfl rfl (v := (this + 2)) rfl dX4_lengthOf_55 (fun hk_6 hq_7 => ?_)
          refine lv_iload hx hb dX4_lengthOf_58 (lv_at hl 4 rfl) ?_
          obtain ⟨hi_8, hf⟩ := g_in hf
          refine q_iald hx hb hK hW hk_6 (inb_of hq_7 hi_8) dX4_lengthOf_60 ?_
          refine lv_i2l hx hb dX4_lengthOf_61 rfl ?_
          refine lv_lmul hx hb dX4_lengthOf_62 ?_
          refine lv_ladd hx hb dX4_lengthOf_63 ?_
          refine lv_topl (fun x4_9 ex4_9 => ?_)
          have hf := g_lt ex4_9 hf
          refine lv_lstore (lv' := [(4, .long x4_9), (0, .ref (z + this)), (1, .int a1), (2, .long a2), (6, .int x6)]) hx hb dX4_lengthOf_64 hl (by decide) rfl (fun ls hl => ?_)
          exact B66 k23 H23 x4_9 x6 σ hf _ _ _ hW hS (lv_sub hl [1, 2, 3, 0, 4] rfl)
  refine lv_ldc2 hx hb hown hw0 dX4_lengthOf_0 ?_
  refine lv_aload_n hx hb dX4_lengthOf_3 rfl (lv_at hl 0 rfl) ?_
  refine q_geti (own := RX4) (ref := RX4) (C := RX4) (T := TX4) (N := 12) (kc := 2) (ci := 0) hx hb hts hin4 hown hK hW h_this (by decide) rfl 1 (by decide) hw1 rfl rfl dX4_lengthOf_4 ?_
  refine lv_i2l hx hb dX4_lengthOf_7 rfl ?_
  refine lv_lmul hx hb dX4_lengthOf_8 ?_
  refine lv_iload_n hx hb dX4_lengthOf_9 rfl (lv_at hl 1 rfl) ?_
  refine lv_i2l hx hb dX4_lengthOf_10 rfl ?_
  refine lv_aload_n hx hb dX4_lengthOf_11 rfl (lv_at hl 0 rfl) ?_
  refine q_geti (own := RX4) (ref := RX4) (C := RX4) (T := TX4) (N := 12) (kc := 2) (ci := 0) hx hb hts hin4 hown hK hW h_this (by decide) rfl 4 (by decide) hw2 rfl rfl dX4_lengthOf_12 ?_
  refine lv_i2l hx hb dX4_lengthOf_15 rfl ?_
  refine lv_lmul hx hb dX4_lengthOf_16 ?_
  refine lv_ladd hx hb dX4_lengthOf_17 ?_
  refine lv_topl (fun x4_1 ex4_1 => ?_)
  have hf := g_lt ex4_1 hf
  refine lv_lstore (lv' := [(4, .long x4_1), (0, .ref (z + this)), (1, .int a1), (2, .long a2)]) hx hb dX4_lengthOf_18 hl (by decide) rfl (fun ls hl => ?_)
  refine lv_iconst (v := 0) hx hb dX4_lengthOf_20 (by decide) ?_
  refine lv_istore (lv' := [(6, .int 0), (4, .long x4_1), (0, .ref (z + this)), (1, .int a1), (2, .long a2)]) hx hb dX4_lengthOf_21 hl (by decide) rfl (fun ls hl => ?_)
  exact B23 fu x4_1 0 σ hf _ _ _ hW hS (lv_sub hl [2, 3, 4, 1, 0] rfl)
set_option maxRecDepth 100000 in
set_option maxHeartbeats 40000000 in
theorem k_X4_lateOf (l : Launch) (z n : Nat) (D : va_G) (cy : Nat → ClassId) (Y : Yt) {fu : Nat} {this : Nat} {a1 : Int32} {σ : Mm} {r : Int64} {σ1 : Mm} (h_this : okk Y n 2 this) (hf : f_X4_lateOf Y fu this a1 σ = some (r, σ1)) : Kl l yX4_lateOf wsX4_lateOf ({ frames := 0, cells := 0, slots := 0, locals := 0 } : Room) z n D cy Y [.ref (z + this), .int a1] σ r σ1 := by
  refine Met.ofW (cc := cX4_lateOf) (maxL := 7) (ret := (some .long)) (by decide +kernel) rfl ?_
  intro p e s m args below meth c s₁ B hml hv
  obtain ⟨rfl, hW, hK, hN⟩ := hv
  have hx := B.exec
  have hb := B.bytes
  have hr := B.returns
  have hts := atoms_spec (ws := wsX4_lateOf) B.pre
  have hown : s.vm.findClass RX4 = some m.cls := findClass_of_methodNamed B.named
  have hlocks := B.notSynchronized
  have hS : va_S (Az z) s.heap s.heap [] := va_S.rf
  have hin4 : ∀ w ∈ wsX40, w ∈ wsX4_lateOf := fun w h => List.mem_cons_of_mem _ (List.mem_append_right _ h)
  have hw0 := hts (.fieldLink RX4 47 "SkyClocks$Model" "companions" "I") (List.mem_of_getElem? (i := 1) rfl)
  have hw1 := hts (.fieldLink RX4 18 "SkyClocks$Model" "cycles" "[I") (List.mem_of_getElem? (i := 2) rfl)
  have hw2 := hts (.constantLong RX4 85 (1000)) (List.mem_of_getElem? (i := 3) rfl)
  have hw3 := hts (.fieldLink RX4 21 "SkyClocks$Model" "lates" "[I") (List.mem_of_getElem? (i := 4) rfl)
  have hl := lv_entry ([.ref (z + this), .int a1]) (n := 7) (Nat.le_of_ble_eq_true rfl)
  rw [lg_entry_eq]
  generalize (lg_sl ([.ref (z + this), .int a1]) ++ List.replicate (7 - (lg_sl ([.ref (z + this), .int a1])).length) Slot.unset).toArray = ls at hl ⊢
  have hl : lv_has ls 7 [(0, .ref (z + this)), (1, .int a1)] := hl
  have B59 : ∀ (k5 : Int64 → Int32 → Mm → Option (Int64 × Mm)) (H5 : ∀ (x2 : Int64) (x4 : Int32) (σ : Mm), k5 x2 x4 σ = some (r, σ1) → ∀ (H : Heap) (locs : List Loc) (ls : Array Slot), WH z n D cy Y σ H → va_S (Az z) s.heap H locs → lv_has ls 7 [(0, .ref (z + this)), (1, .int a1), (2, .long x2), (4, .int x4)] → W p l e ({ frames := 0, cells := 0, slots := 0, locals := 0 } : Room) s m ([.ref (z + this), .int a1] : List Value).toArray below meth c H locs 0 0 (MQ below (va_Ql (fun (x : Int64) (_ : Unit) => x = r) (fun _ t => WH z n D cy Y σ1 t.heap) (Az z)) ([.ref (z + this), .int a1] : List Value).toArray s 0 0 (Az z)) (F0 m 5 ls [])) (x2 : Int64) (x4 : Int32) (σ : Mm), b_X4_lateOf_59 Y fu this a1 k5 x2 x4 σ = some (r, σ1) → ∀ (H : Heap) (locs : List Loc) (ls : Array Slot), WH z n D cy Y σ H → va_S (Az z) s.heap H locs → lv_has ls 7 [(0, .ref (z + this)), (1, .int a1), (2, .long x2), (4, .int x4)] → W p l e ({ frames := 0, cells := 0, slots := 0, locals := 0 } : Room) s m ([.ref (z + this), .int a1] : List Value).toArray below meth c H locs 0 0 (MQ below (va_Ql (fun (x : Int64) (_ : Unit) => x = r) (fun _ t => WH z n D cy Y σ1 t.heap) (Az z)) ([.ref (z + this), .int a1] : List Value).toArray s 0 0 (Az z)) (F0 m 59 ls []) := by
    intro k5 H5 x2 x4 σ  hf H locs ls hW hS hl
    obtain ⟨x4_5, ex4_5⟩ : ∃ y : Int32, y = x4 + 1 := ⟨_, rfl⟩
    have hf := g_lt ex4_5 hf
    refine lv_iinc (v := x4_5) (lv' := [(4, .int x4_5), (0, .ref (z + this)), (1, .int a1), (2, .long x2)]) hx hb dX4_lateOf_59 hl (k := 3) rfl (by rw [ex4_5]; rfl) (by decide) rfl (fun ls hl => ?_)
    refine lv_goto (tgt := 5) hx hb dX4_lateOf_62 (by decide) ?_
    exact H5 x2 x4_5 σ hf _ _ _ hW hS (lv_sub hl [1, 2, 3, 0] rfl)
  have B5 : ∀ (nn : Nat) (x2 : Int64) (x4 : Int32) (σ : Mm), b_X4_lateOf_5 Y fu this a1 nn x2 x4 σ = some (r, σ1) → ∀ (H : Heap) (locs : List Loc) (ls : Array Slot), WH z n D cy Y σ H → va_S (Az z) s.heap H locs → lv_has ls 7 [(0, .ref (z + this)), (1, .int a1), (2, .long x2), (4, .int x4)] → W p l e ({ frames := 0, cells := 0, slots := 0, locals := 0 } : Room) s m ([.ref (z + this), .int a1] : List Value).toArray below meth c H locs 0 0 (MQ below (va_Ql (fun (x : Int64) (_ : Unit) => x = r) (fun _ t => WH z n D cy Y σ1 t.heap) (Az z)) ([.ref (z + this), .int a1] : List Value).toArray s 0 0 (Az z)) (F0 m 5 ls []) := by
    intro nn
    induction nn with
    | zero =>
      intro x2 x4 σ  hf
      have h9 : (none : Option (Int64 × Mm)) = some (r, σ1) := hf
      cases h9
    | succ nn H5 =>
      intro x2 x4 σ  hf H locs ls hW hS hl
      have hf : s_X4_lateOf_5 Y fu this a1 (b_X4_lateOf_5 Y fu this a1 nn) x2 x4 σ = some (r, σ1) := hf
      generalize hkk : b_X4_lateOf_5 Y fu this a1 nn = k5 at hf H5
      refine lv_iload hx hb dX4_lateOf_5 (lv_at hl 3 rfl) ?_
      refine lv_aload_n hx hb dX4_lateOf_7 rfl (lv_at hl 0 rfl) ?_
      refine q_geti (own := RX4) (ref := RX4) (C := RX4) (T := TX4) (N := 12) (kc := 2) (ci := 0) hx hb hts hin4 hown hK hW h_this (by decide) rfl 9 (by decide) hw0 rfl rfl dX4_lateOf_8 ?_
      refine lv_icmp_ge (tgt := 65) hx hb dX4_lateOf_11 (by decide) (fun c => ?_) (fun c => ?_)
      · have hf := g_pos c hf
        refine lv_lload_n hx hb dX4_lateOf_65 rfl (lv_at hl 2 rfl) ?_
        exact q_lret hx hb hr hlocks hW hS hf dX4_lateOf_66
      · have hf := g_neg c hf
        refine lv_aload_n hx hb dX4_lateOf_14 rfl (lv_at hl 0 rfl) ?_
        refine q_getp (own := RX4) (ref := RX4) (C := RX4) (T := TX4) (N := 12) (kc := 2) (ci := 0) hx hb hts hin4 hown hK hW h_this (by decide) rfl 10 (by decide) hw1 rfl rfl rfl (v := (this + 3)) rfl dX4_lateOf_15 (fun hk_1 hq_2 => ?_)
        refine lv_iload hx hb dX4_lateOf_18 (lv_at hl 3 rfl) ?_
        obtain ⟨hi_3, hf⟩ := g_in hf
        refine q_iald hx hb hK hW hk_1 (inb_of hq_2 hi_3) dX4_lateOf_20 ?_
        refine lv_topi (fun x5_4 ex5_4 => ?_)
        have hf := g_lt ex5_4 hf
        refine lv_istore (lv' := [(5, .int x5_4), (0, .ref (z + this)), (1, .int a1), (2, .long x2), (4, .int x4)]) hx hb dX4_lateOf_21 hl (by decide) rfl (fun ls hl => ?_)
        refine lv_iload hx hb dX4_lateOf_23 (lv_at hl 0 rfl) ?_
        refine lv_if_le (tgt := 59) hx hb dX4_lateOf_25 (by decide) (fun c => ?_) (fun c => ?_)
        · have hf := g_pos c hf
          exact B59 k5 H5 x2 x4 σ hf _ _ _ hW hS (lv_sub hl [1, 2, 3, 4] rfl)
        · have hf := g_neg c hf
          refine lv_iconst (v := 4) hx hb dX4_lateOf_28 (by decide) ?_
          refine lv_iload_n hx hb dX4_lateOf_29 rfl (lv_at hl 2 rfl) ?_
          refine lv_iload hx hb dX4_lateOf_30 (lv_at hl 0 rfl) ?_
          obtain ⟨hz_6, hf⟩ := g_ne hf
          refine lv_irem hx hb dX4_lateOf_32 hz_6 ?_
          refine lv_imul hx hb dX4_lateOf_33 ?_
          refine lv_iload hx hb dX4_lateOf_34 (lv_at hl 0 rfl) ?_
          obtain ⟨hz_7, hf⟩ := g_ne hf
          refine lv_idiv hx hb dX4_lateOf_36 hz_7 ?_
          refine lv_topi (fun x6_8 ex6_8 => ?_)
          have hf := g_lt ex6_8 hf
          refine lv_istore (lv' := [(6, .int x6_8), (5, .int x5_4), (0, .ref (z + this)), (1, .int a1), (2, .long x2), (4, .int x4)]) hx hb dX4_lateOf_37 hl (by decide) rfl (fun ls hl => ?_)
          refine lv_lload_n hx hb dX4_lateOf_39 rfl (lv_at hl 4 rfl) ?_
          refine lv_ldc2 hx hb hown hw2 dX4_lateOf_40 ?_
          refine lv_aload_n hx hb dX4_lateOf_43 rfl (lv_at hl 2 rfl) ?_
          refine q_getp (own := RX4) (ref := RX4) (C := RX4) (T := TX4) (N := 12) (kc := 2) (ci := 0) hx hb hts hin4 hown hK hW h_this (by decide) rfl 11 (by decide) hw3 rfl rfl rfl (v := (this + 4)) rfl dX4_lateOf_44 (fun hk_9 hq_10 => ?_)
          refine lv_iload hx hb dX4_lateOf_47 (lv_at hl 5 rfl) ?_
          refine lv_iconst (v := 4) hx hb dX4_lateOf_49 (by decide) ?_
          refine lv_imul hx hb dX4_lateOf_50 ?_
          refine lv_iload hx hb dX4_lateOf_51 (lv_at hl 0 rfl) ?_
          refine lv_iadd hx hb dX4_lateOf_53 ?_
          obtain ⟨hi_11, hf⟩ := g_in hf
          refine q_iald hx hb hK hW hk_9 (inb_of hq_10 hi_11) dX4_lateOf_54 ?_
          refine lv_i2l hx hb dX4_lateOf_55 rfl ?_
          refine lv_lmul hx hb dX4_lateOf_56 ?_
          refine lv_ladd hx hb dX4_lateOf_57 ?_
          refine lv_topl (fun x2_12 ex2_12 => ?_)
          have hf := g_lt ex2_12 hf
          refine lv_lstore_n (lv' := [(2, .long x2_12), (6, .int x6_8), (5, .int x5_4), (0, .ref (z + this)), (1, .int a1), (4, .int x4)]) hx hb dX4_lateOf_58 rfl hl (by decide) rfl (fun ls hl => ?_)
          exact B59 k5 H5 x2_12 x4 σ hf _ _ _ hW hS (lv_sub hl [3, 4, 0, 5] rfl)
  refine lv_lconst (v := 0) hx hb dX4_lateOf_0 (by decide) ?_
  refine lv_lstore_n (lv' := [(2, .long 0), (0, .ref (z + this)), (1, .int a1)]) hx hb dX4_lateOf_1 rfl hl (by decide) rfl (fun ls hl => ?_)
  refine lv_iconst (v := 0) hx hb dX4_lateOf_2 (by decide) ?_
  refine lv_istore (lv' := [(4, .int 0), (2, .long 0), (0, .ref (z + this)), (1, .int a1)]) hx hb dX4_lateOf_3 hl (by decide) rfl (fun ls hl => ?_)
  exact B5 fu 0 0 σ hf _ _ _ hW hS (lv_sub hl [2, 3, 1, 0] rfl)
set_option maxRecDepth 100000 in
set_option maxHeartbeats 40000000 in
theorem k_X6_sumOf (l : Launch) (z n : Nat) (D : va_G) (cy : Nat → ClassId) (Y : Yt) {fu : Nat} {a0 : Nat} {a1 : Int32} {σ : Mm} {r : Int64} {σ1 : Mm} (h_a0 : okk Y n 10 a0) (hf : f_X6_sumOf Y fu a0 a1 σ = some (r, σ1)) : Kl l yX6_sumOf wsX6_sumOf ({ frames := 0, cells := 0, slots := 0, locals := 0 } : Room) z n D cy Y [.ref (z + a0), .int a1] σ r σ1 := by
  refine Met.ofW (cc := cX6_sumOf) (maxL := 5) (ret := (some .long)) (by decide +kernel) rfl ?_
  intro p e s m args below meth c s₁ B hml hv
  obtain ⟨rfl, hW, hK, hN⟩ := hv
  have hx := B.exec
  have hb := B.bytes
  have hr := B.returns
  have hts := atoms_spec (ws := wsX6_sumOf) B.pre
  have hown : s.vm.findClass RX6 = some m.cls := findClass_of_methodNamed B.named
  have hlocks := B.notSynchronized
  have hS : va_S (Az z) s.heap s.heap [] := va_S.rf
  have hl := lv_entry ([.ref (z + a0), .int a1]) (n := 5) (Nat.le_of_ble_eq_true rfl)
  rw [lg_entry_eq]
  generalize (lg_sl ([.ref (z + a0), .int a1]) ++ List.replicate (5 - (lg_sl ([.ref (z + a0), .int a1])).length) Slot.unset).toArray = ls at hl ⊢
  have hl : lv_has ls 5 [(0, .ref (z + a0)), (1, .int a1)] := hl
  have B5 : ∀ (nn : Nat) (x2 : Int64) (x4 : Int32) (σ : Mm), b_X6_sumOf_5 Y fu a0 a1 nn x2 x4 σ = some (r, σ1) → ∀ (H : Heap) (locs : List Loc) (ls : Array Slot), WH z n D cy Y σ H → va_S (Az z) s.heap H locs → lv_has ls 5 [(0, .ref (z + a0)), (1, .int a1), (2, .long x2), (4, .int x4)] → W p l e ({ frames := 0, cells := 0, slots := 0, locals := 0 } : Room) s m ([.ref (z + a0), .int a1] : List Value).toArray below meth c H locs 0 0 (MQ below (va_Ql (fun (x : Int64) (_ : Unit) => x = r) (fun _ t => WH z n D cy Y σ1 t.heap) (Az z)) ([.ref (z + a0), .int a1] : List Value).toArray s 0 0 (Az z)) (F0 m 5 ls []) := by
    intro nn
    induction nn with
    | zero =>
      intro x2 x4 σ  hf
      have h9 : (none : Option (Int64 × Mm)) = some (r, σ1) := hf
      cases h9
    | succ nn H5 =>
      intro x2 x4 σ  hf H locs ls hW hS hl
      have hf : s_X6_sumOf_5 Y fu a0 a1 (b_X6_sumOf_5 Y fu a0 a1 nn) x2 x4 σ = some (r, σ1) := hf
      generalize hkk : b_X6_sumOf_5 Y fu a0 a1 nn = k5 at hf H5
      refine lv_iload hx hb dX6_sumOf_5 (lv_at hl 3 rfl) ?_
      refine lv_iload_n hx hb dX6_sumOf_7 rfl (lv_at hl 1 rfl) ?_
      refine lv_icmp_ge (tgt := 25) hx hb dX6_sumOf_8 (by decide) (fun c => ?_) (fun c => ?_)
      · have hf := g_pos c hf
        refine lv_lload_n hx hb dX6_sumOf_25 rfl (lv_at hl 2 rfl) ?_
        exact q_lret hx hb hr hlocks hW hS hf dX6_sumOf_26
      · have hf := g_neg c hf
        refine lv_lload_n hx hb dX6_sumOf_11 rfl (lv_at hl 2 rfl) ?_
        refine lv_aload_n hx hb dX6_sumOf_12 rfl (lv_at hl 0 rfl) ?_
        refine lv_iload hx hb dX6_sumOf_13 (lv_at hl 3 rfl) ?_
        obtain ⟨hi_1, hf⟩ := g_in hf
        refine q_iald hx hb hK hW h_a0 hi_1 dX6_sumOf_15 ?_
        refine lv_i2l hx hb dX6_sumOf_16 rfl ?_
        refine lv_ladd hx hb dX6_sumOf_17 ?_
        refine lv_topl (fun x2_2 ex2_2 => ?_)
        have hf := g_lt ex2_2 hf
        refine lv_lstore_n (lv' := [(2, .long x2_2), (0, .ref (z + a0)), (1, .int a1), (4, .int x4)]) hx hb dX6_sumOf_18 rfl hl (by decide) rfl (fun ls hl => ?_)
        obtain ⟨x4_3, ex4_3⟩ : ∃ y : Int32, y = x4 + 1 := ⟨_, rfl⟩
        have hf := g_lt ex4_3 hf
        refine lv_iinc (v := x4_3) (lv' := [(4, .int x4_3), (2, .long x2_2), (0, .ref (z + a0)), (1, .int a1)]) hx hb dX6_sumOf_19 hl (k := 3) rfl (by rw [ex4_3]; rfl) (by decide) rfl (fun ls hl => ?_)
        refine lv_goto (tgt := 5) hx hb dX6_sumOf_22 (by decide) ?_
        exact H5 x2_2 x4_3 σ hf _ _ _ hW hS (lv_sub hl [2, 3, 1, 0] rfl)
  refine lv_lconst (v := 0) hx hb dX6_sumOf_0 (by decide) ?_
  refine lv_lstore_n (lv' := [(2, .long 0), (0, .ref (z + a0)), (1, .int a1)]) hx hb dX6_sumOf_1 rfl hl (by decide) rfl (fun ls hl => ?_)
  refine lv_iconst (v := 0) hx hb dX6_sumOf_2 (by decide) ?_
  refine lv_istore (lv' := [(4, .int 0), (2, .long 0), (0, .ref (z + a0)), (1, .int a1)]) hx hb dX6_sumOf_3 hl (by decide) rfl (fun ls hl => ?_)
  exact B5 fu 0 0 σ hf _ _ _ hW hS (lv_sub hl [2, 3, 1, 0] rfl)
set_option maxRecDepth 100000 in
set_option maxHeartbeats 40000000 in
theorem k_X6_squareAt (l : Launch) (z n : Nat) (D : va_G) (cy : Nat → ClassId) (Y : Yt) {fu : Nat} {a0 : Nat} {a1 : Int32} {a2 : Int32} {a3 : Int64} {σ : Mm} {r : Int64} {σ1 : Mm} (h_a0 : okk Y n 10 a0) (hf : f_X6_squareAt Y fu a0 a1 a2 a3 σ = some (r, σ1)) : Kl l yX6_squareAt wsX6_squareAt ({ frames := 1, cells := 0, slots := 0, locals := 24 } : Room) z n D cy Y [.ref (z + a0), .int a1, .int a2, .long a3] σ r σ1 := by
  refine Met.ofW (cc := cX6_squareAt) (maxL := 7) (ret := (some .long)) (by decide +kernel) rfl ?_
  intro p e s m args below meth c s₁ B hml hv
  obtain ⟨rfl, hW, hK, hN⟩ := hv
  have hx := B.exec
  have hb := B.bytes
  have hr := B.returns
  have hts := atoms_spec (ws := wsX6_squareAt) B.pre
  have hown : s.vm.findClass RX6 = some m.cls := findClass_of_methodNamed B.named
  have hlocks := B.notSynchronized
  have hS : va_S (Az z) s.heap s.heap [] := va_S.rf
  have hl := lv_entry ([.ref (z + a0), .int a1, .int a2, .long a3]) (n := 7) (Nat.le_of_ble_eq_true rfl)
  rw [lg_entry_eq]
  generalize (lg_sl ([.ref (z + a0), .int a1, .int a2, .long a3]) ++ List.replicate (7 - (lg_sl ([.ref (z + a0), .int a1, .int a2, .long a3])).length) Slot.unset).toArray = ls at hl ⊢
  have hl : lv_has ls 7 [(0, .ref (z + a0)), (1, .int a1), (2, .int a2), (3, .long a3)] := hl
  refine lv_iload_n hx hb dX6_squareAt_0 rfl (lv_at hl 1 rfl) ?_
  refine lv_i2l hx hb dX6_squareAt_1 rfl ?_
  refine lv_aload_n hx hb dX6_squareAt_2 rfl (lv_at hl 0 rfl) ?_
  refine lv_iload_n hx hb dX6_squareAt_3 rfl (lv_at hl 2 rfl) ?_
  obtain ⟨r_3, σ_2, hc_1, hf⟩ := g_bnd hf
  refine q_calll (va_runS (As := [.ref (z + a0), .int a2]) (rest := [.long (Int32.toInt64 a1)]) ⟨hx, hb, hml, hown, hts⟩ (k_X6_sumOf l z n D cy Y h_a0 hc_1) (va_cwS 2 hts gX6_squareAt_X6_sumOf rfl rfl rfl (by decide +kernel) ⟨Nat.le_of_ble_eq_true rfl, Nat.le_of_ble_eq_true rfl⟩) (q_PS hK hN hW) rfl rfl hl.1 rfl (lv_room (Nat.le_of_ble_eq_true rfl)) dX6_squareAt_4 ⟨Nat.le_refl _, Nat.le_refl _⟩) hS (fun H locs hW hS => ?_)
  refine lv_lmul hx hb dX6_squareAt_7 ?_
  refine lv_iload_n hx hb dX6_squareAt_8 rfl (lv_at hl 2 rfl) ?_
  refine lv_i2l hx hb dX6_squareAt_9 rfl ?_
  refine lv_lload_n hx hb dX6_squareAt_10 rfl (lv_at hl 3 rfl) ?_
  refine lv_lmul hx hb dX6_squareAt_11 ?_
  refine lv_lsub hx hb dX6_squareAt_12 ?_
  refine lv_topl (fun x5_4 ex5_4 => ?_)
  have hf := g_lt ex5_4 hf
  refine lv_lstore (lv' := [(5, .long x5_4), (0, .ref (z + a0)), (1, .int a1), (2, .int a2), (3, .long a3)]) hx hb dX6_squareAt_13 hl (by decide) rfl (fun ls hl => ?_)
  refine lv_lload hx hb dX6_squareAt_15 (lv_at hl 0 rfl) ?_
  refine lv_lload hx hb dX6_squareAt_17 (lv_at hl 0 rfl) ?_
  refine lv_lmul hx hb dX6_squareAt_19 ?_
  exact q_lret hx hb hr hlocks hW hS hf dX6_squareAt_20
set_option maxRecDepth 100000 in
set_option maxHeartbeats 40000000 in
theorem k_X6_weight (l : Launch) (z n : Nat) (D : va_G) (cy : Nat → ClassId) (Y : Yt) {a0 : Int32} {a1 : Int32} {σ : Mm} {r : Int32} {σ1 : Mm} (hf : f_X6_weight Y a0 a1 σ = some (r, σ1)) : Ki l yX6_weight wsX6_weight ({ frames := 0, cells := 0, slots := 0, locals := 0 } : Room) z n D cy Y [.int a0, .int a1] σ r σ1 := by
  refine Met.ofW (cc := cX6_weight) (maxL := 2) (ret := (some .int)) (by decide +kernel) rfl ?_
  intro p e s m args below meth c s₁ B hml hv
  obtain ⟨rfl, hW, hK, hN⟩ := hv
  have hx := B.exec
  have hb := B.bytes
  have hr := B.returns
  have hts := atoms_spec (ws := wsX6_weight) B.pre
  have hown : s.vm.findClass RX6 = some m.cls := findClass_of_methodNamed B.named
  have hlocks := B.notSynchronized
  have hS : va_S (Az z) s.heap s.heap [] := va_S.rf
  have hl := lv_entry ([.int a0, .int a1]) (n := 2) (Nat.le_of_ble_eq_true rfl)
  rw [lg_entry_eq]
  generalize (lg_sl ([.int a0, .int a1]) ++ List.replicate (2 - (lg_sl ([.int a0, .int a1])).length) Slot.unset).toArray = ls at hl ⊢
  have hl : lv_has ls 2 [(0, .int a0), (1, .int a1)] := hl
  refine lv_iload_n hx hb dX6_weight_0 rfl (lv_at hl 1 rfl) ?_
  refine lv_iload_n hx hb dX6_weight_1 rfl (lv_at hl 0 rfl) ?_
  refine lv_iload_n hx hb dX6_weight_2 rfl (lv_at hl 1 rfl) ?_
  refine lv_isub hx hb dX6_weight_3 ?_
  refine lv_imul hx hb dX6_weight_4 ?_
  exact q_iret hx hb hr hlocks hW hS hf dX6_weight_5
set_option maxRecDepth 100000 in
set_option maxHeartbeats 40000000 in
theorem k_X6_placeOf (l : Launch) (z n : Nat) (D : va_G) (cy : Nat → ClassId) (Y : Yt) {fu : Nat} {a0 : Nat} {a1 : Int32} {σ : Mm} {r : Int32} {σ1 : Mm} (h_a0 : okk Y n 10 a0) (hf : f_X6_placeOf Y fu a0 a1 σ = some (r, σ1)) : Ki l yX6_placeOf wsX6_placeOf ({ frames := 3, cells := 0, slots := 0, locals := 114 } : Room) z n D cy Y [.ref (z + a0), .int a1] σ r σ1 := by
  refine Met.ofW (cc := cX6_placeOf) (maxL := 6) (ret := (some .int)) (by decide +kernel) rfl ?_
  intro p e s m args below meth c s₁ B hml hv
  obtain ⟨rfl, hW, hK, hN⟩ := hv
  have hx := B.exec
  have hb := B.bytes
  have hr := B.returns
  have hts := atoms_spec (ws := wsX6_placeOf) B.pre
  have hown : s.vm.findClass RX6 = some m.cls := findClass_of_methodNamed B.named
  have hlocks := B.notSynchronized
  have hS : va_S (Az z) s.heap s.heap [] := va_S.rf
  have hl := lv_entry ([.ref (z + a0), .int a1]) (n := 6) (Nat.le_of_ble_eq_true rfl)
  rw [lg_entry_eq]
  generalize (lg_sl ([.ref (z + a0), .int a1]) ++ List.replicate (6 - (lg_sl ([.ref (z + a0), .int a1])).length) Slot.unset).toArray = ls at hl ⊢
  have hl : lv_has ls 6 [(0, .ref (z + a0)), (1, .int a1)] := hl
  have B60 : ∀ (k12 : Int64 → Int32 → Int32 → Mm → Option (Int32 × Mm)) (H12 : ∀ (x2 : Int64) (x4 : Int32) (x5 : Int32) (σ : Mm), k12 x2 x4 x5 σ = some (r, σ1) → ∀ (H : Heap) (locs : List Loc) (ls : Array Slot), WH z n D cy Y σ H → va_S (Az z) s.heap H locs → lv_has ls 6 [(0, .ref (z + a0)), (1, .int a1), (2, .long x2), (4, .int x4), (5, .int x5)] → W p l e ({ frames := 3, cells := 0, slots := 0, locals := 114 } : Room) s m ([.ref (z + a0), .int a1] : List Value).toArray below meth c H locs 0 0 (MQ below (va_Qi (fun (x : Int32) (_ : Unit) => x = r) (fun _ t => WH z n D cy Y σ1 t.heap) (Az z)) ([.ref (z + a0), .int a1] : List Value).toArray s 0 0 (Az z)) (F0 m 12 ls [])) (x2 : Int64) (x4 : Int32) (x5 : Int32) (σ : Mm), b_X6_placeOf_60 Y fu a0 a1 k12 x2 x4 x5 σ = some (r, σ1) → ∀ (H : Heap) (locs : List Loc) (ls : Array Slot), WH z n D cy Y σ H → va_S (Az z) s.heap H locs → lv_has ls 6 [(0, .ref (z + a0)), (1, .int a1), (2, .long x2), (4, .int x4), (5, .int x5)] → W p l e ({ frames := 3, cells := 0, slots := 0, locals := 114 } : Room) s m ([.ref (z + a0), .int a1] : List Value).toArray below meth c H locs 0 0 (MQ below (va_Qi (fun (x : Int32) (_ : Unit) => x = r) (fun _ t => WH z n D cy Y σ1 t.heap) (Az z)) ([.ref (z + a0), .int a1] : List Value).toArray s 0 0 (Az z)) (F0 m 60 ls []) := by
    intro k12 H12 x2 x4 x5 σ  hf H locs ls hW hS hl
    obtain ⟨x5_19, ex5_19⟩ : ∃ y : Int32, y = x5 + 1 := ⟨_, rfl⟩
    have hf := g_lt ex5_19 hf
    refine lv_iinc (v := x5_19) (lv' := [(5, .int x5_19), (0, .ref (z + a0)), (1, .int a1), (2, .long x2), (4, .int x4)]) hx hb dX6_placeOf_60 hl (k := 4) rfl (by rw [ex5_19]; rfl) (by decide) rfl (fun ls hl => ?_)
    refine lv_goto (tgt := 12) hx hb dX6_placeOf_63 (by decide) ?_
    exact H12 x2 x4 x5_19 σ hf _ _ _ hW hS (lv_sub hl [1, 2, 3, 4, 0] rfl)
  have B12 : ∀ (nn : Nat) (x2 : Int64) (x4 : Int32) (x5 : Int32) (σ : Mm), b_X6_placeOf_12 Y fu a0 a1 nn x2 x4 x5 σ = some (r, σ1) → ∀ (H : Heap) (locs : List Loc) (ls : Array Slot), WH z n D cy Y σ H → va_S (Az z) s.heap H locs → lv_has ls 6 [(0, .ref (z + a0)), (1, .int a1), (2, .long x2), (4, .int x4), (5, .int x5)] → W p l e ({ frames := 3, cells := 0, slots := 0, locals := 114 } : Room) s m ([.ref (z + a0), .int a1] : List Value).toArray below meth c H locs 0 0 (MQ below (va_Qi (fun (x : Int32) (_ : Unit) => x = r) (fun _ t => WH z n D cy Y σ1 t.heap) (Az z)) ([.ref (z + a0), .int a1] : List Value).toArray s 0 0 (Az z)) (F0 m 12 ls []) := by
    intro nn
    induction nn with
    | zero =>
      intro x2 x4 x5 σ  hf
      have h9 : (none : Option (Int32 × Mm)) = some (r, σ1) := hf
      cases h9
    | succ nn H12 =>
      intro x2 x4 x5 σ  hf H locs ls hW hS hl
      have hf : s_X6_placeOf_12 Y fu a0 a1 (b_X6_placeOf_12 Y fu a0 a1 nn) x2 x4 x5 σ = some (r, σ1) := hf
      generalize hkk : b_X6_placeOf_12 Y fu a0 a1 nn = k12 at hf H12
      refine lv_iload hx hb dX6_placeOf_12 (lv_at hl 4 rfl) ?_
      refine lv_iload_n hx hb dX6_placeOf_14 rfl (lv_at hl 1 rfl) ?_
      refine lv_iconst (v := 2) hx hb dX6_placeOf_15 (by decide) ?_
      refine lv_isub hx hb dX6_placeOf_16 ?_
      refine lv_icmp_gt (tgt := 66) hx hb dX6_placeOf_17 (by decide) (fun c => ?_) (fun c => ?_)
      · have hf := g_pos c hf
        refine lv_iload hx hb dX6_placeOf_66 (lv_at hl 3 rfl) ?_
        exact q_iret hx hb hr hlocks hW hS hf dX6_placeOf_68
      · have hf := g_neg c hf
        refine lv_aload_n hx hb dX6_placeOf_20 rfl (lv_at hl 0 rfl) ?_
        refine lv_iload_n hx hb dX6_placeOf_21 rfl (lv_at hl 1 rfl) ?_
        refine lv_iload hx hb dX6_placeOf_22 (lv_at hl 3 rfl) ?_
        refine lv_lload_n hx hb dX6_placeOf_24 rfl (lv_at hl 2 rfl) ?_
        obtain ⟨r_6, σ_5, hc_4, hf⟩ := g_bnd hf
        refine q_calll (va_runS (As := [.ref (z + a0), .int a1, .int x4, .long x2]) (rest := []) ⟨hx, hb, hml, hown, hts⟩ (k_X6_squareAt l z n D cy Y h_a0 hc_4) (va_cwS 4 hts gX6_placeOf_X6_squareAt rfl rfl rfl (by decide +kernel) ⟨Nat.le_of_ble_eq_true rfl, Nat.le_of_ble_eq_true rfl⟩) (q_PS hK hN hW) rfl rfl hl.1 rfl (lv_room (Nat.le_of_ble_eq_true rfl)) dX6_placeOf_25 ⟨Nat.le_refl _, Nat.le_refl _⟩) hS (fun H locs hW hS => ?_)
        refine lv_iload_n hx hb dX6_placeOf_28 rfl (lv_at hl 1 rfl) ?_
        refine lv_iload hx hb dX6_placeOf_29 (lv_at hl 3 rfl) ?_
        obtain ⟨r_9, σ_8, hc_7, hf⟩ := g_bnd hf
        refine q_calli (va_runS (As := [.int a1, .int x4]) (rest := [.long r_6]) ⟨hx, hb, hml, hown, hts⟩ (k_X6_weight l z n D cy Y hc_7) (va_cwS 2 hts gX6_placeOf_X6_weight rfl rfl rfl (by decide +kernel) ⟨Nat.le_of_ble_eq_true rfl, Nat.le_of_ble_eq_true rfl⟩) (q_PS hK hN hW) rfl rfl hl.1 rfl (lv_room (Nat.le_of_ble_eq_true rfl)) dX6_placeOf_31 ⟨Nat.le_refl _, Nat.le_refl _⟩) hS (fun H locs hW hS => ?_)
        refine lv_i2l hx hb dX6_placeOf_34 rfl ?_
        refine lv_aload_n hx hb dX6_placeOf_35 rfl (lv_at hl 0 rfl) ?_
        refine lv_iload_n hx hb dX6_placeOf_36 rfl (lv_at hl 1 rfl) ?_
        refine lv_iload hx hb dX6_placeOf_37 (lv_at hl 4 rfl) ?_
        refine lv_lload_n hx hb dX6_placeOf_39 rfl (lv_at hl 2 rfl) ?_
        obtain ⟨r_12, σ_11, hc_10, hf⟩ := g_bnd hf
        refine q_calll (va_runS (As := [.ref (z + a0), .int a1, .int x5, .long x2]) (rest := [.long (Int32.toInt64 r_9), .long r_6]) ⟨hx, hb, hml, hown, hts⟩ (k_X6_squareAt l z n D cy Y h_a0 hc_10) (va_cwS 4 hts gX6_placeOf_X6_squareAt rfl rfl rfl (by decide +kernel) ⟨Nat.le_of_ble_eq_true rfl, Nat.le_of_ble_eq_true rfl⟩) (q_PS hK hN hW) rfl rfl hl.1 rfl (lv_room (Nat.le_of_ble_eq_true rfl)) dX6_placeOf_40 ⟨Nat.le_refl _, Nat.le_refl _⟩) hS (fun H locs hW hS => ?_)
        refine lv_iload_n hx hb dX6_placeOf_43 rfl (lv_at hl 1 rfl) ?_
        refine lv_iload hx hb dX6_placeOf_44 (lv_at hl 4 rfl) ?_
        obtain ⟨r_15, σ_14, hc_13, hf⟩ := g_bnd hf
        refine q_calli (va_runS (As := [.int a1, .int x5]) (rest := [.long r_12, .long (Int32.toInt64 r_9), .long r_6]) ⟨hx, hb, hml, hown, hts⟩ (k_X6_weight l z n D cy Y hc_13) (va_cwS 2 hts gX6_placeOf_X6_weight rfl rfl rfl (by decide +kernel) ⟨Nat.le_of_ble_eq_true rfl, Nat.le_of_ble_eq_true rfl⟩) (q_PS hK hN hW) rfl rfl hl.1 rfl (lv_room (Nat.le_of_ble_eq_true rfl)) dX6_placeOf_46 ⟨Nat.le_refl _, Nat.le_refl _⟩) hS (fun H locs hW hS => ?_)
        refine lv_i2l hx hb dX6_placeOf_49 rfl ?_
        obtain ⟨r_18, σ_17, hc_16, hf⟩ := g_bnd hf
        refine q_calli (va_runS (As := [.long r_6, .long (Int32.toInt64 r_9), .long r_12, .long (Int32.toInt64 r_15)]) (rest := []) ⟨hx, hb, hml, hown, hts⟩ (k_X1_isAtLeast l z n D cy Y hc_16) (va_cwS 4 hts gX6_placeOf_X1_isAtLeast rfl rfl rfl (by decide +kernel) ⟨Nat.le_of_ble_eq_true rfl, Nat.le_of_ble_eq_true rfl⟩) (q_PS hK hN hW) rfl rfl hl.1 rfl (lv_room (Nat.le_of_ble_eq_true rfl)) dX6_placeOf_50 ⟨Nat.le_refl _, Nat.le_refl _⟩) hS (fun H locs hW hS => ?_)
        refine lv_if_ne (tgt := 60) hx hb dX6_placeOf_53 (by decide) (fun c => ?_) (fun c => ?_)
        · have hf := g_neg c hf
          exact B60 k12 H12 x2 x4 x5 σ_17 hf _ _ _ hW hS (lv_sub hl [0, 1, 2, 3, 4] rfl)
        · have hf := g_pos c hf
          refine lv_iload hx hb dX6_placeOf_56 (lv_at hl 4 rfl) ?_
          refine lv_istore (lv' := [(4, .int x5), (0, .ref (z + a0)), (1, .int a1), (2, .long x2), (5, .int x5)]) hx hb dX6_placeOf_58 hl (by decide) rfl (fun ls hl => ?_)
          exact B60 k12 H12 x2 x5 x5 σ_17 hf _ _ _ hW hS (lv_sub hl [1, 2, 3, 0, 4] rfl)
  refine lv_aload_n hx hb dX6_placeOf_0 rfl (lv_at hl 0 rfl) ?_
  refine lv_iload_n hx hb dX6_placeOf_1 rfl (lv_at hl 1 rfl) ?_
  obtain ⟨r_3, σ_2, hc_1, hf⟩ := g_bnd hf
  refine q_calll (va_runS (As := [.ref (z + a0), .int a1]) (rest := []) ⟨hx, hb, hml, hown, hts⟩ (k_X6_sumOf l z n D cy Y h_a0 hc_1) (va_cwS 2 hts gX6_placeOf_X6_sumOf rfl rfl rfl (by decide +kernel) ⟨Nat.le_of_ble_eq_true rfl, Nat.le_of_ble_eq_true rfl⟩) (q_PS hK hN hW) rfl rfl hl.1 rfl (lv_room (Nat.le_of_ble_eq_true rfl)) dX6_placeOf_2 ⟨Nat.le_refl _, Nat.le_refl _⟩) hS (fun H locs hW hS => ?_)
  refine lv_lstore_n (lv' := [(2, .long r_3), (0, .ref (z + a0)), (1, .int a1)]) hx hb dX6_placeOf_5 rfl hl (by decide) rfl (fun ls hl => ?_)
  refine lv_iconst (v := 2) hx hb dX6_placeOf_6 (by decide) ?_
  refine lv_istore (lv' := [(4, .int 2), (2, .long r_3), (0, .ref (z + a0)), (1, .int a1)]) hx hb dX6_placeOf_7 hl (by decide) rfl (fun ls hl => ?_)
  refine lv_iconst (v := 3) hx hb dX6_placeOf_9 (by decide) ?_
  refine lv_istore (lv' := [(5, .int 3), (4, .int 2), (2, .long r_3), (0, .ref (z + a0)), (1, .int a1)]) hx hb dX6_placeOf_10 hl (by decide) rfl (fun ls hl => ?_)
  exact B12 fu r_3 2 3 σ_2 hf _ _ _ hW hS (lv_sub hl [3, 4, 2, 1, 0] rfl)
set_option maxRecDepth 100000 in
set_option maxHeartbeats 40000000 in
theorem k_X6_signed (l : Launch) (z n : Nat) (D : va_G) (cy : Nat → ClassId) (Y : Yt) {a0 : Nat} {a1 : Int32} {a2 : Int32} {σ : Mm} {r : Int32} {σ1 : Mm} (h_a0 : okk Y n 10 a0) (hf : f_X6_signed Y a0 a1 a2 σ = some (r, σ1)) : Ki l yX6_signed wsX6_signed ({ frames := 0, cells := 0, slots := 0, locals := 0 } : Room) z n D cy Y [.ref (z + a0), .int a1, .int a2] σ r σ1 := by
  refine Met.ofW (cc := cX6_signed) (maxL := 3) (ret := (some .int)) (by decide +kernel) rfl ?_
  intro p e s m args below meth c s₁ B hml hv
  obtain ⟨rfl, hW, hK, hN⟩ := hv
  have hx := B.exec
  have hb := B.bytes
  have hr := B.returns
  have hts := atoms_spec (ws := wsX6_signed) B.pre
  have hown : s.vm.findClass RX6 = some m.cls := findClass_of_methodNamed B.named
  have hlocks := B.notSynchronized
  have hS : va_S (Az z) s.heap s.heap [] := va_S.rf
  have hl := lv_entry ([.ref (z + a0), .int a1, .int a2]) (n := 3) (Nat.le_of_ble_eq_true rfl)
  rw [lg_entry_eq]
  generalize (lg_sl ([.ref (z + a0), .int a1, .int a2]) ++ List.replicate (3 - (lg_sl ([.ref (z + a0), .int a1, .int a2])).length) Slot.unset).toArray = ls at hl ⊢
  have hl : lv_has ls 3 [(0, .ref (z + a0)), (1, .int a1), (2, .int a2)] := hl
  refine lv_iload_n hx hb dX6_signed_0 rfl (lv_at hl 2 rfl) ?_
  refine lv_iload_n hx hb dX6_signed_1 rfl (lv_at hl 1 rfl) ?_
  refine lv_ishr hx hb dX6_signed_2 ?_
  refine lv_iconst (v := 1) hx hb dX6_signed_3 (by decide) ?_
  refine lv_iand hx hb dX6_signed_4 ?_
  refine lv_iconst (v := 1) hx hb dX6_signed_5 (by decide) ?_
  refine lv_icmp_ne (tgt := 16) hx hb dX6_signed_6 (by decide) (fun c => ?_) (fun c => ?_)
  · have hf := g_neg c hf
    refine lv_aload_n hx hb dX6_signed_16 rfl (lv_at hl 0 rfl) ?_
    refine lv_iload_n hx hb dX6_signed_17 rfl (lv_at hl 1 rfl) ?_
    obtain ⟨hi_1, hf⟩ := g_in hf
    refine q_iald hx hb hK hW h_a0 hi_1 dX6_signed_18 ?_
    exact q_iret hx hb hr hlocks hW hS hf dX6_signed_19
  · have hf := g_pos c hf
    refine lv_aload_n hx hb dX6_signed_9 rfl (lv_at hl 0 rfl) ?_
    refine lv_iload_n hx hb dX6_signed_10 rfl (lv_at hl 1 rfl) ?_
    obtain ⟨hi_2, hf⟩ := g_in hf
    refine q_iald hx hb hK hW h_a0 hi_2 dX6_signed_11 ?_
    refine lv_ineg hx hb dX6_signed_12 ?_
    refine lv_goto (tgt := 19) hx hb dX6_signed_13 (by decide) ?_
    exact q_iret hx hb hr hlocks hW hS hf dX6_signed_19
set_option maxRecDepth 100000 in
set_option maxHeartbeats 40000000 in
theorem k_X6_isAsGreat (l : Launch) (z n : Nat) (D : va_G) (cy : Nat → ClassId) (Y : Yt) {fu : Nat} {a0 : Nat} {a1 : Int32} {a2 : Int32} {a3 : Int64} {a5 : Int32} {σ : Mm} {r : Int32} {σ1 : Mm} (h_a0 : okk Y n 10 a0) (hf : f_X6_isAsGreat Y fu a0 a1 a2 a3 a5 σ = some (r, σ1)) : Ki l yX6_isAsGreat wsX6_isAsGreat ({ frames := 3, cells := 0, slots := 0, locals := 114 } : Room) z n D cy Y [.ref (z + a0), .int a1, .int a2, .long a3, .int a5] σ r σ1 := by
  refine Met.ofW (cc := cX6_isAsGreat) (maxL := 13) (ret := (some .boolean)) (by decide +kernel) rfl ?_
  intro p e s m args below meth c s₁ B hml hv
  obtain ⟨rfl, hW, hK, hN⟩ := hv
  have hx := B.exec
  have hb := B.bytes
  have hr := B.returns
  have hts := atoms_spec (ws := wsX6_isAsGreat) B.pre
  have hown : s.vm.findClass RX6 = some m.cls := findClass_of_methodNamed B.named
  have hlocks := B.notSynchronized
  have hS : va_S (Az z) s.heap s.heap [] := va_S.rf
  have hl := lv_entry ([.ref (z + a0), .int a1, .int a2, .long a3, .int a5]) (n := 13) (Nat.le_of_ble_eq_true rfl)
  rw [lg_entry_eq]
  generalize (lg_sl ([.ref (z + a0), .int a1, .int a2, .long a3, .int a5]) ++ List.replicate (13 - (lg_sl ([.ref (z + a0), .int a1, .int a2, .long a3, .int a5])).length) Slot.unset).toArray = ls at hl ⊢
  have hl : lv_has ls 13 [(0, .ref (z + a0)), (1, .int a1), (2, .int a2), (3, .long a3), (5, .int a5)] := hl
  have B43 : ∀ (nn : Nat) (x6 : Int64) (x8 : Int64) (x10 : Int32) (σ : Mm), b_X6_isAsGreat_43 Y fu a0 a1 a2 a3 a5 nn x6 x8 x10 σ = some (r, σ1) → ∀ (H : Heap) (locs : List Loc) (ls : Array Slot), WH z n D cy Y σ H → va_S (Az z) s.heap H locs → lv_has ls 13 [(0, .ref (z + a0)), (1, .int a1), (2, .int a2), (3, .long a3), (5, .int a5), (6, .long x6), (8, .long x8), (10, .int x10)] → W p l e ({ frames := 3, cells := 0, slots := 0, locals := 114 } : Room) s m ([.ref (z + a0), .int a1, .int a2, .long a3, .int a5] : List Value).toArray below meth c H locs 0 0 (MQ below (va_Qi (fun (x : Int32) (_ : Unit) => x = r) (fun _ t => WH z n D cy Y σ1 t.heap) (Az z)) ([.ref (z + a0), .int a1, .int a2, .long a3, .int a5] : List Value).toArray s 0 0 (Az z)) (F0 m 43 ls []) := by
    intro nn
    induction nn with
    | zero =>
      intro x6 x8 x10 σ  hf
      have h9 : (none : Option (Int32 × Mm)) = some (r, σ1) := hf
      cases h9
    | succ nn H43 =>
      intro x6 x8 x10 σ  hf H locs ls hW hS hl
      have hf : s_X6_isAsGreat_43 Y fu a0 a1 a2 a3 a5 (b_X6_isAsGreat_43 Y fu a0 a1 a2 a3 a5 nn) x6 x8 x10 σ = some (r, σ1) := hf
      generalize hkk : b_X6_isAsGreat_43 Y fu a0 a1 a2 a3 a5 nn = k43 at hf H43
      refine lv_iload hx hb dX6_isAsGreat_43 (lv_at hl 7 rfl) ?_
      refine lv_iload_n hx hb dX6_isAsGreat_45 rfl (lv_at hl 1 rfl) ?_
      refine lv_iconst (v := 2) hx hb dX6_isAsGreat_46 (by decide) ?_
      refine lv_isub hx hb dX6_isAsGreat_47 ?_
      refine lv_icmp_gt (tgt := 110) hx hb dX6_isAsGreat_48 (by decide) (fun c => ?_) (fun c => ?_)
      · have hf := g_pos c hf
        refine lv_iconst (v := 0) hx hb dX6_isAsGreat_110 (by decide) ?_
        exact q_zret hx hb hr hlocks hW hS hf dX6_isAsGreat_111
      · have hf := g_neg c hf
        refine lv_lload hx hb dX6_isAsGreat_51 (lv_at hl 6 rfl) ?_
        refine lv_aload_n hx hb dX6_isAsGreat_53 rfl (lv_at hl 0 rfl) ?_
        refine lv_iload hx hb dX6_isAsGreat_54 (lv_at hl 7 rfl) ?_
        refine lv_iconst (v := 1) hx hb dX6_isAsGreat_56 (by decide) ?_
        refine lv_isub hx hb dX6_isAsGreat_57 ?_
        refine lv_iload_n hx hb dX6_isAsGreat_58 rfl (lv_at hl 2 rfl) ?_
        obtain ⟨r_7, σ_6, hc_5, hf⟩ := g_bnd hf
        refine q_calli (va_runS (As := [.ref (z + a0), .int (x10 - 1), .int a2]) (rest := [.long x8]) ⟨hx, hb, hml, hown, hts⟩ (k_X6_signed l z n D cy Y h_a0 hc_5) (va_cwS 3 hts gX6_isAsGreat_X6_signed rfl rfl rfl (by decide +kernel) ⟨Nat.le_of_ble_eq_true rfl, Nat.le_of_ble_eq_true rfl⟩) (q_PS hK hN hW) rfl rfl hl.1 rfl (lv_room (Nat.le_of_ble_eq_true rfl)) dX6_isAsGreat_59 ⟨Nat.le_refl _, Nat.le_refl _⟩) hS (fun H locs hW hS => ?_)
        refine lv_i2l hx hb dX6_isAsGreat_62 rfl ?_
        refine lv_ladd hx hb dX6_isAsGreat_63 ?_
        refine lv_topl (fun x8_8 ex8_8 => ?_)
        have hf := g_lt ex8_8 hf
        refine lv_lstore (lv' := [(8, .long x8_8), (0, .ref (z + a0)), (1, .int a1), (2, .int a2), (3, .long a3), (5, .int a5), (6, .long x6), (10, .int x10)]) hx hb dX6_isAsGreat_64 hl (by decide) rfl (fun ls hl => ?_)
        refine lv_iload_n hx hb dX6_isAsGreat_66 rfl (lv_at hl 2 rfl) ?_
        refine lv_i2l hx hb dX6_isAsGreat_67 rfl ?_
        refine lv_lload hx hb dX6_isAsGreat_68 (lv_at hl 0 rfl) ?_
        refine lv_lmul hx hb dX6_isAsGreat_70 ?_
        refine lv_iload hx hb dX6_isAsGreat_71 (lv_at hl 7 rfl) ?_
        refine lv_i2l hx hb dX6_isAsGreat_73 rfl ?_
        refine lv_lload hx hb dX6_isAsGreat_74 (lv_at hl 6 rfl) ?_
        refine lv_lmul hx hb dX6_isAsGreat_76 ?_
        refine lv_lsub hx hb dX6_isAsGreat_77 ?_
        refine lv_topl (fun x11_9 ex11_9 => ?_)
        have hf := g_lt ex11_9 hf
        refine lv_lstore (lv' := [(11, .long x11_9), (8, .long x8_8), (0, .ref (z + a0)), (1, .int a1), (2, .int a2), (3, .long a3), (5, .int a5), (6, .long x6), (10, .int x10)]) hx hb dX6_isAsGreat_78 hl (by decide) rfl (fun ls hl => ?_)
        refine lv_lload hx hb dX6_isAsGreat_80 (lv_at hl 0 rfl) ?_
        refine lv_lload hx hb dX6_isAsGreat_82 (lv_at hl 0 rfl) ?_
        refine lv_lmul hx hb dX6_isAsGreat_84 ?_
        refine lv_iload_n hx hb dX6_isAsGreat_85 rfl (lv_at hl 3 rfl) ?_
        refine lv_iload hx hb dX6_isAsGreat_86 (lv_at hl 8 rfl) ?_
        obtain ⟨r_12, σ_11, hc_10, hf⟩ := g_bnd hf
        refine q_calli (va_runS (As := [.int a1, .int x10]) (rest := [.long (x11_9 * x11_9)]) ⟨hx, hb, hml, hown, hts⟩ (k_X6_weight l z n D cy Y hc_10) (va_cwS 2 hts gX6_isAsGreat_X6_weight rfl rfl rfl (by decide +kernel) ⟨Nat.le_of_ble_eq_true rfl, Nat.le_of_ble_eq_true rfl⟩) (q_PS hK hN hW) rfl rfl hl.1 rfl (lv_room (Nat.le_of_ble_eq_true rfl)) dX6_isAsGreat_88 ⟨Nat.le_refl _, Nat.le_refl _⟩) hS (fun H locs hW hS => ?_)
        refine lv_i2l hx hb dX6_isAsGreat_91 rfl ?_
        refine lv_lload_n hx hb dX6_isAsGreat_92 rfl (lv_at hl 5 rfl) ?_
        refine lv_iload hx hb dX6_isAsGreat_93 (lv_at hl 6 rfl) ?_
        refine lv_i2l hx hb dX6_isAsGreat_95 rfl ?_
        obtain ⟨r_15, σ_14, hc_13, hf⟩ := g_bnd hf
        refine q_calli (va_runS (As := [.long (x11_9 * x11_9), .long (Int32.toInt64 r_12), .long a3, .long (Int32.toInt64 a5)]) (rest := []) ⟨hx, hb, hml, hown, hts⟩ (k_X1_isAtLeast l z n D cy Y hc_13) (va_cwS 4 hts gX6_isAsGreat_X1_isAtLeast rfl rfl rfl (by decide +kernel) ⟨Nat.le_of_ble_eq_true rfl, Nat.le_of_ble_eq_true rfl⟩) (q_PS hK hN hW) rfl rfl hl.1 rfl (lv_room (Nat.le_of_ble_eq_true rfl)) dX6_isAsGreat_96 ⟨Nat.le_refl _, Nat.le_refl _⟩) hS (fun H locs hW hS => ?_)
        refine lv_if_eq (tgt := 104) hx hb dX6_isAsGreat_99 (by decide) (fun c => ?_) (fun c => ?_)
        · have hf := g_pos c hf
          obtain ⟨x10_16, ex10_16⟩ : ∃ y : Int32, y = x10 + 1 := ⟨_, rfl⟩
          have hf := g_lt ex10_16 hf
          refine lv_iinc (v := x10_16) (lv' := [(10, .int x10_16), (11, .long x11_9), (8, .long x8_8), (0, .ref (z + a0)), (1, .int a1), (2, .int a2), (3, .long a3), (5, .int a5), (6, .long x6)]) hx hb dX6_isAsGreat_104 hl (k := 8) rfl (by rw [ex10_16]; rfl) (by decide) rfl (fun ls hl => ?_)
          refine lv_goto (tgt := 43) hx hb dX6_isAsGreat_107 (by decide) ?_
          exact H43 x6 x8_8 x10_16 σ_14 hf _ _ _ hW hS (lv_sub hl [3, 4, 5, 6, 7, 8, 2, 0] rfl)
        · have hf := g_neg c hf
          refine lv_iconst (v := 1) hx hb dX6_isAsGreat_102 (by decide) ?_
          exact q_zret hx hb hr hlocks hW hS hf dX6_isAsGreat_103
  have B6 : ∀ (nn : Nat) (x6 : Int64) (x8 : Int32) (σ : Mm), b_X6_isAsGreat_6 Y fu a0 a1 a2 a3 a5 nn x6 x8 σ = some (r, σ1) → ∀ (H : Heap) (locs : List Loc) (ls : Array Slot), WH z n D cy Y σ H → va_S (Az z) s.heap H locs → lv_has ls 13 [(0, .ref (z + a0)), (1, .int a1), (2, .int a2), (3, .long a3), (5, .int a5), (6, .long x6), (8, .int x8)] → W p l e ({ frames := 3, cells := 0, slots := 0, locals := 114 } : Room) s m ([.ref (z + a0), .int a1, .int a2, .long a3, .int a5] : List Value).toArray below meth c H locs 0 0 (MQ below (va_Qi (fun (x : Int32) (_ : Unit) => x = r) (fun _ t => WH z n D cy Y σ1 t.heap) (Az z)) ([.ref (z + a0), .int a1, .int a2, .long a3, .int a5] : List Value).toArray s 0 0 (Az z)) (F0 m 6 ls []) := by
    intro nn
    induction nn with
    | zero =>
      intro x6 x8 σ  hf
      have h9 : (none : Option (Int32 × Mm)) = some (r, σ1) := hf
      cases h9
    | succ nn H6 =>
      intro x6 x8 σ  hf H locs ls hW hS hl
      have hf : s_X6_isAsGreat_6 Y fu a0 a1 a2 a3 a5 (b_X6_isAsGreat_6 Y fu a0 a1 a2 a3 a5 nn) x6 x8 σ = some (r, σ1) := hf
      generalize hkk : b_X6_isAsGreat_6 Y fu a0 a1 a2 a3 a5 nn = k6 at hf H6
      refine lv_iload hx hb dX6_isAsGreat_6 (lv_at hl 6 rfl) ?_
      refine lv_iload_n hx hb dX6_isAsGreat_8 rfl (lv_at hl 1 rfl) ?_
      refine lv_icmp_ge (tgt := 31) hx hb dX6_isAsGreat_9 (by decide) (fun c => ?_) (fun c => ?_)
      · have hf := g_pos c hf
        refine lv_aload_n hx hb dX6_isAsGreat_31 rfl (lv_at hl 0 rfl) ?_
        refine lv_iconst (v := 0) hx hb dX6_isAsGreat_32 (by decide) ?_
        refine lv_iload_n hx hb dX6_isAsGreat_33 rfl (lv_at hl 2 rfl) ?_
        obtain ⟨r_3, σ_2, hc_1, hf⟩ := g_bnd hf
        refine q_calli (va_runS (As := [.ref (z + a0), .int 0, .int a2]) (rest := []) ⟨hx, hb, hml, hown, hts⟩ (k_X6_signed l z n D cy Y h_a0 hc_1) (va_cwS 3 hts gX6_isAsGreat_X6_signed rfl rfl rfl (by decide +kernel) ⟨Nat.le_of_ble_eq_true rfl, Nat.le_of_ble_eq_true rfl⟩) (q_PS hK hN hW) rfl rfl hl.1 rfl (lv_room (Nat.le_of_ble_eq_true rfl)) dX6_isAsGreat_34 ⟨Nat.le_refl _, Nat.le_refl _⟩) hS (fun H locs hW hS => ?_)
        refine lv_i2l hx hb dX6_isAsGreat_37 rfl ?_
        refine lv_topl (fun x8_4 ex8_4 => ?_)
        have hf := g_lt ex8_4 hf
        refine lv_lstore (lv' := [(8, .long x8_4), (0, .ref (z + a0)), (1, .int a1), (2, .int a2), (3, .long a3), (5, .int a5), (6, .long x6)]) hx hb dX6_isAsGreat_38 hl (by decide) rfl (fun ls hl => ?_)
        refine lv_iconst (v := 2) hx hb dX6_isAsGreat_40 (by decide) ?_
        refine lv_istore (lv' := [(10, .int 2), (8, .long x8_4), (0, .ref (z + a0)), (1, .int a1), (2, .int a2), (3, .long a3), (5, .int a5), (6, .long x6)]) hx hb dX6_isAsGreat_41 hl (by decide) rfl (fun ls hl => ?_)
        exact B43 fu x6 x8_4 2 σ_2 hf _ _ _ hW hS (lv_sub hl [2, 3, 4, 5, 6, 7, 1, 0] rfl)
      · have hf := g_neg c hf
        refine lv_lload hx hb dX6_isAsGreat_12 (lv_at hl 5 rfl) ?_
        refine lv_aload_n hx hb dX6_isAsGreat_14 rfl (lv_at hl 0 rfl) ?_
        refine lv_iload hx hb dX6_isAsGreat_15 (lv_at hl 6 rfl) ?_
        refine lv_iload_n hx hb dX6_isAsGreat_17 rfl (lv_at hl 2 rfl) ?_
        obtain ⟨r_19, σ_18, hc_17, hf⟩ := g_bnd hf
        refine q_calli (va_runS (As := [.ref (z + a0), .int x8, .int a2]) (rest := [.long x6]) ⟨hx, hb, hml, hown, hts⟩ (k_X6_signed l z n D cy Y h_a0 hc_17) (va_cwS 3 hts gX6_isAsGreat_X6_signed rfl rfl rfl (by decide +kernel) ⟨Nat.le_of_ble_eq_true rfl, Nat.le_of_ble_eq_true rfl⟩) (q_PS hK hN hW) rfl rfl hl.1 rfl (lv_room (Nat.le_of_ble_eq_true rfl)) dX6_isAsGreat_18 ⟨Nat.le_refl _, Nat.le_refl _⟩) hS (fun H locs hW hS => ?_)
        refine lv_i2l hx hb dX6_isAsGreat_21 rfl ?_
        refine lv_ladd hx hb dX6_isAsGreat_22 ?_
        refine lv_topl (fun x6_20 ex6_20 => ?_)
        have hf := g_lt ex6_20 hf
        refine lv_lstore (lv' := [(6, .long x6_20), (0, .ref (z + a0)), (1, .int a1), (2, .int a2), (3, .long a3), (5, .int a5), (8, .int x8)]) hx hb dX6_isAsGreat_23 hl (by decide) rfl (fun ls hl => ?_)
        obtain ⟨x8_21, ex8_21⟩ : ∃ y : Int32, y = x8 + 1 := ⟨_, rfl⟩
        have hf := g_lt ex8_21 hf
        refine lv_iinc (v := x8_21) (lv' := [(8, .int x8_21), (6, .long x6_20), (0, .ref (z + a0)), (1, .int a1), (2, .int a2), (3, .long a3), (5, .int a5)]) hx hb dX6_isAsGreat_25 hl (k := 6) rfl (by rw [ex8_21]; rfl) (by decide) rfl (fun ls hl => ?_)
        refine lv_goto (tgt := 6) hx hb dX6_isAsGreat_28 (by decide) ?_
        exact H6 x6_20 x8_21 σ_18 hf _ _ _ hW hS (lv_sub hl [2, 3, 4, 5, 6, 1, 0] rfl)
  refine lv_lconst (v := 0) hx hb dX6_isAsGreat_0 (by decide) ?_
  refine lv_lstore (lv' := [(6, .long 0), (0, .ref (z + a0)), (1, .int a1), (2, .int a2), (3, .long a3), (5, .int a5)]) hx hb dX6_isAsGreat_1 hl (by decide) rfl (fun ls hl => ?_)
  refine lv_iconst (v := 0) hx hb dX6_isAsGreat_3 (by decide) ?_
  refine lv_istore (lv' := [(8, .int 0), (6, .long 0), (0, .ref (z + a0)), (1, .int a1), (2, .int a2), (3, .long a3), (5, .int a5)]) hx hb dX6_isAsGreat_4 hl (by decide) rfl (fun ls hl => ?_)
  exact B6 fu 0 0 σ hf _ _ _ hW hS (lv_sub hl [2, 3, 4, 5, 6, 1, 0] rfl)
set_option maxRecDepth 100000 in
set_option maxHeartbeats 40000000 in
theorem k_X6_asGreatRows (l : Launch) (z n : Nat) (D : va_G) (cy : Nat → ClassId) (Y : Yt) {fu : Nat} {a0 : Nat} {a1 : Int32} {σ : Mm} {r : Int32} {σ1 : Mm} (h_a0 : okk Y n 10 a0) (hf : f_X6_asGreatRows Y fu a0 a1 σ = some (r, σ1)) : Ki l yX6_asGreatRows wsX6_asGreatRows ({ frames := 4, cells := 0, slots := 0, locals := 146 } : Room) z n D cy Y [.ref (z + a0), .int a1] σ r σ1 := by
  refine Met.ofW (cc := cX6_asGreatRows) (maxL := 7) (ret := (some .int)) (by decide +kernel) rfl ?_
  intro p e s m args below meth c s₁ B hml hv
  obtain ⟨rfl, hW, hK, hN⟩ := hv
  have hx := B.exec
  have hb := B.bytes
  have hr := B.returns
  have hts := atoms_spec (ws := wsX6_asGreatRows) B.pre
  have hown : s.vm.findClass RX6 = some m.cls := findClass_of_methodNamed B.named
  have hlocks := B.notSynchronized
  have hS : va_S (Az z) s.heap s.heap [] := va_S.rf
  have hl := lv_entry ([.ref (z + a0), .int a1]) (n := 7) (Nat.le_of_ble_eq_true rfl)
  rw [lg_entry_eq]
  generalize (lg_sl ([.ref (z + a0), .int a1]) ++ List.replicate (7 - (lg_sl ([.ref (z + a0), .int a1])).length) Slot.unset).toArray = ls at hl ⊢
  have hl : lv_has ls 7 [(0, .ref (z + a0)), (1, .int a1)] := hl
  have B53 : ∀ (k24 : Int32 → Int64 → Int32 → Int32 → Mm → Option (Int32 × Mm)) (H24 : ∀ (x2 : Int32) (x3 : Int64) (x5 : Int32) (x6 : Int32) (σ : Mm), k24 x2 x3 x5 x6 σ = some (r, σ1) → ∀ (H : Heap) (locs : List Loc) (ls : Array Slot), WH z n D cy Y σ H → va_S (Az z) s.heap H locs → lv_has ls 7 [(0, .ref (z + a0)), (1, .int a1), (2, .int x2), (3, .long x3), (5, .int x5), (6, .int x6)] → W p l e ({ frames := 4, cells := 0, slots := 0, locals := 146 } : Room) s m ([.ref (z + a0), .int a1] : List Value).toArray below meth c H locs 0 0 (MQ below (va_Qi (fun (x : Int32) (_ : Unit) => x = r) (fun _ t => WH z n D cy Y σ1 t.heap) (Az z)) ([.ref (z + a0), .int a1] : List Value).toArray s 0 0 (Az z)) (F0 m 24 ls [])) (x2 : Int32) (x3 : Int64) (x5 : Int32) (x6 : Int32) (σ : Mm), b_X6_asGreatRows_53 Y fu a0 a1 k24 x2 x3 x5 x6 σ = some (r, σ1) → ∀ (H : Heap) (locs : List Loc) (ls : Array Slot), WH z n D cy Y σ H → va_S (Az z) s.heap H locs → lv_has ls 7 [(0, .ref (z + a0)), (1, .int a1), (2, .int x2), (3, .long x3), (5, .int x5), (6, .int x6)] → W p l e ({ frames := 4, cells := 0, slots := 0, locals := 146 } : Room) s m ([.ref (z + a0), .int a1] : List Value).toArray below meth c H locs 0 0 (MQ below (va_Qi (fun (x : Int32) (_ : Unit) => x = r) (fun _ t => WH z n D cy Y σ1 t.heap) (Az z)) ([.ref (z + a0), .int a1] : List Value).toArray s 0 0 (Az z)) (F0 m 53 ls []) := by
    intro k24 H24 x2 x3 x5 x6 σ  hf H locs ls hW hS hl
    obtain ⟨x6_16, ex6_16⟩ : ∃ y : Int32, y = x6 + 1 := ⟨_, rfl⟩
    have hf := g_lt ex6_16 hf
    refine lv_iinc (v := x6_16) (lv' := [(6, .int x6_16), (0, .ref (z + a0)), (1, .int a1), (2, .int x2), (3, .long x3), (5, .int x5)]) hx hb dX6_asGreatRows_53 hl (k := 5) rfl (by rw [ex6_16]; rfl) (by decide) rfl (fun ls hl => ?_)
    refine lv_goto (tgt := 24) hx hb dX6_asGreatRows_56 (by decide) ?_
    exact H24 x2 x3 x5 x6_16 σ hf _ _ _ hW hS (lv_sub hl [1, 2, 3, 4, 5, 0] rfl)
  have B24 : ∀ (nn : Nat) (x2 : Int32) (x3 : Int64) (x5 : Int32) (x6 : Int32) (σ : Mm), b_X6_asGreatRows_24 Y fu a0 a1 nn x2 x3 x5 x6 σ = some (r, σ1) → ∀ (H : Heap) (locs : List Loc) (ls : Array Slot), WH z n D cy Y σ H → va_S (Az z) s.heap H locs → lv_has ls 7 [(0, .ref (z + a0)), (1, .int a1), (2, .int x2), (3, .long x3), (5, .int x5), (6, .int x6)] → W p l e ({ frames := 4, cells := 0, slots := 0, locals := 146 } : Room) s m ([.ref (z + a0), .int a1] : List Value).toArray below meth c H locs 0 0 (MQ below (va_Qi (fun (x : Int32) (_ : Unit) => x = r) (fun _ t => WH z n D cy Y σ1 t.heap) (Az z)) ([.ref (z + a0), .int a1] : List Value).toArray s 0 0 (Az z)) (F0 m 24 ls []) := by
    intro nn
    induction nn with
    | zero =>
      intro x2 x3 x5 x6 σ  hf
      have h9 : (none : Option (Int32 × Mm)) = some (r, σ1) := hf
      cases h9
    | succ nn H24 =>
      intro x2 x3 x5 x6 σ  hf H locs ls hW hS hl
      have hf : s_X6_asGreatRows_24 Y fu a0 a1 (b_X6_asGreatRows_24 Y fu a0 a1 nn) x2 x3 x5 x6 σ = some (r, σ1) := hf
      generalize hkk : b_X6_asGreatRows_24 Y fu a0 a1 nn = k24 at hf H24
      refine lv_iload hx hb dX6_asGreatRows_24 (lv_at hl 5 rfl) ?_
      refine lv_iconst (v := 1) hx hb dX6_asGreatRows_26 (by decide) ?_
      refine lv_iload_n hx hb dX6_asGreatRows_27 rfl (lv_at hl 1 rfl) ?_
      refine lv_iconst (v := 1) hx hb dX6_asGreatRows_28 (by decide) ?_
      refine lv_isub hx hb dX6_asGreatRows_29 ?_
      refine lv_ishl hx hb dX6_asGreatRows_30 ?_
      refine lv_icmp_ge (tgt := 59) hx hb dX6_asGreatRows_31 (by decide) (fun c => ?_) (fun c => ?_)
      · have hf := g_pos c hf
        refine lv_iload hx hb dX6_asGreatRows_59 (lv_at hl 4 rfl) ?_
        exact q_iret hx hb hr hlocks hW hS hf dX6_asGreatRows_61
      · have hf := g_neg c hf
        refine lv_aload_n hx hb dX6_asGreatRows_34 rfl (lv_at hl 0 rfl) ?_
        refine lv_iload_n hx hb dX6_asGreatRows_35 rfl (lv_at hl 1 rfl) ?_
        refine lv_iload hx hb dX6_asGreatRows_36 (lv_at hl 5 rfl) ?_
        refine lv_lload_n hx hb dX6_asGreatRows_38 rfl (lv_at hl 3 rfl) ?_
        refine lv_iload_n hx hb dX6_asGreatRows_39 rfl (lv_at hl 1 rfl) ?_
        refine lv_iload_n hx hb dX6_asGreatRows_40 rfl (lv_at hl 2 rfl) ?_
        obtain ⟨r_12, σ_11, hc_10, hf⟩ := g_bnd hf
        refine q_calli (va_runS (As := [.int a1, .int x2]) (rest := [.long x3, .int x6, .int a1, .ref (z + a0)]) ⟨hx, hb, hml, hown, hts⟩ (k_X6_weight l z n D cy Y hc_10) (va_cwS 2 hts gX6_asGreatRows_X6_weight rfl rfl rfl (by decide +kernel) ⟨Nat.le_of_ble_eq_true rfl, Nat.le_of_ble_eq_true rfl⟩) (q_PS hK hN hW) rfl rfl hl.1 rfl (lv_room (Nat.le_of_ble_eq_true rfl)) dX6_asGreatRows_41 ⟨Nat.le_refl _, Nat.le_refl _⟩) hS (fun H locs hW hS => ?_)
        obtain ⟨r_15, σ_14, hc_13, hf⟩ := g_bnd hf
        refine q_calli (va_runS (As := [.ref (z + a0), .int a1, .int x6, .long x3, .int r_12]) (rest := []) ⟨hx, hb, hml, hown, hts⟩ (k_X6_isAsGreat l z n D cy Y h_a0 hc_13) (va_cwS 5 hts gX6_asGreatRows_X6_isAsGreat rfl rfl rfl (by decide +kernel) ⟨Nat.le_of_ble_eq_true rfl, Nat.le_of_ble_eq_true rfl⟩) (q_PS hK hN hW) rfl rfl hl.1 rfl (lv_room (Nat.le_of_ble_eq_true rfl)) dX6_asGreatRows_44 ⟨Nat.le_refl _, Nat.le_refl _⟩) hS (fun H locs hW hS => ?_)
        refine lv_if_eq (tgt := 53) hx hb dX6_asGreatRows_47 (by decide) (fun c => ?_) (fun c => ?_)
        · have hf := g_pos c hf
          exact B53 k24 H24 x2 x3 x5 x6 σ_14 hf _ _ _ hW hS (lv_sub hl [0, 1, 2, 3, 4, 5] rfl)
        · have hf := g_neg c hf
          obtain ⟨x5_17, ex5_17⟩ : ∃ y : Int32, y = x5 + 2 := ⟨_, rfl⟩
          have hf := g_lt ex5_17 hf
          refine lv_iinc (v := x5_17) (lv' := [(5, .int x5_17), (0, .ref (z + a0)), (1, .int a1), (2, .int x2), (3, .long x3), (6, .int x6)]) hx hb dX6_asGreatRows_50 hl (k := 4) rfl (by rw [ex5_17]; rfl) (by decide) rfl (fun ls hl => ?_)
          exact B53 k24 H24 x2 x3 x5_17 x6 σ_14 hf _ _ _ hW hS (lv_sub hl [1, 2, 3, 4, 0, 5] rfl)
  refine lv_aload_n hx hb dX6_asGreatRows_0 rfl (lv_at hl 0 rfl) ?_
  refine lv_iload_n hx hb dX6_asGreatRows_1 rfl (lv_at hl 1 rfl) ?_
  obtain ⟨r_3, σ_2, hc_1, hf⟩ := g_bnd hf
  refine q_calli (va_runS (As := [.ref (z + a0), .int a1]) (rest := []) ⟨hx, hb, hml, hown, hts⟩ (k_X6_placeOf l z n D cy Y h_a0 hc_1) (va_cwS 2 hts gX6_asGreatRows_X6_placeOf rfl rfl rfl (by decide +kernel) ⟨Nat.le_of_ble_eq_true rfl, Nat.le_of_ble_eq_true rfl⟩) (q_PS hK hN hW) rfl rfl hl.1 rfl (lv_room (Nat.le_of_ble_eq_true rfl)) dX6_asGreatRows_2 ⟨Nat.le_refl _, Nat.le_refl _⟩) hS (fun H locs hW hS => ?_)
  refine lv_istore_n (lv' := [(2, .int r_3), (0, .ref (z + a0)), (1, .int a1)]) hx hb dX6_asGreatRows_5 rfl hl (by decide) rfl (fun ls hl => ?_)
  refine lv_aload_n hx hb dX6_asGreatRows_6 rfl (lv_at hl 1 rfl) ?_
  refine lv_iload_n hx hb dX6_asGreatRows_7 rfl (lv_at hl 2 rfl) ?_
  refine lv_iload_n hx hb dX6_asGreatRows_8 rfl (lv_at hl 0 rfl) ?_
  refine lv_aload_n hx hb dX6_asGreatRows_9 rfl (lv_at hl 1 rfl) ?_
  refine lv_iload_n hx hb dX6_asGreatRows_10 rfl (lv_at hl 2 rfl) ?_
  obtain ⟨r_6, σ_5, hc_4, hf⟩ := g_bnd hf
  refine q_calll (va_runS (As := [.ref (z + a0), .int a1]) (rest := [.int r_3, .int a1, .ref (z + a0)]) ⟨hx, hb, hml, hown, hts⟩ (k_X6_sumOf l z n D cy Y h_a0 hc_4) (va_cwS 2 hts gX6_asGreatRows_X6_sumOf rfl rfl rfl (by decide +kernel) ⟨Nat.le_of_ble_eq_true rfl, Nat.le_of_ble_eq_true rfl⟩) (q_PS hK hN hW) rfl rfl hl.1 rfl (lv_room (Nat.le_of_ble_eq_true rfl)) dX6_asGreatRows_11 ⟨Nat.le_refl _, Nat.le_refl _⟩) hS (fun H locs hW hS => ?_)
  obtain ⟨r_9, σ_8, hc_7, hf⟩ := g_bnd hf
  refine q_calll (va_runS (As := [.ref (z + a0), .int a1, .int r_3, .long r_6]) (rest := []) ⟨hx, hb, hml, hown, hts⟩ (k_X6_squareAt l z n D cy Y h_a0 hc_7) (va_cwS 4 hts gX6_asGreatRows_X6_squareAt rfl rfl rfl (by decide +kernel) ⟨Nat.le_of_ble_eq_true rfl, Nat.le_of_ble_eq_true rfl⟩) (q_PS hK hN hW) rfl rfl hl.1 rfl (lv_room (Nat.le_of_ble_eq_true rfl)) dX6_asGreatRows_14 ⟨Nat.le_refl _, Nat.le_refl _⟩) hS (fun H locs hW hS => ?_)
  refine lv_lstore_n (lv' := [(3, .long r_9), (2, .int r_3), (0, .ref (z + a0)), (1, .int a1)]) hx hb dX6_asGreatRows_17 rfl hl (by decide) rfl (fun ls hl => ?_)
  refine lv_iconst (v := 0) hx hb dX6_asGreatRows_18 (by decide) ?_
  refine lv_istore (lv' := [(5, .int 0), (3, .long r_9), (2, .int r_3), (0, .ref (z + a0)), (1, .int a1)]) hx hb dX6_asGreatRows_19 hl (by decide) rfl (fun ls hl => ?_)
  refine lv_iconst (v := 0) hx hb dX6_asGreatRows_21 (by decide) ?_
  refine lv_istore (lv' := [(6, .int 0), (5, .int 0), (3, .long r_9), (2, .int r_3), (0, .ref (z + a0)), (1, .int a1)]) hx hb dX6_asGreatRows_22 hl (by decide) rfl (fun ls hl => ?_)
  exact B24 fu r_3 r_9 0 0 σ_8 hf _ _ _ hW hS (lv_sub hl [4, 5, 3, 2, 1, 0] rfl)
set_option maxRecDepth 100000 in
set_option maxHeartbeats 40000000 in
theorem k_X7_isFull (l : Launch) (z n : Nat) (D : va_G) (cy : Nat → ClassId) (Y : Yt) {this : Nat} {σ : Mm} {r : Int32} {σ1 : Mm} (h_this : okk Y n 4 this) (hf : f_X7_isFull Y this σ = some (r, σ1)) : Ki l yX7_isFull wsX7_isFull ({ frames := 0, cells := 0, slots := 0, locals := 0 } : Room) z n D cy Y [.ref (z + this)] σ r σ1 := by
  refine Met.ofW (cc := cX7_isFull) (maxL := 1) (ret := (some .boolean)) (by decide +kernel) rfl ?_
  intro p e s m args below meth c s₁ B hml hv
  obtain ⟨rfl, hW, hK, hN⟩ := hv
  have hx := B.exec
  have hb := B.bytes
  have hr := B.returns
  have hts := atoms_spec (ws := wsX7_isFull) B.pre
  have hown : s.vm.findClass RX7 = some m.cls := findClass_of_methodNamed B.named
  have hlocks := B.notSynchronized
  have hS : va_S (Az z) s.heap s.heap [] := va_S.rf
  have hin7 : ∀ w ∈ wsX70, w ∈ wsX7_isFull := fun w h => List.mem_cons_of_mem _ (List.mem_append_right _ h)
  have hw0 := hts (.fieldLink RX7 18 "SkyClocks$Star" "told" "I") (List.mem_of_getElem? (i := 1) rfl)
  have hl := lv_entry ([.ref (z + this)]) (n := 1) (Nat.le_of_ble_eq_true rfl)
  rw [lg_entry_eq]
  generalize (lg_sl ([.ref (z + this)]) ++ List.replicate (1 - (lg_sl ([.ref (z + this)])).length) Slot.unset).toArray = ls at hl ⊢
  have hl : lv_has ls 1 [(0, .ref (z + this))] := hl
  refine lv_aload_n hx hb dX7_isFull_0 rfl (lv_at hl 0 rfl) ?_
  refine q_geti (own := RX7) (ref := RX7) (C := RX7) (T := TX7) (N := 4) (kc := 4) (ci := 0) hx hb hts hin7 hown hK hW h_this (by decide) rfl 2 (by decide) hw0 rfl rfl dX7_isFull_1 ?_
  refine lv_bipush (v := 24) hx hb dX7_isFull_4 (by decide) ?_
  refine lv_icmp_lt (tgt := 13) hx hb dX7_isFull_6 (by decide) (fun c => ?_) (fun c => ?_)
  · have hf := g_pos c hf
    refine lv_iconst (v := 0) hx hb dX7_isFull_13 (by decide) ?_
    exact q_zret hx hb hr hlocks hW hS hf dX7_isFull_14
  · have hf := g_neg c hf
    refine lv_iconst (v := 1) hx hb dX7_isFull_9 (by decide) ?_
    refine lv_goto (tgt := 14) hx hb dX7_isFull_10 (by decide) ?_
    exact q_zret hx hb hr hlocks hW hS hf dX7_isFull_14
set_option maxRecDepth 100000 in
set_option maxHeartbeats 40000000 in
theorem k_X7_placeBehind (l : Launch) (z n : Nat) (D : va_G) (cy : Nat → ClassId) (Y : Yt) {fu : Nat} {this : Nat} {a1 : Int32} {σ : Mm} {r : Int32} {σ1 : Mm} (h_this : okk Y n 4 this) (hf : f_X7_placeBehind Y fu this a1 σ = some (r, σ1)) : Ki l yX7_placeBehind wsX7_placeBehind ({ frames := 0, cells := 0, slots := 0, locals := 0 } : Room) z n D cy Y [.ref (z + this), .int a1] σ r σ1 := by
  refine Met.ofW (cc := cX7_placeBehind) (maxL := 3) (ret := (some .int)) (by decide +kernel) rfl ?_
  intro p e s m args below meth c s₁ B hml hv
  obtain ⟨rfl, hW, hK, hN⟩ := hv
  have hx := B.exec
  have hb := B.bytes
  have hr := B.returns
  have hts := atoms_spec (ws := wsX7_placeBehind) B.pre
  have hown : s.vm.findClass RX7 = some m.cls := findClass_of_methodNamed B.named
  have hlocks := B.notSynchronized
  have hS : va_S (Az z) s.heap s.heap [] := va_S.rf
  have hin7 : ∀ w ∈ wsX70, w ∈ wsX7_placeBehind := fun w h => List.mem_cons_of_mem _ (List.mem_append_right _ h)
  have hw0 := hts (.fieldLink RX7 18 "SkyClocks$Star" "told" "I") (List.mem_of_getElem? (i := 1) rfl)
  have hw1 := hts (.fieldLink RX7 11 "SkyClocks$Star" "values" "[I") (List.mem_of_getElem? (i := 2) rfl)
  have hl := lv_entry ([.ref (z + this), .int a1]) (n := 3) (Nat.le_of_ble_eq_true rfl)
  rw [lg_entry_eq]
  generalize (lg_sl ([.ref (z + this), .int a1]) ++ List.replicate (3 - (lg_sl ([.ref (z + this), .int a1])).length) Slot.unset).toArray = ls at hl ⊢
  have hl : lv_has ls 3 [(0, .ref (z + this)), (1, .int a1)] := hl
  have B5 : ∀ (nn : Nat) (x2 : Int32) (σ : Mm), b_X7_placeBehind_5 Y fu this a1 nn x2 σ = some (r, σ1) → ∀ (H : Heap) (locs : List Loc) (ls : Array Slot), WH z n D cy Y σ H → va_S (Az z) s.heap H locs → lv_has ls 3 [(0, .ref (z + this)), (1, .int a1), (2, .int x2)] → W p l e ({ frames := 0, cells := 0, slots := 0, locals := 0 } : Room) s m ([.ref (z + this), .int a1] : List Value).toArray below meth c H locs 0 0 (MQ below (va_Qi (fun (x : Int32) (_ : Unit) => x = r) (fun _ t => WH z n D cy Y σ1 t.heap) (Az z)) ([.ref (z + this), .int a1] : List Value).toArray s 0 0 (Az z)) (F0 m 5 ls []) := by
    intro nn
    induction nn with
    | zero =>
      intro x2 σ  hf
      have h9 : (none : Option (Int32 × Mm)) = some (r, σ1) := hf
      cases h9
    | succ nn H5 =>
      intro x2 σ  hf H locs ls hW hS hl
      have hf : s_X7_placeBehind_5 Y fu this a1 (b_X7_placeBehind_5 Y fu this a1 nn) x2 σ = some (r, σ1) := hf
      generalize hkk : b_X7_placeBehind_5 Y fu this a1 nn = k5 at hf H5
      refine lv_iload_n hx hb dX7_placeBehind_5 rfl (lv_at hl 2 rfl) ?_
      refine lv_if_le (tgt := 31) hx hb dX7_placeBehind_6 (by decide) (fun c => ?_) (fun c => ?_)
      · have hf := g_pos c hf
        refine lv_iload_n hx hb dX7_placeBehind_31 rfl (lv_at hl 2 rfl) ?_
        exact q_iret hx hb hr hlocks hW hS hf dX7_placeBehind_32
      · have hf := g_neg c hf
        refine lv_aload_n hx hb dX7_placeBehind_9 rfl (lv_at hl 0 rfl) ?_
        refine q_getp (own := RX7) (ref := RX7) (C := RX7) (T := TX7) (N := 4) (kc := 4) (ci := 0) hx hb hts hin7 hown hK hW h_this (by decide) rfl 0 (by decide) hw1 rfl rfl rfl (v := (this + 1)) rfl dX7_placeBehind_10 (fun hk_2 hq_3 => ?_)
        refine lv_iload_n hx hb dX7_placeBehind_13 rfl (lv_at hl 2 rfl) ?_
        refine lv_iconst (v := 1) hx hb dX7_placeBehind_14 (by decide) ?_
        refine lv_isub hx hb dX7_placeBehind_15 ?_
        refine lv_iconst (v := 4) hx hb dX7_placeBehind_16 (by decide) ?_
        refine lv_imul hx hb dX7_placeBehind_17 ?_
        refine lv_iconst (v := 0) hx hb dX7_placeBehind_18 (by decide) ?_
        refine lv_iadd hx hb dX7_placeBehind_19 ?_
        obtain ⟨hi_4, hf⟩ := g_in hf
        refine q_iald hx hb hK hW hk_2 (inb_of hq_3 hi_4) dX7_placeBehind_20 ?_
        refine lv_iload_n hx hb dX7_placeBehind_21 rfl (lv_at hl 1 rfl) ?_
        refine lv_icmp_le (tgt := 31) hx hb dX7_placeBehind_22 (by decide) (fun c => ?_) (fun c => ?_)
        · have hf := g_pos c hf
          refine lv_iload_n hx hb dX7_placeBehind_31 rfl (lv_at hl 2 rfl) ?_
          exact q_iret hx hb hr hlocks hW hS hf dX7_placeBehind_32
        · have hf := g_neg c hf
          obtain ⟨x2_5, ex2_5⟩ : ∃ y : Int32, y = x2 + (-1) := ⟨_, rfl⟩
          have hf := g_lt ex2_5 hf
          refine lv_iinc (v := x2_5) (lv' := [(2, .int x2_5), (0, .ref (z + this)), (1, .int a1)]) hx hb dX7_placeBehind_25 hl (k := 2) rfl (by rw [ex2_5]; rfl) (by decide) rfl (fun ls hl => ?_)
          refine lv_goto (tgt := 5) hx hb dX7_placeBehind_28 (by decide) ?_
          exact H5 x2_5 σ hf _ _ _ hW hS (lv_sub hl [1, 2, 0] rfl)
  refine lv_aload_n hx hb dX7_placeBehind_0 rfl (lv_at hl 0 rfl) ?_
  refine q_geti (own := RX7) (ref := RX7) (C := RX7) (T := TX7) (N := 4) (kc := 4) (ci := 0) hx hb hts hin7 hown hK hW h_this (by decide) rfl 2 (by decide) hw0 rfl rfl dX7_placeBehind_1 ?_
  refine lv_topi (fun x2_1 ex2_1 => ?_)
  have hf := g_lt ex2_1 hf
  refine lv_istore_n (lv' := [(2, .int x2_1), (0, .ref (z + this)), (1, .int a1)]) hx hb dX7_placeBehind_4 rfl hl (by decide) rfl (fun ls hl => ?_)
  exact B5 fu x2_1 σ hf _ _ _ hW hS (lv_sub hl [1, 2, 0] rfl)
set_option maxRecDepth 100000 in
set_option maxHeartbeats 40000000 in
theorem k_X7_see (l : Launch) (z n : Nat) (D : va_G) (cy : Nat → ClassId) (Y : Yt) {fu : Nat} {this : Nat} {a1 : Int32} {σ : Mm} {σ1 : Mm} (h_this : okk Y n 4 this) (hf : f_X7_see Y fu this a1 σ = some σ1) : Kv l yX7_see wsX7_see ({ frames := 0, cells := 0, slots := 0, locals := 0 } : Room) z n D cy Y [.ref (z + this), .int a1] σ σ1 := by
  refine Met.ofW (cc := cX7_see) (maxL := 3) (ret := none) (by decide +kernel) rfl ?_
  intro p e s m args below meth c s₁ B hml hv
  obtain ⟨rfl, hW, hK, hN⟩ := hv
  have hx := B.exec
  have hb := B.bytes
  have hr := B.returns
  have hts := atoms_spec (ws := wsX7_see) B.pre
  have hown : s.vm.findClass RX7 = some m.cls := findClass_of_methodNamed B.named
  have hlocks := B.notSynchronized
  have hS : va_S (Az z) s.heap s.heap [] := va_S.rf
  have hin7 : ∀ w ∈ wsX70, w ∈ wsX7_see := fun w h => List.mem_cons_of_mem _ (List.mem_append_right _ h)
  have hw0 := hts (.fieldLink RX7 36 "SkyClocks$Star" "seen" "I") (List.mem_of_getElem? (i := 1) rfl)
  have hw1 := hts (.fieldLink RX7 18 "SkyClocks$Star" "told" "I") (List.mem_of_getElem? (i := 2) rfl)
  have hw2 := hts (.fieldLink RX7 11 "SkyClocks$Star" "values" "[I") (List.mem_of_getElem? (i := 3) rfl)
  have hw3 := hts (.fieldLink RX7 15 "SkyClocks$Star" "places" "[I") (List.mem_of_getElem? (i := 4) rfl)
  have hl := lv_entry ([.ref (z + this), .int a1]) (n := 3) (Nat.le_of_ble_eq_true rfl)
  rw [lg_entry_eq]
  generalize (lg_sl ([.ref (z + this), .int a1]) ++ List.replicate (3 - (lg_sl ([.ref (z + this), .int a1])).length) Slot.unset).toArray = ls at hl ⊢
  have hl : lv_has ls 3 [(0, .ref (z + this)), (1, .int a1)] := hl
  have B49 : ∀ (k7 : Int32 → Mm → Option (Mm)) (H7 : ∀ (x2 : Int32) (σ : Mm), k7 x2 σ = some σ1 → ∀ (H : Heap) (locs : List Loc) (ls : Array Slot), WH z n D cy Y σ H → va_S (Az z) s.heap H locs → lv_has ls 3 [(0, .ref (z + this)), (1, .int a1), (2, .int x2)] → W p l e ({ frames := 0, cells := 0, slots := 0, locals := 0 } : Room) s m ([.ref (z + this), .int a1] : List Value).toArray below meth c H locs 0 0 (MQ below (va_Qv (fun (_ : Unit) => True) (fun _ t => WH z n D cy Y σ1 t.heap) (Az z)) ([.ref (z + this), .int a1] : List Value).toArray s 0 0 (Az z)) (F0 m 7 ls [])) (x2 : Int32) (σ : Mm), b_X7_see_49 Y fu this a1 k7 x2 σ = some σ1 → ∀ (H : Heap) (locs : List Loc) (ls : Array Slot), WH z n D cy Y σ H → va_S (Az z) s.heap H locs → lv_has ls 3 [(0, .ref (z + this)), (1, .int a1), (2, .int x2)] → W p l e ({ frames := 0, cells := 0, slots := 0, locals := 0 } : Room) s m ([.ref (z + this), .int a1] : List Value).toArray below meth c H locs 0 0 (MQ below (va_Qv (fun (_ : Unit) => True) (fun _ t => WH z n D cy Y σ1 t.heap) (Az z)) ([.ref (z + this), .int a1] : List Value).toArray s 0 0 (Az z)) (F0 m 49 ls []) := by
    intro k7 H7 x2 σ  hf H locs ls hW hS hl
    obtain ⟨x2_5, ex2_5⟩ : ∃ y : Int32, y = x2 + 1 := ⟨_, rfl⟩
    have hf := g_lt ex2_5 hf
    refine lv_iinc (v := x2_5) (lv' := [(2, .int x2_5), (0, .ref (z + this)), (1, .int a1)]) hx hb dX7_see_49 hl (k := 2) rfl (by rw [ex2_5]; rfl) (by decide) rfl (fun ls hl => ?_)
    refine lv_goto (tgt := 7) hx hb dX7_see_52 (by decide) ?_
    exact H7 x2_5 σ hf _ _ _ hW hS (lv_sub hl [1, 2, 0] rfl)
  have B7 : ∀ (nn : Nat) (x2 : Int32) (σ : Mm), b_X7_see_7 Y fu this a1 nn x2 σ = some σ1 → ∀ (H : Heap) (locs : List Loc) (ls : Array Slot), WH z n D cy Y σ H → va_S (Az z) s.heap H locs → lv_has ls 3 [(0, .ref (z + this)), (1, .int a1), (2, .int x2)] → W p l e ({ frames := 0, cells := 0, slots := 0, locals := 0 } : Room) s m ([.ref (z + this), .int a1] : List Value).toArray below meth c H locs 0 0 (MQ below (va_Qv (fun (_ : Unit) => True) (fun _ t => WH z n D cy Y σ1 t.heap) (Az z)) ([.ref (z + this), .int a1] : List Value).toArray s 0 0 (Az z)) (F0 m 7 ls []) := by
    intro nn
    induction nn with
    | zero =>
      intro x2 σ  hf
      have h9 : (none : Option (Mm)) = some σ1 := hf
      cases h9
    | succ nn H7 =>
      intro x2 σ  hf H locs ls hW hS hl
      have hf : s_X7_see_7 Y fu this a1 (b_X7_see_7 Y fu this a1 nn) x2 σ = some σ1 := hf
      generalize hkk : b_X7_see_7 Y fu this a1 nn = k7 at hf H7
      refine lv_iload_n hx hb dX7_see_7 rfl (lv_at hl 2 rfl) ?_
      refine lv_aload_n hx hb dX7_see_8 rfl (lv_at hl 0 rfl) ?_
      refine q_geti (own := RX7) (ref := RX7) (C := RX7) (T := TX7) (N := 4) (kc := 4) (ci := 0) hx hb hts hin7 hown hK hW h_this (by decide) rfl 2 (by decide) hw1 rfl rfl dX7_see_9 ?_
      refine lv_icmp_ge (tgt := 55) hx hb dX7_see_12 (by decide) (fun c => ?_) (fun c => ?_)
      · have hf := g_pos c hf
        exact q_vret hx hb hr hlocks hW hS hf dX7_see_55
      · have hf := g_neg c hf
        refine lv_aload_n hx hb dX7_see_15 rfl (lv_at hl 0 rfl) ?_
        refine q_getp (own := RX7) (ref := RX7) (C := RX7) (T := TX7) (N := 4) (kc := 4) (ci := 0) hx hb hts hin7 hown hK hW h_this (by decide) rfl 0 (by decide) hw2 rfl rfl rfl (v := (this + 1)) rfl dX7_see_16 (fun hk_2 hq_3 => ?_)
        refine lv_iload_n hx hb dX7_see_19 rfl (lv_at hl 2 rfl) ?_
        refine lv_iconst (v := 4) hx hb dX7_see_20 (by decide) ?_
        refine lv_imul hx hb dX7_see_21 ?_
        refine lv_iconst (v := 3) hx hb dX7_see_22 (by decide) ?_
        refine lv_iadd hx hb dX7_see_23 ?_
        obtain ⟨hi_4, hf⟩ := g_in hf
        refine q_iald hx hb hK hW hk_2 (inb_of hq_3 hi_4) dX7_see_24 ?_
        refine lv_iload_n hx hb dX7_see_25 rfl (lv_at hl 1 rfl) ?_
        refine lv_icmp_gt (tgt := 49) hx hb dX7_see_26 (by decide) (fun c => ?_) (fun c => ?_)
        · have hf := g_pos c hf
          exact B49 k7 H7 x2 σ hf _ _ _ hW hS (lv_sub hl [0, 1, 2] rfl)
        · have hf := g_neg c hf
          refine lv_aload_n hx hb dX7_see_29 rfl (lv_at hl 0 rfl) ?_
          refine q_getp (own := RX7) (ref := RX7) (C := RX7) (T := TX7) (N := 4) (kc := 4) (ci := 0) hx hb hts hin7 hown hK hW h_this (by decide) rfl 1 (by decide) hw3 rfl rfl rfl (v := (this + 2)) rfl dX7_see_30 (fun hk_6 hq_7 => ?_)
          refine lv_aload_n hx hb dX7_see_33 rfl (lv_at hl 0 rfl) ?_
          refine q_geti (own := RX7) (ref := RX7) (C := RX7) (T := TX7) (N := 4) (kc := 4) (ci := 0) hx hb hts hin7 hown hK hW h_this (by decide) rfl 3 (by decide) hw0 rfl rfl dX7_see_34 ?_
          refine lv_iload_n hx hb dX7_see_37 rfl (lv_at hl 2 rfl) ?_
          obtain ⟨hi_8, hf⟩ := g_in hf
          refine q_iast hx hb hK hW hS hk_6 (inb_of hq_7 hi_8) dX7_see_38 (fun H locs hW hS => ?_)
          obtain ⟨σ_9, eσ_9⟩ : ∃ y : Mm, y = (Mm.si σ (this + 2) (ix (Mm.gi σ this 3)) x2) := ⟨_, rfl⟩
          rw [← eσ_9] at hW
          have hf := g_lt eσ_9 hf
          refine lv_aload_n hx hb dX7_see_39 rfl (lv_at hl 0 rfl) ?_
          refine lv_dup hx hb dX7_see_40 rfl ?_
          refine q_geti (own := RX7) (ref := RX7) (C := RX7) (T := TX7) (N := 4) (kc := 4) (ci := 0) hx hb hts hin7 hown hK hW h_this (by decide) rfl 3 (by decide) hw0 rfl rfl dX7_see_41 ?_
          refine lv_iconst (v := 1) hx hb dX7_see_44 (by decide) ?_
          refine lv_iadd hx hb dX7_see_45 ?_
          refine q_puti (own := RX7) (ref := RX7) (C := RX7) (T := TX7) (N := 4) (kc := 4) (ci := 0) hx hb hts hin7 tyX7_ok nmX7 hown hK hW hS h_this (by decide) rfl 3 (by decide) hw0 rfl rfl (ty := .int) (tyX7_ok 3 (by decide)) rfl rfl rfl dX7_see_46 (fun H locs hW hS => ?_)
          obtain ⟨σ_10, eσ_10⟩ : ∃ y : Mm, y = (Mm.si σ_9 this 3 ((Mm.gi σ_9 this 3) + 1)) := ⟨_, rfl⟩
          rw [← eσ_10] at hW
          have hf := g_lt eσ_10 hf
          exact B49 k7 H7 x2 σ_10 hf _ _ _ hW hS (lv_sub hl [0, 1, 2] rfl)
  refine lv_aload_n hx hb dX7_see_0 rfl (lv_at hl 0 rfl) ?_
  refine lv_iconst (v := 0) hx hb dX7_see_1 (by decide) ?_
  refine q_puti (own := RX7) (ref := RX7) (C := RX7) (T := TX7) (N := 4) (kc := 4) (ci := 0) hx hb hts hin7 tyX7_ok nmX7 hown hK hW hS h_this (by decide) rfl 3 (by decide) hw0 rfl rfl (ty := .int) (tyX7_ok 3 (by decide)) rfl rfl rfl dX7_see_2 (fun H locs hW hS => ?_)
  obtain ⟨σ_1, eσ_1⟩ : ∃ y : Mm, y = (Mm.si σ this 3 0) := ⟨_, rfl⟩
  rw [← eσ_1] at hW
  have hf := g_lt eσ_1 hf
  refine lv_iconst (v := 0) hx hb dX7_see_5 (by decide) ?_
  refine lv_istore_n (lv' := [(2, .int 0), (0, .ref (z + this)), (1, .int a1)]) hx hb dX7_see_6 rfl hl (by decide) rfl (fun ls hl => ?_)
  exact B7 fu 0 σ_1 hf _ _ _ hW hS (lv_sub hl [1, 2, 0] rfl)
set_option maxRecDepth 100000 in
set_option maxHeartbeats 40000000 in
theorem k_X7_put (l : Launch) (z n : Nat) (D : va_G) (cy : Nat → ClassId) (Y : Yt) {fu : Nat} {this : Nat} {a1 : Int32} {a2 : Int32} {a3 : Int32} {a4 : Int32} {a5 : Int32} {σ : Mm} {r : Int32} {σ1 : Mm} (h_this : okk Y n 4 this) (hf : f_X7_put Y fu this a1 a2 a3 a4 a5 σ = some (r, σ1)) : Ki l yX7_put wsX7_put ({ frames := 1, cells := 0, slots := 0, locals := 60 } : Room) z n D cy Y [.ref (z + this), .int a1, .int a2, .int a3, .int a4, .int a5] σ r σ1 := by
  refine Met.ofW (cc := cX7_put) (maxL := 7) (ret := (some .int)) (by decide +kernel) rfl ?_
  intro p e s m args below meth c s₁ B hml hv
  obtain ⟨rfl, hW, hK, hN⟩ := hv
  have hx := B.exec
  have hb := B.bytes
  have hr := B.returns
  have hts := atoms_spec (ws := wsX7_put) B.pre
  have hown : s.vm.findClass RX7 = some m.cls := findClass_of_methodNamed B.named
  have hlocks := B.notSynchronized
  have hS : va_S (Az z) s.heap s.heap [] := va_S.rf
  have hin7 : ∀ w ∈ wsX70, w ∈ wsX7_put := fun w h => List.mem_cons_of_mem _ (List.mem_append_right _ h)
  have hw0 := hts (.fieldLink RX7 11 "SkyClocks$Star" "values" "[I") (List.mem_of_getElem? (i := 1) rfl)
  have hw1 := hts (.fieldLink RX7 18 "SkyClocks$Star" "told" "I") (List.mem_of_getElem? (i := 2) rfl)
  have hw2 := hts (.methodLink RX7 26 arraycopyName) (List.mem_of_getElem? (i := 3) rfl)
  have hw3 := hts (.native arraycopyName) (List.mem_of_getElem? (i := 4) rfl)
  have hw4 := hts (.static arraycopyName) (List.mem_of_getElem? (i := 5) rfl)
  have hw5 := hts (.initialized "java/lang/System") (List.mem_of_getElem? (i := 6) rfl)
  have hl := lv_entry ([.ref (z + this), .int a1, .int a2, .int a3, .int a4, .int a5]) (n := 7) (Nat.le_of_ble_eq_true rfl)
  rw [lg_entry_eq]
  generalize (lg_sl ([.ref (z + this), .int a1, .int a2, .int a3, .int a4, .int a5]) ++ List.replicate (7 - (lg_sl ([.ref (z + this), .int a1, .int a2, .int a3, .int a4, .int a5])).length) Slot.unset).toArray = ls at hl ⊢
  have hl : lv_has ls 7 [(0, .ref (z + this)), (1, .int a1), (2, .int a2), (3, .int a3), (4, .int a4), (5, .int a5)] := hl
  refine lv_aload_n hx hb dX7_put_0 rfl (lv_at hl 0 rfl) ?_
  refine lv_iload_n hx hb dX7_put_1 rfl (lv_at hl 1 rfl) ?_
  obtain ⟨r_3, σ_2, hc_1, hf⟩ := g_bnd hf
  refine q_calli (va_runV (As := [.int a1]) (rest := []) ⟨hx, hb, hml, hown, hts⟩ (k_X7_placeBehind l z n D cy Y h_this hc_1) (cwV 1 hts gX7_put_X7_placeBehind rfl rfl rfl (by decide +kernel) ⟨Nat.le_of_ble_eq_true rfl, Nat.le_of_ble_eq_true rfl⟩) (q_PV (T := TX7) (N := 4) hK hN hW h_this (by decide) rfl) rfl rfl hl.1 rfl (lv_room (Nat.le_of_ble_eq_true rfl)) dX7_put_2 ⟨Nat.le_refl _, Nat.le_refl _⟩) hS (fun H locs hW hS => ?_)
  refine lv_iconst (v := 4) hx hb dX7_put_5 (by decide) ?_
  refine lv_imul hx hb dX7_put_6 ?_
  refine lv_topi (fun x6_4 ex6_4 => ?_)
  have hf := g_lt ex6_4 hf
  refine lv_istore (lv' := [(6, .int x6_4), (0, .ref (z + this)), (1, .int a1), (2, .int a2), (3, .int a3), (4, .int a4), (5, .int a5)]) hx hb dX7_put_7 hl (by decide) rfl (fun ls hl => ?_)
  refine lv_aload_n hx hb dX7_put_9 rfl (lv_at hl 1 rfl) ?_
  refine q_getp (own := RX7) (ref := RX7) (C := RX7) (T := TX7) (N := 4) (kc := 4) (ci := 0) hx hb hts hin7 hown hK hW h_this (by decide) rfl 0 (by decide) hw0 rfl rfl rfl (v := (this + 1)) rfl dX7_put_10 (fun hk_5 hq_6 => ?_)
  refine lv_iload hx hb dX7_put_13 (lv_at hl 0 rfl) ?_
  refine lv_aload_n hx hb dX7_put_15 rfl (lv_at hl 1 rfl) ?_
  refine q_getp (own := RX7) (ref := RX7) (C := RX7) (T := TX7) (N := 4) (kc := 4) (ci := 0) hx hb hts hin7 hown hK hW h_this (by decide) rfl 0 (by decide) hw0 rfl rfl rfl (v := (this + 1)) rfl dX7_put_16 (fun hk_7 hq_8 => ?_)
  refine lv_iload hx hb dX7_put_19 (lv_at hl 0 rfl) ?_
  refine lv_iconst (v := 4) hx hb dX7_put_21 (by decide) ?_
  refine lv_iadd hx hb dX7_put_22 ?_
  refine lv_aload_n hx hb dX7_put_23 rfl (lv_at hl 1 rfl) ?_
  refine q_geti (own := RX7) (ref := RX7) (C := RX7) (T := TX7) (N := 4) (kc := 4) (ci := 0) hx hb hts hin7 hown hK hW h_this (by decide) rfl 2 (by decide) hw1 rfl rfl dX7_put_24 ?_
  refine lv_iconst (v := 4) hx hb dX7_put_27 (by decide) ?_
  refine lv_imul hx hb dX7_put_28 ?_
  refine lv_iload hx hb dX7_put_29 (lv_at hl 0 rfl) ?_
  refine lv_isub hx hb dX7_put_31 ?_
  obtain ⟨⟨hc_9, hc_10, hc_11, hc_12, hc_13⟩, hf⟩ := g_if hf
  refine q_copy hx hb (by rw [hml]; exact hl.1.symm) hown hw2 hw3 hw4 hw5 hK hW hS hk_5 hk_7 hc_9 hc_10 hc_11 (le_of hq_6 hc_12) (le_of hq_8 hc_13) (Nat.le_of_ble_eq_true rfl) (Nat.le_of_ble_eq_true rfl) dX7_put_32 (fun H locs hW hS => ?_)
  obtain ⟨σ_14, eσ_14⟩ : ∃ y : Mm, y = (Mm.cp σ_2 (this + 1) (ix x6_4) (this + 1) (ix (x6_4 + 4)) (ix (((Mm.gi σ_2 this 2) * 4) - x6_4))) := ⟨_, rfl⟩
  rw [← eσ_14] at hW
  have hf := g_lt eσ_14 hf
  refine lv_aload_n hx hb dX7_put_35 rfl (lv_at hl 1 rfl) ?_
  refine q_getp (own := RX7) (ref := RX7) (C := RX7) (T := TX7) (N := 4) (kc := 4) (ci := 0) hx hb hts hin7 hown hK hW h_this (by decide) rfl 0 (by decide) hw0 rfl rfl rfl (v := (this + 1)) rfl dX7_put_36 (fun hk_15 hq_16 => ?_)
  refine lv_iload hx hb dX7_put_39 (lv_at hl 0 rfl) ?_
  refine lv_iconst (v := 0) hx hb dX7_put_41 (by decide) ?_
  refine lv_iadd hx hb dX7_put_42 ?_
  refine lv_iload_n hx hb dX7_put_43 rfl (lv_at hl 2 rfl) ?_
  obtain ⟨hi_17, hf⟩ := g_in hf
  refine q_iast hx hb hK hW hS hk_15 (inb_of hq_16 hi_17) dX7_put_44 (fun H locs hW hS => ?_)
  obtain ⟨σ_18, eσ_18⟩ : ∃ y : Mm, y = (Mm.si σ_14 (this + 1) (ix (x6_4 + 0)) a1) := ⟨_, rfl⟩
  rw [← eσ_18] at hW
  have hf := g_lt eσ_18 hf
  refine lv_aload_n hx hb dX7_put_45 rfl (lv_at hl 1 rfl) ?_
  refine q_getp (own := RX7) (ref := RX7) (C := RX7) (T := TX7) (N := 4) (kc := 4) (ci := 0) hx hb hts hin7 hown hK hW h_this (by decide) rfl 0 (by decide) hw0 rfl rfl rfl (v := (this + 1)) rfl dX7_put_46 (fun hk_19 hq_20 => ?_)
  refine lv_iload hx hb dX7_put_49 (lv_at hl 0 rfl) ?_
  refine lv_iconst (v := 1) hx hb dX7_put_51 (by decide) ?_
  refine lv_iadd hx hb dX7_put_52 ?_
  refine lv_iload_n hx hb dX7_put_53 rfl (lv_at hl 3 rfl) ?_
  obtain ⟨hi_21, hf⟩ := g_in hf
  refine q_iast hx hb hK hW hS hk_19 (inb_of hq_20 hi_21) dX7_put_54 (fun H locs hW hS => ?_)
  obtain ⟨σ_22, eσ_22⟩ : ∃ y : Mm, y = (Mm.si σ_18 (this + 1) (ix (x6_4 + 1)) a2) := ⟨_, rfl⟩
  rw [← eσ_22] at hW
  have hf := g_lt eσ_22 hf
  refine lv_aload_n hx hb dX7_put_55 rfl (lv_at hl 1 rfl) ?_
  refine q_getp (own := RX7) (ref := RX7) (C := RX7) (T := TX7) (N := 4) (kc := 4) (ci := 0) hx hb hts hin7 hown hK hW h_this (by decide) rfl 0 (by decide) hw0 rfl rfl rfl (v := (this + 1)) rfl dX7_put_56 (fun hk_23 hq_24 => ?_)
  refine lv_iload hx hb dX7_put_59 (lv_at hl 0 rfl) ?_
  refine lv_iconst (v := 2) hx hb dX7_put_61 (by decide) ?_
  refine lv_iadd hx hb dX7_put_62 ?_
  refine lv_iload_n hx hb dX7_put_63 rfl (lv_at hl 4 rfl) ?_
  obtain ⟨hi_25, hf⟩ := g_in hf
  refine q_iast hx hb hK hW hS hk_23 (inb_of hq_24 hi_25) dX7_put_64 (fun H locs hW hS => ?_)
  obtain ⟨σ_26, eσ_26⟩ : ∃ y : Mm, y = (Mm.si σ_22 (this + 1) (ix (x6_4 + 2)) a3) := ⟨_, rfl⟩
  rw [← eσ_26] at hW
  have hf := g_lt eσ_26 hf
  refine lv_aload_n hx hb dX7_put_65 rfl (lv_at hl 1 rfl) ?_
  refine q_getp (own := RX7) (ref := RX7) (C := RX7) (T := TX7) (N := 4) (kc := 4) (ci := 0) hx hb hts hin7 hown hK hW h_this (by decide) rfl 0 (by decide) hw0 rfl rfl rfl (v := (this + 1)) rfl dX7_put_66 (fun hk_27 hq_28 => ?_)
  refine lv_iload hx hb dX7_put_69 (lv_at hl 0 rfl) ?_
  refine lv_iconst (v := 3) hx hb dX7_put_71 (by decide) ?_
  refine lv_iadd hx hb dX7_put_72 ?_
  refine lv_iload hx hb dX7_put_73 (lv_at hl 5 rfl) ?_
  obtain ⟨hi_29, hf⟩ := g_in hf
  refine q_iast hx hb hK hW hS hk_27 (inb_of hq_28 hi_29) dX7_put_75 (fun H locs hW hS => ?_)
  obtain ⟨σ_30, eσ_30⟩ : ∃ y : Mm, y = (Mm.si σ_26 (this + 1) (ix (x6_4 + 3)) a4) := ⟨_, rfl⟩
  rw [← eσ_30] at hW
  have hf := g_lt eσ_30 hf
  refine lv_aload_n hx hb dX7_put_76 rfl (lv_at hl 1 rfl) ?_
  refine lv_dup hx hb dX7_put_77 rfl ?_
  refine q_geti (own := RX7) (ref := RX7) (C := RX7) (T := TX7) (N := 4) (kc := 4) (ci := 0) hx hb hts hin7 hown hK hW h_this (by decide) rfl 2 (by decide) hw1 rfl rfl dX7_put_78 ?_
  refine lv_iconst (v := 1) hx hb dX7_put_81 (by decide) ?_
  refine lv_iadd hx hb dX7_put_82 ?_
  refine q_puti (own := RX7) (ref := RX7) (C := RX7) (T := TX7) (N := 4) (kc := 4) (ci := 0) hx hb hts hin7 tyX7_ok nmX7 hown hK hW hS h_this (by decide) rfl 2 (by decide) hw1 rfl rfl (ty := .int) (tyX7_ok 2 (by decide)) rfl rfl rfl dX7_put_83 (fun H locs hW hS => ?_)
  obtain ⟨σ_31, eσ_31⟩ : ∃ y : Mm, y = (Mm.si σ_30 this 2 ((Mm.gi σ_30 this 2) + 1)) := ⟨_, rfl⟩
  rw [← eσ_31] at hW
  have hf := g_lt eσ_31 hf
  refine lv_aload_n hx hb dX7_put_86 rfl (lv_at hl 1 rfl) ?_
  refine lv_iload hx hb dX7_put_87 (lv_at hl 6 rfl) ?_
  obtain ⟨σ_33, hc_32, hf⟩ := g_bn1 hf
  refine q_callv (va_runV (As := [.int a5]) (rest := []) ⟨hx, hb, hml, hown, hts⟩ (k_X7_see l z n D cy Y h_this hc_32) (cwV 1 hts gX7_put_X7_see rfl rfl rfl (by decide +kernel) ⟨Nat.le_of_ble_eq_true rfl, Nat.le_of_ble_eq_true rfl⟩) (q_PV (T := TX7) (N := 4) hK hN hW h_this (by decide) rfl) rfl rfl hl.1 rfl (lv_room (Nat.le_of_ble_eq_true rfl)) dX7_put_89 ⟨Nat.le_refl _, Nat.le_refl _⟩) hS (fun H locs hW hS => ?_)
  refine lv_aload_n hx hb dX7_put_92 rfl (lv_at hl 1 rfl) ?_
  refine q_geti (own := RX7) (ref := RX7) (C := RX7) (T := TX7) (N := 4) (kc := 4) (ci := 0) hx hb hts hin7 hown hK hW h_this (by decide) rfl 2 (by decide) hw1 rfl rfl dX7_put_93 ?_
  exact q_iret hx hb hr hlocks hW hS hf dX7_put_96
set_option maxRecDepth 100000 in
set_option maxHeartbeats 40000000 in
theorem k_X7_dropAll (l : Launch) (z n : Nat) (D : va_G) (cy : Nat → ClassId) (Y : Yt) {this : Nat} {σ : Mm} {r : Int32} {σ1 : Mm} (h_this : okk Y n 4 this) (hf : f_X7_dropAll Y this σ = some (r, σ1)) : Ki l yX7_dropAll wsX7_dropAll ({ frames := 0, cells := 0, slots := 0, locals := 0 } : Room) z n D cy Y [.ref (z + this)] σ r σ1 := by
  refine Met.ofW (cc := cX7_dropAll) (maxL := 2) (ret := (some .int)) (by decide +kernel) rfl ?_
  intro p e s m args below meth c s₁ B hml hv
  obtain ⟨rfl, hW, hK, hN⟩ := hv
  have hx := B.exec
  have hb := B.bytes
  have hr := B.returns
  have hts := atoms_spec (ws := wsX7_dropAll) B.pre
  have hown : s.vm.findClass RX7 = some m.cls := findClass_of_methodNamed B.named
  have hlocks := B.notSynchronized
  have hS : va_S (Az z) s.heap s.heap [] := va_S.rf
  have hin7 : ∀ w ∈ wsX70, w ∈ wsX7_dropAll := fun w h => List.mem_cons_of_mem _ (List.mem_append_right _ h)
  have hw0 := hts (.fieldLink RX7 18 "SkyClocks$Star" "told" "I") (List.mem_of_getElem? (i := 1) rfl)
  have hw1 := hts (.fieldLink RX7 36 "SkyClocks$Star" "seen" "I") (List.mem_of_getElem? (i := 2) rfl)
  have hl := lv_entry ([.ref (z + this)]) (n := 2) (Nat.le_of_ble_eq_true rfl)
  rw [lg_entry_eq]
  generalize (lg_sl ([.ref (z + this)]) ++ List.replicate (2 - (lg_sl ([.ref (z + this)])).length) Slot.unset).toArray = ls at hl ⊢
  have hl : lv_has ls 2 [(0, .ref (z + this))] := hl
  refine lv_aload_n hx hb dX7_dropAll_0 rfl (lv_at hl 0 rfl) ?_
  refine q_geti (own := RX7) (ref := RX7) (C := RX7) (T := TX7) (N := 4) (kc := 4) (ci := 0) hx hb hts hin7 hown hK hW h_this (by decide) rfl 2 (by decide) hw0 rfl rfl dX7_dropAll_1 ?_
  refine lv_topi (fun x1_1 ex1_1 => ?_)
  have hf := g_lt ex1_1 hf
  refine lv_istore_n (lv' := [(1, .int x1_1), (0, .ref (z + this))]) hx hb dX7_dropAll_4 rfl hl (by decide) rfl (fun ls hl => ?_)
  refine lv_aload_n hx hb dX7_dropAll_5 rfl (lv_at hl 1 rfl) ?_
  refine lv_iconst (v := 0) hx hb dX7_dropAll_6 (by decide) ?_
  refine q_puti (own := RX7) (ref := RX7) (C := RX7) (T := TX7) (N := 4) (kc := 4) (ci := 0) hx hb hts hin7 tyX7_ok nmX7 hown hK hW hS h_this (by decide) rfl 2 (by decide) hw0 rfl rfl (ty := .int) (tyX7_ok 2 (by decide)) rfl rfl rfl dX7_dropAll_7 (fun H locs hW hS => ?_)
  obtain ⟨σ_2, eσ_2⟩ : ∃ y : Mm, y = (Mm.si σ this 2 0) := ⟨_, rfl⟩
  rw [← eσ_2] at hW
  have hf := g_lt eσ_2 hf
  refine lv_aload_n hx hb dX7_dropAll_10 rfl (lv_at hl 1 rfl) ?_
  refine lv_iconst (v := 0) hx hb dX7_dropAll_11 (by decide) ?_
  refine q_puti (own := RX7) (ref := RX7) (C := RX7) (T := TX7) (N := 4) (kc := 4) (ci := 0) hx hb hts hin7 tyX7_ok nmX7 hown hK hW hS h_this (by decide) rfl 3 (by decide) hw1 rfl rfl (ty := .int) (tyX7_ok 3 (by decide)) rfl rfl rfl dX7_dropAll_12 (fun H locs hW hS => ?_)
  obtain ⟨σ_3, eσ_3⟩ : ∃ y : Mm, y = (Mm.si σ_2 this 3 0) := ⟨_, rfl⟩
  rw [← eσ_3] at hW
  have hf := g_lt eσ_3 hf
  refine lv_iload_n hx hb dX7_dropAll_15 rfl (lv_at hl 0 rfl) ?_
  exact q_iret hx hb hr hlocks hW hS hf dX7_dropAll_16
set_option maxRecDepth 100000 in
set_option maxHeartbeats 40000000 in
theorem k_X7_value (l : Launch) (z n : Nat) (D : va_G) (cy : Nat → ClassId) (Y : Yt) {this : Nat} {a1 : Int32} {a2 : Int32} {σ : Mm} {r : Int32} {σ1 : Mm} (h_this : okk Y n 4 this) (hf : f_X7_value Y this a1 a2 σ = some (r, σ1)) : Ki l yX7_value wsX7_value ({ frames := 0, cells := 0, slots := 0, locals := 0 } : Room) z n D cy Y [.ref (z + this), .int a1, .int a2] σ r σ1 := by
  refine Met.ofW (cc := cX7_value) (maxL := 3) (ret := (some .int)) (by decide +kernel) rfl ?_
  intro p e s m args below meth c s₁ B hml hv
  obtain ⟨rfl, hW, hK, hN⟩ := hv
  have hx := B.exec
  have hb := B.bytes
  have hr := B.returns
  have hts := atoms_spec (ws := wsX7_value) B.pre
  have hown : s.vm.findClass RX7 = some m.cls := findClass_of_methodNamed B.named
  have hlocks := B.notSynchronized
  have hS : va_S (Az z) s.heap s.heap [] := va_S.rf
  have hin7 : ∀ w ∈ wsX70, w ∈ wsX7_value := fun w h => List.mem_cons_of_mem _ (List.mem_append_right _ h)
  have hw0 := hts (.fieldLink RX7 11 "SkyClocks$Star" "values" "[I") (List.mem_of_getElem? (i := 1) rfl)
  have hw1 := hts (.fieldLink RX7 15 "SkyClocks$Star" "places" "[I") (List.mem_of_getElem? (i := 2) rfl)
  have hl := lv_entry ([.ref (z + this), .int a1, .int a2]) (n := 3) (Nat.le_of_ble_eq_true rfl)
  rw [lg_entry_eq]
  generalize (lg_sl ([.ref (z + this), .int a1, .int a2]) ++ List.replicate (3 - (lg_sl ([.ref (z + this), .int a1, .int a2])).length) Slot.unset).toArray = ls at hl ⊢
  have hl : lv_has ls 3 [(0, .ref (z + this)), (1, .int a1), (2, .int a2)] := hl
  refine lv_aload_n hx hb dX7_value_0 rfl (lv_at hl 0 rfl) ?_
  refine q_getp (own := RX7) (ref := RX7) (C := RX7) (T := TX7) (N := 4) (kc := 4) (ci := 0) hx hb hts hin7 hown hK hW h_this (by decide) rfl 0 (by decide) hw0 rfl rfl rfl (v := (this + 1)) rfl dX7_value_1 (fun hk_1 hq_2 => ?_)
  refine lv_aload_n hx hb dX7_value_4 rfl (lv_at hl 0 rfl) ?_
  refine q_getp (own := RX7) (ref := RX7) (C := RX7) (T := TX7) (N := 4) (kc := 4) (ci := 0) hx hb hts hin7 hown hK hW h_this (by decide) rfl 1 (by decide) hw1 rfl rfl rfl (v := (this + 2)) rfl dX7_value_5 (fun hk_3 hq_4 => ?_)
  refine lv_iload_n hx hb dX7_value_8 rfl (lv_at hl 1 rfl) ?_
  obtain ⟨hi_5, hf⟩ := g_in hf
  refine q_iald hx hb hK hW hk_3 (inb_of hq_4 hi_5) dX7_value_9 ?_
  refine lv_iconst (v := 4) hx hb dX7_value_10 (by decide) ?_
  refine lv_imul hx hb dX7_value_11 ?_
  refine lv_iload_n hx hb dX7_value_12 rfl (lv_at hl 2 rfl) ?_
  refine lv_iadd hx hb dX7_value_13 ?_
  obtain ⟨hi_6, hf⟩ := g_in hf
  refine q_iald hx hb hK hW hk_1 (inb_of hq_2 hi_6) dX7_value_14 ?_
  exact q_iret hx hb hr hlocks hW hS hf dX7_value_15
set_option maxRecDepth 100000 in
set_option maxHeartbeats 40000000 in
theorem k_X8_correct (l : Launch) (z n : Nat) (D : va_G) (cy : Nat → ClassId) (Y : Yt) {this : Nat} {a1 : Int32} {a2 : Int32} {a3 : Int32} {σ : Mm} {r : Int32} {σ1 : Mm} (h_this : okk Y n 5 this) (hf : f_X8_correct Y this a1 a2 a3 σ = some (r, σ1)) : Ki l yX8_correct wsX8_correct ({ frames := 0, cells := 0, slots := 0, locals := 0 } : Room) z n D cy Y [.ref (z + this), .int a1, .int a2, .int a3] σ r σ1 := by
  refine Met.ofW (cc := cX8_correct) (maxL := 4) (ret := (some .int)) (by decide +kernel) rfl ?_
  intro p e s m args below meth c s₁ B hml hv
  obtain ⟨rfl, hW, hK, hN⟩ := hv
  have hx := B.exec
  have hb := B.bytes
  have hr := B.returns
  have hts := atoms_spec (ws := wsX8_correct) B.pre
  have hown : s.vm.findClass RX8 = some m.cls := findClass_of_methodNamed B.named
  have hlocks := B.notSynchronized
  have hS : va_S (Az z) s.heap s.heap [] := va_S.rf
  have hin8 : ∀ w ∈ wsX80, w ∈ wsX8_correct := fun w h => List.mem_cons_of_mem _ (List.mem_append_right _ h)
  have hw0 := hts (.fieldLink RX8 9 "SkyClocks$Tables" "offsets" "[I") (List.mem_of_getElem? (i := 1) rfl)
  have hw1 := hts (.fieldLink RX8 17 "SkyClocks$Tables" "shifts" "[[I") (List.mem_of_getElem? (i := 2) rfl)
  have hw2 := hts (.constant RX8 25 (100000)) (List.mem_of_getElem? (i := 3) rfl)
  have hl := lv_entry ([.ref (z + this), .int a1, .int a2, .int a3]) (n := 4) (Nat.le_of_ble_eq_true rfl)
  rw [lg_entry_eq]
  generalize (lg_sl ([.ref (z + this), .int a1, .int a2, .int a3]) ++ List.replicate (4 - (lg_sl ([.ref (z + this), .int a1, .int a2, .int a3])).length) Slot.unset).toArray = ls at hl ⊢
  have hl : lv_has ls 4 [(0, .ref (z + this)), (1, .int a1), (2, .int a2), (3, .int a3)] := hl
  refine lv_iload_n hx hb dX8_correct_0 rfl (lv_at hl 1 rfl) ?_
  refine lv_aload_n hx hb dX8_correct_1 rfl (lv_at hl 0 rfl) ?_
  refine q_getp (own := RX8) (ref := RX8) (C := RX8) (T := TX8) (N := 4) (kc := 5) (ci := 0) hx hb hts hin8 hown hK hW h_this (by decide) rfl 0 (by decide) hw0 rfl rfl rfl (v := 3) rfl dX8_correct_2 (fun hk_1 hq_2 => ?_)
  refine lv_iload_n hx hb dX8_correct_5 rfl (lv_at hl 2 rfl) ?_
  obtain ⟨hi_3, hf⟩ := g_in hf
  refine q_iald hx hb hK hW hk_1 (inb_of hq_2 hi_3) dX8_correct_6 ?_
  refine lv_isub hx hb dX8_correct_7 ?_
  refine lv_aload_n hx hb dX8_correct_8 rfl (lv_at hl 0 rfl) ?_
  refine q_getp (own := RX8) (ref := RX8) (C := RX8) (T := TX8) (N := 4) (kc := 5) (ci := 0) hx hb hts hin8 hown hK hW h_this (by decide) rfl 1 (by decide) hw1 rfl rfl rfl (v := 4) rfl dX8_correct_9 (fun hk_4 hq_5 => ?_)
  refine lv_iload_n hx hb dX8_correct_12 rfl (lv_at hl 3 rfl) ?_
  obtain ⟨hi_6, hf⟩ := g_in hf
  refine q_aalp (kc := 16) (t := 10) hx hb hK hW hk_4 rfl (inb_of hq_5 hi_6) rfl dX8_correct_13 (fun hk_7 hq_8 => ?_)
  refine lv_iload_n hx hb dX8_correct_14 rfl (lv_at hl 1 rfl) ?_
  refine lv_ldc hx hb hown hw2 dX8_correct_15 ?_
  refine lv_idiv hx hb dX8_correct_17 (by decide) ?_
  obtain ⟨hi_9, hf⟩ := g_in hf
  refine q_iald hx hb hK hW hk_7 (inb_of hq_8 hi_9) dX8_correct_18 ?_
  refine lv_iadd hx hb dX8_correct_19 ?_
  exact q_iret hx hb hr hlocks hW hS hf dX8_correct_20
set_option maxRecDepth 100000 in
set_option maxHeartbeats 40000000 in
theorem k_X9_hasRoom (l : Launch) (z n : Nat) (D : va_G) (cy : Nat → ClassId) (Y : Yt) {this : Nat} {a1 : Int32} {σ : Mm} {r : Int32} {σ1 : Mm} (h_this : okk Y n 6 this) (hf : f_X9_hasRoom Y this a1 σ = some (r, σ1)) : Ki l yX9_hasRoom wsX9_hasRoom ({ frames := 0, cells := 0, slots := 0, locals := 0 } : Room) z n D cy Y [.ref (z + this), .int a1] σ r σ1 := by
  refine Met.ofW (cc := cX9_hasRoom) (maxL := 2) (ret := (some .boolean)) (by decide +kernel) rfl ?_
  intro p e s m args below meth c s₁ B hml hv
  obtain ⟨rfl, hW, hK, hN⟩ := hv
  have hx := B.exec
  have hb := B.bytes
  have hr := B.returns
  have hts := atoms_spec (ws := wsX9_hasRoom) B.pre
  have hown : s.vm.findClass RX9 = some m.cls := findClass_of_methodNamed B.named
  have hlocks := B.notSynchronized
  have hS : va_S (Az z) s.heap s.heap [] := va_S.rf
  have hin9 : ∀ w ∈ wsX90, w ∈ wsX9_hasRoom := fun w h => List.mem_cons_of_mem _ (List.mem_append_right _ h)
  have hw0 := hts (.fieldLink RX9 18 "SkyClocks$Text" "length" "I") (List.mem_of_getElem? (i := 1) rfl)
  have hl := lv_entry ([.ref (z + this), .int a1]) (n := 2) (Nat.le_of_ble_eq_true rfl)
  rw [lg_entry_eq]
  generalize (lg_sl ([.ref (z + this), .int a1]) ++ List.replicate (2 - (lg_sl ([.ref (z + this), .int a1])).length) Slot.unset).toArray = ls at hl ⊢
  have hl : lv_has ls 2 [(0, .ref (z + this)), (1, .int a1)] := hl
  refine lv_aload_n hx hb dX9_hasRoom_0 rfl (lv_at hl 0 rfl) ?_
  refine q_geti (own := RX9) (ref := RX9) (C := RX9) (T := TX9) (N := 4) (kc := 6) (ci := 0) hx hb hts hin9 hown hK hW h_this (by decide) rfl 1 (by decide) hw0 rfl rfl dX9_hasRoom_1 ?_
  refine lv_iload_n hx hb dX9_hasRoom_4 rfl (lv_at hl 1 rfl) ?_
  refine lv_iadd hx hb dX9_hasRoom_5 ?_
  refine lv_sipush (v := 200) hx hb dX9_hasRoom_6 (by decide) ?_
  refine lv_icmp_gt (tgt := 16) hx hb dX9_hasRoom_9 (by decide) (fun c => ?_) (fun c => ?_)
  · have hf := g_pos c hf
    refine lv_iconst (v := 0) hx hb dX9_hasRoom_16 (by decide) ?_
    exact q_zret hx hb hr hlocks hW hS hf dX9_hasRoom_17
  · have hf := g_neg c hf
    refine lv_iconst (v := 1) hx hb dX9_hasRoom_12 (by decide) ?_
    refine lv_goto (tgt := 17) hx hb dX9_hasRoom_13 (by decide) ?_
    exact q_zret hx hb hr hlocks hW hS hf dX9_hasRoom_17
set_option maxRecDepth 100000 in
set_option maxHeartbeats 40000000 in
theorem k_X9_append (l : Launch) (z n : Nat) (D : va_G) (cy : Nat → ClassId) (Y : Yt) {fu : Nat} {this : Nat} {a1 : Int32} {a2 : Int64} {σ : Mm} {r : Int32} {σ1 : Mm} (h_this : okk Y n 6 this) (hf : f_X9_append Y fu this a1 a2 σ = some (r, σ1)) : Ki l yX9_append wsX9_append ({ frames := 0, cells := 0, slots := 0, locals := 0 } : Room) z n D cy Y [.ref (z + this), .int a1, .long a2] σ r σ1 := by
  refine Met.ofW (cc := cX9_append) (maxL := 5) (ret := (some .int)) (by decide +kernel) rfl ?_
  intro p e s m args below meth c s₁ B hml hv
  obtain ⟨rfl, hW, hK, hN⟩ := hv
  have hx := B.exec
  have hb := B.bytes
  have hr := B.returns
  have hts := atoms_spec (ws := wsX9_append) B.pre
  have hown : s.vm.findClass RX9 = some m.cls := findClass_of_methodNamed B.named
  have hlocks := B.notSynchronized
  have hS : va_S (Az z) s.heap s.heap [] := va_S.rf
  have hin9 : ∀ w ∈ wsX90, w ∈ wsX9_append := fun w h => List.mem_cons_of_mem _ (List.mem_append_right _ h)
  have hw0 := hts (.fieldLink RX9 18 "SkyClocks$Text" "length" "I") (List.mem_of_getElem? (i := 2) rfl)
  have hw1 := hts (.fieldLink RX9 11 "SkyClocks$Text" "bytes" "[I") (List.mem_of_getElem? (i := 1) rfl)
  have hl := lv_entry ([.ref (z + this), .int a1, .long a2]) (n := 5) (Nat.le_of_ble_eq_true rfl)
  rw [lg_entry_eq]
  generalize (lg_sl ([.ref (z + this), .int a1, .long a2]) ++ List.replicate (5 - (lg_sl ([.ref (z + this), .int a1, .long a2])).length) Slot.unset).toArray = ls at hl ⊢
  have hl : lv_has ls 5 [(0, .ref (z + this)), (1, .int a1), (2, .long a2)] := hl
  have B5 : ∀ (nn : Nat) (x4 : Int32) (σ : Mm), b_X9_append_5 Y fu this a1 a2 nn x4 σ = some (r, σ1) → ∀ (H : Heap) (locs : List Loc) (ls : Array Slot), WH z n D cy Y σ H → va_S (Az z) s.heap H locs → lv_has ls 5 [(0, .ref (z + this)), (1, .int a1), (2, .long a2), (4, .int x4)] → W p l e ({ frames := 0, cells := 0, slots := 0, locals := 0 } : Room) s m ([.ref (z + this), .int a1, .long a2] : List Value).toArray below meth c H locs 0 0 (MQ below (va_Qi (fun (x : Int32) (_ : Unit) => x = r) (fun _ t => WH z n D cy Y σ1 t.heap) (Az z)) ([.ref (z + this), .int a1, .long a2] : List Value).toArray s 0 0 (Az z)) (F0 m 5 ls []) := by
    intro nn
    induction nn with
    | zero =>
      intro x4 σ  hf
      have h9 : (none : Option (Int32 × Mm)) = some (r, σ1) := hf
      cases h9
    | succ nn H5 =>
      intro x4 σ  hf H locs ls hW hS hl
      have hf : s_X9_append_5 Y fu this a1 a2 (b_X9_append_5 Y fu this a1 a2 nn) x4 σ = some (r, σ1) := hf
      generalize hkk : b_X9_append_5 Y fu this a1 a2 nn = k5 at hf H5
      refine lv_iload hx hb dX9_append_5 (lv_at hl 3 rfl) ?_
      refine lv_if_lt (tgt := 47) hx hb dX9_append_7 (by decide) (fun c => ?_) (fun c => ?_)
      · have hf := g_pos c hf
        refine lv_aload_n hx hb dX9_append_47 rfl (lv_at hl 0 rfl) ?_
        refine q_geti (own := RX9) (ref := RX9) (C := RX9) (T := TX9) (N := 4) (kc := 6) (ci := 0) hx hb hts hin9 hown hK hW h_this (by decide) rfl 1 (by decide) hw0 rfl rfl dX9_append_48 ?_
        exact q_iret hx hb hr hlocks hW hS hf dX9_append_51
      · have hf := g_neg c hf
        refine lv_aload_n hx hb dX9_append_10 rfl (lv_at hl 0 rfl) ?_
        refine q_getp (own := RX9) (ref := RX9) (C := RX9) (T := TX9) (N := 4) (kc := 6) (ci := 0) hx hb hts hin9 hown hK hW h_this (by decide) rfl 0 (by decide) hw1 rfl rfl rfl (v := 10) rfl dX9_append_11 (fun hk_2 hq_3 => ?_)
        refine lv_aload_n hx hb dX9_append_14 rfl (lv_at hl 0 rfl) ?_
        refine q_geti (own := RX9) (ref := RX9) (C := RX9) (T := TX9) (N := 4) (kc := 6) (ci := 0) hx hb hts hin9 hown hK hW h_this (by decide) rfl 1 (by decide) hw0 rfl rfl dX9_append_15 ?_
        refine lv_lload_n hx hb dX9_append_18 rfl (lv_at hl 2 rfl) ?_
        refine lv_bipush (v := 8) hx hb dX9_append_19 (by decide) ?_
        refine lv_iload hx hb dX9_append_21 (lv_at hl 3 rfl) ?_
        refine lv_imul hx hb dX9_append_23 ?_
        refine lv_lushr hx hb dX9_append_24 rfl ?_
        refine lv_l2i hx hb dX9_append_25 rfl ?_
        refine lv_sipush (v := 255) hx hb dX9_append_26 (by decide) ?_
        refine lv_iand hx hb dX9_append_29 ?_
        obtain ⟨hi_4, hf⟩ := g_in hf
        refine q_iast hx hb hK hW hS hk_2 (inb_of hq_3 hi_4) dX9_append_30 (fun H locs hW hS => ?_)
        obtain ⟨σ_5, eσ_5⟩ : ∃ y : Mm, y = (Mm.si σ 10 (ix (Mm.gi σ this 1)) ((Int64.toInt32 ((Int64.toUInt64 a2 >>> ((Int32.toInt64 (8 * x4)).toUInt64 &&& Int64.toUInt64 63)).toInt64)) &&& 255)) := ⟨_, rfl⟩
        rw [← eσ_5] at hW
        have hf := g_lt eσ_5 hf
        refine lv_aload_n hx hb dX9_append_31 rfl (lv_at hl 0 rfl) ?_
        refine lv_dup hx hb dX9_append_32 rfl ?_
        refine q_geti (own := RX9) (ref := RX9) (C := RX9) (T := TX9) (N := 4) (kc := 6) (ci := 0) hx hb hts hin9 hown hK hW h_this (by decide) rfl 1 (by decide) hw0 rfl rfl dX9_append_33 ?_
        refine lv_iconst (v := 1) hx hb dX9_append_36 (by decide) ?_
        refine lv_iadd hx hb dX9_append_37 ?_
        refine q_puti (own := RX9) (ref := RX9) (C := RX9) (T := TX9) (N := 4) (kc := 6) (ci := 0) hx hb hts hin9 tyX9_ok nmX9 hown hK hW hS h_this (by decide) rfl 1 (by decide) hw0 rfl rfl (ty := .int) (tyX9_ok 1 (by decide)) rfl rfl rfl dX9_append_38 (fun H locs hW hS => ?_)
        obtain ⟨σ_6, eσ_6⟩ : ∃ y : Mm, y = (Mm.si σ_5 this 1 ((Mm.gi σ_5 this 1) + 1)) := ⟨_, rfl⟩
        rw [← eσ_6] at hW
        have hf := g_lt eσ_6 hf
        obtain ⟨x4_7, ex4_7⟩ : ∃ y : Int32, y = x4 + (-1) := ⟨_, rfl⟩
        have hf := g_lt ex4_7 hf
        refine lv_iinc (v := x4_7) (lv' := [(4, .int x4_7), (0, .ref (z + this)), (1, .int a1), (2, .long a2)]) hx hb dX9_append_41 hl (k := 3) rfl (by rw [ex4_7]; rfl) (by decide) rfl (fun ls hl => ?_)
        refine lv_goto (tgt := 5) hx hb dX9_append_44 (by decide) ?_
        exact H5 x4_7 σ_6 hf _ _ _ hW hS (lv_sub hl [1, 2, 3, 0] rfl)
  refine lv_iload_n hx hb dX9_append_0 rfl (lv_at hl 1 rfl) ?_
  refine lv_iconst (v := 1) hx hb dX9_append_1 (by decide) ?_
  refine lv_isub hx hb dX9_append_2 ?_
  refine lv_topi (fun x4_1 ex4_1 => ?_)
  have hf := g_lt ex4_1 hf
  refine lv_istore (lv' := [(4, .int x4_1), (0, .ref (z + this)), (1, .int a1), (2, .long a2)]) hx hb dX9_append_3 hl (by decide) rfl (fun ls hl => ?_)
  exact B5 fu x4_1 σ hf _ _ _ hW hS (lv_sub hl [1, 2, 3, 0] rfl)
set_option maxRecDepth 100000 in
set_option maxHeartbeats 40000000 in
theorem k_X9_empty (l : Launch) (z n : Nat) (D : va_G) (cy : Nat → ClassId) (Y : Yt) {this : Nat} {σ : Mm} {r : Int32} {σ1 : Mm} (h_this : okk Y n 6 this) (hf : f_X9_empty Y this σ = some (r, σ1)) : Ki l yX9_empty wsX9_empty ({ frames := 0, cells := 0, slots := 0, locals := 0 } : Room) z n D cy Y [.ref (z + this)] σ r σ1 := by
  refine Met.ofW (cc := cX9_empty) (maxL := 2) (ret := (some .int)) (by decide +kernel) rfl ?_
  intro p e s m args below meth c s₁ B hml hv
  obtain ⟨rfl, hW, hK, hN⟩ := hv
  have hx := B.exec
  have hb := B.bytes
  have hr := B.returns
  have hts := atoms_spec (ws := wsX9_empty) B.pre
  have hown : s.vm.findClass RX9 = some m.cls := findClass_of_methodNamed B.named
  have hlocks := B.notSynchronized
  have hS : va_S (Az z) s.heap s.heap [] := va_S.rf
  have hin9 : ∀ w ∈ wsX90, w ∈ wsX9_empty := fun w h => List.mem_cons_of_mem _ (List.mem_append_right _ h)
  have hw0 := hts (.fieldLink RX9 18 "SkyClocks$Text" "length" "I") (List.mem_of_getElem? (i := 1) rfl)
  have hl := lv_entry ([.ref (z + this)]) (n := 2) (Nat.le_of_ble_eq_true rfl)
  rw [lg_entry_eq]
  generalize (lg_sl ([.ref (z + this)]) ++ List.replicate (2 - (lg_sl ([.ref (z + this)])).length) Slot.unset).toArray = ls at hl ⊢
  have hl : lv_has ls 2 [(0, .ref (z + this))] := hl
  refine lv_aload_n hx hb dX9_empty_0 rfl (lv_at hl 0 rfl) ?_
  refine q_geti (own := RX9) (ref := RX9) (C := RX9) (T := TX9) (N := 4) (kc := 6) (ci := 0) hx hb hts hin9 hown hK hW h_this (by decide) rfl 1 (by decide) hw0 rfl rfl dX9_empty_1 ?_
  refine lv_topi (fun x1_1 ex1_1 => ?_)
  have hf := g_lt ex1_1 hf
  refine lv_istore_n (lv' := [(1, .int x1_1), (0, .ref (z + this))]) hx hb dX9_empty_4 rfl hl (by decide) rfl (fun ls hl => ?_)
  refine lv_aload_n hx hb dX9_empty_5 rfl (lv_at hl 1 rfl) ?_
  refine lv_iconst (v := 0) hx hb dX9_empty_6 (by decide) ?_
  refine q_puti (own := RX9) (ref := RX9) (C := RX9) (T := TX9) (N := 4) (kc := 6) (ci := 0) hx hb hts hin9 tyX9_ok nmX9 hown hK hW hS h_this (by decide) rfl 1 (by decide) hw0 rfl rfl (ty := .int) (tyX9_ok 1 (by decide)) rfl rfl rfl dX9_empty_7 (fun H locs hW hS => ?_)
  obtain ⟨σ_2, eσ_2⟩ : ∃ y : Mm, y = (Mm.si σ this 1 0) := ⟨_, rfl⟩
  rw [← eσ_2] at hW
  have hf := g_lt eσ_2 hf
  refine lv_iload_n hx hb dX9_empty_10 rfl (lv_at hl 0 rfl) ?_
  exact q_iret hx hb hr hlocks hW hS hf dX9_empty_11
set_option maxRecDepth 100000 in
set_option maxHeartbeats 40000000 in
theorem k_X9_peek (l : Launch) (z n : Nat) (D : va_G) (cy : Nat → ClassId) (Y : Yt) {this : Nat} {σ : Mm} {r : Int32} {σ1 : Mm} (h_this : okk Y n 6 this) (hf : f_X9_peek Y this σ = some (r, σ1)) : Ki l yX9_peek wsX9_peek ({ frames := 0, cells := 0, slots := 0, locals := 0 } : Room) z n D cy Y [.ref (z + this)] σ r σ1 := by
  refine Met.ofW (cc := cX9_peek) (maxL := 1) (ret := (some .int)) (by decide +kernel) rfl ?_
  intro p e s m args below meth c s₁ B hml hv
  obtain ⟨rfl, hW, hK, hN⟩ := hv
  have hx := B.exec
  have hb := B.bytes
  have hr := B.returns
  have hts := atoms_spec (ws := wsX9_peek) B.pre
  have hown : s.vm.findClass RX9 = some m.cls := findClass_of_methodNamed B.named
  have hlocks := B.notSynchronized
  have hS : va_S (Az z) s.heap s.heap [] := va_S.rf
  have hin9 : ∀ w ∈ wsX90, w ∈ wsX9_peek := fun w h => List.mem_cons_of_mem _ (List.mem_append_right _ h)
  have hw0 := hts (.fieldLink RX9 27 "SkyClocks$Text" "place" "I") (List.mem_of_getElem? (i := 1) rfl)
  have hw1 := hts (.fieldLink RX9 18 "SkyClocks$Text" "length" "I") (List.mem_of_getElem? (i := 2) rfl)
  have hw2 := hts (.fieldLink RX9 11 "SkyClocks$Text" "bytes" "[I") (List.mem_of_getElem? (i := 3) rfl)
  have hl := lv_entry ([.ref (z + this)]) (n := 1) (Nat.le_of_ble_eq_true rfl)
  rw [lg_entry_eq]
  generalize (lg_sl ([.ref (z + this)]) ++ List.replicate (1 - (lg_sl ([.ref (z + this)])).length) Slot.unset).toArray = ls at hl ⊢
  have hl : lv_has ls 1 [(0, .ref (z + this))] := hl
  refine lv_aload_n hx hb dX9_peek_0 rfl (lv_at hl 0 rfl) ?_
  refine q_geti (own := RX9) (ref := RX9) (C := RX9) (T := TX9) (N := 4) (kc := 6) (ci := 0) hx hb hts hin9 hown hK hW h_this (by decide) rfl 2 (by decide) hw0 rfl rfl dX9_peek_1 ?_
  refine lv_aload_n hx hb dX9_peek_4 rfl (lv_at hl 0 rfl) ?_
  refine q_geti (own := RX9) (ref := RX9) (C := RX9) (T := TX9) (N := 4) (kc := 6) (ci := 0) hx hb hts hin9 hown hK hW h_this (by decide) rfl 1 (by decide) hw1 rfl rfl dX9_peek_5 ?_
  refine lv_icmp_ge (tgt := 23) hx hb dX9_peek_8 (by decide) (fun c => ?_) (fun c => ?_)
  · have hf := g_pos c hf
    refine lv_iconst (v := (-1)) hx hb dX9_peek_23 (by decide) ?_
    exact q_iret hx hb hr hlocks hW hS hf dX9_peek_24
  · have hf := g_neg c hf
    refine lv_aload_n hx hb dX9_peek_11 rfl (lv_at hl 0 rfl) ?_
    refine q_getp (own := RX9) (ref := RX9) (C := RX9) (T := TX9) (N := 4) (kc := 6) (ci := 0) hx hb hts hin9 hown hK hW h_this (by decide) rfl 0 (by decide) hw2 rfl rfl rfl (v := 10) rfl dX9_peek_12 (fun hk_1 hq_2 => ?_)
    refine lv_aload_n hx hb dX9_peek_15 rfl (lv_at hl 0 rfl) ?_
    refine q_geti (own := RX9) (ref := RX9) (C := RX9) (T := TX9) (N := 4) (kc := 6) (ci := 0) hx hb hts hin9 hown hK hW h_this (by decide) rfl 2 (by decide) hw0 rfl rfl dX9_peek_16 ?_
    obtain ⟨hi_3, hf⟩ := g_in hf
    refine q_iald hx hb hK hW hk_1 (inb_of hq_2 hi_3) dX9_peek_19 ?_
    refine lv_goto (tgt := 24) hx hb dX9_peek_20 (by decide) ?_
    exact q_iret hx hb hr hlocks hW hS hf dX9_peek_24
set_option maxRecDepth 100000 in
set_option maxHeartbeats 40000000 in
theorem k_X9_nextByte (l : Launch) (z n : Nat) (D : va_G) (cy : Nat → ClassId) (Y : Yt) {this : Nat} {σ : Mm} {r : Int32} {σ1 : Mm} (h_this : okk Y n 6 this) (hf : f_X9_nextByte Y this σ = some (r, σ1)) : Ki l yX9_nextByte wsX9_nextByte ({ frames := 1, cells := 0, slots := 0, locals := 20 } : Room) z n D cy Y [.ref (z + this)] σ r σ1 := by
  refine Met.ofW (cc := cX9_nextByte) (maxL := 2) (ret := (some .int)) (by decide +kernel) rfl ?_
  intro p e s m args below meth c s₁ B hml hv
  obtain ⟨rfl, hW, hK, hN⟩ := hv
  have hx := B.exec
  have hb := B.bytes
  have hr := B.returns
  have hts := atoms_spec (ws := wsX9_nextByte) B.pre
  have hown : s.vm.findClass RX9 = some m.cls := findClass_of_methodNamed B.named
  have hlocks := B.notSynchronized
  have hS : va_S (Az z) s.heap s.heap [] := va_S.rf
  have hin9 : ∀ w ∈ wsX90, w ∈ wsX9_nextByte := fun w h => List.mem_cons_of_mem _ (List.mem_append_right _ h)
  have hw0 := hts (.fieldLink RX9 27 "SkyClocks$Text" "place" "I") (List.mem_of_getElem? (i := 1) rfl)
  have hl := lv_entry ([.ref (z + this)]) (n := 2) (Nat.le_of_ble_eq_true rfl)
  rw [lg_entry_eq]
  generalize (lg_sl ([.ref (z + this)]) ++ List.replicate (2 - (lg_sl ([.ref (z + this)])).length) Slot.unset).toArray = ls at hl ⊢
  have hl : lv_has ls 2 [(0, .ref (z + this))] := hl
  refine lv_aload_n hx hb dX9_nextByte_0 rfl (lv_at hl 0 rfl) ?_
  obtain ⟨r_3, σ_2, hc_1, hf⟩ := g_bnd hf
  refine q_calli (va_runV (As := []) (rest := []) ⟨hx, hb, hml, hown, hts⟩ (k_X9_peek l z n D cy Y h_this hc_1) (cwV 0 hts gX9_nextByte_X9_peek rfl rfl rfl (by decide +kernel) ⟨Nat.le_of_ble_eq_true rfl, Nat.le_of_ble_eq_true rfl⟩) (q_PV (T := TX9) (N := 4) hK hN hW h_this (by decide) rfl) rfl rfl hl.1 rfl (lv_room (Nat.le_of_ble_eq_true rfl)) dX9_nextByte_1 ⟨Nat.le_refl _, Nat.le_refl _⟩) hS (fun H locs hW hS => ?_)
  refine lv_istore_n (lv' := [(1, .int r_3), (0, .ref (z + this))]) hx hb dX9_nextByte_4 rfl hl (by decide) rfl (fun ls hl => ?_)
  refine lv_aload_n hx hb dX9_nextByte_5 rfl (lv_at hl 1 rfl) ?_
  refine lv_dup hx hb dX9_nextByte_6 rfl ?_
  refine q_geti (own := RX9) (ref := RX9) (C := RX9) (T := TX9) (N := 4) (kc := 6) (ci := 0) hx hb hts hin9 hown hK hW h_this (by decide) rfl 2 (by decide) hw0 rfl rfl dX9_nextByte_7 ?_
  refine lv_iconst (v := 1) hx hb dX9_nextByte_10 (by decide) ?_
  refine lv_iadd hx hb dX9_nextByte_11 ?_
  refine q_puti (own := RX9) (ref := RX9) (C := RX9) (T := TX9) (N := 4) (kc := 6) (ci := 0) hx hb hts hin9 tyX9_ok nmX9 hown hK hW hS h_this (by decide) rfl 2 (by decide) hw0 rfl rfl (ty := .int) (tyX9_ok 2 (by decide)) rfl rfl rfl dX9_nextByte_12 (fun H locs hW hS => ?_)
  obtain ⟨σ_4, eσ_4⟩ : ∃ y : Mm, y = (Mm.si σ_2 this 2 ((Mm.gi σ_2 this 2) + 1)) := ⟨_, rfl⟩
  rw [← eσ_4] at hW
  have hf := g_lt eσ_4 hf
  refine lv_iload_n hx hb dX9_nextByte_15 rfl (lv_at hl 0 rfl) ?_
  exact q_iret hx hb hr hlocks hW hS hf dX9_nextByte_16
set_option maxRecDepth 100000 in
set_option maxHeartbeats 40000000 in
theorem k_X9_numbersOf (l : Launch) (z n : Nat) (D : va_G) (cy : Nat → ClassId) (Y : Yt) {a0 : Int32} {σ : Mm} {r : Int32} {σ1 : Mm} (hf : f_X9_numbersOf Y a0 σ = some (r, σ1)) : Ki l yX9_numbersOf wsX9_numbersOf ({ frames := 0, cells := 0, slots := 0, locals := 0 } : Room) z n D cy Y [.int a0] σ r σ1 := by
  refine Met.ofW (cc := cX9_numbersOf) (maxL := 1) (ret := (some .int)) (by decide +kernel) rfl ?_
  intro p e s m args below meth c s₁ B hml hv
  obtain ⟨rfl, hW, hK, hN⟩ := hv
  have hx := B.exec
  have hb := B.bytes
  have hr := B.returns
  have hts := atoms_spec (ws := wsX9_numbersOf) B.pre
  have hown : s.vm.findClass RX9 = some m.cls := findClass_of_methodNamed B.named
  have hlocks := B.notSynchronized
  have hS : va_S (Az z) s.heap s.heap [] := va_S.rf
  have hl := lv_entry ([.int a0]) (n := 1) (Nat.le_of_ble_eq_true rfl)
  rw [lg_entry_eq]
  generalize (lg_sl ([.int a0]) ++ List.replicate (1 - (lg_sl ([.int a0])).length) Slot.unset).toArray = ls at hl ⊢
  have hl : lv_has ls 1 [(0, .int a0)] := hl
  refine lv_iload_n hx hb dX9_numbersOf_0 rfl (lv_at hl 0 rfl) ?_
  by_cases c0 : a0 = 99
  · have hf := g_pos c0 hf
    refine q_lcase (k := 99) (off := 55) (tgt := 56) hx hb dX9_numbersOf_1 rfl c0 rfl (by decide) ?_
    refine lv_iconst (v := 5) hx hb dX9_numbersOf_56 (by decide) ?_
    exact q_iret hx hb hr hlocks hW hS hf dX9_numbersOf_57
  · have hf := g_neg c0 hf
    by_cases c1 : a0 = 100
    · have hf := g_pos c1 hf
      refine q_lcase (k := 100) (off := 51) (tgt := 52) hx hb dX9_numbersOf_1 rfl c1 rfl (by decide) ?_
      refine lv_iconst (v := 1) hx hb dX9_numbersOf_52 (by decide) ?_
      exact q_iret hx hb hr hlocks hW hS hf dX9_numbersOf_53
    · have hf := g_neg c1 hf
      by_cases c2 : a0 = 112
      · have hf := g_pos c2 hf
        refine q_lcase (k := 112) (off := 51) (tgt := 52) hx hb dX9_numbersOf_1 rfl c2 rfl (by decide) ?_
        refine lv_iconst (v := 1) hx hb dX9_numbersOf_52 (by decide) ?_
        exact q_iret hx hb hr hlocks hW hS hf dX9_numbersOf_53
      · have hf := g_neg c2 hf
        by_cases c3 : a0 = 115
        · have hf := g_pos c3 hf
          refine q_lcase (k := 115) (off := 53) (tgt := 54) hx hb dX9_numbersOf_1 rfl c3 rfl (by decide) ?_
          refine lv_iconst (v := 2) hx hb dX9_numbersOf_54 (by decide) ?_
          exact q_iret hx hb hr hlocks hW hS hf dX9_numbersOf_55
        · have hf := g_neg c3 hf
          by_cases c4 : a0 = 122
          · have hf := g_pos c4 hf
            refine q_lcase (k := 122) (off := 51) (tgt := 52) hx hb dX9_numbersOf_1 rfl c4 rfl (by decide) ?_
            refine lv_iconst (v := 1) hx hb dX9_numbersOf_52 (by decide) ?_
            exact q_iret hx hb hr hlocks hW hS hf dX9_numbersOf_53
          · have hf := g_neg c4 hf
            refine lv_lookup (off := 57) (tgt := 58) hx hb dX9_numbersOf_1 rfl ((lv_osw (k := 99) c0 rfl).trans ((lv_osw (k := 100) c1 rfl).trans ((lv_osw (k := 112) c2 rfl).trans ((lv_osw (k := 115) c3 rfl).trans ((lv_osw (k := 122) c4 rfl).trans rfl))))) (by decide) ?_
            refine lv_iconst (v := 0) hx hb dX9_numbersOf_58 (by decide) ?_
            exact q_iret hx hb hr hlocks hW hS hf dX9_numbersOf_59
set_option maxRecDepth 100000 in
set_option maxHeartbeats 40000000 in
theorem k_X9_isFigure (l : Launch) (z n : Nat) (D : va_G) (cy : Nat → ClassId) (Y : Yt) {a0 : Int32} {σ : Mm} {r : Int32} {σ1 : Mm} (hf : f_X9_isFigure Y a0 σ = some (r, σ1)) : Ki l yX9_isFigure wsX9_isFigure ({ frames := 0, cells := 0, slots := 0, locals := 0 } : Room) z n D cy Y [.int a0] σ r σ1 := by
  refine Met.ofW (cc := cX9_isFigure) (maxL := 1) (ret := (some .boolean)) (by decide +kernel) rfl ?_
  intro p e s m args below meth c s₁ B hml hv
  obtain ⟨rfl, hW, hK, hN⟩ := hv
  have hx := B.exec
  have hb := B.bytes
  have hr := B.returns
  have hts := atoms_spec (ws := wsX9_isFigure) B.pre
  have hown : s.vm.findClass RX9 = some m.cls := findClass_of_methodNamed B.named
  have hlocks := B.notSynchronized
  have hS : va_S (Az z) s.heap s.heap [] := va_S.rf
  have hl := lv_entry ([.int a0]) (n := 1) (Nat.le_of_ble_eq_true rfl)
  rw [lg_entry_eq]
  generalize (lg_sl ([.int a0]) ++ List.replicate (1 - (lg_sl ([.int a0])).length) Slot.unset).toArray = ls at hl ⊢
  have hl : lv_has ls 1 [(0, .int a0)] := hl
  refine lv_iload_n hx hb dX9_isFigure_0 rfl (lv_at hl 0 rfl) ?_
  refine lv_bipush (v := 48) hx hb dX9_isFigure_1 (by decide) ?_
  refine lv_icmp_lt (tgt := 16) hx hb dX9_isFigure_3 (by decide) (fun c => ?_) (fun c => ?_)
  · have hf := g_pos c hf
    refine lv_iconst (v := 0) hx hb dX9_isFigure_16 (by decide) ?_
    exact q_zret hx hb hr hlocks hW hS hf dX9_isFigure_17
  · have hf := g_neg c hf
    refine lv_iload_n hx hb dX9_isFigure_6 rfl (lv_at hl 0 rfl) ?_
    refine lv_bipush (v := 57) hx hb dX9_isFigure_7 (by decide) ?_
    refine lv_icmp_gt (tgt := 16) hx hb dX9_isFigure_9 (by decide) (fun c => ?_) (fun c => ?_)
    · have hf := g_pos c hf
      refine lv_iconst (v := 0) hx hb dX9_isFigure_16 (by decide) ?_
      exact q_zret hx hb hr hlocks hW hS hf dX9_isFigure_17
    · have hf := g_neg c hf
      refine lv_iconst (v := 1) hx hb dX9_isFigure_12 (by decide) ?_
      refine lv_goto (tgt := 17) hx hb dX9_isFigure_13 (by decide) ?_
      exact q_zret hx hb hr hlocks hW hS hf dX9_isFigure_17
set_option maxRecDepth 100000 in
set_option maxHeartbeats 40000000 in
theorem k_X9_readNumber (l : Launch) (z n : Nat) (D : va_G) (cy : Nat → ClassId) (Y : Yt) {fu : Nat} {this : Nat} {a1 : Int32} {σ : Mm} {r : Int32} {σ1 : Mm} (h_this : okk Y n 6 this) (hf : f_X9_readNumber Y fu this a1 σ = some (r, σ1)) : Ki l yX9_readNumber wsX9_readNumber ({ frames := 2, cells := 0, slots := 0, locals := 41 } : Room) z n D cy Y [.ref (z + this), .int a1] σ r σ1 := by
  refine Met.ofW (cc := cX9_readNumber) (maxL := 5) (ret := (some .boolean)) (by decide +kernel) rfl ?_
  intro p e s m args below meth c s₁ B hml hv
  obtain ⟨rfl, hW, hK, hN⟩ := hv
  have hx := B.exec
  have hb := B.bytes
  have hr := B.returns
  have hts := atoms_spec (ws := wsX9_readNumber) B.pre
  have hown : s.vm.findClass RX9 = some m.cls := findClass_of_methodNamed B.named
  have hlocks := B.notSynchronized
  have hS : va_S (Az z) s.heap s.heap [] := va_S.rf
  have hin9 : ∀ w ∈ wsX90, w ∈ wsX9_readNumber := fun w h => List.mem_cons_of_mem _ (List.mem_append_right _ h)
  have hw0 := hts (.fieldLink RX9 15 "SkyClocks$Text" "numbers" "[I") (List.mem_of_getElem? (i := 2) rfl)
  have hw1 := hts (.fieldLink RX9 27 "SkyClocks$Text" "place" "I") (List.mem_of_getElem? (i := 1) rfl)
  have hl := lv_entry ([.ref (z + this), .int a1]) (n := 5) (Nat.le_of_ble_eq_true rfl)
  rw [lg_entry_eq]
  generalize (lg_sl ([.ref (z + this), .int a1]) ++ List.replicate (5 - (lg_sl ([.ref (z + this), .int a1])).length) Slot.unset).toArray = ls at hl ⊢
  have hl : lv_has ls 5 [(0, .ref (z + this)), (1, .int a1)] := hl
  have B85 : ∀ (x4 : Int32) (t0 : Int32) (t1 : Int32) (t2 : Nat) (σ : Mm), okk Y n 10 t2 → b_X9_readNumber_85 Y fu this a1 x4 t0 t1 t2 σ = some (r, σ1) → ∀ (H : Heap) (locs : List Loc) (ls : Array Slot), WH z n D cy Y σ H → va_S (Az z) s.heap H locs → lv_has ls 5 [(0, .ref (z + this)), (1, .int a1), (4, .int x4)] → W p l e ({ frames := 2, cells := 0, slots := 0, locals := 41 } : Room) s m ([.ref (z + this), .int a1] : List Value).toArray below meth c H locs 0 0 (MQ below (va_Qi (fun (x : Int32) (_ : Unit) => x = r) (fun _ t => WH z n D cy Y σ1 t.heap) (Az z)) ([.ref (z + this), .int a1] : List Value).toArray s 0 0 (Az z)) (F0 m 85 ls [.int t0, .int t1, .ref (z + t2)]) := by
    intro  x4 t0 t1 t2 σ h_t2 hf H locs ls hW hS hl
    obtain ⟨hi_6, hf⟩ := g_in hf
    refine q_iast hx hb hK hW hS h_t2 hi_6 dX9_readNumber_85 (fun H locs hW hS => ?_)
    obtain ⟨σ_7, eσ_7⟩ : ∃ y : Mm, y = (Mm.si σ t2 (ix t1) t0) := ⟨_, rfl⟩
    rw [← eσ_7] at hW
    have hf := g_lt eσ_7 hf
    refine lv_iload hx hb dX9_readNumber_86 (lv_at hl 2 rfl) ?_
    refine lv_if_le (tgt := 95) hx hb dX9_readNumber_88 (by decide) (fun c => ?_) (fun c => ?_)
    · have hf := g_pos c hf
      refine lv_iconst (v := 0) hx hb dX9_readNumber_95 (by decide) ?_
      exact q_zret hx hb hr hlocks hW hS hf dX9_readNumber_96
    · have hf := g_neg c hf
      refine lv_iconst (v := 1) hx hb dX9_readNumber_91 (by decide) ?_
      refine lv_goto (tgt := 96) hx hb dX9_readNumber_92 (by decide) ?_
      exact q_zret hx hb hr hlocks hW hS hf dX9_readNumber_96
  have B70 : ∀ (x2 : Int32) (x3 : Int32) (x4 : Int32) (σ : Mm), b_X9_readNumber_70 Y fu this a1 x2 x3 x4 σ = some (r, σ1) → ∀ (H : Heap) (locs : List Loc) (ls : Array Slot), WH z n D cy Y σ H → va_S (Az z) s.heap H locs → lv_has ls 5 [(0, .ref (z + this)), (1, .int a1), (2, .int x2), (3, .int x3), (4, .int x4)] → W p l e ({ frames := 2, cells := 0, slots := 0, locals := 41 } : Room) s m ([.ref (z + this), .int a1] : List Value).toArray below meth c H locs 0 0 (MQ below (va_Qi (fun (x : Int32) (_ : Unit) => x = r) (fun _ t => WH z n D cy Y σ1 t.heap) (Az z)) ([.ref (z + this), .int a1] : List Value).toArray s 0 0 (Az z)) (F0 m 70 ls []) := by
    intro  x2 x3 x4 σ  hf H locs ls hW hS hl
    refine lv_aload_n hx hb dX9_readNumber_70 rfl (lv_at hl 0 rfl) ?_
    refine q_getp (own := RX9) (ref := RX9) (C := RX9) (T := TX9) (N := 4) (kc := 6) (ci := 0) hx hb hts hin9 hown hK hW h_this (by decide) rfl 3 (by decide) hw0 rfl rfl rfl (v := 11) rfl dX9_readNumber_71 (fun hk_4 hq_5 => ?_)
    refine lv_iload_n hx hb dX9_readNumber_74 rfl (lv_at hl 1 rfl) ?_
    refine lv_iload_n hx hb dX9_readNumber_75 rfl (lv_at hl 2 rfl) ?_
    refine lv_if_eq (tgt := 84) hx hb dX9_readNumber_76 (by decide) (fun c => ?_) (fun c => ?_)
    · have hf := g_pos c hf
      refine lv_iload_n hx hb dX9_readNumber_84 rfl (lv_at hl 3 rfl) ?_
      exact B85 x4 x3 a1 11 σ hk_4 hf _ _ _ hW hS (lv_sub hl [0, 1, 4] rfl)
    · have hf := g_neg c hf
      refine lv_iload_n hx hb dX9_readNumber_79 rfl (lv_at hl 3 rfl) ?_
      refine lv_ineg hx hb dX9_readNumber_80 ?_
      refine lv_goto (tgt := 85) hx hb dX9_readNumber_81 (by decide) ?_
      exact B85 x4 (-x3) a1 11 σ hk_4 hf _ _ _ hW hS (lv_sub hl [0, 1, 4] rfl)
  have B34 : ∀ (nn : Nat) (x2 : Int32) (x3 : Int32) (x4 : Int32) (σ : Mm), b_X9_readNumber_34 Y fu this a1 nn x2 x3 x4 σ = some (r, σ1) → ∀ (H : Heap) (locs : List Loc) (ls : Array Slot), WH z n D cy Y σ H → va_S (Az z) s.heap H locs → lv_has ls 5 [(0, .ref (z + this)), (1, .int a1), (2, .int x2), (3, .int x3), (4, .int x4)] → W p l e ({ frames := 2, cells := 0, slots := 0, locals := 41 } : Room) s m ([.ref (z + this), .int a1] : List Value).toArray below meth c H locs 0 0 (MQ below (va_Qi (fun (x : Int32) (_ : Unit) => x = r) (fun _ t => WH z n D cy Y σ1 t.heap) (Az z)) ([.ref (z + this), .int a1] : List Value).toArray s 0 0 (Az z)) (F0 m 34 ls []) := by
    intro nn
    induction nn with
    | zero =>
      intro x2 x3 x4 σ  hf
      have h9 : (none : Option (Int32 × Mm)) = some (r, σ1) := hf
      cases h9
    | succ nn H34 =>
      intro x2 x3 x4 σ  hf H locs ls hW hS hl
      have hf : s_X9_readNumber_34 Y fu this a1 (b_X9_readNumber_34 Y fu this a1 nn) x2 x3 x4 σ = some (r, σ1) := hf
      generalize hkk : b_X9_readNumber_34 Y fu this a1 nn = k34 at hf H34
      refine lv_iload hx hb dX9_readNumber_34 (lv_at hl 4 rfl) ?_
      refine lv_bipush (v := 9) hx hb dX9_readNumber_36 (by decide) ?_
      refine lv_icmp_ge (tgt := 70) hx hb dX9_readNumber_38 (by decide) (fun c => ?_) (fun c => ?_)
      · have hf := g_pos c hf
        exact B70 x2 x3 x4 σ hf _ _ _ hW hS (lv_sub hl [0, 1, 2, 3, 4] rfl)
      · have hf := g_neg c hf
        refine lv_aload_n hx hb dX9_readNumber_41 rfl (lv_at hl 0 rfl) ?_
        obtain ⟨r_10, σ_9, hc_8, hf⟩ := g_bnd hf
        refine q_calli (va_runV (As := []) (rest := []) ⟨hx, hb, hml, hown, hts⟩ (k_X9_peek l z n D cy Y h_this hc_8) (cwV 0 hts gX9_readNumber_X9_peek rfl rfl rfl (by decide +kernel) ⟨Nat.le_of_ble_eq_true rfl, Nat.le_of_ble_eq_true rfl⟩) (q_PV (T := TX9) (N := 4) hK hN hW h_this (by decide) rfl) rfl rfl hl.1 rfl (lv_room (Nat.le_of_ble_eq_true rfl)) dX9_readNumber_42 ⟨Nat.le_refl _, Nat.le_refl _⟩) hS (fun H locs hW hS => ?_)
        obtain ⟨r_13, σ_12, hc_11, hf⟩ := g_bnd hf
        refine q_calli (va_runS (As := [.int r_10]) (rest := []) ⟨hx, hb, hml, hown, hts⟩ (k_X9_isFigure l z n D cy Y hc_11) (va_cwS 1 hts gX9_readNumber_X9_isFigure rfl rfl rfl (by decide +kernel) ⟨Nat.le_of_ble_eq_true rfl, Nat.le_of_ble_eq_true rfl⟩) (q_PS hK hN hW) rfl rfl hl.1 rfl (lv_room (Nat.le_of_ble_eq_true rfl)) dX9_readNumber_45 ⟨Nat.le_refl _, Nat.le_refl _⟩) hS (fun H locs hW hS => ?_)
        refine lv_if_eq (tgt := 70) hx hb dX9_readNumber_48 (by decide) (fun c => ?_) (fun c => ?_)
        · have hf := g_pos c hf
          exact B70 x2 x3 x4 σ_12 hf _ _ _ hW hS (lv_sub hl [0, 1, 2, 3, 4] rfl)
        · have hf := g_neg c hf
          refine lv_bipush (v := 10) hx hb dX9_readNumber_51 (by decide) ?_
          refine lv_iload_n hx hb dX9_readNumber_53 rfl (lv_at hl 3 rfl) ?_
          refine lv_imul hx hb dX9_readNumber_54 ?_
          refine lv_aload_n hx hb dX9_readNumber_55 rfl (lv_at hl 0 rfl) ?_
          obtain ⟨r_16, σ_15, hc_14, hf⟩ := g_bnd hf
          refine q_calli (va_runV (As := []) (rest := [.int (10 * x3)]) ⟨hx, hb, hml, hown, hts⟩ (k_X9_nextByte l z n D cy Y h_this hc_14) (cwV 0 hts gX9_readNumber_X9_nextByte rfl rfl rfl (by decide +kernel) ⟨Nat.le_of_ble_eq_true rfl, Nat.le_of_ble_eq_true rfl⟩) (q_PV (T := TX9) (N := 4) hK hN hW h_this (by decide) rfl) rfl rfl hl.1 rfl (lv_room (Nat.le_of_ble_eq_true rfl)) dX9_readNumber_56 ⟨Nat.le_refl _, Nat.le_refl _⟩) hS (fun H locs hW hS => ?_)
          refine lv_iadd hx hb dX9_readNumber_59 ?_
          refine lv_bipush (v := 48) hx hb dX9_readNumber_60 (by decide) ?_
          refine lv_isub hx hb dX9_readNumber_62 ?_
          refine lv_topi (fun x3_17 ex3_17 => ?_)
          have hf := g_lt ex3_17 hf
          refine lv_istore_n (lv' := [(3, .int x3_17), (0, .ref (z + this)), (1, .int a1), (2, .int x2), (4, .int x4)]) hx hb dX9_readNumber_63 rfl hl (by decide) rfl (fun ls hl => ?_)
          obtain ⟨x4_18, ex4_18⟩ : ∃ y : Int32, y = x4 + 1 := ⟨_, rfl⟩
          have hf := g_lt ex4_18 hf
          refine lv_iinc (v := x4_18) (lv' := [(4, .int x4_18), (3, .int x3_17), (0, .ref (z + this)), (1, .int a1), (2, .int x2)]) hx hb dX9_readNumber_64 hl (k := 4) rfl (by rw [ex4_18]; rfl) (by decide) rfl (fun ls hl => ?_)
          refine lv_goto (tgt := 34) hx hb dX9_readNumber_67 (by decide) ?_
          exact H34 x2 x3_17 x4_18 σ_15 hf _ _ _ hW hS (lv_sub hl [2, 3, 4, 1, 0] rfl)
  have B29 : ∀ (x2 : Int32) (σ : Mm), b_X9_readNumber_29 Y fu this a1 x2 σ = some (r, σ1) → ∀ (H : Heap) (locs : List Loc) (ls : Array Slot), WH z n D cy Y σ H → va_S (Az z) s.heap H locs → lv_has ls 5 [(0, .ref (z + this)), (1, .int a1), (2, .int x2)] → W p l e ({ frames := 2, cells := 0, slots := 0, locals := 41 } : Room) s m ([.ref (z + this), .int a1] : List Value).toArray below meth c H locs 0 0 (MQ below (va_Qi (fun (x : Int32) (_ : Unit) => x = r) (fun _ t => WH z n D cy Y σ1 t.heap) (Az z)) ([.ref (z + this), .int a1] : List Value).toArray s 0 0 (Az z)) (F0 m 29 ls []) := by
    intro  x2 σ  hf H locs ls hW hS hl
    refine lv_iconst (v := 0) hx hb dX9_readNumber_29 (by decide) ?_
    refine lv_istore_n (lv' := [(3, .int 0), (0, .ref (z + this)), (1, .int a1), (2, .int x2)]) hx hb dX9_readNumber_30 rfl hl (by decide) rfl (fun ls hl => ?_)
    refine lv_iconst (v := 0) hx hb dX9_readNumber_31 (by decide) ?_
    refine lv_istore (lv' := [(4, .int 0), (3, .int 0), (0, .ref (z + this)), (1, .int a1), (2, .int x2)]) hx hb dX9_readNumber_32 hl (by decide) rfl (fun ls hl => ?_)
    exact B34 fu x2 0 0 σ hf _ _ _ hW hS (lv_sub hl [2, 3, 4, 1, 0] rfl)
  have B14 : ∀ (t0 : Int32) (σ : Mm), b_X9_readNumber_14 Y fu this a1 t0 σ = some (r, σ1) → ∀ (H : Heap) (locs : List Loc) (ls : Array Slot), WH z n D cy Y σ H → va_S (Az z) s.heap H locs → lv_has ls 5 [(0, .ref (z + this)), (1, .int a1)] → W p l e ({ frames := 2, cells := 0, slots := 0, locals := 41 } : Room) s m ([.ref (z + this), .int a1] : List Value).toArray below meth c H locs 0 0 (MQ below (va_Qi (fun (x : Int32) (_ : Unit) => x = r) (fun _ t => WH z n D cy Y σ1 t.heap) (Az z)) ([.ref (z + this), .int a1] : List Value).toArray s 0 0 (Az z)) (F0 m 14 ls [.int t0]) := by
    intro  t0 σ  hf H locs ls hW hS hl
    refine lv_istore_n (lv' := [(2, .int t0), (0, .ref (z + this)), (1, .int a1)]) hx hb dX9_readNumber_14 rfl hl (by decide) rfl (fun ls hl => ?_)
    refine lv_iload_n hx hb dX9_readNumber_15 rfl (lv_at hl 0 rfl) ?_
    refine lv_if_eq (tgt := 29) hx hb dX9_readNumber_16 (by decide) (fun c => ?_) (fun c => ?_)
    · have hf := g_pos c hf
      exact B29 t0 σ hf _ _ _ hW hS (lv_sub hl [1, 2, 0] rfl)
    · have hf := g_neg c hf
      refine lv_aload_n hx hb dX9_readNumber_19 rfl (lv_at hl 1 rfl) ?_
      refine lv_dup hx hb dX9_readNumber_20 rfl ?_
      refine q_geti (own := RX9) (ref := RX9) (C := RX9) (T := TX9) (N := 4) (kc := 6) (ci := 0) hx hb hts hin9 hown hK hW h_this (by decide) rfl 2 (by decide) hw1 rfl rfl dX9_readNumber_21 ?_
      refine lv_iconst (v := 1) hx hb dX9_readNumber_24 (by decide) ?_
      refine lv_iadd hx hb dX9_readNumber_25 ?_
      refine q_puti (own := RX9) (ref := RX9) (C := RX9) (T := TX9) (N := 4) (kc := 6) (ci := 0) hx hb hts hin9 tyX9_ok nmX9 hown hK hW hS h_this (by decide) rfl 2 (by decide) hw1 rfl rfl (ty := .int) (tyX9_ok 2 (by decide)) rfl rfl rfl dX9_readNumber_26 (fun H locs hW hS => ?_)
      obtain ⟨σ_19, eσ_19⟩ : ∃ y : Mm, y = (Mm.si σ this 2 ((Mm.gi σ this 2) + 1)) := ⟨_, rfl⟩
      rw [← eσ_19] at hW
      have hf := g_lt eσ_19 hf
      exact B29 t0 σ_19 hf _ _ _ hW hS (lv_sub hl [1, 2, 0] rfl)
  refine lv_aload_n hx hb dX9_readNumber_0 rfl (lv_at hl 0 rfl) ?_
  obtain ⟨r_3, σ_2, hc_1, hf⟩ := g_bnd hf
  refine q_calli (va_runV (As := []) (rest := []) ⟨hx, hb, hml, hown, hts⟩ (k_X9_peek l z n D cy Y h_this hc_1) (cwV 0 hts gX9_readNumber_X9_peek rfl rfl rfl (by decide +kernel) ⟨Nat.le_of_ble_eq_true rfl, Nat.le_of_ble_eq_true rfl⟩) (q_PV (T := TX9) (N := 4) hK hN hW h_this (by decide) rfl) rfl rfl hl.1 rfl (lv_room (Nat.le_of_ble_eq_true rfl)) dX9_readNumber_1 ⟨Nat.le_refl _, Nat.le_refl _⟩) hS (fun H locs hW hS => ?_)
  refine lv_bipush (v := 45) hx hb dX9_readNumber_4 (by decide) ?_
  refine lv_icmp_ne (tgt := 13) hx hb dX9_readNumber_6 (by decide) (fun c => ?_) (fun c => ?_)
  · have hf := g_neg c hf
    refine lv_iconst (v := 0) hx hb dX9_readNumber_13 (by decide) ?_
    exact B14 0 σ_2 hf _ _ _ hW hS (lv_sub hl [0, 1] rfl)
  · have hf := g_pos c hf
    refine lv_iconst (v := 1) hx hb dX9_readNumber_9 (by decide) ?_
    refine lv_goto (tgt := 14) hx hb dX9_readNumber_10 (by decide) ?_
    exact B14 1 σ_2 hf _ _ _ hW hS (lv_sub hl [0, 1] rfl)
set_option maxRecDepth 100000 in
set_option maxHeartbeats 40000000 in
theorem k_X9_readItem (l : Launch) (z n : Nat) (D : va_G) (cy : Nat → ClassId) (Y : Yt) {fu : Nat} {this : Nat} {a1 : Nat} {σ : Mm} {r : Int32} {σ1 : Mm} (h_this : okk Y n 6 this) (h_a1 : okk Y n 2 a1) (hf : f_X9_readItem Y fu this a1 σ = some (r, σ1)) : Ki l yX9_readItem wsX9_readItem ({ frames := 5, cells := 0, slots := 0, locals := 109 } : Room) z n D cy Y [.ref (z + this), .ref (z + a1)] σ r σ1 := by
  refine Met.ofW (cc := cX9_readItem) (maxL := 5) (ret := (some .boolean)) (by decide +kernel) rfl ?_
  intro p e s m args below meth c s₁ B hml hv
  obtain ⟨rfl, hW, hK, hN⟩ := hv
  have hx := B.exec
  have hb := B.bytes
  have hr := B.returns
  have hts := atoms_spec (ws := wsX9_readItem) B.pre
  have hown : s.vm.findClass RX9 = some m.cls := findClass_of_methodNamed B.named
  have hlocks := B.notSynchronized
  have hS : va_S (Az z) s.heap s.heap [] := va_S.rf
  have hin9 : ∀ w ∈ wsX90, w ∈ wsX9_readItem := fun w h => List.mem_cons_of_mem _ (List.mem_append_left _ (List.mem_append_right _ h))
  have hw0 := hts (.fieldLink RX9 15 "SkyClocks$Text" "numbers" "[I") (List.mem_of_getElem? (i := 1) rfl)
  have hl := lv_entry ([.ref (z + this), .ref (z + a1)]) (n := 5) (Nat.le_of_ble_eq_true rfl)
  rw [lg_entry_eq]
  generalize (lg_sl ([.ref (z + this), .ref (z + a1)]) ++ List.replicate (5 - (lg_sl ([.ref (z + this), .ref (z + a1)])).length) Slot.unset).toArray = ls at hl ⊢
  have hl : lv_has ls 5 [(0, .ref (z + this)), (1, .ref (z + a1))] := hl
  have B47 : ∀ (k13 : Int32 → Int32 → Int32 → Mm → Option (Int32 × Mm)) (H13 : ∀ (x2 : Int32) (x3 : Int32) (x4 : Int32) (σ : Mm), k13 x2 x3 x4 σ = some (r, σ1) → ∀ (H : Heap) (locs : List Loc) (ls : Array Slot), WH z n D cy Y σ H → va_S (Az z) s.heap H locs → lv_has ls 5 [(0, .ref (z + this)), (1, .ref (z + a1)), (2, .int x2), (3, .int x3), (4, .int x4)] → W p l e ({ frames := 5, cells := 0, slots := 0, locals := 109 } : Room) s m ([.ref (z + this), .ref (z + a1)] : List Value).toArray below meth c H locs 0 0 (MQ below (va_Qi (fun (x : Int32) (_ : Unit) => x = r) (fun _ t => WH z n D cy Y σ1 t.heap) (Az z)) ([.ref (z + this), .ref (z + a1)] : List Value).toArray s 0 0 (Az z)) (F0 m 13 ls [])) (x2 : Int32) (x3 : Int32) (x4 : Int32) (t0 : Int32) (t1 : Int32) (σ : Mm), b_X9_readItem_47 Y fu this a1 k13 x2 x3 x4 t0 t1 σ = some (r, σ1) → ∀ (H : Heap) (locs : List Loc) (ls : Array Slot), WH z n D cy Y σ H → va_S (Az z) s.heap H locs → lv_has ls 5 [(0, .ref (z + this)), (1, .ref (z + a1)), (2, .int x2), (3, .int x3), (4, .int x4)] → W p l e ({ frames := 5, cells := 0, slots := 0, locals := 109 } : Room) s m ([.ref (z + this), .ref (z + a1)] : List Value).toArray below meth c H locs 0 0 (MQ below (va_Qi (fun (x : Int32) (_ : Unit) => x = r) (fun _ t => WH z n D cy Y σ1 t.heap) (Az z)) ([.ref (z + this), .ref (z + a1)] : List Value).toArray s 0 0 (Az z)) (F0 m 47 ls [.int t0, .int t1]) := by
    intro k13 H13 x2 x3 x4 t0 t1 σ  hf H locs ls hW hS hl
    refine lv_icmp_eq (tgt := 52) hx hb dX9_readItem_47 (by decide) (fun c => ?_) (fun c => ?_)
    · have hf := g_pos c hf
      obtain ⟨x4_18, ex4_18⟩ : ∃ y : Int32, y = x4 + 1 := ⟨_, rfl⟩
      have hf := g_lt ex4_18 hf
      refine lv_iinc (v := x4_18) (lv' := [(4, .int x4_18), (0, .ref (z + this)), (1, .ref (z + a1)), (2, .int x2), (3, .int x3)]) hx hb dX9_readItem_52 hl (k := 4) rfl (by rw [ex4_18]; rfl) (by decide) rfl (fun ls hl => ?_)
      refine lv_goto (tgt := 13) hx hb dX9_readItem_55 (by decide) ?_
      exact H13 x2 x3 x4_18 σ hf _ _ _ hW hS (lv_sub hl [1, 2, 3, 4, 0] rfl)
    · have hf := g_neg c hf
      refine lv_iconst (v := 0) hx hb dX9_readItem_50 (by decide) ?_
      exact q_zret hx hb hr hlocks hW hS hf dX9_readItem_51
  have B13 : ∀ (nn : Nat) (x2 : Int32) (x3 : Int32) (x4 : Int32) (σ : Mm), b_X9_readItem_13 Y fu this a1 nn x2 x3 x4 σ = some (r, σ1) → ∀ (H : Heap) (locs : List Loc) (ls : Array Slot), WH z n D cy Y σ H → va_S (Az z) s.heap H locs → lv_has ls 5 [(0, .ref (z + this)), (1, .ref (z + a1)), (2, .int x2), (3, .int x3), (4, .int x4)] → W p l e ({ frames := 5, cells := 0, slots := 0, locals := 109 } : Room) s m ([.ref (z + this), .ref (z + a1)] : List Value).toArray below meth c H locs 0 0 (MQ below (va_Qi (fun (x : Int32) (_ : Unit) => x = r) (fun _ t => WH z n D cy Y σ1 t.heap) (Az z)) ([.ref (z + this), .ref (z + a1)] : List Value).toArray s 0 0 (Az z)) (F0 m 13 ls []) := by
    intro nn
    induction nn with
    | zero =>
      intro x2 x3 x4 σ  hf
      have h9 : (none : Option (Int32 × Mm)) = some (r, σ1) := hf
      cases h9
    | succ nn H13 =>
      intro x2 x3 x4 σ  hf H locs ls hW hS hl
      have hf : s_X9_readItem_13 Y fu this a1 (b_X9_readItem_13 Y fu this a1 nn) x2 x3 x4 σ = some (r, σ1) := hf
      generalize hkk : b_X9_readItem_13 Y fu this a1 nn = k13 at hf H13
      refine lv_iload hx hb dX9_readItem_13 (lv_at hl 4 rfl) ?_
      refine lv_iload_n hx hb dX9_readItem_15 rfl (lv_at hl 3 rfl) ?_
      refine lv_icmp_ge (tgt := 58) hx hb dX9_readItem_16 (by decide) (fun c => ?_) (fun c => ?_)
      · have hf := g_pos c hf
        refine lv_iload_n hx hb dX9_readItem_58 rfl (lv_at hl 3 rfl) ?_
        refine lv_if_le (tgt := 78) hx hb dX9_readItem_59 (by decide) (fun c => ?_) (fun c => ?_)
        · have hf := g_pos c hf
          refine lv_iconst (v := 0) hx hb dX9_readItem_78 (by decide) ?_
          exact q_zret hx hb hr hlocks hW hS hf dX9_readItem_79
        · have hf := g_neg c hf
          refine lv_aload_n hx hb dX9_readItem_62 rfl (lv_at hl 1 rfl) ?_
          refine lv_iload_n hx hb dX9_readItem_63 rfl (lv_at hl 2 rfl) ?_
          refine lv_aload_n hx hb dX9_readItem_64 rfl (lv_at hl 0 rfl) ?_
          refine q_getp (own := RX9) (ref := RX9) (C := RX9) (T := TX9) (N := 4) (kc := 6) (ci := 0) hx hb hts hin9 hown hK hW h_this (by decide) rfl 3 (by decide) hw0 rfl rfl rfl (v := 11) rfl dX9_readItem_65 (fun hk_7 hq_8 => ?_)
          obtain ⟨r_11, σ_10, hc_9, hf⟩ := g_bnd hf
          refine q_calli (va_runV (As := [.int x2, .ref (z + 11)]) (rest := []) ⟨hx, hb, hml, hown, hts⟩ (k_X4_put l z n D cy Y h_a1 hk_7 hc_9) (cwV 2 hts gX9_readItem_X4_put rfl rfl rfl (by decide +kernel) ⟨Nat.le_of_ble_eq_true rfl, Nat.le_of_ble_eq_true rfl⟩) (q_PV (T := TX4) (N := 12) hK hN hW h_a1 (by decide) rfl) rfl rfl hl.1 rfl (lv_room (Nat.le_of_ble_eq_true rfl)) dX9_readItem_68 ⟨Nat.le_refl _, Nat.le_refl _⟩) hS (fun H locs hW hS => ?_)
          refine lv_if_eq (tgt := 78) hx hb dX9_readItem_71 (by decide) (fun c => ?_) (fun c => ?_)
          · have hf := g_pos c hf
            refine lv_iconst (v := 0) hx hb dX9_readItem_78 (by decide) ?_
            exact q_zret hx hb hr hlocks hW hS hf dX9_readItem_79
          · have hf := g_neg c hf
            refine lv_iconst (v := 1) hx hb dX9_readItem_74 (by decide) ?_
            refine lv_goto (tgt := 79) hx hb dX9_readItem_75 (by decide) ?_
            exact q_zret hx hb hr hlocks hW hS hf dX9_readItem_79
      · have hf := g_neg c hf
        refine lv_aload_n hx hb dX9_readItem_19 rfl (lv_at hl 0 rfl) ?_
        refine lv_iload hx hb dX9_readItem_20 (lv_at hl 4 rfl) ?_
        obtain ⟨r_14, σ_13, hc_12, hf⟩ := g_bnd hf
        refine q_calli (va_runV (As := [.int x4]) (rest := []) ⟨hx, hb, hml, hown, hts⟩ (k_X9_readNumber l z n D cy Y h_this hc_12) (cwV 1 hts gX9_readItem_X9_readNumber rfl rfl rfl (by decide +kernel) ⟨Nat.le_of_ble_eq_true rfl, Nat.le_of_ble_eq_true rfl⟩) (q_PV (T := TX9) (N := 4) hK hN hW h_this (by decide) rfl) rfl rfl hl.1 rfl (lv_room (Nat.le_of_ble_eq_true rfl)) dX9_readItem_22 ⟨Nat.le_refl _, Nat.le_refl _⟩) hS (fun H locs hW hS => ?_)
        refine lv_if_eq (tgt := 50) hx hb dX9_readItem_25 (by decide) (fun c => ?_) (fun c => ?_)
        · have hf := g_pos c hf
          refine lv_iconst (v := 0) hx hb dX9_readItem_50 (by decide) ?_
          exact q_zret hx hb hr hlocks hW hS hf dX9_readItem_51
        · have hf := g_neg c hf
          refine lv_aload_n hx hb dX9_readItem_28 rfl (lv_at hl 0 rfl) ?_
          obtain ⟨r_17, σ_16, hc_15, hf⟩ := g_bnd hf
          refine q_calli (va_runV (As := []) (rest := []) ⟨hx, hb, hml, hown, hts⟩ (k_X9_nextByte l z n D cy Y h_this hc_15) (cwV 0 hts gX9_readItem_X9_nextByte rfl rfl rfl (by decide +kernel) ⟨Nat.le_of_ble_eq_true rfl, Nat.le_of_ble_eq_true rfl⟩) (q_PV (T := TX9) (N := 4) hK hN hW h_this (by decide) rfl) rfl rfl hl.1 rfl (lv_room (Nat.le_of_ble_eq_true rfl)) dX9_readItem_29 ⟨Nat.le_refl _, Nat.le_refl _⟩) hS (fun H locs hW hS => ?_)
          refine lv_iload hx hb dX9_readItem_32 (lv_at hl 4 rfl) ?_
          refine lv_iload_n hx hb dX9_readItem_34 rfl (lv_at hl 3 rfl) ?_
          refine lv_iconst (v := 1) hx hb dX9_readItem_35 (by decide) ?_
          refine lv_isub hx hb dX9_readItem_36 ?_
          refine lv_icmp_ge (tgt := 45) hx hb dX9_readItem_37 (by decide) (fun c => ?_) (fun c => ?_)
          · have hf := g_pos c hf
            refine lv_bipush (v := 59) hx hb dX9_readItem_45 (by decide) ?_
            exact B47 k13 H13 x2 x3 x4 59 r_17 σ_16 hf _ _ _ hW hS (lv_sub hl [0, 1, 2, 3, 4] rfl)
          · have hf := g_neg c hf
            refine lv_bipush (v := 44) hx hb dX9_readItem_40 (by decide) ?_
            refine lv_goto (tgt := 47) hx hb dX9_readItem_42 (by decide) ?_
            exact B47 k13 H13 x2 x3 x4 44 r_17 σ_16 hf _ _ _ hW hS (lv_sub hl [0, 1, 2, 3, 4] rfl)
  refine lv_aload_n hx hb dX9_readItem_0 rfl (lv_at hl 0 rfl) ?_
  obtain ⟨r_3, σ_2, hc_1, hf⟩ := g_bnd hf
  refine q_calli (va_runV (As := []) (rest := []) ⟨hx, hb, hml, hown, hts⟩ (k_X9_nextByte l z n D cy Y h_this hc_1) (cwV 0 hts gX9_readItem_X9_nextByte rfl rfl rfl (by decide +kernel) ⟨Nat.le_of_ble_eq_true rfl, Nat.le_of_ble_eq_true rfl⟩) (q_PV (T := TX9) (N := 4) hK hN hW h_this (by decide) rfl) rfl rfl hl.1 rfl (lv_room (Nat.le_of_ble_eq_true rfl)) dX9_readItem_1 ⟨Nat.le_refl _, Nat.le_refl _⟩) hS (fun H locs hW hS => ?_)
  refine lv_istore_n (lv' := [(2, .int r_3), (0, .ref (z + this)), (1, .ref (z + a1))]) hx hb dX9_readItem_4 rfl hl (by decide) rfl (fun ls hl => ?_)
  refine lv_iload_n hx hb dX9_readItem_5 rfl (lv_at hl 0 rfl) ?_
  obtain ⟨r_6, σ_5, hc_4, hf⟩ := g_bnd hf
  refine q_calli (va_runS (As := [.int r_3]) (rest := []) ⟨hx, hb, hml, hown, hts⟩ (k_X9_numbersOf l z n D cy Y hc_4) (va_cwS 1 hts gX9_readItem_X9_numbersOf rfl rfl rfl (by decide +kernel) ⟨Nat.le_of_ble_eq_true rfl, Nat.le_of_ble_eq_true rfl⟩) (q_PS hK hN hW) rfl rfl hl.1 rfl (lv_room (Nat.le_of_ble_eq_true rfl)) dX9_readItem_6 ⟨Nat.le_refl _, Nat.le_refl _⟩) hS (fun H locs hW hS => ?_)
  refine lv_istore_n (lv' := [(3, .int r_6), (2, .int r_3), (0, .ref (z + this)), (1, .ref (z + a1))]) hx hb dX9_readItem_9 rfl hl (by decide) rfl (fun ls hl => ?_)
  refine lv_iconst (v := 0) hx hb dX9_readItem_10 (by decide) ?_
  refine lv_istore (lv' := [(4, .int 0), (3, .int r_6), (2, .int r_3), (0, .ref (z + this)), (1, .ref (z + a1))]) hx hb dX9_readItem_11 hl (by decide) rfl (fun ls hl => ?_)
  exact B13 fu r_3 r_6 0 σ_5 hf _ _ _ hW hS (lv_sub hl [3, 4, 2, 1, 0] rfl)
set_option maxRecDepth 100000 in
set_option maxHeartbeats 40000000 in
theorem k_X9_read (l : Launch) (z n : Nat) (D : va_G) (cy : Nat → ClassId) (Y : Yt) {fu : Nat} {this : Nat} {a1 : Nat} {σ : Mm} {r : Int32} {σ1 : Mm} (h_this : okk Y n 6 this) (h_a1 : okk Y n 2 a1) (hf : f_X9_read Y fu this a1 σ = some (r, σ1)) : Ki l yX9_read wsX9_read ({ frames := 6, cells := 0, slots := 0, locals := 133 } : Room) z n D cy Y [.ref (z + this), .ref (z + a1)] σ r σ1 := by
  refine Met.ofW (cc := cX9_read) (maxL := 4) (ret := (some .int)) (by decide +kernel) rfl ?_
  intro p e s m args below meth c s₁ B hml hv
  obtain ⟨rfl, hW, hK, hN⟩ := hv
  have hx := B.exec
  have hb := B.bytes
  have hr := B.returns
  have hts := atoms_spec (ws := wsX9_read) B.pre
  have hown : s.vm.findClass RX9 = some m.cls := findClass_of_methodNamed B.named
  have hlocks := B.notSynchronized
  have hS : va_S (Az z) s.heap s.heap [] := va_S.rf
  have hin9 : ∀ w ∈ wsX90, w ∈ wsX9_read := fun w h => List.mem_cons_of_mem _ (List.mem_append_left _ (List.mem_append_right _ h))
  have hin4 : ∀ w ∈ wsX40, w ∈ wsX9_read := fun w h => List.mem_cons_of_mem _ (List.mem_append_right _ h)
  have hw0 := hts (.fieldLink RX9 27 "SkyClocks$Text" "place" "I") (List.mem_of_getElem? (i := 1) rfl)
  have hw1 : va_Nw (.fieldLinkNest RX9 34 "SkyClocks$Model" "items" "I" "SkyClocks") s := hN _ (List.mem_of_getElem? (i := 5) rfl)
  have hw2 := hts (.fieldLink RX9 18 "SkyClocks$Text" "length" "I") (List.mem_of_getElem? (i := 2) rfl)
  have hl := lv_entry ([.ref (z + this), .ref (z + a1)]) (n := 4) (Nat.le_of_ble_eq_true rfl)
  rw [lg_entry_eq]
  generalize (lg_sl ([.ref (z + this), .ref (z + a1)]) ++ List.replicate (4 - (lg_sl ([.ref (z + this), .ref (z + a1)])).length) Slot.unset).toArray = ls at hl ⊢
  have hl : lv_has ls 4 [(0, .ref (z + this)), (1, .ref (z + a1))] := hl
  have B50 : ∀ (σ : Mm), b_X9_read_50 Y fu this a1 σ = some (r, σ1) → ∀ (H : Heap) (locs : List Loc) (ls : Array Slot), WH z n D cy Y σ H → va_S (Az z) s.heap H locs → lv_has ls 4 [(0, .ref (z + this)), (1, .ref (z + a1))] → W p l e ({ frames := 6, cells := 0, slots := 0, locals := 133 } : Room) s m ([.ref (z + this), .ref (z + a1)] : List Value).toArray below meth c H locs 0 0 (MQ below (va_Qi (fun (x : Int32) (_ : Unit) => x = r) (fun _ t => WH z n D cy Y σ1 t.heap) (Az z)) ([.ref (z + this), .ref (z + a1)] : List Value).toArray s 0 0 (Az z)) (F0 m 50 ls []) := by
    intro  σ  hf H locs ls hW hS hl
    refine lv_aload_n hx hb dX9_read_50 rfl (lv_at hl 1 rfl) ?_
    refine q_getiN (own := RX9) (ref := RX4) (C := RX4) (T := TX4) (N := 12) (kc := 2) (ci := 0) (host := "SkyClocks") hx hb hts hin4 hown hK hW h_a1 (by decide) rfl 0 (by decide) hw1 rfl rfl dX9_read_51 ?_
    refine lv_if_ne (tgt := 61) hx hb dX9_read_54 (by decide) (fun c => ?_) (fun c => ?_)
    · have hf := g_neg c hf
      refine lv_bipush (v := (-4)) hx hb dX9_read_61 (by decide) ?_
      exact q_iret hx hb hr hlocks hW hS hf dX9_read_63
    · have hf := g_pos c hf
      refine lv_iconst (v := 0) hx hb dX9_read_57 (by decide) ?_
      refine lv_goto (tgt := 63) hx hb dX9_read_58 (by decide) ?_
      exact q_iret hx hb hr hlocks hW hS hf dX9_read_63
  have B11 : ∀ (nn : Nat) (x2 : Int32) (σ : Mm), b_X9_read_11 Y fu this a1 nn x2 σ = some (r, σ1) → ∀ (H : Heap) (locs : List Loc) (ls : Array Slot), WH z n D cy Y σ H → va_S (Az z) s.heap H locs → lv_has ls 4 [(0, .ref (z + this)), (1, .ref (z + a1)), (2, .int x2)] → W p l e ({ frames := 6, cells := 0, slots := 0, locals := 133 } : Room) s m ([.ref (z + this), .ref (z + a1)] : List Value).toArray below meth c H locs 0 0 (MQ below (va_Qi (fun (x : Int32) (_ : Unit) => x = r) (fun _ t => WH z n D cy Y σ1 t.heap) (Az z)) ([.ref (z + this), .ref (z + a1)] : List Value).toArray s 0 0 (Az z)) (F0 m 11 ls []) := by
    intro nn
    induction nn with
    | zero =>
      intro x2 σ  hf
      have h9 : (none : Option (Int32 × Mm)) = some (r, σ1) := hf
      cases h9
    | succ nn H11 =>
      intro x2 σ  hf H locs ls hW hS hl
      have hf : s_X9_read_11 Y fu this a1 (b_X9_read_11 Y fu this a1 nn) x2 σ = some (r, σ1) := hf
      generalize hkk : b_X9_read_11 Y fu this a1 nn = k11 at hf H11
      refine lv_iload_n hx hb dX9_read_11 rfl (lv_at hl 2 rfl) ?_
      refine lv_sipush (v := 200) hx hb dX9_read_12 (by decide) ?_
      refine lv_icmp_ge (tgt := 50) hx hb dX9_read_15 (by decide) (fun c => ?_) (fun c => ?_)
      · have hf := g_pos c hf
        exact B50 σ hf _ _ _ hW hS (lv_sub hl [0, 1] rfl)
      · have hf := g_neg c hf
        refine lv_aload_n hx hb dX9_read_18 rfl (lv_at hl 0 rfl) ?_
        refine q_geti (own := RX9) (ref := RX9) (C := RX9) (T := TX9) (N := 4) (kc := 6) (ci := 0) hx hb hts hin9 hown hK hW h_this (by decide) rfl 2 (by decide) hw0 rfl rfl dX9_read_19 ?_
        refine lv_aload_n hx hb dX9_read_22 rfl (lv_at hl 0 rfl) ?_
        refine q_geti (own := RX9) (ref := RX9) (C := RX9) (T := TX9) (N := 4) (kc := 6) (ci := 0) hx hb hts hin9 hown hK hW h_this (by decide) rfl 1 (by decide) hw2 rfl rfl dX9_read_23 ?_
        refine lv_icmp_ge (tgt := 50) hx hb dX9_read_26 (by decide) (fun c => ?_) (fun c => ?_)
        · have hf := g_pos c hf
          exact B50 σ hf _ _ _ hW hS (lv_sub hl [0, 1] rfl)
        · have hf := g_neg c hf
          refine lv_aload_n hx hb dX9_read_29 rfl (lv_at hl 0 rfl) ?_
          refine q_geti (own := RX9) (ref := RX9) (C := RX9) (T := TX9) (N := 4) (kc := 6) (ci := 0) hx hb hts hin9 hown hK hW h_this (by decide) rfl 2 (by decide) hw0 rfl rfl dX9_read_30 ?_
          refine lv_topi (fun x3_4 ex3_4 => ?_)
          have hf := g_lt ex3_4 hf
          refine lv_istore_n (lv' := [(3, .int x3_4), (0, .ref (z + this)), (1, .ref (z + a1)), (2, .int x2)]) hx hb dX9_read_33 rfl hl (by decide) rfl (fun ls hl => ?_)
          refine lv_aload_n hx hb dX9_read_34 rfl (lv_at hl 1 rfl) ?_
          refine lv_aload_n hx hb dX9_read_35 rfl (lv_at hl 2 rfl) ?_
          obtain ⟨r_7, σ_6, hc_5, hf⟩ := g_bnd hf
          refine q_calli (va_runV (As := [.ref (z + a1)]) (rest := []) ⟨hx, hb, hml, hown, hts⟩ (k_X9_readItem l z n D cy Y h_this h_a1 hc_5) (cwV 1 hts gX9_read_X9_readItem rfl rfl rfl (by decide +kernel) ⟨Nat.le_of_ble_eq_true rfl, Nat.le_of_ble_eq_true rfl⟩) (q_PV (T := TX9) (N := 4) hK hN hW h_this (by decide) rfl) rfl rfl hl.1 rfl (lv_room (Nat.le_of_ble_eq_true rfl)) dX9_read_36 ⟨Nat.le_refl _, Nat.le_refl _⟩) hS (fun H locs hW hS => ?_)
          refine lv_if_ne (tgt := 44) hx hb dX9_read_39 (by decide) (fun c => ?_) (fun c => ?_)
          · have hf := g_neg c hf
            obtain ⟨x2_8, ex2_8⟩ : ∃ y : Int32, y = x2 + 1 := ⟨_, rfl⟩
            have hf := g_lt ex2_8 hf
            refine lv_iinc (v := x2_8) (lv' := [(2, .int x2_8), (3, .int x3_4), (0, .ref (z + this)), (1, .ref (z + a1))]) hx hb dX9_read_44 hl (k := 3) rfl (by rw [ex2_8]; rfl) (by decide) rfl (fun ls hl => ?_)
            refine lv_goto (tgt := 11) hx hb dX9_read_47 (by decide) ?_
            exact H11 x2_8 σ_6 hf _ _ _ hW hS (lv_sub hl [2, 3, 0] rfl)
          · have hf := g_pos c hf
            refine lv_iload_n hx hb dX9_read_42 rfl (lv_at hl 0 rfl) ?_
            exact q_iret hx hb hr hlocks hW hS hf dX9_read_43
  refine lv_aload_n hx hb dX9_read_0 rfl (lv_at hl 1 rfl) ?_
  obtain ⟨σ_2, hc_1, hf⟩ := g_bn1 hf
  refine q_callv (va_runV (As := []) (rest := []) ⟨hx, hb, hml, hown, hts⟩ (k_X4_empty l z n D cy Y h_a1 hc_1) (cwV 0 hts gX9_read_X4_empty rfl rfl rfl (by decide +kernel) ⟨Nat.le_of_ble_eq_true rfl, Nat.le_of_ble_eq_true rfl⟩) (q_PV (T := TX4) (N := 12) hK hN hW h_a1 (by decide) rfl) rfl rfl hl.1 rfl (lv_room (Nat.le_of_ble_eq_true rfl)) dX9_read_1 ⟨Nat.le_refl _, Nat.le_refl _⟩) hS (fun H locs hW hS => ?_)
  refine lv_aload_n hx hb dX9_read_4 rfl (lv_at hl 0 rfl) ?_
  refine lv_iconst (v := 0) hx hb dX9_read_5 (by decide) ?_
  refine q_puti (own := RX9) (ref := RX9) (C := RX9) (T := TX9) (N := 4) (kc := 6) (ci := 0) hx hb hts hin9 tyX9_ok nmX9 hown hK hW hS h_this (by decide) rfl 2 (by decide) hw0 rfl rfl (ty := .int) (tyX9_ok 2 (by decide)) rfl rfl rfl dX9_read_6 (fun H locs hW hS => ?_)
  obtain ⟨σ_3, eσ_3⟩ : ∃ y : Mm, y = (Mm.si σ_2 this 2 0) := ⟨_, rfl⟩
  rw [← eσ_3] at hW
  have hf := g_lt eσ_3 hf
  refine lv_iconst (v := 0) hx hb dX9_read_9 (by decide) ?_
  refine lv_istore_n (lv' := [(2, .int 0), (0, .ref (z + this)), (1, .ref (z + a1))]) hx hb dX9_read_10 rfl hl (by decide) rfl (fun ls hl => ?_)
  exact B11 fu 0 σ_3 hf _ _ _ hW hS (lv_sub hl [1, 2, 0] rfl)
set_option maxRecDepth 100000 in
set_option maxHeartbeats 40000000 in
theorem k_X10_stands (l : Launch) (z n : Nat) (D : va_G) (cy : Nat → ClassId) (Y : Yt) {this : Nat} {σ : Mm} {r : Int32} {σ1 : Mm} (h_this : okk Y n 7 this) (hf : f_X10_stands Y this σ = some (r, σ1)) : Ki l yX10_stands wsX10_stands ({ frames := 0, cells := 0, slots := 0, locals := 0 } : Room) z n D cy Y [.ref (z + this)] σ r σ1 := by
  refine Met.ofW (cc := cX10_stands) (maxL := 1) (ret := (some .boolean)) (by decide +kernel) rfl ?_
  intro p e s m args below meth c s₁ B hml hv
  obtain ⟨rfl, hW, hK, hN⟩ := hv
  have hx := B.exec
  have hb := B.bytes
  have hr := B.returns
  have hts := atoms_spec (ws := wsX10_stands) B.pre
  have hown : s.vm.findClass RX10 = some m.cls := findClass_of_methodNamed B.named
  have hlocks := B.notSynchronized
  have hS : va_S (Az z) s.heap s.heap [] := va_S.rf
  have hin10 : ∀ w ∈ wsX100, w ∈ wsX10_stands := fun w h => List.mem_cons_of_mem _ (List.mem_append_right _ h)
  have hw0 := hts (.fieldLink RX10 22 "SkyClocks$Turns" "turns" "I") (List.mem_of_getElem? (i := 1) rfl)
  have hl := lv_entry ([.ref (z + this)]) (n := 1) (Nat.le_of_ble_eq_true rfl)
  rw [lg_entry_eq]
  generalize (lg_sl ([.ref (z + this)]) ++ List.replicate (1 - (lg_sl ([.ref (z + this)])).length) Slot.unset).toArray = ls at hl ⊢
  have hl : lv_has ls 1 [(0, .ref (z + this))] := hl
  refine lv_aload_n hx hb dX10_stands_0 rfl (lv_at hl 0 rfl) ?_
  refine q_geti (own := RX10) (ref := RX10) (C := RX10) (T := TX10) (N := 3) (kc := 7) (ci := 0) hx hb hts hin10 hown hK hW h_this (by decide) rfl 2 (by decide) hw0 rfl rfl dX10_stands_1 ?_
  refine lv_if_le (tgt := 11) hx hb dX10_stands_4 (by decide) (fun c => ?_) (fun c => ?_)
  · have hf := g_pos c hf
    refine lv_iconst (v := 0) hx hb dX10_stands_11 (by decide) ?_
    exact q_zret hx hb hr hlocks hW hS hf dX10_stands_12
  · have hf := g_neg c hf
    refine lv_iconst (v := 1) hx hb dX10_stands_7 (by decide) ?_
    refine lv_goto (tgt := 12) hx hb dX10_stands_8 (by decide) ?_
    exact q_zret hx hb hr hlocks hW hS hf dX10_stands_12
set_option maxRecDepth 100000 in
set_option maxHeartbeats 40000000 in
theorem k_X10_exchange (l : Launch) (z n : Nat) (D : va_G) (cy : Nat → ClassId) (Y : Yt) {fu : Nat} {this : Nat} {a1 : Nat} {σ : Mm} {r : Nat} {σ1 : Mm} (h_this : okk Y n 7 this) (h_a1 : okk Y n 2 a1) (hf : f_X10_exchange Y fu this a1 σ = some (r, σ1)) : Kr 2 l yX10_exchange wsX10_exchange ({ frames := 2, cells := 0, slots := 0, locals := 86 } : Room) z n D cy Y [.ref (z + this), .ref (z + a1)] σ r σ1 := by
  refine Met.ofW (cc := cX10_exchange) (maxL := 5) (ret := (some (.object "SkyClocks$Model"))) (by decide +kernel) rfl ?_
  intro p e s m args below meth c s₁ B hml hv
  obtain ⟨rfl, hW, hK, hN⟩ := hv
  have hx := B.exec
  have hb := B.bytes
  have hr := B.returns
  have hts := atoms_spec (ws := wsX10_exchange) B.pre
  have hown : s.vm.findClass RX10 = some m.cls := findClass_of_methodNamed B.named
  have hlocks := B.notSynchronized
  have hS : va_S (Az z) s.heap s.heap [] := va_S.rf
  have hin10 : ∀ w ∈ wsX100, w ∈ wsX10_exchange := fun w h => List.mem_cons_of_mem _ (List.mem_append_left _ (List.mem_append_right _ h))
  have hin4 : ∀ w ∈ wsX40, w ∈ wsX10_exchange := fun w h => List.mem_cons_of_mem _ (List.mem_append_right _ h)
  have hw0 := hts (.fieldLink RX10 18 "SkyClocks$Turns" "model" "LSkyClocks$Model;") (List.mem_of_getElem? (i := 1) rfl)
  have hw1 := hts (.fieldLink RX10 11 "SkyClocks$Turns" "begins" "[J") (List.mem_of_getElem? (i := 2) rfl)
  have hw2 : va_Nw (.fieldLinkNest RX10 26 "SkyClocks$Model" "zero" "I" "SkyClocks") s := hN _ (List.mem_of_getElem? (i := 7) rfl)
  have hw3 := hts (.constantLong RX10 29 (1000000)) (List.mem_of_getElem? (i := 3) rfl)
  have hw4 := hts (.fieldLink RX10 22 "SkyClocks$Turns" "turns" "I") (List.mem_of_getElem? (i := 4) rfl)
  have hw5 := hts (.constantLong RX10 35 (2000000000000)) (List.mem_of_getElem? (i := 5) rfl)
  have hl := lv_entry ([.ref (z + this), .ref (z + a1)]) (n := 5) (Nat.le_of_ble_eq_true rfl)
  rw [lg_entry_eq]
  generalize (lg_sl ([.ref (z + this), .ref (z + a1)]) ++ List.replicate (5 - (lg_sl ([.ref (z + this), .ref (z + a1)])).length) Slot.unset).toArray = ls at hl ⊢
  have hl : lv_has ls 5 [(0, .ref (z + this)), (1, .ref (z + a1))] := hl
  have B30 : ∀ (nn : Nat) (x2 : Nat) (σ : Mm), okk Y n 2 x2 → b_X10_exchange_30 Y fu this a1 nn x2 σ = some (r, σ1) → ∀ (H : Heap) (locs : List Loc) (ls : Array Slot), WH z n D cy Y σ H → va_S (Az z) s.heap H locs → lv_has ls 5 [(0, .ref (z + this)), (1, .ref (z + a1)), (2, .ref (z + x2))] → W p l e ({ frames := 2, cells := 0, slots := 0, locals := 86 } : Room) s m ([.ref (z + this), .ref (z + a1)] : List Value).toArray below meth c H locs 0 0 (MQ below (va_Qr (fun (_ : Unit) => True) (fun _ b t => b = z + r ∧ okk Y n 2 r ∧ WH z n D cy Y σ1 t.heap) (Az z)) ([.ref (z + this), .ref (z + a1)] : List Value).toArray s 0 0 (Az z)) (F0 m 30 ls []) := by
    intro nn
    induction nn with
    | zero =>
      intro x2 σ h_x2 hf
      have h9 : (none : Option (Nat × Mm)) = some (r, σ1) := hf
      cases h9
    | succ nn H30 =>
      intro x2 σ h_x2 hf H locs ls hW hS hl
      have hf : s_X10_exchange_30 Y fu this a1 (b_X10_exchange_30 Y fu this a1 nn) x2 σ = some (r, σ1) := hf
      generalize hkk : b_X10_exchange_30 Y fu this a1 nn = k30 at hf H30
      refine lv_aload_n hx hb dX10_exchange_30 rfl (lv_at hl 0 rfl) ?_
      refine q_geti (own := RX10) (ref := RX10) (C := RX10) (T := TX10) (N := 3) (kc := 7) (ci := 0) hx hb hts hin10 hown hK hW h_this (by decide) rfl 2 (by decide) hw4 rfl rfl dX10_exchange_31 ?_
      refine lv_sipush (v := 10000) hx hb dX10_exchange_34 (by decide) ?_
      refine lv_icmp_gt (tgt := 108) hx hb dX10_exchange_37 (by decide) (fun c => ?_) (fun c => ?_)
      · have hf := g_pos c hf
        refine lv_aload_n hx hb dX10_exchange_108 rfl (lv_at hl 2 rfl) ?_
        exact q_aret hx hb hr (Or.inl ⟨_, rfl⟩) hlocks h_x2 hW hS hf dX10_exchange_109
      · have hf := g_neg c hf
        refine lv_aload_n hx hb dX10_exchange_40 rfl (lv_at hl 0 rfl) ?_
        refine q_getp (own := RX10) (ref := RX10) (C := RX10) (T := TX10) (N := 3) (kc := 7) (ci := 0) hx hb hts hin10 hown hK hW h_this (by decide) rfl 0 (by decide) hw1 rfl rfl rfl (v := (this + 1)) rfl dX10_exchange_41 (fun hk_8 hq_9 => ?_)
        refine lv_aload_n hx hb dX10_exchange_44 rfl (lv_at hl 0 rfl) ?_
        refine q_geti (own := RX10) (ref := RX10) (C := RX10) (T := TX10) (N := 3) (kc := 7) (ci := 0) hx hb hts hin10 hown hK hW h_this (by decide) rfl 2 (by decide) hw4 rfl rfl dX10_exchange_45 ?_
        refine lv_iconst (v := 1) hx hb dX10_exchange_48 (by decide) ?_
        refine lv_isub hx hb dX10_exchange_49 ?_
        obtain ⟨hi_10, hf⟩ := g_in hf
        refine q_lald hx hb hK hW hk_8 (inb_of hq_9 hi_10) dX10_exchange_50 ?_
        refine lv_aload_n hx hb dX10_exchange_51 rfl (lv_at hl 1 rfl) ?_
        refine lv_aload_n hx hb dX10_exchange_52 rfl (lv_at hl 0 rfl) ?_
        refine q_geti (own := RX10) (ref := RX10) (C := RX10) (T := TX10) (N := 3) (kc := 7) (ci := 0) hx hb hts hin10 hown hK hW h_this (by decide) rfl 2 (by decide) hw4 rfl rfl dX10_exchange_53 ?_
        refine lv_iconst (v := 1) hx hb dX10_exchange_56 (by decide) ?_
        refine lv_isub hx hb dX10_exchange_57 ?_
        refine lv_aload_n hx hb dX10_exchange_58 rfl (lv_at hl 0 rfl) ?_
        refine q_getp (own := RX10) (ref := RX10) (C := RX10) (T := TX10) (N := 3) (kc := 7) (ci := 0) hx hb hts hin10 hown hK hW h_this (by decide) rfl 0 (by decide) hw1 rfl rfl rfl (v := (this + 1)) rfl dX10_exchange_59 (fun hk_11 hq_12 => ?_)
        refine lv_aload_n hx hb dX10_exchange_62 rfl (lv_at hl 0 rfl) ?_
        refine q_geti (own := RX10) (ref := RX10) (C := RX10) (T := TX10) (N := 3) (kc := 7) (ci := 0) hx hb hts hin10 hown hK hW h_this (by decide) rfl 2 (by decide) hw4 rfl rfl dX10_exchange_63 ?_
        refine lv_iconst (v := 1) hx hb dX10_exchange_66 (by decide) ?_
        refine lv_isub hx hb dX10_exchange_67 ?_
        obtain ⟨hi_13, hf⟩ := g_in hf
        refine q_lald hx hb hK hW hk_11 (inb_of hq_12 hi_13) dX10_exchange_68 ?_
        obtain ⟨r_16, σ_15, hc_14, hf⟩ := g_bnd hf
        refine q_calll (va_runV (As := [.int ((Mm.gi σ this 2) - 1), .long (Mm.gl σ (this + 1) (ix ((Mm.gi σ this 2) - 1)))]) (rest := [.long (Mm.gl σ (this + 1) (ix ((Mm.gi σ this 2) - 1)))]) ⟨hx, hb, hml, hown, hts⟩ (k_X4_lengthOf l z n D cy Y h_a1 hc_14) (cwV 2 hts gX10_exchange_X4_lengthOf rfl rfl rfl (by decide +kernel) ⟨Nat.le_of_ble_eq_true rfl, Nat.le_of_ble_eq_true rfl⟩) (q_PV (T := TX4) (N := 12) hK hN hW h_a1 (by decide) rfl) rfl rfl hl.1 rfl (lv_room (Nat.le_of_ble_eq_true rfl)) dX10_exchange_69 ⟨Nat.le_refl _, Nat.le_refl _⟩) hS (fun H locs hW hS => ?_)
        refine lv_ladd hx hb dX10_exchange_72 ?_
        refine lv_topl (fun x3_17 ex3_17 => ?_)
        have hf := g_lt ex3_17 hf
        refine lv_lstore_n (lv' := [(3, .long x3_17), (0, .ref (z + this)), (1, .ref (z + a1)), (2, .ref (z + x2))]) hx hb dX10_exchange_73 rfl hl (by decide) rfl (fun ls hl => ?_)
        refine lv_lload_n hx hb dX10_exchange_74 rfl (lv_at hl 0 rfl) ?_
        refine lv_ldc2 hx hb hown hw5 dX10_exchange_75 ?_
        refine W.lcmp hx hb dX10_exchange_78 ?_
        refine lv_if_le (tgt := 85) hx hb dX10_exchange_79 (by decide) (fun c => ?_) (fun c => ?_)
        · have hf := g_pos ((lg_cmp_le _ _).mp c) hf
          refine lv_aload_n hx hb dX10_exchange_85 rfl (lv_at hl 1 rfl) ?_
          refine q_getp (own := RX10) (ref := RX10) (C := RX10) (T := TX10) (N := 3) (kc := 7) (ci := 0) hx hb hts hin10 hown hK hW h_this (by decide) rfl 0 (by decide) hw1 rfl rfl rfl (v := (this + 1)) rfl dX10_exchange_86 (fun hk_18 hq_19 => ?_)
          refine lv_aload_n hx hb dX10_exchange_89 rfl (lv_at hl 1 rfl) ?_
          refine q_geti (own := RX10) (ref := RX10) (C := RX10) (T := TX10) (N := 3) (kc := 7) (ci := 0) hx hb hts hin10 hown hK hW h_this (by decide) rfl 2 (by decide) hw4 rfl rfl dX10_exchange_90 ?_
          refine lv_lload_n hx hb dX10_exchange_93 rfl (lv_at hl 0 rfl) ?_
          obtain ⟨hi_20, hf⟩ := g_in hf
          refine q_last hx hb hK hW hS hk_18 (inb_of hq_19 hi_20) dX10_exchange_94 (fun H locs hW hS => ?_)
          obtain ⟨σ_21, eσ_21⟩ : ∃ y : Mm, y = (Mm.sl σ_15 (this + 1) (ix (Mm.gi σ_15 this 2)) x3_17) := ⟨_, rfl⟩
          rw [← eσ_21] at hW
          have hf := g_lt eσ_21 hf
          refine lv_aload_n hx hb dX10_exchange_95 rfl (lv_at hl 1 rfl) ?_
          refine lv_dup hx hb dX10_exchange_96 rfl ?_
          refine q_geti (own := RX10) (ref := RX10) (C := RX10) (T := TX10) (N := 3) (kc := 7) (ci := 0) hx hb hts hin10 hown hK hW h_this (by decide) rfl 2 (by decide) hw4 rfl rfl dX10_exchange_97 ?_
          refine lv_iconst (v := 1) hx hb dX10_exchange_100 (by decide) ?_
          refine lv_iadd hx hb dX10_exchange_101 ?_
          refine q_puti (own := RX10) (ref := RX10) (C := RX10) (T := TX10) (N := 3) (kc := 7) (ci := 0) hx hb hts hin10 tyX10_ok nmX10 hown hK hW hS h_this (by decide) rfl 2 (by decide) hw4 rfl rfl (ty := .int) (tyX10_ok 2 (by decide)) rfl rfl rfl dX10_exchange_102 (fun H locs hW hS => ?_)
          obtain ⟨σ_22, eσ_22⟩ : ∃ y : Mm, y = (Mm.si σ_21 this 2 ((Mm.gi σ_21 this 2) + 1)) := ⟨_, rfl⟩
          rw [← eσ_22] at hW
          have hf := g_lt eσ_22 hf
          refine lv_goto (tgt := 30) hx hb dX10_exchange_105 (by decide) ?_
          exact H30 x2 σ_22 h_x2 hf _ _ _ hW hS (lv_sub hl [1, 2, 3] rfl)
        · have hf := g_neg (fun h => c ((lg_cmp_le _ _).mpr h)) hf
          refine lv_goto (tgt := 108) hx hb dX10_exchange_82 (by decide) ?_
          refine lv_aload_n hx hb dX10_exchange_108 rfl (lv_at hl 3 rfl) ?_
          exact q_aret hx hb hr (Or.inl ⟨_, rfl⟩) hlocks h_x2 hW hS hf dX10_exchange_109
  refine lv_aload_n hx hb dX10_exchange_0 rfl (lv_at hl 0 rfl) ?_
  refine q_getr (own := RX10) (ref := RX10) (C := RX10) (T := TX10) (N := 3) (kc := 7) (ci := 0) hx hb hts hin10 hown hK hW h_this (by decide) rfl 1 (by decide) hw0 rfl rfl dX10_exchange_1 (fun hk_1 => ?_)
  refine lv_astore_n (lv' := [(2, .ref (z + (Mm.gr σ this 1))), (0, .ref (z + this)), (1, .ref (z + a1))]) hx hb dX10_exchange_4 rfl hl (by decide) rfl (fun ls hl => ?_)
  refine lv_aload_n hx hb dX10_exchange_5 rfl (lv_at hl 1 rfl) ?_
  refine lv_aload_n hx hb dX10_exchange_6 rfl (lv_at hl 2 rfl) ?_
  refine q_putr (own := RX10) (ref := RX10) (C := RX10) (T := TX10) (N := 3) (kc := 7) (ci := 0) hx hb hts hin10 tyX10_ok nmX10 hown hK hW hS h_this (by decide) rfl 1 (by decide) hw0 rfl rfl (ty := tyX10 1) (tyX10_ok 1 (by decide)) rfl rfl rfl rfl h_a1 dX10_exchange_7 (fun H locs hW hS => ?_)
  obtain ⟨σ_2, eσ_2⟩ : ∃ y : Mm, y = (Mm.sr σ this 1 a1) := ⟨_, rfl⟩
  rw [← eσ_2] at hW
  have hf := g_lt eσ_2 hf
  refine lv_aload_n hx hb dX10_exchange_10 rfl (lv_at hl 1 rfl) ?_
  refine q_getp (own := RX10) (ref := RX10) (C := RX10) (T := TX10) (N := 3) (kc := 7) (ci := 0) hx hb hts hin10 hown hK hW h_this (by decide) rfl 0 (by decide) hw1 rfl rfl rfl (v := (this + 1)) rfl dX10_exchange_11 (fun hk_3 hq_4 => ?_)
  refine lv_iconst (v := 0) hx hb dX10_exchange_14 (by decide) ?_
  refine lv_aload_n hx hb dX10_exchange_15 rfl (lv_at hl 2 rfl) ?_
  refine q_getiN (own := RX10) (ref := RX4) (C := RX4) (T := TX4) (N := 12) (kc := 2) (ci := 0) (host := "SkyClocks") hx hb hts hin4 hown hK hW h_a1 (by decide) rfl 2 (by decide) hw2 rfl rfl dX10_exchange_16 ?_
  refine lv_i2l hx hb dX10_exchange_19 rfl ?_
  refine lv_ldc2 hx hb hown hw3 dX10_exchange_20 ?_
  refine lv_lmul hx hb dX10_exchange_23 ?_
  obtain ⟨hi_5, hf⟩ := g_in hf
  refine q_last hx hb hK hW hS hk_3 (inb_of hq_4 hi_5) dX10_exchange_24 (fun H locs hW hS => ?_)
  obtain ⟨σ_6, eσ_6⟩ : ∃ y : Mm, y = (Mm.sl σ_2 (this + 1) (ix 0) ((Int32.toInt64 (Mm.gi σ_2 a1 2)) * 1000000)) := ⟨_, rfl⟩
  rw [← eσ_6] at hW
  have hf := g_lt eσ_6 hf
  refine lv_aload_n hx hb dX10_exchange_25 rfl (lv_at hl 1 rfl) ?_
  refine lv_iconst (v := 1) hx hb dX10_exchange_26 (by decide) ?_
  refine q_puti (own := RX10) (ref := RX10) (C := RX10) (T := TX10) (N := 3) (kc := 7) (ci := 0) hx hb hts hin10 tyX10_ok nmX10 hown hK hW hS h_this (by decide) rfl 2 (by decide) hw4 rfl rfl (ty := .int) (tyX10_ok 2 (by decide)) rfl rfl rfl dX10_exchange_27 (fun H locs hW hS => ?_)
  obtain ⟨σ_7, eσ_7⟩ : ∃ y : Mm, y = (Mm.si σ_6 this 2 1) := ⟨_, rfl⟩
  rw [← eσ_7] at hW
  have hf := g_lt eσ_7 hf
  exact B30 fu (Mm.gr σ this 1) σ_7 hk_1 hf _ _ _ hW hS (lv_sub hl [1, 2, 0] rfl)
set_option maxRecDepth 100000 in
set_option maxHeartbeats 40000000 in
theorem k_X10_comesAt (l : Launch) (z n : Nat) (D : va_G) (cy : Nat → ClassId) (Y : Yt) {fu : Nat} {this : Nat} {a1 : Int32} {σ : Mm} {r : Int64} {σ1 : Mm} (h_this : okk Y n 7 this) (hf : f_X10_comesAt Y fu this a1 σ = some (r, σ1)) : Kl l yX10_comesAt wsX10_comesAt ({ frames := 1, cells := 0, slots := 0, locals := 26 } : Room) z n D cy Y [.ref (z + this), .int a1] σ r σ1 := by
  refine Met.ofW (cc := cX10_comesAt) (maxL := 2) (ret := (some .long)) (by decide +kernel) rfl ?_
  intro p e s m args below meth c s₁ B hml hv
  obtain ⟨rfl, hW, hK, hN⟩ := hv
  have hx := B.exec
  have hb := B.bytes
  have hr := B.returns
  have hts := atoms_spec (ws := wsX10_comesAt) B.pre
  have hown : s.vm.findClass RX10 = some m.cls := findClass_of_methodNamed B.named
  have hlocks := B.notSynchronized
  have hS : va_S (Az z) s.heap s.heap [] := va_S.rf
  have hin10 : ∀ w ∈ wsX100, w ∈ wsX10_comesAt := fun w h => List.mem_cons_of_mem _ (List.mem_append_left _ (List.mem_append_right _ h))
  have hw0 := hts (.fieldLink RX10 11 "SkyClocks$Turns" "begins" "[J") (List.mem_of_getElem? (i := 1) rfl)
  have hw1 := hts (.fieldLink RX10 18 "SkyClocks$Turns" "model" "LSkyClocks$Model;") (List.mem_of_getElem? (i := 2) rfl)
  have hl := lv_entry ([.ref (z + this), .int a1]) (n := 2) (Nat.le_of_ble_eq_true rfl)
  rw [lg_entry_eq]
  generalize (lg_sl ([.ref (z + this), .int a1]) ++ List.replicate (2 - (lg_sl ([.ref (z + this), .int a1])).length) Slot.unset).toArray = ls at hl ⊢
  have hl : lv_has ls 2 [(0, .ref (z + this)), (1, .int a1)] := hl
  refine lv_aload_n hx hb dX10_comesAt_0 rfl (lv_at hl 0 rfl) ?_
  refine q_getp (own := RX10) (ref := RX10) (C := RX10) (T := TX10) (N := 3) (kc := 7) (ci := 0) hx hb hts hin10 hown hK hW h_this (by decide) rfl 0 (by decide) hw0 rfl rfl rfl (v := (this + 1)) rfl dX10_comesAt_1 (fun hk_1 hq_2 => ?_)
  refine lv_iload_n hx hb dX10_comesAt_4 rfl (lv_at hl 1 rfl) ?_
  obtain ⟨hi_3, hf⟩ := g_in hf
  refine q_lald hx hb hK hW hk_1 (inb_of hq_2 hi_3) dX10_comesAt_5 ?_
  refine lv_aload_n hx hb dX10_comesAt_6 rfl (lv_at hl 0 rfl) ?_
  refine q_getr (own := RX10) (ref := RX10) (C := RX10) (T := TX10) (N := 3) (kc := 7) (ci := 0) hx hb hts hin10 hown hK hW h_this (by decide) rfl 1 (by decide) hw1 rfl rfl dX10_comesAt_7 (fun hk_4 => ?_)
  refine lv_iload_n hx hb dX10_comesAt_10 rfl (lv_at hl 1 rfl) ?_
  obtain ⟨r_7, σ_6, hc_5, hf⟩ := g_bnd hf
  refine q_calll (va_runV (As := [.int a1]) (rest := [.long (Mm.gl σ (this + 1) (ix a1))]) ⟨hx, hb, hml, hown, hts⟩ (k_X4_lateOf l z n D cy Y hk_4 hc_5) (cwV 1 hts gX10_comesAt_X4_lateOf rfl rfl rfl (by decide +kernel) ⟨Nat.le_of_ble_eq_true rfl, Nat.le_of_ble_eq_true rfl⟩) (q_PV (T := TX4) (N := 12) hK hN hW hk_4 (by decide) rfl) rfl rfl hl.1 rfl (lv_room (Nat.le_of_ble_eq_true rfl)) dX10_comesAt_11 ⟨Nat.le_refl _, Nat.le_refl _⟩) hS (fun H locs hW hS => ?_)
  refine lv_ladd hx hb dX10_comesAt_14 ?_
  exact q_lret hx hb hr hlocks hW hS hf dX10_comesAt_15
set_option maxRecDepth 100000 in
set_option maxHeartbeats 40000000 in
theorem k_X10_firstFrom (l : Launch) (z n : Nat) (D : va_G) (cy : Nat → ClassId) (Y : Yt) {fu : Nat} {this : Nat} {a1 : Int64} {σ : Mm} {r : Int32} {σ1 : Mm} (h_this : okk Y n 7 this) (hf : f_X10_firstFrom Y fu this a1 σ = some (r, σ1)) : Ki l yX10_firstFrom wsX10_firstFrom ({ frames := 0, cells := 0, slots := 0, locals := 0 } : Room) z n D cy Y [.ref (z + this), .long a1] σ r σ1 := by
  refine Met.ofW (cc := cX10_firstFrom) (maxL := 7) (ret := (some .int)) (by decide +kernel) rfl ?_
  intro p e s m args below meth c s₁ B hml hv
  obtain ⟨rfl, hW, hK, hN⟩ := hv
  have hx := B.exec
  have hb := B.bytes
  have hr := B.returns
  have hts := atoms_spec (ws := wsX10_firstFrom) B.pre
  have hown : s.vm.findClass RX10 = some m.cls := findClass_of_methodNamed B.named
  have hlocks := B.notSynchronized
  have hS : va_S (Az z) s.heap s.heap [] := va_S.rf
  have hin10 : ∀ w ∈ wsX100, w ∈ wsX10_firstFrom := fun w h => List.mem_cons_of_mem _ (List.mem_append_right _ h)
  have hw0 := hts (.fieldLink RX10 22 "SkyClocks$Turns" "turns" "I") (List.mem_of_getElem? (i := 1) rfl)
  have hw1 := hts (.fieldLink RX10 11 "SkyClocks$Turns" "begins" "[J") (List.mem_of_getElem? (i := 2) rfl)
  have hl := lv_entry ([.ref (z + this), .long a1]) (n := 7) (Nat.le_of_ble_eq_true rfl)
  rw [lg_entry_eq]
  generalize (lg_sl ([.ref (z + this), .long a1]) ++ List.replicate (7 - (lg_sl ([.ref (z + this), .long a1])).length) Slot.unset).toArray = ls at hl ⊢
  have hl : lv_has ls 7 [(0, .ref (z + this)), (1, .long a1)] := hl
  have B56 : ∀ (k11 : Int32 → Int32 → Int32 → Mm → Option (Int32 × Mm)) (H11 : ∀ (x3 : Int32) (x4 : Int32) (x5 : Int32) (σ : Mm), k11 x3 x4 x5 σ = some (r, σ1) → ∀ (H : Heap) (locs : List Loc) (ls : Array Slot), WH z n D cy Y σ H → va_S (Az z) s.heap H locs → lv_has ls 7 [(0, .ref (z + this)), (1, .long a1), (3, .int x3), (4, .int x4), (5, .int x5)] → W p l e ({ frames := 0, cells := 0, slots := 0, locals := 0 } : Room) s m ([.ref (z + this), .long a1] : List Value).toArray below meth c H locs 0 0 (MQ below (va_Qi (fun (x : Int32) (_ : Unit) => x = r) (fun _ t => WH z n D cy Y σ1 t.heap) (Az z)) ([.ref (z + this), .long a1] : List Value).toArray s 0 0 (Az z)) (F0 m 11 ls [])) (x3 : Int32) (x4 : Int32) (x5 : Int32) (σ : Mm), b_X10_firstFrom_56 Y fu this a1 k11 x3 x4 x5 σ = some (r, σ1) → ∀ (H : Heap) (locs : List Loc) (ls : Array Slot), WH z n D cy Y σ H → va_S (Az z) s.heap H locs → lv_has ls 7 [(0, .ref (z + this)), (1, .long a1), (3, .int x3), (4, .int x4), (5, .int x5)] → W p l e ({ frames := 0, cells := 0, slots := 0, locals := 0 } : Room) s m ([.ref (z + this), .long a1] : List Value).toArray below meth c H locs 0 0 (MQ below (va_Qi (fun (x : Int32) (_ : Unit) => x = r) (fun _ t => WH z n D cy Y σ1 t.heap) (Az z)) ([.ref (z + this), .long a1] : List Value).toArray s 0 0 (Az z)) (F0 m 56 ls []) := by
    intro k11 H11 x3 x4 x5 σ  hf H locs ls hW hS hl
    obtain ⟨x5_6, ex5_6⟩ : ∃ y : Int32, y = x5 + 1 := ⟨_, rfl⟩
    have hf := g_lt ex5_6 hf
    refine lv_iinc (v := x5_6) (lv' := [(5, .int x5_6), (0, .ref (z + this)), (1, .long a1), (3, .int x3), (4, .int x4)]) hx hb dX10_firstFrom_56 hl (k := 4) rfl (by rw [ex5_6]; rfl) (by decide) rfl (fun ls hl => ?_)
    refine lv_goto (tgt := 11) hx hb dX10_firstFrom_59 (by decide) ?_
    exact H11 x3 x4 x5_6 σ hf _ _ _ hW hS (lv_sub hl [1, 2, 3, 4, 0] rfl)
  have B11 : ∀ (nn : Nat) (x3 : Int32) (x4 : Int32) (x5 : Int32) (σ : Mm), b_X10_firstFrom_11 Y fu this a1 nn x3 x4 x5 σ = some (r, σ1) → ∀ (H : Heap) (locs : List Loc) (ls : Array Slot), WH z n D cy Y σ H → va_S (Az z) s.heap H locs → lv_has ls 7 [(0, .ref (z + this)), (1, .long a1), (3, .int x3), (4, .int x4), (5, .int x5)] → W p l e ({ frames := 0, cells := 0, slots := 0, locals := 0 } : Room) s m ([.ref (z + this), .long a1] : List Value).toArray below meth c H locs 0 0 (MQ below (va_Qi (fun (x : Int32) (_ : Unit) => x = r) (fun _ t => WH z n D cy Y σ1 t.heap) (Az z)) ([.ref (z + this), .long a1] : List Value).toArray s 0 0 (Az z)) (F0 m 11 ls []) := by
    intro nn
    induction nn with
    | zero =>
      intro x3 x4 x5 σ  hf
      have h9 : (none : Option (Int32 × Mm)) = some (r, σ1) := hf
      cases h9
    | succ nn H11 =>
      intro x3 x4 x5 σ  hf H locs ls hW hS hl
      have hf : s_X10_firstFrom_11 Y fu this a1 (b_X10_firstFrom_11 Y fu this a1 nn) x3 x4 x5 σ = some (r, σ1) := hf
      generalize hkk : b_X10_firstFrom_11 Y fu this a1 nn = k11 at hf H11
      refine lv_iload hx hb dX10_firstFrom_11 (lv_at hl 4 rfl) ?_
      refine lv_bipush (v := 32) hx hb dX10_firstFrom_13 (by decide) ?_
      refine lv_icmp_ge (tgt := 62) hx hb dX10_firstFrom_15 (by decide) (fun c => ?_) (fun c => ?_)
      · have hf := g_pos c hf
        refine lv_iload_n hx hb dX10_firstFrom_62 rfl (lv_at hl 2 rfl) ?_
        exact q_iret hx hb hr hlocks hW hS hf dX10_firstFrom_63
      · have hf := g_neg c hf
        refine lv_iload_n hx hb dX10_firstFrom_18 rfl (lv_at hl 2 rfl) ?_
        refine lv_iload hx hb dX10_firstFrom_19 (lv_at hl 3 rfl) ?_
        refine lv_icmp_ge (tgt := 62) hx hb dX10_firstFrom_21 (by decide) (fun c => ?_) (fun c => ?_)
        · have hf := g_pos c hf
          refine lv_iload_n hx hb dX10_firstFrom_62 rfl (lv_at hl 2 rfl) ?_
          exact q_iret hx hb hr hlocks hW hS hf dX10_firstFrom_63
        · have hf := g_neg c hf
          refine lv_iload_n hx hb dX10_firstFrom_24 rfl (lv_at hl 2 rfl) ?_
          refine lv_iload hx hb dX10_firstFrom_25 (lv_at hl 3 rfl) ?_
          refine lv_iadd hx hb dX10_firstFrom_27 ?_
          refine lv_iconst (v := 2) hx hb dX10_firstFrom_28 (by decide) ?_
          refine lv_idiv hx hb dX10_firstFrom_29 (by decide) ?_
          refine lv_topi (fun x6_2 ex6_2 => ?_)
          have hf := g_lt ex6_2 hf
          refine lv_istore (lv' := [(6, .int x6_2), (0, .ref (z + this)), (1, .long a1), (3, .int x3), (4, .int x4), (5, .int x5)]) hx hb dX10_firstFrom_30 hl (by decide) rfl (fun ls hl => ?_)
          refine lv_aload_n hx hb dX10_firstFrom_32 rfl (lv_at hl 1 rfl) ?_
          refine q_getp (own := RX10) (ref := RX10) (C := RX10) (T := TX10) (N := 3) (kc := 7) (ci := 0) hx hb hts hin10 hown hK hW h_this (by decide) rfl 0 (by decide) hw1 rfl rfl rfl (v := (this + 1)) rfl dX10_firstFrom_33 (fun hk_3 hq_4 => ?_)
          refine lv_iload hx hb dX10_firstFrom_36 (lv_at hl 0 rfl) ?_
          obtain ⟨hi_5, hf⟩ := g_in hf
          refine q_lald hx hb hK hW hk_3 (inb_of hq_4 hi_5) dX10_firstFrom_38 ?_
          refine lv_lload_n hx hb dX10_firstFrom_39 rfl (lv_at hl 2 rfl) ?_
          refine W.lcmp hx hb dX10_firstFrom_40 ?_
          refine lv_if_ge (tgt := 52) hx hb dX10_firstFrom_41 (by decide) (fun c => ?_) (fun c => ?_)
          · have hf := g_pos ((lg_cmp_ge _ _).mp c) hf
            refine lv_iload hx hb dX10_firstFrom_52 (lv_at hl 0 rfl) ?_
            refine lv_istore (lv' := [(4, .int x6_2), (6, .int x6_2), (0, .ref (z + this)), (1, .long a1), (3, .int x3), (5, .int x5)]) hx hb dX10_firstFrom_54 hl (by decide) rfl (fun ls hl => ?_)
            exact B56 k11 H11 x3 x6_2 x5 σ hf _ _ _ hW hS (lv_sub hl [2, 3, 4, 0, 5] rfl)
          · have hf := g_neg (fun h => c ((lg_cmp_ge _ _).mpr h)) hf
            refine lv_iload hx hb dX10_firstFrom_44 (lv_at hl 0 rfl) ?_
            refine lv_iconst (v := 1) hx hb dX10_firstFrom_46 (by decide) ?_
            refine lv_iadd hx hb dX10_firstFrom_47 ?_
            refine lv_topi (fun x3_7 ex3_7 => ?_)
            have hf := g_lt ex3_7 hf
            refine lv_istore_n (lv' := [(3, .int x3_7), (6, .int x6_2), (0, .ref (z + this)), (1, .long a1), (4, .int x4), (5, .int x5)]) hx hb dX10_firstFrom_48 rfl hl (by decide) rfl (fun ls hl => ?_)
            refine lv_goto (tgt := 56) hx hb dX10_firstFrom_49 (by decide) ?_
            exact B56 k11 H11 x3_7 x4 x5 σ hf _ _ _ hW hS (lv_sub hl [2, 3, 0, 4, 5] rfl)
  refine lv_iconst (v := 0) hx hb dX10_firstFrom_0 (by decide) ?_
  refine lv_istore_n (lv' := [(3, .int 0), (0, .ref (z + this)), (1, .long a1)]) hx hb dX10_firstFrom_1 rfl hl (by decide) rfl (fun ls hl => ?_)
  refine lv_aload_n hx hb dX10_firstFrom_2 rfl (lv_at hl 1 rfl) ?_
  refine q_geti (own := RX10) (ref := RX10) (C := RX10) (T := TX10) (N := 3) (kc := 7) (ci := 0) hx hb hts hin10 hown hK hW h_this (by decide) rfl 2 (by decide) hw0 rfl rfl dX10_firstFrom_3 ?_
  refine lv_topi (fun x4_1 ex4_1 => ?_)
  have hf := g_lt ex4_1 hf
  refine lv_istore (lv' := [(4, .int x4_1), (3, .int 0), (0, .ref (z + this)), (1, .long a1)]) hx hb dX10_firstFrom_6 hl (by decide) rfl (fun ls hl => ?_)
  refine lv_iconst (v := 0) hx hb dX10_firstFrom_8 (by decide) ?_
  refine lv_istore (lv' := [(5, .int 0), (4, .int x4_1), (3, .int 0), (0, .ref (z + this)), (1, .long a1)]) hx hb dX10_firstFrom_9 hl (by decide) rfl (fun ls hl => ?_)
  exact B11 fu 0 x4_1 0 σ hf _ _ _ hW hS (lv_sub hl [3, 4, 2, 1, 0] rfl)
set_option maxRecDepth 100000 in
set_option maxHeartbeats 40000000 in
theorem k_X10_nearest (l : Launch) (z n : Nat) (D : va_G) (cy : Nat → ClassId) (Y : Yt) {fu : Nat} {this : Nat} {a1 : Int64} {σ : Mm} {r : Int32} {σ1 : Mm} (h_this : okk Y n 7 this) (hf : f_X10_nearest Y fu this a1 σ = some (r, σ1)) : Ki l yX10_nearest wsX10_nearest ({ frames := 2, cells := 0, slots := 0, locals := 60 } : Room) z n D cy Y [.ref (z + this), .long a1] σ r σ1 := by
  refine Met.ofW (cc := cX10_nearest) (maxL := 10) (ret := (some .int)) (by decide +kernel) rfl ?_
  intro p e s m args below meth c s₁ B hml hv
  obtain ⟨rfl, hW, hK, hN⟩ := hv
  have hx := B.exec
  have hb := B.bytes
  have hr := B.returns
  have hts := atoms_spec (ws := wsX10_nearest) B.pre
  have hown : s.vm.findClass RX10 = some m.cls := findClass_of_methodNamed B.named
  have hlocks := B.notSynchronized
  have hS : va_S (Az z) s.heap s.heap [] := va_S.rf
  have hin10 : ∀ w ∈ wsX100, w ∈ wsX10_nearest := fun w h => List.mem_cons_of_mem _ (List.mem_append_left _ (List.mem_append_right _ h))
  have hw0 := hts (.constantLong RX10 53 (9223372036854775807)) (List.mem_of_getElem? (i := 1) rfl)
  have hw1 := hts (.fieldLink RX10 22 "SkyClocks$Turns" "turns" "I") (List.mem_of_getElem? (i := 8) rfl)
  have hw2 := hts (.fieldLink RX10 11 "SkyClocks$Turns" "begins" "[J") (List.mem_of_getElem? (i := 2) rfl)
  have hw3 := hts (.constantLong RX10 55 (100000000)) (List.mem_of_getElem? (i := 3) rfl)
  have hw4 := hts (.methodLink RX10 57 Lib.MathLoose.abs_long.x) (List.mem_of_getElem? (i := 4) rfl)
  have hw5 := hts (.static Lib.MathLoose.abs_long.x) (List.mem_of_getElem? (i := 5) rfl)
  have hw6 := hts (.initialized "java/lang/Math") (List.mem_of_getElem? (i := 6) rfl)
  have hw7 := hts (.code Lib.MathLoose.abs_long.x Lib.MathLoose.abs_long.code 2 (some .long)) (List.mem_of_getElem? (i := 7) rfl)
  have hl := lv_entry ([.ref (z + this), .long a1]) (n := 10) (Nat.le_of_ble_eq_true rfl)
  rw [lg_entry_eq]
  generalize (lg_sl ([.ref (z + this), .long a1]) ++ List.replicate (10 - (lg_sl ([.ref (z + this), .long a1])).length) Slot.unset).toArray = ls at hl ⊢
  have hl : lv_has ls 10 [(0, .ref (z + this)), (1, .long a1)] := hl
  have B138 : ∀ (k81 : Int32 → Int64 → Int32 → Mm → Option (Int32 × Mm)) (H81 : ∀ (x4 : Int32) (x5 : Int64) (x7 : Int32) (σ : Mm), k81 x4 x5 x7 σ = some (r, σ1) → ∀ (H : Heap) (locs : List Loc) (ls : Array Slot), WH z n D cy Y σ H → va_S (Az z) s.heap H locs → lv_has ls 10 [(0, .ref (z + this)), (1, .long a1), (4, .int x4), (5, .long x5), (7, .int x7)] → W p l e ({ frames := 2, cells := 0, slots := 0, locals := 60 } : Room) s m ([.ref (z + this), .long a1] : List Value).toArray below meth c H locs 0 0 (MQ below (va_Qi (fun (x : Int32) (_ : Unit) => x = r) (fun _ t => WH z n D cy Y σ1 t.heap) (Az z)) ([.ref (z + this), .long a1] : List Value).toArray s 0 0 (Az z)) (F0 m 81 ls [])) (x4 : Int32) (x5 : Int64) (x7 : Int32) (σ : Mm), b_X10_nearest_138 Y fu this a1 k81 x4 x5 x7 σ = some (r, σ1) → ∀ (H : Heap) (locs : List Loc) (ls : Array Slot), WH z n D cy Y σ H → va_S (Az z) s.heap H locs → lv_has ls 10 [(0, .ref (z + this)), (1, .long a1), (4, .int x4), (5, .long x5), (7, .int x7)] → W p l e ({ frames := 2, cells := 0, slots := 0, locals := 60 } : Room) s m ([.ref (z + this), .long a1] : List Value).toArray below meth c H locs 0 0 (MQ below (va_Qi (fun (x : Int32) (_ : Unit) => x = r) (fun _ t => WH z n D cy Y σ1 t.heap) (Az z)) ([.ref (z + this), .long a1] : List Value).toArray s 0 0 (Az z)) (F0 m 138 ls []) := by
    intro k81 H81 x4 x5 x7 σ  hf H locs ls hW hS hl
    obtain ⟨x7_12, ex7_12⟩ : ∃ y : Int32, y = x7 + 1 := ⟨_, rfl⟩
    have hf := g_lt ex7_12 hf
    refine lv_iinc (v := x7_12) (lv' := [(7, .int x7_12), (0, .ref (z + this)), (1, .long a1), (4, .int x4), (5, .long x5)]) hx hb dX10_nearest_138 hl (k := 4) rfl (by rw [ex7_12]; rfl) (by decide) rfl (fun ls hl => ?_)
    refine lv_goto (tgt := 81) hx hb dX10_nearest_141 (by decide) ?_
    exact H81 x4 x5 x7_12 σ hf _ _ _ hW hS (lv_sub hl [1, 2, 3, 4, 0] rfl)
  have B81 : ∀ (nn : Nat) (x4 : Int32) (x5 : Int64) (x7 : Int32) (σ : Mm), b_X10_nearest_81 Y fu this a1 nn x4 x5 x7 σ = some (r, σ1) → ∀ (H : Heap) (locs : List Loc) (ls : Array Slot), WH z n D cy Y σ H → va_S (Az z) s.heap H locs → lv_has ls 10 [(0, .ref (z + this)), (1, .long a1), (4, .int x4), (5, .long x5), (7, .int x7)] → W p l e ({ frames := 2, cells := 0, slots := 0, locals := 60 } : Room) s m ([.ref (z + this), .long a1] : List Value).toArray below meth c H locs 0 0 (MQ below (va_Qi (fun (x : Int32) (_ : Unit) => x = r) (fun _ t => WH z n D cy Y σ1 t.heap) (Az z)) ([.ref (z + this), .long a1] : List Value).toArray s 0 0 (Az z)) (F0 m 81 ls []) := by
    intro nn
    induction nn with
    | zero =>
      intro x4 x5 x7 σ  hf
      have h9 : (none : Option (Int32 × Mm)) = some (r, σ1) := hf
      cases h9
    | succ nn H81 =>
      intro x4 x5 x7 σ  hf H locs ls hW hS hl
      have hf : s_X10_nearest_81 Y fu this a1 (b_X10_nearest_81 Y fu this a1 nn) x4 x5 x7 σ = some (r, σ1) := hf
      generalize hkk : b_X10_nearest_81 Y fu this a1 nn = k81 at hf H81
      refine lv_iload hx hb dX10_nearest_81 (lv_at hl 4 rfl) ?_
      refine lv_aload_n hx hb dX10_nearest_83 rfl (lv_at hl 0 rfl) ?_
      refine q_geti (own := RX10) (ref := RX10) (C := RX10) (T := TX10) (N := 3) (kc := 7) (ci := 0) hx hb hts hin10 hown hK hW h_this (by decide) rfl 2 (by decide) hw1 rfl rfl dX10_nearest_84 ?_
      refine lv_icmp_ge (tgt := 144) hx hb dX10_nearest_87 (by decide) (fun c => ?_) (fun c => ?_)
      · have hf := g_pos c hf
        refine lv_iload hx hb dX10_nearest_144 (lv_at hl 2 rfl) ?_
        exact q_iret hx hb hr hlocks hW hS hf dX10_nearest_146
      · have hf := g_neg c hf
        refine lv_aload_n hx hb dX10_nearest_90 rfl (lv_at hl 0 rfl) ?_
        refine q_getp (own := RX10) (ref := RX10) (C := RX10) (T := TX10) (N := 3) (kc := 7) (ci := 0) hx hb hts hin10 hown hK hW h_this (by decide) rfl 0 (by decide) hw2 rfl rfl rfl (v := (this + 1)) rfl dX10_nearest_91 (fun hk_5 hq_6 => ?_)
        refine lv_iload hx hb dX10_nearest_94 (lv_at hl 4 rfl) ?_
        obtain ⟨hi_7, hf⟩ := g_in hf
        refine q_lald hx hb hK hW hk_5 (inb_of hq_6 hi_7) dX10_nearest_96 ?_
        refine lv_lload_n hx hb dX10_nearest_97 rfl (lv_at hl 1 rfl) ?_
        refine lv_lsub hx hb dX10_nearest_98 ?_
        refine lv_ldc2 hx hb hown hw3 dX10_nearest_99 ?_
        refine lv_lsub hx hb dX10_nearest_102 ?_
        refine lv_lload hx hb dX10_nearest_103 (lv_at hl 3 rfl) ?_
        refine W.lcmp hx hb dX10_nearest_105 ?_
        refine lv_if_gt (tgt := 144) hx hb dX10_nearest_106 (by decide) (fun c => ?_) (fun c => ?_)
        · have hf := g_pos ((lg_cmp_gt _ _).mp c) hf
          refine lv_iload hx hb dX10_nearest_144 (lv_at hl 2 rfl) ?_
          exact q_iret hx hb hr hlocks hW hS hf dX10_nearest_146
        · have hf := g_neg (fun h => c ((lg_cmp_gt _ _).mpr h)) hf
          refine lv_aload_n hx hb dX10_nearest_109 rfl (lv_at hl 0 rfl) ?_
          refine lv_iload hx hb dX10_nearest_110 (lv_at hl 4 rfl) ?_
          obtain ⟨r_10, σ_9, hc_8, hf⟩ := g_bnd hf
          refine q_calll (va_runV (As := [.int x7]) (rest := []) ⟨hx, hb, hml, hown, hts⟩ (k_X10_comesAt l z n D cy Y h_this hc_8) (cwV 1 hts gX10_nearest_X10_comesAt rfl rfl rfl (by decide +kernel) ⟨Nat.le_of_ble_eq_true rfl, Nat.le_of_ble_eq_true rfl⟩) (q_PV (T := TX10) (N := 3) hK hN hW h_this (by decide) rfl) rfl rfl hl.1 rfl (lv_room (Nat.le_of_ble_eq_true rfl)) dX10_nearest_112 ⟨Nat.le_refl _, Nat.le_refl _⟩) hS (fun H locs hW hS => ?_)
          refine lv_lload_n hx hb dX10_nearest_115 rfl (lv_at hl 1 rfl) ?_
          refine lv_lsub hx hb dX10_nearest_116 ?_
          refine va_mabs_long hx hb (by rw [hml]; exact hl.1.symm) hown hw4 hw5 hw6 hw7 (Nat.le_of_ble_eq_true rfl) (Nat.le_of_ble_eq_true rfl) (Nat.zero_le _) (Nat.zero_le _) dX10_nearest_117 ?_
          refine lv_topl (fun x8_11 ex8_11 => ?_)
          have hf := g_lt ex8_11 hf
          refine lv_lstore (lv' := [(8, .long x8_11), (0, .ref (z + this)), (1, .long a1), (4, .int x4), (5, .long x5), (7, .int x7)]) hx hb dX10_nearest_120 hl (by decide) rfl (fun ls hl => ?_)
          refine lv_lload hx hb dX10_nearest_122 (lv_at hl 0 rfl) ?_
          refine lv_lload hx hb dX10_nearest_124 (lv_at hl 4 rfl) ?_
          refine W.lcmp hx hb dX10_nearest_126 ?_
          refine lv_if_ge (tgt := 138) hx hb dX10_nearest_127 (by decide) (fun c => ?_) (fun c => ?_)
          · have hf := g_pos ((lg_cmp_ge _ _).mp c) hf
            exact B138 k81 H81 x4 x5 x7 σ_9 hf _ _ _ hW hS (lv_sub hl [1, 2, 3, 4, 5] rfl)
          · have hf := g_neg (fun h => c ((lg_cmp_ge _ _).mpr h)) hf
            refine lv_lload hx hb dX10_nearest_130 (lv_at hl 0 rfl) ?_
            refine lv_lstore (lv' := [(5, .long x8_11), (8, .long x8_11), (0, .ref (z + this)), (1, .long a1), (4, .int x4), (7, .int x7)]) hx hb dX10_nearest_132 hl (by decide) rfl (fun ls hl => ?_)
            refine lv_iload hx hb dX10_nearest_134 (lv_at hl 5 rfl) ?_
            refine lv_istore (lv' := [(4, .int x7), (5, .long x8_11), (8, .long x8_11), (0, .ref (z + this)), (1, .long a1), (7, .int x7)]) hx hb dX10_nearest_136 hl (by decide) rfl (fun ls hl => ?_)
            exact B138 k81 H81 x7 x8_11 x7 σ_9 hf _ _ _ hW hS (lv_sub hl [3, 4, 0, 1, 5] rfl)
  have B78 : ∀ (x3 : Int32) (x4 : Int32) (x5 : Int64) (σ : Mm), b_X10_nearest_78 Y fu this a1 x3 x4 x5 σ = some (r, σ1) → ∀ (H : Heap) (locs : List Loc) (ls : Array Slot), WH z n D cy Y σ H → va_S (Az z) s.heap H locs → lv_has ls 10 [(0, .ref (z + this)), (1, .long a1), (3, .int x3), (4, .int x4), (5, .long x5)] → W p l e ({ frames := 2, cells := 0, slots := 0, locals := 60 } : Room) s m ([.ref (z + this), .long a1] : List Value).toArray below meth c H locs 0 0 (MQ below (va_Qi (fun (x : Int32) (_ : Unit) => x = r) (fun _ t => WH z n D cy Y σ1 t.heap) (Az z)) ([.ref (z + this), .long a1] : List Value).toArray s 0 0 (Az z)) (F0 m 78 ls []) := by
    intro  x3 x4 x5 σ  hf H locs ls hW hS hl
    refine lv_iload_n hx hb dX10_nearest_78 rfl (lv_at hl 2 rfl) ?_
    refine lv_istore (lv' := [(7, .int x3), (0, .ref (z + this)), (1, .long a1), (3, .int x3), (4, .int x4), (5, .long x5)]) hx hb dX10_nearest_79 hl (by decide) rfl (fun ls hl => ?_)
    exact B81 fu x4 x5 x3 σ hf _ _ _ hW hS (lv_sub hl [1, 2, 4, 5, 0] rfl)
  have B72 : ∀ (k19 : Int32 → Int32 → Int64 → Int32 → Mm → Option (Int32 × Mm)) (H19 : ∀ (x3 : Int32) (x4 : Int32) (x5 : Int64) (x7 : Int32) (σ : Mm), k19 x3 x4 x5 x7 σ = some (r, σ1) → ∀ (H : Heap) (locs : List Loc) (ls : Array Slot), WH z n D cy Y σ H → va_S (Az z) s.heap H locs → lv_has ls 10 [(0, .ref (z + this)), (1, .long a1), (3, .int x3), (4, .int x4), (5, .long x5), (7, .int x7)] → W p l e ({ frames := 2, cells := 0, slots := 0, locals := 60 } : Room) s m ([.ref (z + this), .long a1] : List Value).toArray below meth c H locs 0 0 (MQ below (va_Qi (fun (x : Int32) (_ : Unit) => x = r) (fun _ t => WH z n D cy Y σ1 t.heap) (Az z)) ([.ref (z + this), .long a1] : List Value).toArray s 0 0 (Az z)) (F0 m 19 ls [])) (x3 : Int32) (x4 : Int32) (x5 : Int64) (x7 : Int32) (σ : Mm), b_X10_nearest_72 Y fu this a1 k19 x3 x4 x5 x7 σ = some (r, σ1) → ∀ (H : Heap) (locs : List Loc) (ls : Array Slot), WH z n D cy Y σ H → va_S (Az z) s.heap H locs → lv_has ls 10 [(0, .ref (z + this)), (1, .long a1), (3, .int x3), (4, .int x4), (5, .long x5), (7, .int x7)] → W p l e ({ frames := 2, cells := 0, slots := 0, locals := 60 } : Room) s m ([.ref (z + this), .long a1] : List Value).toArray below meth c H locs 0 0 (MQ below (va_Qi (fun (x : Int32) (_ : Unit) => x = r) (fun _ t => WH z n D cy Y σ1 t.heap) (Az z)) ([.ref (z + this), .long a1] : List Value).toArray s 0 0 (Az z)) (F0 m 72 ls []) := by
    intro k19 H19 x3 x4 x5 x7 σ  hf H locs ls hW hS hl
    obtain ⟨x7_20, ex7_20⟩ : ∃ y : Int32, y = x7 + (-1) := ⟨_, rfl⟩
    have hf := g_lt ex7_20 hf
    refine lv_iinc (v := x7_20) (lv' := [(7, .int x7_20), (0, .ref (z + this)), (1, .long a1), (3, .int x3), (4, .int x4), (5, .long x5)]) hx hb dX10_nearest_72 hl (k := 5) rfl (by rw [ex7_20]; rfl) (by decide) rfl (fun ls hl => ?_)
    refine lv_goto (tgt := 19) hx hb dX10_nearest_75 (by decide) ?_
    exact H19 x3 x4 x5 x7_20 σ hf _ _ _ hW hS (lv_sub hl [1, 2, 3, 4, 5, 0] rfl)
  have B19 : ∀ (nn : Nat) (x3 : Int32) (x4 : Int32) (x5 : Int64) (x7 : Int32) (σ : Mm), b_X10_nearest_19 Y fu this a1 nn x3 x4 x5 x7 σ = some (r, σ1) → ∀ (H : Heap) (locs : List Loc) (ls : Array Slot), WH z n D cy Y σ H → va_S (Az z) s.heap H locs → lv_has ls 10 [(0, .ref (z + this)), (1, .long a1), (3, .int x3), (4, .int x4), (5, .long x5), (7, .int x7)] → W p l e ({ frames := 2, cells := 0, slots := 0, locals := 60 } : Room) s m ([.ref (z + this), .long a1] : List Value).toArray below meth c H locs 0 0 (MQ below (va_Qi (fun (x : Int32) (_ : Unit) => x = r) (fun _ t => WH z n D cy Y σ1 t.heap) (Az z)) ([.ref (z + this), .long a1] : List Value).toArray s 0 0 (Az z)) (F0 m 19 ls []) := by
    intro nn
    induction nn with
    | zero =>
      intro x3 x4 x5 x7 σ  hf
      have h9 : (none : Option (Int32 × Mm)) = some (r, σ1) := hf
      cases h9
    | succ nn H19 =>
      intro x3 x4 x5 x7 σ  hf H locs ls hW hS hl
      have hf : s_X10_nearest_19 Y fu this a1 (b_X10_nearest_19 Y fu this a1 nn) x3 x4 x5 x7 σ = some (r, σ1) := hf
      generalize hkk : b_X10_nearest_19 Y fu this a1 nn = k19 at hf H19
      refine lv_iload hx hb dX10_nearest_19 (lv_at hl 5 rfl) ?_
      refine lv_if_lt (tgt := 78) hx hb dX10_nearest_21 (by decide) (fun c => ?_) (fun c => ?_)
      · have hf := g_pos c hf
        exact B78 x3 x4 x5 σ hf _ _ _ hW hS (lv_sub hl [0, 1, 2, 3, 4] rfl)
      · have hf := g_neg c hf
        refine lv_lload_n hx hb dX10_nearest_24 rfl (lv_at hl 1 rfl) ?_
        refine lv_aload_n hx hb dX10_nearest_25 rfl (lv_at hl 0 rfl) ?_
        refine q_getp (own := RX10) (ref := RX10) (C := RX10) (T := TX10) (N := 3) (kc := 7) (ci := 0) hx hb hts hin10 hown hK hW h_this (by decide) rfl 0 (by decide) hw2 rfl rfl rfl (v := (this + 1)) rfl dX10_nearest_26 (fun hk_13 hq_14 => ?_)
        refine lv_iload hx hb dX10_nearest_29 (lv_at hl 5 rfl) ?_
        obtain ⟨hi_15, hf⟩ := g_in hf
        refine q_lald hx hb hK hW hk_13 (inb_of hq_14 hi_15) dX10_nearest_31 ?_
        refine lv_lsub hx hb dX10_nearest_32 ?_
        refine lv_ldc2 hx hb hown hw3 dX10_nearest_33 ?_
        refine lv_lsub hx hb dX10_nearest_36 ?_
        refine lv_lload hx hb dX10_nearest_37 (lv_at hl 4 rfl) ?_
        refine W.lcmp hx hb dX10_nearest_39 ?_
        refine lv_if_gt (tgt := 78) hx hb dX10_nearest_40 (by decide) (fun c => ?_) (fun c => ?_)
        · have hf := g_pos ((lg_cmp_gt _ _).mp c) hf
          exact B78 x3 x4 x5 σ hf _ _ _ hW hS (lv_sub hl [0, 1, 2, 3, 4] rfl)
        · have hf := g_neg (fun h => c ((lg_cmp_gt _ _).mpr h)) hf
          refine lv_aload_n hx hb dX10_nearest_43 rfl (lv_at hl 0 rfl) ?_
          refine lv_iload hx hb dX10_nearest_44 (lv_at hl 5 rfl) ?_
          obtain ⟨r_18, σ_17, hc_16, hf⟩ := g_bnd hf
          refine q_calll (va_runV (As := [.int x7]) (rest := []) ⟨hx, hb, hml, hown, hts⟩ (k_X10_comesAt l z n D cy Y h_this hc_16) (cwV 1 hts gX10_nearest_X10_comesAt rfl rfl rfl (by decide +kernel) ⟨Nat.le_of_ble_eq_true rfl, Nat.le_of_ble_eq_true rfl⟩) (q_PV (T := TX10) (N := 3) hK hN hW h_this (by decide) rfl) rfl rfl hl.1 rfl (lv_room (Nat.le_of_ble_eq_true rfl)) dX10_nearest_46 ⟨Nat.le_refl _, Nat.le_refl _⟩) hS (fun H locs hW hS => ?_)
          refine lv_lload_n hx hb dX10_nearest_49 rfl (lv_at hl 1 rfl) ?_
          refine lv_lsub hx hb dX10_nearest_50 ?_
          refine va_mabs_long hx hb (by rw [hml]; exact hl.1.symm) hown hw4 hw5 hw6 hw7 (Nat.le_of_ble_eq_true rfl) (Nat.le_of_ble_eq_true rfl) (Nat.zero_le _) (Nat.zero_le _) dX10_nearest_51 ?_
          refine lv_topl (fun x8_19 ex8_19 => ?_)
          have hf := g_lt ex8_19 hf
          refine lv_lstore (lv' := [(8, .long x8_19), (0, .ref (z + this)), (1, .long a1), (3, .int x3), (4, .int x4), (5, .long x5), (7, .int x7)]) hx hb dX10_nearest_54 hl (by decide) rfl (fun ls hl => ?_)
          refine lv_lload hx hb dX10_nearest_56 (lv_at hl 0 rfl) ?_
          refine lv_lload hx hb dX10_nearest_58 (lv_at hl 5 rfl) ?_
          refine W.lcmp hx hb dX10_nearest_60 ?_
          refine lv_if_gt (tgt := 72) hx hb dX10_nearest_61 (by decide) (fun c => ?_) (fun c => ?_)
          · have hf := g_pos ((lg_cmp_gt _ _).mp c) hf
            exact B72 k19 H19 x3 x4 x5 x7 σ_17 hf _ _ _ hW hS (lv_sub hl [1, 2, 3, 4, 5, 6] rfl)
          · have hf := g_neg (fun h => c ((lg_cmp_gt _ _).mpr h)) hf
            refine lv_lload hx hb dX10_nearest_64 (lv_at hl 0 rfl) ?_
            refine lv_lstore (lv' := [(5, .long x8_19), (8, .long x8_19), (0, .ref (z + this)), (1, .long a1), (3, .int x3), (4, .int x4), (7, .int x7)]) hx hb dX10_nearest_66 hl (by decide) rfl (fun ls hl => ?_)
            refine lv_iload hx hb dX10_nearest_68 (lv_at hl 6 rfl) ?_
            refine lv_istore (lv' := [(4, .int x7), (5, .long x8_19), (8, .long x8_19), (0, .ref (z + this)), (1, .long a1), (3, .int x3), (7, .int x7)]) hx hb dX10_nearest_70 hl (by decide) rfl (fun ls hl => ?_)
            exact B72 k19 H19 x3 x7 x8_19 x7 σ_17 hf _ _ _ hW hS (lv_sub hl [3, 4, 5, 0, 1, 6] rfl)
  refine lv_aload_n hx hb dX10_nearest_0 rfl (lv_at hl 0 rfl) ?_
  refine lv_lload_n hx hb dX10_nearest_1 rfl (lv_at hl 1 rfl) ?_
  obtain ⟨r_3, σ_2, hc_1, hf⟩ := g_bnd hf
  refine q_calli (va_runV (As := [.long a1]) (rest := []) ⟨hx, hb, hml, hown, hts⟩ (k_X10_firstFrom l z n D cy Y h_this hc_1) (cwV 1 hts gX10_nearest_X10_firstFrom rfl rfl rfl (by decide +kernel) ⟨Nat.le_of_ble_eq_true rfl, Nat.le_of_ble_eq_true rfl⟩) (q_PV (T := TX10) (N := 3) hK hN hW h_this (by decide) rfl) rfl rfl hl.1 rfl (lv_room (Nat.le_of_ble_eq_true rfl)) dX10_nearest_2 ⟨Nat.le_refl _, Nat.le_refl _⟩) hS (fun H locs hW hS => ?_)
  refine lv_istore_n (lv' := [(3, .int r_3), (0, .ref (z + this)), (1, .long a1)]) hx hb dX10_nearest_5 rfl hl (by decide) rfl (fun ls hl => ?_)
  refine lv_iconst (v := 0) hx hb dX10_nearest_6 (by decide) ?_
  refine lv_istore (lv' := [(4, .int 0), (3, .int r_3), (0, .ref (z + this)), (1, .long a1)]) hx hb dX10_nearest_7 hl (by decide) rfl (fun ls hl => ?_)
  refine lv_ldc2 hx hb hown hw0 dX10_nearest_9 ?_
  refine lv_lstore (lv' := [(5, .long 9223372036854775807), (4, .int 0), (3, .int r_3), (0, .ref (z + this)), (1, .long a1)]) hx hb dX10_nearest_12 hl (by decide) rfl (fun ls hl => ?_)
  refine lv_iload_n hx hb dX10_nearest_14 rfl (lv_at hl 2 rfl) ?_
  refine lv_iconst (v := 1) hx hb dX10_nearest_15 (by decide) ?_
  refine lv_isub hx hb dX10_nearest_16 ?_
  refine lv_topi (fun x7_4 ex7_4 => ?_)
  have hf := g_lt ex7_4 hf
  refine lv_istore (lv' := [(7, .int x7_4), (5, .long 9223372036854775807), (4, .int 0), (3, .int r_3), (0, .ref (z + this)), (1, .long a1)]) hx hb dX10_nearest_17 hl (by decide) rfl (fun ls hl => ?_)
  exact B19 fu r_3 0 9223372036854775807 x7_4 σ_2 hf _ _ _ hW hS (lv_sub hl [4, 5, 3, 2, 1, 0] rfl)
set_option maxRecDepth 100000 in
set_option maxHeartbeats 40000000 in
theorem k_X10_residueAt (l : Launch) (z n : Nat) (D : va_G) (cy : Nat → ClassId) (Y : Yt) {fu : Nat} {this : Nat} {a1 : Int32} {σ : Mm} {r : Int32} {σ1 : Mm} (h_this : okk Y n 7 this) (hf : f_X10_residueAt Y fu this a1 σ = some (r, σ1)) : Ki l yX10_residueAt wsX10_residueAt ({ frames := 3, cells := 0, slots := 0, locals := 89 } : Room) z n D cy Y [.ref (z + this), .int a1] σ r σ1 := by
  refine Met.ofW (cc := cX10_residueAt) (maxL := 4) (ret := (some .int)) (by decide +kernel) rfl ?_
  intro p e s m args below meth c s₁ B hml hv
  obtain ⟨rfl, hW, hK, hN⟩ := hv
  have hx := B.exec
  have hb := B.bytes
  have hr := B.returns
  have hts := atoms_spec (ws := wsX10_residueAt) B.pre
  have hown : s.vm.findClass RX10 = some m.cls := findClass_of_methodNamed B.named
  have hlocks := B.notSynchronized
  have hS : va_S (Az z) s.heap s.heap [] := va_S.rf
  have hw0 := hts (.constantLong RX10 29 (1000000)) (List.mem_of_getElem? (i := 1) rfl)
  have hl := lv_entry ([.ref (z + this), .int a1]) (n := 4) (Nat.le_of_ble_eq_true rfl)
  rw [lg_entry_eq]
  generalize (lg_sl ([.ref (z + this), .int a1]) ++ List.replicate (4 - (lg_sl ([.ref (z + this), .int a1])).length) Slot.unset).toArray = ls at hl ⊢
  have hl : lv_has ls 4 [(0, .ref (z + this)), (1, .int a1)] := hl
  refine lv_iload_n hx hb dX10_residueAt_0 rfl (lv_at hl 1 rfl) ?_
  refine lv_i2l hx hb dX10_residueAt_1 rfl ?_
  refine lv_ldc2 hx hb hown hw0 dX10_residueAt_2 ?_
  refine lv_lmul hx hb dX10_residueAt_5 ?_
  refine lv_topl (fun x2_1 ex2_1 => ?_)
  have hf := g_lt ex2_1 hf
  refine lv_lstore_n (lv' := [(2, .long x2_1), (0, .ref (z + this)), (1, .int a1)]) hx hb dX10_residueAt_6 rfl hl (by decide) rfl (fun ls hl => ?_)
  refine lv_lload_n hx hb dX10_residueAt_7 rfl (lv_at hl 0 rfl) ?_
  refine lv_aload_n hx hb dX10_residueAt_8 rfl (lv_at hl 1 rfl) ?_
  refine lv_aload_n hx hb dX10_residueAt_9 rfl (lv_at hl 1 rfl) ?_
  refine lv_lload_n hx hb dX10_residueAt_10 rfl (lv_at hl 0 rfl) ?_
  obtain ⟨r_4, σ_3, hc_2, hf⟩ := g_bnd hf
  refine q_calli (va_runV (As := [.long x2_1]) (rest := [.ref (z + this), .long x2_1]) ⟨hx, hb, hml, hown, hts⟩ (k_X10_nearest l z n D cy Y h_this hc_2) (cwV 1 hts gX10_residueAt_X10_nearest rfl rfl rfl (by decide +kernel) ⟨Nat.le_of_ble_eq_true rfl, Nat.le_of_ble_eq_true rfl⟩) (q_PV (T := TX10) (N := 3) hK hN hW h_this (by decide) rfl) rfl rfl hl.1 rfl (lv_room (Nat.le_of_ble_eq_true rfl)) dX10_residueAt_11 ⟨Nat.le_refl _, Nat.le_refl _⟩) hS (fun H locs hW hS => ?_)
  obtain ⟨r_7, σ_6, hc_5, hf⟩ := g_bnd hf
  refine q_calll (va_runV (As := [.int r_4]) (rest := [.long x2_1]) ⟨hx, hb, hml, hown, hts⟩ (k_X10_comesAt l z n D cy Y h_this hc_5) (cwV 1 hts gX10_residueAt_X10_comesAt rfl rfl rfl (by decide +kernel) ⟨Nat.le_of_ble_eq_true rfl, Nat.le_of_ble_eq_true rfl⟩) (q_PV (T := TX10) (N := 3) hK hN hW h_this (by decide) rfl) rfl rfl hl.1 rfl (lv_room (Nat.le_of_ble_eq_true rfl)) dX10_residueAt_14 ⟨Nat.le_refl _, Nat.le_refl _⟩) hS (fun H locs hW hS => ?_)
  refine lv_lsub hx hb dX10_residueAt_17 ?_
  refine lv_ldc2 hx hb hown hw0 dX10_residueAt_18 ?_
  refine lv_ldiv hx hb dX10_residueAt_21 (by decide) ?_
  refine lv_l2i hx hb dX10_residueAt_22 rfl ?_
  exact q_iret hx hb hr hlocks hW hS hf dX10_residueAt_23
set_option maxRecDepth 100000 in
set_option maxHeartbeats 40000000 in
theorem k_X11_corrected (l : Launch) (z n : Nat) (D : va_G) (cy : Nat → ClassId) (Y : Yt) {this : Nat} {a1 : Int32} {a2 : Int32} {a3 : Int32} {σ : Mm} {r : Int32} {σ1 : Mm} (h_this : okk Y n 8 this) (hf : f_X11_corrected Y this a1 a2 a3 σ = some (r, σ1)) : Ki l yX11_corrected wsX11_corrected ({ frames := 1, cells := 0, slots := 0, locals := 23 } : Room) z n D cy Y [.ref (z + this), .int a1, .int a2, .int a3] σ r σ1 := by
  refine Met.ofW (cc := cX11_corrected) (maxL := 4) (ret := (some .int)) (by decide +kernel) rfl ?_
  intro p e s m args below meth c s₁ B hml hv
  obtain ⟨rfl, hW, hK, hN⟩ := hv
  have hx := B.exec
  have hb := B.bytes
  have hr := B.returns
  have hts := atoms_spec (ws := wsX11_corrected) B.pre
  have hown : s.vm.findClass RX11 = some m.cls := findClass_of_methodNamed B.named
  have hlocks := B.notSynchronized
  have hS : va_S (Az z) s.heap s.heap [] := va_S.rf
  have hin11 : ∀ w ∈ wsX110, w ∈ wsX11_corrected := fun w h => List.mem_cons_of_mem _ (List.mem_append_left _ (List.mem_append_left _ (List.mem_append_right _ h)))
  have hw0 := hts (.fieldLink RX11 10 "SkyClocks" "tables" "LSkyClocks$Tables;") (List.mem_of_getElem? (i := 1) rfl)
  have hw1 := hts (.fieldLink RX11 18 "SkyClocks" "stars" "[LSkyClocks$Star;") (List.mem_of_getElem? (i := 2) rfl)
  have hl := lv_entry ([.ref (z + this), .int a1, .int a2, .int a3]) (n := 4) (Nat.le_of_ble_eq_true rfl)
  rw [lg_entry_eq]
  generalize (lg_sl ([.ref (z + this), .int a1, .int a2, .int a3]) ++ List.replicate (4 - (lg_sl ([.ref (z + this), .int a1, .int a2, .int a3])).length) Slot.unset).toArray = ls at hl ⊢
  have hl : lv_has ls 4 [(0, .ref (z + this)), (1, .int a1), (2, .int a2), (3, .int a3)] := hl
  refine lv_aload_n hx hb dX11_corrected_0 rfl (lv_at hl 0 rfl) ?_
  refine q_getp (own := RX11) (ref := RX11) (C := RX11) (T := TX11) (N := 10) (kc := 8) (ci := 0) hx hb hts hin11 hown hK hW h_this (by decide) rfl 0 (by decide) hw0 rfl rfl rfl (v := 2) rfl dX11_corrected_1 (fun hk_1 hq_2 => ?_)
  refine lv_aload_n hx hb dX11_corrected_4 rfl (lv_at hl 0 rfl) ?_
  refine q_getp (own := RX11) (ref := RX11) (C := RX11) (T := TX11) (N := 10) (kc := 8) (ci := 0) hx hb hts hin11 hown hK hW h_this (by decide) rfl 1 (by decide) hw1 rfl rfl rfl (v := 7) rfl dX11_corrected_5 (fun hk_3 hq_4 => ?_)
  refine lv_iload_n hx hb dX11_corrected_8 rfl (lv_at hl 1 rfl) ?_
  obtain ⟨hi_5, hf⟩ := g_in hf
  refine q_aalp (kc := 14) (t := 4) hx hb hK hW hk_3 rfl (inb_of hq_4 hi_5) rfl dX11_corrected_9 (fun hk_6 hq_7 => ?_)
  refine lv_iload_n hx hb dX11_corrected_10 rfl (lv_at hl 2 rfl) ?_
  refine lv_iconst (v := 0) hx hb dX11_corrected_11 (by decide) ?_
  obtain ⟨r_10, σ_9, hc_8, hf⟩ := g_bnd hf
  refine q_calli (va_runV (As := [.int a2, .int 0]) (rest := [.ref (z + 2)]) ⟨hx, hb, hml, hown, hts⟩ (k_X7_value l z n D cy Y hk_6 hc_8) (cwV 2 hts gX11_corrected_X7_value rfl rfl rfl (by decide +kernel) ⟨Nat.le_of_ble_eq_true rfl, Nat.le_of_ble_eq_true rfl⟩) (q_PV (T := TX7) (N := 4) hK hN hW hk_6 (by decide) rfl) rfl rfl hl.1 rfl (lv_room (Nat.le_of_ble_eq_true rfl)) dX11_corrected_12 ⟨Nat.le_refl _, Nat.le_refl _⟩) hS (fun H locs hW hS => ?_)
  refine lv_aload_n hx hb dX11_corrected_15 rfl (lv_at hl 0 rfl) ?_
  refine q_getp (own := RX11) (ref := RX11) (C := RX11) (T := TX11) (N := 10) (kc := 8) (ci := 0) hx hb hts hin11 hown hK hW h_this (by decide) rfl 1 (by decide) hw1 rfl rfl rfl (v := 7) rfl dX11_corrected_16 (fun hk_11 hq_12 => ?_)
  refine lv_iload_n hx hb dX11_corrected_19 rfl (lv_at hl 1 rfl) ?_
  obtain ⟨hi_13, hf⟩ := g_in hf
  refine q_aalp (kc := 14) (t := 4) hx hb hK hW hk_11 rfl (inb_of hq_12 hi_13) rfl dX11_corrected_20 (fun hk_14 hq_15 => ?_)
  refine lv_iload_n hx hb dX11_corrected_21 rfl (lv_at hl 2 rfl) ?_
  refine lv_iconst (v := 2) hx hb dX11_corrected_22 (by decide) ?_
  obtain ⟨r_18, σ_17, hc_16, hf⟩ := g_bnd hf
  refine q_calli (va_runV (As := [.int a2, .int 2]) (rest := [.int r_10, .ref (z + 2)]) ⟨hx, hb, hml, hown, hts⟩ (k_X7_value l z n D cy Y hk_14 hc_16) (cwV 2 hts gX11_corrected_X7_value rfl rfl rfl (by decide +kernel) ⟨Nat.le_of_ble_eq_true rfl, Nat.le_of_ble_eq_true rfl⟩) (q_PV (T := TX7) (N := 4) hK hN hW hk_14 (by decide) rfl) rfl rfl hl.1 rfl (lv_room (Nat.le_of_ble_eq_true rfl)) dX11_corrected_23 ⟨Nat.le_refl _, Nat.le_refl _⟩) hS (fun H locs hW hS => ?_)
  refine lv_iload_n hx hb dX11_corrected_26 rfl (lv_at hl 3 rfl) ?_
  obtain ⟨r_21, σ_20, hc_19, hf⟩ := g_bnd hf
  refine q_calli (va_runV (As := [.int r_10, .int r_18, .int a3]) (rest := []) ⟨hx, hb, hml, hown, hts⟩ (k_X8_correct l z n D cy Y hk_1 hc_19) (cwV 3 hts gX11_corrected_X8_correct rfl rfl rfl (by decide +kernel) ⟨Nat.le_of_ble_eq_true rfl, Nat.le_of_ble_eq_true rfl⟩) (q_PV (T := TX8) (N := 4) hK hN hW hk_1 (by decide) rfl) rfl rfl hl.1 rfl (lv_room (Nat.le_of_ble_eq_true rfl)) dX11_corrected_27 ⟨Nat.le_refl _, Nat.le_refl _⟩) hS (fun H locs hW hS => ?_)
  exact q_iret hx hb hr hlocks hW hS hf dX11_corrected_30
set_option maxRecDepth 100000 in
set_option maxHeartbeats 40000000 in
theorem k_X11_residueBy (l : Launch) (z n : Nat) (D : va_G) (cy : Nat → ClassId) (Y : Yt) {fu : Nat} {this : Nat} {a1 : Int32} {a2 : Int32} {a3 : Int32} {σ : Mm} {r : Int32} {σ1 : Mm} (h_this : okk Y n 8 this) (hf : f_X11_residueBy Y fu this a1 a2 a3 σ = some (r, σ1)) : Ki l yX11_residueBy wsX11_residueBy ({ frames := 4, cells := 0, slots := 0, locals := 112 } : Room) z n D cy Y [.ref (z + this), .int a1, .int a2, .int a3] σ r σ1 := by
  refine Met.ofW (cc := cX11_residueBy) (maxL := 4) (ret := (some .int)) (by decide +kernel) rfl ?_
  intro p e s m args below meth c s₁ B hml hv
  obtain ⟨rfl, hW, hK, hN⟩ := hv
  have hx := B.exec
  have hb := B.bytes
  have hr := B.returns
  have hts := atoms_spec (ws := wsX11_residueBy) B.pre
  have hown : s.vm.findClass RX11 = some m.cls := findClass_of_methodNamed B.named
  have hlocks := B.notSynchronized
  have hS : va_S (Az z) s.heap s.heap [] := va_S.rf
  have hin11 : ∀ w ∈ wsX110, w ∈ wsX11_residueBy := fun w h => List.mem_cons_of_mem _ (List.mem_append_left _ (List.mem_append_left _ (List.mem_append_left _ (List.mem_append_left _ (List.mem_append_right _ h)))))
  have hw0 := hts (.fieldLink RX11 24 "SkyClocks" "clocks" "[LSkyClocks$Turns;") (List.mem_of_getElem? (i := 1) rfl)
  have hl := lv_entry ([.ref (z + this), .int a1, .int a2, .int a3]) (n := 4) (Nat.le_of_ble_eq_true rfl)
  rw [lg_entry_eq]
  generalize (lg_sl ([.ref (z + this), .int a1, .int a2, .int a3]) ++ List.replicate (4 - (lg_sl ([.ref (z + this), .int a1, .int a2, .int a3])).length) Slot.unset).toArray = ls at hl ⊢
  have hl : lv_has ls 4 [(0, .ref (z + this)), (1, .int a1), (2, .int a2), (3, .int a3)] := hl
  refine lv_aload_n hx hb dX11_residueBy_0 rfl (lv_at hl 0 rfl) ?_
  refine q_getp (own := RX11) (ref := RX11) (C := RX11) (T := TX11) (N := 10) (kc := 8) (ci := 0) hx hb hts hin11 hown hK hW h_this (by decide) rfl 2 (by decide) hw0 rfl rfl rfl (v := 8) rfl dX11_residueBy_1 (fun hk_1 hq_2 => ?_)
  refine lv_iload_n hx hb dX11_residueBy_4 rfl (lv_at hl 1 rfl) ?_
  obtain ⟨hi_3, hf⟩ := g_in hf
  refine q_aalp (kc := 15) (t := 7) hx hb hK hW hk_1 rfl (inb_of hq_2 hi_3) rfl dX11_residueBy_5 (fun hk_4 hq_5 => ?_)
  refine lv_aload_n hx hb dX11_residueBy_6 rfl (lv_at hl 0 rfl) ?_
  refine lv_iload_n hx hb dX11_residueBy_7 rfl (lv_at hl 1 rfl) ?_
  refine lv_iload_n hx hb dX11_residueBy_8 rfl (lv_at hl 2 rfl) ?_
  refine lv_iload_n hx hb dX11_residueBy_9 rfl (lv_at hl 3 rfl) ?_
  obtain ⟨r_8, σ_7, hc_6, hf⟩ := g_bnd hf
  refine q_calli (va_runV (As := [.int a1, .int a2, .int a3]) (rest := [.ref (z + (558 + 10 * ix a1))]) ⟨hx, hb, hml, hown, hts⟩ (k_X11_corrected l z n D cy Y h_this hc_6) (cwV 3 hts gX11_residueBy_X11_corrected rfl rfl rfl (by decide +kernel) ⟨Nat.le_of_ble_eq_true rfl, Nat.le_of_ble_eq_true rfl⟩) (q_PV (T := TX11) (N := 10) hK hN hW h_this (by decide) rfl) rfl rfl hl.1 rfl (lv_room (Nat.le_of_ble_eq_true rfl)) dX11_residueBy_10 ⟨Nat.le_refl _, Nat.le_refl _⟩) hS (fun H locs hW hS => ?_)
  obtain ⟨r_11, σ_10, hc_9, hf⟩ := g_bnd hf
  refine q_calli (va_runV (As := [.int r_8]) (rest := []) ⟨hx, hb, hml, hown, hts⟩ (k_X10_residueAt l z n D cy Y hk_4 hc_9) (cwV 1 hts gX11_residueBy_X10_residueAt rfl rfl rfl (by decide +kernel) ⟨Nat.le_of_ble_eq_true rfl, Nat.le_of_ble_eq_true rfl⟩) (q_PV (T := TX10) (N := 3) hK hN hW hk_4 (by decide) rfl) rfl rfl hl.1 rfl (lv_room (Nat.le_of_ble_eq_true rfl)) dX11_residueBy_13 ⟨Nat.le_refl _, Nat.le_refl _⟩) hS (fun H locs hW hS => ?_)
  exact q_iret hx hb hr hlocks hW hS hf dX11_residueBy_16
set_option maxRecDepth 100000 in
set_option maxHeartbeats 40000000 in
theorem k_X11_isLoud (l : Launch) (z n : Nat) (D : va_G) (cy : Nat → ClassId) (Y : Yt) {fu : Nat} {this : Nat} {a1 : Int32} {a2 : Int32} {σ : Mm} {r : Int32} {σ1 : Mm} (h_this : okk Y n 8 this) (hf : f_X11_isLoud Y fu this a1 a2 σ = some (r, σ1)) : Ki l yX11_isLoud wsX11_isLoud ({ frames := 5, cells := 0, slots := 0, locals := 135 } : Room) z n D cy Y [.ref (z + this), .int a1, .int a2] σ r σ1 := by
  refine Met.ofW (cc := cX11_isLoud) (maxL := 3) (ret := (some .boolean)) (by decide +kernel) rfl ?_
  intro p e s m args below meth c s₁ B hml hv
  obtain ⟨rfl, hW, hK, hN⟩ := hv
  have hx := B.exec
  have hb := B.bytes
  have hr := B.returns
  have hts := atoms_spec (ws := wsX11_isLoud) B.pre
  have hown : s.vm.findClass RX11 = some m.cls := findClass_of_methodNamed B.named
  have hlocks := B.notSynchronized
  have hS : va_S (Az z) s.heap s.heap [] := va_S.rf
  have hin11 : ∀ w ∈ wsX110, w ∈ wsX11_isLoud := fun w h => List.mem_cons_of_mem _ (List.mem_append_left _ (List.mem_append_left _ (List.mem_append_left _ (List.mem_append_left _ (List.mem_append_right _ h)))))
  have hin8 : ∀ w ∈ wsX80, w ∈ wsX11_isLoud := fun w h => List.mem_cons_of_mem _ (List.mem_append_left _ (List.mem_append_left _ (List.mem_append_left _ (List.mem_append_right _ h))))
  have hw0 := hts (.fieldLink RX11 10 "SkyClocks" "tables" "LSkyClocks$Tables;") (List.mem_of_getElem? (i := 1) rfl)
  have hw1 : va_Nw (.fieldLinkNest RX11 105 "SkyClocks$Tables" "version" "I" "SkyClocks") s := hN _ (List.mem_of_getElem? (i := 2) rfl)
  have hw2 := hts (.methodLink RX11 248 Lib.Math.abs.name) (List.mem_of_getElem? (i := 2) rfl)
  have hw3 := hts (.static Lib.Math.abs.name) (List.mem_of_getElem? (i := 3) rfl)
  have hw4 := hts (.initialized "java/lang/Math") (List.mem_of_getElem? (i := 4) rfl)
  have hw5 := hts (.code Lib.Math.abs.name Lib.Math.abs.code 1 (some .int)) (List.mem_of_getElem? (i := 5) rfl)
  have hw6 := hts (.fieldLink RX11 18 "SkyClocks" "stars" "[LSkyClocks$Star;") (List.mem_of_getElem? (i := 6) rfl)
  have hl := lv_entry ([.ref (z + this), .int a1, .int a2]) (n := 3) (Nat.le_of_ble_eq_true rfl)
  rw [lg_entry_eq]
  generalize (lg_sl ([.ref (z + this), .int a1, .int a2]) ++ List.replicate (3 - (lg_sl ([.ref (z + this), .int a1, .int a2])).length) Slot.unset).toArray = ls at hl ⊢
  have hl : lv_has ls 3 [(0, .ref (z + this)), (1, .int a1), (2, .int a2)] := hl
  refine lv_aload_n hx hb dX11_isLoud_0 rfl (lv_at hl 0 rfl) ?_
  refine lv_iload_n hx hb dX11_isLoud_1 rfl (lv_at hl 1 rfl) ?_
  refine lv_iload_n hx hb dX11_isLoud_2 rfl (lv_at hl 2 rfl) ?_
  refine lv_aload_n hx hb dX11_isLoud_3 rfl (lv_at hl 0 rfl) ?_
  refine q_getp (own := RX11) (ref := RX11) (C := RX11) (T := TX11) (N := 10) (kc := 8) (ci := 0) hx hb hts hin11 hown hK hW h_this (by decide) rfl 0 (by decide) hw0 rfl rfl rfl (v := 2) rfl dX11_isLoud_4 (fun hk_1 hq_2 => ?_)
  refine q_getiN (own := RX11) (ref := RX8) (C := RX8) (T := TX8) (N := 4) (kc := 5) (ci := 0) (host := "SkyClocks") hx hb hts hin8 hown hK hW hk_1 (by decide) rfl 2 (by decide) hw1 rfl rfl dX11_isLoud_7 ?_
  obtain ⟨r_5, σ_4, hc_3, hf⟩ := g_bnd hf
  refine q_calli (va_runV (As := [.int a1, .int a2, .int (Mm.gi σ 2 2)]) (rest := []) ⟨hx, hb, hml, hown, hts⟩ (k_X11_residueBy l z n D cy Y h_this hc_3) (cwV 3 hts gX11_isLoud_X11_residueBy rfl rfl rfl (by decide +kernel) ⟨Nat.le_of_ble_eq_true rfl, Nat.le_of_ble_eq_true rfl⟩) (q_PV (T := TX11) (N := 10) hK hN hW h_this (by decide) rfl) rfl rfl hl.1 rfl (lv_room (Nat.le_of_ble_eq_true rfl)) dX11_isLoud_10 ⟨Nat.le_refl _, Nat.le_refl _⟩) hS (fun H locs hW hS => ?_)
  refine va_mabs hx hb (by rw [hml]; exact hl.1.symm) hown hw2 hw3 hw4 hw5 (Nat.le_of_ble_eq_true rfl) (Nat.le_of_ble_eq_true rfl) (Nat.zero_le _) (Nat.zero_le _) dX11_isLoud_13 ?_
  refine lv_iconst (v := 3) hx hb dX11_isLoud_16 (by decide) ?_
  refine lv_aload_n hx hb dX11_isLoud_17 rfl (lv_at hl 0 rfl) ?_
  refine q_getp (own := RX11) (ref := RX11) (C := RX11) (T := TX11) (N := 10) (kc := 8) (ci := 0) hx hb hts hin11 hown hK hW h_this (by decide) rfl 1 (by decide) hw6 rfl rfl rfl (v := 7) rfl dX11_isLoud_18 (fun hk_6 hq_7 => ?_)
  refine lv_iload_n hx hb dX11_isLoud_21 rfl (lv_at hl 1 rfl) ?_
  obtain ⟨hi_8, hf⟩ := g_in hf
  refine q_aalp (kc := 14) (t := 4) hx hb hK hW hk_6 rfl (inb_of hq_7 hi_8) rfl dX11_isLoud_22 (fun hk_9 hq_10 => ?_)
  refine lv_iload_n hx hb dX11_isLoud_23 rfl (lv_at hl 2 rfl) ?_
  refine lv_iconst (v := 1) hx hb dX11_isLoud_24 (by decide) ?_
  obtain ⟨r_13, σ_12, hc_11, hf⟩ := g_bnd hf
  refine q_calli (va_runV (As := [.int a2, .int 1]) (rest := [.int 3, .int (if 0 ≤ r_5 then r_5 else 0 - r_5)]) ⟨hx, hb, hml, hown, hts⟩ (k_X7_value l z n D cy Y hk_9 hc_11) (cwV 2 hts gX11_isLoud_X7_value rfl rfl rfl (by decide +kernel) ⟨Nat.le_of_ble_eq_true rfl, Nat.le_of_ble_eq_true rfl⟩) (q_PV (T := TX7) (N := 4) hK hN hW hk_9 (by decide) rfl) rfl rfl hl.1 rfl (lv_room (Nat.le_of_ble_eq_true rfl)) dX11_isLoud_25 ⟨Nat.le_refl _, Nat.le_refl _⟩) hS (fun H locs hW hS => ?_)
  refine lv_imul hx hb dX11_isLoud_28 ?_
  refine lv_icmp_le (tgt := 36) hx hb dX11_isLoud_29 (by decide) (fun c => ?_) (fun c => ?_)
  · have hf := g_pos c hf
    refine lv_iconst (v := 0) hx hb dX11_isLoud_36 (by decide) ?_
    exact q_zret hx hb hr hlocks hW hS hf dX11_isLoud_37
  · have hf := g_neg c hf
    refine lv_iconst (v := 1) hx hb dX11_isLoud_32 (by decide) ?_
    refine lv_goto (tgt := 37) hx hb dX11_isLoud_33 (by decide) ?_
    exact q_zret hx hb hr hlocks hW hS hf dX11_isLoud_37
set_option maxRecDepth 100000 in
set_option maxHeartbeats 40000000 in
theorem k_X11_isStar (l : Launch) (z n : Nat) (D : va_G) (cy : Nat → ClassId) (Y : Yt) {a0 : Int32} {σ : Mm} {r : Int32} {σ1 : Mm} (hf : f_X11_isStar Y a0 σ = some (r, σ1)) : Ki l yX11_isStar wsX11_isStar ({ frames := 1, cells := 0, slots := 0, locals := 22 } : Room) z n D cy Y [.int a0] σ r σ1 := by
  refine Met.ofW (cc := cX11_isStar) (maxL := 1) (ret := (some .boolean)) (by decide +kernel) rfl ?_
  intro p e s m args below meth c s₁ B hml hv
  obtain ⟨rfl, hW, hK, hN⟩ := hv
  have hx := B.exec
  have hb := B.bytes
  have hr := B.returns
  have hts := atoms_spec (ws := wsX11_isStar) B.pre
  have hown : s.vm.findClass RX11 = some m.cls := findClass_of_methodNamed B.named
  have hlocks := B.notSynchronized
  have hS : va_S (Az z) s.heap s.heap [] := va_S.rf
  have hl := lv_entry ([.int a0]) (n := 1) (Nat.le_of_ble_eq_true rfl)
  rw [lg_entry_eq]
  generalize (lg_sl ([.int a0]) ++ List.replicate (1 - (lg_sl ([.int a0])).length) Slot.unset).toArray = ls at hl ⊢
  have hl : lv_has ls 1 [(0, .int a0)] := hl
  refine lv_iload_n hx hb dX11_isStar_0 rfl (lv_at hl 0 rfl) ?_
  refine lv_iconst (v := 0) hx hb dX11_isStar_1 (by decide) ?_
  refine lv_iconst (v := 3) hx hb dX11_isStar_2 (by decide) ?_
  obtain ⟨r_3, σ_2, hc_1, hf⟩ := g_bnd hf
  refine q_calli (va_runS (As := [.int a0, .int 0, .int 3]) (rest := []) ⟨hx, hb, hml, hown, hts⟩ (k_X11_within l z n D cy Y hc_1) (va_cwS 3 hts gX11_isStar_X11_within rfl rfl rfl (by decide +kernel) ⟨Nat.le_of_ble_eq_true rfl, Nat.le_of_ble_eq_true rfl⟩) (q_PS hK hN hW) rfl rfl hl.1 rfl (lv_room (Nat.le_of_ble_eq_true rfl)) dX11_isStar_3 ⟨Nat.le_refl _, Nat.le_refl _⟩) hS (fun H locs hW hS => ?_)
  exact q_zret hx hb hr hlocks hW hS hf dX11_isStar_6
set_option maxRecDepth 100000 in
set_option maxHeartbeats 40000000 in
theorem k_X11_alarm (l : Launch) (z n : Nat) (D : va_G) (cy : Nat → ClassId) (Y : Yt) {fu : Nat} {this : Nat} {a1 : Int32} {σ : Mm} {r : Int32} {σ1 : Mm} (h_this : okk Y n 8 this) (hf : f_X11_alarm Y fu this a1 σ = some (r, σ1)) : Ki l yX11_alarm wsX11_alarm ({ frames := 6, cells := 0, slots := 0, locals := 157 } : Room) z n D cy Y [.ref (z + this), .int a1] σ r σ1 := by
  refine Met.ofW (cc := cX11_alarm) (maxL := 5) (ret := (some .int)) (by decide +kernel) rfl ?_
  intro p e s m args below meth c s₁ B hml hv
  obtain ⟨rfl, hW, hK, hN⟩ := hv
  have hx := B.exec
  have hb := B.bytes
  have hr := B.returns
  have hts := atoms_spec (ws := wsX11_alarm) B.pre
  have hown : s.vm.findClass RX11 = some m.cls := findClass_of_methodNamed B.named
  have hlocks := B.notSynchronized
  have hS : va_S (Az z) s.heap s.heap [] := va_S.rf
  have hin11 : ∀ w ∈ wsX110, w ∈ wsX11_alarm := fun w h => List.mem_cons_of_mem _ (List.mem_append_left _ (List.mem_append_left _ (List.mem_append_left _ (List.mem_append_left _ (List.mem_append_right _ h)))))
  have hin7 : ∀ w ∈ wsX70, w ∈ wsX11_alarm := fun w h => List.mem_cons_of_mem _ (List.mem_append_left _ (List.mem_append_left _ (List.mem_append_left _ (List.mem_append_right _ h))))
  have hw0 := hts (.fieldLink RX11 24 "SkyClocks" "clocks" "[LSkyClocks$Turns;") (List.mem_of_getElem? (i := 1) rfl)
  have hw1 := hts (.fieldLink RX11 18 "SkyClocks" "stars" "[LSkyClocks$Star;") (List.mem_of_getElem? (i := 2) rfl)
  have hw2 : va_Nw (.fieldLinkNest RX11 114 "SkyClocks$Star" "seen" "I" "SkyClocks") s := hN _ (List.mem_of_getElem? (i := 11) rfl)
  have hl := lv_entry ([.ref (z + this), .int a1]) (n := 5) (Nat.le_of_ble_eq_true rfl)
  rw [lg_entry_eq]
  generalize (lg_sl ([.ref (z + this), .int a1]) ++ List.replicate (5 - (lg_sl ([.ref (z + this), .int a1])).length) Slot.unset).toArray = ls at hl ⊢
  have hl : lv_has ls 5 [(0, .ref (z + this)), (1, .int a1)] := hl
  have B96 : ∀ (k29 : Int32 → Int32 → Mm → Option (Int32 × Mm)) (H29 : ∀ (x2 : Int32) (x3 : Int32) (σ : Mm), k29 x2 x3 σ = some (r, σ1) → ∀ (H : Heap) (locs : List Loc) (ls : Array Slot), WH z n D cy Y σ H → va_S (Az z) s.heap H locs → lv_has ls 5 [(0, .ref (z + this)), (1, .int a1), (2, .int x2), (3, .int x3)] → W p l e ({ frames := 6, cells := 0, slots := 0, locals := 157 } : Room) s m ([.ref (z + this), .int a1] : List Value).toArray below meth c H locs 0 0 (MQ below (va_Qi (fun (x : Int32) (_ : Unit) => x = r) (fun _ t => WH z n D cy Y σ1 t.heap) (Az z)) ([.ref (z + this), .int a1] : List Value).toArray s 0 0 (Az z)) (F0 m 29 ls [])) (x2 : Int32) (x3 : Int32) (σ : Mm), b_X11_alarm_96 Y fu this a1 k29 x2 x3 σ = some (r, σ1) → ∀ (H : Heap) (locs : List Loc) (ls : Array Slot), WH z n D cy Y σ H → va_S (Az z) s.heap H locs → lv_has ls 5 [(0, .ref (z + this)), (1, .int a1), (2, .int x2), (3, .int x3)] → W p l e ({ frames := 6, cells := 0, slots := 0, locals := 157 } : Room) s m ([.ref (z + this), .int a1] : List Value).toArray below meth c H locs 0 0 (MQ below (va_Qi (fun (x : Int32) (_ : Unit) => x = r) (fun _ t => WH z n D cy Y σ1 t.heap) (Az z)) ([.ref (z + this), .int a1] : List Value).toArray s 0 0 (Az z)) (F0 m 96 ls []) := by
    intro k29 H29 x2 x3 σ  hf H locs ls hW hS hl
    obtain ⟨x3_17, ex3_17⟩ : ∃ y : Int32, y = x3 + 1 := ⟨_, rfl⟩
    have hf := g_lt ex3_17 hf
    refine lv_iinc (v := x3_17) (lv' := [(3, .int x3_17), (0, .ref (z + this)), (1, .int a1), (2, .int x2)]) hx hb dX11_alarm_96 hl (k := 3) rfl (by rw [ex3_17]; rfl) (by decide) rfl (fun ls hl => ?_)
    refine lv_goto (tgt := 29) hx hb dX11_alarm_99 (by decide) ?_
    exact H29 x2 x3_17 σ hf _ _ _ hW hS (lv_sub hl [1, 2, 3, 0] rfl)
  have B78 : ∀ (k29 : Int32 → Int32 → Mm → Option (Int32 × Mm)) (H29 : ∀ (x2 : Int32) (x3 : Int32) (σ : Mm), k29 x2 x3 σ = some (r, σ1) → ∀ (H : Heap) (locs : List Loc) (ls : Array Slot), WH z n D cy Y σ H → va_S (Az z) s.heap H locs → lv_has ls 5 [(0, .ref (z + this)), (1, .int a1), (2, .int x2), (3, .int x3)] → W p l e ({ frames := 6, cells := 0, slots := 0, locals := 157 } : Room) s m ([.ref (z + this), .int a1] : List Value).toArray below meth c H locs 0 0 (MQ below (va_Qi (fun (x : Int32) (_ : Unit) => x = r) (fun _ t => WH z n D cy Y σ1 t.heap) (Az z)) ([.ref (z + this), .int a1] : List Value).toArray s 0 0 (Az z)) (F0 m 29 ls [])) (x2 : Int32) (x3 : Int32) (t0 : Int32) (σ : Mm), b_X11_alarm_78 Y fu this a1 k29 x2 x3 t0 σ = some (r, σ1) → ∀ (H : Heap) (locs : List Loc) (ls : Array Slot), WH z n D cy Y σ H → va_S (Az z) s.heap H locs → lv_has ls 5 [(0, .ref (z + this)), (1, .int a1), (2, .int x2), (3, .int x3)] → W p l e ({ frames := 6, cells := 0, slots := 0, locals := 157 } : Room) s m ([.ref (z + this), .int a1] : List Value).toArray below meth c H locs 0 0 (MQ below (va_Qi (fun (x : Int32) (_ : Unit) => x = r) (fun _ t => WH z n D cy Y σ1 t.heap) (Az z)) ([.ref (z + this), .int a1] : List Value).toArray s 0 0 (Az z)) (F0 m 78 ls [.int t0]) := by
    intro k29 H29 x2 x3 t0 σ  hf H locs ls hW hS hl
    refine lv_istore (lv' := [(4, .int t0), (0, .ref (z + this)), (1, .int a1), (2, .int x2), (3, .int x3)]) hx hb dX11_alarm_78 hl (by decide) rfl (fun ls hl => ?_)
    refine lv_iload hx hb dX11_alarm_80 (lv_at hl 0 rfl) ?_
    refine lv_if_eq (tgt := 96) hx hb dX11_alarm_82 (by decide) (fun c => ?_) (fun c => ?_)
    · have hf := g_pos c hf
      exact B96 k29 H29 x2 x3 σ hf _ _ _ hW hS (lv_sub hl [1, 2, 3, 4] rfl)
    · have hf := g_neg c hf
      refine lv_aload_n hx hb dX11_alarm_85 rfl (lv_at hl 1 rfl) ?_
      refine lv_iload_n hx hb dX11_alarm_86 rfl (lv_at hl 2 rfl) ?_
      refine lv_iload_n hx hb dX11_alarm_87 rfl (lv_at hl 4 rfl) ?_
      obtain ⟨r_20, σ_19, hc_18, hf⟩ := g_bnd hf
      refine q_calli (va_runV (As := [.int a1, .int x3]) (rest := []) ⟨hx, hb, hml, hown, hts⟩ (k_X11_isLoud l z n D cy Y h_this hc_18) (cwV 2 hts gX11_alarm_X11_isLoud rfl rfl rfl (by decide +kernel) ⟨Nat.le_of_ble_eq_true rfl, Nat.le_of_ble_eq_true rfl⟩) (q_PV (T := TX11) (N := 10) hK hN hW h_this (by decide) rfl) rfl rfl hl.1 rfl (lv_room (Nat.le_of_ble_eq_true rfl)) dX11_alarm_88 ⟨Nat.le_refl _, Nat.le_refl _⟩) hS (fun H locs hW hS => ?_)
      refine lv_if_eq (tgt := 96) hx hb dX11_alarm_91 (by decide) (fun c => ?_) (fun c => ?_)
      · have hf := g_pos c hf
        exact B96 k29 H29 x2 x3 σ_19 hf _ _ _ hW hS (lv_sub hl [1, 2, 3, 4] rfl)
      · have hf := g_neg c hf
        refine lv_iload_n hx hb dX11_alarm_94 rfl (lv_at hl 4 rfl) ?_
        refine lv_istore_n (lv' := [(2, .int x3), (4, .int t0), (0, .ref (z + this)), (1, .int a1), (3, .int x3)]) hx hb dX11_alarm_95 rfl hl (by decide) rfl (fun ls hl => ?_)
        exact B96 k29 H29 x3 x3 σ_19 hf _ _ _ hW hS (lv_sub hl [2, 3, 0, 4] rfl)
  have B73 : ∀ (k29 : Int32 → Int32 → Mm → Option (Int32 × Mm)) (H29 : ∀ (x2 : Int32) (x3 : Int32) (σ : Mm), k29 x2 x3 σ = some (r, σ1) → ∀ (H : Heap) (locs : List Loc) (ls : Array Slot), WH z n D cy Y σ H → va_S (Az z) s.heap H locs → lv_has ls 5 [(0, .ref (z + this)), (1, .int a1), (2, .int x2), (3, .int x3)] → W p l e ({ frames := 6, cells := 0, slots := 0, locals := 157 } : Room) s m ([.ref (z + this), .int a1] : List Value).toArray below meth c H locs 0 0 (MQ below (va_Qi (fun (x : Int32) (_ : Unit) => x = r) (fun _ t => WH z n D cy Y σ1 t.heap) (Az z)) ([.ref (z + this), .int a1] : List Value).toArray s 0 0 (Az z)) (F0 m 29 ls [])) (x2 : Int32) (x3 : Int32) (σ : Mm), b_X11_alarm_73 Y fu this a1 k29 x2 x3 σ = some (r, σ1) → ∀ (H : Heap) (locs : List Loc) (ls : Array Slot), WH z n D cy Y σ H → va_S (Az z) s.heap H locs → lv_has ls 5 [(0, .ref (z + this)), (1, .int a1), (2, .int x2), (3, .int x3)] → W p l e ({ frames := 6, cells := 0, slots := 0, locals := 157 } : Room) s m ([.ref (z + this), .int a1] : List Value).toArray below meth c H locs 0 0 (MQ below (va_Qi (fun (x : Int32) (_ : Unit) => x = r) (fun _ t => WH z n D cy Y σ1 t.heap) (Az z)) ([.ref (z + this), .int a1] : List Value).toArray s 0 0 (Az z)) (F0 m 73 ls []) := by
    intro k29 H29 x2 x3 σ  hf H locs ls hW hS hl
    refine lv_iconst (v := 1) hx hb dX11_alarm_73 (by decide) ?_
    refine lv_goto (tgt := 78) hx hb dX11_alarm_74 (by decide) ?_
    exact B78 k29 H29 x2 x3 1 σ hf _ _ _ hW hS (lv_sub hl [0, 1, 2, 3] rfl)
  have B29 : ∀ (nn : Nat) (x2 : Int32) (x3 : Int32) (σ : Mm), b_X11_alarm_29 Y fu this a1 nn x2 x3 σ = some (r, σ1) → ∀ (H : Heap) (locs : List Loc) (ls : Array Slot), WH z n D cy Y σ H → va_S (Az z) s.heap H locs → lv_has ls 5 [(0, .ref (z + this)), (1, .int a1), (2, .int x2), (3, .int x3)] → W p l e ({ frames := 6, cells := 0, slots := 0, locals := 157 } : Room) s m ([.ref (z + this), .int a1] : List Value).toArray below meth c H locs 0 0 (MQ below (va_Qi (fun (x : Int32) (_ : Unit) => x = r) (fun _ t => WH z n D cy Y σ1 t.heap) (Az z)) ([.ref (z + this), .int a1] : List Value).toArray s 0 0 (Az z)) (F0 m 29 ls []) := by
    intro nn
    induction nn with
    | zero =>
      intro x2 x3 σ  hf
      have h9 : (none : Option (Int32 × Mm)) = some (r, σ1) := hf
      cases h9
    | succ nn H29 =>
      intro x2 x3 σ  hf H locs ls hW hS hl
      have hf : s_X11_alarm_29 Y fu this a1 (b_X11_alarm_29 Y fu this a1 nn) x2 x3 σ = some (r, σ1) := hf
      generalize hkk : b_X11_alarm_29 Y fu this a1 nn = k29 at hf H29
      refine lv_iload_n hx hb dX11_alarm_29 rfl (lv_at hl 3 rfl) ?_
      refine lv_aload_n hx hb dX11_alarm_30 rfl (lv_at hl 0 rfl) ?_
      refine q_getp (own := RX11) (ref := RX11) (C := RX11) (T := TX11) (N := 10) (kc := 8) (ci := 0) hx hb hts hin11 hown hK hW h_this (by decide) rfl 1 (by decide) hw1 rfl rfl rfl (v := 7) rfl dX11_alarm_31 (fun hk_12 hq_13 => ?_)
      refine lv_iload_n hx hb dX11_alarm_34 rfl (lv_at hl 1 rfl) ?_
      obtain ⟨hi_14, hf⟩ := g_in hf
      refine q_aalp (kc := 14) (t := 4) hx hb hK hW hk_12 rfl (inb_of hq_13 hi_14) rfl dX11_alarm_35 (fun hk_15 hq_16 => ?_)
      refine q_getiN (own := RX11) (ref := RX7) (C := RX7) (T := TX7) (N := 4) (kc := 4) (ci := 0) (host := "SkyClocks") hx hb hts hin7 hown hK hW hk_15 (by decide) rfl 3 (by decide) hw2 rfl rfl dX11_alarm_36 ?_
      refine lv_icmp_ge (tgt := 102) hx hb dX11_alarm_39 (by decide) (fun c => ?_) (fun c => ?_)
      · have hf := g_pos c hf
        refine lv_iload_n hx hb dX11_alarm_102 rfl (lv_at hl 2 rfl) ?_
        exact q_iret hx hb hr hlocks hW hS hf dX11_alarm_103
      · have hf := g_neg c hf
        refine lv_iload_n hx hb dX11_alarm_42 rfl (lv_at hl 2 rfl) ?_
        refine lv_bipush (v := (-4)) hx hb dX11_alarm_43 (by decide) ?_
        refine lv_icmp_eq (tgt := 73) hx hb dX11_alarm_45 (by decide) (fun c => ?_) (fun c => ?_)
        · have hf := g_pos c hf
          exact B73 k29 H29 x2 x3 σ hf _ _ _ hW hS (lv_sub hl [0, 1, 2, 3] rfl)
        · have hf := g_neg c hf
          refine lv_aload_n hx hb dX11_alarm_48 rfl (lv_at hl 0 rfl) ?_
          refine q_getp (own := RX11) (ref := RX11) (C := RX11) (T := TX11) (N := 10) (kc := 8) (ci := 0) hx hb hts hin11 hown hK hW h_this (by decide) rfl 1 (by decide) hw1 rfl rfl rfl (v := 7) rfl dX11_alarm_49 (fun hk_21 hq_22 => ?_)
          refine lv_iload_n hx hb dX11_alarm_52 rfl (lv_at hl 1 rfl) ?_
          obtain ⟨hi_23, hf⟩ := g_in hf
          refine q_aalp (kc := 14) (t := 4) hx hb hK hW hk_21 rfl (inb_of hq_22 hi_23) rfl dX11_alarm_53 (fun hk_24 hq_25 => ?_)
          refine lv_iload_n hx hb dX11_alarm_54 rfl (lv_at hl 3 rfl) ?_
          refine lv_iconst (v := 3) hx hb dX11_alarm_55 (by decide) ?_
          obtain ⟨r_28, σ_27, hc_26, hf⟩ := g_bnd hf
          refine q_calli (va_runV (As := [.int x3, .int 3]) (rest := []) ⟨hx, hb, hml, hown, hts⟩ (k_X7_value l z n D cy Y hk_24 hc_26) (cwV 2 hts gX11_alarm_X7_value rfl rfl rfl (by decide +kernel) ⟨Nat.le_of_ble_eq_true rfl, Nat.le_of_ble_eq_true rfl⟩) (q_PV (T := TX7) (N := 4) hK hN hW hk_24 (by decide) rfl) rfl rfl hl.1 rfl (lv_room (Nat.le_of_ble_eq_true rfl)) dX11_alarm_56 ⟨Nat.le_refl _, Nat.le_refl _⟩) hS (fun H locs hW hS => ?_)
          refine lv_aload_n hx hb dX11_alarm_59 rfl (lv_at hl 0 rfl) ?_
          refine q_getp (own := RX11) (ref := RX11) (C := RX11) (T := TX11) (N := 10) (kc := 8) (ci := 0) hx hb hts hin11 hown hK hW h_this (by decide) rfl 1 (by decide) hw1 rfl rfl rfl (v := 7) rfl dX11_alarm_60 (fun hk_29 hq_30 => ?_)
          refine lv_iload_n hx hb dX11_alarm_63 rfl (lv_at hl 1 rfl) ?_
          obtain ⟨hi_31, hf⟩ := g_in hf
          refine q_aalp (kc := 14) (t := 4) hx hb hK hW hk_29 rfl (inb_of hq_30 hi_31) rfl dX11_alarm_64 (fun hk_32 hq_33 => ?_)
          refine lv_iload_n hx hb dX11_alarm_65 rfl (lv_at hl 2 rfl) ?_
          refine lv_iconst (v := 3) hx hb dX11_alarm_66 (by decide) ?_
          obtain ⟨r_36, σ_35, hc_34, hf⟩ := g_bnd hf
          refine q_calli (va_runV (As := [.int x2, .int 3]) (rest := [.int r_28]) ⟨hx, hb, hml, hown, hts⟩ (k_X7_value l z n D cy Y hk_32 hc_34) (cwV 2 hts gX11_alarm_X7_value rfl rfl rfl (by decide +kernel) ⟨Nat.le_of_ble_eq_true rfl, Nat.le_of_ble_eq_true rfl⟩) (q_PV (T := TX7) (N := 4) hK hN hW hk_32 (by decide) rfl) rfl rfl hl.1 rfl (lv_room (Nat.le_of_ble_eq_true rfl)) dX11_alarm_67 ⟨Nat.le_refl _, Nat.le_refl _⟩) hS (fun H locs hW hS => ?_)
          refine lv_icmp_ge (tgt := 77) hx hb dX11_alarm_70 (by decide) (fun c => ?_) (fun c => ?_)
          · have hf := g_pos c hf
            refine lv_iconst (v := 0) hx hb dX11_alarm_77 (by decide) ?_
            exact B78 k29 H29 x2 x3 0 σ_35 hf _ _ _ hW hS (lv_sub hl [0, 1, 2, 3] rfl)
          · have hf := g_neg c hf
            exact B73 k29 H29 x2 x3 σ_35 hf _ _ _ hW hS (lv_sub hl [0, 1, 2, 3] rfl)
  refine lv_iload_n hx hb dX11_alarm_0 rfl (lv_at hl 1 rfl) ?_
  obtain ⟨r_3, σ_2, hc_1, hf⟩ := g_bnd hf
  refine q_calli (va_runS (As := [.int a1]) (rest := []) ⟨hx, hb, hml, hown, hts⟩ (k_X11_isStar l z n D cy Y hc_1) (va_cwS 1 hts gX11_alarm_X11_isStar rfl rfl rfl (by decide +kernel) ⟨Nat.le_of_ble_eq_true rfl, Nat.le_of_ble_eq_true rfl⟩) (q_PS hK hN hW) rfl rfl hl.1 rfl (lv_room (Nat.le_of_ble_eq_true rfl)) dX11_alarm_1 ⟨Nat.le_refl _, Nat.le_refl _⟩) hS (fun H locs hW hS => ?_)
  refine lv_if_ne (tgt := 9) hx hb dX11_alarm_4 (by decide) (fun c => ?_) (fun c => ?_)
  · have hf := g_neg c hf
    refine lv_aload_n hx hb dX11_alarm_9 rfl (lv_at hl 0 rfl) ?_
    refine q_getp (own := RX11) (ref := RX11) (C := RX11) (T := TX11) (N := 10) (kc := 8) (ci := 0) hx hb hts hin11 hown hK hW h_this (by decide) rfl 2 (by decide) hw0 rfl rfl rfl (v := 8) rfl dX11_alarm_10 (fun hk_4 hq_5 => ?_)
    refine lv_iload_n hx hb dX11_alarm_13 rfl (lv_at hl 1 rfl) ?_
    obtain ⟨hi_6, hf⟩ := g_in hf
    refine q_aalp (kc := 15) (t := 7) hx hb hK hW hk_4 rfl (inb_of hq_5 hi_6) rfl dX11_alarm_14 (fun hk_7 hq_8 => ?_)
    obtain ⟨r_11, σ_10, hc_9, hf⟩ := g_bnd hf
    refine q_calli (va_runV (As := []) (rest := []) ⟨hx, hb, hml, hown, hts⟩ (k_X10_stands l z n D cy Y hk_7 hc_9) (cwV 0 hts gX11_alarm_X10_stands rfl rfl rfl (by decide +kernel) ⟨Nat.le_of_ble_eq_true rfl, Nat.le_of_ble_eq_true rfl⟩) (q_PV (T := TX10) (N := 3) hK hN hW hk_7 (by decide) rfl) rfl rfl hl.1 rfl (lv_room (Nat.le_of_ble_eq_true rfl)) dX11_alarm_15 ⟨Nat.le_refl _, Nat.le_refl _⟩) hS (fun H locs hW hS => ?_)
    refine lv_if_ne (tgt := 24) hx hb dX11_alarm_18 (by decide) (fun c => ?_) (fun c => ?_)
    · have hf := g_neg c hf
      refine lv_bipush (v := (-4)) hx hb dX11_alarm_24 (by decide) ?_
      refine lv_istore_n (lv' := [(2, .int (-4)), (0, .ref (z + this)), (1, .int a1)]) hx hb dX11_alarm_26 rfl hl (by decide) rfl (fun ls hl => ?_)
      refine lv_iconst (v := 0) hx hb dX11_alarm_27 (by decide) ?_
      refine lv_istore_n (lv' := [(3, .int 0), (2, .int (-4)), (0, .ref (z + this)), (1, .int a1)]) hx hb dX11_alarm_28 rfl hl (by decide) rfl (fun ls hl => ?_)
      exact B29 fu (-4) 0 σ_10 hf _ _ _ hW hS (lv_sub hl [2, 3, 1, 0] rfl)
    · have hf := g_pos c hf
      refine lv_bipush (v := (-2)) hx hb dX11_alarm_21 (by decide) ?_
      exact q_iret hx hb hr hlocks hW hS hf dX11_alarm_23
  · have hf := g_pos c hf
    refine lv_iconst (v := (-1)) hx hb dX11_alarm_7 (by decide) ?_
    exact q_iret hx hb hr hlocks hW hS hf dX11_alarm_8
set_option maxRecDepth 100000 in
set_option maxHeartbeats 40000000 in
theorem k_X11_isInstrument (l : Launch) (z n : Nat) (D : va_G) (cy : Nat → ClassId) (Y : Yt) {a0 : Int32} {σ : Mm} {r : Int32} {σ1 : Mm} (hf : f_X11_isInstrument Y a0 σ = some (r, σ1)) : Ki l yX11_isInstrument wsX11_isInstrument ({ frames := 1, cells := 0, slots := 0, locals := 22 } : Room) z n D cy Y [.int a0] σ r σ1 := by
  refine Met.ofW (cc := cX11_isInstrument) (maxL := 1) (ret := (some .boolean)) (by decide +kernel) rfl ?_
  intro p e s m args below meth c s₁ B hml hv
  obtain ⟨rfl, hW, hK, hN⟩ := hv
  have hx := B.exec
  have hb := B.bytes
  have hr := B.returns
  have hts := atoms_spec (ws := wsX11_isInstrument) B.pre
  have hown : s.vm.findClass RX11 = some m.cls := findClass_of_methodNamed B.named
  have hlocks := B.notSynchronized
  have hS : va_S (Az z) s.heap s.heap [] := va_S.rf
  have hl := lv_entry ([.int a0]) (n := 1) (Nat.le_of_ble_eq_true rfl)
  rw [lg_entry_eq]
  generalize (lg_sl ([.int a0]) ++ List.replicate (1 - (lg_sl ([.int a0])).length) Slot.unset).toArray = ls at hl ⊢
  have hl : lv_has ls 1 [(0, .int a0)] := hl
  refine lv_iload_n hx hb dX11_isInstrument_0 rfl (lv_at hl 0 rfl) ?_
  refine lv_iconst (v := 0) hx hb dX11_isInstrument_1 (by decide) ?_
  refine lv_iconst (v := 2) hx hb dX11_isInstrument_2 (by decide) ?_
  obtain ⟨r_3, σ_2, hc_1, hf⟩ := g_bnd hf
  refine q_calli (va_runS (As := [.int a0, .int 0, .int 2]) (rest := []) ⟨hx, hb, hml, hown, hts⟩ (k_X11_within l z n D cy Y hc_1) (va_cwS 3 hts gX11_isInstrument_X11_within rfl rfl rfl (by decide +kernel) ⟨Nat.le_of_ble_eq_true rfl, Nat.le_of_ble_eq_true rfl⟩) (q_PS hK hN hW) rfl rfl hl.1 rfl (lv_room (Nat.le_of_ble_eq_true rfl)) dX11_isInstrument_3 ⟨Nat.le_refl _, Nat.le_refl _⟩) hS (fun H locs hW hS => ?_)
  exact q_zret hx hb hr hlocks hW hS hf dX11_isInstrument_6
set_option maxRecDepth 100000 in
set_option maxHeartbeats 40000000 in
theorem k_X11_arrival (l : Launch) (z n : Nat) (D : va_G) (cy : Nat → ClassId) (Y : Yt) {fu : Nat} {this : Nat} {a1 : Int32} {a2 : Int32} {a3 : Int32} {a4 : Int32} {a5 : Int32} {σ : Mm} {r : Int32} {σ1 : Mm} (h_this : okk Y n 8 this) (hf : f_X11_arrival Y fu this a1 a2 a3 a4 a5 σ = some (r, σ1)) : Ki l yX11_arrival wsX11_arrival ({ frames := 2, cells := 0, slots := 0, locals := 86 } : Room) z n D cy Y [.ref (z + this), .int a1, .int a2, .int a3, .int a4, .int a5] σ r σ1 := by
  refine Met.ofW (cc := cX11_arrival) (maxL := 6) (ret := (some .int)) (by decide +kernel) rfl ?_
  intro p e s m args below meth c s₁ B hml hv
  obtain ⟨rfl, hW, hK, hN⟩ := hv
  have hx := B.exec
  have hb := B.bytes
  have hr := B.returns
  have hts := atoms_spec (ws := wsX11_arrival) B.pre
  have hown : s.vm.findClass RX11 = some m.cls := findClass_of_methodNamed B.named
  have hlocks := B.notSynchronized
  have hS : va_S (Az z) s.heap s.heap [] := va_S.rf
  have hin11 : ∀ w ∈ wsX110, w ∈ wsX11_arrival := fun w h => List.mem_cons_of_mem _ (List.mem_append_left _ (List.mem_append_left _ (List.mem_append_right _ h)))
  have hin8 : ∀ w ∈ wsX80, w ∈ wsX11_arrival := fun w h => List.mem_cons_of_mem _ (List.mem_append_left _ (List.mem_append_right _ h))
  have hw0 := hts (.constant RX11 72 (1000000)) (List.mem_of_getElem? (i := 1) rfl)
  have hw1 := hts (.constant RX11 80 (2000000)) (List.mem_of_getElem? (i := 2) rfl)
  have hw2 := hts (.fieldLink RX11 18 "SkyClocks" "stars" "[LSkyClocks$Star;") (List.mem_of_getElem? (i := 3) rfl)
  have hw3 := hts (.fieldLink RX11 10 "SkyClocks" "tables" "LSkyClocks$Tables;") (List.mem_of_getElem? (i := 4) rfl)
  have hw4 : va_Nw (.fieldLinkNest RX11 85 "SkyClocks$Tables" "asOf" "I" "SkyClocks") s := hN _ (List.mem_of_getElem? (i := 3) rfl)
  have hl := lv_entry ([.ref (z + this), .int a1, .int a2, .int a3, .int a4, .int a5]) (n := 6) (Nat.le_of_ble_eq_true rfl)
  rw [lg_entry_eq]
  generalize (lg_sl ([.ref (z + this), .int a1, .int a2, .int a3, .int a4, .int a5]) ++ List.replicate (6 - (lg_sl ([.ref (z + this), .int a1, .int a2, .int a3, .int a4, .int a5])).length) Slot.unset).toArray = ls at hl ⊢
  have hl : lv_has ls 6 [(0, .ref (z + this)), (1, .int a1), (2, .int a2), (3, .int a3), (4, .int a4), (5, .int a5)] := hl
  refine lv_iload_n hx hb dX11_arrival_0 rfl (lv_at hl 1 rfl) ?_
  obtain ⟨r_3, σ_2, hc_1, hf⟩ := g_bnd hf
  refine q_calli (va_runS (As := [.int a1]) (rest := []) ⟨hx, hb, hml, hown, hts⟩ (k_X11_isStar l z n D cy Y hc_1) (va_cwS 1 hts gX11_arrival_X11_isStar rfl rfl rfl (by decide +kernel) ⟨Nat.le_of_ble_eq_true rfl, Nat.le_of_ble_eq_true rfl⟩) (q_PS hK hN hW) rfl rfl hl.1 rfl (lv_room (Nat.le_of_ble_eq_true rfl)) dX11_arrival_1 ⟨Nat.le_refl _, Nat.le_refl _⟩) hS (fun H locs hW hS => ?_)
  refine lv_if_eq (tgt := 47) hx hb dX11_arrival_4 (by decide) (fun c => ?_) (fun c => ?_)
  · have hf := g_pos c hf
    refine lv_iconst (v := (-1)) hx hb dX11_arrival_47 (by decide) ?_
    exact q_iret hx hb hr hlocks hW hS hf dX11_arrival_48
  · have hf := g_neg c hf
    refine lv_iload_n hx hb dX11_arrival_7 rfl (lv_at hl 2 rfl) ?_
    refine lv_iconst (v := 0) hx hb dX11_arrival_8 (by decide) ?_
    refine lv_ldc hx hb hown hw0 dX11_arrival_9 ?_
    obtain ⟨r_6, σ_5, hc_4, hf⟩ := g_bnd hf
    refine q_calli (va_runS (As := [.int a2, .int 0, .int 1000000]) (rest := []) ⟨hx, hb, hml, hown, hts⟩ (k_X11_within l z n D cy Y hc_4) (va_cwS 3 hts gX11_arrival_X11_within rfl rfl rfl (by decide +kernel) ⟨Nat.le_of_ble_eq_true rfl, Nat.le_of_ble_eq_true rfl⟩) (q_PS hK hN hW) rfl rfl hl.1 rfl (lv_room (Nat.le_of_ble_eq_true rfl)) dX11_arrival_11 ⟨Nat.le_refl _, Nat.le_refl _⟩) hS (fun H locs hW hS => ?_)
    refine lv_if_eq (tgt := 47) hx hb dX11_arrival_14 (by decide) (fun c => ?_) (fun c => ?_)
    · have hf := g_pos c hf
      refine lv_iconst (v := (-1)) hx hb dX11_arrival_47 (by decide) ?_
      exact q_iret hx hb hr hlocks hW hS hf dX11_arrival_48
    · have hf := g_neg c hf
      refine lv_iload_n hx hb dX11_arrival_17 rfl (lv_at hl 3 rfl) ?_
      refine lv_iconst (v := 0) hx hb dX11_arrival_18 (by decide) ?_
      refine lv_sipush (v := 1000) hx hb dX11_arrival_19 (by decide) ?_
      obtain ⟨r_9, σ_8, hc_7, hf⟩ := g_bnd hf
      refine q_calli (va_runS (As := [.int a3, .int 0, .int 1000]) (rest := []) ⟨hx, hb, hml, hown, hts⟩ (k_X11_within l z n D cy Y hc_7) (va_cwS 3 hts gX11_arrival_X11_within rfl rfl rfl (by decide +kernel) ⟨Nat.le_of_ble_eq_true rfl, Nat.le_of_ble_eq_true rfl⟩) (q_PS hK hN hW) rfl rfl hl.1 rfl (lv_room (Nat.le_of_ble_eq_true rfl)) dX11_arrival_22 ⟨Nat.le_refl _, Nat.le_refl _⟩) hS (fun H locs hW hS => ?_)
      refine lv_if_eq (tgt := 47) hx hb dX11_arrival_25 (by decide) (fun c => ?_) (fun c => ?_)
      · have hf := g_pos c hf
        refine lv_iconst (v := (-1)) hx hb dX11_arrival_47 (by decide) ?_
        exact q_iret hx hb hr hlocks hW hS hf dX11_arrival_48
      · have hf := g_neg c hf
        refine lv_iload hx hb dX11_arrival_28 (lv_at hl 4 rfl) ?_
        obtain ⟨r_12, σ_11, hc_10, hf⟩ := g_bnd hf
        refine q_calli (va_runS (As := [.int a4]) (rest := []) ⟨hx, hb, hml, hown, hts⟩ (k_X11_isInstrument l z n D cy Y hc_10) (va_cwS 1 hts gX11_arrival_X11_isInstrument rfl rfl rfl (by decide +kernel) ⟨Nat.le_of_ble_eq_true rfl, Nat.le_of_ble_eq_true rfl⟩) (q_PS hK hN hW) rfl rfl hl.1 rfl (lv_room (Nat.le_of_ble_eq_true rfl)) dX11_arrival_30 ⟨Nat.le_refl _, Nat.le_refl _⟩) hS (fun H locs hW hS => ?_)
        refine lv_if_eq (tgt := 47) hx hb dX11_arrival_33 (by decide) (fun c => ?_) (fun c => ?_)
        · have hf := g_pos c hf
          refine lv_iconst (v := (-1)) hx hb dX11_arrival_47 (by decide) ?_
          exact q_iret hx hb hr hlocks hW hS hf dX11_arrival_48
        · have hf := g_neg c hf
          refine lv_iload hx hb dX11_arrival_36 (lv_at hl 5 rfl) ?_
          refine lv_iconst (v := 0) hx hb dX11_arrival_38 (by decide) ?_
          refine lv_ldc hx hb hown hw1 dX11_arrival_39 ?_
          obtain ⟨r_15, σ_14, hc_13, hf⟩ := g_bnd hf
          refine q_calli (va_runS (As := [.int a5, .int 0, .int 2000000]) (rest := []) ⟨hx, hb, hml, hown, hts⟩ (k_X11_within l z n D cy Y hc_13) (va_cwS 3 hts gX11_arrival_X11_within rfl rfl rfl (by decide +kernel) ⟨Nat.le_of_ble_eq_true rfl, Nat.le_of_ble_eq_true rfl⟩) (q_PS hK hN hW) rfl rfl hl.1 rfl (lv_room (Nat.le_of_ble_eq_true rfl)) dX11_arrival_41 ⟨Nat.le_refl _, Nat.le_refl _⟩) hS (fun H locs hW hS => ?_)
          refine lv_if_ne (tgt := 49) hx hb dX11_arrival_44 (by decide) (fun c => ?_) (fun c => ?_)
          · have hf := g_neg c hf
            refine lv_aload_n hx hb dX11_arrival_49 rfl (lv_at hl 0 rfl) ?_
            refine q_getp (own := RX11) (ref := RX11) (C := RX11) (T := TX11) (N := 10) (kc := 8) (ci := 0) hx hb hts hin11 hown hK hW h_this (by decide) rfl 1 (by decide) hw2 rfl rfl rfl (v := 7) rfl dX11_arrival_50 (fun hk_16 hq_17 => ?_)
            refine lv_iload_n hx hb dX11_arrival_53 rfl (lv_at hl 1 rfl) ?_
            obtain ⟨hi_18, hf⟩ := g_in hf
            refine q_aalp (kc := 14) (t := 4) hx hb hK hW hk_16 rfl (inb_of hq_17 hi_18) rfl dX11_arrival_54 (fun hk_19 hq_20 => ?_)
            obtain ⟨r_23, σ_22, hc_21, hf⟩ := g_bnd hf
            refine q_calli (va_runV (As := []) (rest := []) ⟨hx, hb, hml, hown, hts⟩ (k_X7_isFull l z n D cy Y hk_19 hc_21) (cwV 0 hts gX11_arrival_X7_isFull rfl rfl rfl (by decide +kernel) ⟨Nat.le_of_ble_eq_true rfl, Nat.le_of_ble_eq_true rfl⟩) (q_PV (T := TX7) (N := 4) hK hN hW hk_19 (by decide) rfl) rfl rfl hl.1 rfl (lv_room (Nat.le_of_ble_eq_true rfl)) dX11_arrival_55 ⟨Nat.le_refl _, Nat.le_refl _⟩) hS (fun H locs hW hS => ?_)
            refine lv_if_eq (tgt := 64) hx hb dX11_arrival_58 (by decide) (fun c => ?_) (fun c => ?_)
            · have hf := g_pos c hf
              refine lv_aload_n hx hb dX11_arrival_64 rfl (lv_at hl 0 rfl) ?_
              refine q_getp (own := RX11) (ref := RX11) (C := RX11) (T := TX11) (N := 10) (kc := 8) (ci := 0) hx hb hts hin11 hown hK hW h_this (by decide) rfl 1 (by decide) hw2 rfl rfl rfl (v := 7) rfl dX11_arrival_65 (fun hk_24 hq_25 => ?_)
              refine lv_iload_n hx hb dX11_arrival_68 rfl (lv_at hl 1 rfl) ?_
              obtain ⟨hi_26, hf⟩ := g_in hf
              refine q_aalp (kc := 14) (t := 4) hx hb hK hW hk_24 rfl (inb_of hq_25 hi_26) rfl dX11_arrival_69 (fun hk_27 hq_28 => ?_)
              refine lv_iload_n hx hb dX11_arrival_70 rfl (lv_at hl 2 rfl) ?_
              refine lv_iload_n hx hb dX11_arrival_71 rfl (lv_at hl 3 rfl) ?_
              refine lv_iload hx hb dX11_arrival_72 (lv_at hl 4 rfl) ?_
              refine lv_iload hx hb dX11_arrival_74 (lv_at hl 5 rfl) ?_
              refine lv_aload_n hx hb dX11_arrival_76 rfl (lv_at hl 0 rfl) ?_
              refine q_getp (own := RX11) (ref := RX11) (C := RX11) (T := TX11) (N := 10) (kc := 8) (ci := 0) hx hb hts hin11 hown hK hW h_this (by decide) rfl 0 (by decide) hw3 rfl rfl rfl (v := 2) rfl dX11_arrival_77 (fun hk_29 hq_30 => ?_)
              refine q_getiN (own := RX11) (ref := RX8) (C := RX8) (T := TX8) (N := 4) (kc := 5) (ci := 0) (host := "SkyClocks") hx hb hts hin8 hown hK hW hk_29 (by decide) rfl 3 (by decide) hw4 rfl rfl dX11_arrival_80 ?_
              obtain ⟨r_33, σ_32, hc_31, hf⟩ := g_bnd hf
              refine q_calli (va_runV (As := [.int a2, .int a3, .int a4, .int a5, .int (Mm.gi σ_22 2 3)]) (rest := []) ⟨hx, hb, hml, hown, hts⟩ (k_X7_put l z n D cy Y hk_27 hc_31) (cwV 5 hts gX11_arrival_X7_put rfl rfl rfl (by decide +kernel) ⟨Nat.le_of_ble_eq_true rfl, Nat.le_of_ble_eq_true rfl⟩) (q_PV (T := TX7) (N := 4) hK hN hW hk_27 (by decide) rfl) rfl rfl hl.1 rfl (lv_room (Nat.le_of_ble_eq_true rfl)) dX11_arrival_83 ⟨Nat.le_refl _, Nat.le_refl _⟩) hS (fun H locs hW hS => ?_)
              exact q_iret hx hb hr hlocks hW hS hf dX11_arrival_86
            · have hf := g_neg c hf
              refine lv_bipush (v := (-3)) hx hb dX11_arrival_61 (by decide) ?_
              exact q_iret hx hb hr hlocks hW hS hf dX11_arrival_63
          · have hf := g_pos c hf
            refine lv_iconst (v := (-1)) hx hb dX11_arrival_47 (by decide) ?_
            exact q_iret hx hb hr hlocks hW hS hf dX11_arrival_48
