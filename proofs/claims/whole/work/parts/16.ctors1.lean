def i_X5_init (n this : Nat) (σ : Mm) : Mm := σ
set_option maxRecDepth 100000 in
set_option maxHeartbeats 40000000 in
theorem k_X5_init (l : Launch) (z : Nat) (D : va_G) (cy : Nat → ClassId) (Y : Yt) {n this : Nat} {σ : Mm} (h_this : okk Y n 3 this) : Kc l yX5_init wsX5_init ({ frames := 1, cells := 0, slots := 0, locals := 12 } : Room) z D cy Y [.ref (z + this)] n σ n (i_X5_init n this σ) 0 0 := by
  refine Met.ofW (cc := cX5_init) (maxL := 1) (ret := none) (by decide +kernel) rfl ?_
  intro p e s m args below meth c s₁ B hml hv
  obtain ⟨rfl, hC, hK, hN, hO⟩ := hv
  have hx := B.exec
  have hb := B.bytes
  have hr := B.returns
  have hts := atoms_spec (ws := wsX5_init) B.pre
  have hown : s.vm.findClass RX5 = some m.cls := findClass_of_methodNamed B.named
  have hlocks := B.notSynchronized
  have hin : meth.name = "<init>" := (name_of_methodNamed B.named B.method).1
  have hS : va_S (Az z) s.heap s.heap [] := va_S.rf
  have hw0 := hts (.methodLink RX5 1 objectInit) (List.mem_of_getElem? (i := 1) rfl)
  have hw1 := hts (.instanceMethod objectInit) (List.mem_of_getElem? (i := 2) rfl)
  have hw2 := hts (.code objectInit ⟨#[0xb1]⟩ 1 none) (List.mem_of_getElem? (i := 3) rfl)
  have hl := lv_entry ([.ref (z + this)]) (n := 1) (Nat.le_of_ble_eq_true rfl)
  rw [lg_entry_eq]
  generalize (lg_sl ([.ref (z + this)]) ++ List.replicate (1 - (lg_sl ([.ref (z + this)])).length) Slot.unset).toArray = ls at hl ⊢
  have hl : lv_has ls 1 [(0, .ref (z + this))] := hl
  have hC : WC z n D cy Y σ s.heap := hC
  refine lv_aload_n hx hb dX5_init_0 rfl (lv_at hl 0 rfl) ?_
  refine W.objInit hx hb hown hw0 hw1 hw2 rfl (by rw [hml]; exact hl.1) rfl dX5_init_1 (Nat.le_of_ble_eq_true rfl) (Nat.le_of_ble_eq_true rfl) ?_
  refine W.eq (g2 := F0 m 4 ls []) rfl ?_
  exact c_ret hx hb hr hlocks hC hS dX5_init_4
def i_X2_init (n this : Nat) (σ : Mm) : Mm := Mm.sr σ this 0 n
set_option maxRecDepth 100000 in
set_option maxHeartbeats 40000000 in
theorem k_X2_init (l : Launch) (z : Nat) (D : va_G) (cy : Nat → ClassId) (Y : Yt) {n this : Nat} {σ : Mm} (h_this : okk Y n 1 this) (hY0 : Y n = (10, 576)) : Kc l yX2_init wsX2_init ({ frames := 1, cells := 1, slots := 576, locals := 12 } : Room) z D cy Y [.ref (z + this)] n σ (n + 1) (i_X2_init n this σ) 1 576 := by
  refine Met.ofW (cc := cX2_init) (maxL := 1) (ret := none) (by decide +kernel) rfl ?_
  intro p e s m args below meth c s₁ B hml hv
  obtain ⟨rfl, hC, hK, hN, hO⟩ := hv
  have hx := B.exec
  have hb := B.bytes
  have hr := B.returns
  have hts := atoms_spec (ws := wsX2_init) B.pre
  have hown : s.vm.findClass RX2 = some m.cls := findClass_of_methodNamed B.named
  have hlocks := B.notSynchronized
  have hin : meth.name = "<init>" := (name_of_methodNamed B.named B.method).1
  have hS : va_S (Az z) s.heap s.heap [] := va_S.rf
  have hin2 : ∀ w ∈ wsX20, w ∈ wsX2_init := fun w h => List.mem_cons_of_mem _ (List.mem_append_right _ h)
  have hw0 := hts (.methodLink RX2 3 objectInit) (List.mem_of_getElem? (i := 1) rfl)
  have hw1 := hts (.instanceMethod objectInit) (List.mem_of_getElem? (i := 2) rfl)
  have hw2 := hts (.code objectInit ⟨#[0xb1]⟩ 1 none) (List.mem_of_getElem? (i := 3) rfl)
  have hw3 := hts (.arrayClass .int) (List.mem_of_getElem? (i := 4) rfl)
  have hw4 := hts (.fieldLink RX2 11 "SkyClocks$Gaps" "sizes" "[I") (List.mem_of_getElem? (i := 5) rfl)
  have hl := lv_entry ([.ref (z + this)]) (n := 1) (Nat.le_of_ble_eq_true rfl)
  rw [lg_entry_eq]
  generalize (lg_sl ([.ref (z + this)]) ++ List.replicate (1 - (lg_sl ([.ref (z + this)])).length) Slot.unset).toArray = ls at hl ⊢
  have hl : lv_has ls 1 [(0, .ref (z + this))] := hl
  have hC : WC z n D cy Y σ s.heap := hC
  refine lv_aload_n hx hb dX2_init_0 rfl (lv_at hl 0 rfl) ?_
  refine W.objInit hx hb hown hw0 hw1 hw2 rfl (by rw [hml]; exact hl.1) rfl dX2_init_1 (Nat.le_of_ble_eq_true rfl) (Nat.le_of_ble_eq_true rfl) ?_
  refine W.eq (g2 := F0 m 4 ls []) rfl ?_
  refine lv_aload_n hx hb dX2_init_4 rfl (lv_at hl 0 rfl) ?_
  refine lv_sipush (v := 576) hx hb dX2_init_5 (by decide) ?_
  refine c_newi hx hb hw3 hK hC hS hY0 (k := 576) (by decide) (by decide) (Nat.le_of_ble_eq_true rfl) (Nat.le_of_ble_eq_true rfl) (Nat.le_of_ble_eq_true rfl) dX2_init_8 (fun H hC hk0 hS => ?_)
  have hC : WC z (n + 1) D cy Y σ H := hC
  have h_this : okk Y (n + 1) 1 this := h_this.mono (by omega)
  have hk0 : okk Y (n + 1) 10 n := hk0
  refine W.widen (k := 1) (n := 576) (Nat.le_refl _) (Nat.le_refl _) ?_
  refine c_putF (own := RX2) (C := RX2) (T := TX2) (N := 2) (kc := 1) hx hb hts hin2 tyX2_ok nmX2 hown hK hC hS h_this (by decide) rfl 0 (by decide) hw4  rfl hin rfl (ty := tyX2 0) (tyX2_ok 0 (by decide)) rfl rfl rfl hk0.1 dX2_init_10 (fun H locs hC hS => ?_)
  exact c_ret hx hb hr hlocks hC hS dX2_init_13
def i_X4_init (n this : Nat) (σ : Mm) : Mm := Mm.sr (Mm.sr (Mm.sr (Mm.sr σ this 7 n) this 8 (n + 1)) this 10 (n + 2)) this 11 (n + 3)
set_option maxRecDepth 100000 in
set_option maxHeartbeats 40000000 in
theorem k_X4_init (l : Launch) (z : Nat) (D : va_G) (cy : Nat → ClassId) (Y : Yt) {n this : Nat} {σ : Mm} (h_this : okk Y n 2 this) (hY0 : Y n = (10, 3)) (hY1 : Y (n + 1) = (10, 3)) (hY2 : Y (n + 2) = (10, 2)) (hY3 : Y (n + 3) = (10, 8)) : Kc l yX4_init wsX4_init ({ frames := 1, cells := 4, slots := 16, locals := 12 } : Room) z D cy Y [.ref (z + this)] n σ (n + 4) (i_X4_init n this σ) 4 16 := by
  refine Met.ofW (cc := cX4_init) (maxL := 1) (ret := none) (by decide +kernel) rfl ?_
  intro p e s m args below meth c s₁ B hml hv
  obtain ⟨rfl, hC, hK, hN, hO⟩ := hv
  have hx := B.exec
  have hb := B.bytes
  have hr := B.returns
  have hts := atoms_spec (ws := wsX4_init) B.pre
  have hown : s.vm.findClass RX4 = some m.cls := findClass_of_methodNamed B.named
  have hlocks := B.notSynchronized
  have hin : meth.name = "<init>" := (name_of_methodNamed B.named B.method).1
  have hS : va_S (Az z) s.heap s.heap [] := va_S.rf
  have hin4 : ∀ w ∈ wsX40, w ∈ wsX4_init := fun w h => List.mem_cons_of_mem _ (List.mem_append_right _ h)
  have hw0 := hts (.methodLink RX4 3 objectInit) (List.mem_of_getElem? (i := 1) rfl)
  have hw1 := hts (.instanceMethod objectInit) (List.mem_of_getElem? (i := 2) rfl)
  have hw2 := hts (.code objectInit ⟨#[0xb1]⟩ 1 none) (List.mem_of_getElem? (i := 3) rfl)
  have hw3 := hts (.arrayClass .int) (List.mem_of_getElem? (i := 4) rfl)
  have hw4 := hts (.fieldLink RX4 11 "SkyClocks$Model" "slipTimes" "[I") (List.mem_of_getElem? (i := 5) rfl)
  have hw5 := hts (.fieldLink RX4 15 "SkyClocks$Model" "slipSizes" "[I") (List.mem_of_getElem? (i := 6) rfl)
  have hw6 := hts (.fieldLink RX4 18 "SkyClocks$Model" "cycles" "[I") (List.mem_of_getElem? (i := 7) rfl)
  have hw7 := hts (.fieldLink RX4 21 "SkyClocks$Model" "lates" "[I") (List.mem_of_getElem? (i := 8) rfl)
  have hl := lv_entry ([.ref (z + this)]) (n := 1) (Nat.le_of_ble_eq_true rfl)
  rw [lg_entry_eq]
  generalize (lg_sl ([.ref (z + this)]) ++ List.replicate (1 - (lg_sl ([.ref (z + this)])).length) Slot.unset).toArray = ls at hl ⊢
  have hl : lv_has ls 1 [(0, .ref (z + this))] := hl
  have hC : WC z n D cy Y σ s.heap := hC
  refine lv_aload_n hx hb dX4_init_0 rfl (lv_at hl 0 rfl) ?_
  refine W.objInit hx hb hown hw0 hw1 hw2 rfl (by rw [hml]; exact hl.1) rfl dX4_init_1 (Nat.le_of_ble_eq_true rfl) (Nat.le_of_ble_eq_true rfl) ?_
  refine W.eq (g2 := F0 m 4 ls []) rfl ?_
  refine lv_aload_n hx hb dX4_init_4 rfl (lv_at hl 0 rfl) ?_
  refine lv_iconst (v := 3) hx hb dX4_init_5 (by decide) ?_
  refine c_newi hx hb hw3 hK hC hS hY0 (k := 3) (by decide) (by decide) (Nat.le_of_ble_eq_true rfl) (Nat.le_of_ble_eq_true rfl) (Nat.le_of_ble_eq_true rfl) dX4_init_6 (fun H hC hk0 hS => ?_)
  have hC : WC z (n + 1) D cy Y σ H := hC
  have h_this : okk Y (n + 1) 2 this := h_this.mono (by omega)
  have hk0 : okk Y (n + 1) 10 n := hk0
  refine W.widen (k := 1) (n := 3) (Nat.le_refl _) (Nat.le_refl _) ?_
  refine c_putF (own := RX4) (C := RX4) (T := TX4) (N := 12) (kc := 2) hx hb hts hin4 tyX4_ok nmX4 hown hK hC hS h_this (by decide) rfl 7 (by decide) hw4  rfl hin rfl (ty := tyX4 7) (tyX4_ok 7 (by decide)) rfl rfl rfl hk0.1 dX4_init_8 (fun H locs hC hS => ?_)
  refine lv_aload_n hx hb dX4_init_11 rfl (lv_at hl 0 rfl) ?_
  refine lv_iconst (v := 3) hx hb dX4_init_12 (by decide) ?_
  refine c_newi hx hb hw3 hK hC hS hY1 (k := 3) (by decide) (by decide) (Nat.le_of_ble_eq_true rfl) (Nat.le_of_ble_eq_true rfl) (Nat.le_of_ble_eq_true rfl) dX4_init_13 (fun H hC hk1 hS => ?_)
  have hC : WC z (n + 2) D cy Y (Mm.sr σ this 7 n) H := hC
  have h_this : okk Y (n + 2) 2 this := h_this.mono (by omega)
  have hk0 : okk Y (n + 2) 10 n := hk0.mono (by omega)
  have hk1 : okk Y (n + 2) 10 (n + 1) := hk1
  refine W.widen (k := 2) (n := 6) (Nat.le_refl _) (Nat.le_refl _) ?_
  refine c_putF (own := RX4) (C := RX4) (T := TX4) (N := 12) (kc := 2) hx hb hts hin4 tyX4_ok nmX4 hown hK hC hS h_this (by decide) rfl 8 (by decide) hw5  rfl hin rfl (ty := tyX4 8) (tyX4_ok 8 (by decide)) rfl rfl rfl hk1.1 dX4_init_15 (fun H locs hC hS => ?_)
  refine lv_aload_n hx hb dX4_init_18 rfl (lv_at hl 0 rfl) ?_
  refine lv_iconst (v := 2) hx hb dX4_init_19 (by decide) ?_
  refine c_newi hx hb hw3 hK hC hS hY2 (k := 2) (by decide) (by decide) (Nat.le_of_ble_eq_true rfl) (Nat.le_of_ble_eq_true rfl) (Nat.le_of_ble_eq_true rfl) dX4_init_20 (fun H hC hk2 hS => ?_)
  have hC : WC z (n + 3) D cy Y (Mm.sr (Mm.sr σ this 7 n) this 8 (n + 1)) H := hC
  have h_this : okk Y (n + 3) 2 this := h_this.mono (by omega)
  have hk0 : okk Y (n + 3) 10 n := hk0.mono (by omega)
  have hk1 : okk Y (n + 3) 10 (n + 1) := hk1.mono (by omega)
  have hk2 : okk Y (n + 3) 10 (n + 2) := hk2
  refine W.widen (k := 3) (n := 8) (Nat.le_refl _) (Nat.le_refl _) ?_
  refine c_putF (own := RX4) (C := RX4) (T := TX4) (N := 12) (kc := 2) hx hb hts hin4 tyX4_ok nmX4 hown hK hC hS h_this (by decide) rfl 10 (by decide) hw6  rfl hin rfl (ty := tyX4 10) (tyX4_ok 10 (by decide)) rfl rfl rfl hk2.1 dX4_init_22 (fun H locs hC hS => ?_)
  refine lv_aload_n hx hb dX4_init_25 rfl (lv_at hl 0 rfl) ?_
  refine lv_bipush (v := 8) hx hb dX4_init_26 (by decide) ?_
  refine c_newi hx hb hw3 hK hC hS hY3 (k := 8) (by decide) (by decide) (Nat.le_of_ble_eq_true rfl) (Nat.le_of_ble_eq_true rfl) (Nat.le_of_ble_eq_true rfl) dX4_init_28 (fun H hC hk3 hS => ?_)
  have hC : WC z (n + 4) D cy Y (Mm.sr (Mm.sr (Mm.sr σ this 7 n) this 8 (n + 1)) this 10 (n + 2)) H := hC
  have h_this : okk Y (n + 4) 2 this := h_this.mono (by omega)
  have hk0 : okk Y (n + 4) 10 n := hk0.mono (by omega)
  have hk1 : okk Y (n + 4) 10 (n + 1) := hk1.mono (by omega)
  have hk2 : okk Y (n + 4) 10 (n + 2) := hk2.mono (by omega)
  have hk3 : okk Y (n + 4) 10 (n + 3) := hk3
  refine W.widen (k := 4) (n := 16) (Nat.le_refl _) (Nat.le_refl _) ?_
  refine c_putF (own := RX4) (C := RX4) (T := TX4) (N := 12) (kc := 2) hx hb hts hin4 tyX4_ok nmX4 hown hK hC hS h_this (by decide) rfl 11 (by decide) hw7  rfl hin rfl (ty := tyX4 11) (tyX4_ok 11 (by decide)) rfl rfl rfl hk3.1 dX4_init_30 (fun H locs hC hS => ?_)
  exact c_ret hx hb hr hlocks hC hS dX4_init_33
def i_X7_init (n this : Nat) (σ : Mm) : Mm := Mm.sr (Mm.sr σ this 0 n) this 1 (n + 1)
set_option maxRecDepth 100000 in
set_option maxHeartbeats 40000000 in
theorem k_X7_init (l : Launch) (z : Nat) (D : va_G) (cy : Nat → ClassId) (Y : Yt) {n this : Nat} {σ : Mm} (h_this : okk Y n 4 this) (hY0 : Y n = (10, 96)) (hY1 : Y (n + 1) = (10, 24)) : Kc l yX7_init wsX7_init ({ frames := 1, cells := 2, slots := 120, locals := 12 } : Room) z D cy Y [.ref (z + this)] n σ (n + 2) (i_X7_init n this σ) 2 120 := by
  refine Met.ofW (cc := cX7_init) (maxL := 1) (ret := none) (by decide +kernel) rfl ?_
  intro p e s m args below meth c s₁ B hml hv
  obtain ⟨rfl, hC, hK, hN, hO⟩ := hv
  have hx := B.exec
  have hb := B.bytes
  have hr := B.returns
  have hts := atoms_spec (ws := wsX7_init) B.pre
  have hown : s.vm.findClass RX7 = some m.cls := findClass_of_methodNamed B.named
  have hlocks := B.notSynchronized
  have hin : meth.name = "<init>" := (name_of_methodNamed B.named B.method).1
  have hS : va_S (Az z) s.heap s.heap [] := va_S.rf
  have hin7 : ∀ w ∈ wsX70, w ∈ wsX7_init := fun w h => List.mem_cons_of_mem _ (List.mem_append_right _ h)
  have hw0 := hts (.methodLink RX7 3 objectInit) (List.mem_of_getElem? (i := 1) rfl)
  have hw1 := hts (.instanceMethod objectInit) (List.mem_of_getElem? (i := 2) rfl)
  have hw2 := hts (.code objectInit ⟨#[0xb1]⟩ 1 none) (List.mem_of_getElem? (i := 3) rfl)
  have hw3 := hts (.arrayClass .int) (List.mem_of_getElem? (i := 4) rfl)
  have hw4 := hts (.fieldLink RX7 11 "SkyClocks$Star" "values" "[I") (List.mem_of_getElem? (i := 5) rfl)
  have hw5 := hts (.fieldLink RX7 15 "SkyClocks$Star" "places" "[I") (List.mem_of_getElem? (i := 6) rfl)
  have hl := lv_entry ([.ref (z + this)]) (n := 1) (Nat.le_of_ble_eq_true rfl)
  rw [lg_entry_eq]
  generalize (lg_sl ([.ref (z + this)]) ++ List.replicate (1 - (lg_sl ([.ref (z + this)])).length) Slot.unset).toArray = ls at hl ⊢
  have hl : lv_has ls 1 [(0, .ref (z + this))] := hl
  have hC : WC z n D cy Y σ s.heap := hC
  refine lv_aload_n hx hb dX7_init_0 rfl (lv_at hl 0 rfl) ?_
  refine W.objInit hx hb hown hw0 hw1 hw2 rfl (by rw [hml]; exact hl.1) rfl dX7_init_1 (Nat.le_of_ble_eq_true rfl) (Nat.le_of_ble_eq_true rfl) ?_
  refine W.eq (g2 := F0 m 4 ls []) rfl ?_
  refine lv_aload_n hx hb dX7_init_4 rfl (lv_at hl 0 rfl) ?_
  refine lv_bipush (v := 96) hx hb dX7_init_5 (by decide) ?_
  refine c_newi hx hb hw3 hK hC hS hY0 (k := 96) (by decide) (by decide) (Nat.le_of_ble_eq_true rfl) (Nat.le_of_ble_eq_true rfl) (Nat.le_of_ble_eq_true rfl) dX7_init_7 (fun H hC hk0 hS => ?_)
  have hC : WC z (n + 1) D cy Y σ H := hC
  have h_this : okk Y (n + 1) 4 this := h_this.mono (by omega)
  have hk0 : okk Y (n + 1) 10 n := hk0
  refine W.widen (k := 1) (n := 96) (Nat.le_refl _) (Nat.le_refl _) ?_
  refine c_putF (own := RX7) (C := RX7) (T := TX7) (N := 4) (kc := 4) hx hb hts hin7 tyX7_ok nmX7 hown hK hC hS h_this (by decide) rfl 0 (by decide) hw4  rfl hin rfl (ty := tyX7 0) (tyX7_ok 0 (by decide)) rfl rfl rfl hk0.1 dX7_init_9 (fun H locs hC hS => ?_)
  refine lv_aload_n hx hb dX7_init_12 rfl (lv_at hl 0 rfl) ?_
  refine lv_bipush (v := 24) hx hb dX7_init_13 (by decide) ?_
  refine c_newi hx hb hw3 hK hC hS hY1 (k := 24) (by decide) (by decide) (Nat.le_of_ble_eq_true rfl) (Nat.le_of_ble_eq_true rfl) (Nat.le_of_ble_eq_true rfl) dX7_init_15 (fun H hC hk1 hS => ?_)
  have hC : WC z (n + 2) D cy Y (Mm.sr σ this 0 n) H := hC
  have h_this : okk Y (n + 2) 4 this := h_this.mono (by omega)
  have hk0 : okk Y (n + 2) 10 n := hk0.mono (by omega)
  have hk1 : okk Y (n + 2) 10 (n + 1) := hk1
  refine W.widen (k := 2) (n := 120) (Nat.le_refl _) (Nat.le_refl _) ?_
  refine c_putF (own := RX7) (C := RX7) (T := TX7) (N := 4) (kc := 4) hx hb hts hin7 tyX7_ok nmX7 hown hK hC hS h_this (by decide) rfl 1 (by decide) hw5  rfl hin rfl (ty := tyX7 1) (tyX7_ok 1 (by decide)) rfl rfl rfl hk1.1 dX7_init_17 (fun H locs hC hS => ?_)
  exact c_ret hx hb hr hlocks hC hS dX7_init_20
def i_X8_init (n this : Nat) (σ : Mm) : Mm := Mm.si (Mm.sr (Mm.sr (Mm.sr (Mm.sr σ this 0 n) (n + 1) 0 (n + 2)) (n + 1) 1 (n + 3)) this 1 (n + 1)) this 3 2000000
set_option maxRecDepth 100000 in
set_option maxHeartbeats 40000000 in
theorem k_X8_init (l : Launch) (z : Nat) (D : va_G) (cy : Nat → ClassId) (Y : Yt) {n this : Nat} {σ : Mm} (h_this : okk Y n 5 this) (hY0 : Y n = (10, 3)) (hY1 : Y (n + 1) = (16, 2)) (hY2 : Y (n + 2) = (10, 11)) (hY3 : Y (n + 3) = (10, 11)) : Kc l yX8_init wsX8_init ({ frames := 1, cells := 4, slots := 27, locals := 12 } : Room) z D cy Y [.ref (z + this)] n σ (n + 4) (i_X8_init n this σ) 4 27 := by
  refine Met.ofW (cc := cX8_init) (maxL := 1) (ret := none) (by decide +kernel) rfl ?_
  intro p e s m args below meth c s₁ B hml hv
  obtain ⟨rfl, hC, hK, hN, hO⟩ := hv
  have hx := B.exec
  have hb := B.bytes
  have hr := B.returns
  have hts := atoms_spec (ws := wsX8_init) B.pre
  have hown : s.vm.findClass RX8 = some m.cls := findClass_of_methodNamed B.named
  have hlocks := B.notSynchronized
  have hin : meth.name = "<init>" := (name_of_methodNamed B.named B.method).1
  have hS : va_S (Az z) s.heap s.heap [] := va_S.rf
  have hin8 : ∀ w ∈ wsX80, w ∈ wsX8_init := fun w h => List.mem_cons_of_mem _ (List.mem_append_right _ h)
  have hw0 := hts (.methodLink RX8 3 objectInit) (List.mem_of_getElem? (i := 1) rfl)
  have hw1 := hts (.instanceMethod objectInit) (List.mem_of_getElem? (i := 2) rfl)
  have hw2 := hts (.code objectInit ⟨#[0xb1]⟩ 1 none) (List.mem_of_getElem? (i := 3) rfl)
  have hw3 := hts (.arrayClass .int) (List.mem_of_getElem? (i := 4) rfl)
  have hw4 := hts (.fieldLink RX8 9 "SkyClocks$Tables" "offsets" "[I") (List.mem_of_getElem? (i := 5) rfl)
  have hw5 := hts (.classLink RX8 15 "[[I") (List.mem_of_getElem? (i := 6) rfl)
  have hw6 := hts (.fieldLink RX8 17 "SkyClocks$Tables" "shifts" "[[I") (List.mem_of_getElem? (i := 7) rfl)
  have hw7 := hts (.constant RX8 20 (2000000)) (List.mem_of_getElem? (i := 8) rfl)
  have hw8 := hts (.fieldLink RX8 21 "SkyClocks$Tables" "asOf" "I") (List.mem_of_getElem? (i := 9) rfl)
  have hl := lv_entry ([.ref (z + this)]) (n := 1) (Nat.le_of_ble_eq_true rfl)
  rw [lg_entry_eq]
  generalize (lg_sl ([.ref (z + this)]) ++ List.replicate (1 - (lg_sl ([.ref (z + this)])).length) Slot.unset).toArray = ls at hl ⊢
  have hl : lv_has ls 1 [(0, .ref (z + this))] := hl
  have hC : WC z n D cy Y σ s.heap := hC
  refine lv_aload_n hx hb dX8_init_0 rfl (lv_at hl 0 rfl) ?_
  refine W.objInit hx hb hown hw0 hw1 hw2 rfl (by rw [hml]; exact hl.1) rfl dX8_init_1 (Nat.le_of_ble_eq_true rfl) (Nat.le_of_ble_eq_true rfl) ?_
  refine W.eq (g2 := F0 m 4 ls []) rfl ?_
  refine lv_aload_n hx hb dX8_init_4 rfl (lv_at hl 0 rfl) ?_
  refine lv_iconst (v := 3) hx hb dX8_init_5 (by decide) ?_
  refine c_newi hx hb hw3 hK hC hS hY0 (k := 3) (by decide) (by decide) (Nat.le_of_ble_eq_true rfl) (Nat.le_of_ble_eq_true rfl) (Nat.le_of_ble_eq_true rfl) dX8_init_6 (fun H hC hk0 hS => ?_)
  have hC : WC z (n + 1) D cy Y σ H := hC
  have h_this : okk Y (n + 1) 5 this := h_this.mono (by omega)
  have hk0 : okk Y (n + 1) 10 n := hk0
  refine W.widen (k := 1) (n := 3) (Nat.le_refl _) (Nat.le_refl _) ?_
  refine c_putF (own := RX8) (C := RX8) (T := TX8) (N := 4) (kc := 5) hx hb hts hin8 tyX8_ok nmX8 hown hK hC hS h_this (by decide) rfl 0 (by decide) hw4  rfl hin rfl (ty := tyX8 0) (tyX8_ok 0 (by decide)) rfl rfl rfl hk0.1 dX8_init_8 (fun H locs hC hS => ?_)
  refine lv_aload_n hx hb dX8_init_11 rfl (lv_at hl 0 rfl) ?_
  refine lv_iconst (v := 2) hx hb dX8_init_12 (by decide) ?_
  refine lv_bipush (v := 11) hx hb dX8_init_13 (by decide) ?_
  refine c_mna hx hb hown hw5 hO.2.2.2 hw3 hK hC hS hY1 hY2 hY3 (k := 11) (by decide) (by decide) (Nat.le_of_ble_eq_true rfl) (Nat.le_of_ble_eq_true rfl) (Nat.le_of_ble_eq_true rfl) (Nat.le_of_ble_eq_true rfl) dX8_init_15 (fun H hC hS => ?_)
  have hC : WC z (n + 4) D cy Y (Mm.sr (Mm.sr (Mm.sr σ this 0 n) (n + 1) 0 (n + 2)) (n + 1) 1 (n + 3)) H := hC
  have h_this : okk Y (n + 4) 5 this := h_this.mono (by omega)
  have hk0 : okk Y (n + 4) 10 n := hk0.mono (by omega)
  refine W.widen (k := 4) (n := 27) (Nat.le_refl _) (Nat.le_refl _) ?_
  refine c_putF (own := RX8) (C := RX8) (T := TX8) (N := 4) (kc := 5) hx hb hts hin8 tyX8_ok nmX8 hown hK hC hS h_this (by decide) rfl 1 (by decide) hw6  rfl hin rfl (ty := tyX8 1) (tyX8_ok 1 (by decide)) rfl rfl rfl (Nat.succ_pos _) dX8_init_19 (fun H locs hC hS => ?_)
  refine lv_aload_n hx hb dX8_init_22 rfl (lv_at hl 0 rfl) ?_
  refine lv_ldc hx hb hown hw7 dX8_init_23 ?_
  refine c_putI (own := RX8) (C := RX8) (T := TX8) (N := 4) (kc := 5) hx hb hts hin8 tyX8_ok nmX8 hown hK hC hS h_this (by decide) rfl 3 (by decide) hw8  rfl (tyX8_ok 3 (by decide)) rfl dX8_init_25 (fun H locs hC hS => ?_)
  exact c_ret hx hb hr hlocks hC hS dX8_init_28
def i_X9_init (n this : Nat) (σ : Mm) : Mm := Mm.sr (Mm.sr σ this 0 n) this 3 (n + 1)
set_option maxRecDepth 100000 in
set_option maxHeartbeats 40000000 in
theorem k_X9_init (l : Launch) (z : Nat) (D : va_G) (cy : Nat → ClassId) (Y : Yt) {n this : Nat} {σ : Mm} (h_this : okk Y n 6 this) (hY0 : Y n = (10, 200)) (hY1 : Y (n + 1) = (10, 5)) : Kc l yX9_init wsX9_init ({ frames := 1, cells := 2, slots := 205, locals := 12 } : Room) z D cy Y [.ref (z + this)] n σ (n + 2) (i_X9_init n this σ) 2 205 := by
  refine Met.ofW (cc := cX9_init) (maxL := 1) (ret := none) (by decide +kernel) rfl ?_
  intro p e s m args below meth c s₁ B hml hv
  obtain ⟨rfl, hC, hK, hN, hO⟩ := hv
  have hx := B.exec
  have hb := B.bytes
  have hr := B.returns
  have hts := atoms_spec (ws := wsX9_init) B.pre
  have hown : s.vm.findClass RX9 = some m.cls := findClass_of_methodNamed B.named
  have hlocks := B.notSynchronized
  have hin : meth.name = "<init>" := (name_of_methodNamed B.named B.method).1
  have hS : va_S (Az z) s.heap s.heap [] := va_S.rf
  have hin9 : ∀ w ∈ wsX90, w ∈ wsX9_init := fun w h => List.mem_cons_of_mem _ (List.mem_append_right _ h)
  have hw0 := hts (.methodLink RX9 3 objectInit) (List.mem_of_getElem? (i := 1) rfl)
  have hw1 := hts (.instanceMethod objectInit) (List.mem_of_getElem? (i := 2) rfl)
  have hw2 := hts (.code objectInit ⟨#[0xb1]⟩ 1 none) (List.mem_of_getElem? (i := 3) rfl)
  have hw3 := hts (.arrayClass .int) (List.mem_of_getElem? (i := 4) rfl)
  have hw4 := hts (.fieldLink RX9 11 "SkyClocks$Text" "bytes" "[I") (List.mem_of_getElem? (i := 5) rfl)
  have hw5 := hts (.fieldLink RX9 15 "SkyClocks$Text" "numbers" "[I") (List.mem_of_getElem? (i := 6) rfl)
  have hl := lv_entry ([.ref (z + this)]) (n := 1) (Nat.le_of_ble_eq_true rfl)
  rw [lg_entry_eq]
  generalize (lg_sl ([.ref (z + this)]) ++ List.replicate (1 - (lg_sl ([.ref (z + this)])).length) Slot.unset).toArray = ls at hl ⊢
  have hl : lv_has ls 1 [(0, .ref (z + this))] := hl
  have hC : WC z n D cy Y σ s.heap := hC
  refine lv_aload_n hx hb dX9_init_0 rfl (lv_at hl 0 rfl) ?_
  refine W.objInit hx hb hown hw0 hw1 hw2 rfl (by rw [hml]; exact hl.1) rfl dX9_init_1 (Nat.le_of_ble_eq_true rfl) (Nat.le_of_ble_eq_true rfl) ?_
  refine W.eq (g2 := F0 m 4 ls []) rfl ?_
  refine lv_aload_n hx hb dX9_init_4 rfl (lv_at hl 0 rfl) ?_
  refine lv_sipush (v := 200) hx hb dX9_init_5 (by decide) ?_
  refine c_newi hx hb hw3 hK hC hS hY0 (k := 200) (by decide) (by decide) (Nat.le_of_ble_eq_true rfl) (Nat.le_of_ble_eq_true rfl) (Nat.le_of_ble_eq_true rfl) dX9_init_8 (fun H hC hk0 hS => ?_)
  have hC : WC z (n + 1) D cy Y σ H := hC
  have h_this : okk Y (n + 1) 6 this := h_this.mono (by omega)
  have hk0 : okk Y (n + 1) 10 n := hk0
  refine W.widen (k := 1) (n := 200) (Nat.le_refl _) (Nat.le_refl _) ?_
  refine c_putF (own := RX9) (C := RX9) (T := TX9) (N := 4) (kc := 6) hx hb hts hin9 tyX9_ok nmX9 hown hK hC hS h_this (by decide) rfl 0 (by decide) hw4  rfl hin rfl (ty := tyX9 0) (tyX9_ok 0 (by decide)) rfl rfl rfl hk0.1 dX9_init_10 (fun H locs hC hS => ?_)
  refine lv_aload_n hx hb dX9_init_13 rfl (lv_at hl 0 rfl) ?_
  refine lv_iconst (v := 5) hx hb dX9_init_14 (by decide) ?_
  refine c_newi hx hb hw3 hK hC hS hY1 (k := 5) (by decide) (by decide) (Nat.le_of_ble_eq_true rfl) (Nat.le_of_ble_eq_true rfl) (Nat.le_of_ble_eq_true rfl) dX9_init_15 (fun H hC hk1 hS => ?_)
  have hC : WC z (n + 2) D cy Y (Mm.sr σ this 0 n) H := hC
  have h_this : okk Y (n + 2) 6 this := h_this.mono (by omega)
  have hk0 : okk Y (n + 2) 10 n := hk0.mono (by omega)
  have hk1 : okk Y (n + 2) 10 (n + 1) := hk1
  refine W.widen (k := 2) (n := 205) (Nat.le_refl _) (Nat.le_refl _) ?_
  refine c_putF (own := RX9) (C := RX9) (T := TX9) (N := 4) (kc := 6) hx hb hts hin9 tyX9_ok nmX9 hown hK hC hS h_this (by decide) rfl 3 (by decide) hw5  rfl hin rfl (ty := tyX9 3) (tyX9_ok 3 (by decide)) rfl rfl rfl hk1.1 dX9_init_17 (fun H locs hC hS => ?_)
  exact c_ret hx hb hr hlocks hC hS dX9_init_20
def i_X10_init (n this : Nat) (σ : Mm) : Mm := Mm.sr (i_X4_init (n + 2) (n + 1) (Mm.sr σ this 0 n)) this 1 (n + 1)
set_option maxRecDepth 100000 in
set_option maxHeartbeats 40000000 in
theorem k_X10_init (l : Launch) (z : Nat) (D : va_G) (cy : Nat → ClassId) (Y : Yt) {n this : Nat} {ln1 : Nat} {σ : Mm} (h_this : okk Y n 7 this) (hY0 : Y n = (11, 10001)) (hY1 : Y (n + 1) = (2, ln1)) (hY2 : Y (n + 2) = (10, 3)) (hY3 : Y (n + 3) = (10, 3)) (hY4 : Y (n + 4) = (10, 2)) (hY5 : Y (n + 5) = (10, 8)) : Kc l yX10_init wsX10_init ({ frames := 2, cells := 6, slots := 10029, locals := 32 } : Room) z D cy Y [.ref (z + this)] n σ (n + 6) (i_X10_init n this σ) 6 10029 := by
  refine Met.ofW (cc := cX10_init) (maxL := 1) (ret := none) (by decide +kernel) rfl ?_
  intro p e s m args below meth c s₁ B hml hv
  obtain ⟨rfl, hC, hK, hN, hO⟩ := hv
  have hx := B.exec
  have hb := B.bytes
  have hr := B.returns
  have hts := atoms_spec (ws := wsX10_init) B.pre
  have hown : s.vm.findClass RX10 = some m.cls := findClass_of_methodNamed B.named
  have hlocks := B.notSynchronized
  have hin : meth.name = "<init>" := (name_of_methodNamed B.named B.method).1
  have hS : va_S (Az z) s.heap s.heap [] := va_S.rf
  have hin10 : ∀ w ∈ wsX100, w ∈ wsX10_init := fun w h => List.mem_cons_of_mem _ (List.mem_append_left _ (List.mem_append_right _ h))
  have hin4 : ∀ w ∈ wsX40, w ∈ wsX10_init := fun w h => List.mem_cons_of_mem _ (List.mem_append_right _ h)
  have hw0 := hts (.methodLink RX10 5 objectInit) (List.mem_of_getElem? (i := 1) rfl)
  have hw1 := hts (.instanceMethod objectInit) (List.mem_of_getElem? (i := 2) rfl)
  have hw2 := hts (.code objectInit ⟨#[0xb1]⟩ 1 none) (List.mem_of_getElem? (i := 3) rfl)
  have hw3 := hts (.arrayClass .long) (List.mem_of_getElem? (i := 4) rfl)
  have hw4 := hts (.fieldLink RX10 11 "SkyClocks$Turns" "begins" "[J") (List.mem_of_getElem? (i := 5) rfl)
  have hw5 := hts (.classLink RX10 1 RX4) (List.mem_of_getElem? (i := 6) rfl)
  have hw6 := hts (.instantiable RX4 12) (List.mem_of_getElem? (i := 7) rfl)
  have hw7 := hts (.initialized RX4) (List.mem_of_getElem? (i := 8) rfl)
  have hw8 : va_Nw (.methodLinkNest RX10 17 yX4_init "SkyClocks") s := hN _ (List.mem_of_getElem? (i := 20) rfl)
  have hw9 := hts (.instanceMethod yX4_init) (List.mem_of_getElem? (i := 10) rfl)
  have hw10 := hts (.fieldLink RX10 18 "SkyClocks$Turns" "model" "LSkyClocks$Model;") (List.mem_of_getElem? (i := 9) rfl)
  have hl := lv_entry ([.ref (z + this)]) (n := 1) (Nat.le_of_ble_eq_true rfl)
  rw [lg_entry_eq]
  generalize (lg_sl ([.ref (z + this)]) ++ List.replicate (1 - (lg_sl ([.ref (z + this)])).length) Slot.unset).toArray = ls at hl ⊢
  have hl : lv_has ls 1 [(0, .ref (z + this))] := hl
  have hC : WC z n D cy Y σ s.heap := hC
  refine lv_aload_n hx hb dX10_init_0 rfl (lv_at hl 0 rfl) ?_
  refine W.objInit hx hb hown hw0 hw1 hw2 rfl (by rw [hml]; exact hl.1) rfl dX10_init_1 (Nat.le_of_ble_eq_true rfl) (Nat.le_of_ble_eq_true rfl) ?_
  refine W.eq (g2 := F0 m 4 ls []) rfl ?_
  refine lv_aload_n hx hb dX10_init_4 rfl (lv_at hl 0 rfl) ?_
  refine lv_sipush (v := 10001) hx hb dX10_init_5 (by decide) ?_
  refine c_newl hx hb hw3 hK hC hS hY0 (k := 10001) (by decide) (by decide) (Nat.le_of_ble_eq_true rfl) (Nat.le_of_ble_eq_true rfl) (Nat.le_of_ble_eq_true rfl) dX10_init_8 (fun H hC hk0 hS => ?_)
  have hC : WC z (n + 1) D cy Y σ H := hC
  have h_this : okk Y (n + 1) 7 this := h_this.mono (by omega)
  have hk0 : okk Y (n + 1) 11 n := hk0
  refine W.widen (k := 1) (n := 10001) (Nat.le_refl _) (Nat.le_refl _) ?_
  refine c_putF (own := RX10) (C := RX10) (T := TX10) (N := 3) (kc := 7) hx hb hts hin10 tyX10_ok nmX10 hown hK hC hS h_this (by decide) rfl 0 (by decide) hw4  rfl hin rfl (ty := tyX10 0) (tyX10_ok 0 (by decide)) rfl rfl rfl hk0.1 dX10_init_10 (fun H locs hC hS => ?_)
  refine lv_aload_n hx hb dX10_init_13 rfl (lv_at hl 0 rfl) ?_
  refine c_new (C := RX4) (T := TX4) (N := 12) (kc := 2) hx hb hts hin4 tyX4 tyX4_ok hown hw5 hw6 hw7 hK hC hS rfl (by decide) hY1 (by decide +kernel) (Nat.le_of_ble_eq_true rfl) (Nat.le_of_ble_eq_true rfl) dX10_init_14 (fun H hC hk1 hS => ?_)
  have hC : WC z (n + 2) D cy Y (Mm.sr σ this 0 n) H := hC
  have h_this : okk Y (n + 2) 7 this := h_this.mono (by omega)
  have hk0 : okk Y (n + 2) 11 n := hk0.mono (by omega)
  have hk1 : okk Y (n + 2) 2 (n + 1) := hk1
  refine W.widen (k := 2) (n := 10013) (Nat.le_refl _) (Nat.le_refl _) ?_
  refine lv_dup hx hb dX10_init_17 rfl ?_
  refine c_call (va_runIN (As := []) (rest := [.ref (z + (n + 1)), .ref (z + this)]) ⟨hx, hb, hml, hown, hts⟩ (k_X4_init l z D cy Y hk1 hY2 hY3 hY4 hY5) ⟨va_cnB (host := "SkyClocks") 0 hts gX10_init_X4_init_n17 rfl rfl rfl hw8 hw7 (by decide +kernel) ⟨Nat.le_of_ble_eq_true rfl, Nat.le_of_ble_eq_true rfl⟩, rfl, hw9⟩ (c_PS hK hN hO hC) rfl rfl hl.1 rfl (lv_room (Nat.le_of_ble_eq_true rfl)) dX10_init_18 ⟨Nat.le_of_ble_eq_true rfl, Nat.le_of_ble_eq_true rfl⟩) hS (fun H locs hC hS => ?_)
  have hC : WC z (n + 6) D cy Y (i_X4_init (n + 2) (n + 1) (Mm.sr σ this 0 n)) H := hC
  have h_this : okk Y (n + 6) 7 this := h_this.mono (by omega)
  have hk0 : okk Y (n + 6) 11 n := hk0.mono (by omega)
  have hk1 : okk Y (n + 6) 2 (n + 1) := hk1.mono (by omega)
  refine W.widen (k := 6) (n := 10029) (Nat.le_refl _) (Nat.le_refl _) ?_
  refine c_putR (own := RX10) (C := RX10) (T := TX10) (N := 3) (kc := 7) hx hb hts hin10 tyX10_ok nmX10 hown hK hC hS h_this (by decide) rfl 1 (by decide) hw10  rfl (ty := tyX10 1) (tyX10_ok 1 (by decide)) rfl rfl rfl hk1.1 dX10_init_21 (fun H locs hC hS => ?_)
  exact c_ret hx hb hr hlocks hC hS dX10_init_24
def i_X12_init (σ : Mm) : Mm := Mm.sr (Mm.sr (Mm.sr (Mm.sr (Mm.sr (Mm.sr (Mm.sr (Mm.sr (Mm.sr (Mm.sr (Mm.sr (Mm.sr (Mm.sr (Mm.sr (Mm.sr (Mm.sr (Mm.sr (Mm.sr (Mm.sr (Mm.sr (Mm.sr (Mm.sr (Mm.sr (Mm.sr (Mm.sr (Mm.sr (Mm.sr (Mm.sr (Mm.sr (Mm.sr (Mm.sr (Mm.sr (Mm.si (Mm.sr (Mm.sr (Mm.sr (Mm.sr (Mm.sr (Mm.sr (Mm.sr σ 595 0 596) 595 1 597) 595 2 598) 595 3 599) 595 4 600) 595 5 601) 595 6 602) 595 8 2000000) 595 9 603) 595 10 604) 595 11 605) 595 12 606) 595 13 607) 595 14 608) 595 15 609) 595 16 610) 595 17 611) 595 18 612) 595 19 613) 595 21 614) 595 28 615) 595 30 616) 595 31 617) 595 35 618) 595 36 619) 595 37 620) 595 38 621) 595 39 622) 595 40 623) 595 41 624) 595 42 625) 595 43 626) 595 44 627) 595 45 628) 595 46 629) 595 47 630) 595 48 631) 595 52 632) 595 53 633) 595 55 634
set_option maxRecDepth 100000 in
set_option maxHeartbeats 40000000 in
theorem k_X12_init (l : Launch) (z : Nat) (D : va_G) (cy : Nat → ClassId) (Y : Yt) {σ : Mm} (h_this : okk Y 596 9 595) (hY0 : Y 596 = (10, 4)) (hY1 : Y 597 = (10, 96)) (hY2 : Y 598 = (10, 96)) (hY3 : Y 599 = (10, 96)) (hY4 : Y 600 = (10, 96)) (hY5 : Y 601 = (10, 3)) (hY6 : Y 602 = (10, 22)) (hY7 : Y 603 = (12, 4)) (hY8 : Y 604 = (10, 5)) (hY9 : Y 605 = (10, 5)) (hY10 : Y 606 = (10, 5)) (hY11 : Y 607 = (10, 5)) (hY12 : Y 608 = (10, 15)) (hY13 : Y 609 = (10, 15)) (hY14 : Y 610 = (10, 5)) (hY15 : Y 611 = (10, 10)) (hY16 : Y 612 = (10, 40)) (hY17 : Y 613 = (10, 200)) (hY18 : Y 614 = (10, 24)) (hY19 : Y 615 = (11, 10001)) (hY20 : Y 616 = (10, 24)) (hY21 : Y 617 = (10, 24)) (hY22 : Y 618 = (10, 24)) (hY23 : Y 619 = (10, 24)) (hY24 : Y 620 = (10, 12000)) (hY25 : Y 621 = (11, 500)) (hY26 : Y 622 = (11, 500)) (hY27 : Y 623 = (11, 500)) (hY28 : Y 624 = (11, 500)) (hY29 : Y 625 = (10, 24)) (hY30 : Y 626 = (11, 24)) (hY31 : Y 627 = (11, 24)) (hY32 : Y 628 = (11, 24)) (hY33 : Y 629 = (11, 24)) (hY34 : Y 630 = (11, 24)) (hY35 : Y 631 = (11, 24)) (hY36 : Y 632 = (10, 7)) (hY37 : Y 633 = (10, 7)) (hY38 : Y 634 = (10, 2304)) : Kc l yX12_init wsX12_init ({ frames := 1, cells := 39, slots := 27329, locals := 12 } : Room) z D cy Y [.ref (z + 595)] 596 σ 635 (i_X12_init σ) 39 27329 := by
  refine Met.ofW (cc := cX12_init) (maxL := 1) (ret := none) (by decide +kernel) rfl ?_
  intro p e s m args below meth c s₁ B hml hv
  obtain ⟨rfl, hC, hK, hN, hO⟩ := hv
  have hx := B.exec
  have hb := B.bytes
  have hr := B.returns
  have hts := atoms_spec (ws := wsX12_init) B.pre
  have hown : s.vm.findClass RX12 = some m.cls := findClass_of_methodNamed B.named
  have hlocks := B.notSynchronized
  have hin : meth.name = "<init>" := (name_of_methodNamed B.named B.method).1
  have hS : va_S (Az z) s.heap s.heap [] := va_S.rf
  have hin12 : ∀ w ∈ wsX120, w ∈ wsX12_init := fun w h => List.mem_cons_of_mem _ (List.mem_append_right _ h)
  have hw0 := hts (.methodLink RX12 1 objectInit) (List.mem_of_getElem? (i := 1) rfl)
  have hw1 := hts (.instanceMethod objectInit) (List.mem_of_getElem? (i := 2) rfl)
  have hw2 := hts (.code objectInit ⟨#[0xb1]⟩ 1 none) (List.mem_of_getElem? (i := 3) rfl)
  have hw3 := hts (.arrayClass .int) (List.mem_of_getElem? (i := 4) rfl)
  have hw4 := hts (.fieldLink RX12 7 "SkyClocksModel" "manyOf" "[I") (List.mem_of_getElem? (i := 5) rfl)
  have hw5 := hts (.fieldLink RX12 13 "SkyClocksModel" "ats" "[I") (List.mem_of_getElem? (i := 6) rfl)
  have hw6 := hts (.fieldLink RX12 16 "SkyClocksModel" "errs" "[I") (List.mem_of_getElem? (i := 7) rfl)
  have hw7 := hts (.fieldLink RX12 19 "SkyClocksModel" "tools" "[I") (List.mem_of_getElem? (i := 8) rfl)
  have hw8 := hts (.fieldLink RX12 22 "SkyClocksModel" "knowns" "[I") (List.mem_of_getElem? (i := 9) rfl)
  have hw9 := hts (.fieldLink RX12 25 "SkyClocksModel" "offsets" "[I") (List.mem_of_getElem? (i := 10) rfl)
  have hw10 := hts (.fieldLink RX12 28 "SkyClocksModel" "shifts" "[I") (List.mem_of_getElem? (i := 11) rfl)
  have hw11 := hts (.constant RX12 31 (2000000)) (List.mem_of_getElem? (i := 12) rfl)
  have hw12 := hts (.fieldLink RX12 32 "SkyClocksModel" "asOf" "I") (List.mem_of_getElem? (i := 13) rfl)
  have hw13 := hts (.arrayClass .boolean) (List.mem_of_getElem? (i := 14) rfl)
  have hw14 := hts (.fieldLink RX12 36 "SkyClocksModel" "hasModel" "[Z") (List.mem_of_getElem? (i := 15) rfl)
  have hw15 := hts (.fieldLink RX12 40 "SkyClocksModel" "period" "[I") (List.mem_of_getElem? (i := 16) rfl)
  have hw16 := hts (.fieldLink RX12 43 "SkyClocksModel" "zero" "[I") (List.mem_of_getElem? (i := 17) rfl)
  have hw17 := hts (.fieldLink RX12 46 "SkyClocksModel" "longer" "[I") (List.mem_of_getElem? (i := 18) rfl)
  have hw18 := hts (.fieldLink RX12 49 "SkyClocksModel" "slipMany" "[I") (List.mem_of_getElem? (i := 19) rfl)
  have hw19 := hts (.fieldLink RX12 52 "SkyClocksModel" "slipAt" "[I") (List.mem_of_getElem? (i := 20) rfl)
  have hw20 := hts (.fieldLink RX12 55 "SkyClocksModel" "slipBy" "[I") (List.mem_of_getElem? (i := 21) rfl)
  have hw21 := hts (.fieldLink RX12 58 "SkyClocksModel" "friendMany" "[I") (List.mem_of_getElem? (i := 22) rfl)
  have hw22 := hts (.fieldLink RX12 61 "SkyClocksModel" "friendTurns" "[I") (List.mem_of_getElem? (i := 23) rfl)
  have hw23 := hts (.fieldLink RX12 64 "SkyClocksModel" "friendBy" "[I") (List.mem_of_getElem? (i := 24) rfl)
  have hw24 := hts (.fieldLink RX12 67 "SkyClocksModel" "text" "[I") (List.mem_of_getElem? (i := 25) rfl)
  have hw25 := hts (.fieldLink RX12 70 "SkyClocksModel" "place" "[I") (List.mem_of_getElem? (i := 26) rfl)
  have hw26 := hts (.arrayClass .long) (List.mem_of_getElem? (i := 27) rfl)
  have hw27 := hts (.fieldLink RX12 73 "SkyClocksModel" "come" "[J") (List.mem_of_getElem? (i := 28) rfl)
  have hw28 := hts (.fieldLink RX12 77 "SkyClocksModel" "rest" "[I") (List.mem_of_getElem? (i := 29) rfl)
  have hw29 := hts (.fieldLink RX12 80 "SkyClocksModel" "turnOf" "[I") (List.mem_of_getElem? (i := 30) rfl)
  have hw30 := hts (.fieldLink RX12 83 "SkyClocksModel" "wayCorrected" "[I") (List.mem_of_getElem? (i := 31) rfl)
  have hw31 := hts (.fieldLink RX12 86 "SkyClocksModel" "wayErr" "[I") (List.mem_of_getElem? (i := 32) rfl)
  have hw32 := hts (.fieldLink RX12 89 "SkyClocksModel" "wayCounts" "[I") (List.mem_of_getElem? (i := 33) rfl)
  have hw33 := hts (.fieldLink RX12 92 "SkyClocksModel" "wayLowUp" "[J") (List.mem_of_getElem? (i := 34) rfl)
  have hw34 := hts (.fieldLink RX12 95 "SkyClocksModel" "wayLowBelow" "[J") (List.mem_of_getElem? (i := 35) rfl)
  have hw35 := hts (.fieldLink RX12 98 "SkyClocksModel" "wayHighUp" "[J") (List.mem_of_getElem? (i := 36) rfl)
  have hw36 := hts (.fieldLink RX12 101 "SkyClocksModel" "wayHighBelow" "[J") (List.mem_of_getElem? (i := 37) rfl)
  have hw37 := hts (.fieldLink RX12 104 "SkyClocksModel" "now" "[I") (List.mem_of_getElem? (i := 38) rfl)
  have hw38 := hts (.fieldLink RX12 107 "SkyClocksModel" "last" "[J") (List.mem_of_getElem? (i := 39) rfl)
  have hw39 := hts (.fieldLink RX12 110 "SkyClocksModel" "lowUp" "[J") (List.mem_of_getElem? (i := 40) rfl)
  have hw40 := hts (.fieldLink RX12 113 "SkyClocksModel" "lowBelow" "[J") (List.mem_of_getElem? (i := 41) rfl)
  have hw41 := hts (.fieldLink RX12 116 "SkyClocksModel" "highUp" "[J") (List.mem_of_getElem? (i := 42) rfl)
  have hw42 := hts (.fieldLink RX12 119 "SkyClocksModel" "highBelow" "[J") (List.mem_of_getElem? (i := 43) rfl)
  have hw43 := hts (.fieldLink RX12 122 "SkyClocksModel" "row" "[J") (List.mem_of_getElem? (i := 44) rfl)
  have hw44 := hts (.fieldLink RX12 125 "SkyClocksModel" "first" "[I") (List.mem_of_getElem? (i := 45) rfl)
  have hw45 := hts (.fieldLink RX12 128 "SkyClocksModel" "second" "[I") (List.mem_of_getElem? (i := 46) rfl)
  have hw46 := hts (.fieldLink RX12 131 "SkyClocksModel" "between" "[I") (List.mem_of_getElem? (i := 47) rfl)
  have hl := lv_entry ([.ref (z + 595)]) (n := 1) (Nat.le_of_ble_eq_true rfl)
  rw [lg_entry_eq]
  generalize (lg_sl ([.ref (z + 595)]) ++ List.replicate (1 - (lg_sl ([.ref (z + 595)])).length) Slot.unset).toArray = ls at hl ⊢
  have hl : lv_has ls 1 [(0, .ref (z + 595))] := hl
  have hC : WC z 596 D cy Y σ s.heap := hC
  refine lv_aload_n hx hb dX12_init_0 rfl (lv_at hl 0 rfl) ?_
  refine W.objInit hx hb hown hw0 hw1 hw2 rfl (by rw [hml]; exact hl.1) rfl dX12_init_1 (Nat.le_of_ble_eq_true rfl) (Nat.le_of_ble_eq_true rfl) ?_
  refine W.eq (g2 := F0 m 4 ls []) rfl ?_
  refine lv_aload_n hx hb dX12_init_4 rfl (lv_at hl 0 rfl) ?_
  refine lv_iconst (v := 4) hx hb dX12_init_5 (by decide) ?_
  refine c_newi hx hb hw3 hK hC hS hY0 (k := 4) (by decide) (by decide) (Nat.le_of_ble_eq_true rfl) (Nat.le_of_ble_eq_true rfl) (Nat.le_of_ble_eq_true rfl) dX12_init_6 (fun H hC hk596 hS => ?_)
  have hC : WC z 597 D cy Y σ H := hC
  have h_this : okk Y 597 9 595 := h_this.mono (by omega)
  have hk596 : okk Y 597 10 596 := hk596
  refine W.widen (k := 1) (n := 4) (Nat.le_refl _) (Nat.le_refl _) ?_
  refine c_putF (own := RX12) (C := RX12) (T := TX12) (N := 57) (kc := 9) hx hb hts hin12 tyX12_ok nmX12 hown hK hC hS h_this (by decide) rfl 0 (by decide) hw4  rfl hin rfl (ty := tyX12 0) (tyX12_ok 0 (by decide)) rfl rfl rfl hk596.1 dX12_init_8 (fun H locs hC hS => ?_)
  refine lv_aload_n hx hb dX12_init_11 rfl (lv_at hl 0 rfl) ?_
  refine lv_bipush (v := 96) hx hb dX12_init_12 (by decide) ?_
  refine c_newi hx hb hw3 hK hC hS hY1 (k := 96) (by decide) (by decide) (Nat.le_of_ble_eq_true rfl) (Nat.le_of_ble_eq_true rfl) (Nat.le_of_ble_eq_true rfl) dX12_init_14 (fun H hC hk597 hS => ?_)
  have hC : WC z 598 D cy Y (Mm.sr σ 595 0 596) H := hC
  have h_this : okk Y 598 9 595 := h_this.mono (by omega)
  have hk596 : okk Y 598 10 596 := hk596.mono (by omega)
  have hk597 : okk Y 598 10 597 := hk597
  refine W.widen (k := 2) (n := 100) (Nat.le_refl _) (Nat.le_refl _) ?_
  refine c_putF (own := RX12) (C := RX12) (T := TX12) (N := 57) (kc := 9) hx hb hts hin12 tyX12_ok nmX12 hown hK hC hS h_this (by decide) rfl 1 (by decide) hw5  rfl hin rfl (ty := tyX12 1) (tyX12_ok 1 (by decide)) rfl rfl rfl hk597.1 dX12_init_16 (fun H locs hC hS => ?_)
  refine lv_aload_n hx hb dX12_init_19 rfl (lv_at hl 0 rfl) ?_
  refine lv_bipush (v := 96) hx hb dX12_init_20 (by decide) ?_
  refine c_newi hx hb hw3 hK hC hS hY2 (k := 96) (by decide) (by decide) (Nat.le_of_ble_eq_true rfl) (Nat.le_of_ble_eq_true rfl) (Nat.le_of_ble_eq_true rfl) dX12_init_22 (fun H hC hk598 hS => ?_)
  have hC : WC z 599 D cy Y (Mm.sr (Mm.sr σ 595 0 596) 595 1 597) H := hC
  have h_this : okk Y 599 9 595 := h_this.mono (by omega)
  have hk596 : okk Y 599 10 596 := hk596.mono (by omega)
  have hk597 : okk Y 599 10 597 := hk597.mono (by omega)
  have hk598 : okk Y 599 10 598 := hk598
  refine W.widen (k := 3) (n := 196) (Nat.le_refl _) (Nat.le_refl _) ?_
  refine c_putF (own := RX12) (C := RX12) (T := TX12) (N := 57) (kc := 9) hx hb hts hin12 tyX12_ok nmX12 hown hK hC hS h_this (by decide) rfl 2 (by decide) hw6  rfl hin rfl (ty := tyX12 2) (tyX12_ok 2 (by decide)) rfl rfl rfl hk598.1 dX12_init_24 (fun H locs hC hS => ?_)
  refine lv_aload_n hx hb dX12_init_27 rfl (lv_at hl 0 rfl) ?_
  refine lv_bipush (v := 96) hx hb dX12_init_28 (by decide) ?_
  refine c_newi hx hb hw3 hK hC hS hY3 (k := 96) (by decide) (by decide) (Nat.le_of_ble_eq_true rfl) (Nat.le_of_ble_eq_true rfl) (Nat.le_of_ble_eq_true rfl) dX12_init_30 (fun H hC hk599 hS => ?_)
  have hC : WC z 600 D cy Y (Mm.sr (Mm.sr (Mm.sr σ 595 0 596) 595 1 597) 595 2 598) H := hC
  have h_this : okk Y 600 9 595 := h_this.mono (by omega)
  have hk596 : okk Y 600 10 596 := hk596.mono (by omega)
  have hk597 : okk Y 600 10 597 := hk597.mono (by omega)
  have hk598 : okk Y 600 10 598 := hk598.mono (by omega)
  have hk599 : okk Y 600 10 599 := hk599
  refine W.widen (k := 4) (n := 292) (Nat.le_refl _) (Nat.le_refl _) ?_
  refine c_putF (own := RX12) (C := RX12) (T := TX12) (N := 57) (kc := 9) hx hb hts hin12 tyX12_ok nmX12 hown hK hC hS h_this (by decide) rfl 3 (by decide) hw7  rfl hin rfl (ty := tyX12 3) (tyX12_ok 3 (by decide)) rfl rfl rfl hk599.1 dX12_init_32 (fun H locs hC hS => ?_)
  refine lv_aload_n hx hb dX12_init_35 rfl (lv_at hl 0 rfl) ?_
  refine lv_bipush (v := 96) hx hb dX12_init_36 (by decide) ?_
  refine c_newi hx hb hw3 hK hC hS hY4 (k := 96) (by decide) (by decide) (Nat.le_of_ble_eq_true rfl) (Nat.le_of_ble_eq_true rfl) (Nat.le_of_ble_eq_true rfl) dX12_init_38 (fun H hC hk600 hS => ?_)
  have hC : WC z 601 D cy Y (Mm.sr (Mm.sr (Mm.sr (Mm.sr σ 595 0 596) 595 1 597) 595 2 598) 595 3 599) H := hC
  have h_this : okk Y 601 9 595 := h_this.mono (by omega)
  have hk596 : okk Y 601 10 596 := hk596.mono (by omega)
  have hk597 : okk Y 601 10 597 := hk597.mono (by omega)
  have hk598 : okk Y 601 10 598 := hk598.mono (by omega)
  have hk599 : okk Y 601 10 599 := hk599.mono (by omega)
  have hk600 : okk Y 601 10 600 := hk600
  refine W.widen (k := 5) (n := 388) (Nat.le_refl _) (Nat.le_refl _) ?_
  refine c_putF (own := RX12) (C := RX12) (T := TX12) (N := 57) (kc := 9) hx hb hts hin12 tyX12_ok nmX12 hown hK hC hS h_this (by decide) rfl 4 (by decide) hw8  rfl hin rfl (ty := tyX12 4) (tyX12_ok 4 (by decide)) rfl rfl rfl hk600.1 dX12_init_40 (fun H locs hC hS => ?_)
  refine lv_aload_n hx hb dX12_init_43 rfl (lv_at hl 0 rfl) ?_
  refine lv_iconst (v := 3) hx hb dX12_init_44 (by decide) ?_
  refine c_newi hx hb hw3 hK hC hS hY5 (k := 3) (by decide) (by decide) (Nat.le_of_ble_eq_true rfl) (Nat.le_of_ble_eq_true rfl) (Nat.le_of_ble_eq_true rfl) dX12_init_45 (fun H hC hk601 hS => ?_)
  have hC : WC z 602 D cy Y (Mm.sr (Mm.sr (Mm.sr (Mm.sr (Mm.sr σ 595 0 596) 595 1 597) 595 2 598) 595 3 599) 595 4 600) H := hC
  have h_this : okk Y 602 9 595 := h_this.mono (by omega)
  have hk596 : okk Y 602 10 596 := hk596.mono (by omega)
  have hk597 : okk Y 602 10 597 := hk597.mono (by omega)
  have hk598 : okk Y 602 10 598 := hk598.mono (by omega)
  have hk599 : okk Y 602 10 599 := hk599.mono (by omega)
  have hk600 : okk Y 602 10 600 := hk600.mono (by omega)
  have hk601 : okk Y 602 10 601 := hk601
  refine W.widen (k := 6) (n := 391) (Nat.le_refl _) (Nat.le_refl _) ?_
  refine c_putF (own := RX12) (C := RX12) (T := TX12) (N := 57) (kc := 9) hx hb hts hin12 tyX12_ok nmX12 hown hK hC hS h_this (by decide) rfl 5 (by decide) hw9  rfl hin rfl (ty := tyX12 5) (tyX12_ok 5 (by decide)) rfl rfl rfl hk601.1 dX12_init_47 (fun H locs hC hS => ?_)
  refine lv_aload_n hx hb dX12_init_50 rfl (lv_at hl 0 rfl) ?_
  refine lv_bipush (v := 22) hx hb dX12_init_51 (by decide) ?_
  refine c_newi hx hb hw3 hK hC hS hY6 (k := 22) (by decide) (by decide) (Nat.le_of_ble_eq_true rfl) (Nat.le_of_ble_eq_true rfl) (Nat.le_of_ble_eq_true rfl) dX12_init_53 (fun H hC hk602 hS => ?_)
  have hC : WC z 603 D cy Y (Mm.sr (Mm.sr (Mm.sr (Mm.sr (Mm.sr (Mm.sr σ 595 0 596) 595 1 597) 595 2 598) 595 3 599) 595 4 600) 595 5 601) H := hC
  have h_this : okk Y 603 9 595 := h_this.mono (by omega)
  have hk596 : okk Y 603 10 596 := hk596.mono (by omega)
  have hk597 : okk Y 603 10 597 := hk597.mono (by omega)
  have hk598 : okk Y 603 10 598 := hk598.mono (by omega)
  have hk599 : okk Y 603 10 599 := hk599.mono (by omega)
  have hk600 : okk Y 603 10 600 := hk600.mono (by omega)
  have hk601 : okk Y 603 10 601 := hk601.mono (by omega)
  have hk602 : okk Y 603 10 602 := hk602
  refine W.widen (k := 7) (n := 413) (Nat.le_refl _) (Nat.le_refl _) ?_
  refine c_putF (own := RX12) (C := RX12) (T := TX12) (N := 57) (kc := 9) hx hb hts hin12 tyX12_ok nmX12 hown hK hC hS h_this (by decide) rfl 6 (by decide) hw10  rfl hin rfl (ty := tyX12 6) (tyX12_ok 6 (by decide)) rfl rfl rfl hk602.1 dX12_init_55 (fun H locs hC hS => ?_)
  refine lv_aload_n hx hb dX12_init_58 rfl (lv_at hl 0 rfl) ?_
  refine lv_ldc hx hb hown hw11 dX12_init_59 ?_
  refine c_putI (own := RX12) (C := RX12) (T := TX12) (N := 57) (kc := 9) hx hb hts hin12 tyX12_ok nmX12 hown hK hC hS h_this (by decide) rfl 8 (by decide) hw12  rfl (tyX12_ok 8 (by decide)) rfl dX12_init_61 (fun H locs hC hS => ?_)
  refine lv_aload_n hx hb dX12_init_64 rfl (lv_at hl 0 rfl) ?_
  refine lv_iconst (v := 4) hx hb dX12_init_65 (by decide) ?_
  refine c_newz hx hb hw13 hK hC hS hY7 (k := 4) (by decide) (by decide) (Nat.le_of_ble_eq_true rfl) (Nat.le_of_ble_eq_true rfl) (Nat.le_of_ble_eq_true rfl) dX12_init_66 (fun H hC hk603 hS => ?_)
  have hC : WC z 604 D cy Y (Mm.si (Mm.sr (Mm.sr (Mm.sr (Mm.sr (Mm.sr (Mm.sr (Mm.sr σ 595 0 596) 595 1 597) 595 2 598) 595 3 599) 595 4 600) 595 5 601) 595 6 602) 595 8 2000000) H := hC
  have h_this : okk Y 604 9 595 := h_this.mono (by omega)
  have hk596 : okk Y 604 10 596 := hk596.mono (by omega)
  have hk597 : okk Y 604 10 597 := hk597.mono (by omega)
  have hk598 : okk Y 604 10 598 := hk598.mono (by omega)
  have hk599 : okk Y 604 10 599 := hk599.mono (by omega)
  have hk600 : okk Y 604 10 600 := hk600.mono (by omega)
  have hk601 : okk Y 604 10 601 := hk601.mono (by omega)
  have hk602 : okk Y 604 10 602 := hk602.mono (by omega)
  have hk603 : okk Y 604 12 603 := hk603
  refine W.widen (k := 8) (n := 417) (Nat.le_refl _) (Nat.le_refl _) ?_
  refine c_putF (own := RX12) (C := RX12) (T := TX12) (N := 57) (kc := 9) hx hb hts hin12 tyX12_ok nmX12 hown hK hC hS h_this (by decide) rfl 9 (by decide) hw14  rfl hin rfl (ty := tyX12 9) (tyX12_ok 9 (by decide)) rfl rfl rfl hk603.1 dX12_init_68 (fun H locs hC hS => ?_)
  refine lv_aload_n hx hb dX12_init_71 rfl (lv_at hl 0 rfl) ?_
  refine lv_iconst (v := 5) hx hb dX12_init_72 (by decide) ?_
  refine c_newi hx hb hw3 hK hC hS hY8 (k := 5) (by decide) (by decide) (Nat.le_of_ble_eq_true rfl) (Nat.le_of_ble_eq_true rfl) (Nat.le_of_ble_eq_true rfl) dX12_init_73 (fun H hC hk604 hS => ?_)
  have hC : WC z 605 D cy Y (Mm.sr (Mm.si (Mm.sr (Mm.sr (Mm.sr (Mm.sr (Mm.sr (Mm.sr (Mm.sr σ 595 0 596) 595 1 597) 595 2 598) 595 3 599) 595 4 600) 595 5 601) 595 6 602) 595 8 2000000) 595 9 603) H := hC
  have h_this : okk Y 605 9 595 := h_this.mono (by omega)
  have hk596 : okk Y 605 10 596 := hk596.mono (by omega)
  have hk597 : okk Y 605 10 597 := hk597.mono (by omega)
  have hk598 : okk Y 605 10 598 := hk598.mono (by omega)
  have hk599 : okk Y 605 10 599 := hk599.mono (by omega)
  have hk600 : okk Y 605 10 600 := hk600.mono (by omega)
  have hk601 : okk Y 605 10 601 := hk601.mono (by omega)
  have hk602 : okk Y 605 10 602 := hk602.mono (by omega)
  have hk603 : okk Y 605 12 603 := hk603.mono (by omega)
  have hk604 : okk Y 605 10 604 := hk604
  refine W.widen (k := 9) (n := 422) (Nat.le_refl _) (Nat.le_refl _) ?_
  refine c_putF (own := RX12) (C := RX12) (T := TX12) (N := 57) (kc := 9) hx hb hts hin12 tyX12_ok nmX12 hown hK hC hS h_this (by decide) rfl 10 (by decide) hw15  rfl hin rfl (ty := tyX12 10) (tyX12_ok 10 (by decide)) rfl rfl rfl hk604.1 dX12_init_75 (fun H locs hC hS => ?_)
  refine lv_aload_n hx hb dX12_init_78 rfl (lv_at hl 0 rfl) ?_
  refine lv_iconst (v := 5) hx hb dX12_init_79 (by decide) ?_
  refine c_newi hx hb hw3 hK hC hS hY9 (k := 5) (by decide) (by decide) (Nat.le_of_ble_eq_true rfl) (Nat.le_of_ble_eq_true rfl) (Nat.le_of_ble_eq_true rfl) dX12_init_80 (fun H hC hk605 hS => ?_)
  have hC : WC z 606 D cy Y (Mm.sr (Mm.sr (Mm.si (Mm.sr (Mm.sr (Mm.sr (Mm.sr (Mm.sr (Mm.sr (Mm.sr σ 595 0 596) 595 1 597) 595 2 598) 595 3 599) 595 4 600) 595 5 601) 595 6 602) 595 8 2000000) 595 9 603) 595 10 604) H := hC
  have h_this : okk Y 606 9 595 := h_this.mono (by omega)
  have hk596 : okk Y 606 10 596 := hk596.mono (by omega)
  have hk597 : okk Y 606 10 597 := hk597.mono (by omega)
  have hk598 : okk Y 606 10 598 := hk598.mono (by omega)
  have hk599 : okk Y 606 10 599 := hk599.mono (by omega)
  have hk600 : okk Y 606 10 600 := hk600.mono (by omega)
  have hk601 : okk Y 606 10 601 := hk601.mono (by omega)
  have hk602 : okk Y 606 10 602 := hk602.mono (by omega)
  have hk603 : okk Y 606 12 603 := hk603.mono (by omega)
  have hk604 : okk Y 606 10 604 := hk604.mono (by omega)
  have hk605 : okk Y 606 10 605 := hk605
  refine W.widen (k := 10) (n := 427) (Nat.le_refl _) (Nat.le_refl _) ?_
  refine c_putF (own := RX12) (C := RX12) (T := TX12) (N := 57) (kc := 9) hx hb hts hin12 tyX12_ok nmX12 hown hK hC hS h_this (by decide) rfl 11 (by decide) hw16  rfl hin rfl (ty := tyX12 11) (tyX12_ok 11 (by decide)) rfl rfl rfl hk605.1 dX12_init_82 (fun H locs hC hS => ?_)
  refine lv_aload_n hx hb dX12_init_85 rfl (lv_at hl 0 rfl) ?_
  refine lv_iconst (v := 5) hx hb dX12_init_86 (by decide) ?_
  refine c_newi hx hb hw3 hK hC hS hY10 (k := 5) (by decide) (by decide) (Nat.le_of_ble_eq_true rfl) (Nat.le_of_ble_eq_true rfl) (Nat.le_of_ble_eq_true rfl) dX12_init_87 (fun H hC hk606 hS => ?_)
  have hC : WC z 607 D cy Y (Mm.sr (Mm.sr (Mm.sr (Mm.si (Mm.sr (Mm.sr (Mm.sr (Mm.sr (Mm.sr (Mm.sr (Mm.sr σ 595 0 596) 595 1 597) 595 2 598) 595 3 599) 595 4 600) 595 5 601) 595 6 602) 595 8 2000000) 595 9 603) 595 10 604) 595 11 605) H := hC
  have h_this : okk Y 607 9 595 := h_this.mono (by omega)
  have hk596 : okk Y 607 10 596 := hk596.mono (by omega)
  have hk597 : okk Y 607 10 597 := hk597.mono (by omega)
  have hk598 : okk Y 607 10 598 := hk598.mono (by omega)
  have hk599 : okk Y 607 10 599 := hk599.mono (by omega)
  have hk600 : okk Y 607 10 600 := hk600.mono (by omega)
  have hk601 : okk Y 607 10 601 := hk601.mono (by omega)
  have hk602 : okk Y 607 10 602 := hk602.mono (by omega)
  have hk603 : okk Y 607 12 603 := hk603.mono (by omega)
  have hk604 : okk Y 607 10 604 := hk604.mono (by omega)
  have hk605 : okk Y 607 10 605 := hk605.mono (by omega)
  have hk606 : okk Y 607 10 606 := hk606
  refine W.widen (k := 11) (n := 432) (Nat.le_refl _) (Nat.le_refl _) ?_
  refine c_putF (own := RX12) (C := RX12) (T := TX12) (N := 57) (kc := 9) hx hb hts hin12 tyX12_ok nmX12 hown hK hC hS h_this (by decide) rfl 12 (by decide) hw17  rfl hin rfl (ty := tyX12 12) (tyX12_ok 12 (by decide)) rfl rfl rfl hk606.1 dX12_init_89 (fun H locs hC hS => ?_)
  refine lv_aload_n hx hb dX12_init_92 rfl (lv_at hl 0 rfl) ?_
  refine lv_iconst (v := 5) hx hb dX12_init_93 (by decide) ?_
  refine c_newi hx hb hw3 hK hC hS hY11 (k := 5) (by decide) (by decide) (Nat.le_of_ble_eq_true rfl) (Nat.le_of_ble_eq_true rfl) (Nat.le_of_ble_eq_true rfl) dX12_init_94 (fun H hC hk607 hS => ?_)
  have hC : WC z 608 D cy Y (Mm.sr (Mm.sr (Mm.sr (Mm.sr (Mm.si (Mm.sr (Mm.sr (Mm.sr (Mm.sr (Mm.sr (Mm.sr (Mm.sr σ 595 0 596) 595 1 597) 595 2 598) 595 3 599) 595 4 600) 595 5 601) 595 6 602) 595 8 2000000) 595 9 603) 595 10 604) 595 11 605) 595 12 606) H := hC
  have h_this : okk Y 608 9 595 := h_this.mono (by omega)
  have hk596 : okk Y 608 10 596 := hk596.mono (by omega)
  have hk597 : okk Y 608 10 597 := hk597.mono (by omega)
  have hk598 : okk Y 608 10 598 := hk598.mono (by omega)
  have hk599 : okk Y 608 10 599 := hk599.mono (by omega)
  have hk600 : okk Y 608 10 600 := hk600.mono (by omega)
  have hk601 : okk Y 608 10 601 := hk601.mono (by omega)
  have hk602 : okk Y 608 10 602 := hk602.mono (by omega)
  have hk603 : okk Y 608 12 603 := hk603.mono (by omega)
  have hk604 : okk Y 608 10 604 := hk604.mono (by omega)
  have hk605 : okk Y 608 10 605 := hk605.mono (by omega)
  have hk606 : okk Y 608 10 606 := hk606.mono (by omega)
  have hk607 : okk Y 608 10 607 := hk607
  refine W.widen (k := 12) (n := 437) (Nat.le_refl _) (Nat.le_refl _) ?_
  refine c_putF (own := RX12) (C := RX12) (T := TX12) (N := 57) (kc := 9) hx hb hts hin12 tyX12_ok nmX12 hown hK hC hS h_this (by decide) rfl 13 (by decide) hw18  rfl hin rfl (ty := tyX12 13) (tyX12_ok 13 (by decide)) rfl rfl rfl hk607.1 dX12_init_96 (fun H locs hC hS => ?_)
  refine lv_aload_n hx hb dX12_init_99 rfl (lv_at hl 0 rfl) ?_
  refine lv_bipush (v := 15) hx hb dX12_init_100 (by decide) ?_
  refine c_newi hx hb hw3 hK hC hS hY12 (k := 15) (by decide) (by decide) (Nat.le_of_ble_eq_true rfl) (Nat.le_of_ble_eq_true rfl) (Nat.le_of_ble_eq_true rfl) dX12_init_102 (fun H hC hk608 hS => ?_)
  have hC : WC z 609 D cy Y (Mm.sr (Mm.sr (Mm.sr (Mm.sr (Mm.sr (Mm.si (Mm.sr (Mm.sr (Mm.sr (Mm.sr (Mm.sr (Mm.sr (Mm.sr σ 595 0 596) 595 1 597) 595 2 598) 595 3 599) 595 4 600) 595 5 601) 595 6 602) 595 8 2000000) 595 9 603) 595 10 604) 595 11 605) 595 12 606) 595 13 607) H := hC
  have h_this : okk Y 609 9 595 := h_this.mono (by omega)
  have hk596 : okk Y 609 10 596 := hk596.mono (by omega)
  have hk597 : okk Y 609 10 597 := hk597.mono (by omega)
  have hk598 : okk Y 609 10 598 := hk598.mono (by omega)
  have hk599 : okk Y 609 10 599 := hk599.mono (by omega)
  have hk600 : okk Y 609 10 600 := hk600.mono (by omega)
  have hk601 : okk Y 609 10 601 := hk601.mono (by omega)
  have hk602 : okk Y 609 10 602 := hk602.mono (by omega)
  have hk603 : okk Y 609 12 603 := hk603.mono (by omega)
  have hk604 : okk Y 609 10 604 := hk604.mono (by omega)
  have hk605 : okk Y 609 10 605 := hk605.mono (by omega)
  have hk606 : okk Y 609 10 606 := hk606.mono (by omega)
  have hk607 : okk Y 609 10 607 := hk607.mono (by omega)
  have hk608 : okk Y 609 10 608 := hk608
  refine W.widen (k := 13) (n := 452) (Nat.le_refl _) (Nat.le_refl _) ?_
  refine c_putF (own := RX12) (C := RX12) (T := TX12) (N := 57) (kc := 9) hx hb hts hin12 tyX12_ok nmX12 hown hK hC hS h_this (by decide) rfl 14 (by decide) hw19  rfl hin rfl (ty := tyX12 14) (tyX12_ok 14 (by decide)) rfl rfl rfl hk608.1 dX12_init_104 (fun H locs hC hS => ?_)
  refine lv_aload_n hx hb dX12_init_107 rfl (lv_at hl 0 rfl) ?_
  refine lv_bipush (v := 15) hx hb dX12_init_108 (by decide) ?_
  refine c_newi hx hb hw3 hK hC hS hY13 (k := 15) (by decide) (by decide) (Nat.le_of_ble_eq_true rfl) (Nat.le_of_ble_eq_true rfl) (Nat.le_of_ble_eq_true rfl) dX12_init_110 (fun H hC hk609 hS => ?_)
  have hC : WC z 610 D cy Y (Mm.sr (Mm.sr (Mm.sr (Mm.sr (Mm.sr (Mm.sr (Mm.si (Mm.sr (Mm.sr (Mm.sr (Mm.sr (Mm.sr (Mm.sr (Mm.sr σ 595 0 596) 595 1 597) 595 2 598) 595 3 599) 595 4 600) 595 5 601) 595 6 602) 595 8 2000000) 595 9 603) 595 10 604) 595 11 605) 595 12 606) 595 13 607) 595 14 608) H := hC
  have h_this : okk Y 610 9 595 := h_this.mono (by omega)
  have hk596 : okk Y 610 10 596 := hk596.mono (by omega)
  have hk597 : okk Y 610 10 597 := hk597.mono (by omega)
  have hk598 : okk Y 610 10 598 := hk598.mono (by omega)
  have hk599 : okk Y 610 10 599 := hk599.mono (by omega)
  have hk600 : okk Y 610 10 600 := hk600.mono (by omega)
  have hk601 : okk Y 610 10 601 := hk601.mono (by omega)
  have hk602 : okk Y 610 10 602 := hk602.mono (by omega)
  have hk603 : okk Y 610 12 603 := hk603.mono (by omega)
  have hk604 : okk Y 610 10 604 := hk604.mono (by omega)
  have hk605 : okk Y 610 10 605 := hk605.mono (by omega)
  have hk606 : okk Y 610 10 606 := hk606.mono (by omega)
  have hk607 : okk Y 610 10 607 := hk607.mono (by omega)
  have hk608 : okk Y 610 10 608 := hk608.mono (by omega)
  have hk609 : okk Y 610 10 609 := hk609
  refine W.widen (k := 14) (n := 467) (Nat.le_refl _) (Nat.le_refl _) ?_
  refine c_putF (own := RX12) (C := RX12) (T := TX12) (N := 57) (kc := 9) hx hb hts hin12 tyX12_ok nmX12 hown hK hC hS h_this (by decide) rfl 15 (by decide) hw20  rfl hin rfl (ty := tyX12 15) (tyX12_ok 15 (by decide)) rfl rfl rfl hk609.1 dX12_init_112 (fun H locs hC hS => ?_)
  refine lv_aload_n hx hb dX12_init_115 rfl (lv_at hl 0 rfl) ?_
  refine lv_iconst (v := 5) hx hb dX12_init_116 (by decide) ?_
  refine c_newi hx hb hw3 hK hC hS hY14 (k := 5) (by decide) (by decide) (Nat.le_of_ble_eq_true rfl) (Nat.le_of_ble_eq_true rfl) (Nat.le_of_ble_eq_true rfl) dX12_init_117 (fun H hC hk610 hS => ?_)
  have hC : WC z 611 D cy Y (Mm.sr (Mm.sr (Mm.sr (Mm.sr (Mm.sr (Mm.sr (Mm.sr (Mm.si (Mm.sr (Mm.sr (Mm.sr (Mm.sr (Mm.sr (Mm.sr (Mm.sr σ 595 0 596) 595 1 597) 595 2 598) 595 3 599) 595 4 600) 595 5 601) 595 6 602) 595 8 2000000) 595 9 603) 595 10 604) 595 11 605) 595 12 606) 595 13 607) 595 14 608) 595 15 609) H := hC
  have h_this : okk Y 611 9 595 := h_this.mono (by omega)
  have hk596 : okk Y 611 10 596 := hk596.mono (by omega)
  have hk597 : okk Y 611 10 597 := hk597.mono (by omega)
  have hk598 : okk Y 611 10 598 := hk598.mono (by omega)
  have hk599 : okk Y 611 10 599 := hk599.mono (by omega)
  have hk600 : okk Y 611 10 600 := hk600.mono (by omega)
  have hk601 : okk Y 611 10 601 := hk601.mono (by omega)
  have hk602 : okk Y 611 10 602 := hk602.mono (by omega)
  have hk603 : okk Y 611 12 603 := hk603.mono (by omega)
  have hk604 : okk Y 611 10 604 := hk604.mono (by omega)
  have hk605 : okk Y 611 10 605 := hk605.mono (by omega)
  have hk606 : okk Y 611 10 606 := hk606.mono (by omega)
  have hk607 : okk Y 611 10 607 := hk607.mono (by omega)
  have hk608 : okk Y 611 10 608 := hk608.mono (by omega)
  have hk609 : okk Y 611 10 609 := hk609.mono (by omega)
  have hk610 : okk Y 611 10 610 := hk610
  refine W.widen (k := 15) (n := 472) (Nat.le_refl _) (Nat.le_refl _) ?_
  refine c_putF (own := RX12) (C := RX12) (T := TX12) (N := 57) (kc := 9) hx hb hts hin12 tyX12_ok nmX12 hown hK hC hS h_this (by decide) rfl 16 (by decide) hw21  rfl hin rfl (ty := tyX12 16) (tyX12_ok 16 (by decide)) rfl rfl rfl hk610.1 dX12_init_119 (fun H locs hC hS => ?_)
  refine lv_aload_n hx hb dX12_init_122 rfl (lv_at hl 0 rfl) ?_
  refine lv_bipush (v := 10) hx hb dX12_init_123 (by decide) ?_
  refine c_newi hx hb hw3 hK hC hS hY15 (k := 10) (by decide) (by decide) (Nat.le_of_ble_eq_true rfl) (Nat.le_of_ble_eq_true rfl) (Nat.le_of_ble_eq_true rfl) dX12_init_125 (fun H hC hk611 hS => ?_)
  have hC : WC z 612 D cy Y (Mm.sr (Mm.sr (Mm.sr (Mm.sr (Mm.sr (Mm.sr (Mm.sr (Mm.sr (Mm.si (Mm.sr (Mm.sr (Mm.sr (Mm.sr (Mm.sr (Mm.sr (Mm.sr σ 595 0 596) 595 1 597) 595 2 598) 595 3 599) 595 4 600) 595 5 601) 595 6 602) 595 8 2000000) 595 9 603) 595 10 604) 595 11 605) 595 12 606) 595 13 607) 595 14 608) 595 15 609) 595 16 610) H := hC
  have h_this : okk Y 612 9 595 := h_this.mono (by omega)
  have hk596 : okk Y 612 10 596 := hk596.mono (by omega)
  have hk597 : okk Y 612 10 597 := hk597.mono (by omega)
  have hk598 : okk Y 612 10 598 := hk598.mono (by omega)
  have hk599 : okk Y 612 10 599 := hk599.mono (by omega)
  have hk600 : okk Y 612 10 600 := hk600.mono (by omega)
  have hk601 : okk Y 612 10 601 := hk601.mono (by omega)
  have hk602 : okk Y 612 10 602 := hk602.mono (by omega)
  have hk603 : okk Y 612 12 603 := hk603.mono (by omega)
  have hk604 : okk Y 612 10 604 := hk604.mono (by omega)
  have hk605 : okk Y 612 10 605 := hk605.mono (by omega)
  have hk606 : okk Y 612 10 606 := hk606.mono (by omega)
  have hk607 : okk Y 612 10 607 := hk607.mono (by omega)
  have hk608 : okk Y 612 10 608 := hk608.mono (by omega)
  have hk609 : okk Y 612 10 609 := hk609.mono (by omega)
  have hk610 : okk Y 612 10 610 := hk610.mono (by omega)
  have hk611 : okk Y 612 10 611 := hk611
  refine W.widen (k := 16) (n := 482) (Nat.le_refl _) (Nat.le_refl _) ?_
  refine c_putF (own := RX12) (C := RX12) (T := TX12) (N := 57) (kc := 9) hx hb hts hin12 tyX12_ok nmX12 hown hK hC hS h_this (by decide) rfl 17 (by decide) hw22  rfl hin rfl (ty := tyX12 17) (tyX12_ok 17 (by decide)) rfl rfl rfl hk611.1 dX12_init_127 (fun H locs hC hS => ?_)
  refine lv_aload_n hx hb dX12_init_130 rfl (lv_at hl 0 rfl) ?_
  refine lv_bipush (v := 40) hx hb dX12_init_131 (by decide) ?_
  refine c_newi hx hb hw3 hK hC hS hY16 (k := 40) (by decide) (by decide) (Nat.le_of_ble_eq_true rfl) (Nat.le_of_ble_eq_true rfl) (Nat.le_of_ble_eq_true rfl) dX12_init_133 (fun H hC hk612 hS => ?_)
  have hC : WC z 613 D cy Y (Mm.sr (Mm.sr (Mm.sr (Mm.sr (Mm.sr (Mm.sr (Mm.sr (Mm.sr (Mm.sr (Mm.si (Mm.sr (Mm.sr (Mm.sr (Mm.sr (Mm.sr (Mm.sr (Mm.sr σ 595 0 596) 595 1 597) 595 2 598) 595 3 599) 595 4 600) 595 5 601) 595 6 602) 595 8 2000000) 595 9 603) 595 10 604) 595 11 605) 595 12 606) 595 13 607) 595 14 608) 595 15 609) 595 16 610) 595 17 611) H := hC
  have h_this : okk Y 613 9 595 := h_this.mono (by omega)
  have hk596 : okk Y 613 10 596 := hk596.mono (by omega)
  have hk597 : okk Y 613 10 597 := hk597.mono (by omega)
  have hk598 : okk Y 613 10 598 := hk598.mono (by omega)
  have hk599 : okk Y 613 10 599 := hk599.mono (by omega)
  have hk600 : okk Y 613 10 600 := hk600.mono (by omega)
  have hk601 : okk Y 613 10 601 := hk601.mono (by omega)
  have hk602 : okk Y 613 10 602 := hk602.mono (by omega)
  have hk603 : okk Y 613 12 603 := hk603.mono (by omega)
  have hk604 : okk Y 613 10 604 := hk604.mono (by omega)
  have hk605 : okk Y 613 10 605 := hk605.mono (by omega)
  have hk606 : okk Y 613 10 606 := hk606.mono (by omega)
  have hk607 : okk Y 613 10 607 := hk607.mono (by omega)
  have hk608 : okk Y 613 10 608 := hk608.mono (by omega)
  have hk609 : okk Y 613 10 609 := hk609.mono (by omega)
  have hk610 : okk Y 613 10 610 := hk610.mono (by omega)
  have hk611 : okk Y 613 10 611 := hk611.mono (by omega)
  have hk612 : okk Y 613 10 612 := hk612
  refine W.widen (k := 17) (n := 522) (Nat.le_refl _) (Nat.le_refl _) ?_
  refine c_putF (own := RX12) (C := RX12) (T := TX12) (N := 57) (kc := 9) hx hb hts hin12 tyX12_ok nmX12 hown hK hC hS h_this (by decide) rfl 18 (by decide) hw23  rfl hin rfl (ty := tyX12 18) (tyX12_ok 18 (by decide)) rfl rfl rfl hk612.1 dX12_init_135 (fun H locs hC hS => ?_)
  refine lv_aload_n hx hb dX12_init_138 rfl (lv_at hl 0 rfl) ?_
  refine lv_sipush (v := 200) hx hb dX12_init_139 (by decide) ?_
  refine c_newi hx hb hw3 hK hC hS hY17 (k := 200) (by decide) (by decide) (Nat.le_of_ble_eq_true rfl) (Nat.le_of_ble_eq_true rfl) (Nat.le_of_ble_eq_true rfl) dX12_init_142 (fun H hC hk613 hS => ?_)
  have hC : WC z 614 D cy Y (Mm.sr (Mm.sr (Mm.sr (Mm.sr (Mm.sr (Mm.sr (Mm.sr (Mm.sr (Mm.sr (Mm.sr (Mm.si (Mm.sr (Mm.sr (Mm.sr (Mm.sr (Mm.sr (Mm.sr (Mm.sr σ 595 0 596) 595 1 597) 595 2 598) 595 3 599) 595 4 600) 595 5 601) 595 6 602) 595 8 2000000) 595 9 603) 595 10 604) 595 11 605) 595 12 606) 595 13 607) 595 14 608) 595 15 609) 595 16 610) 595 17 611) 595 18 612) H := hC
  have h_this : okk Y 614 9 595 := h_this.mono (by omega)
  have hk596 : okk Y 614 10 596 := hk596.mono (by omega)
  have hk597 : okk Y 614 10 597 := hk597.mono (by omega)
  have hk598 : okk Y 614 10 598 := hk598.mono (by omega)
  have hk599 : okk Y 614 10 599 := hk599.mono (by omega)
  have hk600 : okk Y 614 10 600 := hk600.mono (by omega)
  have hk601 : okk Y 614 10 601 := hk601.mono (by omega)
  have hk602 : okk Y 614 10 602 := hk602.mono (by omega)
  have hk603 : okk Y 614 12 603 := hk603.mono (by omega)
  have hk604 : okk Y 614 10 604 := hk604.mono (by omega)
  have hk605 : okk Y 614 10 605 := hk605.mono (by omega)
  have hk606 : okk Y 614 10 606 := hk606.mono (by omega)
  have hk607 : okk Y 614 10 607 := hk607.mono (by omega)
  have hk608 : okk Y 614 10 608 := hk608.mono (by omega)
  have hk609 : okk Y 614 10 609 := hk609.mono (by omega)
  have hk610 : okk Y 614 10 610 := hk610.mono (by omega)
  have hk611 : okk Y 614 10 611 := hk611.mono (by omega)
  have hk612 : okk Y 614 10 612 := hk612.mono (by omega)
  have hk613 : okk Y 614 10 613 := hk613
  refine W.widen (k := 18) (n := 722) (Nat.le_refl _) (Nat.le_refl _) ?_
  refine c_putF (own := RX12) (C := RX12) (T := TX12) (N := 57) (kc := 9) hx hb hts hin12 tyX12_ok nmX12 hown hK hC hS h_this (by decide) rfl 19 (by decide) hw24  rfl hin rfl (ty := tyX12 19) (tyX12_ok 19 (by decide)) rfl rfl rfl hk613.1 dX12_init_144 (fun H locs hC hS => ?_)
  refine lv_aload_n hx hb dX12_init_147 rfl (lv_at hl 0 rfl) ?_
  refine lv_bipush (v := 24) hx hb dX12_init_148 (by decide) ?_
  refine c_newi hx hb hw3 hK hC hS hY18 (k := 24) (by decide) (by decide) (Nat.le_of_ble_eq_true rfl) (Nat.le_of_ble_eq_true rfl) (Nat.le_of_ble_eq_true rfl) dX12_init_150 (fun H hC hk614 hS => ?_)
  have hC : WC z 615 D cy Y (Mm.sr (Mm.sr (Mm.sr (Mm.sr (Mm.sr (Mm.sr (Mm.sr (Mm.sr (Mm.sr (Mm.sr (Mm.sr (Mm.si (Mm.sr (Mm.sr (Mm.sr (Mm.sr (Mm.sr (Mm.sr (Mm.sr σ 595 0 596) 595 1 597) 595 2 598) 595 3 599) 595 4 600) 595 5 601) 595 6 602) 595 8 2000000) 595 9 603) 595 10 604) 595 11 605) 595 12 606) 595 13 607) 595 14 608) 595 15 609) 595 16 610) 595 17 611) 595 18 612) 595 19 613) H := hC
  have h_this : okk Y 615 9 595 := h_this.mono (by omega)
  have hk596 : okk Y 615 10 596 := hk596.mono (by omega)
  have hk597 : okk Y 615 10 597 := hk597.mono (by omega)
  have hk598 : okk Y 615 10 598 := hk598.mono (by omega)
  have hk599 : okk Y 615 10 599 := hk599.mono (by omega)
  have hk600 : okk Y 615 10 600 := hk600.mono (by omega)
  have hk601 : okk Y 615 10 601 := hk601.mono (by omega)
  have hk602 : okk Y 615 10 602 := hk602.mono (by omega)
  have hk603 : okk Y 615 12 603 := hk603.mono (by omega)
  have hk604 : okk Y 615 10 604 := hk604.mono (by omega)
  have hk605 : okk Y 615 10 605 := hk605.mono (by omega)
  have hk606 : okk Y 615 10 606 := hk606.mono (by omega)
  have hk607 : okk Y 615 10 607 := hk607.mono (by omega)
  have hk608 : okk Y 615 10 608 := hk608.mono (by omega)
  have hk609 : okk Y 615 10 609 := hk609.mono (by omega)
  have hk610 : okk Y 615 10 610 := hk610.mono (by omega)
  have hk611 : okk Y 615 10 611 := hk611.mono (by omega)
  have hk612 : okk Y 615 10 612 := hk612.mono (by omega)
  have hk613 : okk Y 615 10 613 := hk613.mono (by omega)
  have hk614 : okk Y 615 10 614 := hk614
  refine W.widen (k := 19) (n := 746) (Nat.le_refl _) (Nat.le_refl _) ?_
  refine c_putF (own := RX12) (C := RX12) (T := TX12) (N := 57) (kc := 9) hx hb hts hin12 tyX12_ok nmX12 hown hK hC hS h_this (by decide) rfl 21 (by decide) hw25  rfl hin rfl (ty := tyX12 21) (tyX12_ok 21 (by decide)) rfl rfl rfl hk614.1 dX12_init_152 (fun H locs hC hS => ?_)
  refine lv_aload_n hx hb dX12_init_155 rfl (lv_at hl 0 rfl) ?_
  refine lv_sipush (v := 10001) hx hb dX12_init_156 (by decide) ?_
  refine c_newl hx hb hw26 hK hC hS hY19 (k := 10001) (by decide) (by decide) (Nat.le_of_ble_eq_true rfl) (Nat.le_of_ble_eq_true rfl) (Nat.le_of_ble_eq_true rfl) dX12_init_159 (fun H hC hk615 hS => ?_)
  have hC : WC z 616 D cy Y (Mm.sr (Mm.sr (Mm.sr (Mm.sr (Mm.sr (Mm.sr (Mm.sr (Mm.sr (Mm.sr (Mm.sr (Mm.sr (Mm.sr (Mm.si (Mm.sr (Mm.sr (Mm.sr (Mm.sr (Mm.sr (Mm.sr (Mm.sr σ 595 0 596) 595 1 597) 595 2 598) 595 3 599) 595 4 600) 595 5 601) 595 6 602) 595 8 2000000) 595 9 603) 595 10 604) 595 11 605) 595 12 606) 595 13 607) 595 14 608) 595 15 609) 595 16 610) 595 17 611) 595 18 612) 595 19 613) 595 21 614) H := hC
  have h_this : okk Y 616 9 595 := h_this.mono (by omega)
  have hk596 : okk Y 616 10 596 := hk596.mono (by omega)
  have hk597 : okk Y 616 10 597 := hk597.mono (by omega)
  have hk598 : okk Y 616 10 598 := hk598.mono (by omega)
  have hk599 : okk Y 616 10 599 := hk599.mono (by omega)
  have hk600 : okk Y 616 10 600 := hk600.mono (by omega)
  have hk601 : okk Y 616 10 601 := hk601.mono (by omega)
  have hk602 : okk Y 616 10 602 := hk602.mono (by omega)
  have hk603 : okk Y 616 12 603 := hk603.mono (by omega)
  have hk604 : okk Y 616 10 604 := hk604.mono (by omega)
  have hk605 : okk Y 616 10 605 := hk605.mono (by omega)
  have hk606 : okk Y 616 10 606 := hk606.mono (by omega)
  have hk607 : okk Y 616 10 607 := hk607.mono (by omega)
  have hk608 : okk Y 616 10 608 := hk608.mono (by omega)
  have hk609 : okk Y 616 10 609 := hk609.mono (by omega)
  have hk610 : okk Y 616 10 610 := hk610.mono (by omega)
  have hk611 : okk Y 616 10 611 := hk611.mono (by omega)
  have hk612 : okk Y 616 10 612 := hk612.mono (by omega)
  have hk613 : okk Y 616 10 613 := hk613.mono (by omega)
  have hk614 : okk Y 616 10 614 := hk614.mono (by omega)
  have hk615 : okk Y 616 11 615 := hk615
  refine W.widen (k := 20) (n := 10747) (Nat.le_refl _) (Nat.le_refl _) ?_
  refine c_putF (own := RX12) (C := RX12) (T := TX12) (N := 57) (kc := 9) hx hb hts hin12 tyX12_ok nmX12 hown hK hC hS h_this (by decide) rfl 28 (by decide) hw27  rfl hin rfl (ty := tyX12 28) (tyX12_ok 28 (by decide)) rfl rfl rfl hk615.1 dX12_init_161 (fun H locs hC hS => ?_)
  refine lv_aload_n hx hb dX12_init_164 rfl (lv_at hl 0 rfl) ?_
  refine lv_bipush (v := 24) hx hb dX12_init_165 (by decide) ?_
  refine c_newi hx hb hw3 hK hC hS hY20 (k := 24) (by decide) (by decide) (Nat.le_of_ble_eq_true rfl) (Nat.le_of_ble_eq_true rfl) (Nat.le_of_ble_eq_true rfl) dX12_init_167 (fun H hC hk616 hS => ?_)
  have hC : WC z 617 D cy Y (Mm.sr (Mm.sr (Mm.sr (Mm.sr (Mm.sr (Mm.sr (Mm.sr (Mm.sr (Mm.sr (Mm.sr (Mm.sr (Mm.sr (Mm.sr (Mm.si (Mm.sr (Mm.sr (Mm.sr (Mm.sr (Mm.sr (Mm.sr (Mm.sr σ 595 0 596) 595 1 597) 595 2 598) 595 3 599) 595 4 600) 595 5 601) 595 6 602) 595 8 2000000) 595 9 603) 595 10 604) 595 11 605) 595 12 606) 595 13 607) 595 14 608) 595 15 609) 595 16 610) 595 17 611) 595 18 612) 595 19 613) 595 21 614) 595 28 615) H := hC
  have h_this : okk Y 617 9 595 := h_this.mono (by omega)
  have hk596 : okk Y 617 10 596 := hk596.mono (by omega)
  have hk597 : okk Y 617 10 597 := hk597.mono (by omega)
  have hk598 : okk Y 617 10 598 := hk598.mono (by omega)
  have hk599 : okk Y 617 10 599 := hk599.mono (by omega)
  have hk600 : okk Y 617 10 600 := hk600.mono (by omega)
  have hk601 : okk Y 617 10 601 := hk601.mono (by omega)
  have hk602 : okk Y 617 10 602 := hk602.mono (by omega)
  have hk603 : okk Y 617 12 603 := hk603.mono (by omega)
  have hk604 : okk Y 617 10 604 := hk604.mono (by omega)
  have hk605 : okk Y 617 10 605 := hk605.mono (by omega)
  have hk606 : okk Y 617 10 606 := hk606.mono (by omega)
  have hk607 : okk Y 617 10 607 := hk607.mono (by omega)
  have hk608 : okk Y 617 10 608 := hk608.mono (by omega)
  have hk609 : okk Y 617 10 609 := hk609.mono (by omega)
  have hk610 : okk Y 617 10 610 := hk610.mono (by omega)
  have hk611 : okk Y 617 10 611 := hk611.mono (by omega)
  have hk612 : okk Y 617 10 612 := hk612.mono (by omega)
  have hk613 : okk Y 617 10 613 := hk613.mono (by omega)
  have hk614 : okk Y 617 10 614 := hk614.mono (by omega)
  have hk615 : okk Y 617 11 615 := hk615.mono (by omega)
  have hk616 : okk Y 617 10 616 := hk616
  refine W.widen (k := 21) (n := 10771) (Nat.le_refl _) (Nat.le_refl _) ?_
  refine c_putF (own := RX12) (C := RX12) (T := TX12) (N := 57) (kc := 9) hx hb hts hin12 tyX12_ok nmX12 hown hK hC hS h_this (by decide) rfl 30 (by decide) hw28  rfl hin rfl (ty := tyX12 30) (tyX12_ok 30 (by decide)) rfl rfl rfl hk616.1 dX12_init_169 (fun H locs hC hS => ?_)
  refine lv_aload_n hx hb dX12_init_172 rfl (lv_at hl 0 rfl) ?_
  refine lv_bipush (v := 24) hx hb dX12_init_173 (by decide) ?_
  refine c_newi hx hb hw3 hK hC hS hY21 (k := 24) (by decide) (by decide) (Nat.le_of_ble_eq_true rfl) (Nat.le_of_ble_eq_true rfl) (Nat.le_of_ble_eq_true rfl) dX12_init_175 (fun H hC hk617 hS => ?_)
  have hC : WC z 618 D cy Y (Mm.sr (Mm.sr (Mm.sr (Mm.sr (Mm.sr (Mm.sr (Mm.sr (Mm.sr (Mm.sr (Mm.sr (Mm.sr (Mm.sr (Mm.sr (Mm.sr (Mm.si (Mm.sr (Mm.sr (Mm.sr (Mm.sr (Mm.sr (Mm.sr (Mm.sr σ 595 0 596) 595 1 597) 595 2 598) 595 3 599) 595 4 600) 595 5 601) 595 6 602) 595 8 2000000) 595 9 603) 595 10 604) 595 11 605) 595 12 606) 595 13 607) 595 14 608) 595 15 609) 595 16 610) 595 17 611) 595 18 612) 595 19 613) 595 21 614) 595 28 615) 595 30 616) H := hC
  have h_this : okk Y 618 9 595 := h_this.mono (by omega)
  have hk596 : okk Y 618 10 596 := hk596.mono (by omega)
  have hk597 : okk Y 618 10 597 := hk597.mono (by omega)
  have hk598 : okk Y 618 10 598 := hk598.mono (by omega)
  have hk599 : okk Y 618 10 599 := hk599.mono (by omega)
  have hk600 : okk Y 618 10 600 := hk600.mono (by omega)
  have hk601 : okk Y 618 10 601 := hk601.mono (by omega)
  have hk602 : okk Y 618 10 602 := hk602.mono (by omega)
  have hk603 : okk Y 618 12 603 := hk603.mono (by omega)
  have hk604 : okk Y 618 10 604 := hk604.mono (by omega)
  have hk605 : okk Y 618 10 605 := hk605.mono (by omega)
  have hk606 : okk Y 618 10 606 := hk606.mono (by omega)
  have hk607 : okk Y 618 10 607 := hk607.mono (by omega)
  have hk608 : okk Y 618 10 608 := hk608.mono (by omega)
  have hk609 : okk Y 618 10 609 := hk609.mono (by omega)
  have hk610 : okk Y 618 10 610 := hk610.mono (by omega)
  have hk611 : okk Y 618 10 611 := hk611.mono (by omega)
  have hk612 : okk Y 618 10 612 := hk612.mono (by omega)
  have hk613 : okk Y 618 10 613 := hk613.mono (by omega)
  have hk614 : okk Y 618 10 614 := hk614.mono (by omega)
  have hk615 : okk Y 618 11 615 := hk615.mono (by omega)
  have hk616 : okk Y 618 10 616 := hk616.mono (by omega)
  have hk617 : okk Y 618 10 617 := hk617
  refine W.widen (k := 22) (n := 10795) (Nat.le_refl _) (Nat.le_refl _) ?_
  refine c_putF (own := RX12) (C := RX12) (T := TX12) (N := 57) (kc := 9) hx hb hts hin12 tyX12_ok nmX12 hown hK hC hS h_this (by decide) rfl 31 (by decide) hw29  rfl hin rfl (ty := tyX12 31) (tyX12_ok 31 (by decide)) rfl rfl rfl hk617.1 dX12_init_177 (fun H locs hC hS => ?_)
  refine lv_aload_n hx hb dX12_init_180 rfl (lv_at hl 0 rfl) ?_
  refine lv_bipush (v := 24) hx hb dX12_init_181 (by decide) ?_
  refine c_newi hx hb hw3 hK hC hS hY22 (k := 24) (by decide) (by decide) (Nat.le_of_ble_eq_true rfl) (Nat.le_of_ble_eq_true rfl) (Nat.le_of_ble_eq_true rfl) dX12_init_183 (fun H hC hk618 hS => ?_)
  have hC : WC z 619 D cy Y (Mm.sr (Mm.sr (Mm.sr (Mm.sr (Mm.sr (Mm.sr (Mm.sr (Mm.sr (Mm.sr (Mm.sr (Mm.sr (Mm.sr (Mm.sr (Mm.sr (Mm.sr (Mm.si (Mm.sr (Mm.sr (Mm.sr (Mm.sr (Mm.sr (Mm.sr (Mm.sr σ 595 0 596) 595 1 597) 595 2 598) 595 3 599) 595 4 600) 595 5 601) 595 6 602) 595 8 2000000) 595 9 603) 595 10 604) 595 11 605) 595 12 606) 595 13 607) 595 14 608) 595 15 609) 595 16 610) 595 17 611) 595 18 612) 595 19 613) 595 21 614) 595 28 615) 595 30 616) 595 31 617) H := hC
  have h_this : okk Y 619 9 595 := h_this.mono (by omega)
  have hk596 : okk Y 619 10 596 := hk596.mono (by omega)
  have hk597 : okk Y 619 10 597 := hk597.mono (by omega)
  have hk598 : okk Y 619 10 598 := hk598.mono (by omega)
  have hk599 : okk Y 619 10 599 := hk599.mono (by omega)
  have hk600 : okk Y 619 10 600 := hk600.mono (by omega)
  have hk601 : okk Y 619 10 601 := hk601.mono (by omega)
  have hk602 : okk Y 619 10 602 := hk602.mono (by omega)
  have hk603 : okk Y 619 12 603 := hk603.mono (by omega)
  have hk604 : okk Y 619 10 604 := hk604.mono (by omega)
  have hk605 : okk Y 619 10 605 := hk605.mono (by omega)
  have hk606 : okk Y 619 10 606 := hk606.mono (by omega)
  have hk607 : okk Y 619 10 607 := hk607.mono (by omega)
  have hk608 : okk Y 619 10 608 := hk608.mono (by omega)
  have hk609 : okk Y 619 10 609 := hk609.mono (by omega)
  have hk610 : okk Y 619 10 610 := hk610.mono (by omega)
  have hk611 : okk Y 619 10 611 := hk611.mono (by omega)
  have hk612 : okk Y 619 10 612 := hk612.mono (by omega)
  have hk613 : okk Y 619 10 613 := hk613.mono (by omega)
  have hk614 : okk Y 619 10 614 := hk614.mono (by omega)
  have hk615 : okk Y 619 11 615 := hk615.mono (by omega)
  have hk616 : okk Y 619 10 616 := hk616.mono (by omega)
  have hk617 : okk Y 619 10 617 := hk617.mono (by omega)
  have hk618 : okk Y 619 10 618 := hk618
  refine W.widen (k := 23) (n := 10819) (Nat.le_refl _) (Nat.le_refl _) ?_
  refine c_putF (own := RX12) (C := RX12) (T := TX12) (N := 57) (kc := 9) hx hb hts hin12 tyX12_ok nmX12 hown hK hC hS h_this (by decide) rfl 35 (by decide) hw30  rfl hin rfl (ty := tyX12 35) (tyX12_ok 35 (by decide)) rfl rfl rfl hk618.1 dX12_init_185 (fun H locs hC hS => ?_)
  refine lv_aload_n hx hb dX12_init_188 rfl (lv_at hl 0 rfl) ?_
  refine lv_bipush (v := 24) hx hb dX12_init_189 (by decide) ?_
  refine c_newi hx hb hw3 hK hC hS hY23 (k := 24) (by decide) (by decide) (Nat.le_of_ble_eq_true rfl) (Nat.le_of_ble_eq_true rfl) (Nat.le_of_ble_eq_true rfl) dX12_init_191 (fun H hC hk619 hS => ?_)
  have hC : WC z 620 D cy Y (Mm.sr (Mm.sr (Mm.sr (Mm.sr (Mm.sr (Mm.sr (Mm.sr (Mm.sr (Mm.sr (Mm.sr (Mm.sr (Mm.sr (Mm.sr (Mm.sr (Mm.sr (Mm.sr (Mm.si (Mm.sr (Mm.sr (Mm.sr (Mm.sr (Mm.sr (Mm.sr (Mm.sr σ 595 0 596) 595 1 597) 595 2 598) 595 3 599) 595 4 600) 595 5 601) 595 6 602) 595 8 2000000) 595 9 603) 595 10 604) 595 11 605) 595 12 606) 595 13 607) 595 14 608) 595 15 609) 595 16 610) 595 17 611) 595 18 612) 595 19 613) 595 21 614) 595 28 615) 595 30 616) 595 31 617) 595 35 618) H := hC
  have h_this : okk Y 620 9 595 := h_this.mono (by omega)
  have hk596 : okk Y 620 10 596 := hk596.mono (by omega)
  have hk597 : okk Y 620 10 597 := hk597.mono (by omega)
  have hk598 : okk Y 620 10 598 := hk598.mono (by omega)
  have hk599 : okk Y 620 10 599 := hk599.mono (by omega)
  have hk600 : okk Y 620 10 600 := hk600.mono (by omega)
  have hk601 : okk Y 620 10 601 := hk601.mono (by omega)
  have hk602 : okk Y 620 10 602 := hk602.mono (by omega)
  have hk603 : okk Y 620 12 603 := hk603.mono (by omega)
  have hk604 : okk Y 620 10 604 := hk604.mono (by omega)
  have hk605 : okk Y 620 10 605 := hk605.mono (by omega)
  have hk606 : okk Y 620 10 606 := hk606.mono (by omega)
  have hk607 : okk Y 620 10 607 := hk607.mono (by omega)
  have hk608 : okk Y 620 10 608 := hk608.mono (by omega)
  have hk609 : okk Y 620 10 609 := hk609.mono (by omega)
  have hk610 : okk Y 620 10 610 := hk610.mono (by omega)
  have hk611 : okk Y 620 10 611 := hk611.mono (by omega)
  have hk612 : okk Y 620 10 612 := hk612.mono (by omega)
  have hk613 : okk Y 620 10 613 := hk613.mono (by omega)
  have hk614 : okk Y 620 10 614 := hk614.mono (by omega)
  have hk615 : okk Y 620 11 615 := hk615.mono (by omega)
  have hk616 : okk Y 620 10 616 := hk616.mono (by omega)
  have hk617 : okk Y 620 10 617 := hk617.mono (by omega)
  have hk618 : okk Y 620 10 618 := hk618.mono (by omega)
  have hk619 : okk Y 620 10 619 := hk619
  refine W.widen (k := 24) (n := 10843) (Nat.le_refl _) (Nat.le_refl _) ?_
  refine c_putF (own := RX12) (C := RX12) (T := TX12) (N := 57) (kc := 9) hx hb hts hin12 tyX12_ok nmX12 hown hK hC hS h_this (by decide) rfl 36 (by decide) hw31  rfl hin rfl (ty := tyX12 36) (tyX12_ok 36 (by decide)) rfl rfl rfl hk619.1 dX12_init_193 (fun H locs hC hS => ?_)
  refine lv_aload_n hx hb dX12_init_196 rfl (lv_at hl 0 rfl) ?_
  refine lv_sipush (v := 12000) hx hb dX12_init_197 (by decide) ?_
  refine c_newi hx hb hw3 hK hC hS hY24 (k := 12000) (by decide) (by decide) (Nat.le_of_ble_eq_true rfl) (Nat.le_of_ble_eq_true rfl) (Nat.le_of_ble_eq_true rfl) dX12_init_200 (fun H hC hk620 hS => ?_)
  have hC : WC z 621 D cy Y (Mm.sr (Mm.sr (Mm.sr (Mm.sr (Mm.sr (Mm.sr (Mm.sr (Mm.sr (Mm.sr (Mm.sr (Mm.sr (Mm.sr (Mm.sr (Mm.sr (Mm.sr (Mm.sr (Mm.sr (Mm.si (Mm.sr (Mm.sr (Mm.sr (Mm.sr (Mm.sr (Mm.sr (Mm.sr σ 595 0 596) 595 1 597) 595 2 598) 595 3 599) 595 4 600) 595 5 601) 595 6 602) 595 8 2000000) 595 9 603) 595 10 604) 595 11 605) 595 12 606) 595 13 607) 595 14 608) 595 15 609) 595 16 610) 595 17 611) 595 18 612) 595 19 613) 595 21 614) 595 28 615) 595 30 616) 595 31 617) 595 35 618) 595 36 619) H := hC
  have h_this : okk Y 621 9 595 := h_this.mono (by omega)
  have hk596 : okk Y 621 10 596 := hk596.mono (by omega)
  have hk597 : okk Y 621 10 597 := hk597.mono (by omega)
  have hk598 : okk Y 621 10 598 := hk598.mono (by omega)
  have hk599 : okk Y 621 10 599 := hk599.mono (by omega)
  have hk600 : okk Y 621 10 600 := hk600.mono (by omega)
  have hk601 : okk Y 621 10 601 := hk601.mono (by omega)
  have hk602 : okk Y 621 10 602 := hk602.mono (by omega)
  have hk603 : okk Y 621 12 603 := hk603.mono (by omega)
  have hk604 : okk Y 621 10 604 := hk604.mono (by omega)
  have hk605 : okk Y 621 10 605 := hk605.mono (by omega)
  have hk606 : okk Y 621 10 606 := hk606.mono (by omega)
  have hk607 : okk Y 621 10 607 := hk607.mono (by omega)
  have hk608 : okk Y 621 10 608 := hk608.mono (by omega)
  have hk609 : okk Y 621 10 609 := hk609.mono (by omega)
  have hk610 : okk Y 621 10 610 := hk610.mono (by omega)
  have hk611 : okk Y 621 10 611 := hk611.mono (by omega)
  have hk612 : okk Y 621 10 612 := hk612.mono (by omega)
  have hk613 : okk Y 621 10 613 := hk613.mono (by omega)
  have hk614 : okk Y 621 10 614 := hk614.mono (by omega)
  have hk615 : okk Y 621 11 615 := hk615.mono (by omega)
  have hk616 : okk Y 621 10 616 := hk616.mono (by omega)
  have hk617 : okk Y 621 10 617 := hk617.mono (by omega)
  have hk618 : okk Y 621 10 618 := hk618.mono (by omega)
  have hk619 : okk Y 621 10 619 := hk619.mono (by omega)
  have hk620 : okk Y 621 10 620 := hk620
  refine W.widen (k := 25) (n := 22843) (Nat.le_refl _) (Nat.le_refl _) ?_
  refine c_putF (own := RX12) (C := RX12) (T := TX12) (N := 57) (kc := 9) hx hb hts hin12 tyX12_ok nmX12 hown hK hC hS h_this (by decide) rfl 37 (by decide) hw32  rfl hin rfl (ty := tyX12 37) (tyX12_ok 37 (by decide)) rfl rfl rfl hk620.1 dX12_init_202 (fun H locs hC hS => ?_)
  refine lv_aload_n hx hb dX12_init_205 rfl (lv_at hl 0 rfl) ?_
  refine lv_sipush (v := 500) hx hb dX12_init_206 (by decide) ?_
  refine c_newl hx hb hw26 hK hC hS hY25 (k := 500) (by decide) (by decide) (Nat.le_of_ble_eq_true rfl) (Nat.le_of_ble_eq_true rfl) (Nat.le_of_ble_eq_true rfl) dX12_init_209 (fun H hC hk621 hS => ?_)
  have hC : WC z 622 D cy Y (Mm.sr (Mm.sr (Mm.sr (Mm.sr (Mm.sr (Mm.sr (Mm.sr (Mm.sr (Mm.sr (Mm.sr (Mm.sr (Mm.sr (Mm.sr (Mm.sr (Mm.sr (Mm.sr (Mm.sr (Mm.sr (Mm.si (Mm.sr (Mm.sr (Mm.sr (Mm.sr (Mm.sr (Mm.sr (Mm.sr σ 595 0 596) 595 1 597) 595 2 598) 595 3 599) 595 4 600) 595 5 601) 595 6 602) 595 8 2000000) 595 9 603) 595 10 604) 595 11 605) 595 12 606) 595 13 607) 595 14 608) 595 15 609) 595 16 610) 595 17 611) 595 18 612) 595 19 613) 595 21 614) 595 28 615) 595 30 616) 595 31 617) 595 35 618) 595 36 619) 595 37 620) H := hC
  have h_this : okk Y 622 9 595 := h_this.mono (by omega)
  have hk596 : okk Y 622 10 596 := hk596.mono (by omega)
  have hk597 : okk Y 622 10 597 := hk597.mono (by omega)
  have hk598 : okk Y 622 10 598 := hk598.mono (by omega)
  have hk599 : okk Y 622 10 599 := hk599.mono (by omega)
  have hk600 : okk Y 622 10 600 := hk600.mono (by omega)
  have hk601 : okk Y 622 10 601 := hk601.mono (by omega)
  have hk602 : okk Y 622 10 602 := hk602.mono (by omega)
  have hk603 : okk Y 622 12 603 := hk603.mono (by omega)
  have hk604 : okk Y 622 10 604 := hk604.mono (by omega)
  have hk605 : okk Y 622 10 605 := hk605.mono (by omega)
  have hk606 : okk Y 622 10 606 := hk606.mono (by omega)
  have hk607 : okk Y 622 10 607 := hk607.mono (by omega)
  have hk608 : okk Y 622 10 608 := hk608.mono (by omega)
  have hk609 : okk Y 622 10 609 := hk609.mono (by omega)
  have hk610 : okk Y 622 10 610 := hk610.mono (by omega)
  have hk611 : okk Y 622 10 611 := hk611.mono (by omega)
  have hk612 : okk Y 622 10 612 := hk612.mono (by omega)
  have hk613 : okk Y 622 10 613 := hk613.mono (by omega)
  have hk614 : okk Y 622 10 614 := hk614.mono (by omega)
  have hk615 : okk Y 622 11 615 := hk615.mono (by omega)
  have hk616 : okk Y 622 10 616 := hk616.mono (by omega)
  have hk617 : okk Y 622 10 617 := hk617.mono (by omega)
  have hk618 : okk Y 622 10 618 := hk618.mono (by omega)
  have hk619 : okk Y 622 10 619 := hk619.mono (by omega)
  have hk620 : okk Y 622 10 620 := hk620.mono (by omega)
  have hk621 : okk Y 622 11 621 := hk621
  refine W.widen (k := 26) (n := 23343) (Nat.le_refl _) (Nat.le_refl _) ?_
  refine c_putF (own := RX12) (C := RX12) (T := TX12) (N := 57) (kc := 9) hx hb hts hin12 tyX12_ok nmX12 hown hK hC hS h_this (by decide) rfl 38 (by decide) hw33  rfl hin rfl (ty := tyX12 38) (tyX12_ok 38 (by decide)) rfl rfl rfl hk621.1 dX12_init_211 (fun H locs hC hS => ?_)
  refine lv_aload_n hx hb dX12_init_214 rfl (lv_at hl 0 rfl) ?_
  refine lv_sipush (v := 500) hx hb dX12_init_215 (by decide) ?_
  refine c_newl hx hb hw26 hK hC hS hY26 (k := 500) (by decide) (by decide) (Nat.le_of_ble_eq_true rfl) (Nat.le_of_ble_eq_true rfl) (Nat.le_of_ble_eq_true rfl) dX12_init_218 (fun H hC hk622 hS => ?_)
  have hC : WC z 623 D cy Y (Mm.sr (Mm.sr (Mm.sr (Mm.sr (Mm.sr (Mm.sr (Mm.sr (Mm.sr (Mm.sr (Mm.sr (Mm.sr (Mm.sr (Mm.sr (Mm.sr (Mm.sr (Mm.sr (Mm.sr (Mm.sr (Mm.sr (Mm.si (Mm.sr (Mm.sr (Mm.sr (Mm.sr (Mm.sr (Mm.sr (Mm.sr σ 595 0 596) 595 1 597) 595 2 598) 595 3 599) 595 4 600) 595 5 601) 595 6 602) 595 8 2000000) 595 9 603) 595 10 604) 595 11 605) 595 12 606) 595 13 607) 595 14 608) 595 15 609) 595 16 610) 595 17 611) 595 18 612) 595 19 613) 595 21 614) 595 28 615) 595 30 616) 595 31 617) 595 35 618) 595 36 619) 595 37 620) 595 38 621) H := hC
  have h_this : okk Y 623 9 595 := h_this.mono (by omega)
  have hk596 : okk Y 623 10 596 := hk596.mono (by omega)
  have hk597 : okk Y 623 10 597 := hk597.mono (by omega)
  have hk598 : okk Y 623 10 598 := hk598.mono (by omega)
  have hk599 : okk Y 623 10 599 := hk599.mono (by omega)
  have hk600 : okk Y 623 10 600 := hk600.mono (by omega)
  have hk601 : okk Y 623 10 601 := hk601.mono (by omega)
  have hk602 : okk Y 623 10 602 := hk602.mono (by omega)
  have hk603 : okk Y 623 12 603 := hk603.mono (by omega)
  have hk604 : okk Y 623 10 604 := hk604.mono (by omega)
  have hk605 : okk Y 623 10 605 := hk605.mono (by omega)
  have hk606 : okk Y 623 10 606 := hk606.mono (by omega)
  have hk607 : okk Y 623 10 607 := hk607.mono (by omega)
  have hk608 : okk Y 623 10 608 := hk608.mono (by omega)
  have hk609 : okk Y 623 10 609 := hk609.mono (by omega)
  have hk610 : okk Y 623 10 610 := hk610.mono (by omega)
  have hk611 : okk Y 623 10 611 := hk611.mono (by omega)
  have hk612 : okk Y 623 10 612 := hk612.mono (by omega)
  have hk613 : okk Y 623 10 613 := hk613.mono (by omega)
  have hk614 : okk Y 623 10 614 := hk614.mono (by omega)
  have hk615 : okk Y 623 11 615 := hk615.mono (by omega)
  have hk616 : okk Y 623 10 616 := hk616.mono (by omega)
  have hk617 : okk Y 623 10 617 := hk617.mono (by omega)
  have hk618 : okk Y 623 10 618 := hk618.mono (by omega)
  have hk619 : okk Y 623 10 619 := hk619.mono (by omega)
  have hk620 : okk Y 623 10 620 := hk620.mono (by omega)
  have hk621 : okk Y 623 11 621 := hk621.mono (by omega)
  have hk622 : okk Y 623 11 622 := hk622
  refine W.widen (k := 27) (n := 23843) (Nat.le_refl _) (Nat.le_refl _) ?_
  refine c_putF (own := RX12) (C := RX12) (T := TX12) (N := 57) (kc := 9) hx hb hts hin12 tyX12_ok nmX12 hown hK hC hS h_this (by decide) rfl 39 (by decide) hw34  rfl hin rfl (ty := tyX12 39) (tyX12_ok 39 (by decide)) rfl rfl rfl hk622.1 dX12_init_220 (fun H locs hC hS => ?_)
  refine lv_aload_n hx hb dX12_init_223 rfl (lv_at hl 0 rfl) ?_
  refine lv_sipush (v := 500) hx hb dX12_init_224 (by decide) ?_
  refine c_newl hx hb hw26 hK hC hS hY27 (k := 500) (by decide) (by decide) (Nat.le_of_ble_eq_true rfl) (Nat.le_of_ble_eq_true rfl) (Nat.le_of_ble_eq_true rfl) dX12_init_227 (fun H hC hk623 hS => ?_)
  have hC : WC z 624 D cy Y (Mm.sr (Mm.sr (Mm.sr (Mm.sr (Mm.sr (Mm.sr (Mm.sr (Mm.sr (Mm.sr (Mm.sr (Mm.sr (Mm.sr (Mm.sr (Mm.sr (Mm.sr (Mm.sr (Mm.sr (Mm.sr (Mm.sr (Mm.sr (Mm.si (Mm.sr (Mm.sr (Mm.sr (Mm.sr (Mm.sr (Mm.sr (Mm.sr σ 595 0 596) 595 1 597) 595 2 598) 595 3 599) 595 4 600) 595 5 601) 595 6 602) 595 8 2000000) 595 9 603) 595 10 604) 595 11 605) 595 12 606) 595 13 607) 595 14 608) 595 15 609) 595 16 610) 595 17 611) 595 18 612) 595 19 613) 595 21 614) 595 28 615) 595 30 616) 595 31 617) 595 35 618) 595 36 619) 595 37 620) 595 38 621) 595 39 622) H := hC
  have h_this : okk Y 624 9 595 := h_this.mono (by omega)
  have hk596 : okk Y 624 10 596 := hk596.mono (by omega)
  have hk597 : okk Y 624 10 597 := hk597.mono (by omega)
  have hk598 : okk Y 624 10 598 := hk598.mono (by omega)
  have hk599 : okk Y 624 10 599 := hk599.mono (by omega)
  have hk600 : okk Y 624 10 600 := hk600.mono (by omega)
  have hk601 : okk Y 624 10 601 := hk601.mono (by omega)
  have hk602 : okk Y 624 10 602 := hk602.mono (by omega)
  have hk603 : okk Y 624 12 603 := hk603.mono (by omega)
  have hk604 : okk Y 624 10 604 := hk604.mono (by omega)
  have hk605 : okk Y 624 10 605 := hk605.mono (by omega)
  have hk606 : okk Y 624 10 606 := hk606.mono (by omega)
  have hk607 : okk Y 624 10 607 := hk607.mono (by omega)
  have hk608 : okk Y 624 10 608 := hk608.mono (by omega)
  have hk609 : okk Y 624 10 609 := hk609.mono (by omega)
  have hk610 : okk Y 624 10 610 := hk610.mono (by omega)
  have hk611 : okk Y 624 10 611 := hk611.mono (by omega)
  have hk612 : okk Y 624 10 612 := hk612.mono (by omega)
  have hk613 : okk Y 624 10 613 := hk613.mono (by omega)
  have hk614 : okk Y 624 10 614 := hk614.mono (by omega)
  have hk615 : okk Y 624 11 615 := hk615.mono (by omega)
  have hk616 : okk Y 624 10 616 := hk616.mono (by omega)
  have hk617 : okk Y 624 10 617 := hk617.mono (by omega)
  have hk618 : okk Y 624 10 618 := hk618.mono (by omega)
  have hk619 : okk Y 624 10 619 := hk619.mono (by omega)
  have hk620 : okk Y 624 10 620 := hk620.mono (by omega)
  have hk621 : okk Y 624 11 621 := hk621.mono (by omega)
  have hk622 : okk Y 624 11 622 := hk622.mono (by omega)
  have hk623 : okk Y 624 11 623 := hk623
  refine W.widen (k := 28) (n := 24343) (Nat.le_refl _) (Nat.le_refl _) ?_
  refine c_putF (own := RX12) (C := RX12) (T := TX12) (N := 57) (kc := 9) hx hb hts hin12 tyX12_ok nmX12 hown hK hC hS h_this (by decide) rfl 40 (by decide) hw35  rfl hin rfl (ty := tyX12 40) (tyX12_ok 40 (by decide)) rfl rfl rfl hk623.1 dX12_init_229 (fun H locs hC hS => ?_)
  refine lv_aload_n hx hb dX12_init_232 rfl (lv_at hl 0 rfl) ?_
  refine lv_sipush (v := 500) hx hb dX12_init_233 (by decide) ?_
  refine c_newl hx hb hw26 hK hC hS hY28 (k := 500) (by decide) (by decide) (Nat.le_of_ble_eq_true rfl) (Nat.le_of_ble_eq_true rfl) (Nat.le_of_ble_eq_true rfl) dX12_init_236 (fun H hC hk624 hS => ?_)
  have hC : WC z 625 D cy Y (Mm.sr (Mm.sr (Mm.sr (Mm.sr (Mm.sr (Mm.sr (Mm.sr (Mm.sr (Mm.sr (Mm.sr (Mm.sr (Mm.sr (Mm.sr (Mm.sr (Mm.sr (Mm.sr (Mm.sr (Mm.sr (Mm.sr (Mm.sr (Mm.sr (Mm.si (Mm.sr (Mm.sr (Mm.sr (Mm.sr (Mm.sr (Mm.sr (Mm.sr σ 595 0 596) 595 1 597) 595 2 598) 595 3 599) 595 4 600) 595 5 601) 595 6 602) 595 8 2000000) 595 9 603) 595 10 604) 595 11 605) 595 12 606) 595 13 607) 595 14 608) 595 15 609) 595 16 610) 595 17 611) 595 18 612) 595 19 613) 595 21 614) 595 28 615) 595 30 616) 595 31 617) 595 35 618) 595 36 619) 595 37 620) 595 38 621) 595 39 622) 595 40 623) H := hC
  have h_this : okk Y 625 9 595 := h_this.mono (by omega)
  have hk596 : okk Y 625 10 596 := hk596.mono (by omega)
  have hk597 : okk Y 625 10 597 := hk597.mono (by omega)
  have hk598 : okk Y 625 10 598 := hk598.mono (by omega)
  have hk599 : okk Y 625 10 599 := hk599.mono (by omega)
  have hk600 : okk Y 625 10 600 := hk600.mono (by omega)
  have hk601 : okk Y 625 10 601 := hk601.mono (by omega)
  have hk602 : okk Y 625 10 602 := hk602.mono (by omega)
  have hk603 : okk Y 625 12 603 := hk603.mono (by omega)
  have hk604 : okk Y 625 10 604 := hk604.mono (by omega)
  have hk605 : okk Y 625 10 605 := hk605.mono (by omega)
  have hk606 : okk Y 625 10 606 := hk606.mono (by omega)
  have hk607 : okk Y 625 10 607 := hk607.mono (by omega)
  have hk608 : okk Y 625 10 608 := hk608.mono (by omega)
  have hk609 : okk Y 625 10 609 := hk609.mono (by omega)
  have hk610 : okk Y 625 10 610 := hk610.mono (by omega)
  have hk611 : okk Y 625 10 611 := hk611.mono (by omega)
  have hk612 : okk Y 625 10 612 := hk612.mono (by omega)
  have hk613 : okk Y 625 10 613 := hk613.mono (by omega)
  have hk614 : okk Y 625 10 614 := hk614.mono (by omega)
  have hk615 : okk Y 625 11 615 := hk615.mono (by omega)
  have hk616 : okk Y 625 10 616 := hk616.mono (by omega)
  have hk617 : okk Y 625 10 617 := hk617.mono (by omega)
  have hk618 : okk Y 625 10 618 := hk618.mono (by omega)
  have hk619 : okk Y 625 10 619 := hk619.mono (by omega)
  have hk620 : okk Y 625 10 620 := hk620.mono (by omega)
  have hk621 : okk Y 625 11 621 := hk621.mono (by omega)
  have hk622 : okk Y 625 11 622 := hk622.mono (by omega)
  have hk623 : okk Y 625 11 623 := hk623.mono (by omega)
  have hk624 : okk Y 625 11 624 := hk624
  refine W.widen (k := 29) (n := 24843) (Nat.le_refl _) (Nat.le_refl _) ?_
  refine c_putF (own := RX12) (C := RX12) (T := TX12) (N := 57) (kc := 9) hx hb hts hin12 tyX12_ok nmX12 hown hK hC hS h_this (by decide) rfl 41 (by decide) hw36  rfl hin rfl (ty := tyX12 41) (tyX12_ok 41 (by decide)) rfl rfl rfl hk624.1 dX12_init_238 (fun H locs hC hS => ?_)
  refine lv_aload_n hx hb dX12_init_241 rfl (lv_at hl 0 rfl) ?_
  refine lv_bipush (v := 24) hx hb dX12_init_242 (by decide) ?_
  refine c_newi hx hb hw3 hK hC hS hY29 (k := 24) (by decide) (by decide) (Nat.le_of_ble_eq_true rfl) (Nat.le_of_ble_eq_true rfl) (Nat.le_of_ble_eq_true rfl) dX12_init_244 (fun H hC hk625 hS => ?_)
  have hC : WC z 626 D cy Y (Mm.sr (Mm.sr (Mm.sr (Mm.sr (Mm.sr (Mm.sr (Mm.sr (Mm.sr (Mm.sr (Mm.sr (Mm.sr (Mm.sr (Mm.sr (Mm.sr (Mm.sr (Mm.sr (Mm.sr (Mm.sr (Mm.sr (Mm.sr (Mm.sr (Mm.sr (Mm.si (Mm.sr (Mm.sr (Mm.sr (Mm.sr (Mm.sr (Mm.sr (Mm.sr σ 595 0 596) 595 1 597) 595 2 598) 595 3 599) 595 4 600) 595 5 601) 595 6 602) 595 8 2000000) 595 9 603) 595 10 604) 595 11 605) 595 12 606) 595 13 607) 595 14 608) 595 15 609) 595 16 610) 595 17 611) 595 18 612) 595 19 613) 595 21 614) 595 28 615) 595 30 616) 595 31 617) 595 35 618) 595 36 619) 595 37 620) 595 38 621) 595 39 622) 595 40 623) 595 41 624) H := hC
  have h_this : okk Y 626 9 595 := h_this.mono (by omega)
  have hk596 : okk Y 626 10 596 := hk596.mono (by omega)
  have hk597 : okk Y 626 10 597 := hk597.mono (by omega)
  have hk598 : okk Y 626 10 598 := hk598.mono (by omega)
  have hk599 : okk Y 626 10 599 := hk599.mono (by omega)
  have hk600 : okk Y 626 10 600 := hk600.mono (by omega)
  have hk601 : okk Y 626 10 601 := hk601.mono (by omega)
  have hk602 : okk Y 626 10 602 := hk602.mono (by omega)
  have hk603 : okk Y 626 12 603 := hk603.mono (by omega)
  have hk604 : okk Y 626 10 604 := hk604.mono (by omega)
  have hk605 : okk Y 626 10 605 := hk605.mono (by omega)
  have hk606 : okk Y 626 10 606 := hk606.mono (by omega)
  have hk607 : okk Y 626 10 607 := hk607.mono (by omega)
  have hk608 : okk Y 626 10 608 := hk608.mono (by omega)
  have hk609 : okk Y 626 10 609 := hk609.mono (by omega)
  have hk610 : okk Y 626 10 610 := hk610.mono (by omega)
  have hk611 : okk Y 626 10 611 := hk611.mono (by omega)
  have hk612 : okk Y 626 10 612 := hk612.mono (by omega)
  have hk613 : okk Y 626 10 613 := hk613.mono (by omega)
  have hk614 : okk Y 626 10 614 := hk614.mono (by omega)
  have hk615 : okk Y 626 11 615 := hk615.mono (by omega)
  have hk616 : okk Y 626 10 616 := hk616.mono (by omega)
  have hk617 : okk Y 626 10 617 := hk617.mono (by omega)
  have hk618 : okk Y 626 10 618 := hk618.mono (by omega)
  have hk619 : okk Y 626 10 619 := hk619.mono (by omega)
  have hk620 : okk Y 626 10 620 := hk620.mono (by omega)
  have hk621 : okk Y 626 11 621 := hk621.mono (by omega)
  have hk622 : okk Y 626 11 622 := hk622.mono (by omega)
  have hk623 : okk Y 626 11 623 := hk623.mono (by omega)
  have hk624 : okk Y 626 11 624 := hk624.mono (by omega)
  have hk625 : okk Y 626 10 625 := hk625
  refine W.widen (k := 30) (n := 24867) (Nat.le_refl _) (Nat.le_refl _) ?_
  refine c_putF (own := RX12) (C := RX12) (T := TX12) (N := 57) (kc := 9) hx hb hts hin12 tyX12_ok nmX12 hown hK hC hS h_this (by decide) rfl 42 (by decide) hw37  rfl hin rfl (ty := tyX12 42) (tyX12_ok 42 (by decide)) rfl rfl rfl hk625.1 dX12_init_246 (fun H locs hC hS => ?_)
  refine lv_aload_n hx hb dX12_init_249 rfl (lv_at hl 0 rfl) ?_
  refine lv_bipush (v := 24) hx hb dX12_init_250 (by decide) ?_
  refine c_newl hx hb hw26 hK hC hS hY30 (k := 24) (by decide) (by decide) (Nat.le_of_ble_eq_true rfl) (Nat.le_of_ble_eq_true rfl) (Nat.le_of_ble_eq_true rfl) dX12_init_252 (fun H hC hk626 hS => ?_)
  have hC : WC z 627 D cy Y (Mm.sr (Mm.sr (Mm.sr (Mm.sr (Mm.sr (Mm.sr (Mm.sr (Mm.sr (Mm.sr (Mm.sr (Mm.sr (Mm.sr (Mm.sr (Mm.sr (Mm.sr (Mm.sr (Mm.sr (Mm.sr (Mm.sr (Mm.sr (Mm.sr (Mm.sr (Mm.sr (Mm.si (Mm.sr (Mm.sr (Mm.sr (Mm.sr (Mm.sr (Mm.sr (Mm.sr σ 595 0 596) 595 1 597) 595 2 598) 595 3 599) 595 4 600) 595 5 601) 595 6 602) 595 8 2000000) 595 9 603) 595 10 604) 595 11 605) 595 12 606) 595 13 607) 595 14 608) 595 15 609) 595 16 610) 595 17 611) 595 18 612) 595 19 613) 595 21 614) 595 28 615) 595 30 616) 595 31 617) 595 35 618) 595 36 619) 595 37 620) 595 38 621) 595 39 622) 595 40 623) 595 41 624) 595 42 625) H := hC
  have h_this : okk Y 627 9 595 := h_this.mono (by omega)
  have hk596 : okk Y 627 10 596 := hk596.mono (by omega)
  have hk597 : okk Y 627 10 597 := hk597.mono (by omega)
  have hk598 : okk Y 627 10 598 := hk598.mono (by omega)
  have hk599 : okk Y 627 10 599 := hk599.mono (by omega)
  have hk600 : okk Y 627 10 600 := hk600.mono (by omega)
  have hk601 : okk Y 627 10 601 := hk601.mono (by omega)
  have hk602 : okk Y 627 10 602 := hk602.mono (by omega)
  have hk603 : okk Y 627 12 603 := hk603.mono (by omega)
  have hk604 : okk Y 627 10 604 := hk604.mono (by omega)
  have hk605 : okk Y 627 10 605 := hk605.mono (by omega)
  have hk606 : okk Y 627 10 606 := hk606.mono (by omega)
  have hk607 : okk Y 627 10 607 := hk607.mono (by omega)
  have hk608 : okk Y 627 10 608 := hk608.mono (by omega)
  have hk609 : okk Y 627 10 609 := hk609.mono (by omega)
  have hk610 : okk Y 627 10 610 := hk610.mono (by omega)
  have hk611 : okk Y 627 10 611 := hk611.mono (by omega)
  have hk612 : okk Y 627 10 612 := hk612.mono (by omega)
  have hk613 : okk Y 627 10 613 := hk613.mono (by omega)
  have hk614 : okk Y 627 10 614 := hk614.mono (by omega)
  have hk615 : okk Y 627 11 615 := hk615.mono (by omega)
  have hk616 : okk Y 627 10 616 := hk616.mono (by omega)
  have hk617 : okk Y 627 10 617 := hk617.mono (by omega)
  have hk618 : okk Y 627 10 618 := hk618.mono (by omega)
  have hk619 : okk Y 627 10 619 := hk619.mono (by omega)
  have hk620 : okk Y 627 10 620 := hk620.mono (by omega)
  have hk621 : okk Y 627 11 621 := hk621.mono (by omega)
  have hk622 : okk Y 627 11 622 := hk622.mono (by omega)
  have hk623 : okk Y 627 11 623 := hk623.mono (by omega)
  have hk624 : okk Y 627 11 624 := hk624.mono (by omega)
  have hk625 : okk Y 627 10 625 := hk625.mono (by omega)
  have hk626 : okk Y 627 11 626 := hk626
  refine W.widen (k := 31) (n := 24891) (Nat.le_refl _) (Nat.le_refl _) ?_
  refine c_putF (own := RX12) (C := RX12) (T := TX12) (N := 57) (kc := 9) hx hb hts hin12 tyX12_ok nmX12 hown hK hC hS h_this (by decide) rfl 43 (by decide) hw38  rfl hin rfl (ty := tyX12 43) (tyX12_ok 43 (by decide)) rfl rfl rfl hk626.1 dX12_init_254 (fun H locs hC hS => ?_)
  refine lv_aload_n hx hb dX12_init_257 rfl (lv_at hl 0 rfl) ?_
  refine lv_bipush (v := 24) hx hb dX12_init_258 (by decide) ?_
  refine c_newl hx hb hw26 hK hC hS hY31 (k := 24) (by decide) (by decide) (Nat.le_of_ble_eq_true rfl) (Nat.le_of_ble_eq_true rfl) (Nat.le_of_ble_eq_true rfl) dX12_init_260 (fun H hC hk627 hS => ?_)
  have hC : WC z 628 D cy Y (Mm.sr (Mm.sr (Mm.sr (Mm.sr (Mm.sr (Mm.sr (Mm.sr (Mm.sr (Mm.sr (Mm.sr (Mm.sr (Mm.sr (Mm.sr (Mm.sr (Mm.sr (Mm.sr (Mm.sr (Mm.sr (Mm.sr (Mm.sr (Mm.sr (Mm.sr (Mm.sr (Mm.sr (Mm.si (Mm.sr (Mm.sr (Mm.sr (Mm.sr (Mm.sr (Mm.sr (Mm.sr σ 595 0 596) 595 1 597) 595 2 598) 595 3 599) 595 4 600) 595 5 601) 595 6 602) 595 8 2000000) 595 9 603) 595 10 604) 595 11 605) 595 12 606) 595 13 607) 595 14 608) 595 15 609) 595 16 610) 595 17 611) 595 18 612) 595 19 613) 595 21 614) 595 28 615) 595 30 616) 595 31 617) 595 35 618) 595 36 619) 595 37 620) 595 38 621) 595 39 622) 595 40 623) 595 41 624) 595 42 625) 595 43 626) H := hC
  have h_this : okk Y 628 9 595 := h_this.mono (by omega)
  have hk596 : okk Y 628 10 596 := hk596.mono (by omega)
  have hk597 : okk Y 628 10 597 := hk597.mono (by omega)
  have hk598 : okk Y 628 10 598 := hk598.mono (by omega)
  have hk599 : okk Y 628 10 599 := hk599.mono (by omega)
  have hk600 : okk Y 628 10 600 := hk600.mono (by omega)
  have hk601 : okk Y 628 10 601 := hk601.mono (by omega)
  have hk602 : okk Y 628 10 602 := hk602.mono (by omega)
  have hk603 : okk Y 628 12 603 := hk603.mono (by omega)
  have hk604 : okk Y 628 10 604 := hk604.mono (by omega)
  have hk605 : okk Y 628 10 605 := hk605.mono (by omega)
  have hk606 : okk Y 628 10 606 := hk606.mono (by omega)
  have hk607 : okk Y 628 10 607 := hk607.mono (by omega)
  have hk608 : okk Y 628 10 608 := hk608.mono (by omega)
  have hk609 : okk Y 628 10 609 := hk609.mono (by omega)
  have hk610 : okk Y 628 10 610 := hk610.mono (by omega)
  have hk611 : okk Y 628 10 611 := hk611.mono (by omega)
  have hk612 : okk Y 628 10 612 := hk612.mono (by omega)
  have hk613 : okk Y 628 10 613 := hk613.mono (by omega)
  have hk614 : okk Y 628 10 614 := hk614.mono (by omega)
  have hk615 : okk Y 628 11 615 := hk615.mono (by omega)
  have hk616 : okk Y 628 10 616 := hk616.mono (by omega)
  have hk617 : okk Y 628 10 617 := hk617.mono (by omega)
  have hk618 : okk Y 628 10 618 := hk618.mono (by omega)
  have hk619 : okk Y 628 10 619 := hk619.mono (by omega)
  have hk620 : okk Y 628 10 620 := hk620.mono (by omega)
  have hk621 : okk Y 628 11 621 := hk621.mono (by omega)
  have hk622 : okk Y 628 11 622 := hk622.mono (by omega)
  have hk623 : okk Y 628 11 623 := hk623.mono (by omega)
  have hk624 : okk Y 628 11 624 := hk624.mono (by omega)
  have hk625 : okk Y 628 10 625 := hk625.mono (by omega)
  have hk626 : okk Y 628 11 626 := hk626.mono (by omega)
  have hk627 : okk Y 628 11 627 := hk627
  refine W.widen (k := 32) (n := 24915) (Nat.le_refl _) (Nat.le_refl _) ?_
  refine c_putF (own := RX12) (C := RX12) (T := TX12) (N := 57) (kc := 9) hx hb hts hin12 tyX12_ok nmX12 hown hK hC hS h_this (by decide) rfl 44 (by decide) hw39  rfl hin rfl (ty := tyX12 44) (tyX12_ok 44 (by decide)) rfl rfl rfl hk627.1 dX12_init_262 (fun H locs hC hS => ?_)
  refine lv_aload_n hx hb dX12_init_265 rfl (lv_at hl 0 rfl) ?_
  refine lv_bipush (v := 24) hx hb dX12_init_266 (by decide) ?_
  refine c_newl hx hb hw26 hK hC hS hY32 (k := 24) (by decide) (by decide) (Nat.le_of_ble_eq_true rfl) (Nat.le_of_ble_eq_true rfl) (Nat.le_of_ble_eq_true rfl) dX12_init_268 (fun H hC hk628 hS => ?_)
  have hC : WC z 629 D cy Y (Mm.sr (Mm.sr (Mm.sr (Mm.sr (Mm.sr (Mm.sr (Mm.sr (Mm.sr (Mm.sr (Mm.sr (Mm.sr (Mm.sr (Mm.sr (Mm.sr (Mm.sr (Mm.sr (Mm.sr (Mm.sr (Mm.sr (Mm.sr (Mm.sr (Mm.sr (Mm.sr (Mm.sr (Mm.sr (Mm.si (Mm.sr (Mm.sr (Mm.sr (Mm.sr (Mm.sr (Mm.sr (Mm.sr σ 595 0 596) 595 1 597) 595 2 598) 595 3 599) 595 4 600) 595 5 601) 595 6 602) 595 8 2000000) 595 9 603) 595 10 604) 595 11 605) 595 12 606) 595 13 607) 595 14 608) 595 15 609) 595 16 610) 595 17 611) 595 18 612) 595 19 613) 595 21 614) 595 28 615) 595 30 616) 595 31 617) 595 35 618) 595 36 619) 595 37 620) 595 38 621) 595 39 622) 595 40 623) 595 41 624) 595 42 625) 595 43 626) 595 44 627) H := hC
  have h_this : okk Y 629 9 595 := h_this.mono (by omega)
  have hk596 : okk Y 629 10 596 := hk596.mono (by omega)
  have hk597 : okk Y 629 10 597 := hk597.mono (by omega)
  have hk598 : okk Y 629 10 598 := hk598.mono (by omega)
  have hk599 : okk Y 629 10 599 := hk599.mono (by omega)
  have hk600 : okk Y 629 10 600 := hk600.mono (by omega)
  have hk601 : okk Y 629 10 601 := hk601.mono (by omega)
  have hk602 : okk Y 629 10 602 := hk602.mono (by omega)
  have hk603 : okk Y 629 12 603 := hk603.mono (by omega)
  have hk604 : okk Y 629 10 604 := hk604.mono (by omega)
  have hk605 : okk Y 629 10 605 := hk605.mono (by omega)
  have hk606 : okk Y 629 10 606 := hk606.mono (by omega)
  have hk607 : okk Y 629 10 607 := hk607.mono (by omega)
  have hk608 : okk Y 629 10 608 := hk608.mono (by omega)
  have hk609 : okk Y 629 10 609 := hk609.mono (by omega)
  have hk610 : okk Y 629 10 610 := hk610.mono (by omega)
  have hk611 : okk Y 629 10 611 := hk611.mono (by omega)
  have hk612 : okk Y 629 10 612 := hk612.mono (by omega)
  have hk613 : okk Y 629 10 613 := hk613.mono (by omega)
  have hk614 : okk Y 629 10 614 := hk614.mono (by omega)
  have hk615 : okk Y 629 11 615 := hk615.mono (by omega)
  have hk616 : okk Y 629 10 616 := hk616.mono (by omega)
  have hk617 : okk Y 629 10 617 := hk617.mono (by omega)
  have hk618 : okk Y 629 10 618 := hk618.mono (by omega)
  have hk619 : okk Y 629 10 619 := hk619.mono (by omega)
  have hk620 : okk Y 629 10 620 := hk620.mono (by omega)
  have hk621 : okk Y 629 11 621 := hk621.mono (by omega)
  have hk622 : okk Y 629 11 622 := hk622.mono (by omega)
  have hk623 : okk Y 629 11 623 := hk623.mono (by omega)
  have hk624 : okk Y 629 11 624 := hk624.mono (by omega)
  have hk625 : okk Y 629 10 625 := hk625.mono (by omega)
  have hk626 : okk Y 629 11 626 := hk626.mono (by omega)
  have hk627 : okk Y 629 11 627 := hk627.mono (by omega)
  have hk628 : okk Y 629 11 628 := hk628
  refine W.widen (k := 33) (n := 24939) (Nat.le_refl _) (Nat.le_refl _) ?_
  refine c_putF (own := RX12) (C := RX12) (T := TX12) (N := 57) (kc := 9) hx hb hts hin12 tyX12_ok nmX12 hown hK hC hS h_this (by decide) rfl 45 (by decide) hw40  rfl hin rfl (ty := tyX12 45) (tyX12_ok 45 (by decide)) rfl rfl rfl hk628.1 dX12_init_270 (fun H locs hC hS => ?_)
  refine lv_aload_n hx hb dX12_init_273 rfl (lv_at hl 0 rfl) ?_
  refine lv_bipush (v := 24) hx hb dX12_init_274 (by decide) ?_
  refine c_newl hx hb hw26 hK hC hS hY33 (k := 24) (by decide) (by decide) (Nat.le_of_ble_eq_true rfl) (Nat.le_of_ble_eq_true rfl) (Nat.le_of_ble_eq_true rfl) dX12_init_276 (fun H hC hk629 hS => ?_)
  have hC : WC z 630 D cy Y (Mm.sr (Mm.sr (Mm.sr (Mm.sr (Mm.sr (Mm.sr (Mm.sr (Mm.sr (Mm.sr (Mm.sr (Mm.sr (Mm.sr (Mm.sr (Mm.sr (Mm.sr (Mm.sr (Mm.sr (Mm.sr (Mm.sr (Mm.sr (Mm.sr (Mm.sr (Mm.sr (Mm.sr (Mm.sr (Mm.sr (Mm.si (Mm.sr (Mm.sr (Mm.sr (Mm.sr (Mm.sr (Mm.sr (Mm.sr σ 595 0 596) 595 1 597) 595 2 598) 595 3 599) 595 4 600) 595 5 601) 595 6 602) 595 8 2000000) 595 9 603) 595 10 604) 595 11 605) 595 12 606) 595 13 607) 595 14 608) 595 15 609) 595 16 610) 595 17 611) 595 18 612) 595 19 613) 595 21 614) 595 28 615) 595 30 616) 595 31 617) 595 35 618) 595 36 619) 595 37 620) 595 38 621) 595 39 622) 595 40 623) 595 41 624) 595 42 625) 595 43 626) 595 44 627) 595 45 628) H := hC
  have h_this : okk Y 630 9 595 := h_this.mono (by omega)
  have hk596 : okk Y 630 10 596 := hk596.mono (by omega)
  have hk597 : okk Y 630 10 597 := hk597.mono (by omega)
  have hk598 : okk Y 630 10 598 := hk598.mono (by omega)
  have hk599 : okk Y 630 10 599 := hk599.mono (by omega)
  have hk600 : okk Y 630 10 600 := hk600.mono (by omega)
  have hk601 : okk Y 630 10 601 := hk601.mono (by omega)
  have hk602 : okk Y 630 10 602 := hk602.mono (by omega)
  have hk603 : okk Y 630 12 603 := hk603.mono (by omega)
  have hk604 : okk Y 630 10 604 := hk604.mono (by omega)
  have hk605 : okk Y 630 10 605 := hk605.mono (by omega)
  have hk606 : okk Y 630 10 606 := hk606.mono (by omega)
  have hk607 : okk Y 630 10 607 := hk607.mono (by omega)
  have hk608 : okk Y 630 10 608 := hk608.mono (by omega)
  have hk609 : okk Y 630 10 609 := hk609.mono (by omega)
  have hk610 : okk Y 630 10 610 := hk610.mono (by omega)
  have hk611 : okk Y 630 10 611 := hk611.mono (by omega)
  have hk612 : okk Y 630 10 612 := hk612.mono (by omega)
  have hk613 : okk Y 630 10 613 := hk613.mono (by omega)
  have hk614 : okk Y 630 10 614 := hk614.mono (by omega)
  have hk615 : okk Y 630 11 615 := hk615.mono (by omega)
  have hk616 : okk Y 630 10 616 := hk616.mono (by omega)
  have hk617 : okk Y 630 10 617 := hk617.mono (by omega)
  have hk618 : okk Y 630 10 618 := hk618.mono (by omega)
  have hk619 : okk Y 630 10 619 := hk619.mono (by omega)
  have hk620 : okk Y 630 10 620 := hk620.mono (by omega)
  have hk621 : okk Y 630 11 621 := hk621.mono (by omega)
  have hk622 : okk Y 630 11 622 := hk622.mono (by omega)
  have hk623 : okk Y 630 11 623 := hk623.mono (by omega)
  have hk624 : okk Y 630 11 624 := hk624.mono (by omega)
  have hk625 : okk Y 630 10 625 := hk625.mono (by omega)
  have hk626 : okk Y 630 11 626 := hk626.mono (by omega)
  have hk627 : okk Y 630 11 627 := hk627.mono (by omega)
  have hk628 : okk Y 630 11 628 := hk628.mono (by omega)
  have hk629 : okk Y 630 11 629 := hk629
  refine W.widen (k := 34) (n := 24963) (Nat.le_refl _) (Nat.le_refl _) ?_
  refine c_putF (own := RX12) (C := RX12) (T := TX12) (N := 57) (kc := 9) hx hb hts hin12 tyX12_ok nmX12 hown hK hC hS h_this (by decide) rfl 46 (by decide) hw41  rfl hin rfl (ty := tyX12 46) (tyX12_ok 46 (by decide)) rfl rfl rfl hk629.1 dX12_init_278 (fun H locs hC hS => ?_)
  refine lv_aload_n hx hb dX12_init_281 rfl (lv_at hl 0 rfl) ?_
  refine lv_bipush (v := 24) hx hb dX12_init_282 (by decide) ?_
  refine c_newl hx hb hw26 hK hC hS hY34 (k := 24) (by decide) (by decide) (Nat.le_of_ble_eq_true rfl) (Nat.le_of_ble_eq_true rfl) (Nat.le_of_ble_eq_true rfl) dX12_init_284 (fun H hC hk630 hS => ?_)
  have hC : WC z 631 D cy Y (Mm.sr (Mm.sr (Mm.sr (Mm.sr (Mm.sr (Mm.sr (Mm.sr (Mm.sr (Mm.sr (Mm.sr (Mm.sr (Mm.sr (Mm.sr (Mm.sr (Mm.sr (Mm.sr (Mm.sr (Mm.sr (Mm.sr (Mm.sr (Mm.sr (Mm.sr (Mm.sr (Mm.sr (Mm.sr (Mm.sr (Mm.sr (Mm.si (Mm.sr (Mm.sr (Mm.sr (Mm.sr (Mm.sr (Mm.sr (Mm.sr σ 595 0 596) 595 1 597) 595 2 598) 595 3 599) 595 4 600) 595 5 601) 595 6 602) 595 8 2000000) 595 9 603) 595 10 604) 595 11 605) 595 12 606) 595 13 607) 595 14 608) 595 15 609) 595 16 610) 595 17 611) 595 18 612) 595 19 613) 595 21 614) 595 28 615) 595 30 616) 595 31 617) 595 35 618) 595 36 619) 595 37 620) 595 38 621) 595 39 622) 595 40 623) 595 41 624) 595 42 625) 595 43 626) 595 44 627) 595 45 628) 595 46 629) H := hC
  have h_this : okk Y 631 9 595 := h_this.mono (by omega)
  have hk596 : okk Y 631 10 596 := hk596.mono (by omega)
  have hk597 : okk Y 631 10 597 := hk597.mono (by omega)
  have hk598 : okk Y 631 10 598 := hk598.mono (by omega)
  have hk599 : okk Y 631 10 599 := hk599.mono (by omega)
  have hk600 : okk Y 631 10 600 := hk600.mono (by omega)
  have hk601 : okk Y 631 10 601 := hk601.mono (by omega)
  have hk602 : okk Y 631 10 602 := hk602.mono (by omega)
  have hk603 : okk Y 631 12 603 := hk603.mono (by omega)
  have hk604 : okk Y 631 10 604 := hk604.mono (by omega)
  have hk605 : okk Y 631 10 605 := hk605.mono (by omega)
  have hk606 : okk Y 631 10 606 := hk606.mono (by omega)
  have hk607 : okk Y 631 10 607 := hk607.mono (by omega)
  have hk608 : okk Y 631 10 608 := hk608.mono (by omega)
  have hk609 : okk Y 631 10 609 := hk609.mono (by omega)
  have hk610 : okk Y 631 10 610 := hk610.mono (by omega)
  have hk611 : okk Y 631 10 611 := hk611.mono (by omega)
  have hk612 : okk Y 631 10 612 := hk612.mono (by omega)
  have hk613 : okk Y 631 10 613 := hk613.mono (by omega)
  have hk614 : okk Y 631 10 614 := hk614.mono (by omega)
  have hk615 : okk Y 631 11 615 := hk615.mono (by omega)
  have hk616 : okk Y 631 10 616 := hk616.mono (by omega)
  have hk617 : okk Y 631 10 617 := hk617.mono (by omega)
  have hk618 : okk Y 631 10 618 := hk618.mono (by omega)
  have hk619 : okk Y 631 10 619 := hk619.mono (by omega)
  have hk620 : okk Y 631 10 620 := hk620.mono (by omega)
  have hk621 : okk Y 631 11 621 := hk621.mono (by omega)
  have hk622 : okk Y 631 11 622 := hk622.mono (by omega)
  have hk623 : okk Y 631 11 623 := hk623.mono (by omega)
  have hk624 : okk Y 631 11 624 := hk624.mono (by omega)
  have hk625 : okk Y 631 10 625 := hk625.mono (by omega)
  have hk626 : okk Y 631 11 626 := hk626.mono (by omega)
  have hk627 : okk Y 631 11 627 := hk627.mono (by omega)
  have hk628 : okk Y 631 11 628 := hk628.mono (by omega)
  have hk629 : okk Y 631 11 629 := hk629.mono (by omega)
  have hk630 : okk Y 631 11 630 := hk630
  refine W.widen (k := 35) (n := 24987) (Nat.le_refl _) (Nat.le_refl _) ?_
  refine c_putF (own := RX12) (C := RX12) (T := TX12) (N := 57) (kc := 9) hx hb hts hin12 tyX12_ok nmX12 hown hK hC hS h_this (by decide) rfl 47 (by decide) hw42  rfl hin rfl (ty := tyX12 47) (tyX12_ok 47 (by decide)) rfl rfl rfl hk630.1 dX12_init_286 (fun H locs hC hS => ?_)
  refine lv_aload_n hx hb dX12_init_289 rfl (lv_at hl 0 rfl) ?_
  refine lv_bipush (v := 24) hx hb dX12_init_290 (by decide) ?_
  refine c_newl hx hb hw26 hK hC hS hY35 (k := 24) (by decide) (by decide) (Nat.le_of_ble_eq_true rfl) (Nat.le_of_ble_eq_true rfl) (Nat.le_of_ble_eq_true rfl) dX12_init_292 (fun H hC hk631 hS => ?_)
  have hC : WC z 632 D cy Y (Mm.sr (Mm.sr (Mm.sr (Mm.sr (Mm.sr (Mm.sr (Mm.sr (Mm.sr (Mm.sr (Mm.sr (Mm.sr (Mm.sr (Mm.sr (Mm.sr (Mm.sr (Mm.sr (Mm.sr (Mm.sr (Mm.sr (Mm.sr (Mm.sr (Mm.sr (Mm.sr (Mm.sr (Mm.sr (Mm.sr (Mm.sr (Mm.sr (Mm.si (Mm.sr (Mm.sr (Mm.sr (Mm.sr (Mm.sr (Mm.sr (Mm.sr σ 595 0 596) 595 1 597) 595 2 598) 595 3 599) 595 4 600) 595 5 601) 595 6 602) 595 8 2000000) 595 9 603) 595 10 604) 595 11 605) 595 12 606) 595 13 607) 595 14 608) 595 15 609) 595 16 610) 595 17 611) 595 18 612) 595 19 613) 595 21 614) 595 28 615) 595 30 616) 595 31 617) 595 35 618) 595 36 619) 595 37 620) 595 38 621) 595 39 622) 595 40 623) 595 41 624) 595 42 625) 595 43 626) 595 44 627) 595 45 628) 595 46 629) 595 47 630) H := hC
  have h_this : okk Y 632 9 595 := h_this.mono (by omega)
  have hk596 : okk Y 632 10 596 := hk596.mono (by omega)
  have hk597 : okk Y 632 10 597 := hk597.mono (by omega)
  have hk598 : okk Y 632 10 598 := hk598.mono (by omega)
  have hk599 : okk Y 632 10 599 := hk599.mono (by omega)
  have hk600 : okk Y 632 10 600 := hk600.mono (by omega)
  have hk601 : okk Y 632 10 601 := hk601.mono (by omega)
  have hk602 : okk Y 632 10 602 := hk602.mono (by omega)
  have hk603 : okk Y 632 12 603 := hk603.mono (by omega)
  have hk604 : okk Y 632 10 604 := hk604.mono (by omega)
  have hk605 : okk Y 632 10 605 := hk605.mono (by omega)
  have hk606 : okk Y 632 10 606 := hk606.mono (by omega)
  have hk607 : okk Y 632 10 607 := hk607.mono (by omega)
  have hk608 : okk Y 632 10 608 := hk608.mono (by omega)
  have hk609 : okk Y 632 10 609 := hk609.mono (by omega)
  have hk610 : okk Y 632 10 610 := hk610.mono (by omega)
  have hk611 : okk Y 632 10 611 := hk611.mono (by omega)
  have hk612 : okk Y 632 10 612 := hk612.mono (by omega)
  have hk613 : okk Y 632 10 613 := hk613.mono (by omega)
  have hk614 : okk Y 632 10 614 := hk614.mono (by omega)
  have hk615 : okk Y 632 11 615 := hk615.mono (by omega)
  have hk616 : okk Y 632 10 616 := hk616.mono (by omega)
  have hk617 : okk Y 632 10 617 := hk617.mono (by omega)
  have hk618 : okk Y 632 10 618 := hk618.mono (by omega)
  have hk619 : okk Y 632 10 619 := hk619.mono (by omega)
  have hk620 : okk Y 632 10 620 := hk620.mono (by omega)
  have hk621 : okk Y 632 11 621 := hk621.mono (by omega)
  have hk622 : okk Y 632 11 622 := hk622.mono (by omega)
  have hk623 : okk Y 632 11 623 := hk623.mono (by omega)
  have hk624 : okk Y 632 11 624 := hk624.mono (by omega)
  have hk625 : okk Y 632 10 625 := hk625.mono (by omega)
  have hk626 : okk Y 632 11 626 := hk626.mono (by omega)
  have hk627 : okk Y 632 11 627 := hk627.mono (by omega)
  have hk628 : okk Y 632 11 628 := hk628.mono (by omega)
  have hk629 : okk Y 632 11 629 := hk629.mono (by omega)
  have hk630 : okk Y 632 11 630 := hk630.mono (by omega)
  have hk631 : okk Y 632 11 631 := hk631
  refine W.widen (k := 36) (n := 25011) (Nat.le_refl _) (Nat.le_refl _) ?_
  refine c_putF (own := RX12) (C := RX12) (T := TX12) (N := 57) (kc := 9) hx hb hts hin12 tyX12_ok nmX12 hown hK hC hS h_this (by decide) rfl 48 (by decide) hw43  rfl hin rfl (ty := tyX12 48) (tyX12_ok 48 (by decide)) rfl rfl rfl hk631.1 dX12_init_294 (fun H locs hC hS => ?_)
  refine lv_aload_n hx hb dX12_init_297 rfl (lv_at hl 0 rfl) ?_
  refine lv_bipush (v := 7) hx hb dX12_init_298 (by decide) ?_
  refine c_newi hx hb hw3 hK hC hS hY36 (k := 7) (by decide) (by decide) (Nat.le_of_ble_eq_true rfl) (Nat.le_of_ble_eq_true rfl) (Nat.le_of_ble_eq_true rfl) dX12_init_300 (fun H hC hk632 hS => ?_)
  have hC : WC z 633 D cy Y (Mm.sr (Mm.sr (Mm.sr (Mm.sr (Mm.sr (Mm.sr (Mm.sr (Mm.sr (Mm.sr (Mm.sr (Mm.sr (Mm.sr (Mm.sr (Mm.sr (Mm.sr (Mm.sr (Mm.sr (Mm.sr (Mm.sr (Mm.sr (Mm.sr (Mm.sr (Mm.sr (Mm.sr (Mm.sr (Mm.sr (Mm.sr (Mm.sr (Mm.sr (Mm.si (Mm.sr (Mm.sr (Mm.sr (Mm.sr (Mm.sr (Mm.sr (Mm.sr σ 595 0 596) 595 1 597) 595 2 598) 595 3 599) 595 4 600) 595 5 601) 595 6 602) 595 8 2000000) 595 9 603) 595 10 604) 595 11 605) 595 12 606) 595 13 607) 595 14 608) 595 15 609) 595 16 610) 595 17 611) 595 18 612) 595 19 613) 595 21 614) 595 28 615) 595 30 616) 595 31 617) 595 35 618) 595 36 619) 595 37 620) 595 38 621) 595 39 622) 595 40 623) 595 41 624) 595 42 625) 595 43 626) 595 44 627) 595 45 628) 595 46 629) 595 47 630) 595 48 631) H := hC
  have h_this : okk Y 633 9 595 := h_this.mono (by omega)
  have hk596 : okk Y 633 10 596 := hk596.mono (by omega)
  have hk597 : okk Y 633 10 597 := hk597.mono (by omega)
  have hk598 : okk Y 633 10 598 := hk598.mono (by omega)
  have hk599 : okk Y 633 10 599 := hk599.mono (by omega)
  have hk600 : okk Y 633 10 600 := hk600.mono (by omega)
  have hk601 : okk Y 633 10 601 := hk601.mono (by omega)
  have hk602 : okk Y 633 10 602 := hk602.mono (by omega)
  have hk603 : okk Y 633 12 603 := hk603.mono (by omega)
  have hk604 : okk Y 633 10 604 := hk604.mono (by omega)
  have hk605 : okk Y 633 10 605 := hk605.mono (by omega)
  have hk606 : okk Y 633 10 606 := hk606.mono (by omega)
  have hk607 : okk Y 633 10 607 := hk607.mono (by omega)
  have hk608 : okk Y 633 10 608 := hk608.mono (by omega)
  have hk609 : okk Y 633 10 609 := hk609.mono (by omega)
  have hk610 : okk Y 633 10 610 := hk610.mono (by omega)
  have hk611 : okk Y 633 10 611 := hk611.mono (by omega)
  have hk612 : okk Y 633 10 612 := hk612.mono (by omega)
  have hk613 : okk Y 633 10 613 := hk613.mono (by omega)
  have hk614 : okk Y 633 10 614 := hk614.mono (by omega)
  have hk615 : okk Y 633 11 615 := hk615.mono (by omega)
  have hk616 : okk Y 633 10 616 := hk616.mono (by omega)
  have hk617 : okk Y 633 10 617 := hk617.mono (by omega)
  have hk618 : okk Y 633 10 618 := hk618.mono (by omega)
  have hk619 : okk Y 633 10 619 := hk619.mono (by omega)
  have hk620 : okk Y 633 10 620 := hk620.mono (by omega)
  have hk621 : okk Y 633 11 621 := hk621.mono (by omega)
  have hk622 : okk Y 633 11 622 := hk622.mono (by omega)
  have hk623 : okk Y 633 11 623 := hk623.mono (by omega)
  have hk624 : okk Y 633 11 624 := hk624.mono (by omega)
  have hk625 : okk Y 633 10 625 := hk625.mono (by omega)
  have hk626 : okk Y 633 11 626 := hk626.mono (by omega)
  have hk627 : okk Y 633 11 627 := hk627.mono (by omega)
  have hk628 : okk Y 633 11 628 := hk628.mono (by omega)
  have hk629 : okk Y 633 11 629 := hk629.mono (by omega)
  have hk630 : okk Y 633 11 630 := hk630.mono (by omega)
  have hk631 : okk Y 633 11 631 := hk631.mono (by omega)
  have hk632 : okk Y 633 10 632 := hk632
  refine W.widen (k := 37) (n := 25018) (Nat.le_refl _) (Nat.le_refl _) ?_
  refine c_putF (own := RX12) (C := RX12) (T := TX12) (N := 57) (kc := 9) hx hb hts hin12 tyX12_ok nmX12 hown hK hC hS h_this (by decide) rfl 52 (by decide) hw44  rfl hin rfl (ty := tyX12 52) (tyX12_ok 52 (by decide)) rfl rfl rfl hk632.1 dX12_init_302 (fun H locs hC hS => ?_)
  refine lv_aload_n hx hb dX12_init_305 rfl (lv_at hl 0 rfl) ?_
  refine lv_bipush (v := 7) hx hb dX12_init_306 (by decide) ?_
  refine c_newi hx hb hw3 hK hC hS hY37 (k := 7) (by decide) (by decide) (Nat.le_of_ble_eq_true rfl) (Nat.le_of_ble_eq_true rfl) (Nat.le_of_ble_eq_true rfl) dX12_init_308 (fun H hC hk633 hS => ?_)
  have hC : WC z 634 D cy Y (Mm.sr (Mm.sr (Mm.sr (Mm.sr (Mm.sr (Mm.sr (Mm.sr (Mm.sr (Mm.sr (Mm.sr (Mm.sr (Mm.sr (Mm.sr (Mm.sr (Mm.sr (Mm.sr (Mm.sr (Mm.sr (Mm.sr (Mm.sr (Mm.sr (Mm.sr (Mm.sr (Mm.sr (Mm.sr (Mm.sr (Mm.sr (Mm.sr (Mm.sr (Mm.sr (Mm.si (Mm.sr (Mm.sr (Mm.sr (Mm.sr (Mm.sr (Mm.sr (Mm.sr σ 595 0 596) 595 1 597) 595 2 598) 595 3 599) 595 4 600) 595 5 601) 595 6 602) 595 8 2000000) 595 9 603) 595 10 604) 595 11 605) 595 12 606) 595 13 607) 595 14 608) 595 15 609) 595 16 610) 595 17 611) 595 18 612) 595 19 613) 595 21 614) 595 28 615) 595 30 616) 595 31 617) 595 35 618) 595 36 619) 595 37 620) 595 38 621) 595 39 622) 595 40 623) 595 41 624) 595 42 625) 595 43 626) 595 44 627) 595 45 628) 595 46 629) 595 47 630) 595 48 631) 595 52 632) H := hC
  have h_this : okk Y 634 9 595 := h_this.mono (by omega)
  have hk596 : okk Y 634 10 596 := hk596.mono (by omega)
  have hk597 : okk Y 634 10 597 := hk597.mono (by omega)
  have hk598 : okk Y 634 10 598 := hk598.mono (by omega)
  have hk599 : okk Y 634 10 599 := hk599.mono (by omega)
  have hk600 : okk Y 634 10 600 := hk600.mono (by omega)
  have hk601 : okk Y 634 10 601 := hk601.mono (by omega)
  have hk602 : okk Y 634 10 602 := hk602.mono (by omega)
  have hk603 : okk Y 634 12 603 := hk603.mono (by omega)
  have hk604 : okk Y 634 10 604 := hk604.mono (by omega)
  have hk605 : okk Y 634 10 605 := hk605.mono (by omega)
  have hk606 : okk Y 634 10 606 := hk606.mono (by omega)
  have hk607 : okk Y 634 10 607 := hk607.mono (by omega)
  have hk608 : okk Y 634 10 608 := hk608.mono (by omega)
  have hk609 : okk Y 634 10 609 := hk609.mono (by omega)
  have hk610 : okk Y 634 10 610 := hk610.mono (by omega)
  have hk611 : okk Y 634 10 611 := hk611.mono (by omega)
  have hk612 : okk Y 634 10 612 := hk612.mono (by omega)
  have hk613 : okk Y 634 10 613 := hk613.mono (by omega)
  have hk614 : okk Y 634 10 614 := hk614.mono (by omega)
  have hk615 : okk Y 634 11 615 := hk615.mono (by omega)
  have hk616 : okk Y 634 10 616 := hk616.mono (by omega)
  have hk617 : okk Y 634 10 617 := hk617.mono (by omega)
  have hk618 : okk Y 634 10 618 := hk618.mono (by omega)
  have hk619 : okk Y 634 10 619 := hk619.mono (by omega)
  have hk620 : okk Y 634 10 620 := hk620.mono (by omega)
  have hk621 : okk Y 634 11 621 := hk621.mono (by omega)
  have hk622 : okk Y 634 11 622 := hk622.mono (by omega)
  have hk623 : okk Y 634 11 623 := hk623.mono (by omega)
  have hk624 : okk Y 634 11 624 := hk624.mono (by omega)
  have hk625 : okk Y 634 10 625 := hk625.mono (by omega)
  have hk626 : okk Y 634 11 626 := hk626.mono (by omega)
  have hk627 : okk Y 634 11 627 := hk627.mono (by omega)
  have hk628 : okk Y 634 11 628 := hk628.mono (by omega)
  have hk629 : okk Y 634 11 629 := hk629.mono (by omega)
  have hk630 : okk Y 634 11 630 := hk630.mono (by omega)
  have hk631 : okk Y 634 11 631 := hk631.mono (by omega)
  have hk632 : okk Y 634 10 632 := hk632.mono (by omega)
  have hk633 : okk Y 634 10 633 := hk633
  refine W.widen (k := 38) (n := 25025) (Nat.le_refl _) (Nat.le_refl _) ?_
  refine c_putF (own := RX12) (C := RX12) (T := TX12) (N := 57) (kc := 9) hx hb hts hin12 tyX12_ok nmX12 hown hK hC hS h_this (by decide) rfl 53 (by decide) hw45  rfl hin rfl (ty := tyX12 53) (tyX12_ok 53 (by decide)) rfl rfl rfl hk633.1 dX12_init_310 (fun H locs hC hS => ?_)
  refine lv_aload_n hx hb dX12_init_313 rfl (lv_at hl 0 rfl) ?_
  refine lv_sipush (v := 2304) hx hb dX12_init_314 (by decide) ?_
  refine c_newi hx hb hw3 hK hC hS hY38 (k := 2304) (by decide) (by decide) (Nat.le_of_ble_eq_true rfl) (Nat.le_of_ble_eq_true rfl) (Nat.le_of_ble_eq_true rfl) dX12_init_317 (fun H hC hk634 hS => ?_)
  have hC : WC z 635 D cy Y (Mm.sr (Mm.sr (Mm.sr (Mm.sr (Mm.sr (Mm.sr (Mm.sr (Mm.sr (Mm.sr (Mm.sr (Mm.sr (Mm.sr (Mm.sr (Mm.sr (Mm.sr (Mm.sr (Mm.sr (Mm.sr (Mm.sr (Mm.sr (Mm.sr (Mm.sr (Mm.sr (Mm.sr (Mm.sr (Mm.sr (Mm.sr (Mm.sr (Mm.sr (Mm.sr (Mm.sr (Mm.si (Mm.sr (Mm.sr (Mm.sr (Mm.sr (Mm.sr (Mm.sr (Mm.sr σ 595 0 596) 595 1 597) 595 2 598) 595 3 599) 595 4 600) 595 5 601) 595 6 602) 595 8 2000000) 595 9 603) 595 10 604) 595 11 605) 595 12 606) 595 13 607) 595 14 608) 595 15 609) 595 16 610) 595 17 611) 595 18 612) 595 19 613) 595 21 614) 595 28 615) 595 30 616) 595 31 617) 595 35 618) 595 36 619) 595 37 620) 595 38 621) 595 39 622) 595 40 623) 595 41 624) 595 42 625) 595 43 626) 595 44 627) 595 45 628) 595 46 629) 595 47 630) 595 48 631) 595 52 632) 595 53 633) H := hC
  have h_this : okk Y 635 9 595 := h_this.mono (by omega)
  have hk596 : okk Y 635 10 596 := hk596.mono (by omega)
  have hk597 : okk Y 635 10 597 := hk597.mono (by omega)
  have hk598 : okk Y 635 10 598 := hk598.mono (by omega)
  have hk599 : okk Y 635 10 599 := hk599.mono (by omega)
  have hk600 : okk Y 635 10 600 := hk600.mono (by omega)
  have hk601 : okk Y 635 10 601 := hk601.mono (by omega)
  have hk602 : okk Y 635 10 602 := hk602.mono (by omega)
  have hk603 : okk Y 635 12 603 := hk603.mono (by omega)
  have hk604 : okk Y 635 10 604 := hk604.mono (by omega)
  have hk605 : okk Y 635 10 605 := hk605.mono (by omega)
  have hk606 : okk Y 635 10 606 := hk606.mono (by omega)
  have hk607 : okk Y 635 10 607 := hk607.mono (by omega)
  have hk608 : okk Y 635 10 608 := hk608.mono (by omega)
  have hk609 : okk Y 635 10 609 := hk609.mono (by omega)
  have hk610 : okk Y 635 10 610 := hk610.mono (by omega)
  have hk611 : okk Y 635 10 611 := hk611.mono (by omega)
  have hk612 : okk Y 635 10 612 := hk612.mono (by omega)
  have hk613 : okk Y 635 10 613 := hk613.mono (by omega)
  have hk614 : okk Y 635 10 614 := hk614.mono (by omega)
  have hk615 : okk Y 635 11 615 := hk615.mono (by omega)
  have hk616 : okk Y 635 10 616 := hk616.mono (by omega)
  have hk617 : okk Y 635 10 617 := hk617.mono (by omega)
  have hk618 : okk Y 635 10 618 := hk618.mono (by omega)
  have hk619 : okk Y 635 10 619 := hk619.mono (by omega)
  have hk620 : okk Y 635 10 620 := hk620.mono (by omega)
  have hk621 : okk Y 635 11 621 := hk621.mono (by omega)
  have hk622 : okk Y 635 11 622 := hk622.mono (by omega)
  have hk623 : okk Y 635 11 623 := hk623.mono (by omega)
  have hk624 : okk Y 635 11 624 := hk624.mono (by omega)
  have hk625 : okk Y 635 10 625 := hk625.mono (by omega)
  have hk626 : okk Y 635 11 626 := hk626.mono (by omega)
  have hk627 : okk Y 635 11 627 := hk627.mono (by omega)
  have hk628 : okk Y 635 11 628 := hk628.mono (by omega)
  have hk629 : okk Y 635 11 629 := hk629.mono (by omega)
  have hk630 : okk Y 635 11 630 := hk630.mono (by omega)
  have hk631 : okk Y 635 11 631 := hk631.mono (by omega)
  have hk632 : okk Y 635 10 632 := hk632.mono (by omega)
  have hk633 : okk Y 635 10 633 := hk633.mono (by omega)
  have hk634 : okk Y 635 10 634 := hk634
  refine W.widen (k := 39) (n := 27329) (Nat.le_refl _) (Nat.le_refl _) ?_
  refine c_putF (own := RX12) (C := RX12) (T := TX12) (N := 57) (kc := 9) hx hb hts hin12 tyX12_ok nmX12 hown hK hC hS h_this (by decide) rfl 55 (by decide) hw46  rfl hin rfl (ty := tyX12 55) (tyX12_ok 55 (by decide)) rfl rfl rfl hk634.1 dX12_init_319 (fun H locs hC hS => ?_)
  exact c_ret hx hb hr hlocks hC hS dX12_init_322
