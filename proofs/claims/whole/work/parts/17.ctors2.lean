def frow (σ : Mm) (a base i : Nat) : Mm := (σ.1, σ.2.1, fun o k => if o = a then (if k < i then base + k else σ.2.2 o k) else σ.2.2 o k)
theorem frow_0 (σ : Mm) (a base : Nat) : frow σ a base 0 = σ := by
  unfold frow
  have h : (fun o k => if o = a then (if k < 0 then base + k else σ.2.2 o k) else σ.2.2 o k) = σ.2.2 := by
    funext o k
    simp
  rw [h]
theorem frow_s (σ : Mm) (a base i : Nat) : frow σ a base (i + 1) = Mm.sr (frow σ a base i) a i (base + i) := by
  unfold frow Mm.sr
  have h : (fun o k => if o = a then (if k < i + 1 then base + k else σ.2.2 o k) else σ.2.2 o k) = Mm.u2 (fun o k => if o = a then (if k < i then base + k else σ.2.2 o k) else σ.2.2 o k) a i (base + i) := by
    funext o k
    unfold Mm.u2
    by_cases h1 : o = a
    · by_cases h2 : k = i
      · subst h2; simp [h1]
      · by_cases h3 : k < i
        · simp [h1, h2, h3, Nat.lt_succ_of_lt h3]
        · simp [h1, h2, h3, show ¬ k < i + 1 by omega]
    · simp [h1]
  rw [h]
theorem inb_nI {i n : Nat} (h : i < n) (hn : n < 2 ^ 31) : inb (nI i) n = true := by
  have h1 := vp_in_nI h hn
  simp only [inb, Bool.and_eq_true, Bool.not_eq_true', decide_eq_false_iff_not, decide_eq_true_eq]
  refine ⟨fun q => h1 (Or.inl q), ?_⟩
  rcases Nat.lt_or_ge (nI i).toNatClampNeg n with q | q
  · exact q
  · exact absurd (Or.inr q) h1
def i_X0_init (σ : Mm) : Mm := frow (frow (Mm.sr (Mm.sr (Mm.sr (Mm.sr (Mm.sr (Mm.sr (Mm.sr (Mm.sr σ 17 5 18) 17 6 19) 17 7 20) 17 8 21) 17 9 22) 17 10 23) 17 11 24) 17 12 25) 23 26 24) 25 50 500
set_option maxRecDepth 100000 in
set_option maxHeartbeats 40000000 in
theorem k_X0_init (l : Launch) (z : Nat) (D : va_G) (cy : Nat → ClassId) (Y : Yt) {σ : Mm} (h_this : okk Y 18 0 17) (hY0 : Y 18 = (10, 24)) (hY1 : Y 19 = (10, 24)) (hY2 : Y 20 = (10, 24)) (hY3 : Y 21 = (11, 24)) (hY4 : Y 22 = (11, 24)) (hY5 : Y 23 = (13, 24)) (hY6 : Y 24 = (10, 12000)) (hY7 : Y 25 = (13, 500)) (hYP : ∀ j, 26 ≤ j → j < 550 → Y j = (3, 0)) : Kc l yX0_init wsX0_init ({ frames := 2, cells := 532, slots := 14740, locals := 40 } : Room) z D cy Y [.ref (z + 17)] 18 σ 550 (i_X0_init σ) 532 14740 := by
  refine Met.ofW (cc := cX0_init) (maxL := 2) (ret := none) (by decide +kernel) rfl ?_
  intro p e s m args below meth c s₁ B hml hv
  obtain ⟨rfl, hC, hK, hN, hO⟩ := hv
  have hx := B.exec
  have hb := B.bytes
  have hr := B.returns
  have hts := atoms_spec (ws := wsX0_init) B.pre
  have hown : s.vm.findClass RX0 = some m.cls := findClass_of_methodNamed B.named
  have hlocks := B.notSynchronized
  have hin : meth.name = "<init>" := (name_of_methodNamed B.named B.method).1
  have hS : va_S (Az z) s.heap s.heap [] := va_S.rf
  have hin0 : ∀ w ∈ wsX00, w ∈ wsX0_init := fun w h => List.mem_cons_of_mem _ (List.mem_append_left _ (List.mem_append_right _ h))
  have hin5 : ∀ w ∈ wsX50, w ∈ wsX0_init := fun w h => List.mem_cons_of_mem _ (List.mem_append_right _ h)
  have hw0 := hts (.methodLink RX0 3 objectInit) (List.mem_of_getElem? (i := 1) rfl)
  have hw1 := hts (.instanceMethod objectInit) (List.mem_of_getElem? (i := 2) rfl)
  have hw2 := hts (.code objectInit ⟨#[0xb1]⟩ 1 none) (List.mem_of_getElem? (i := 3) rfl)
  have hw3 := hts (.arrayClass .int) (List.mem_of_getElem? (i := 4) rfl)
  have hw4 := hts (.fieldLink RX0 9 "SkyClocks$Carried" "times" "[I") (List.mem_of_getElem? (i := 5) rfl)
  have hw5 := hts (.fieldLink RX0 15 "SkyClocks$Carried" "errs" "[I") (List.mem_of_getElem? (i := 6) rfl)
  have hw6 := hts (.fieldLink RX0 18 "SkyClocks$Carried" "row" "[I") (List.mem_of_getElem? (i := 7) rfl)
  have hw7 := hts (.arrayClass .long) (List.mem_of_getElem? (i := 8) rfl)
  have hw8 := hts (.fieldLink RX0 21 "SkyClocks$Carried" "nextCounts" "[J") (List.mem_of_getElem? (i := 9) rfl)
  have hw9 := hts (.fieldLink RX0 25 "SkyClocks$Carried" "lastCounts" "[J") (List.mem_of_getElem? (i := 10) rfl)
  have hw10 := hts (.classLink RX0 28 RX5) (List.mem_of_getElem? (i := 11) rfl)
  have hw11 := hts (.fieldLink RX0 30 "SkyClocks$Carried" "allowed" "[LSkyClocks$Periods;") (List.mem_of_getElem? (i := 12) rfl)
  have hw12 := hts (.fieldLink RX0 34 "SkyClocks$Carried" "counts" "[I") (List.mem_of_getElem? (i := 13) rfl)
  have hw13 := hts (.fieldLink RX0 37 "SkyClocks$Carried" "periods" "[LSkyClocks$Periods;") (List.mem_of_getElem? (i := 14) rfl)
  have hw14 := hts (.instantiable RX5 4) (List.mem_of_getElem? (i := 15) rfl)
  have hw15 := hts (.initialized RX5) (List.mem_of_getElem? (i := 16) rfl)
  have hw16 : va_Nw (.methodLinkNest RX0 40 yX5_init "SkyClocks") s := hN _ (List.mem_of_getElem? (i := 16) rfl)
  have hw17 := hts (.instanceMethod yX5_init) (List.mem_of_getElem? (i := 17) rfl)
  have hl := lv_entry ([.ref (z + 17)]) (n := 2) (Nat.le_of_ble_eq_true rfl)
  rw [lg_entry_eq]
  generalize (lg_sl ([.ref (z + 17)]) ++ List.replicate (2 - (lg_sl ([.ref (z + 17)])).length) Slot.unset).toArray = ls at hl ⊢
  have hl : lv_has ls 2 [(0, .ref (z + 17))] := hl
  have hC : WC z 18 D cy Y σ s.heap := hC
  obtain ⟨σa, eσa⟩ : ∃ y : Mm, y = (Mm.sr (Mm.sr (Mm.sr (Mm.sr (Mm.sr (Mm.sr (Mm.sr (Mm.sr σ 17 5 18) 17 6 19) 17 7 20) 17 8 21) 17 9 22) 17 10 23) 17 11 24) 17 12 25) := ⟨_, rfl⟩
  have hp23 : ∀ {i : Nat}, (frow σa 23 26 i).2.2 17 10 = 23 := fun {i} => by rw [eσa]; rfl
  have hp25 : ∀ {i : Nat}, (frow (frow σa 23 26 24) 25 50 i).2.2 17 12 = 25 := fun {i} => by rw [eσa]; rfl
  have E2 : ∀ (H : Heap) (locs : List Loc) (ls : Array Slot), WC z (50 + 500) D cy Y (frow (frow σa 23 26 24) 25 50 500) H → va_S (Az z) s.heap H locs → lv_has ls 2 [(0, .ref (z + 17))] → W p l e ({ frames := 2, cells := 532, slots := 14740, locals := 40 } : Room) s m ([.ref (z + 17)] : List Value).toArray below meth c H locs (32 + 500) (12740 + 4 * 500) (MQ below (va_Qv (fun (_ : Unit) => True) (fun _ t => WC z 550 D cy Y (i_X0_init σ) t.heap) (Az z)) ([.ref (z + 17)] : List Value).toArray s 532 14740 (Az z)) (F0 m 127 ls []) := by
    intro H locs ls hC hS hl
    exact c_ret hx hb hr hlocks (n1 := 550) (σ1 := i_X0_init σ) (by rw [eσa] at hC; exact hC) hS dX0_init_127
  have L2 : ∀ (d i : Nat), i + d = 500 → ∀ (x : Int32), x = nI i → ∀ (H : Heap) (locs : List Loc) (ls : Array Slot), WC z (50 + i) D cy Y (frow (frow σa 23 26 24) 25 50 i) H → va_S (Az z) s.heap H locs → lv_has ls 2 [(1, .int x), (0, .ref (z + 17))] → W p l e ({ frames := 2, cells := 532, slots := 14740, locals := 40 } : Room) s m ([.ref (z + 17)] : List Value).toArray below meth c H locs (32 + i) (12740 + 4 * i) (MQ below (va_Qv (fun (_ : Unit) => True) (fun _ t => WC z 550 D cy Y (i_X0_init σ) t.heap) (Az z)) ([.ref (z + 17)] : List Value).toArray s 532 14740 (Az z)) (F0 m 101 ls []) := by
    intro d
    induction d with
    | zero =>
      intro i hi x hxi H locs ls hC hS hl
      have hi2 : i = 500 := by omega
      subst hi2
      refine lv_iload_n hx hb dX0_init_101 rfl (lv_at hl 0 rfl) ?_
      refine lv_sipush (v := 500) hx hb dX0_init_102 (by decide) ?_
      refine lv_icmp_ge (tgt := 127) hx hb dX0_init_105 (by decide) (fun _ => ?_) (fun c => absurd (by rw [hxi]; decide) c)
      exact E2 H locs ls hC hS (lv_sub hl [1] rfl)
    | succ d ih =>
      intro i hi x hxi H locs ls hC hS hl
      refine lv_iload_n hx hb dX0_init_101 rfl (lv_at hl 0 rfl) ?_
      refine lv_sipush (v := 500) hx hb dX0_init_102 (by decide) ?_
      refine lv_icmp_ge (tgt := 127) hx hb dX0_init_105 (by decide) (fun c => absurd (show nI 500 ≤ nI i by rw [← hxi]; exact c) (nI_ge (by omega) (by decide))) (fun _ => ?_)
      have hg : okk Y (50 + i) 0 17 := h_this.mono (by omega)
      have ha : okk Y (50 + i) 13 25 := ⟨by decide, by omega, by rw [hY7]⟩
      refine lv_aload_n hx hb dX0_init_108 rfl (lv_at hl 1 rfl) ?_
      refine c_getr (own := RX0) (C := RX0) (T := TX0) (N := 13) (kc := 0) (v := 25) hx hb hts hin0 hown hK hC hg (by decide) rfl 12 (by decide) hw13 rfl hp25 (Nat.le_of_ble_eq_true rfl) dX0_init_109 ?_
      refine lv_iload_n hx hb dX0_init_112 rfl (lv_at hl 0 rfl) ?_
      refine c_new (C := RX5) (T := TX5) (N := 4) (kc := 3) hx hb hts hin5 tyX5 tyX5_ok hown hw10 hw14 hw15 hK hC hS rfl (by decide) (hYP (50 + i) (by omega) (by omega)) (by decide +kernel) (show 32 + i + 1 ≤ 532 by omega) (show 12740 + 4 * i + 4 ≤ 14740 by omega) dX0_init_113 (fun H hC hk hS => ?_)
      refine lv_dup hx hb dX0_init_116 rfl ?_
      refine W.widen (k := 32 + (i + 1)) (n := 12740 + 4 * (i + 1)) (by omega) (by omega) ?_
      refine c_call (va_runIN (As := []) (rest := [.ref (z + (50 + i)), .int x, .ref (z + 25)]) ⟨hx, hb, hml, hown, hts⟩ (k_X5_init l z D cy Y hk) ⟨va_cnB (host := "SkyClocks") 0 hts gX0_init_X5_init_n40 rfl rfl rfl hw16 hw15 (by decide +kernel) ⟨Nat.le_of_ble_eq_true rfl, Nat.le_of_ble_eq_true rfl⟩, rfl, hw17⟩ (c_PS hK hN hO hC) rfl rfl hl.1 rfl (lv_room (Nat.le_of_ble_eq_true rfl)) dX0_init_117 ⟨show 32 + (i + 1) + 0 ≤ 532 by omega, show 12740 + 4 * (i + 1) + 0 ≤ 14740 by omega⟩) hS (fun H locs hC hS => ?_)
      have hC : WC z (50 + i + 1) D cy Y (frow (frow σa 23 26 24) 25 50 i) H := hC
      refine c_aast (kc := 13) (t := 3) hx hb hK hC hS (ha.mono (by omega)) (by decide) hk (by decide) rfl rfl (by rw [hY7, hxi]; exact inb_nI (by omega) (by decide)) dX0_init_120 (fun H locs hC hS => ?_)
      rw [hxi, show ix (nI i) = i from nI_clamp (by omega), ← frow_s] at hC
      refine lv_iinc (v := nI (i + 1)) (lv' := [(1, .int (nI (i + 1))), (0, .ref (z + 17))]) hx hb dX0_init_121 hl (k := 0) rfl (by rw [hxi]; exact nI_1 i) (by decide) rfl (fun ls hl => ?_)
      refine lv_goto (tgt := 101) hx hb dX0_init_124 (by decide) ?_
      exact ih (i + 1) (by omega) _ rfl H locs ls hC hS hl
  have E1 : ∀ (H : Heap) (locs : List Loc) (ls : Array Slot), WC z (26 + 24) D cy Y (frow σa 23 26 24) H → va_S (Az z) s.heap H locs → lv_has ls 2 [(0, .ref (z + 17))] → W p l e ({ frames := 2, cells := 532, slots := 14740, locals := 40 } : Room) s m ([.ref (z + 17)] : List Value).toArray below meth c H locs (8 + 24) (12644 + 4 * 24) (MQ below (va_Qv (fun (_ : Unit) => True) (fun _ t => WC z 550 D cy Y (i_X0_init σ) t.heap) (Az z)) ([.ref (z + 17)] : List Value).toArray s 532 14740 (Az z)) (F0 m 99 ls []) := by
    intro H locs ls hC hS hl
    refine lv_iconst (v := 0) hx hb dX0_init_99 (by decide) ?_
    refine lv_istore_n (lv' := [(1, .int 0), (0, .ref (z + 17))]) hx hb dX0_init_100 rfl hl (by decide) rfl (fun ls hl => ?_)
    exact L2 500 0 (by omega) 0 rfl H locs ls (by rw [frow_0]; exact hC) hS hl
  have L1 : ∀ (d i : Nat), i + d = 24 → ∀ (x : Int32), x = nI i → ∀ (H : Heap) (locs : List Loc) (ls : Array Slot), WC z (26 + i) D cy Y (frow σa 23 26 i) H → va_S (Az z) s.heap H locs → lv_has ls 2 [(1, .int x), (0, .ref (z + 17))] → W p l e ({ frames := 2, cells := 532, slots := 14740, locals := 40 } : Room) s m ([.ref (z + 17)] : List Value).toArray below meth c H locs (8 + i) (12644 + 4 * i) (MQ below (va_Qv (fun (_ : Unit) => True) (fun _ t => WC z 550 D cy Y (i_X0_init σ) t.heap) (Az z)) ([.ref (z + 17)] : List Value).toArray s 532 14740 (Az z)) (F0 m 74 ls []) := by
    intro d
    induction d with
    | zero =>
      intro i hi x hxi H locs ls hC hS hl
      have hi2 : i = 24 := by omega
      subst hi2
      refine lv_iload_n hx hb dX0_init_74 rfl (lv_at hl 0 rfl) ?_
      refine lv_bipush (v := 24) hx hb dX0_init_75 (by decide) ?_
      refine lv_icmp_ge (tgt := 99) hx hb dX0_init_77 (by decide) (fun _ => ?_) (fun c => absurd (by rw [hxi]; decide) c)
      exact E1 H locs ls hC hS (lv_sub hl [1] rfl)
    | succ d ih =>
      intro i hi x hxi H locs ls hC hS hl
      refine lv_iload_n hx hb dX0_init_74 rfl (lv_at hl 0 rfl) ?_
      refine lv_bipush (v := 24) hx hb dX0_init_75 (by decide) ?_
      refine lv_icmp_ge (tgt := 99) hx hb dX0_init_77 (by decide) (fun c => absurd (show nI 24 ≤ nI i by rw [← hxi]; exact c) (nI_ge (by omega) (by decide))) (fun _ => ?_)
      have hg : okk Y (26 + i) 0 17 := h_this.mono (by omega)
      have ha : okk Y (26 + i) 13 23 := ⟨by decide, by omega, by rw [hY5]⟩
      refine lv_aload_n hx hb dX0_init_80 rfl (lv_at hl 1 rfl) ?_
      refine c_getr (own := RX0) (C := RX0) (T := TX0) (N := 13) (kc := 0) (v := 23) hx hb hts hin0 hown hK hC hg (by decide) rfl 10 (by decide) hw11 rfl hp23 (Nat.le_of_ble_eq_true rfl) dX0_init_81 ?_
      refine lv_iload_n hx hb dX0_init_84 rfl (lv_at hl 0 rfl) ?_
      refine c_new (C := RX5) (T := TX5) (N := 4) (kc := 3) hx hb hts hin5 tyX5 tyX5_ok hown hw10 hw14 hw15 hK hC hS rfl (by decide) (hYP (26 + i) (by omega) (by omega)) (by decide +kernel) (show 8 + i + 1 ≤ 532 by omega) (show 12644 + 4 * i + 4 ≤ 14740 by omega) dX0_init_85 (fun H hC hk hS => ?_)
      refine lv_dup hx hb dX0_init_88 rfl ?_
      refine W.widen (k := 8 + (i + 1)) (n := 12644 + 4 * (i + 1)) (by omega) (by omega) ?_
      refine c_call (va_runIN (As := []) (rest := [.ref (z + (26 + i)), .int x, .ref (z + 23)]) ⟨hx, hb, hml, hown, hts⟩ (k_X5_init l z D cy Y hk) ⟨va_cnB (host := "SkyClocks") 0 hts gX0_init_X5_init_n40 rfl rfl rfl hw16 hw15 (by decide +kernel) ⟨Nat.le_of_ble_eq_true rfl, Nat.le_of_ble_eq_true rfl⟩, rfl, hw17⟩ (c_PS hK hN hO hC) rfl rfl hl.1 rfl (lv_room (Nat.le_of_ble_eq_true rfl)) dX0_init_89 ⟨show 8 + (i + 1) + 0 ≤ 532 by omega, show 12644 + 4 * (i + 1) + 0 ≤ 14740 by omega⟩) hS (fun H locs hC hS => ?_)
      have hC : WC z (26 + i + 1) D cy Y (frow σa 23 26 i) H := hC
      refine c_aast (kc := 13) (t := 3) hx hb hK hC hS (ha.mono (by omega)) (by decide) hk (by decide) rfl rfl (by rw [hY5, hxi]; exact inb_nI (by omega) (by decide)) dX0_init_92 (fun H locs hC hS => ?_)
      rw [hxi, show ix (nI i) = i from nI_clamp (by omega), ← frow_s] at hC
      refine lv_iinc (v := nI (i + 1)) (lv' := [(1, .int (nI (i + 1))), (0, .ref (z + 17))]) hx hb dX0_init_93 hl (k := 0) rfl (by rw [hxi]; exact nI_1 i) (by decide) rfl (fun ls hl => ?_)
      refine lv_goto (tgt := 74) hx hb dX0_init_96 (by decide) ?_
      exact ih (i + 1) (by omega) _ rfl H locs ls hC hS hl
  refine lv_aload_n hx hb dX0_init_0 rfl (lv_at hl 0 rfl) ?_
  refine W.objInit hx hb hown hw0 hw1 hw2 rfl (by rw [hml]; exact hl.1) rfl dX0_init_1 (Nat.le_of_ble_eq_true rfl) (Nat.le_of_ble_eq_true rfl) ?_
  refine W.eq (g2 := F0 m 4 ls []) rfl ?_
  refine lv_aload_n hx hb dX0_init_4 rfl (lv_at hl 0 rfl) ?_
  refine lv_bipush (v := 24) hx hb dX0_init_5 (by decide) ?_
  refine c_newi hx hb hw3 hK hC hS hY0 (k := 24) (by decide) (by decide) (Nat.le_of_ble_eq_true rfl) (Nat.le_of_ble_eq_true rfl) (Nat.le_of_ble_eq_true rfl) dX0_init_7 (fun H hC hk18 hS => ?_)
  have hC : WC z 19 D cy Y σ H := hC
  have h_this : okk Y 19 0 17 := h_this.mono (by omega)
  have hk18 : okk Y 19 10 18 := hk18
  refine W.widen (k := 1) (n := 24) (Nat.le_refl _) (Nat.le_refl _) ?_
  refine c_putF (own := RX0) (C := RX0) (T := TX0) (N := 13) (kc := 0) hx hb hts hin0 tyX0_ok nmX0 hown hK hC hS h_this (by decide) rfl 5 (by decide) hw4  rfl hin rfl (ty := tyX0 5) (tyX0_ok 5 (by decide)) rfl rfl rfl hk18.1 dX0_init_9 (fun H locs hC hS => ?_)
  refine lv_aload_n hx hb dX0_init_12 rfl (lv_at hl 0 rfl) ?_
  refine lv_bipush (v := 24) hx hb dX0_init_13 (by decide) ?_
  refine c_newi hx hb hw3 hK hC hS hY1 (k := 24) (by decide) (by decide) (Nat.le_of_ble_eq_true rfl) (Nat.le_of_ble_eq_true rfl) (Nat.le_of_ble_eq_true rfl) dX0_init_15 (fun H hC hk19 hS => ?_)
  have hC : WC z 20 D cy Y (Mm.sr σ 17 5 18) H := hC
  have h_this : okk Y 20 0 17 := h_this.mono (by omega)
  have hk18 : okk Y 20 10 18 := hk18.mono (by omega)
  have hk19 : okk Y 20 10 19 := hk19
  refine W.widen (k := 2) (n := 48) (Nat.le_refl _) (Nat.le_refl _) ?_
  refine c_putF (own := RX0) (C := RX0) (T := TX0) (N := 13) (kc := 0) hx hb hts hin0 tyX0_ok nmX0 hown hK hC hS h_this (by decide) rfl 6 (by decide) hw5  rfl hin rfl (ty := tyX0 6) (tyX0_ok 6 (by decide)) rfl rfl rfl hk19.1 dX0_init_17 (fun H locs hC hS => ?_)
  refine lv_aload_n hx hb dX0_init_20 rfl (lv_at hl 0 rfl) ?_
  refine lv_bipush (v := 24) hx hb dX0_init_21 (by decide) ?_
  refine c_newi hx hb hw3 hK hC hS hY2 (k := 24) (by decide) (by decide) (Nat.le_of_ble_eq_true rfl) (Nat.le_of_ble_eq_true rfl) (Nat.le_of_ble_eq_true rfl) dX0_init_23 (fun H hC hk20 hS => ?_)
  have hC : WC z 21 D cy Y (Mm.sr (Mm.sr σ 17 5 18) 17 6 19) H := hC
  have h_this : okk Y 21 0 17 := h_this.mono (by omega)
  have hk18 : okk Y 21 10 18 := hk18.mono (by omega)
  have hk19 : okk Y 21 10 19 := hk19.mono (by omega)
  have hk20 : okk Y 21 10 20 := hk20
  refine W.widen (k := 3) (n := 72) (Nat.le_refl _) (Nat.le_refl _) ?_
  refine c_putF (own := RX0) (C := RX0) (T := TX0) (N := 13) (kc := 0) hx hb hts hin0 tyX0_ok nmX0 hown hK hC hS h_this (by decide) rfl 7 (by decide) hw6  rfl hin rfl (ty := tyX0 7) (tyX0_ok 7 (by decide)) rfl rfl rfl hk20.1 dX0_init_25 (fun H locs hC hS => ?_)
  refine lv_aload_n hx hb dX0_init_28 rfl (lv_at hl 0 rfl) ?_
  refine lv_bipush (v := 24) hx hb dX0_init_29 (by decide) ?_
  refine c_newl hx hb hw7 hK hC hS hY3 (k := 24) (by decide) (by decide) (Nat.le_of_ble_eq_true rfl) (Nat.le_of_ble_eq_true rfl) (Nat.le_of_ble_eq_true rfl) dX0_init_31 (fun H hC hk21 hS => ?_)
  have hC : WC z 22 D cy Y (Mm.sr (Mm.sr (Mm.sr σ 17 5 18) 17 6 19) 17 7 20) H := hC
  have h_this : okk Y 22 0 17 := h_this.mono (by omega)
  have hk18 : okk Y 22 10 18 := hk18.mono (by omega)
  have hk19 : okk Y 22 10 19 := hk19.mono (by omega)
  have hk20 : okk Y 22 10 20 := hk20.mono (by omega)
  have hk21 : okk Y 22 11 21 := hk21
  refine W.widen (k := 4) (n := 96) (Nat.le_refl _) (Nat.le_refl _) ?_
  refine c_putF (own := RX0) (C := RX0) (T := TX0) (N := 13) (kc := 0) hx hb hts hin0 tyX0_ok nmX0 hown hK hC hS h_this (by decide) rfl 8 (by decide) hw8  rfl hin rfl (ty := tyX0 8) (tyX0_ok 8 (by decide)) rfl rfl rfl hk21.1 dX0_init_33 (fun H locs hC hS => ?_)
  refine lv_aload_n hx hb dX0_init_36 rfl (lv_at hl 0 rfl) ?_
  refine lv_bipush (v := 24) hx hb dX0_init_37 (by decide) ?_
  refine c_newl hx hb hw7 hK hC hS hY4 (k := 24) (by decide) (by decide) (Nat.le_of_ble_eq_true rfl) (Nat.le_of_ble_eq_true rfl) (Nat.le_of_ble_eq_true rfl) dX0_init_39 (fun H hC hk22 hS => ?_)
  have hC : WC z 23 D cy Y (Mm.sr (Mm.sr (Mm.sr (Mm.sr σ 17 5 18) 17 6 19) 17 7 20) 17 8 21) H := hC
  have h_this : okk Y 23 0 17 := h_this.mono (by omega)
  have hk18 : okk Y 23 10 18 := hk18.mono (by omega)
  have hk19 : okk Y 23 10 19 := hk19.mono (by omega)
  have hk20 : okk Y 23 10 20 := hk20.mono (by omega)
  have hk21 : okk Y 23 11 21 := hk21.mono (by omega)
  have hk22 : okk Y 23 11 22 := hk22
  refine W.widen (k := 5) (n := 120) (Nat.le_refl _) (Nat.le_refl _) ?_
  refine c_putF (own := RX0) (C := RX0) (T := TX0) (N := 13) (kc := 0) hx hb hts hin0 tyX0_ok nmX0 hown hK hC hS h_this (by decide) rfl 9 (by decide) hw9  rfl hin rfl (ty := tyX0 9) (tyX0_ok 9 (by decide)) rfl rfl rfl hk22.1 dX0_init_41 (fun H locs hC hS => ?_)
  refine lv_aload_n hx hb dX0_init_44 rfl (lv_at hl 0 rfl) ?_
  refine lv_bipush (v := 24) hx hb dX0_init_45 (by decide) ?_
  refine c_newq hx hb hown hw10 hO.1 hK hC hS hY5 (by decide) rfl (k := 24) (by decide) (by decide) (Nat.le_of_ble_eq_true rfl) (Nat.le_of_ble_eq_true rfl) (Nat.le_of_ble_eq_true rfl) dX0_init_47 (fun H hC hk23 hS => ?_)
  have hC : WC z 24 D cy Y (Mm.sr (Mm.sr (Mm.sr (Mm.sr (Mm.sr σ 17 5 18) 17 6 19) 17 7 20) 17 8 21) 17 9 22) H := hC
  have h_this : okk Y 24 0 17 := h_this.mono (by omega)
  have hk18 : okk Y 24 10 18 := hk18.mono (by omega)
  have hk19 : okk Y 24 10 19 := hk19.mono (by omega)
  have hk20 : okk Y 24 10 20 := hk20.mono (by omega)
  have hk21 : okk Y 24 11 21 := hk21.mono (by omega)
  have hk22 : okk Y 24 11 22 := hk22.mono (by omega)
  have hk23 : okk Y 24 13 23 := hk23
  refine W.widen (k := 6) (n := 144) (Nat.le_refl _) (Nat.le_refl _) ?_
  refine c_putF (own := RX0) (C := RX0) (T := TX0) (N := 13) (kc := 0) hx hb hts hin0 tyX0_ok nmX0 hown hK hC hS h_this (by decide) rfl 10 (by decide) hw11  rfl hin rfl (ty := tyX0 10) (tyX0_ok 10 (by decide)) rfl rfl rfl hk23.1 dX0_init_50 (fun H locs hC hS => ?_)
  refine lv_aload_n hx hb dX0_init_53 rfl (lv_at hl 0 rfl) ?_
  refine lv_sipush (v := 12000) hx hb dX0_init_54 (by decide) ?_
  refine c_newi hx hb hw3 hK hC hS hY6 (k := 12000) (by decide) (by decide) (Nat.le_of_ble_eq_true rfl) (Nat.le_of_ble_eq_true rfl) (Nat.le_of_ble_eq_true rfl) dX0_init_57 (fun H hC hk24 hS => ?_)
  have hC : WC z 25 D cy Y (Mm.sr (Mm.sr (Mm.sr (Mm.sr (Mm.sr (Mm.sr σ 17 5 18) 17 6 19) 17 7 20) 17 8 21) 17 9 22) 17 10 23) H := hC
  have h_this : okk Y 25 0 17 := h_this.mono (by omega)
  have hk18 : okk Y 25 10 18 := hk18.mono (by omega)
  have hk19 : okk Y 25 10 19 := hk19.mono (by omega)
  have hk20 : okk Y 25 10 20 := hk20.mono (by omega)
  have hk21 : okk Y 25 11 21 := hk21.mono (by omega)
  have hk22 : okk Y 25 11 22 := hk22.mono (by omega)
  have hk23 : okk Y 25 13 23 := hk23.mono (by omega)
  have hk24 : okk Y 25 10 24 := hk24
  refine W.widen (k := 7) (n := 12144) (Nat.le_refl _) (Nat.le_refl _) ?_
  refine c_putF (own := RX0) (C := RX0) (T := TX0) (N := 13) (kc := 0) hx hb hts hin0 tyX0_ok nmX0 hown hK hC hS h_this (by decide) rfl 11 (by decide) hw12  rfl hin rfl (ty := tyX0 11) (tyX0_ok 11 (by decide)) rfl rfl rfl hk24.1 dX0_init_59 (fun H locs hC hS => ?_)
  refine lv_aload_n hx hb dX0_init_62 rfl (lv_at hl 0 rfl) ?_
  refine lv_sipush (v := 500) hx hb dX0_init_63 (by decide) ?_
  refine c_newq hx hb hown hw10 hO.1 hK hC hS hY7 (by decide) rfl (k := 500) (by decide) (by decide) (Nat.le_of_ble_eq_true rfl) (Nat.le_of_ble_eq_true rfl) (Nat.le_of_ble_eq_true rfl) dX0_init_66 (fun H hC hk25 hS => ?_)
  have hC : WC z 26 D cy Y (Mm.sr (Mm.sr (Mm.sr (Mm.sr (Mm.sr (Mm.sr (Mm.sr σ 17 5 18) 17 6 19) 17 7 20) 17 8 21) 17 9 22) 17 10 23) 17 11 24) H := hC
  have h_this : okk Y 26 0 17 := h_this.mono (by omega)
  have hk18 : okk Y 26 10 18 := hk18.mono (by omega)
  have hk19 : okk Y 26 10 19 := hk19.mono (by omega)
  have hk20 : okk Y 26 10 20 := hk20.mono (by omega)
  have hk21 : okk Y 26 11 21 := hk21.mono (by omega)
  have hk22 : okk Y 26 11 22 := hk22.mono (by omega)
  have hk23 : okk Y 26 13 23 := hk23.mono (by omega)
  have hk24 : okk Y 26 10 24 := hk24.mono (by omega)
  have hk25 : okk Y 26 13 25 := hk25
  refine W.widen (k := 8) (n := 12644) (Nat.le_refl _) (Nat.le_refl _) ?_
  refine c_putF (own := RX0) (C := RX0) (T := TX0) (N := 13) (kc := 0) hx hb hts hin0 tyX0_ok nmX0 hown hK hC hS h_this (by decide) rfl 12 (by decide) hw13  rfl hin rfl (ty := tyX0 12) (tyX0_ok 12 (by decide)) rfl rfl rfl hk25.1 dX0_init_69 (fun H locs hC hS => ?_)
  rw [← eσa] at hC
  refine lv_iconst (v := 0) hx hb dX0_init_72 (by decide) ?_
  refine lv_istore_n (lv' := [(1, .int 0), (0, .ref (z + 17))]) hx hb dX0_init_73 rfl hl (by decide) rfl (fun ls hl => ?_)
  exact L1 24 0 (by omega) 0 rfl H locs ls (by rw [frow_0]; exact hC) hS hl
def i_X11_init (σ : Mm) : Mm := Mm.sr (i_X10_init 589 588 (Mm.sr (i_X7_init 586 585 (Mm.sr (i_X10_init 579 578 (Mm.sr (i_X7_init 576 575 (Mm.sr (i_X10_init 569 568 (Mm.sr (i_X7_init 566 565 (Mm.sr (i_X10_init 559 558 (Mm.sr (i_X7_init 556 555 (Mm.sr (i_X2_init 554 553 (Mm.sr (Mm.sr (Mm.sr (Mm.sr (i_X0_init (Mm.sr (i_X4_init 13 12 (Mm.sr (i_X9_init 10 9 (Mm.sr (Mm.sr (Mm.sr (i_X8_init 3 2 σ) 1 0 2) 1 1 7) 1 2 8)) 1 3 9)) 1 4 12)) 1 5 17) 1 6 550) 1 7 551) 1 8 552)) 1 9 553)) 7 (ix 0) 555)) 8 (ix 0) 558)) 7 (ix 1) 565)) 8 (ix 1) 568)) 7 (ix 2) 575)) 8 (ix 2) 578)) 7 (ix 3) 585)) 8 (ix 3) 588
set_option maxRecDepth 100000 in
set_option maxHeartbeats 40000000 in
theorem k_X11_init (l : Launch) (z : Nat) (D : va_G) (cy : Nat → ClassId) (Y : Yt) {σ : Mm} (h_this : okk Y 2 8 1) (hY0 : Y 2 = (5, 0)) (hY1 : Y 3 = (10, 3)) (hY2 : Y 4 = (16, 2)) (hY3 : Y 5 = (10, 11)) (hY4 : Y 6 = (10, 11)) (hY5 : Y 7 = (14, 4)) (hY6 : Y 8 = (15, 4)) (hY7 : Y 9 = (6, 0)) (hY8 : Y 10 = (10, 200)) (hY9 : Y 11 = (10, 5)) (hY10 : Y 12 = (2, 0)) (hY11 : Y 13 = (10, 3)) (hY12 : Y 14 = (10, 3)) (hY13 : Y 15 = (10, 2)) (hY14 : Y 16 = (10, 8)) (hY15 : Y 17 = (0, 0)) (hY16 : Y 18 = (10, 24)) (hY17 : Y 19 = (10, 24)) (hY18 : Y 20 = (10, 24)) (hY19 : Y 21 = (11, 24)) (hY20 : Y 22 = (11, 24)) (hY21 : Y 23 = (13, 24)) (hY22 : Y 24 = (10, 12000)) (hY23 : Y 25 = (13, 500)) (hY548 : Y 550 = (10, 24)) (hY549 : Y 551 = (10, 24)) (hY550 : Y 552 = (10, 24)) (hY551 : Y 553 = (1, 0)) (hY552 : Y 554 = (10, 576)) (hY553 : Y 555 = (4, 0)) (hY554 : Y 556 = (10, 96)) (hY555 : Y 557 = (10, 24)) (hY556 : Y 558 = (7, 0)) (hY557 : Y 559 = (11, 10001)) (hY558 : Y 560 = (2, 0)) (hY559 : Y 561 = (10, 3)) (hY560 : Y 562 = (10, 3)) (hY561 : Y 563 = (10, 2)) (hY562 : Y 564 = (10, 8)) (hY563 : Y 565 = (4, 0)) (hY564 : Y 566 = (10, 96)) (hY565 : Y 567 = (10, 24)) (hY566 : Y 568 = (7, 0)) (hY567 : Y 569 = (11, 10001)) (hY568 : Y 570 = (2, 0)) (hY569 : Y 571 = (10, 3)) (hY570 : Y 572 = (10, 3)) (hY571 : Y 573 = (10, 2)) (hY572 : Y 574 = (10, 8)) (hY573 : Y 575 = (4, 0)) (hY574 : Y 576 = (10, 96)) (hY575 : Y 577 = (10, 24)) (hY576 : Y 578 = (7, 0)) (hY577 : Y 579 = (11, 10001)) (hY578 : Y 580 = (2, 0)) (hY579 : Y 581 = (10, 3)) (hY580 : Y 582 = (10, 3)) (hY581 : Y 583 = (10, 2)) (hY582 : Y 584 = (10, 8)) (hY583 : Y 585 = (4, 0)) (hY584 : Y 586 = (10, 96)) (hY585 : Y 587 = (10, 24)) (hY586 : Y 588 = (7, 0)) (hY587 : Y 589 = (11, 10001)) (hY588 : Y 590 = (2, 0)) (hY589 : Y 591 = (10, 3)) (hY590 : Y 592 = (10, 3)) (hY591 : Y 593 = (10, 2)) (hY592 : Y 594 = (10, 8)) (hYP : ∀ j, 26 ≤ j → j < 550 → Y j = (3, 0)) : Kc l yX11_init wsX11_init ({ frames := 3, cells := 593, slots := 56303, locals := 61 } : Room) z D cy Y [.ref (z + 1)] 2 σ 595 (i_X11_init σ) 593 56303 := by
  refine Met.ofW (cc := cX11_init) (maxL := 2) (ret := none) (by decide +kernel) rfl ?_
  intro p e s m args below meth c s₁ B hml hv
  obtain ⟨rfl, hC, hK, hN, hO⟩ := hv
  have hx := B.exec
  have hb := B.bytes
  have hr := B.returns
  have hts := atoms_spec (ws := wsX11_init) B.pre
  have hown : s.vm.findClass RX11 = some m.cls := findClass_of_methodNamed B.named
  have hlocks := B.notSynchronized
  have hin : meth.name = "<init>" := (name_of_methodNamed B.named B.method).1
  have hS : va_S (Az z) s.heap s.heap [] := va_S.rf
  have hin8 : ∀ w ∈ wsX80, w ∈ wsX11_init := fun w h => List.mem_cons_of_mem _ (List.mem_append_left _ (List.mem_append_left _ (List.mem_append_left _ (List.mem_append_left _ (List.mem_append_left _ (List.mem_append_left _ (List.mem_append_left _ (List.mem_append_left _ (List.mem_append_right _ h)))))))))
  have hin11 : ∀ w ∈ wsX110, w ∈ wsX11_init := fun w h => List.mem_cons_of_mem _ (List.mem_append_left _ (List.mem_append_left _ (List.mem_append_left _ (List.mem_append_left _ (List.mem_append_left _ (List.mem_append_left _ (List.mem_append_left _ (List.mem_append_right _ h))))))))
  have hin9 : ∀ w ∈ wsX90, w ∈ wsX11_init := fun w h => List.mem_cons_of_mem _ (List.mem_append_left _ (List.mem_append_left _ (List.mem_append_left _ (List.mem_append_left _ (List.mem_append_left _ (List.mem_append_left _ (List.mem_append_right _ h)))))))
  have hin4 : ∀ w ∈ wsX40, w ∈ wsX11_init := fun w h => List.mem_cons_of_mem _ (List.mem_append_left _ (List.mem_append_left _ (List.mem_append_left _ (List.mem_append_left _ (List.mem_append_left _ (List.mem_append_right _ h))))))
  have hin0 : ∀ w ∈ wsX00, w ∈ wsX11_init := fun w h => List.mem_cons_of_mem _ (List.mem_append_left _ (List.mem_append_left _ (List.mem_append_left _ (List.mem_append_left _ (List.mem_append_right _ h)))))
  have hin2 : ∀ w ∈ wsX20, w ∈ wsX11_init := fun w h => List.mem_cons_of_mem _ (List.mem_append_left _ (List.mem_append_left _ (List.mem_append_left _ (List.mem_append_right _ h))))
  have hin7 : ∀ w ∈ wsX70, w ∈ wsX11_init := fun w h => List.mem_cons_of_mem _ (List.mem_append_left _ (List.mem_append_left _ (List.mem_append_right _ h)))
  have hin10 : ∀ w ∈ wsX100, w ∈ wsX11_init := fun w h => List.mem_cons_of_mem _ (List.mem_append_left _ (List.mem_append_right _ h))
  have hw0 := hts (.methodLink RX11 1 objectInit) (List.mem_of_getElem? (i := 1) rfl)
  have hw1 := hts (.instanceMethod objectInit) (List.mem_of_getElem? (i := 2) rfl)
  have hw2 := hts (.code objectInit ⟨#[0xb1]⟩ 1 none) (List.mem_of_getElem? (i := 3) rfl)
  have hw3 := hts (.classLink RX11 7 RX8) (List.mem_of_getElem? (i := 4) rfl)
  have hw4 := hts (.instantiable RX8 4) (List.mem_of_getElem? (i := 5) rfl)
  have hw5 := hts (.initialized RX8) (List.mem_of_getElem? (i := 6) rfl)
  have hw6 : va_Nw (.methodLinkNest RX11 9 yX8_init "SkyClocks") s := hN _ (List.mem_of_getElem? (i := 13) rfl)
  have hw7 := hts (.instanceMethod yX8_init) (List.mem_of_getElem? (i := 36) rfl)
  have hw8 := hts (.fieldLink RX11 10 "SkyClocks" "tables" "LSkyClocks$Tables;") (List.mem_of_getElem? (i := 7) rfl)
  have hw9 := hts (.classLink RX11 16 RX7) (List.mem_of_getElem? (i := 8) rfl)
  have hw10 := hts (.fieldLink RX11 18 "SkyClocks" "stars" "[LSkyClocks$Star;") (List.mem_of_getElem? (i := 9) rfl)
  have hw11 := hts (.classLink RX11 22 RX10) (List.mem_of_getElem? (i := 10) rfl)
  have hw12 := hts (.fieldLink RX11 24 "SkyClocks" "clocks" "[LSkyClocks$Turns;") (List.mem_of_getElem? (i := 11) rfl)
  have hw13 := hts (.classLink RX11 28 RX9) (List.mem_of_getElem? (i := 12) rfl)
  have hw14 := hts (.instantiable RX9 4) (List.mem_of_getElem? (i := 13) rfl)
  have hw15 := hts (.initialized RX9) (List.mem_of_getElem? (i := 14) rfl)
  have hw16 : va_Nw (.methodLinkNest RX11 30 yX9_init "SkyClocks") s := hN _ (List.mem_of_getElem? (i := 14) rfl)
  have hw17 := hts (.instanceMethod yX9_init) (List.mem_of_getElem? (i := 44) rfl)
  have hw18 := hts (.fieldLink RX11 31 "SkyClocks" "text" "LSkyClocks$Text;") (List.mem_of_getElem? (i := 15) rfl)
  have hw19 := hts (.classLink RX11 35 RX4) (List.mem_of_getElem? (i := 16) rfl)
  have hw20 := hts (.instantiable RX4 12) (List.mem_of_getElem? (i := 17) rfl)
  have hw21 := hts (.initialized RX4) (List.mem_of_getElem? (i := 18) rfl)
  have hw22 : va_Nw (.methodLinkNest RX11 37 yX4_init "SkyClocks") s := hN _ (List.mem_of_getElem? (i := 15) rfl)
  have hw23 := hts (.instanceMethod yX4_init) (List.mem_of_getElem? (i := 49) rfl)
  have hw24 := hts (.fieldLink RX11 38 "SkyClocks" "draft" "LSkyClocks$Model;") (List.mem_of_getElem? (i := 19) rfl)
  have hw25 := hts (.classLink RX11 42 RX0) (List.mem_of_getElem? (i := 20) rfl)
  have hw26 := hts (.instantiable RX0 13) (List.mem_of_getElem? (i := 21) rfl)
  have hw27 := hts (.initialized RX0) (List.mem_of_getElem? (i := 22) rfl)
  have hw28 := hts (.methodLink RX11 44 yX0_init) (List.mem_of_getElem? (i := 56) rfl)
  have hw29 := hts (.instanceMethod yX0_init) (List.mem_of_getElem? (i := 57) rfl)
  have hw30 := hts (.fieldLink RX11 45 "SkyClocks" "carried" "LSkyClocks$Carried;") (List.mem_of_getElem? (i := 23) rfl)
  have hw31 := hts (.arrayClass .int) (List.mem_of_getElem? (i := 24) rfl)
  have hw32 := hts (.fieldLink RX11 49 "SkyClocks" "residues" "[I") (List.mem_of_getElem? (i := 25) rfl)
  have hw33 := hts (.fieldLink RX11 53 "SkyClocks" "others" "[I") (List.mem_of_getElem? (i := 26) rfl)
  have hw34 := hts (.fieldLink RX11 56 "SkyClocks" "turnNumbers" "[I") (List.mem_of_getElem? (i := 27) rfl)
  have hw35 := hts (.classLink RX11 59 RX2) (List.mem_of_getElem? (i := 28) rfl)
  have hw36 := hts (.instantiable RX2 2) (List.mem_of_getElem? (i := 29) rfl)
  have hw37 := hts (.initialized RX2) (List.mem_of_getElem? (i := 30) rfl)
  have hw38 : va_Nw (.methodLinkNest RX11 61 yX2_init "SkyClocks") s := hN _ (List.mem_of_getElem? (i := 17) rfl)
  have hw39 := hts (.instanceMethod yX2_init) (List.mem_of_getElem? (i := 75) rfl)
  have hw40 := hts (.fieldLink RX11 62 "SkyClocks" "gaps" "LSkyClocks$Gaps;") (List.mem_of_getElem? (i := 31) rfl)
  have hw41 := hts (.instantiable RX7 4) (List.mem_of_getElem? (i := 32) rfl)
  have hw42 := hts (.initialized RX7) (List.mem_of_getElem? (i := 33) rfl)
  have hw43 : va_Nw (.methodLinkNest RX11 66 yX7_init "SkyClocks") s := hN _ (List.mem_of_getElem? (i := 18) rfl)
  have hw44 := hts (.instanceMethod yX7_init) (List.mem_of_getElem? (i := 79) rfl)
  have hw45 := hts (.instantiable RX10 3) (List.mem_of_getElem? (i := 34) rfl)
  have hw46 := hts (.initialized RX10) (List.mem_of_getElem? (i := 35) rfl)
  have hw47 : va_Nw (.methodLinkNest RX11 67 yX10_init "SkyClocks") s := hN _ (List.mem_of_getElem? (i := 19) rfl)
  have hw48 := hts (.instanceMethod yX10_init) (List.mem_of_getElem? (i := 84) rfl)
  have hl := lv_entry ([.ref (z + 1)]) (n := 2) (Nat.le_of_ble_eq_true rfl)
  rw [lg_entry_eq]
  generalize (lg_sl ([.ref (z + 1)]) ++ List.replicate (2 - (lg_sl ([.ref (z + 1)])).length) Slot.unset).toArray = ls at hl ⊢
  have hl : lv_has ls 2 [(0, .ref (z + 1))] := hl
  have hC : WC z 2 D cy Y σ s.heap := hC
  refine lv_aload_n hx hb dX11_init_0 rfl (lv_at hl 0 rfl) ?_
  refine W.objInit hx hb hown hw0 hw1 hw2 rfl (by rw [hml]; exact hl.1) rfl dX11_init_1 (Nat.le_of_ble_eq_true rfl) (Nat.le_of_ble_eq_true rfl) ?_
  refine W.eq (g2 := F0 m 4 ls []) rfl ?_
  refine lv_aload_n hx hb dX11_init_4 rfl (lv_at hl 0 rfl) ?_
  refine c_new (C := RX8) (T := TX8) (N := 4) (kc := 5) hx hb hts hin8 tyX8 tyX8_ok hown hw3 hw4 hw5 hK hC hS rfl (by decide) hY0 (by decide +kernel) (Nat.le_of_ble_eq_true rfl) (Nat.le_of_ble_eq_true rfl) dX11_init_5 (fun H hC hk2 hS => ?_)
  have hC : WC z 3 D cy Y σ H := hC
  have h_this : okk Y 3 8 1 := h_this.mono (by omega)
  have hk2 : okk Y 3 5 2 := hk2
  refine W.widen (k := 1) (n := 4) (Nat.le_refl _) (Nat.le_refl _) ?_
  refine lv_dup hx hb dX11_init_8 rfl ?_
  refine c_call (va_runIN (As := []) (rest := [.ref (z + 2), .ref (z + 1)]) ⟨hx, hb, hml, hown, hts⟩ (k_X8_init l z D cy Y hk2 hY1 hY2 hY3 hY4) ⟨va_cnB (host := "SkyClocks") 0 hts gX11_init_X8_init_n9 rfl rfl rfl hw6 hw5 (by decide +kernel) ⟨Nat.le_of_ble_eq_true rfl, Nat.le_of_ble_eq_true rfl⟩, rfl, hw7⟩ (c_PS hK hN hO hC) rfl rfl hl.1 rfl (lv_room (Nat.le_of_ble_eq_true rfl)) dX11_init_9 ⟨Nat.le_of_ble_eq_true rfl, Nat.le_of_ble_eq_true rfl⟩) hS (fun H locs hC hS => ?_)
  have hC : WC z 7 D cy Y (i_X8_init 3 2 σ) H := hC
  have h_this : okk Y 7 8 1 := h_this.mono (by omega)
  have hk2 : okk Y 7 5 2 := hk2.mono (by omega)
  refine W.widen (k := 5) (n := 31) (Nat.le_refl _) (Nat.le_refl _) ?_
  refine c_putF (own := RX11) (C := RX11) (T := TX11) (N := 10) (kc := 8) hx hb hts hin11 tyX11_ok nmX11 hown hK hC hS h_this (by decide) rfl 0 (by decide) hw8  rfl hin rfl (ty := tyX11 0) (tyX11_ok 0 (by decide)) rfl rfl rfl hk2.1 dX11_init_12 (fun H locs hC hS => ?_)
  refine lv_aload_n hx hb dX11_init_15 rfl (lv_at hl 0 rfl) ?_
  refine lv_iconst (v := 4) hx hb dX11_init_16 (by decide) ?_
  refine c_newq hx hb hown hw9 hO.2.1 hK hC hS hY5 (by decide) rfl (k := 4) (by decide) (by decide) (Nat.le_of_ble_eq_true rfl) (Nat.le_of_ble_eq_true rfl) (Nat.le_of_ble_eq_true rfl) dX11_init_17 (fun H hC hk7 hS => ?_)
  have hC : WC z 8 D cy Y (Mm.sr (i_X8_init 3 2 σ) 1 0 2) H := hC
  have h_this : okk Y 8 8 1 := h_this.mono (by omega)
  have hk2 : okk Y 8 5 2 := hk2.mono (by omega)
  have hk7 : okk Y 8 14 7 := hk7
  refine W.widen (k := 6) (n := 35) (Nat.le_refl _) (Nat.le_refl _) ?_
  refine c_putF (own := RX11) (C := RX11) (T := TX11) (N := 10) (kc := 8) hx hb hts hin11 tyX11_ok nmX11 hown hK hC hS h_this (by decide) rfl 1 (by decide) hw10  rfl hin rfl (ty := tyX11 1) (tyX11_ok 1 (by decide)) rfl rfl rfl hk7.1 dX11_init_20 (fun H locs hC hS => ?_)
  refine lv_aload_n hx hb dX11_init_23 rfl (lv_at hl 0 rfl) ?_
  refine lv_iconst (v := 4) hx hb dX11_init_24 (by decide) ?_
  refine c_newq hx hb hown hw11 hO.2.2.1 hK hC hS hY6 (by decide) rfl (k := 4) (by decide) (by decide) (Nat.le_of_ble_eq_true rfl) (Nat.le_of_ble_eq_true rfl) (Nat.le_of_ble_eq_true rfl) dX11_init_25 (fun H hC hk8 hS => ?_)
  have hC : WC z 9 D cy Y (Mm.sr (Mm.sr (i_X8_init 3 2 σ) 1 0 2) 1 1 7) H := hC
  have h_this : okk Y 9 8 1 := h_this.mono (by omega)
  have hk2 : okk Y 9 5 2 := hk2.mono (by omega)
  have hk7 : okk Y 9 14 7 := hk7.mono (by omega)
  have hk8 : okk Y 9 15 8 := hk8
  refine W.widen (k := 7) (n := 39) (Nat.le_refl _) (Nat.le_refl _) ?_
  refine c_putF (own := RX11) (C := RX11) (T := TX11) (N := 10) (kc := 8) hx hb hts hin11 tyX11_ok nmX11 hown hK hC hS h_this (by decide) rfl 2 (by decide) hw12  rfl hin rfl (ty := tyX11 2) (tyX11_ok 2 (by decide)) rfl rfl rfl hk8.1 dX11_init_28 (fun H locs hC hS => ?_)
  refine lv_aload_n hx hb dX11_init_31 rfl (lv_at hl 0 rfl) ?_
  refine c_new (C := RX9) (T := TX9) (N := 4) (kc := 6) hx hb hts hin9 tyX9 tyX9_ok hown hw13 hw14 hw15 hK hC hS rfl (by decide) hY7 (by decide +kernel) (Nat.le_of_ble_eq_true rfl) (Nat.le_of_ble_eq_true rfl) dX11_init_32 (fun H hC hk9 hS => ?_)
  have hC : WC z 10 D cy Y (Mm.sr (Mm.sr (Mm.sr (i_X8_init 3 2 σ) 1 0 2) 1 1 7) 1 2 8) H := hC
  have h_this : okk Y 10 8 1 := h_this.mono (by omega)
  have hk2 : okk Y 10 5 2 := hk2.mono (by omega)
  have hk7 : okk Y 10 14 7 := hk7.mono (by omega)
  have hk8 : okk Y 10 15 8 := hk8.mono (by omega)
  have hk9 : okk Y 10 6 9 := hk9
  refine W.widen (k := 8) (n := 43) (Nat.le_refl _) (Nat.le_refl _) ?_
  refine lv_dup hx hb dX11_init_35 rfl ?_
  refine c_call (va_runIN (As := []) (rest := [.ref (z + 9), .ref (z + 1)]) ⟨hx, hb, hml, hown, hts⟩ (k_X9_init l z D cy Y hk9 hY8 hY9) ⟨va_cnB (host := "SkyClocks") 0 hts gX11_init_X9_init_n30 rfl rfl rfl hw16 hw15 (by decide +kernel) ⟨Nat.le_of_ble_eq_true rfl, Nat.le_of_ble_eq_true rfl⟩, rfl, hw17⟩ (c_PS hK hN hO hC) rfl rfl hl.1 rfl (lv_room (Nat.le_of_ble_eq_true rfl)) dX11_init_36 ⟨Nat.le_of_ble_eq_true rfl, Nat.le_of_ble_eq_true rfl⟩) hS (fun H locs hC hS => ?_)
  have hC : WC z 12 D cy Y (i_X9_init 10 9 (Mm.sr (Mm.sr (Mm.sr (i_X8_init 3 2 σ) 1 0 2) 1 1 7) 1 2 8)) H := hC
  have h_this : okk Y 12 8 1 := h_this.mono (by omega)
  have hk2 : okk Y 12 5 2 := hk2.mono (by omega)
  have hk7 : okk Y 12 14 7 := hk7.mono (by omega)
  have hk8 : okk Y 12 15 8 := hk8.mono (by omega)
  have hk9 : okk Y 12 6 9 := hk9.mono (by omega)
  refine W.widen (k := 10) (n := 248) (Nat.le_refl _) (Nat.le_refl _) ?_
  refine c_putF (own := RX11) (C := RX11) (T := TX11) (N := 10) (kc := 8) hx hb hts hin11 tyX11_ok nmX11 hown hK hC hS h_this (by decide) rfl 3 (by decide) hw18  rfl hin rfl (ty := tyX11 3) (tyX11_ok 3 (by decide)) rfl rfl rfl hk9.1 dX11_init_39 (fun H locs hC hS => ?_)
  refine lv_aload_n hx hb dX11_init_42 rfl (lv_at hl 0 rfl) ?_
  refine c_new (C := RX4) (T := TX4) (N := 12) (kc := 2) hx hb hts hin4 tyX4 tyX4_ok hown hw19 hw20 hw21 hK hC hS rfl (by decide) hY10 (by decide +kernel) (Nat.le_of_ble_eq_true rfl) (Nat.le_of_ble_eq_true rfl) dX11_init_43 (fun H hC hk12 hS => ?_)
  have hC : WC z 13 D cy Y (Mm.sr (i_X9_init 10 9 (Mm.sr (Mm.sr (Mm.sr (i_X8_init 3 2 σ) 1 0 2) 1 1 7) 1 2 8)) 1 3 9) H := hC
  have h_this : okk Y 13 8 1 := h_this.mono (by omega)
  have hk2 : okk Y 13 5 2 := hk2.mono (by omega)
  have hk7 : okk Y 13 14 7 := hk7.mono (by omega)
  have hk8 : okk Y 13 15 8 := hk8.mono (by omega)
  have hk9 : okk Y 13 6 9 := hk9.mono (by omega)
  have hk12 : okk Y 13 2 12 := hk12
  refine W.widen (k := 11) (n := 260) (Nat.le_refl _) (Nat.le_refl _) ?_
  refine lv_dup hx hb dX11_init_46 rfl ?_
  refine c_call (va_runIN (As := []) (rest := [.ref (z + 12), .ref (z + 1)]) ⟨hx, hb, hml, hown, hts⟩ (k_X4_init l z D cy Y hk12 hY11 hY12 hY13 hY14) ⟨va_cnB (host := "SkyClocks") 0 hts gX11_init_X4_init_n37 rfl rfl rfl hw22 hw21 (by decide +kernel) ⟨Nat.le_of_ble_eq_true rfl, Nat.le_of_ble_eq_true rfl⟩, rfl, hw23⟩ (c_PS hK hN hO hC) rfl rfl hl.1 rfl (lv_room (Nat.le_of_ble_eq_true rfl)) dX11_init_47 ⟨Nat.le_of_ble_eq_true rfl, Nat.le_of_ble_eq_true rfl⟩) hS (fun H locs hC hS => ?_)
  have hC : WC z 17 D cy Y (i_X4_init 13 12 (Mm.sr (i_X9_init 10 9 (Mm.sr (Mm.sr (Mm.sr (i_X8_init 3 2 σ) 1 0 2) 1 1 7) 1 2 8)) 1 3 9)) H := hC
  have h_this : okk Y 17 8 1 := h_this.mono (by omega)
  have hk2 : okk Y 17 5 2 := hk2.mono (by omega)
  have hk7 : okk Y 17 14 7 := hk7.mono (by omega)
  have hk8 : okk Y 17 15 8 := hk8.mono (by omega)
  have hk9 : okk Y 17 6 9 := hk9.mono (by omega)
  have hk12 : okk Y 17 2 12 := hk12.mono (by omega)
  refine W.widen (k := 15) (n := 276) (Nat.le_refl _) (Nat.le_refl _) ?_
  refine c_putR (own := RX11) (C := RX11) (T := TX11) (N := 10) (kc := 8) hx hb hts hin11 tyX11_ok nmX11 hown hK hC hS h_this (by decide) rfl 4 (by decide) hw24  rfl (ty := tyX11 4) (tyX11_ok 4 (by decide)) rfl rfl rfl hk12.1 dX11_init_50 (fun H locs hC hS => ?_)
  refine lv_aload_n hx hb dX11_init_53 rfl (lv_at hl 0 rfl) ?_
  refine c_new (C := RX0) (T := TX0) (N := 13) (kc := 0) hx hb hts hin0 tyX0 tyX0_ok hown hw25 hw26 hw27 hK hC hS rfl (by decide) hY15 (by decide +kernel) (Nat.le_of_ble_eq_true rfl) (Nat.le_of_ble_eq_true rfl) dX11_init_54 (fun H hC hk17 hS => ?_)
  have hC : WC z 18 D cy Y (Mm.sr (i_X4_init 13 12 (Mm.sr (i_X9_init 10 9 (Mm.sr (Mm.sr (Mm.sr (i_X8_init 3 2 σ) 1 0 2) 1 1 7) 1 2 8)) 1 3 9)) 1 4 12) H := hC
  have h_this : okk Y 18 8 1 := h_this.mono (by omega)
  have hk2 : okk Y 18 5 2 := hk2.mono (by omega)
  have hk7 : okk Y 18 14 7 := hk7.mono (by omega)
  have hk8 : okk Y 18 15 8 := hk8.mono (by omega)
  have hk9 : okk Y 18 6 9 := hk9.mono (by omega)
  have hk12 : okk Y 18 2 12 := hk12.mono (by omega)
  have hk17 : okk Y 18 0 17 := hk17
  refine W.widen (k := 16) (n := 289) (Nat.le_refl _) (Nat.le_refl _) ?_
  refine lv_dup hx hb dX11_init_57 rfl ?_
  refine c_call (va_runI (As := []) (rest := [.ref (z + 17), .ref (z + 1)]) ⟨hx, hb, hml, hown, hts⟩ (k_X0_init l z D cy Y hk17 hY16 hY17 hY18 hY19 hY20 hY21 hY22 hY23 hYP) (cwI 0 hts gX11_init_X0_init rfl rfl rfl hw27 hw28 hw29 rfl (by decide +kernel) ⟨Nat.le_of_ble_eq_true rfl, Nat.le_of_ble_eq_true rfl⟩) (c_PS hK hN hO hC) rfl rfl hl.1 rfl (lv_room (Nat.le_of_ble_eq_true rfl)) dX11_init_58 ⟨Nat.le_of_ble_eq_true rfl, Nat.le_of_ble_eq_true rfl⟩) hS (fun H locs hC hS => ?_)
  have hC : WC z 550 D cy Y (i_X0_init (Mm.sr (i_X4_init 13 12 (Mm.sr (i_X9_init 10 9 (Mm.sr (Mm.sr (Mm.sr (i_X8_init 3 2 σ) 1 0 2) 1 1 7) 1 2 8)) 1 3 9)) 1 4 12)) H := hC
  have h_this : okk Y 550 8 1 := h_this.mono (by omega)
  have hk2 : okk Y 550 5 2 := hk2.mono (by omega)
  have hk7 : okk Y 550 14 7 := hk7.mono (by omega)
  have hk8 : okk Y 550 15 8 := hk8.mono (by omega)
  have hk9 : okk Y 550 6 9 := hk9.mono (by omega)
  have hk12 : okk Y 550 2 12 := hk12.mono (by omega)
  have hk17 : okk Y 550 0 17 := hk17.mono (by omega)
  refine W.widen (k := 548) (n := 15029) (Nat.le_refl _) (Nat.le_refl _) ?_
  refine c_putF (own := RX11) (C := RX11) (T := TX11) (N := 10) (kc := 8) hx hb hts hin11 tyX11_ok nmX11 hown hK hC hS h_this (by decide) rfl 5 (by decide) hw30  rfl hin rfl (ty := tyX11 5) (tyX11_ok 5 (by decide)) rfl rfl rfl hk17.1 dX11_init_61 (fun H locs hC hS => ?_)
  refine lv_aload_n hx hb dX11_init_64 rfl (lv_at hl 0 rfl) ?_
  refine lv_bipush (v := 24) hx hb dX11_init_65 (by decide) ?_
  refine c_newi hx hb hw31 hK hC hS hY548 (k := 24) (by decide) (by decide) (Nat.le_of_ble_eq_true rfl) (Nat.le_of_ble_eq_true rfl) (Nat.le_of_ble_eq_true rfl) dX11_init_67 (fun H hC hk550 hS => ?_)
  have hC : WC z 551 D cy Y (Mm.sr (i_X0_init (Mm.sr (i_X4_init 13 12 (Mm.sr (i_X9_init 10 9 (Mm.sr (Mm.sr (Mm.sr (i_X8_init 3 2 σ) 1 0 2) 1 1 7) 1 2 8)) 1 3 9)) 1 4 12)) 1 5 17) H := hC
  have h_this : okk Y 551 8 1 := h_this.mono (by omega)
  have hk2 : okk Y 551 5 2 := hk2.mono (by omega)
  have hk7 : okk Y 551 14 7 := hk7.mono (by omega)
  have hk8 : okk Y 551 15 8 := hk8.mono (by omega)
  have hk9 : okk Y 551 6 9 := hk9.mono (by omega)
  have hk12 : okk Y 551 2 12 := hk12.mono (by omega)
  have hk17 : okk Y 551 0 17 := hk17.mono (by omega)
  have hk550 : okk Y 551 10 550 := hk550
  refine W.widen (k := 549) (n := 15053) (Nat.le_refl _) (Nat.le_refl _) ?_
  refine c_putF (own := RX11) (C := RX11) (T := TX11) (N := 10) (kc := 8) hx hb hts hin11 tyX11_ok nmX11 hown hK hC hS h_this (by decide) rfl 6 (by decide) hw32  rfl hin rfl (ty := tyX11 6) (tyX11_ok 6 (by decide)) rfl rfl rfl hk550.1 dX11_init_69 (fun H locs hC hS => ?_)
  refine lv_aload_n hx hb dX11_init_72 rfl (lv_at hl 0 rfl) ?_
  refine lv_bipush (v := 24) hx hb dX11_init_73 (by decide) ?_
  refine c_newi hx hb hw31 hK hC hS hY549 (k := 24) (by decide) (by decide) (Nat.le_of_ble_eq_true rfl) (Nat.le_of_ble_eq_true rfl) (Nat.le_of_ble_eq_true rfl) dX11_init_75 (fun H hC hk551 hS => ?_)
  have hC : WC z 552 D cy Y (Mm.sr (Mm.sr (i_X0_init (Mm.sr (i_X4_init 13 12 (Mm.sr (i_X9_init 10 9 (Mm.sr (Mm.sr (Mm.sr (i_X8_init 3 2 σ) 1 0 2) 1 1 7) 1 2 8)) 1 3 9)) 1 4 12)) 1 5 17) 1 6 550) H := hC
  have h_this : okk Y 552 8 1 := h_this.mono (by omega)
  have hk2 : okk Y 552 5 2 := hk2.mono (by omega)
  have hk7 : okk Y 552 14 7 := hk7.mono (by omega)
  have hk8 : okk Y 552 15 8 := hk8.mono (by omega)
  have hk9 : okk Y 552 6 9 := hk9.mono (by omega)
  have hk12 : okk Y 552 2 12 := hk12.mono (by omega)
  have hk17 : okk Y 552 0 17 := hk17.mono (by omega)
  have hk550 : okk Y 552 10 550 := hk550.mono (by omega)
  have hk551 : okk Y 552 10 551 := hk551
  refine W.widen (k := 550) (n := 15077) (Nat.le_refl _) (Nat.le_refl _) ?_
  refine c_putF (own := RX11) (C := RX11) (T := TX11) (N := 10) (kc := 8) hx hb hts hin11 tyX11_ok nmX11 hown hK hC hS h_this (by decide) rfl 7 (by decide) hw33  rfl hin rfl (ty := tyX11 7) (tyX11_ok 7 (by decide)) rfl rfl rfl hk551.1 dX11_init_77 (fun H locs hC hS => ?_)
  refine lv_aload_n hx hb dX11_init_80 rfl (lv_at hl 0 rfl) ?_
  refine lv_bipush (v := 24) hx hb dX11_init_81 (by decide) ?_
  refine c_newi hx hb hw31 hK hC hS hY550 (k := 24) (by decide) (by decide) (Nat.le_of_ble_eq_true rfl) (Nat.le_of_ble_eq_true rfl) (Nat.le_of_ble_eq_true rfl) dX11_init_83 (fun H hC hk552 hS => ?_)
  have hC : WC z 553 D cy Y (Mm.sr (Mm.sr (Mm.sr (i_X0_init (Mm.sr (i_X4_init 13 12 (Mm.sr (i_X9_init 10 9 (Mm.sr (Mm.sr (Mm.sr (i_X8_init 3 2 σ) 1 0 2) 1 1 7) 1 2 8)) 1 3 9)) 1 4 12)) 1 5 17) 1 6 550) 1 7 551) H := hC
  have h_this : okk Y 553 8 1 := h_this.mono (by omega)
  have hk2 : okk Y 553 5 2 := hk2.mono (by omega)
  have hk7 : okk Y 553 14 7 := hk7.mono (by omega)
  have hk8 : okk Y 553 15 8 := hk8.mono (by omega)
  have hk9 : okk Y 553 6 9 := hk9.mono (by omega)
  have hk12 : okk Y 553 2 12 := hk12.mono (by omega)
  have hk17 : okk Y 553 0 17 := hk17.mono (by omega)
  have hk550 : okk Y 553 10 550 := hk550.mono (by omega)
  have hk551 : okk Y 553 10 551 := hk551.mono (by omega)
  have hk552 : okk Y 553 10 552 := hk552
  refine W.widen (k := 551) (n := 15101) (Nat.le_refl _) (Nat.le_refl _) ?_
  refine c_putF (own := RX11) (C := RX11) (T := TX11) (N := 10) (kc := 8) hx hb hts hin11 tyX11_ok nmX11 hown hK hC hS h_this (by decide) rfl 8 (by decide) hw34  rfl hin rfl (ty := tyX11 8) (tyX11_ok 8 (by decide)) rfl rfl rfl hk552.1 dX11_init_85 (fun H locs hC hS => ?_)
  refine lv_aload_n hx hb dX11_init_88 rfl (lv_at hl 0 rfl) ?_
  refine c_new (C := RX2) (T := TX2) (N := 2) (kc := 1) hx hb hts hin2 tyX2 tyX2_ok hown hw35 hw36 hw37 hK hC hS rfl (by decide) hY551 (by decide +kernel) (Nat.le_of_ble_eq_true rfl) (Nat.le_of_ble_eq_true rfl) dX11_init_89 (fun H hC hk553 hS => ?_)
  have hC : WC z 554 D cy Y (Mm.sr (Mm.sr (Mm.sr (Mm.sr (i_X0_init (Mm.sr (i_X4_init 13 12 (Mm.sr (i_X9_init 10 9 (Mm.sr (Mm.sr (Mm.sr (i_X8_init 3 2 σ) 1 0 2) 1 1 7) 1 2 8)) 1 3 9)) 1 4 12)) 1 5 17) 1 6 550) 1 7 551) 1 8 552) H := hC
  have h_this : okk Y 554 8 1 := h_this.mono (by omega)
  have hk2 : okk Y 554 5 2 := hk2.mono (by omega)
  have hk7 : okk Y 554 14 7 := hk7.mono (by omega)
  have hk8 : okk Y 554 15 8 := hk8.mono (by omega)
  have hk9 : okk Y 554 6 9 := hk9.mono (by omega)
  have hk12 : okk Y 554 2 12 := hk12.mono (by omega)
  have hk17 : okk Y 554 0 17 := hk17.mono (by omega)
  have hk550 : okk Y 554 10 550 := hk550.mono (by omega)
  have hk551 : okk Y 554 10 551 := hk551.mono (by omega)
  have hk552 : okk Y 554 10 552 := hk552.mono (by omega)
  have hk553 : okk Y 554 1 553 := hk553
  refine W.widen (k := 552) (n := 15103) (Nat.le_refl _) (Nat.le_refl _) ?_
  refine lv_dup hx hb dX11_init_92 rfl ?_
  refine c_call (va_runIN (As := []) (rest := [.ref (z + 553), .ref (z + 1)]) ⟨hx, hb, hml, hown, hts⟩ (k_X2_init l z D cy Y hk553 hY552) ⟨va_cnB (host := "SkyClocks") 0 hts gX11_init_X2_init_n61 rfl rfl rfl hw38 hw37 (by decide +kernel) ⟨Nat.le_of_ble_eq_true rfl, Nat.le_of_ble_eq_true rfl⟩, rfl, hw39⟩ (c_PS hK hN hO hC) rfl rfl hl.1 rfl (lv_room (Nat.le_of_ble_eq_true rfl)) dX11_init_93 ⟨Nat.le_of_ble_eq_true rfl, Nat.le_of_ble_eq_true rfl⟩) hS (fun H locs hC hS => ?_)
  have hC : WC z 555 D cy Y (i_X2_init 554 553 (Mm.sr (Mm.sr (Mm.sr (Mm.sr (i_X0_init (Mm.sr (i_X4_init 13 12 (Mm.sr (i_X9_init 10 9 (Mm.sr (Mm.sr (Mm.sr (i_X8_init 3 2 σ) 1 0 2) 1 1 7) 1 2 8)) 1 3 9)) 1 4 12)) 1 5 17) 1 6 550) 1 7 551) 1 8 552)) H := hC
  have h_this : okk Y 555 8 1 := h_this.mono (by omega)
  have hk2 : okk Y 555 5 2 := hk2.mono (by omega)
  have hk7 : okk Y 555 14 7 := hk7.mono (by omega)
  have hk8 : okk Y 555 15 8 := hk8.mono (by omega)
  have hk9 : okk Y 555 6 9 := hk9.mono (by omega)
  have hk12 : okk Y 555 2 12 := hk12.mono (by omega)
  have hk17 : okk Y 555 0 17 := hk17.mono (by omega)
  have hk550 : okk Y 555 10 550 := hk550.mono (by omega)
  have hk551 : okk Y 555 10 551 := hk551.mono (by omega)
  have hk552 : okk Y 555 10 552 := hk552.mono (by omega)
  have hk553 : okk Y 555 1 553 := hk553.mono (by omega)
  refine W.widen (k := 553) (n := 15679) (Nat.le_refl _) (Nat.le_refl _) ?_
  refine c_putF (own := RX11) (C := RX11) (T := TX11) (N := 10) (kc := 8) hx hb hts hin11 tyX11_ok nmX11 hown hK hC hS h_this (by decide) rfl 9 (by decide) hw40  rfl hin rfl (ty := tyX11 9) (tyX11_ok 9 (by decide)) rfl rfl rfl hk553.1 dX11_init_96 (fun H locs hC hS => ?_)
  refine lv_iconst (v := 0) hx hb dX11_init_99 (by decide) ?_
  refine lv_istore_n (lv' := [(1, .int 0), (0, .ref (z + 1))]) hx hb dX11_init_100 rfl hl (by decide) rfl (fun ls hl => ?_)
  refine lv_iload_n hx hb dX11_init_101 rfl (lv_at hl 0 rfl) ?_
  refine lv_iconst (v := 4) hx hb dX11_init_102 (by decide) ?_
  refine lv_icmp_ge (tgt := 138) hx hb dX11_init_103 (by decide) (fun c => absurd c (by decide)) (fun _ => ?_)
  refine lv_aload_n hx hb dX11_init_106 rfl (lv_at hl 1 rfl) ?_
  refine c_getr (own := RX11) (C := RX11) (T := TX11) (N := 10) (kc := 8) (v := 7) hx hb hts hin11 hown hK hC h_this (by decide) rfl 1 (by decide) hw10 rfl rfl (Nat.le_of_ble_eq_true rfl) dX11_init_107 ?_
  refine lv_iload_n hx hb dX11_init_110 rfl (lv_at hl 0 rfl) ?_
  refine c_new (C := RX7) (T := TX7) (N := 4) (kc := 4) hx hb hts hin7 tyX7 tyX7_ok hown hw9 hw41 hw42 hK hC hS rfl (by decide) hY553 (by decide +kernel) (Nat.le_of_ble_eq_true rfl) (Nat.le_of_ble_eq_true rfl) dX11_init_111 (fun H hC hk555 hS => ?_)
  have hC : WC z 556 D cy Y (Mm.sr (i_X2_init 554 553 (Mm.sr (Mm.sr (Mm.sr (Mm.sr (i_X0_init (Mm.sr (i_X4_init 13 12 (Mm.sr (i_X9_init 10 9 (Mm.sr (Mm.sr (Mm.sr (i_X8_init 3 2 σ) 1 0 2) 1 1 7) 1 2 8)) 1 3 9)) 1 4 12)) 1 5 17) 1 6 550) 1 7 551) 1 8 552)) 1 9 553) H := hC
  have h_this : okk Y 556 8 1 := h_this.mono (by omega)
  have hk2 : okk Y 556 5 2 := hk2.mono (by omega)
  have hk7 : okk Y 556 14 7 := hk7.mono (by omega)
  have hk8 : okk Y 556 15 8 := hk8.mono (by omega)
  have hk9 : okk Y 556 6 9 := hk9.mono (by omega)
  have hk12 : okk Y 556 2 12 := hk12.mono (by omega)
  have hk17 : okk Y 556 0 17 := hk17.mono (by omega)
  have hk550 : okk Y 556 10 550 := hk550.mono (by omega)
  have hk551 : okk Y 556 10 551 := hk551.mono (by omega)
  have hk552 : okk Y 556 10 552 := hk552.mono (by omega)
  have hk553 : okk Y 556 1 553 := hk553.mono (by omega)
  have hk555 : okk Y 556 4 555 := hk555
  refine W.widen (k := 554) (n := 15683) (Nat.le_refl _) (Nat.le_refl _) ?_
  refine lv_dup hx hb dX11_init_114 rfl ?_
  refine c_call (va_runIN (As := []) (rest := [.ref (z + 555), .int 0, .ref (z + 7)]) ⟨hx, hb, hml, hown, hts⟩ (k_X7_init l z D cy Y hk555 hY554 hY555) ⟨va_cnB (host := "SkyClocks") 0 hts gX11_init_X7_init_n66 rfl rfl rfl hw43 hw42 (by decide +kernel) ⟨Nat.le_of_ble_eq_true rfl, Nat.le_of_ble_eq_true rfl⟩, rfl, hw44⟩ (c_PS hK hN hO hC) rfl rfl hl.1 rfl (lv_room (Nat.le_of_ble_eq_true rfl)) dX11_init_115 ⟨Nat.le_of_ble_eq_true rfl, Nat.le_of_ble_eq_true rfl⟩) hS (fun H locs hC hS => ?_)
  have hC : WC z 558 D cy Y (i_X7_init 556 555 (Mm.sr (i_X2_init 554 553 (Mm.sr (Mm.sr (Mm.sr (Mm.sr (i_X0_init (Mm.sr (i_X4_init 13 12 (Mm.sr (i_X9_init 10 9 (Mm.sr (Mm.sr (Mm.sr (i_X8_init 3 2 σ) 1 0 2) 1 1 7) 1 2 8)) 1 3 9)) 1 4 12)) 1 5 17) 1 6 550) 1 7 551) 1 8 552)) 1 9 553)) H := hC
  have h_this : okk Y 558 8 1 := h_this.mono (by omega)
  have hk2 : okk Y 558 5 2 := hk2.mono (by omega)
  have hk7 : okk Y 558 14 7 := hk7.mono (by omega)
  have hk8 : okk Y 558 15 8 := hk8.mono (by omega)
  have hk9 : okk Y 558 6 9 := hk9.mono (by omega)
  have hk12 : okk Y 558 2 12 := hk12.mono (by omega)
  have hk17 : okk Y 558 0 17 := hk17.mono (by omega)
  have hk550 : okk Y 558 10 550 := hk550.mono (by omega)
  have hk551 : okk Y 558 10 551 := hk551.mono (by omega)
  have hk552 : okk Y 558 10 552 := hk552.mono (by omega)
  have hk553 : okk Y 558 1 553 := hk553.mono (by omega)
  have hk555 : okk Y 558 4 555 := hk555.mono (by omega)
  refine W.widen (k := 556) (n := 15803) (Nat.le_refl _) (Nat.le_refl _) ?_
  refine c_aast (kc := 14) (t := 4) hx hb hK hC hS hk7 (by decide) hk555 (by decide) rfl rfl (by rw [hY5]; decide) dX11_init_118 (fun H locs hC hS => ?_)
  refine lv_aload_n hx hb dX11_init_119 rfl (lv_at hl 1 rfl) ?_
  refine c_getr (own := RX11) (C := RX11) (T := TX11) (N := 10) (kc := 8) (v := 8) hx hb hts hin11 hown hK hC h_this (by decide) rfl 2 (by decide) hw12 rfl rfl (Nat.le_of_ble_eq_true rfl) dX11_init_120 ?_
  refine lv_iload_n hx hb dX11_init_123 rfl (lv_at hl 0 rfl) ?_
  refine c_new (C := RX10) (T := TX10) (N := 3) (kc := 7) hx hb hts hin10 tyX10 tyX10_ok hown hw11 hw45 hw46 hK hC hS rfl (by decide) hY556 (by decide +kernel) (Nat.le_of_ble_eq_true rfl) (Nat.le_of_ble_eq_true rfl) dX11_init_124 (fun H hC hk558 hS => ?_)
  have hC : WC z 559 D cy Y (Mm.sr (i_X7_init 556 555 (Mm.sr (i_X2_init 554 553 (Mm.sr (Mm.sr (Mm.sr (Mm.sr (i_X0_init (Mm.sr (i_X4_init 13 12 (Mm.sr (i_X9_init 10 9 (Mm.sr (Mm.sr (Mm.sr (i_X8_init 3 2 σ) 1 0 2) 1 1 7) 1 2 8)) 1 3 9)) 1 4 12)) 1 5 17) 1 6 550) 1 7 551) 1 8 552)) 1 9 553)) 7 (ix 0) 555) H := hC
  have h_this : okk Y 559 8 1 := h_this.mono (by omega)
  have hk2 : okk Y 559 5 2 := hk2.mono (by omega)
  have hk7 : okk Y 559 14 7 := hk7.mono (by omega)
  have hk8 : okk Y 559 15 8 := hk8.mono (by omega)
  have hk9 : okk Y 559 6 9 := hk9.mono (by omega)
  have hk12 : okk Y 559 2 12 := hk12.mono (by omega)
  have hk17 : okk Y 559 0 17 := hk17.mono (by omega)
  have hk550 : okk Y 559 10 550 := hk550.mono (by omega)
  have hk551 : okk Y 559 10 551 := hk551.mono (by omega)
  have hk552 : okk Y 559 10 552 := hk552.mono (by omega)
  have hk553 : okk Y 559 1 553 := hk553.mono (by omega)
  have hk555 : okk Y 559 4 555 := hk555.mono (by omega)
  have hk558 : okk Y 559 7 558 := hk558
  refine W.widen (k := 557) (n := 15806) (Nat.le_refl _) (Nat.le_refl _) ?_
  refine lv_dup hx hb dX11_init_127 rfl ?_
  refine c_call (va_runIN (As := []) (rest := [.ref (z + 558), .int 0, .ref (z + 8)]) ⟨hx, hb, hml, hown, hts⟩ (k_X10_init l z D cy Y hk558 hY557 hY558 hY559 hY560 hY561 hY562) ⟨va_cnB (host := "SkyClocks") 0 hts gX11_init_X10_init_n67 rfl rfl rfl hw47 hw46 (by decide +kernel) ⟨Nat.le_of_ble_eq_true rfl, Nat.le_of_ble_eq_true rfl⟩, rfl, hw48⟩ (c_PS hK hN hO hC) rfl rfl hl.1 rfl (lv_room (Nat.le_of_ble_eq_true rfl)) dX11_init_128 ⟨Nat.le_of_ble_eq_true rfl, Nat.le_of_ble_eq_true rfl⟩) hS (fun H locs hC hS => ?_)
  have hC : WC z 565 D cy Y (i_X10_init 559 558 (Mm.sr (i_X7_init 556 555 (Mm.sr (i_X2_init 554 553 (Mm.sr (Mm.sr (Mm.sr (Mm.sr (i_X0_init (Mm.sr (i_X4_init 13 12 (Mm.sr (i_X9_init 10 9 (Mm.sr (Mm.sr (Mm.sr (i_X8_init 3 2 σ) 1 0 2) 1 1 7) 1 2 8)) 1 3 9)) 1 4 12)) 1 5 17) 1 6 550) 1 7 551) 1 8 552)) 1 9 553)) 7 (ix 0) 555)) H := hC
  have h_this : okk Y 565 8 1 := h_this.mono (by omega)
  have hk2 : okk Y 565 5 2 := hk2.mono (by omega)
  have hk7 : okk Y 565 14 7 := hk7.mono (by omega)
  have hk8 : okk Y 565 15 8 := hk8.mono (by omega)
  have hk9 : okk Y 565 6 9 := hk9.mono (by omega)
  have hk12 : okk Y 565 2 12 := hk12.mono (by omega)
  have hk17 : okk Y 565 0 17 := hk17.mono (by omega)
  have hk550 : okk Y 565 10 550 := hk550.mono (by omega)
  have hk551 : okk Y 565 10 551 := hk551.mono (by omega)
  have hk552 : okk Y 565 10 552 := hk552.mono (by omega)
  have hk553 : okk Y 565 1 553 := hk553.mono (by omega)
  have hk555 : okk Y 565 4 555 := hk555.mono (by omega)
  have hk558 : okk Y 565 7 558 := hk558.mono (by omega)
  refine W.widen (k := 563) (n := 25835) (Nat.le_refl _) (Nat.le_refl _) ?_
  refine c_aast (kc := 15) (t := 7) hx hb hK hC hS hk8 (by decide) hk558 (by decide) rfl rfl (by rw [hY6]; decide) dX11_init_131 (fun H locs hC hS => ?_)
  refine lv_iinc (v := 1) (lv' := [(1, .int 1), (0, .ref (z + 1))]) hx hb dX11_init_132 hl (k := 0) rfl (by decide) (by decide) rfl (fun ls hl => ?_)
  refine lv_goto (tgt := 101) hx hb dX11_init_135 (by decide) ?_
  refine lv_iload_n hx hb dX11_init_101 rfl (lv_at hl 0 rfl) ?_
  refine lv_iconst (v := 4) hx hb dX11_init_102 (by decide) ?_
  refine lv_icmp_ge (tgt := 138) hx hb dX11_init_103 (by decide) (fun c => absurd c (by decide)) (fun _ => ?_)
  refine lv_aload_n hx hb dX11_init_106 rfl (lv_at hl 1 rfl) ?_
  refine c_getr (own := RX11) (C := RX11) (T := TX11) (N := 10) (kc := 8) (v := 7) hx hb hts hin11 hown hK hC h_this (by decide) rfl 1 (by decide) hw10 rfl rfl (Nat.le_of_ble_eq_true rfl) dX11_init_107 ?_
  refine lv_iload_n hx hb dX11_init_110 rfl (lv_at hl 0 rfl) ?_
  refine c_new (C := RX7) (T := TX7) (N := 4) (kc := 4) hx hb hts hin7 tyX7 tyX7_ok hown hw9 hw41 hw42 hK hC hS rfl (by decide) hY563 (by decide +kernel) (Nat.le_of_ble_eq_true rfl) (Nat.le_of_ble_eq_true rfl) dX11_init_111 (fun H hC hk565 hS => ?_)
  have hC : WC z 566 D cy Y (Mm.sr (i_X10_init 559 558 (Mm.sr (i_X7_init 556 555 (Mm.sr (i_X2_init 554 553 (Mm.sr (Mm.sr (Mm.sr (Mm.sr (i_X0_init (Mm.sr (i_X4_init 13 12 (Mm.sr (i_X9_init 10 9 (Mm.sr (Mm.sr (Mm.sr (i_X8_init 3 2 σ) 1 0 2) 1 1 7) 1 2 8)) 1 3 9)) 1 4 12)) 1 5 17) 1 6 550) 1 7 551) 1 8 552)) 1 9 553)) 7 (ix 0) 555)) 8 (ix 0) 558) H := hC
  have h_this : okk Y 566 8 1 := h_this.mono (by omega)
  have hk2 : okk Y 566 5 2 := hk2.mono (by omega)
  have hk7 : okk Y 566 14 7 := hk7.mono (by omega)
  have hk8 : okk Y 566 15 8 := hk8.mono (by omega)
  have hk9 : okk Y 566 6 9 := hk9.mono (by omega)
  have hk12 : okk Y 566 2 12 := hk12.mono (by omega)
  have hk17 : okk Y 566 0 17 := hk17.mono (by omega)
  have hk550 : okk Y 566 10 550 := hk550.mono (by omega)
  have hk551 : okk Y 566 10 551 := hk551.mono (by omega)
  have hk552 : okk Y 566 10 552 := hk552.mono (by omega)
  have hk553 : okk Y 566 1 553 := hk553.mono (by omega)
  have hk555 : okk Y 566 4 555 := hk555.mono (by omega)
  have hk558 : okk Y 566 7 558 := hk558.mono (by omega)
  have hk565 : okk Y 566 4 565 := hk565
  refine W.widen (k := 564) (n := 25839) (Nat.le_refl _) (Nat.le_refl _) ?_
  refine lv_dup hx hb dX11_init_114 rfl ?_
  refine c_call (va_runIN (As := []) (rest := [.ref (z + 565), .int 1, .ref (z + 7)]) ⟨hx, hb, hml, hown, hts⟩ (k_X7_init l z D cy Y hk565 hY564 hY565) ⟨va_cnB (host := "SkyClocks") 0 hts gX11_init_X7_init_n66 rfl rfl rfl hw43 hw42 (by decide +kernel) ⟨Nat.le_of_ble_eq_true rfl, Nat.le_of_ble_eq_true rfl⟩, rfl, hw44⟩ (c_PS hK hN hO hC) rfl rfl hl.1 rfl (lv_room (Nat.le_of_ble_eq_true rfl)) dX11_init_115 ⟨Nat.le_of_ble_eq_true rfl, Nat.le_of_ble_eq_true rfl⟩) hS (fun H locs hC hS => ?_)
  have hC : WC z 568 D cy Y (i_X7_init 566 565 (Mm.sr (i_X10_init 559 558 (Mm.sr (i_X7_init 556 555 (Mm.sr (i_X2_init 554 553 (Mm.sr (Mm.sr (Mm.sr (Mm.sr (i_X0_init (Mm.sr (i_X4_init 13 12 (Mm.sr (i_X9_init 10 9 (Mm.sr (Mm.sr (Mm.sr (i_X8_init 3 2 σ) 1 0 2) 1 1 7) 1 2 8)) 1 3 9)) 1 4 12)) 1 5 17) 1 6 550) 1 7 551) 1 8 552)) 1 9 553)) 7 (ix 0) 555)) 8 (ix 0) 558)) H := hC
  have h_this : okk Y 568 8 1 := h_this.mono (by omega)
  have hk2 : okk Y 568 5 2 := hk2.mono (by omega)
  have hk7 : okk Y 568 14 7 := hk7.mono (by omega)
  have hk8 : okk Y 568 15 8 := hk8.mono (by omega)
  have hk9 : okk Y 568 6 9 := hk9.mono (by omega)
  have hk12 : okk Y 568 2 12 := hk12.mono (by omega)
  have hk17 : okk Y 568 0 17 := hk17.mono (by omega)
  have hk550 : okk Y 568 10 550 := hk550.mono (by omega)
  have hk551 : okk Y 568 10 551 := hk551.mono (by omega)
  have hk552 : okk Y 568 10 552 := hk552.mono (by omega)
  have hk553 : okk Y 568 1 553 := hk553.mono (by omega)
  have hk555 : okk Y 568 4 555 := hk555.mono (by omega)
  have hk558 : okk Y 568 7 558 := hk558.mono (by omega)
  have hk565 : okk Y 568 4 565 := hk565.mono (by omega)
  refine W.widen (k := 566) (n := 25959) (Nat.le_refl _) (Nat.le_refl _) ?_
  refine c_aast (kc := 14) (t := 4) hx hb hK hC hS hk7 (by decide) hk565 (by decide) rfl rfl (by rw [hY5]; decide) dX11_init_118 (fun H locs hC hS => ?_)
  refine lv_aload_n hx hb dX11_init_119 rfl (lv_at hl 1 rfl) ?_
  refine c_getr (own := RX11) (C := RX11) (T := TX11) (N := 10) (kc := 8) (v := 8) hx hb hts hin11 hown hK hC h_this (by decide) rfl 2 (by decide) hw12 rfl rfl (Nat.le_of_ble_eq_true rfl) dX11_init_120 ?_
  refine lv_iload_n hx hb dX11_init_123 rfl (lv_at hl 0 rfl) ?_
  refine c_new (C := RX10) (T := TX10) (N := 3) (kc := 7) hx hb hts hin10 tyX10 tyX10_ok hown hw11 hw45 hw46 hK hC hS rfl (by decide) hY566 (by decide +kernel) (Nat.le_of_ble_eq_true rfl) (Nat.le_of_ble_eq_true rfl) dX11_init_124 (fun H hC hk568 hS => ?_)
  have hC : WC z 569 D cy Y (Mm.sr (i_X7_init 566 565 (Mm.sr (i_X10_init 559 558 (Mm.sr (i_X7_init 556 555 (Mm.sr (i_X2_init 554 553 (Mm.sr (Mm.sr (Mm.sr (Mm.sr (i_X0_init (Mm.sr (i_X4_init 13 12 (Mm.sr (i_X9_init 10 9 (Mm.sr (Mm.sr (Mm.sr (i_X8_init 3 2 σ) 1 0 2) 1 1 7) 1 2 8)) 1 3 9)) 1 4 12)) 1 5 17) 1 6 550) 1 7 551) 1 8 552)) 1 9 553)) 7 (ix 0) 555)) 8 (ix 0) 558)) 7 (ix 1) 565) H := hC
  have h_this : okk Y 569 8 1 := h_this.mono (by omega)
  have hk2 : okk Y 569 5 2 := hk2.mono (by omega)
  have hk7 : okk Y 569 14 7 := hk7.mono (by omega)
  have hk8 : okk Y 569 15 8 := hk8.mono (by omega)
  have hk9 : okk Y 569 6 9 := hk9.mono (by omega)
  have hk12 : okk Y 569 2 12 := hk12.mono (by omega)
  have hk17 : okk Y 569 0 17 := hk17.mono (by omega)
  have hk550 : okk Y 569 10 550 := hk550.mono (by omega)
  have hk551 : okk Y 569 10 551 := hk551.mono (by omega)
  have hk552 : okk Y 569 10 552 := hk552.mono (by omega)
  have hk553 : okk Y 569 1 553 := hk553.mono (by omega)
  have hk555 : okk Y 569 4 555 := hk555.mono (by omega)
  have hk558 : okk Y 569 7 558 := hk558.mono (by omega)
  have hk565 : okk Y 569 4 565 := hk565.mono (by omega)
  have hk568 : okk Y 569 7 568 := hk568
  refine W.widen (k := 567) (n := 25962) (Nat.le_refl _) (Nat.le_refl _) ?_
  refine lv_dup hx hb dX11_init_127 rfl ?_
  refine c_call (va_runIN (As := []) (rest := [.ref (z + 568), .int 1, .ref (z + 8)]) ⟨hx, hb, hml, hown, hts⟩ (k_X10_init l z D cy Y hk568 hY567 hY568 hY569 hY570 hY571 hY572) ⟨va_cnB (host := "SkyClocks") 0 hts gX11_init_X10_init_n67 rfl rfl rfl hw47 hw46 (by decide +kernel) ⟨Nat.le_of_ble_eq_true rfl, Nat.le_of_ble_eq_true rfl⟩, rfl, hw48⟩ (c_PS hK hN hO hC) rfl rfl hl.1 rfl (lv_room (Nat.le_of_ble_eq_true rfl)) dX11_init_128 ⟨Nat.le_of_ble_eq_true rfl, Nat.le_of_ble_eq_true rfl⟩) hS (fun H locs hC hS => ?_)
  have hC : WC z 575 D cy Y (i_X10_init 569 568 (Mm.sr (i_X7_init 566 565 (Mm.sr (i_X10_init 559 558 (Mm.sr (i_X7_init 556 555 (Mm.sr (i_X2_init 554 553 (Mm.sr (Mm.sr (Mm.sr (Mm.sr (i_X0_init (Mm.sr (i_X4_init 13 12 (Mm.sr (i_X9_init 10 9 (Mm.sr (Mm.sr (Mm.sr (i_X8_init 3 2 σ) 1 0 2) 1 1 7) 1 2 8)) 1 3 9)) 1 4 12)) 1 5 17) 1 6 550) 1 7 551) 1 8 552)) 1 9 553)) 7 (ix 0) 555)) 8 (ix 0) 558)) 7 (ix 1) 565)) H := hC
  have h_this : okk Y 575 8 1 := h_this.mono (by omega)
  have hk2 : okk Y 575 5 2 := hk2.mono (by omega)
  have hk7 : okk Y 575 14 7 := hk7.mono (by omega)
  have hk8 : okk Y 575 15 8 := hk8.mono (by omega)
  have hk9 : okk Y 575 6 9 := hk9.mono (by omega)
  have hk12 : okk Y 575 2 12 := hk12.mono (by omega)
  have hk17 : okk Y 575 0 17 := hk17.mono (by omega)
  have hk550 : okk Y 575 10 550 := hk550.mono (by omega)
  have hk551 : okk Y 575 10 551 := hk551.mono (by omega)
  have hk552 : okk Y 575 10 552 := hk552.mono (by omega)
  have hk553 : okk Y 575 1 553 := hk553.mono (by omega)
  have hk555 : okk Y 575 4 555 := hk555.mono (by omega)
  have hk558 : okk Y 575 7 558 := hk558.mono (by omega)
  have hk565 : okk Y 575 4 565 := hk565.mono (by omega)
  have hk568 : okk Y 575 7 568 := hk568.mono (by omega)
  refine W.widen (k := 573) (n := 35991) (Nat.le_refl _) (Nat.le_refl _) ?_
  refine c_aast (kc := 15) (t := 7) hx hb hK hC hS hk8 (by decide) hk568 (by decide) rfl rfl (by rw [hY6]; decide) dX11_init_131 (fun H locs hC hS => ?_)
  refine lv_iinc (v := 2) (lv' := [(1, .int 2), (0, .ref (z + 1))]) hx hb dX11_init_132 hl (k := 0) rfl (by decide) (by decide) rfl (fun ls hl => ?_)
  refine lv_goto (tgt := 101) hx hb dX11_init_135 (by decide) ?_
  refine lv_iload_n hx hb dX11_init_101 rfl (lv_at hl 0 rfl) ?_
  refine lv_iconst (v := 4) hx hb dX11_init_102 (by decide) ?_
  refine lv_icmp_ge (tgt := 138) hx hb dX11_init_103 (by decide) (fun c => absurd c (by decide)) (fun _ => ?_)
  refine lv_aload_n hx hb dX11_init_106 rfl (lv_at hl 1 rfl) ?_
  refine c_getr (own := RX11) (C := RX11) (T := TX11) (N := 10) (kc := 8) (v := 7) hx hb hts hin11 hown hK hC h_this (by decide) rfl 1 (by decide) hw10 rfl rfl (Nat.le_of_ble_eq_true rfl) dX11_init_107 ?_
  refine lv_iload_n hx hb dX11_init_110 rfl (lv_at hl 0 rfl) ?_
  refine c_new (C := RX7) (T := TX7) (N := 4) (kc := 4) hx hb hts hin7 tyX7 tyX7_ok hown hw9 hw41 hw42 hK hC hS rfl (by decide) hY573 (by decide +kernel) (Nat.le_of_ble_eq_true rfl) (Nat.le_of_ble_eq_true rfl) dX11_init_111 (fun H hC hk575 hS => ?_)
  have hC : WC z 576 D cy Y (Mm.sr (i_X10_init 569 568 (Mm.sr (i_X7_init 566 565 (Mm.sr (i_X10_init 559 558 (Mm.sr (i_X7_init 556 555 (Mm.sr (i_X2_init 554 553 (Mm.sr (Mm.sr (Mm.sr (Mm.sr (i_X0_init (Mm.sr (i_X4_init 13 12 (Mm.sr (i_X9_init 10 9 (Mm.sr (Mm.sr (Mm.sr (i_X8_init 3 2 σ) 1 0 2) 1 1 7) 1 2 8)) 1 3 9)) 1 4 12)) 1 5 17) 1 6 550) 1 7 551) 1 8 552)) 1 9 553)) 7 (ix 0) 555)) 8 (ix 0) 558)) 7 (ix 1) 565)) 8 (ix 1) 568) H := hC
  have h_this : okk Y 576 8 1 := h_this.mono (by omega)
  have hk2 : okk Y 576 5 2 := hk2.mono (by omega)
  have hk7 : okk Y 576 14 7 := hk7.mono (by omega)
  have hk8 : okk Y 576 15 8 := hk8.mono (by omega)
  have hk9 : okk Y 576 6 9 := hk9.mono (by omega)
  have hk12 : okk Y 576 2 12 := hk12.mono (by omega)
  have hk17 : okk Y 576 0 17 := hk17.mono (by omega)
  have hk550 : okk Y 576 10 550 := hk550.mono (by omega)
  have hk551 : okk Y 576 10 551 := hk551.mono (by omega)
  have hk552 : okk Y 576 10 552 := hk552.mono (by omega)
  have hk553 : okk Y 576 1 553 := hk553.mono (by omega)
  have hk555 : okk Y 576 4 555 := hk555.mono (by omega)
  have hk558 : okk Y 576 7 558 := hk558.mono (by omega)
  have hk565 : okk Y 576 4 565 := hk565.mono (by omega)
  have hk568 : okk Y 576 7 568 := hk568.mono (by omega)
  have hk575 : okk Y 576 4 575 := hk575
  refine W.widen (k := 574) (n := 35995) (Nat.le_refl _) (Nat.le_refl _) ?_
  refine lv_dup hx hb dX11_init_114 rfl ?_
  refine c_call (va_runIN (As := []) (rest := [.ref (z + 575), .int 2, .ref (z + 7)]) ⟨hx, hb, hml, hown, hts⟩ (k_X7_init l z D cy Y hk575 hY574 hY575) ⟨va_cnB (host := "SkyClocks") 0 hts gX11_init_X7_init_n66 rfl rfl rfl hw43 hw42 (by decide +kernel) ⟨Nat.le_of_ble_eq_true rfl, Nat.le_of_ble_eq_true rfl⟩, rfl, hw44⟩ (c_PS hK hN hO hC) rfl rfl hl.1 rfl (lv_room (Nat.le_of_ble_eq_true rfl)) dX11_init_115 ⟨Nat.le_of_ble_eq_true rfl, Nat.le_of_ble_eq_true rfl⟩) hS (fun H locs hC hS => ?_)
  have hC : WC z 578 D cy Y (i_X7_init 576 575 (Mm.sr (i_X10_init 569 568 (Mm.sr (i_X7_init 566 565 (Mm.sr (i_X10_init 559 558 (Mm.sr (i_X7_init 556 555 (Mm.sr (i_X2_init 554 553 (Mm.sr (Mm.sr (Mm.sr (Mm.sr (i_X0_init (Mm.sr (i_X4_init 13 12 (Mm.sr (i_X9_init 10 9 (Mm.sr (Mm.sr (Mm.sr (i_X8_init 3 2 σ) 1 0 2) 1 1 7) 1 2 8)) 1 3 9)) 1 4 12)) 1 5 17) 1 6 550) 1 7 551) 1 8 552)) 1 9 553)) 7 (ix 0) 555)) 8 (ix 0) 558)) 7 (ix 1) 565)) 8 (ix 1) 568)) H := hC
  have h_this : okk Y 578 8 1 := h_this.mono (by omega)
  have hk2 : okk Y 578 5 2 := hk2.mono (by omega)
  have hk7 : okk Y 578 14 7 := hk7.mono (by omega)
  have hk8 : okk Y 578 15 8 := hk8.mono (by omega)
  have hk9 : okk Y 578 6 9 := hk9.mono (by omega)
  have hk12 : okk Y 578 2 12 := hk12.mono (by omega)
  have hk17 : okk Y 578 0 17 := hk17.mono (by omega)
  have hk550 : okk Y 578 10 550 := hk550.mono (by omega)
  have hk551 : okk Y 578 10 551 := hk551.mono (by omega)
  have hk552 : okk Y 578 10 552 := hk552.mono (by omega)
  have hk553 : okk Y 578 1 553 := hk553.mono (by omega)
  have hk555 : okk Y 578 4 555 := hk555.mono (by omega)
  have hk558 : okk Y 578 7 558 := hk558.mono (by omega)
  have hk565 : okk Y 578 4 565 := hk565.mono (by omega)
  have hk568 : okk Y 578 7 568 := hk568.mono (by omega)
  have hk575 : okk Y 578 4 575 := hk575.mono (by omega)
  refine W.widen (k := 576) (n := 36115) (Nat.le_refl _) (Nat.le_refl _) ?_
  refine c_aast (kc := 14) (t := 4) hx hb hK hC hS hk7 (by decide) hk575 (by decide) rfl rfl (by rw [hY5]; decide) dX11_init_118 (fun H locs hC hS => ?_)
  refine lv_aload_n hx hb dX11_init_119 rfl (lv_at hl 1 rfl) ?_
  refine c_getr (own := RX11) (C := RX11) (T := TX11) (N := 10) (kc := 8) (v := 8) hx hb hts hin11 hown hK hC h_this (by decide) rfl 2 (by decide) hw12 rfl rfl (Nat.le_of_ble_eq_true rfl) dX11_init_120 ?_
  refine lv_iload_n hx hb dX11_init_123 rfl (lv_at hl 0 rfl) ?_
  refine c_new (C := RX10) (T := TX10) (N := 3) (kc := 7) hx hb hts hin10 tyX10 tyX10_ok hown hw11 hw45 hw46 hK hC hS rfl (by decide) hY576 (by decide +kernel) (Nat.le_of_ble_eq_true rfl) (Nat.le_of_ble_eq_true rfl) dX11_init_124 (fun H hC hk578 hS => ?_)
  have hC : WC z 579 D cy Y (Mm.sr (i_X7_init 576 575 (Mm.sr (i_X10_init 569 568 (Mm.sr (i_X7_init 566 565 (Mm.sr (i_X10_init 559 558 (Mm.sr (i_X7_init 556 555 (Mm.sr (i_X2_init 554 553 (Mm.sr (Mm.sr (Mm.sr (Mm.sr (i_X0_init (Mm.sr (i_X4_init 13 12 (Mm.sr (i_X9_init 10 9 (Mm.sr (Mm.sr (Mm.sr (i_X8_init 3 2 σ) 1 0 2) 1 1 7) 1 2 8)) 1 3 9)) 1 4 12)) 1 5 17) 1 6 550) 1 7 551) 1 8 552)) 1 9 553)) 7 (ix 0) 555)) 8 (ix 0) 558)) 7 (ix 1) 565)) 8 (ix 1) 568)) 7 (ix 2) 575) H := hC
  have h_this : okk Y 579 8 1 := h_this.mono (by omega)
  have hk2 : okk Y 579 5 2 := hk2.mono (by omega)
  have hk7 : okk Y 579 14 7 := hk7.mono (by omega)
  have hk8 : okk Y 579 15 8 := hk8.mono (by omega)
  have hk9 : okk Y 579 6 9 := hk9.mono (by omega)
  have hk12 : okk Y 579 2 12 := hk12.mono (by omega)
  have hk17 : okk Y 579 0 17 := hk17.mono (by omega)
  have hk550 : okk Y 579 10 550 := hk550.mono (by omega)
  have hk551 : okk Y 579 10 551 := hk551.mono (by omega)
  have hk552 : okk Y 579 10 552 := hk552.mono (by omega)
  have hk553 : okk Y 579 1 553 := hk553.mono (by omega)
  have hk555 : okk Y 579 4 555 := hk555.mono (by omega)
  have hk558 : okk Y 579 7 558 := hk558.mono (by omega)
  have hk565 : okk Y 579 4 565 := hk565.mono (by omega)
  have hk568 : okk Y 579 7 568 := hk568.mono (by omega)
  have hk575 : okk Y 579 4 575 := hk575.mono (by omega)
  have hk578 : okk Y 579 7 578 := hk578
  refine W.widen (k := 577) (n := 36118) (Nat.le_refl _) (Nat.le_refl _) ?_
  refine lv_dup hx hb dX11_init_127 rfl ?_
  refine c_call (va_runIN (As := []) (rest := [.ref (z + 578), .int 2, .ref (z + 8)]) ⟨hx, hb, hml, hown, hts⟩ (k_X10_init l z D cy Y hk578 hY577 hY578 hY579 hY580 hY581 hY582) ⟨va_cnB (host := "SkyClocks") 0 hts gX11_init_X10_init_n67 rfl rfl rfl hw47 hw46 (by decide +kernel) ⟨Nat.le_of_ble_eq_true rfl, Nat.le_of_ble_eq_true rfl⟩, rfl, hw48⟩ (c_PS hK hN hO hC) rfl rfl hl.1 rfl (lv_room (Nat.le_of_ble_eq_true rfl)) dX11_init_128 ⟨Nat.le_of_ble_eq_true rfl, Nat.le_of_ble_eq_true rfl⟩) hS (fun H locs hC hS => ?_)
  have hC : WC z 585 D cy Y (i_X10_init 579 578 (Mm.sr (i_X7_init 576 575 (Mm.sr (i_X10_init 569 568 (Mm.sr (i_X7_init 566 565 (Mm.sr (i_X10_init 559 558 (Mm.sr (i_X7_init 556 555 (Mm.sr (i_X2_init 554 553 (Mm.sr (Mm.sr (Mm.sr (Mm.sr (i_X0_init (Mm.sr (i_X4_init 13 12 (Mm.sr (i_X9_init 10 9 (Mm.sr (Mm.sr (Mm.sr (i_X8_init 3 2 σ) 1 0 2) 1 1 7) 1 2 8)) 1 3 9)) 1 4 12)) 1 5 17) 1 6 550) 1 7 551) 1 8 552)) 1 9 553)) 7 (ix 0) 555)) 8 (ix 0) 558)) 7 (ix 1) 565)) 8 (ix 1) 568)) 7 (ix 2) 575)) H := hC
  have h_this : okk Y 585 8 1 := h_this.mono (by omega)
  have hk2 : okk Y 585 5 2 := hk2.mono (by omega)
  have hk7 : okk Y 585 14 7 := hk7.mono (by omega)
  have hk8 : okk Y 585 15 8 := hk8.mono (by omega)
  have hk9 : okk Y 585 6 9 := hk9.mono (by omega)
  have hk12 : okk Y 585 2 12 := hk12.mono (by omega)
  have hk17 : okk Y 585 0 17 := hk17.mono (by omega)
  have hk550 : okk Y 585 10 550 := hk550.mono (by omega)
  have hk551 : okk Y 585 10 551 := hk551.mono (by omega)
  have hk552 : okk Y 585 10 552 := hk552.mono (by omega)
  have hk553 : okk Y 585 1 553 := hk553.mono (by omega)
  have hk555 : okk Y 585 4 555 := hk555.mono (by omega)
  have hk558 : okk Y 585 7 558 := hk558.mono (by omega)
  have hk565 : okk Y 585 4 565 := hk565.mono (by omega)
  have hk568 : okk Y 585 7 568 := hk568.mono (by omega)
  have hk575 : okk Y 585 4 575 := hk575.mono (by omega)
  have hk578 : okk Y 585 7 578 := hk578.mono (by omega)
  refine W.widen (k := 583) (n := 46147) (Nat.le_refl _) (Nat.le_refl _) ?_
  refine c_aast (kc := 15) (t := 7) hx hb hK hC hS hk8 (by decide) hk578 (by decide) rfl rfl (by rw [hY6]; decide) dX11_init_131 (fun H locs hC hS => ?_)
  refine lv_iinc (v := 3) (lv' := [(1, .int 3), (0, .ref (z + 1))]) hx hb dX11_init_132 hl (k := 0) rfl (by decide) (by decide) rfl (fun ls hl => ?_)
  refine lv_goto (tgt := 101) hx hb dX11_init_135 (by decide) ?_
  refine lv_iload_n hx hb dX11_init_101 rfl (lv_at hl 0 rfl) ?_
  refine lv_iconst (v := 4) hx hb dX11_init_102 (by decide) ?_
  refine lv_icmp_ge (tgt := 138) hx hb dX11_init_103 (by decide) (fun c => absurd c (by decide)) (fun _ => ?_)
  refine lv_aload_n hx hb dX11_init_106 rfl (lv_at hl 1 rfl) ?_
  refine c_getr (own := RX11) (C := RX11) (T := TX11) (N := 10) (kc := 8) (v := 7) hx hb hts hin11 hown hK hC h_this (by decide) rfl 1 (by decide) hw10 rfl rfl (Nat.le_of_ble_eq_true rfl) dX11_init_107 ?_
  refine lv_iload_n hx hb dX11_init_110 rfl (lv_at hl 0 rfl) ?_
  refine c_new (C := RX7) (T := TX7) (N := 4) (kc := 4) hx hb hts hin7 tyX7 tyX7_ok hown hw9 hw41 hw42 hK hC hS rfl (by decide) hY583 (by decide +kernel) (Nat.le_of_ble_eq_true rfl) (Nat.le_of_ble_eq_true rfl) dX11_init_111 (fun H hC hk585 hS => ?_)
  have hC : WC z 586 D cy Y (Mm.sr (i_X10_init 579 578 (Mm.sr (i_X7_init 576 575 (Mm.sr (i_X10_init 569 568 (Mm.sr (i_X7_init 566 565 (Mm.sr (i_X10_init 559 558 (Mm.sr (i_X7_init 556 555 (Mm.sr (i_X2_init 554 553 (Mm.sr (Mm.sr (Mm.sr (Mm.sr (i_X0_init (Mm.sr (i_X4_init 13 12 (Mm.sr (i_X9_init 10 9 (Mm.sr (Mm.sr (Mm.sr (i_X8_init 3 2 σ) 1 0 2) 1 1 7) 1 2 8)) 1 3 9)) 1 4 12)) 1 5 17) 1 6 550) 1 7 551) 1 8 552)) 1 9 553)) 7 (ix 0) 555)) 8 (ix 0) 558)) 7 (ix 1) 565)) 8 (ix 1) 568)) 7 (ix 2) 575)) 8 (ix 2) 578) H := hC
  have h_this : okk Y 586 8 1 := h_this.mono (by omega)
  have hk2 : okk Y 586 5 2 := hk2.mono (by omega)
  have hk7 : okk Y 586 14 7 := hk7.mono (by omega)
  have hk8 : okk Y 586 15 8 := hk8.mono (by omega)
  have hk9 : okk Y 586 6 9 := hk9.mono (by omega)
  have hk12 : okk Y 586 2 12 := hk12.mono (by omega)
  have hk17 : okk Y 586 0 17 := hk17.mono (by omega)
  have hk550 : okk Y 586 10 550 := hk550.mono (by omega)
  have hk551 : okk Y 586 10 551 := hk551.mono (by omega)
  have hk552 : okk Y 586 10 552 := hk552.mono (by omega)
  have hk553 : okk Y 586 1 553 := hk553.mono (by omega)
  have hk555 : okk Y 586 4 555 := hk555.mono (by omega)
  have hk558 : okk Y 586 7 558 := hk558.mono (by omega)
  have hk565 : okk Y 586 4 565 := hk565.mono (by omega)
  have hk568 : okk Y 586 7 568 := hk568.mono (by omega)
  have hk575 : okk Y 586 4 575 := hk575.mono (by omega)
  have hk578 : okk Y 586 7 578 := hk578.mono (by omega)
  have hk585 : okk Y 586 4 585 := hk585
  refine W.widen (k := 584) (n := 46151) (Nat.le_refl _) (Nat.le_refl _) ?_
  refine lv_dup hx hb dX11_init_114 rfl ?_
  refine c_call (va_runIN (As := []) (rest := [.ref (z + 585), .int 3, .ref (z + 7)]) ⟨hx, hb, hml, hown, hts⟩ (k_X7_init l z D cy Y hk585 hY584 hY585) ⟨va_cnB (host := "SkyClocks") 0 hts gX11_init_X7_init_n66 rfl rfl rfl hw43 hw42 (by decide +kernel) ⟨Nat.le_of_ble_eq_true rfl, Nat.le_of_ble_eq_true rfl⟩, rfl, hw44⟩ (c_PS hK hN hO hC) rfl rfl hl.1 rfl (lv_room (Nat.le_of_ble_eq_true rfl)) dX11_init_115 ⟨Nat.le_of_ble_eq_true rfl, Nat.le_of_ble_eq_true rfl⟩) hS (fun H locs hC hS => ?_)
  have hC : WC z 588 D cy Y (i_X7_init 586 585 (Mm.sr (i_X10_init 579 578 (Mm.sr (i_X7_init 576 575 (Mm.sr (i_X10_init 569 568 (Mm.sr (i_X7_init 566 565 (Mm.sr (i_X10_init 559 558 (Mm.sr (i_X7_init 556 555 (Mm.sr (i_X2_init 554 553 (Mm.sr (Mm.sr (Mm.sr (Mm.sr (i_X0_init (Mm.sr (i_X4_init 13 12 (Mm.sr (i_X9_init 10 9 (Mm.sr (Mm.sr (Mm.sr (i_X8_init 3 2 σ) 1 0 2) 1 1 7) 1 2 8)) 1 3 9)) 1 4 12)) 1 5 17) 1 6 550) 1 7 551) 1 8 552)) 1 9 553)) 7 (ix 0) 555)) 8 (ix 0) 558)) 7 (ix 1) 565)) 8 (ix 1) 568)) 7 (ix 2) 575)) 8 (ix 2) 578)) H := hC
  have h_this : okk Y 588 8 1 := h_this.mono (by omega)
  have hk2 : okk Y 588 5 2 := hk2.mono (by omega)
  have hk7 : okk Y 588 14 7 := hk7.mono (by omega)
  have hk8 : okk Y 588 15 8 := hk8.mono (by omega)
  have hk9 : okk Y 588 6 9 := hk9.mono (by omega)
  have hk12 : okk Y 588 2 12 := hk12.mono (by omega)
  have hk17 : okk Y 588 0 17 := hk17.mono (by omega)
  have hk550 : okk Y 588 10 550 := hk550.mono (by omega)
  have hk551 : okk Y 588 10 551 := hk551.mono (by omega)
  have hk552 : okk Y 588 10 552 := hk552.mono (by omega)
  have hk553 : okk Y 588 1 553 := hk553.mono (by omega)
  have hk555 : okk Y 588 4 555 := hk555.mono (by omega)
  have hk558 : okk Y 588 7 558 := hk558.mono (by omega)
  have hk565 : okk Y 588 4 565 := hk565.mono (by omega)
  have hk568 : okk Y 588 7 568 := hk568.mono (by omega)
  have hk575 : okk Y 588 4 575 := hk575.mono (by omega)
  have hk578 : okk Y 588 7 578 := hk578.mono (by omega)
  have hk585 : okk Y 588 4 585 := hk585.mono (by omega)
  refine W.widen (k := 586) (n := 46271) (Nat.le_refl _) (Nat.le_refl _) ?_
  refine c_aast (kc := 14) (t := 4) hx hb hK hC hS hk7 (by decide) hk585 (by decide) rfl rfl (by rw [hY5]; decide) dX11_init_118 (fun H locs hC hS => ?_)
  refine lv_aload_n hx hb dX11_init_119 rfl (lv_at hl 1 rfl) ?_
  refine c_getr (own := RX11) (C := RX11) (T := TX11) (N := 10) (kc := 8) (v := 8) hx hb hts hin11 hown hK hC h_this (by decide) rfl 2 (by decide) hw12 rfl rfl (Nat.le_of_ble_eq_true rfl) dX11_init_120 ?_
  refine lv_iload_n hx hb dX11_init_123 rfl (lv_at hl 0 rfl) ?_
  refine c_new (C := RX10) (T := TX10) (N := 3) (kc := 7) hx hb hts hin10 tyX10 tyX10_ok hown hw11 hw45 hw46 hK hC hS rfl (by decide) hY586 (by decide +kernel) (Nat.le_of_ble_eq_true rfl) (Nat.le_of_ble_eq_true rfl) dX11_init_124 (fun H hC hk588 hS => ?_)
  have hC : WC z 589 D cy Y (Mm.sr (i_X7_init 586 585 (Mm.sr (i_X10_init 579 578 (Mm.sr (i_X7_init 576 575 (Mm.sr (i_X10_init 569 568 (Mm.sr (i_X7_init 566 565 (Mm.sr (i_X10_init 559 558 (Mm.sr (i_X7_init 556 555 (Mm.sr (i_X2_init 554 553 (Mm.sr (Mm.sr (Mm.sr (Mm.sr (i_X0_init (Mm.sr (i_X4_init 13 12 (Mm.sr (i_X9_init 10 9 (Mm.sr (Mm.sr (Mm.sr (i_X8_init 3 2 σ) 1 0 2) 1 1 7) 1 2 8)) 1 3 9)) 1 4 12)) 1 5 17) 1 6 550) 1 7 551) 1 8 552)) 1 9 553)) 7 (ix 0) 555)) 8 (ix 0) 558)) 7 (ix 1) 565)) 8 (ix 1) 568)) 7 (ix 2) 575)) 8 (ix 2) 578)) 7 (ix 3) 585) H := hC
  have h_this : okk Y 589 8 1 := h_this.mono (by omega)
  have hk2 : okk Y 589 5 2 := hk2.mono (by omega)
  have hk7 : okk Y 589 14 7 := hk7.mono (by omega)
  have hk8 : okk Y 589 15 8 := hk8.mono (by omega)
  have hk9 : okk Y 589 6 9 := hk9.mono (by omega)
  have hk12 : okk Y 589 2 12 := hk12.mono (by omega)
  have hk17 : okk Y 589 0 17 := hk17.mono (by omega)
  have hk550 : okk Y 589 10 550 := hk550.mono (by omega)
  have hk551 : okk Y 589 10 551 := hk551.mono (by omega)
  have hk552 : okk Y 589 10 552 := hk552.mono (by omega)
  have hk553 : okk Y 589 1 553 := hk553.mono (by omega)
  have hk555 : okk Y 589 4 555 := hk555.mono (by omega)
  have hk558 : okk Y 589 7 558 := hk558.mono (by omega)
  have hk565 : okk Y 589 4 565 := hk565.mono (by omega)
  have hk568 : okk Y 589 7 568 := hk568.mono (by omega)
  have hk575 : okk Y 589 4 575 := hk575.mono (by omega)
  have hk578 : okk Y 589 7 578 := hk578.mono (by omega)
  have hk585 : okk Y 589 4 585 := hk585.mono (by omega)
  have hk588 : okk Y 589 7 588 := hk588
  refine W.widen (k := 587) (n := 46274) (Nat.le_refl _) (Nat.le_refl _) ?_
  refine lv_dup hx hb dX11_init_127 rfl ?_
  refine c_call (va_runIN (As := []) (rest := [.ref (z + 588), .int 3, .ref (z + 8)]) ⟨hx, hb, hml, hown, hts⟩ (k_X10_init l z D cy Y hk588 hY587 hY588 hY589 hY590 hY591 hY592) ⟨va_cnB (host := "SkyClocks") 0 hts gX11_init_X10_init_n67 rfl rfl rfl hw47 hw46 (by decide +kernel) ⟨Nat.le_of_ble_eq_true rfl, Nat.le_of_ble_eq_true rfl⟩, rfl, hw48⟩ (c_PS hK hN hO hC) rfl rfl hl.1 rfl (lv_room (Nat.le_of_ble_eq_true rfl)) dX11_init_128 ⟨Nat.le_of_ble_eq_true rfl, Nat.le_of_ble_eq_true rfl⟩) hS (fun H locs hC hS => ?_)
  have hC : WC z 595 D cy Y (i_X10_init 589 588 (Mm.sr (i_X7_init 586 585 (Mm.sr (i_X10_init 579 578 (Mm.sr (i_X7_init 576 575 (Mm.sr (i_X10_init 569 568 (Mm.sr (i_X7_init 566 565 (Mm.sr (i_X10_init 559 558 (Mm.sr (i_X7_init 556 555 (Mm.sr (i_X2_init 554 553 (Mm.sr (Mm.sr (Mm.sr (Mm.sr (i_X0_init (Mm.sr (i_X4_init 13 12 (Mm.sr (i_X9_init 10 9 (Mm.sr (Mm.sr (Mm.sr (i_X8_init 3 2 σ) 1 0 2) 1 1 7) 1 2 8)) 1 3 9)) 1 4 12)) 1 5 17) 1 6 550) 1 7 551) 1 8 552)) 1 9 553)) 7 (ix 0) 555)) 8 (ix 0) 558)) 7 (ix 1) 565)) 8 (ix 1) 568)) 7 (ix 2) 575)) 8 (ix 2) 578)) 7 (ix 3) 585)) H := hC
  have h_this : okk Y 595 8 1 := h_this.mono (by omega)
  have hk2 : okk Y 595 5 2 := hk2.mono (by omega)
  have hk7 : okk Y 595 14 7 := hk7.mono (by omega)
  have hk8 : okk Y 595 15 8 := hk8.mono (by omega)
  have hk9 : okk Y 595 6 9 := hk9.mono (by omega)
  have hk12 : okk Y 595 2 12 := hk12.mono (by omega)
  have hk17 : okk Y 595 0 17 := hk17.mono (by omega)
  have hk550 : okk Y 595 10 550 := hk550.mono (by omega)
  have hk551 : okk Y 595 10 551 := hk551.mono (by omega)
  have hk552 : okk Y 595 10 552 := hk552.mono (by omega)
  have hk553 : okk Y 595 1 553 := hk553.mono (by omega)
  have hk555 : okk Y 595 4 555 := hk555.mono (by omega)
  have hk558 : okk Y 595 7 558 := hk558.mono (by omega)
  have hk565 : okk Y 595 4 565 := hk565.mono (by omega)
  have hk568 : okk Y 595 7 568 := hk568.mono (by omega)
  have hk575 : okk Y 595 4 575 := hk575.mono (by omega)
  have hk578 : okk Y 595 7 578 := hk578.mono (by omega)
  have hk585 : okk Y 595 4 585 := hk585.mono (by omega)
  have hk588 : okk Y 595 7 588 := hk588.mono (by omega)
  refine W.widen (k := 593) (n := 56303) (Nat.le_refl _) (Nat.le_refl _) ?_
  refine c_aast (kc := 15) (t := 7) hx hb hK hC hS hk8 (by decide) hk588 (by decide) rfl rfl (by rw [hY6]; decide) dX11_init_131 (fun H locs hC hS => ?_)
  refine lv_iinc (v := 4) (lv' := [(1, .int 4), (0, .ref (z + 1))]) hx hb dX11_init_132 hl (k := 0) rfl (by decide) (by decide) rfl (fun ls hl => ?_)
  refine lv_goto (tgt := 101) hx hb dX11_init_135 (by decide) ?_
  refine lv_iload_n hx hb dX11_init_101 rfl (lv_at hl 0 rfl) ?_
  refine lv_iconst (v := 4) hx hb dX11_init_102 (by decide) ?_
  refine lv_icmp_ge (tgt := 138) hx hb dX11_init_103 (by decide) (fun _ => ?_) (fun c => absurd (by decide) c)
  exact c_ret hx hb hr hlocks hC hS dX11_init_138
