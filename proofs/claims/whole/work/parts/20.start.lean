/-- the pure half: the law's own function over the memory comes to true -/
def PureLaw : Prop := ∀ (N : Nat) (xs : Nat → Int32), N ≤ 3072 → ∃ fu nn : Nat, b_L_law_18 YF fu N xs nn 1 595 0 σF = some 1
set_option maxRecDepth 100000 in
set_option maxHeartbeats 400000000 in
theorem whole_open (hpure : PureLaw) {p : Program} {e : Env} {s : State} {m : MethodId} {below : List Frame} {meth : Method} {c : Code} (l : Launch) {b L : Nat} {xs : Nat → Int32} (hL : L ≤ 3072) (C0 : lw_At p s m meth c b L xs) : W p l e room_1 s m #[Value.ref b] below meth c s.heap [] 0 0 (lw_Z below #[Value.ref b] s) (entryFrame m ([Value.ref b] : List Value).toArray 4) := by
  obtain ⟨hx, hb, hr, hml, hown, htb, hX, hbl, hlocks, hgv⟩ := C0
  obtain ⟨z, hzs⟩ : ∃ z, s.heap.size = z + 1 := ⟨s.heap.size - 1, by omega⟩
  have hts := htb
  obtain ⟨c0, i0, hk0⟩ := u_known (C := RX0) (T := TX0) (N := 13) (n := 13) hts tl_X0 (hts (.instantiable RX0 13) tm_176)
  obtain ⟨c1, i1, hk1⟩ := u_known (C := RX2) (T := TX2) (N := 2) (n := 2) hts tl_X2 (hts (.instantiable RX2 2) tm_245)
  obtain ⟨c2, i2, hk2⟩ := u_known (C := RX4) (T := TX4) (N := 12) (n := 12) hts tl_X4 (hts (.instantiable RX4 12) tm_130)
  obtain ⟨c3, i3, hk3⟩ := u_known (C := RX5) (T := TX5) (N := 4) (n := 4) hts tl_X5 (hts (.instantiable RX5 4) tm_183)
  obtain ⟨c4, i4, hk4⟩ := u_known (C := RX7) (T := TX7) (N := 4) (n := 4) hts tl_X7 (hts (.instantiable RX7 4) tm_258)
  obtain ⟨c5, i5, hk5⟩ := u_known (C := RX8) (T := TX8) (N := 4) (n := 4) hts tl_X8 (hts (.instantiable RX8 4) tm_80)
  obtain ⟨c6, i6, hk6⟩ := u_known (C := RX9) (T := TX9) (N := 4) (n := 4) hts tl_X9 (hts (.instantiable RX9 4) tm_110)
  obtain ⟨c7, i7, hk7⟩ := u_known (C := RX10) (T := TX10) (N := 3) (n := 3) hts tl_X10 (hts (.instantiable RX10 3) tm_277)
  obtain ⟨c8, i8, hk8⟩ := u_known (C := RX11) (T := TX11) (N := 10) (n := 10) hts tl_X11 (hts (.instantiable RX11 10) tm_72)
  obtain ⟨c9, i9, hk9⟩ := u_known (C := RX12) (T := TX12) (N := 57) (n := 57) hts tl_X12 (hts (.instantiable RX12 57) tm_847)
  obtain ⟨dC, dI, hKc⟩ : ∃ (dC : Nat → ClassId) (dI : Nat → Nat → Nat), ∀ (k : Nat) (q : vw_C), vwCl[k]? = some q → u_Kn s q.1 q.2.1 q.2.2 (dC k) (dI k) := by
    refine ⟨fun k => match k with | 0 => c0 | 1 => c1 | 2 => c2 | 3 => c3 | 4 => c4 | 5 => c5 | 6 => c6 | 7 => c7 | 8 => c8 | _ => c9, fun k => match k with | 0 => i0 | 1 => i1 | 2 => i2 | 3 => i3 | 4 => i4 | 5 => i5 | 6 => i6 | 7 => i7 | 8 => i8 | _ => i9, ?_⟩
    intro k q hq
    match k, hq with
    | 0, hq => cases hq; exact hk0
    | 1, hq => cases hq; exact hk1
    | 2, hq => cases hq; exact hk2
    | 3, hq => cases hq; exact hk3
    | 4, hq => cases hq; exact hk4
    | 5, hq => cases hq; exact hk5
    | 6, hq => cases hq; exact hk6
    | 7, hq => cases hq; exact hk7
    | 8, hq => cases hq; exact hk8
    | 9, hq => cases hq; exact hk9
    | k + 10, hq => simp [vwCl] at hq
  obtain ⟨a0, ka0, co0, f01, f02, f03⟩ := Cond.arrayClass_spec (hts (.arrayClass .int) tm_104)
  obtain ⟨a1, ka1, co1, f11, f12, f13⟩ := Cond.arrayClass_spec (hts (.arrayClass .long) tm_201)
  obtain ⟨a2, ka2, co2, f21, f22, f23⟩ := Cond.arrayClass_spec (hts (.arrayClass .boolean) tm_1025)
  have hao3 : va_AO RX5 s := va_AO.of (htb (.arrayOver (.object RX5)) tm_182)
  obtain ⟨co3, a3, ka3, g31, -, g32, g33, g34⟩ := Cond.arrayOver_spec hao3
  have hao4 : va_AO RX7 s := va_AO.of (htb (.arrayOver (.object RX7)) tm_106)
  obtain ⟨co4, a4, ka4, g41, -, g42, g43, g44⟩ := Cond.arrayOver_spec hao4
  have hao5 : va_AO RX10 s := va_AO.of (htb (.arrayOver (.object RX10)) tm_108)
  obtain ⟨co5, a5, ka5, g51, -, g52, g53, g54⟩ := Cond.arrayOver_spec hao5
  have hao6 : va_AI s := htb (.arrayOver (.array .int)) tm_86
  obtain ⟨co6, a6, ka6, g61, -, g62, g63, g64⟩ := arrayOverA_spec hao6
  obtain ⟨cy, hcy⟩ : ∃ cy : Nat → ClassId, cy 0 = a0 ∧ cy 1 = a1 ∧ cy 2 = a2 ∧ cy 3 = a3 ∧ cy 4 = a4 ∧ cy 5 = a5 ∧ cy 6 = a6 := ⟨fun k => match k with | 0 => a0 | 1 => a1 | 2 => a2 | 3 => a3 | 4 => a4 | 5 => a5 | _ => a6, rfl, rfl, rfl, rfl, rfl, rfl, rfl⟩
  obtain ⟨rfl, rfl, rfl, rfl, rfl, rfl, rfl⟩ := hcy
  have hK : va_K (dC, dI) vwCl (tyA cy) s := by
    refine ⟨hKc, fun k q hq => ?_⟩
    match k, hq with
    | 0, hq => cases hq; exact ⟨fun n z => ⟨fun k h => (by cases h), ka0, f02, co0, f03⟩, f01⟩
    | 1, hq => cases hq; exact ⟨fun n z => ⟨fun k h => (by cases h), ka1, f12, co1, f13⟩, f11⟩
    | 2, hq => cases hq; exact ⟨fun n z => ⟨fun k h => (by cases h), ka2, f22, co2, f23⟩, f21⟩
    | 3, hq => cases hq; exact ⟨fun n z => ⟨fun k h => (by cases h), ka3, g32, co3, g33⟩, ka3, co3, g32, g33, g31, g34⟩
    | 4, hq => cases hq; exact ⟨fun n z => ⟨fun k h => (by cases h), ka4, g42, co4, g43⟩, ka4, co4, g42, g43, g41, g44⟩
    | 5, hq => cases hq; exact ⟨fun n z => ⟨fun k h => (by cases h), ka5, g52, co5, g53⟩, ka5, co5, g52, g53, g51, g54⟩
    | 6, hq => cases hq; exact ⟨fun n z => ⟨fun k h => (by cases h), ka6, g62, co6, g63⟩, g64⟩
    | k + 7, hq => simp at hq
  have hO : KO s := ⟨hao3, hao4, hao5, hao6⟩
  have hN : NW s := (List.forall_mem_cons.mpr ⟨va_Nw.of rfl (htb _ tm_89), (List.forall_mem_cons.mpr ⟨va_Nw.of rfl (htb _ tm_91), (List.forall_mem_cons.mpr ⟨va_Nw.of rfl (htb _ tm_92), (List.forall_mem_cons.mpr ⟨va_Nw.of rfl (htb _ tm_94), (List.forall_mem_cons.mpr ⟨va_Nw.of rfl (htb _ tm_117), (List.forall_mem_cons.mpr ⟨va_Nw.of rfl (htb _ tm_136), (List.forall_mem_cons.mpr ⟨va_Nw.of rfl (htb _ tm_137), (List.forall_mem_cons.mpr ⟨va_Nw.of rfl (htb _ tm_140), (List.forall_mem_cons.mpr ⟨va_Nw.of rfl (htb _ tm_205), (List.forall_mem_cons.mpr ⟨va_Nw.of rfl (htb _ tm_207), (List.forall_mem_cons.mpr ⟨va_Nw.of rfl (htb _ tm_252), (List.forall_mem_cons.mpr ⟨va_Nw.of rfl (htb _ tm_267), (List.forall_mem_cons.mpr ⟨va_Nw.of rfl (htb _ tm_287), (List.forall_mem_cons.mpr ⟨va_Nw.of rfl (htb _ tm_81), (List.forall_mem_cons.mpr ⟨va_Nw.of rfl (htb _ tm_111), (List.forall_mem_cons.mpr ⟨va_Nw.of rfl (htb _ tm_131), (List.forall_mem_cons.mpr ⟨va_Nw.of rfl (htb _ tm_184), (List.forall_mem_cons.mpr ⟨va_Nw.of rfl (htb _ tm_246), (List.forall_mem_cons.mpr ⟨va_Nw.of rfl (htb _ tm_259), (List.forall_mem_cons.mpr ⟨va_Nw.of rfl (htb _ tm_278), (List.forall_mem_cons.mpr ⟨va_Nw.of rfl (htb _ tm_283), (List.forall_mem_cons.mpr ⟨va_Nw.of rfl (htb _ tm_479), (fun _ h => absurd h List.not_mem_nil)⟩)⟩)⟩)⟩)⟩)⟩)⟩)⟩)⟩)⟩)⟩)⟩)⟩)⟩)⟩)⟩)⟩)⟩)⟩)⟩)⟩)⟩)
  have hS : va_S (Az z) s.heap s.heap [] := va_S.rf
  have hC : WC z 1 (dC, dI) cy YF σz s.heap := ⟨fun k q hq => absurd (wl_inv hq).1 (by omega), hzs, by omega, fun o _ => ⟨rfl, rfl, rfl⟩⟩
  have hl := lv_entry ([.ref b]) (n := 4) (Nat.le_of_ble_eq_true rfl)
  rw [lg_entry_eq]
  generalize (lg_sl ([.ref b]) ++ List.replicate (4 - (lg_sl ([.ref b])).length) Slot.unset).toArray = ls at hl ⊢
  have hl : lv_has ls 4 [(0, .ref b)] := hl
  refine c_new (C := RX11) (T := TX11) (N := 10) (kc := 8) (len := 0) hx hb hts tl_X11 tyX11 tyX11_ok hown (hts (.classLink RL 7 RX11) tm_71) (hts (.instantiable RX11 10) tm_72) (hts (.initialized RX11) tm_56) hK hC hS rfl (by decide) rfl (by decide +kernel) (Nat.le_of_ble_eq_true rfl) (Nat.le_of_ble_eq_true rfl) dL_law_0 (fun H hC hk hS => ?_)
  refine W.widen (k := 1) (n := 10) (Nat.le_refl _) (Nat.le_refl _) ?_
  refine lv_dup hx hb dL_law_3 rfl ?_
  refine c_call (va_runI (As := []) (rest := [.ref (z + 1)]) ⟨hx, hb, hml, hown, hts⟩ (k_X11_init l z (dC, dI) cy YF hk rfl rfl rfl rfl rfl rfl rfl rfl rfl rfl rfl rfl rfl rfl rfl rfl rfl rfl rfl rfl rfl rfl rfl rfl rfl rfl rfl rfl rfl rfl rfl rfl rfl rfl rfl rfl rfl rfl rfl rfl rfl rfl rfl rfl rfl rfl rfl rfl rfl rfl rfl rfl rfl rfl rfl rfl rfl rfl rfl rfl rfl rfl rfl rfl rfl rfl rfl rfl rfl YF_p) (cwI 0 hts gT_X11_init rfl rfl rfl (hts (.initialized RX11) tm_56) (hts (.methodLink RL 9 yX11_init) tm_73) (hts (.instanceMethod yX11_init) tm_74) rfl (by decide +kernel) ⟨Nat.le_of_ble_eq_true rfl, Nat.le_of_ble_eq_true rfl⟩) (c_PS hK hN hO hC) rfl rfl hl.1 rfl (lv_room (Nat.le_of_ble_eq_true rfl)) dL_law_4 ⟨Nat.le_of_ble_eq_true rfl, Nat.le_of_ble_eq_true rfl⟩) hS (fun H locs hC hS => ?_)
  refine W.widen (k := 594) (n := 56313) (Nat.le_refl _) (Nat.le_refl _) ?_
  refine lv_astore_n (lv' := [(1, .ref (z + 1)), (0, .ref b)]) hx hb dL_law_7 rfl hl (by decide) rfl (fun ls hl => ?_)
  refine c_new (C := RX12) (T := TX12) (N := 57) (kc := 9) (len := 0) hx hb hts tl_X12 tyX12 tyX12_ok hown (hts (.classLink RL 10 RX12) tm_846) (hts (.instantiable RX12 57) tm_847) (hts (.initialized RX12) tm_65) hK hC hS rfl (by decide) rfl (by decide +kernel) (Nat.le_of_ble_eq_true rfl) (Nat.le_of_ble_eq_true rfl) dL_law_8 (fun H hC hk hS => ?_)
  refine W.widen (k := 595) (n := 56370) (Nat.le_refl _) (Nat.le_refl _) ?_
  refine lv_dup hx hb dL_law_11 rfl ?_
  refine c_call (va_runI (As := []) (rest := [.ref (z + 595)]) ⟨hx, hb, hml, hown, hts⟩ (k_X12_init l z (dC, dI) cy YF hk rfl rfl rfl rfl rfl rfl rfl rfl rfl rfl rfl rfl rfl rfl rfl rfl rfl rfl rfl rfl rfl rfl rfl rfl rfl rfl rfl rfl rfl rfl rfl rfl rfl rfl rfl rfl rfl rfl rfl) (cwI 0 hts gT_X12_init rfl rfl rfl (hts (.initialized RX12) tm_65) (hts (.methodLink RL 12 yX12_init) tm_848) (hts (.instanceMethod yX12_init) tm_849) rfl (by decide +kernel) ⟨Nat.le_of_ble_eq_true rfl, Nat.le_of_ble_eq_true rfl⟩) (c_PS hK hN hO hC) rfl rfl hl.1 rfl (lv_room (Nat.le_of_ble_eq_true rfl)) dL_law_12 ⟨Nat.le_of_ble_eq_true rfl, Nat.le_of_ble_eq_true rfl⟩) hS (fun H locs hC hS => ?_)
  refine W.widen (k := 634) (n := 83699) (Nat.le_refl _) (Nat.le_refl _) ?_
  refine lv_astore_n (lv' := [(2, .ref (z + 595)), (1, .ref (z + 1)), (0, .ref b)]) hx hb dL_law_15 rfl hl (by decide) rfl (fun ls hl => ?_)
  refine lv_iconst (v := 0) hx hb dL_law_16 (by decide) ?_
  refine lv_istore_n (lv' := [(3, .int 0), (2, .ref (z + 595)), (1, .ref (z + 1)), (0, .ref b)]) hx hb dL_law_17 rfl hl (by decide) rfl (fun ls hl => ?_)
  have hW : WH z 635 (dC, dI) cy YF σF H := ⟨hC.1, tyF, by have h9 : H.size = z + 635 := hC.2.1; omega⟩
  obtain ⟨fu, nn, hf⟩ := hpure L xs hL
  exact law_loop l z 635 (dC, dI) cy YF hx hb hr hml hown hts hX hbl hzs hlocks hK hN nn 1 595 0 σF ⟨by decide, by decide, rfl⟩ ⟨by decide, by decide, rfl⟩ hf H locs ls hW hS (lv_sub hl [3, 2, 1, 0] rfl)
