/-! THE TEXTS' MEMBERS: length and charAt of a constant text, walked by hand. -/
def zyCod : MethodName := ⟨"java/lang/String", "coder", "()B"⟩
def zyLat : MethodName := ⟨"java/lang/String", "isLatin1", "()Z"⟩
def zyLch : MethodName := ⟨"java/lang/StringLatin1", "charAt", "([BI)C"⟩
def zyChk : MethodName := ⟨"java/lang/String", "checkIndex", "(II)V"⟩
def zyPre : MethodName := ⟨"jdk/internal/util/Preconditions", "checkIndex", "(IILjava/util/function/BiFunction;)I"⟩
def zjrm (k : Nat) : Room := { frames := k, cells := 0, slots := 0, locals := 30 * k }
def zJPc (A : Nat → Prop) (pa : Nat → Nat) (X : zX) (adV : Nat → Nat) (as : List Value) : Array Value → State → Prop := fun v U => v = as.toArray ∧ zEnv A pa X adV U
def zJQ (o0 : Option Value → Prop) : Array Value → State → Outcome → State → Prop := fun _ st o t => ∃ v, o0 v ∧ o = .returned v ∧ t.heap = st.heap
theorem zJPc_blind {A : Nat → Prop} {pa : Nat → Nat} {X : zX} {adV : Nat → Nat} {as : List Value} : FrameBlind (zJPc A pa X adV as) := by
  intro a U g mk ⟨h1, h3⟩
  exact ⟨h1, h3.same rfl rfl⟩
theorem zj_words : Cond.instanceMethod zyCod ∈ lw_tbl ∧ Cond.selects zyCod.cls zyCod zyCod ∈ lw_tbl ∧ Cond.code zyCod prog_14_method_152_code 1 (some .byte) ∈ lw_tbl ∧ Cond.methodLink "java/lang/String" 335 zyCod ∈ lw_tbl ∧
    Cond.instanceMethod zyLat ∈ lw_tbl ∧ Cond.selects zyLat.cls zyLat zyLat ∈ lw_tbl ∧ Cond.code zyLat prog_14_method_154_code 1 (some .boolean) ∈ lw_tbl ∧ Cond.methodLink "java/lang/String" 492 zyLat ∈ lw_tbl ∧
    Cond.static zyLch ∈ lw_tbl ∧ Cond.code zyLch prog_15_method_2_code 2 (some .char) ∈ lw_tbl ∧ Cond.methodLink "java/lang/String" 495 zyLch ∈ lw_tbl ∧ Cond.initialized "java/lang/StringLatin1" ∈ lw_tbl ∧
    Cond.static zyChk ∈ lw_tbl ∧ Cond.code zyChk prog_14_method_155_code 2 none ∈ lw_tbl ∧ Cond.methodLink "java/lang/StringLatin1" 9 zyChk ∈ lw_tbl ∧
    Cond.static zyPre ∈ lw_tbl ∧ Cond.code zyPre prog_18_method_11_code 3 (some .int) ∈ lw_tbl ∧ Cond.methodLink "java/lang/String" 1059 zyPre ∈ lw_tbl ∧ Cond.initialized "jdk/internal/util/Preconditions" ∈ lw_tbl ∧
    Cond.fieldLink "java/lang/String" 38 "java/lang/String" "COMPACT_STRINGS" "Z" ∈ lw_tbl ∧ Cond.fieldLink "java/lang/String" 1053 "jdk/internal/util/Preconditions" "SIOOBE_FORMATTER" "Ljava/util/function/BiFunction;" ∈ lw_tbl ∧ Cond.fieldLink "java/lang/String" 9 "java/lang/String" "value" "[B" ∈ lw_tbl ∧ Cond.fieldLink "java/lang/String" 15 "java/lang/String" "coder" "B" ∈ lw_tbl ∧
    Cond.code zyLen prog_14_method_54_code 1 (some .int) ∈ lw_tbl ∧ Cond.code zyChr prog_14_method_56_code 2 (some .char) ∈ lw_tbl ∧ Cond.initialized "java/lang/String" ∈ lw_tbl := by
  refine ⟨?_, ?_, ?_, ?_, ?_, ?_, ?_, ?_, ?_, ?_, ?_, ?_, ?_, ?_, ?_, ?_, ?_, ?_, ?_, ?_, ?_, ?_, ?_, ?_, ?_, ?_⟩ <;> decide +kernel
section ZJ
variable {p : Program} {l : Launch} {e : Env} {R : Room} {s : State} {m : MethodId} {args : Array Value} {below : List Frame} {meth : Method} {c : Code} {cc : ByteArray} {Q : State → Prop} {D : va_G} {A : Nat → Prop} {pa : Nat → Nat} {ws0 : va_W} {σ0 rf : zMem}
variable {pc nL i j k ml : Nat} {X : zX} {adV : Nat → Nat} {own : String} {y : MethodName} {b : ByteArray} {ret : Option FieldType} {as : List Value} {mls : Array Slot} {rest : List Value} {o0 : Option Value → Prop} {Ts : List Cond}
theorem zj_good (hBT : ∀ w ∈ zBig, w ∈ Ts) (hco : Cond.code y b ml ret ∈ lw_tbl) (lw : List Cond) (h : ∀ w ∈ lw, w ∈ lw_tbl ∧ goodWord w = true) : GoodIn Ts (lw ++ (Cond.code y b ml ret :: zBig)) := by
  intro w hw
  rcases List.mem_append.mp hw with h1 | h1
  · exact ⟨hBT _ (zBig_in (h w h1).1 (h w h1).2), good_of_word (h w h1).2⟩
  · rcases List.mem_cons.mp h1 with rfl | h2
    · exact ⟨hBT _ (zBig_in hco rfl), good_of_word rfl⟩
    · exact ⟨hBT _ h2, good_of_word (List.mem_filter.mp h2).2⟩
theorem zjV (hx : p.tables.exec = Jvm.exec) (hb : c.code = cc) (hown : s.vm.findClass own = some m.cls) (hml : c.maxLocals = nL) (hsz : mls.size = nL) (hts : ∀ w ∈ Ts, w.before args s = true) (hBT : ∀ w ∈ zBig, w ∈ Ts) (henv : zEnv A pa X adV s) (hj : j < 15) (hy : y.cls = "java/lang/String") (hin : Cond.instanceMethod y ∈ lw_tbl) (hse : Cond.selects y.cls y y ∈ lw_tbl) (hco : Cond.code y b ml ret ∈ lw_tbl) (hml3 : ml ≤ 3) (hpar : (parseMethodDescriptor y.desc).map (fun d => d.parameters.length) = some as.length) (hM : Met l y (Cond.code y b ml ret :: zBig) (zjrm k) (zJPc A pa X adV (.ref (pa (4 + j)) :: as)) (zJQ o0) 0 0 (fun _ => False)) (hlk : Cond.methodLink own i y ∈ lw_tbl) (hfr : k + 1 ≤ R.frames) (hlo : 30 * k + 22 ≤ R.locals) (hsum : (rest.map fun v => v.category).sum ≤ 8) (hd : decode cc pc = .ok (.invokevirtual i, 3))
    (kk : ∀ v : Option Value, o0 v → W p l e R s m args below meth c s.heap [] 0 0 Q (F0 m (pc + 3) mls (v.toList ++ rest))) : W p l e R s m args below meth c s.heap [] 0 0 Q (F0 m pc mls (as.reverse ++ .ref (pa (4 + j)) :: rest)) := by
  have hS : va_S A s.heap s.heap [] := va_S.rf
  have hrcv := vk_recv henv.2.2.2.2.2.2.1 hj hS
  refine zcall_go (va_runV (nL := nL) (n := as.length) (C := y.cls) (rest := rest) ⟨hx, hb, hml, hown, hts⟩ hM (cwV as.length hts (zj_good hBT hco [.methodLink own i y, .instanceMethod y, .selects y.cls y y, .initialized y.cls] (fun w hw => by
    rcases List.mem_cons.mp hw with rfl | hw
    · exact ⟨hlk, rfl⟩
    rcases List.mem_cons.mp hw with rfl | hw
    · exact ⟨hin, rfl⟩
    rcases List.mem_cons.mp hw with rfl | hw
    · exact ⟨hse, rfl⟩
    rcases List.mem_cons.mp hw with rfl | hw
    · rw [hy]; exact ⟨zstr_words.2.2.2.2, rfl⟩
    · cases hw)) rfl rfl rfl ⟨rfl, by rw [hy]; decide, by rw [hy]; decide, hpar⟩ ⟨hfr, by show 8 + (ml + 11) + 30 * k ≤ _; omega⟩) ⟨zJPc_blind, by rw [hy]; exact hrcv, fun U hU hW => ⟨rfl, henv.next hS hU hW⟩⟩ rfl rfl hsz rfl (lv_room hsum) hd ⟨Nat.zero_le _, Nat.zero_le _⟩) (fun v st₀ t H1 L h0 ht hvm hq hloc => ?_)
  obtain ⟨v', hz, hv, hh⟩ := hq
  cases hv
  have hL : L = [] := List.eq_nil_iff_forall_not_mem.mpr (fun q hq => hloc q hq)
  subst hL
  have e : H1 = s.heap := by rw [← ht, hh, h0]
  subst e
  exact kk _ hz
theorem zjS (hx : p.tables.exec = Jvm.exec) (hb : c.code = cc) (hown : s.vm.findClass own = some m.cls) (hml : c.maxLocals = nL) (hsz : mls.size = nL) (hts : ∀ w ∈ Ts, w.before args s = true) (hBT : ∀ w ∈ zBig, w ∈ Ts) (henv : zEnv A pa X adV s) (hne : y.cls ≠ "java/lang/invoke/MethodHandle" ∧ y.cls ≠ "java/lang/invoke/VarHandle") (hin : Cond.static y ∈ lw_tbl) (hini : Cond.initialized y.cls ∈ lw_tbl) (hco : Cond.code y b ml ret ∈ lw_tbl) (hml3 : ml ≤ 3) (hpar : (parseMethodDescriptor y.desc).map (fun d => d.parameters.length) = some as.length) (hM : Met l y (Cond.code y b ml ret :: zBig) (zjrm k) (zJPc A pa X adV as) (zJQ o0) 0 0 (fun _ => False)) (hlk : Cond.methodLink own i y ∈ lw_tbl) (hfr : k + 1 ≤ R.frames) (hlo : 30 * k + 22 ≤ R.locals) (hsum : (rest.map fun v => v.category).sum ≤ 8) (hd : decode cc pc = .ok (.invokestatic i, 3))
    (kk : ∀ v : Option Value, o0 v → W p l e R s m args below meth c s.heap [] 0 0 Q (F0 m (pc + 3) mls (v.toList ++ rest))) : W p l e R s m args below meth c s.heap [] 0 0 Q (F0 m pc mls (as.reverse ++ rest)) := by
  have hS : va_S A s.heap s.heap [] := va_S.rf
  refine zcall_go (va_runS (nL := nL) (n := as.length) (rest := rest) ⟨hx, hb, hml, hown, hts⟩ hM (va_cwS as.length hts (zj_good hBT hco [.methodLink own i y, .static y, .initialized y.cls] (fun w hw => by
    rcases List.mem_cons.mp hw with rfl | hw
    · exact ⟨hlk, rfl⟩
    rcases List.mem_cons.mp hw with rfl | hw
    · exact ⟨hin, rfl⟩
    rcases List.mem_cons.mp hw with rfl | hw
    · exact ⟨hini, rfl⟩
    · cases hw)) rfl rfl rfl ⟨hne.1, hne.2, hpar⟩ ⟨hfr, by show 8 + (ml + 11) + 30 * k ≤ _; omega⟩) ⟨zJPc_blind, fun U hU hW => ⟨rfl, henv.next hS hU hW⟩⟩ rfl rfl hsz rfl (lv_room hsum) hd ⟨Nat.zero_le _, Nat.zero_le _⟩) (fun v st₀ t H1 L h0 ht hvm hq hloc => ?_)
  obtain ⟨v', hz, hv, hh⟩ := hq
  cases hv
  have hL : L = [] := List.eq_nil_iff_forall_not_mem.mpr (fun q hq => hloc q hq)
  subst hL
  have e : H1 = s.heap := by rw [← ht, hh, h0]
  subst e
  exact kk _ hz
end ZJ
theorem zchars_ok : ∀ j, j < 15 → (zchars (j + 4)).length < 256 ∧ ∀ k, k < (zchars (j + 4)).length → (((zchars (j + 4)).getD k 0 &&& 255).toUInt32 % 65536).toInt32 = (zchars (j + 4)).getD k 0 ∧ narrow .char (.int ((zchars (j + 4)).getD k 0)) = .int ((zchars (j + 4)).getD k 0) := by decide +kernel
theorem zch_len {j : Nat} (hj : j < 15) : ((List.range 15).map (fun i => (zchars (i + 4)).length)).getD j 0 = (zchars (j + 4)).length := by
  rw [List.getD_eq_getElem?_getD, List.getElem?_map, List.getElem?_range hj]
  rfl
theorem zch_get {j : Nat} (hj : j < 15) : ((List.range 15).map (fun i => zchars (i + 4))).getD j [] = zchars (j + 4) := by
  rw [List.getD_eq_getElem?_getD, List.getElem?_map, List.getElem?_range hj]
  rfl
theorem zclt {i : Int32} {n : Nat} (h1 : 0 ≤ i.toInt) (h2 : i.toInt < n) : i.toNatClampNeg < n := by
  have e1 : i.toNatClampNeg = i.toInt.toNat := rfl
  omega
section ZJC
variable {A : Nat → Prop} {pa : Nat → Nat} {X : zX} {adV : Nat → Nat}
set_option maxRecDepth 20000 in
theorem zc_pre (l : Launch) (i n : Int32) (hi : 0 ≤ i.toInt) (hn : i.toInt < n.toInt) (r : Value) (hr : r = .null ∨ ∃ a, r = .ref a) : Met l zyPre (Cond.code zyPre prog_18_method_11_code 3 (some .int) :: zBig) (zjrm 0) (zJPc A pa X adV [.int i, .int n, r]) (zJQ (fun v => v = some (.int i))) 0 0 (fun _ => False) := by
  refine Met.ofW (cc := prog_18_method_11_code) (maxL := 3) (ret := some .int) (by decide) rfl ?_
  intro p e s m args below meth c s₁ B hml hv
  obtain ⟨rfl, henv⟩ := hv
  have hx := B.exec
  have hb := B.bytes
  have hrt := B.returns
  have hlocks := B.notSynchronized
  rw [lg_entry_eq]
  have hcat : r.category = 1 := by rcases hr with rfl | ⟨a, rfl⟩ <;> rfl
  have e1 : lg_sl [.int i, .int n, r] = [.val (.int i), .val (.int n), .val r] := by
    show ([Slot.val (.int i)] ++ ([Slot.val (.int n)] ++ ((if r.category = 2 then [Slot.val r, Slot.second] else [Slot.val r]) ++ []))) = _
    rw [hcat]
    rfl
  have hl := lv_entry [.int i, .int n, r] (n := 3) (by rw [e1]; exact Nat.le_refl 3)
  generalize (lg_sl [.int i, .int n, r] ++ List.replicate (3 - (lg_sl [.int i, .int n, r]).length) Slot.unset).toArray = ls at hl ⊢
  have h0 : ls[0]? = some (.val (.int i)) := hl.2.2 (0, .int i) (by simp [lv_args])
  have h1 : ls[1]? = some (.val (.int n)) := hl.2.2 (1, .int n) (by simp [lv_args, Value.category])
  refine lv_iload_n hx hb (show decode prog_18_method_11_code 0 = .ok (.iload_n 0, 1) by decide +kernel) rfl h0 ?_
  refine lv_if_lt (tgt := 9) hx hb (show decode prog_18_method_11_code 1 = .ok (.ifCond .lt 8, 3) by decide +kernel) (by decide) (fun q => absurd ((zn_lt0 i).mp q) (by omega)) (fun _ => ?_)
  refine lv_iload_n hx hb (show decode prog_18_method_11_code 4 = .ok (.iload_n 0, 1) by decide +kernel) rfl h0 ?_
  refine lv_iload_n hx hb (show decode prog_18_method_11_code 5 = .ok (.iload_n 1, 1) by decide +kernel) rfl h1 ?_
  refine lv_icmp_lt (tgt := 16) hx hb (show decode prog_18_method_11_code 6 = .ok (.if_icmp .lt 10, 3) by decide +kernel) (by decide) (fun _ => ?_) (fun q => absurd ((zn_lt i n).mpr hn) q)
  refine lv_iload_n hx hb (show decode prog_18_method_11_code 16 = .ok (.iload_n 0, 1) by decide +kernel) rfl h0 ?_
  exact W.iret (v := i) hx hb hrt (fun t ht hW => ⟨_, rfl, rfl, ht⟩) (fun q hq => by cases hq) (show decode prog_18_method_11_code 17 = .ok (.ireturn, 1) by decide +kernel)
set_option maxRecDepth 20000 in
theorem zc_chk (l : Launch) (i n : Int32) (hi : 0 ≤ i.toInt) (hn : i.toInt < n.toInt) : Met l zyChk (Cond.code zyChk prog_14_method_155_code 2 none :: zBig) (zjrm 1) (zJPc A pa X adV [.int i, .int n]) (zJQ (fun v => v = none)) 0 0 (fun _ => False) := by
  obtain ⟨-, -, -, -, -, -, -, -, -, -, -, -, -, -, -, w16, w17, w18, w19, -, w21, -⟩ := zj_words
  refine Met.ofW (cc := prog_14_method_155_code) (maxL := 2) (ret := none) (by decide) rfl ?_
  intro p e s m args below meth c s₁ B hml hv
  obtain ⟨rfl, henv⟩ := hv
  have hx := B.exec
  have hb := B.bytes
  have hrt := B.returns
  have hlocks := B.notSynchronized
  have hts := atoms_spec (ws := Cond.code zyChk prog_14_method_155_code 2 none :: zBig) B.pre
  have hown : s.vm.findClass "java/lang/String" = some m.cls := findClass_of_methodNamed B.named
  have hS : va_S A s.heap s.heap [] := va_S.rf
  rw [lg_entry_eq]
  have hl := lv_entry [.int i, .int n] (n := 2) (Nat.le_of_ble_eq_true rfl)
  generalize (lg_sl [.int i, .int n] ++ List.replicate (2 - (lg_sl [.int i, .int n]).length) Slot.unset).toArray = ls at hl ⊢
  have hl : lv_has ls 2 [(0, .int i), (1, .int n)] := hl
  refine lv_iload_n hx hb (show decode prog_14_method_155_code 0 = .ok (.iload_n 0, 1) by decide +kernel) rfl (lv_at hl 0 rfl) ?_
  refine lv_iload_n hx hb (show decode prog_14_method_155_code 1 = .ok (.iload_n 1, 1) by decide +kernel) rfl (lv_at hl 1 rfl) ?_
  have go : ∀ r : Value, (r = .null ∨ ∃ a, r = .ref a) → va_Z "jdk/internal/util/Preconditions" "SIOOBE_FORMATTER" "Ljava/util/function/BiFunction;" r A s s.heap → W p l e (headSpec (Cond.code zyChk prog_14_method_155_code 2 none :: zBig) (zjrm 1)).room s m ([.int i, .int n] : List Value).toArray below meth c s.heap [] 0 0 (MQ below (zJQ (fun v => v = none)) ([.int i, .int n] : List Value).toArray s 0 0 (fun _ => False)) (F0 m 2 ls [.int n, .int i]) := by
    intro r hr hZ
    refine va_gets hx hb hZ hS hown (hts _ (List.mem_cons_of_mem _ (zBig_in w21 rfl))) (fun _ h => h) (show decode prog_14_method_155_code 2 = .ok (.getstatic 1053, 3) by decide +kernel) ?_
    refine zjS (as := [.int i, .int n, r]) (rest := []) hx hb hown hml hl.1 hts (fun w hw => List.mem_cons_of_mem _ hw) henv (by decide) w16 w19 w17 (by decide) (show _ = some 3 by decide +kernel) (zc_pre l i n hi hn r hr) w18 (Nat.le_refl _) (by decide) (by decide) (show decode prog_14_method_155_code 5 = .ok (.invokestatic 1059, 3) by decide +kernel) (fun v hv => ?_)
    subst hv
    refine lv_pop hx hb (show decode prog_14_method_155_code 8 = .ok (.pop, 1) by decide +kernel) rfl ?_
    exact W.vret hx hb hrt (fun t ht hW => ⟨_, rfl, rfl, ht⟩) (fun q hq => by cases hq) (show decode prog_14_method_155_code 9 = .ok (.return_, 1) by decide +kernel)
  rcases henv.2.2.2.2.2.1.2 with hZ | ⟨t, hZ⟩
  · exact go _ (Or.inl rfl) hZ
  · exact go _ (Or.inr ⟨t, rfl⟩) hZ
set_option maxRecDepth 20000 in
theorem zc_lch (l : Launch) (j : Nat) (hj : j < 15) (i : Int32) (hi : 0 ≤ i.toInt) (hn : i.toInt < (zchars (j + 4)).length) : Met l zyLch (Cond.code zyLch prog_15_method_2_code 2 (some .char) :: zBig) (zjrm 2) (zJPc A pa X adV [.ref (adV j), .int i]) (zJQ (fun v => v = some (.int ((zchars (j + 4)).getD i.toNatClampNeg 0)))) 0 0 (fun _ => False) := by
  obtain ⟨-, -, -, -, -, -, -, -, -, -, -, -, w13, w14, w15, -, -, -, -, -, -, -, -, -, -, w26⟩ := zj_words
  obtain ⟨hsm, hall⟩ := zchars_ok j hj
  refine Met.ofW (cc := prog_15_method_2_code) (maxL := 2) (ret := some .char) (by decide) rfl ?_
  intro p e s m args below meth c s₁ B hml hv
  obtain ⟨rfl, henv⟩ := hv
  have hx := B.exec
  have hb := B.bytes
  have hrt := B.returns
  have hlocks := B.notSynchronized
  have hts := atoms_spec (ws := Cond.code zyLch prog_15_method_2_code 2 (some .char) :: zBig) B.pre
  have hown : s.vm.findClass "java/lang/StringLatin1" = some m.cls := findClass_of_methodNamed B.named
  have hS : va_S A s.heap s.heap [] := va_S.rf
  have hT := (henv.2.2.2.2.2.2.1.1 j hj).2.2.2
  rw [zch_len hj, zch_get hj] at hT
  rw [lg_entry_eq]
  have hl := lv_entry [.ref (adV j), .int i] (n := 2) (Nat.le_of_ble_eq_true rfl)
  generalize (lg_sl [.ref (adV j), .int i] ++ List.replicate (2 - (lg_sl [.ref (adV j), .int i]).length) Slot.unset).toArray = ls at hl ⊢
  have hl : lv_has ls 2 [(0, .ref (adV j)), (1, .int i)] := hl
  have hlen : (Int32.ofNat (zchars (j + 4)).length).toInt = (zchars (j + 4)).length := zn_ofNat (by omega)
  refine lv_iload_n hx hb (show decode prog_15_method_2_code 0 = .ok (.iload_n 1, 1) by decide +kernel) rfl (lv_at hl 1 rfl) ?_
  refine lv_aload_n hx hb (show decode prog_15_method_2_code 1 = .ok (.aload_n 0, 1) by decide +kernel) rfl (lv_at hl 0 rfl) ?_
  refine va_tlen hx hb hT hS rfl (show decode prog_15_method_2_code 2 = .ok (.arraylength, 1) by decide +kernel) ?_
  refine zjS (as := [.int i, .int (Int32.ofNat (zchars (j + 4)).length)]) (rest := []) hx hb hown hml hl.1 hts (fun w hw => List.mem_cons_of_mem _ hw) henv (by decide) w13 w26 w14 (by decide) (show _ = some 2 by decide +kernel) (zc_chk l i _ hi (by rw [hlen]; exact hn)) w15 (Nat.le_refl _) (by decide) (by decide) (show decode prog_15_method_2_code 3 = .ok (.invokestatic 9, 3) by decide +kernel) (fun v hv => ?_)
  subst hv
  refine lv_aload_n hx hb (show decode prog_15_method_2_code 6 = .ok (.aload_n 0, 1) by decide +kernel) rfl (lv_at hl 0 rfl) ?_
  refine lv_iload_n hx hb (show decode prog_15_method_2_code 7 = .ok (.iload_n 1, 1) by decide +kernel) rfl (lv_at hl 1 rfl) ?_
  refine va_tb hx hb hT hS (zn_vpin hi hn) rfl (show decode prog_15_method_2_code 8 = .ok (.baload, 1) by decide +kernel) ?_
  refine lv_sipush (v := 255) hx hb (show decode prog_15_method_2_code 9 = .ok (.sipush 255, 3) by decide +kernel) (by decide) ?_
  refine lv_iand hx hb (show decode prog_15_method_2_code 12 = .ok (.iand, 1) by decide +kernel) ?_
  obtain ⟨k1, k2⟩ := hall i.toNatClampNeg (zclt hi hn)
  refine lv_i2c hx hb (show decode prog_15_method_2_code 13 = .ok (.i2c, 1) by decide +kernel) k1 ?_
  exact W.zret (ty := .char) hx hb hrt k2 (fun t ht hW => ⟨_, rfl, rfl, ht⟩) (fun q hq => by cases hq) (show decode prog_15_method_2_code 14 = .ok (.ireturn, 1) by decide +kernel)
set_option maxRecDepth 20000 in
theorem zc_cod (l : Launch) (j : Nat) (hj : j < 15) : Met l zyCod (Cond.code zyCod prog_14_method_152_code 1 (some .byte) :: zBig) (zjrm 0) (zJPc A pa X adV [.ref (pa (4 + j))]) (zJQ (fun v => v = some (.int 0))) 0 0 (fun _ => False) := by
  obtain ⟨-, -, -, -, -, -, -, -, -, -, -, -, -, -, -, -, -, -, -, w20, -, -, w23, -⟩ := zj_words
  refine Met.ofW (cc := prog_14_method_152_code) (maxL := 1) (ret := some .byte) (by decide) rfl ?_
  intro p e s m args below meth c s₁ B hml hv
  obtain ⟨rfl, henv⟩ := hv
  have hx := B.exec
  have hb := B.bytes
  have hrt := B.returns
  have hlocks := B.notSynchronized
  have hts := atoms_spec (ws := Cond.code zyCod prog_14_method_152_code 1 (some .byte) :: zBig) B.pre
  have hown : s.vm.findClass "java/lang/String" = some m.cls := findClass_of_methodNamed B.named
  have hS : va_S A s.heap s.heap [] := va_S.rf
  rw [lg_entry_eq]
  have hl := lv_entry [.ref (pa (4 + j))] (n := 1) (Nat.le_of_ble_eq_true rfl)
  generalize (lg_sl [.ref (pa (4 + j))] ++ List.replicate (1 - (lg_sl [.ref (pa (4 + j))]).length) Slot.unset).toArray = ls at hl ⊢
  have hl : lv_has ls 1 [(0, .ref (pa (4 + j)))] := hl
  refine va_gets hx hb henv.2.2.2.2.2.1.1 hS hown (hts _ (List.mem_cons_of_mem _ (zBig_in w20 rfl))) (fun _ h => h) (show decode prog_14_method_152_code 0 = .ok (.getstatic 38, 3) by decide +kernel) ?_
  refine lv_if_eq (tgt := 13) hx hb (show decode prog_14_method_152_code 3 = .ok (.ifCond .eq 10, 3) by decide +kernel) (by decide) (fun q => absurd q (by decide)) (fun _ => ?_)
  refine lv_aload_n hx hb (show decode prog_14_method_152_code 6 = .ok (.aload_n 0, 1) by decide +kernel) rfl (lv_at hl 0 rfl) ?_
  refine vk_getf hx hb (henv.2.2.2.2.2.2.1.1 j hj).2.1 hS hown (hts _ (List.mem_cons_of_mem _ (zBig_in w23 rfl))) (fun _ h => h) (show decode prog_14_method_152_code 7 = .ok (.getfield 15, 3) by decide +kernel) ?_
  refine lv_goto (tgt := 14) hx hb (show decode prog_14_method_152_code 10 = .ok (.goto 4, 3) by decide +kernel) (by decide) ?_
  exact W.zret (ty := .byte) hx hb hrt rfl (fun t ht hW => ⟨_, rfl, rfl, ht⟩) (fun q hq => by cases hq) (show decode prog_14_method_152_code 14 = .ok (.ireturn, 1) by decide +kernel)
set_option maxRecDepth 20000 in
theorem zc_lat (l : Launch) (j : Nat) (hj : j < 15) : Met l zyLat (Cond.code zyLat prog_14_method_154_code 1 (some .boolean) :: zBig) (zjrm 0) (zJPc A pa X adV [.ref (pa (4 + j))]) (zJQ (fun v => v = some (.int 1))) 0 0 (fun _ => False) := by
  obtain ⟨-, -, -, -, -, -, -, -, -, -, -, -, -, -, -, -, -, -, -, w20, -, -, w23, -⟩ := zj_words
  refine Met.ofW (cc := prog_14_method_154_code) (maxL := 1) (ret := some .boolean) (by decide) rfl ?_
  intro p e s m args below meth c s₁ B hml hv
  obtain ⟨rfl, henv⟩ := hv
  have hx := B.exec
  have hb := B.bytes
  have hrt := B.returns
  have hlocks := B.notSynchronized
  have hts := atoms_spec (ws := Cond.code zyLat prog_14_method_154_code 1 (some .boolean) :: zBig) B.pre
  have hown : s.vm.findClass "java/lang/String" = some m.cls := findClass_of_methodNamed B.named
  have hS : va_S A s.heap s.heap [] := va_S.rf
  rw [lg_entry_eq]
  have hl := lv_entry [.ref (pa (4 + j))] (n := 1) (Nat.le_of_ble_eq_true rfl)
  generalize (lg_sl [.ref (pa (4 + j))] ++ List.replicate (1 - (lg_sl [.ref (pa (4 + j))]).length) Slot.unset).toArray = ls at hl ⊢
  have hl : lv_has ls 1 [(0, .ref (pa (4 + j)))] := hl
  refine va_gets hx hb henv.2.2.2.2.2.1.1 hS hown (hts _ (List.mem_cons_of_mem _ (zBig_in w20 rfl))) (fun _ h => h) (show decode prog_14_method_154_code 0 = .ok (.getstatic 38, 3) by decide +kernel) ?_
  refine lv_if_eq (tgt := 17) hx hb (show decode prog_14_method_154_code 3 = .ok (.ifCond .eq 14, 3) by decide +kernel) (by decide) (fun q => absurd q (by decide)) (fun _ => ?_)
  refine lv_aload_n hx hb (show decode prog_14_method_154_code 6 = .ok (.aload_n 0, 1) by decide +kernel) rfl (lv_at hl 0 rfl) ?_
  refine vk_getf hx hb (henv.2.2.2.2.2.2.1.1 j hj).2.1 hS hown (hts _ (List.mem_cons_of_mem _ (zBig_in w23 rfl))) (fun _ h => h) (show decode prog_14_method_154_code 7 = .ok (.getfield 15, 3) by decide +kernel) ?_
  refine lv_if_ne (tgt := 17) hx hb (show decode prog_14_method_154_code 10 = .ok (.ifCond .ne 7, 3) by decide +kernel) (by decide) (fun q => absurd rfl q) (fun _ => ?_)
  refine lv_iconst (v := 1) hx hb (show decode prog_14_method_154_code 13 = .ok (.iconst 1, 1) by decide +kernel) (by decide) ?_
  refine lv_goto (tgt := 18) hx hb (show decode prog_14_method_154_code 14 = .ok (.goto 4, 3) by decide +kernel) (by decide) ?_
  exact W.zret (ty := .boolean) hx hb hrt (by decide) (fun t ht hW => ⟨_, rfl, rfl, ht⟩) (fun q hq => by cases hq) (show decode prog_14_method_154_code 18 = .ok (.ireturn, 1) by decide +kernel)
end ZJC
