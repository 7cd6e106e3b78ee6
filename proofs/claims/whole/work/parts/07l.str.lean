/-! THE TEXTS' MEMBERS, as the simulation wants them; what stood there before. -/
/-- the script, the static rows, the texts -/
def zXs (L : Nat) (xs : Nat → Int32) : zX := fun j => match j with
  | 0 => (L, fun i => (xs i).toInt)
  | 1 => (7, fun i => ([-1, 0, 0, 2, 1, 0, 5] : List Int).getD i 0)
  | 2 => (3, fun i => ([0, 1, 1] : List Int).getD i 0)
  | 3 => (3, fun i => ([9999, 99, 9] : List Int).getD i 0)
  | j + 4 => if j < 15 then ((zchars (j + 4)).length, fun i => ((zchars (j + 4)).getD i 0).toInt) else (0, fun _ => 0)
section ZJD
variable {A : Nat → Prop} {pa : Nat → Nat} {X : zX} {adV : Nat → Nat}
set_option maxRecDepth 20000 in
theorem zc_len (l : Launch) (j : Nat) (hj : j < 15) : Met l zyLen (Cond.code zyLen prog_14_method_54_code 1 (some .int) :: zBig) zsrm (zSPc A pa X adV (4 + j) []) (zSQc (zchars (j + 4)).length) 0 0 (fun _ => False) := by
  obtain ⟨w1, w2, w3, w4, -, -, -, -, -, -, -, -, -, -, -, -, -, -, -, -, -, w22, -⟩ := zj_words
  obtain ⟨hsm, -⟩ := zchars_ok j hj
  refine Met.ofW (cc := prog_14_method_54_code) (maxL := 1) (ret := some .int) (by decide) rfl ?_
  intro p e s m args below meth c s₁ B hml hv
  obtain ⟨rfl, hA, henv⟩ := hv
  have hx := B.exec
  have hb := B.bytes
  have hrt := B.returns
  have hlocks := B.notSynchronized
  have hts := atoms_spec (ws := Cond.code zyLen prog_14_method_54_code 1 (some .int) :: zBig) B.pre
  have hown : s.vm.findClass "java/lang/String" = some m.cls := findClass_of_methodNamed B.named
  have hS : va_S A s.heap s.heap [] := va_S.rf
  have hT := (henv.2.2.2.2.2.2.1.1 j hj).2.2.2
  rw [zch_len hj, zch_get hj] at hT
  rw [lg_entry_eq]
  have hl := lv_entry [.ref (pa (4 + j))] (n := 1) (Nat.le_of_ble_eq_true rfl)
  generalize (lg_sl [.ref (pa (4 + j))] ++ List.replicate (1 - (lg_sl [.ref (pa (4 + j))]).length) Slot.unset).toArray = ls at hl ⊢
  have hl : lv_has ls 1 [(0, .ref (pa (4 + j)))] := hl
  refine lv_aload_n hx hb (show decode prog_14_method_54_code 0 = .ok (.aload_n 0, 1) by decide +kernel) rfl (lv_at hl 0 rfl) ?_
  refine vk_getf hx hb (henv.2.2.2.2.2.2.1.1 j hj).2.2.1 hS hown (hts _ (List.mem_cons_of_mem _ (zBig_in w22 rfl))) (fun _ h => h) (show decode prog_14_method_54_code 1 = .ok (.getfield 9, 3) by decide +kernel) ?_
  refine va_tlen hx hb hT hS rfl (show decode prog_14_method_54_code 4 = .ok (.arraylength, 1) by decide +kernel) ?_
  refine lv_aload_n hx hb (show decode prog_14_method_54_code 5 = .ok (.aload_n 0, 1) by decide +kernel) rfl (lv_at hl 0 rfl) ?_
  refine zjV (as := []) (rest := [.int (Int32.ofNat (zchars (j + 4)).length)]) hx hb hown hml hl.1 hts (fun w hw => List.mem_cons_of_mem _ hw) henv hj rfl w1 w2 w3 (by decide) (show _ = some 0 by decide +kernel) (zc_cod l j hj) w4 (show 0 + 1 ≤ 4 by decide) (show 30 * 0 + 22 ≤ 150 by decide) (show (1 : Nat) + 0 ≤ 8 by decide) (show decode prog_14_method_54_code 6 = .ok (.invokevirtual 335, 3) by decide +kernel) (fun v hv => ?_)
  subst hv
  refine lv_ishr hx hb (show decode prog_14_method_54_code 9 = .ok (.ishr, 1) by decide +kernel) ?_
  refine W.iret (v := Int32.ofNat (zchars (j + 4)).length >>> ((0 : Int32) &&& 31)) hx hb hrt (fun t ht hW => ⟨_, ?_, rfl, ht⟩) (fun q hq => by cases hq) (show decode prog_14_method_54_code 10 = .ok (.ireturn, 1) by decide +kernel)
  rw [sb_shr0]
  exact zn_ofNat (by omega)
set_option maxRecDepth 20000 in
theorem zc_chr (l : Launch) (j : Nat) (hj : j < 15) (i : Int32) (hi : 0 ≤ i.toInt) (hn : i.toInt < (zchars (j + 4)).length) : Met l zyChr (Cond.code zyChr prog_14_method_56_code 2 (some .char) :: zBig) zsrm (zSPc A pa X adV (4 + j) [.int i]) (zSQc ((zchars (j + 4)).getD i.toInt.toNat 0).toInt) 0 0 (fun _ => False) := by
  obtain ⟨-, -, -, -, w5, w6, w7, w8, w9, w10, w11, w12, -, -, -, -, -, -, -, -, -, w22, -⟩ := zj_words
  obtain ⟨hsm, hall⟩ := zchars_ok j hj
  refine Met.ofW (cc := prog_14_method_56_code) (maxL := 2) (ret := some .char) (by decide) rfl ?_
  intro p e s m args below meth c s₁ B hml hv
  obtain ⟨rfl, hA, henv⟩ := hv
  have hx := B.exec
  have hb := B.bytes
  have hrt := B.returns
  have hlocks := B.notSynchronized
  have hts := atoms_spec (ws := Cond.code zyChr prog_14_method_56_code 2 (some .char) :: zBig) B.pre
  have hown : s.vm.findClass "java/lang/String" = some m.cls := findClass_of_methodNamed B.named
  have hS : va_S A s.heap s.heap [] := va_S.rf
  rw [lg_entry_eq]
  have hl := lv_entry [.ref (pa (4 + j)), .int i] (n := 2) (Nat.le_of_ble_eq_true rfl)
  generalize (lg_sl [.ref (pa (4 + j)), .int i] ++ List.replicate (2 - (lg_sl [.ref (pa (4 + j)), .int i]).length) Slot.unset).toArray = ls at hl ⊢
  have hl : lv_has ls 2 [(0, .ref (pa (4 + j))), (1, .int i)] := hl
  refine lv_aload_n hx hb (show decode prog_14_method_56_code 0 = .ok (.aload_n 0, 1) by decide +kernel) rfl (lv_at hl 0 rfl) ?_
  refine zjV (as := []) (rest := []) hx hb hown hml hl.1 hts (fun w hw => List.mem_cons_of_mem _ hw) henv hj rfl w5 w6 w7 (by decide) (show _ = some 0 by decide +kernel) (zc_lat l j hj) w8 (show 0 + 1 ≤ 4 by decide) (show 30 * 0 + 22 ≤ 150 by decide) (by decide) (show decode prog_14_method_56_code 1 = .ok (.invokevirtual 492, 3) by decide +kernel) (fun v hv => ?_)
  subst hv
  refine lv_if_eq (tgt := 16) hx hb (show decode prog_14_method_56_code 4 = .ok (.ifCond .eq 12, 3) by decide +kernel) (by decide) (fun q => absurd q (by decide)) (fun _ => ?_)
  refine lv_aload_n hx hb (show decode prog_14_method_56_code 7 = .ok (.aload_n 0, 1) by decide +kernel) rfl (lv_at hl 0 rfl) ?_
  refine vk_getf hx hb (henv.2.2.2.2.2.2.1.1 j hj).2.2.1 hS hown (hts _ (List.mem_cons_of_mem _ (zBig_in w22 rfl))) (fun _ h => h) (show decode prog_14_method_56_code 8 = .ok (.getfield 9, 3) by decide +kernel) ?_
  refine lv_iload_n hx hb (show decode prog_14_method_56_code 11 = .ok (.iload_n 1, 1) by decide +kernel) rfl (lv_at hl 1 rfl) ?_
  refine zjS (as := [.ref (adV j), .int i]) (rest := []) hx hb hown hml hl.1 hts (fun w hw => List.mem_cons_of_mem _ hw) henv (by decide) w9 w12 w10 (by decide) (show _ = some 2 by decide +kernel) (zc_lch l j hj i hi hn) w11 (show 2 + 1 ≤ 4 by decide) (show 30 * 2 + 22 ≤ 150 by decide) (by decide) (show decode prog_14_method_56_code 12 = .ok (.invokestatic 495, 3) by decide +kernel) (fun v hv => ?_)
  subst hv
  exact W.zret (ty := .char) hx hb hrt (hall _ (zclt hi hn)).2 (fun t ht hW => ⟨_, rfl, rfl, ht⟩) (fun q hq => by cases hq) (show decode prog_14_method_56_code 15 = .ok (.ireturn, 1) by decide +kernel)
theorem zstr_ok (l : Launch) (L : Nat) (xs : Nat → Int32) : zStrOK l A pa (zXs L xs) adV := by
  intro j hj hx
  obtain ⟨k, rfl⟩ : ∃ k, j = k + 4 := ⟨j - 4, by omega⟩
  by_cases hk : k < 15
  · have e : zXs L xs (k + 4) = ((zchars (k + 4)).length, fun i => ((zchars (k + 4)).getD i 0).toInt) := if_pos hk
    obtain ⟨-, -, -, -, -, -, -, -, -, -, -, -, -, -, -, -, -, -, -, -, -, -, -, w24, w25, -⟩ := zj_words
    refine ⟨by omega, ⟨_, _, w24, by decide, ?_⟩, fun i h1 h2 => ⟨_, _, w25, by decide, ?_⟩⟩
    · rw [e]
      have h := zc_len (A := A) (pa := pa) (X := zXs L xs) (adV := adV) l k hk
      rw [Nat.add_comm 4 k] at h
      exact h
    · rw [e] at h2 ⊢
      have h := zc_chr (A := A) (pa := pa) (X := zXs L xs) (adV := adV) l k hk i h1 h2
      rw [Nat.add_comm 4 k] at h
      exact h
  · have e : zXs L xs (k + 4) = (0, fun _ => 0) := if_neg hk
    rw [e] at hx
    exact absurd hx (by decide)
end ZJD
