/-! EVERY STEP, EVERY METHOD. -/
theorem zstep_monoL {X : zX} {C : zC} {i : Instr} {ls : zLoc} {st : List zV} {σ : zMem} {nx : Nat} {k k' : zK} {r : Option zV × zMem} (hk : ∀ pc (ls' : zLoc) st σ r, ls'.length = ls.length → k pc ls' st σ = some r → k' pc ls' st σ = some r) (h : zstep X C i ls st σ nx k = some r) : zstep X C i ls st σ nx k' = some r := by
  have e1 : ∀ i v, ((zkill ls i).set i v).length = ls.length := fun i v => by rw [List.length_set, zkill_len]
  have e2 : ∀ i v, (((zkill ls i).set i v).set (i + 1) none).length = ls.length := fun i v => by rw [List.length_set, List.length_set, zkill_len]
  cases i
  all_goals simp only [zstep] at h ⊢
  all_goals (repeat' split at h)
  all_goals first
    | (cases h; done)
    | exact hk _ _ _ _ _ rfl h
    | exact h
    | exact hk _ _ _ _ _ (e1 _ _) h
    | exact hk _ _ _ _ _ (e2 _ _) h
    | (simp only [*, if_true, if_false, not_true_eq_false, not_false_eq_true, and_self, or_true, true_or] at h ⊢; exact hk _ _ _ _ _ rfl h)
    | (simp only [*, if_true, if_false, not_true_eq_false, not_false_eq_true, and_self, or_true, true_or] at h ⊢; exact hk _ _ _ _ _ (e1 _ _) h)
    | (simp only [*, if_true, if_false, not_true_eq_false, not_false_eq_true, and_self, or_true, true_or] at h ⊢; exact hk _ _ _ _ _ (e2 _ _) h)
    | (simp only [*, if_true, if_false, not_true_eq_false, not_false_eq_true, and_self, or_true, true_or] at h ⊢; exact h)
    | (obtain ⟨q, h1, h2⟩ := Option.bind_eq_some_iff.mp h
       simp only [*, if_true, if_false]
       exact Option.bind_eq_some_iff.mpr ⟨q, h1, hk _ _ _ _ _ rfl h2⟩)
    | (simp only [*]
       exact Option.bind_eq_some_iff.mpr ((Option.bind_eq_some_iff.mp h).imp fun q hq => ⟨hq.1, hk _ _ _ _ _ rfl hq.2⟩))
    | (rw [if_pos (by assumption)]; exact h)
    | (simp_all only [Option.bind_eq_some_iff]
       exact h.imp fun q hq => ⟨hq.1, hk _ _ _ _ _ rfl hq.2⟩)
/-- the two members of a text, as contracts -/
def zyLen : MethodName := ⟨"java/lang/String", "length", "()I"⟩
def zyChr : MethodName := ⟨"java/lang/String", "charAt", "(I)C"⟩
def zSPc (A : Nat → Prop) (pa : Nat → Nat) (X : zX) (adV : Nat → Nat) (j : Nat) (as : List Value) : Array Value → State → Prop := fun v U => v = (Value.ref (pa j) :: as).toArray ∧ (∀ q, U.heap.size ≤ q → A q) ∧ zEnv A pa X adV U
def zSQc (x : Int) : Array Value → State → Outcome → State → Prop := fun _ st o t => ∃ y : Int32, y.toInt = x ∧ o = .returned (some (.int y)) ∧ t.heap = st.heap
def zsrm : Room := { frames := 4, cells := 0, slots := 0, locals := 150 }
def zStrOK (l : Launch) (A : Nat → Prop) (pa : Nat → Nat) (X : zX) (adV : Nat → Nat) : Prop := ∀ j, 4 ≤ j → 0 < (X j).1 → j < 19 ∧
  (∃ b ml, Cond.code zyLen b ml (some .int) ∈ lw_tbl ∧ ml ≤ 13 ∧ Met l zyLen (Cond.code zyLen b ml (some .int) :: zBig) zsrm (zSPc A pa X adV j []) (zSQc (X j).1) 0 0 (fun _ => False)) ∧
  (∀ i : Int32, 0 ≤ i.toInt → i.toInt < (X j).1 → ∃ b ml, Cond.code zyChr b ml (some .char) ∈ lw_tbl ∧ ml ≤ 13 ∧ Met l zyChr (Cond.code zyChr b ml (some .char) :: zBig) zsrm (zSPc A pa X adV j [.int i]) (zSQc ((X j).2 i.toInt.toNat)) 0 0 (fun _ => False))
theorem zSPc_blind {A : Nat → Prop} {pa : Nat → Nat} {X : zX} {adV : Nat → Nat} {j : Nat} {as : List Value} : FrameBlind (zSPc A pa X adV j as) := by
  intro a U g mk ⟨h1, h2, h3⟩
  exact ⟨h1, h2, h3.same rfl rfl⟩
theorem zstr_words : Cond.instanceMethod zyLen ∈ lw_tbl ∧ Cond.selects zyLen.cls zyLen zyLen ∈ lw_tbl ∧ Cond.instanceMethod zyChr ∈ lw_tbl ∧ Cond.selects zyChr.cls zyChr zyChr ∈ lw_tbl ∧ Cond.initialized "java/lang/String" ∈ lw_tbl := by decide +kernel
theorem zpar_chr : (parseMethodDescriptor zyChr.desc).map (fun d => d.parameters.length) = some 1 := by decide +kernel
section ZOPS8
variable {p : Program} {l : Launch} {e : Env} {R : Room} {s : State} {m : MethodId} {args : Array Value} {below : List Frame} {meth : Method} {c : Code} {cc : ByteArray} {Q : State → Prop} {D : va_G} {A : Nat → Prop} {pa : Nat → Nat} {ws0 : va_W} {σ0 rf : zMem}
variable {pc nx : Nat} {ls : zLoc} {st : List zV} {σ : zMem} {k : zK} {X : zX} {adV : Nat → Nat} {P : zT} {rv : Option zV} {C : zC}
/-- a member of a text is called -/
theorem zs_str (hx : p.tables.exec = Jvm.exec) (hb : c.code = cc) {own i j : Nat} {Ts : List Cond} {y : MethodName} {b : ByteArray} {ml nL : Nat} {ret : Option FieldType} {as : List Value} {x : Int} {H : Heap} {locs : List Loc} {cells slots : Nat} {mls : Array Slot} {rest : List Value} (hown : s.vm.findClass (znm own) = some m.cls) (hml : c.maxLocals = nL) (hsz : mls.size = nL) (hts : ∀ w ∈ Ts, w.before args s = true) (hBT : ∀ w ∈ zBig, w ∈ Ts) (henv : zEnv A pa X adV s) (hA : ∀ q, s.heap.size ≤ q → A q) (hj : 4 ≤ j) (hj2 : j < 19) (hy : y.cls = "java/lang/String") (hin : Cond.instanceMethod y ∈ lw_tbl) (hse : Cond.selects y.cls y y ∈ lw_tbl) (hco : Cond.code y b ml ret ∈ lw_tbl) (hml13 : ml ≤ 13) (hpar : (parseMethodDescriptor y.desc).map (fun d => d.parameters.length) = some as.length) (hM : Met l y (Cond.code y b ml ret :: zBig) zsrm (zSPc A pa X adV j as) (zSQc x) 0 0 (fun _ => False)) (hlk : Cond.methodLink (znm own) i y ∈ lw_tbl) (hfr : 5 ≤ R.frames) (hlo : 190 ≤ R.locals) (hc : cells ≤ R.cells) (hs : slots ≤ R.slots) (hS : va_S A s.heap H locs) (hsum : (rest.map fun v => v.category).sum ≤ 8) (hd : decode cc pc = .ok (.invokevirtual i, 3))
    (kk : ∀ z : Int32, z.toInt = x → W p l e R s m args below meth c H locs cells slots Q (F0 m (pc + 3) mls (.int z :: rest))) : W p l e R s m args below meth c H locs cells slots Q (F0 m pc mls (as.reverse ++ .ref (pa j) :: rest)) := by
  have hgood : GoodIn Ts (wsV (znm own) i y.cls y (Cond.code y b ml ret :: zBig)) := by
    intro w hw
    rcases List.mem_append.mp (show w ∈ ([.methodLink (znm own) i y, .instanceMethod y, .selects y.cls y y, .initialized y.cls] : List Cond) ++ (Cond.code y b ml ret :: zBig) from hw) with h1 | h1
    · rcases List.mem_cons.mp h1 with rfl | h1
      · exact ⟨hBT _ (zBig_in hlk rfl), good_of_word rfl⟩
      rcases List.mem_cons.mp h1 with rfl | h1
      · exact ⟨hBT _ (zBig_in hin rfl), good_of_word rfl⟩
      rcases List.mem_cons.mp h1 with rfl | h1
      · exact ⟨hBT _ (zBig_in hse rfl), good_of_word rfl⟩
      rcases List.mem_cons.mp h1 with rfl | h1
      · rw [hy]; exact ⟨hBT _ (zBig_in zstr_words.2.2.2.2 rfl), good_of_word rfl⟩
      · cases h1
    · rcases List.mem_cons.mp h1 with rfl | h2
      · exact ⟨hBT _ (zBig_in hco rfl), good_of_word rfl⟩
      · exact ⟨hBT _ h2, good_of_word (List.mem_filter.mp h2).2⟩
  have hvk := henv.2.2.2.2.2.2.1
  have hrcv := vk_recv hvk (i := j - 4) (by omega) hS
  simp only [show 4 + (j - 4) = j by omega] at hrcv
  refine zcall_go (va_runV (nL := nL) (n := as.length) (C := y.cls) (rest := rest) ⟨hx, hb, hml, hown, hts⟩ hM (cwV as.length hts hgood rfl rfl rfl ⟨rfl, by rw [hy]; decide, by rw [hy]; decide, hpar⟩ ⟨hfr, by show 8 + (ml + 11) + 150 ≤ _; omega⟩) ⟨zSPc_blind, by rw [hy]; exact hrcv, fun U hU hW => ⟨rfl, fun q hq => hA q (Nat.le_trans hS.1 (by rw [← hU]; exact hq)), henv.next hS hU hW⟩⟩ rfl rfl hsz rfl (lv_room hsum) hd ⟨hc, hs⟩) (fun v st₀ t H1 L h0 ht hvm hq hloc => ?_)
  obtain ⟨z, hz, hv, hh⟩ := hq
  cases hv
  have hL : L = [] := List.eq_nil_iff_forall_not_mem.mpr (fun q hq => hloc q hq)
  subst hL
  rw [List.append_nil]
  have e : H1 = H := by rw [← ht, hh, h0]
  subst e
  exact kk z hz
theorem zs_dadd (hx : p.tables.exec = Jvm.exec) (hb : c.code = cc) {own i : Nat} {Ts : List Cond} (hown : s.vm.findClass (znm own) = some m.cls) (hml : c.maxLocals = ls.length) (hts : ∀ w ∈ Ts, w.before args s = true) (hBT : ∀ w ∈ zBig, w ∈ Ts) (henv : zEnv A pa X adV s) (hA : ∀ q, s.heap.size ≤ q → A q) (hstr : zStrOK l A pa X adV) (hlk : Cond.methodLink (znm own) i zyLen ∈ lw_tbl) (hfr : 5 ≤ R.frames) (hlo : 190 ≤ R.locals) (hrc : rf.2.2.2.1 - σ0.2.2.2.1 ≤ R.cells) (hrs : rf.2.2.2.2 - σ0.2.2.2.2 ≤ R.slots) (hd : decode cc pc = .ok (.invokevirtual i, 3)) (hk : ∀ pc ls st σ, k pc ls st σ = some (rv, rf) → zG p l e R s m args below meth c Q D A pa ws0 σ0 rf pc ls st σ) (h : zstep X C .dadd ls st σ (pc + 3) k = some (rv, rf)) : zG p l e R s m args below meth c Q D A pa ws0 σ0 rf pc ls st σ := by
  simp only [zstep] at h
  split at h
  · split at h
    · next j r _ hsum =>
      split at h
      · next hj =>
        have hs8 : (r.map zcat).sum ≤ 8 := Nat.ble_eq.mp hsum
        have hz := hk _ _ _ _ h
        obtain ⟨hj19, ⟨b, ml, hco, hml13, hM⟩, -⟩ := hstr j hj.1 hj.2
        refine ⟨hz.1, fun ws tys H locs mls mst hn hK hR hP hD hS hxx hl hst => ?_⟩
        obtain ⟨w, m2, rfl, hw, hst⟩ := hst
        cases (show w = .ref (pa j) from hw)
        have hsz := hst.sum
        obtain ⟨hz1, hz2⟩ := hz.1
        exact zs_str (as := []) hx hb hown hml hl.1 hts hBT henv hA hj.1 hj19 rfl zstr_words.1 zstr_words.2.1 hco hml13 (by decide +kernel) hM hlk hfr hlo (by omega) (by omega) hS (by omega) hd (fun z hz' => hz.2 ws tys H locs mls _ hn hK hR hP hD hS hxx hl (zSR_int hz' hst))
      · cases h
    · cases h
  · cases h
theorem zs_dsub (hx : p.tables.exec = Jvm.exec) (hb : c.code = cc) {own i : Nat} {Ts : List Cond} (hown : s.vm.findClass (znm own) = some m.cls) (hml : c.maxLocals = ls.length) (hts : ∀ w ∈ Ts, w.before args s = true) (hBT : ∀ w ∈ zBig, w ∈ Ts) (henv : zEnv A pa X adV s) (hA : ∀ q, s.heap.size ≤ q → A q) (hstr : zStrOK l A pa X adV) (hlk : Cond.methodLink (znm own) i zyChr ∈ lw_tbl) (hfr : 5 ≤ R.frames) (hlo : 190 ≤ R.locals) (hrc : rf.2.2.2.1 - σ0.2.2.2.1 ≤ R.cells) (hrs : rf.2.2.2.2 - σ0.2.2.2.2 ≤ R.slots) (hd : decode cc pc = .ok (.invokevirtual i, 3)) (hk : ∀ pc ls st σ, k pc ls st σ = some (rv, rf) → zG p l e R s m args below meth c Q D A pa ws0 σ0 rf pc ls st σ) (h : zstep X C .dsub ls st σ (pc + 3) k = some (rv, rf)) : zG p l e R s m args below meth c Q D A pa ws0 σ0 rf pc ls st σ := by
  simp only [zstep] at h
  split at h
  · split at h
    · next i0 j r _ hsum =>
      split at h
      · next hj =>
        have hs8 : (r.map zcat).sum ≤ 8 := Nat.ble_eq.mp hsum
        have hz := hk _ _ _ _ h
        refine ⟨hz.1, fun ws tys H locs mls mst hn hK hR hP hD hS hxx hl hst => ?_⟩
        obtain ⟨_, _, rfl, ⟨x, rfl, rfl⟩, w, m2, rfl, hw, hst⟩ := hst
        cases (show w = .ref (pa j) from hw)
        obtain ⟨hj1, hj2, hj3⟩ := hj
        obtain ⟨hj19, -, hch⟩ := hstr j hj1 (by omega)
        obtain ⟨b, ml, hco, hml13, hM⟩ := hch x hj2 hj3
        have hsz := hst.sum
        obtain ⟨hz1, hz2⟩ := hz.1
        exact zs_str (as := [.int x]) hx hb hown hml hl.1 hts hBT henv hA hj1 hj19 rfl zstr_words.2.2.1 zstr_words.2.2.2.1 hco hml13 zpar_chr hM hlk hfr hlo (by omega) (by omega) hS (by omega) hd (fun z hz' => hz.2 ws tys H locs mls _ hn hK hR hP hD hS hxx hl (zSR_int hz' hst))
      · cases h
    · cases h
  · cases h
end ZOPS8
