/-! THE MACHINE DOES WHAT THE SMALL MACHINE DOES: calls, then every step, then every method. -/
theorem zpar_of {d : String} {k n : Nat} (h : (parseMethodDescriptor d).map (fun x => x.parameters.length + k) = some n) : (parseMethodDescriptor d).map (fun x => x.parameters.length) = some (n - k) := by
  cases hp : parseMethodDescriptor d with
  | none => rw [hp] at h; cases h
  | some x =>
    rw [hp] at h
    have h1 : x.parameters.length + k = n := Option.some.inj h
    show some x.parameters.length = some (n - k)
    rw [← h1, Nat.add_sub_cancel]
/-- what the table says of a method -/
def zMF (q : zMt) : Prop := q.1 < 11 ∧ znm q.1 = q.2.1.cls ∧ Cond.code q.2.1 q.2.2.1 q.2.2.2.1 q.2.2.2.2.1 ∈ lw_tbl ∧ Cond.initialized q.2.1.cls ∈ lw_tbl ∧ q.2.2.2.1 ≤ 13 ∧ plainName q.2.1.cls = true ∧
  (q.2.2.2.2.2.2.1 = 0 → Cond.static q.2.1 ∈ lw_tbl ∧ (parseMethodDescriptor q.2.1.desc).map (fun d => d.parameters.length) = some q.2.2.2.2.2.1) ∧
  (q.2.2.2.2.2.2.1 = 1 → Cond.instanceMethod q.2.1 ∈ lw_tbl ∧ Cond.selects q.2.1.cls q.2.1 q.2.1 ∈ lw_tbl ∧ (parseMethodDescriptor q.2.1.desc).map (fun d => d.parameters.length) = some (q.2.2.2.2.2.1 - 1)) ∧
  (q.2.2.2.2.2.2.1 = 2 → q.2.1.name = "<init>" ∧ q.2.2.2.2.1 = none ∧ Cond.instanceMethod q.2.1 ∈ lw_tbl ∧ (parseMethodDescriptor q.2.1.desc).map (fun d => d.parameters.length) = some (q.2.2.2.2.2.1 - 1))
theorem zMF_of {q : zMt} (h : zmchk q = true) : zMF q := by
  unfold zmchk at h
  simp only [Bool.and_eq_true, decide_eq_true_eq] at h
  obtain ⟨⟨⟨⟨⟨⟨h1, h2⟩, h3⟩, h4⟩, h5⟩, h6⟩, h7⟩ := h
  refine ⟨h1, h2, List.mem_of_getElem? h3, List.mem_of_getElem? h4, h5, h7, fun hk => ?_, fun hk => ?_, fun hk => ?_⟩
  · rw [hk] at h6
    simp only [Bool.and_eq_true, decide_eq_true_eq] at h6
    exact ⟨List.mem_of_getElem? h6.1, h6.2⟩
  · rw [hk] at h6
    simp only [Bool.and_eq_true, decide_eq_true_eq] at h6
    exact ⟨List.mem_of_getElem? h6.1.1, List.mem_of_getElem? h6.1.2, zpar_of h6.2⟩
  · rw [hk] at h6
    simp only [Bool.and_eq_true, decide_eq_true_eq] at h6
    exact ⟨h6.1.1.1, h6.1.1.2, List.mem_of_getElem? h6.1.2, zpar_of h6.2⟩
theorem zrm_ok {d mc ms ml fr lo : Nat} (hfr : d + 6 ≤ fr) (hlo : 40 * (d + 1) + 250 ≤ lo) (hm : ml ≤ 13) : (zrm d mc ms).frames + 1 ≤ fr ∧ 8 + (ml + 11) + (zrm d mc ms).locals ≤ lo := by
  have e1 : (zrm d mc ms).frames = d + 5 := rfl
  have e2 : (zrm d mc ms).locals = 40 * d + 250 := rfl
  rw [e1, e2]
  omega
theorem znm_ne : ∀ c, c < 11 → znm c ≠ "java/lang/invoke/MethodHandle" ∧ znm c ≠ "java/lang/invoke/VarHandle" := by decide +kernel
theorem zgood_in {Ts : List Cond} (hBT : ∀ w ∈ zBig, w ∈ Ts) {q : zMt} (hq : zMF q) (lw : List Cond) (h : ∀ w ∈ lw, w ∈ lw_tbl ∧ goodWord w = true) : GoodIn Ts (lw ++ zws q) := by
  intro w hw
  rcases List.mem_append.mp hw with h1 | h1
  · exact ⟨hBT _ (zBig_in (h w h1).1 (h w h1).2), good_of_word (h w h1).2⟩
  · rcases List.mem_cons.mp h1 with rfl | h2
    · exact ⟨hBT _ (zBig_in hq.2.2.1 rfl), good_of_word rfl⟩
    · exact ⟨hBT _ h2, good_of_word (List.mem_filter.mp h2).2⟩
section ZOPS7
variable {p : Program} {l : Launch} {e : Env} {R : Room} {s : State} {m : MethodId} {args : Array Value} {below : List Frame} {meth : Method} {c : Code} {cc : ByteArray} {Q : State → Prop} {D : va_G} {A : Nat → Prop} {pa : Nat → Nat} {ws0 : va_W} {σ0 rf : zMem}
variable {pc nx : Nat} {ls : zLoc} {st : List zV} {σ : zMem} {k : zK} {X : zX} {adV : Nat → Nat} {P : zT} {rv : Option zV}
theorem zs_invokevirtual (hx : p.tables.exec = Jvm.exec) (hb : c.code = cc) {own i n d : Nat} {Ts : List Cond} {q : zMt} (hown : s.vm.findClass (znm own) = some m.cls) (hml : c.maxLocals = ls.length) (hts : ∀ w ∈ Ts, w.before args s = true) (hBT : ∀ w ∈ zBig, w ∈ Ts) (henv : zEnv A pa X adV s) (hA : ∀ q, s.heap.size ≤ q → A q) (hM : zMet l D A pa X adV P d) (hq : zM[n / 1024]? = some q) (hF : zMF q) (hkind : q.2.2.2.2.2.2.1 = 1) (hqc : q.1 = n / 16 % 64) (hqn : q.2.2.2.2.2.1 = n % 16) (hlk : Cond.methodLink (znm own) i q.2.1 ∈ lw_tbl ∨ ∃ host, Cond.methodLinkNest (znm own) i q.2.1 host ∈ lw_tbl) (hfr : d + 6 ≤ R.frames) (hlo : 40 * (d + 1) + 250 ≤ R.locals) (hrc : rf.2.2.2.1 - σ0.2.2.2.1 ≤ R.cells) (hrs : rf.2.2.2.2 - σ0.2.2.2.2 ≤ R.slots) (hd : decode cc pc = .ok (.invokevirtual i, 3)) (hk : ∀ pc ls st σ, k pc ls st σ = some (rv, rf) → zG p l e R s m args below meth c Q D A pa ws0 σ0 rf pc ls st σ) (h : zstep X (zcal X P d) (.invokevirtual n) ls st σ (pc + 3) k = some (rv, rf)) : zG p l e R s m args below meth c Q D A pa ws0 σ0 rf pc ls st σ := by
  have hF0 := hF
  obtain ⟨f1, f2, f3, f4, f5, f6, -, f7, -⟩ := hF
  obtain ⟨g1, g2, g3⟩ := f7 hkind
  simp only [zstep] at h
  split at h
  · next a as r hp =>
    split at h
    · next hsum =>
      split at h
      · next hka =>
        have hs8 : (r.map zcat).sum ≤ 8 := Nat.ble_eq.mp hsum
        obtain ⟨ra, h1, h2⟩ := Option.bind_eq_some_iff.mp h
        obtain ⟨xs, rfl, hlen, has⟩ := zpop_spec _ _ _ _ _ hp
        rw [List.append_nil] at has
        have hz := hk _ _ _ _ h2
        have hle := zcal_le _ _ _ _ _ h1
        have hz1 := hz.1
        refine ⟨⟨Nat.le_trans hle.1 hz.1.1, Nat.le_trans hle.2 hz.1.2⟩, fun ws tys H locs mls mst hn hK hR hP hD hS hxx hl hst => ?_⟩
        obtain ⟨m1, m2, rfl, hs1, hs2⟩ := zSR.app hst
        have hrev := hs1.rev
        rw [← has] at hrev
        obtain ⟨w, avs, hm1, hw, havs⟩ := hrev
        obtain ⟨b, q0, e, rfl, hb1, rfl, hcr⟩ := hR.at (show zRR ws a w from hw) (by rw [hka]; exact Nat.one_ne_zero)
        obtain ⟨fs, rfl, -, -⟩ := zCR_obj hka hcr
        have hm1' : m1 = avs.reverse ++ [.ref q0] := by rw [← List.reverse_reverse m1, hm1, List.reverse_cons]
        have hst1 : m1 ++ m2 = avs.reverse ++ .ref q0 :: m2 := by rw [hm1', List.append_assoc]; rfl
        rw [hst1]
        have hcls : q.2.1.cls = znm (n / 16 % 64) := by rw [← f2, hqc]
        have hlenA : avs.length = q.2.2.2.2.2.1 - 1 := by
          have e1 := havs.len
          have e2 : xs.length = as.length + 1 := by rw [← List.length_reverse, ← has]; rfl
          omega
        have hMq := hM (n / 1024) q _ σ ra ws hq h1
        have hne := znm_ne q.1 f1
        rw [f2] at hne
        have hpre : PreV s H q.2.1.cls q0 (zPc D A pa X adV ws σ (.inr (.inr (.inl (b + 1))) :: as)) avs := by
          refine ⟨zPc_blind, ?_, fun U hU hW => ⟨⟨_, rfl, _, _, rfl, ⟨_, hb1, rfl⟩, havs⟩, ⟨tys, va_K.moved hW.alike hK, hR⟩, by rw [hU]; exact hP, hD, fun q hq => hA q (Nat.le_trans hS.1 (by rw [← hU]; exact hq)), henv.next hS hU hW⟩⟩
          have hrc2 := va_recv hK hP (zclass_ok _ (by rw [← hqc]; exact f1)).1 hb1
          rw [hcls]
          exact hrc2
        have hc1 : ra.2.2.2.2.1 ≤ rf.2.2.2.1 := hz1.1
        have hc2 : ra.2.2.2.2.2 ≤ rf.2.2.2.2 := hz1.2
        have hsz := hs2.sum
        rcases hlk with hlk | ⟨host, hlk⟩
        · exact zcall_back hz hle hn hS hxx hl hs2 (va_runV (nL := ls.length) ⟨hx, hb, hml, hown, hts⟩ hMq
            (cwV (avs.length) hts (zgood_in hBT hF0 [.methodLink (znm own) i q.2.1, .instanceMethod q.2.1, .selects q.2.1.cls q.2.1 q.2.1, .initialized q.2.1.cls] (fun w hw => by
              rcases List.mem_cons.mp hw with rfl | hw
              · exact ⟨hlk, rfl⟩
              rcases List.mem_cons.mp hw with rfl | hw
              · exact ⟨g1, rfl⟩
              rcases List.mem_cons.mp hw with rfl | hw
              · exact ⟨g2, rfl⟩
              rcases List.mem_cons.mp hw with rfl | hw
              · exact ⟨f4, rfl⟩
              · cases hw)) rfl rfl rfl ⟨rfl, hne.1, hne.2, by rw [g3, hlenA]⟩ (zrm_ok hfr hlo f5))
            hpre rfl rfl hl.1 rfl (lv_room (by omega)) hd ⟨by omega, by omega⟩)
        · exact zcall_back hz hle hn hS hxx hl hs2 (va_runVN (nL := ls.length) (host := host) ⟨hx, hb, hml, hown, hts⟩ hMq
            ⟨va_cnB (avs.length) hts (zgood_in hBT hF0 [] (fun w hw => by cases hw)) rfl rfl rfl (henv.1 _ hlk rfl) (hts _ (hBT _ (zBig_in f4 rfl))) ⟨hne.1, hne.2, by rw [g3, hlenA]⟩ (zrm_ok hfr hlo f5), hts _ (hBT _ (zBig_in g1 rfl)), hts _ (hBT _ (zBig_in g2 rfl))⟩
            hpre rfl rfl hl.1 rfl (lv_room (by omega)) hd ⟨by omega, by omega⟩)
      · cases h
    · cases h
  · cases h
theorem zs_invokespecial (hx : p.tables.exec = Jvm.exec) (hb : c.code = cc) {own i n d : Nat} {Ts : List Cond} {q : zMt} (hown : s.vm.findClass (znm own) = some m.cls) (hml : c.maxLocals = ls.length) (hts : ∀ w ∈ Ts, w.before args s = true) (hBT : ∀ w ∈ zBig, w ∈ Ts) (henv : zEnv A pa X adV s) (hA : ∀ q, s.heap.size ≤ q → A q) (hM : zMet l D A pa X adV P d) (hq : zM[n / 1024]? = some q) (hF : zMF q) (hkind : q.2.2.2.2.2.2.1 = 2) (hqc : q.1 = n / 16 % 64) (hqn : q.2.2.2.2.2.1 = n % 16) (hlk : Cond.methodLink (znm own) i q.2.1 ∈ lw_tbl ∨ ∃ host, Cond.methodLinkNest (znm own) i q.2.1 host ∈ lw_tbl) (hfr : d + 6 ≤ R.frames) (hlo : 40 * (d + 1) + 250 ≤ R.locals) (hrc : rf.2.2.2.1 - σ0.2.2.2.1 ≤ R.cells) (hrs : rf.2.2.2.2 - σ0.2.2.2.2 ≤ R.slots) (hd : decode cc pc = .ok (.invokespecial i, 3)) (hk : ∀ pc ls st σ, k pc ls st σ = some (rv, rf) → zG p l e R s m args below meth c Q D A pa ws0 σ0 rf pc ls st σ) (h : zstep X (zcal X P d) (.invokespecial n) ls st σ (pc + 3) k = some (rv, rf)) : zG p l e R s m args below meth c Q D A pa ws0 σ0 rf pc ls st σ := by
  have hF0 := hF
  obtain ⟨f1, f2, f3, f4, f5, f6, -, -, f7⟩ := hF
  obtain ⟨g0, gr, g1, g3⟩ := f7 hkind
  simp only [zstep] at h
  split at h
  · next a as r hp =>
    split at h
    · next hsum =>
      split at h
      · next hka =>
        have hs8 : (r.map zcat).sum ≤ 8 := Nat.ble_eq.mp hsum
        obtain ⟨ra, h1, h2⟩ := Option.bind_eq_some_iff.mp h
        obtain ⟨xs, rfl, hlen, has⟩ := zpop_spec _ _ _ _ _ hp
        rw [List.append_nil] at has
        have hz := hk _ _ _ _ h2
        have hle := zcal_le _ _ _ _ _ h1
        have hz1 := hz.1
        refine ⟨⟨Nat.le_trans hle.1 hz.1.1, Nat.le_trans hle.2 hz.1.2⟩, fun ws tys H locs mls mst hn hK hR hP hD hS hxx hl hst => ?_⟩
        obtain ⟨m1, m2, rfl, hs1, hs2⟩ := zSR.app hst
        have hrev := hs1.rev
        rw [← has] at hrev
        obtain ⟨w, avs, hm1, hw, havs⟩ := hrev
        obtain ⟨b, q0, e, rfl, hb1, rfl, hcr⟩ := hR.at (show zRR ws a w from hw) (by rw [hka]; exact Nat.one_ne_zero)
        have hm1' : m1 = avs.reverse ++ [.ref q0] := by rw [← List.reverse_reverse m1, hm1, List.reverse_cons]
        have hst1 : m1 ++ m2 = avs.reverse ++ .ref q0 :: m2 := by rw [hm1', List.append_assoc]; rfl
        rw [hst1]
        have hlenA : avs.length = q.2.2.2.2.2.1 - 1 := by
          have e1 := havs.len
          have e2 : xs.length = as.length + 1 := by rw [← List.length_reverse, ← has]; rfl
          omega
        have hMq := hM (n / 1024) q _ σ ra ws hq h1
        have hne := znm_ne q.1 f1
        rw [f2] at hne
        have hwsq : zws q = Cond.code q.2.1 q.2.2.1 q.2.2.2.1 none :: zBig := by unfold zws; rw [gr]
        have hpre : PreS s H (zPc D A pa X adV ws σ (.inr (.inr (.inl (b + 1))) :: as)) (.ref q0 :: avs) :=
          ⟨zPc_blind, fun U hU hW => ⟨⟨_, rfl, _, _, rfl, ⟨_, hb1, rfl⟩, havs⟩, ⟨tys, va_K.moved hW.alike hK, hR⟩, by rw [hU]; exact hP, hD, fun q hq => hA q (Nat.le_trans hS.1 (by rw [← hU]; exact hq)), henv.next hS hU hW⟩⟩
        have hc1 : ra.2.2.2.2.1 ≤ rf.2.2.2.1 := hz1.1
        have hc2 : ra.2.2.2.2.2 ≤ rf.2.2.2.2 := hz1.2
        have hsz := hs2.sum
        rcases hlk with hlk | ⟨host, hlk⟩
        · exact zcall_back hz hle hn hS hxx hl hs2 (va_runI (nL := ls.length) ⟨hx, hb, hml, hown, hts⟩ hMq
            (cwI (avs.length) hts (zgood_in hBT hF0 [] (fun w hw => by cases hw)) hwsq rfl rfl (hts _ (hBT _ (zBig_in f4 rfl))) (hts _ (hBT _ (zBig_in hlk rfl))) (hts _ (hBT _ (zBig_in g1 rfl))) g0 ⟨hne.1, hne.2, by rw [g3, hlenA]⟩ (zrm_ok hfr hlo f5))
            hpre rfl rfl hl.1 rfl (lv_room (by omega)) hd ⟨by omega, by omega⟩)
        · exact zcall_back hz hle hn hS hxx hl hs2 (va_runIN (nL := ls.length) (host := host) ⟨hx, hb, hml, hown, hts⟩ hMq
            ⟨va_cnB (avs.length) hts (zgood_in hBT hF0 [] (fun w hw => by cases hw)) hwsq rfl rfl (henv.1 _ hlk rfl) (hts _ (hBT _ (zBig_in f4 rfl))) ⟨hne.1, hne.2, by rw [g3, hlenA]⟩ (zrm_ok hfr hlo f5), g0, hts _ (hBT _ (zBig_in g1 rfl))⟩
            hpre rfl rfl hl.1 rfl (lv_room (by omega)) hd ⟨by omega, by omega⟩)
      · cases h
    · cases h
  · cases h
theorem zs_invokestatic (hx : p.tables.exec = Jvm.exec) (hb : c.code = cc) {own i n d : Nat} {Ts : List Cond} {q : zMt} (hown : s.vm.findClass (znm own) = some m.cls) (hml : c.maxLocals = ls.length) (hts : ∀ w ∈ Ts, w.before args s = true) (hBT : ∀ w ∈ zBig, w ∈ Ts) (henv : zEnv A pa X adV s) (hA : ∀ q, s.heap.size ≤ q → A q) (hM : zMet l D A pa X adV P d) (hq : zM[n / 1024]? = some q) (hF : zMF q) (hkind : q.2.2.2.2.2.2.1 = 0) (hqn : q.2.2.2.2.2.1 = n % 16) (hlk : Cond.methodLink (znm own) i q.2.1 ∈ lw_tbl ∨ ∃ host, Cond.methodLinkNest (znm own) i q.2.1 host ∈ lw_tbl) (hfr : d + 6 ≤ R.frames) (hlo : 40 * (d + 1) + 250 ≤ R.locals) (hrc : rf.2.2.2.1 - σ0.2.2.2.1 ≤ R.cells) (hrs : rf.2.2.2.2 - σ0.2.2.2.2 ≤ R.slots) (hd : decode cc pc = .ok (.invokestatic i, 3)) (hk : ∀ pc ls st σ, k pc ls st σ = some (rv, rf) → zG p l e R s m args below meth c Q D A pa ws0 σ0 rf pc ls st σ) (h : zstep X (zcal X P d) (.invokestatic n) ls st σ (pc + 3) k = some (rv, rf)) : zG p l e R s m args below meth c Q D A pa ws0 σ0 rf pc ls st σ := by
  have hF0 := hF
  obtain ⟨f1, f2, f3, f4, f5, f6, f7, -, -⟩ := hF
  obtain ⟨g1, g3⟩ := f7 hkind
  simp only [zstep] at h
  split at h
  · next as r hp =>
    split at h
    · next hsum =>
      have hs8 : (r.map zcat).sum ≤ 8 := Nat.ble_eq.mp hsum
      obtain ⟨ra, h1, h2⟩ := Option.bind_eq_some_iff.mp h
      obtain ⟨xs, rfl, hlen, has⟩ := zpop_spec _ _ _ _ _ hp
      rw [List.append_nil] at has
      have hz := hk _ _ _ _ h2
      have hle := zcal_le _ _ _ _ _ h1
      have hz1 := hz.1
      refine ⟨⟨Nat.le_trans hle.1 hz.1.1, Nat.le_trans hle.2 hz.1.2⟩, fun ws tys H locs mls mst hn hK hR hP hD hS hxx hl hst => ?_⟩
      obtain ⟨m1, m2, rfl, hs1, hs2⟩ := zSR.app hst
      have hrev := hs1.rev
      rw [← has] at hrev
      have hst1 : m1 ++ m2 = m1.reverse.reverse ++ m2 := by rw [List.reverse_reverse]
      rw [hst1]
      have hlenA : m1.reverse.length = q.2.2.2.2.2.1 := by
        have e1 := hrev.len
        have e2 : xs.length = as.length := by rw [← List.length_reverse, ← has]
        omega
      have hMq := hM (n / 1024) q _ σ ra ws hq h1
      have hne := znm_ne q.1 f1
      rw [f2] at hne
      have hpre : PreS s H (zPc D A pa X adV ws σ as) m1.reverse :=
        ⟨zPc_blind, fun U hU hW => ⟨⟨_, rfl, hrev⟩, ⟨tys, va_K.moved hW.alike hK, hR⟩, by rw [hU]; exact hP, hD, fun q hq => hA q (Nat.le_trans hS.1 (by rw [← hU]; exact hq)), henv.next hS hU hW⟩⟩
      have hc1 : ra.2.2.2.2.1 ≤ rf.2.2.2.1 := hz1.1
      have hc2 : ra.2.2.2.2.2 ≤ rf.2.2.2.2 := hz1.2
      have hsz := hs2.sum
      rcases hlk with hlk | ⟨host, hlk⟩
      · exact zcall_back hz hle hn hS hxx hl hs2 (va_runS (nL := ls.length) ⟨hx, hb, hml, hown, hts⟩ hMq
          (va_cwS (m1.reverse.length) hts (zgood_in hBT hF0 [.methodLink (znm own) i q.2.1, .static q.2.1, .initialized q.2.1.cls] (fun w hw => by
            rcases List.mem_cons.mp hw with rfl | hw
            · exact ⟨hlk, rfl⟩
            rcases List.mem_cons.mp hw with rfl | hw
            · exact ⟨g1, rfl⟩
            rcases List.mem_cons.mp hw with rfl | hw
            · exact ⟨f4, rfl⟩
            · cases hw)) rfl rfl rfl ⟨hne.1, hne.2, by rw [g3, hlenA]⟩ (zrm_ok hfr hlo f5))
          hpre rfl rfl hl.1 rfl (lv_room (by omega)) hd ⟨by omega, by omega⟩)
      · exact zcall_back hz hle hn hS hxx hl hs2 (va_runSN (nL := ls.length) (host := host) ⟨hx, hb, hml, hown, hts⟩ hMq
          ⟨va_cnB (m1.reverse.length) hts (zgood_in hBT hF0 [] (fun w hw => by cases hw)) rfl rfl rfl (henv.1 _ hlk rfl) (hts _ (hBT _ (zBig_in f4 rfl))) ⟨hne.1, hne.2, by rw [g3, hlenA]⟩ (zrm_ok hfr hlo f5), hts _ (hBT _ (zBig_in g1 rfl)), trivial⟩
          hpre rfl rfl hl.1 rfl (lv_room (by omega)) hd ⟨by omega, by omega⟩)
    · cases h
  · cases h
end ZOPS7
