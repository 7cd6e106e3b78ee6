/-! ONE STEP OF THE SMALL MACHINE IS ONE INSTRUCTION OF THE MACHINE: what was there before, Math, rows copied, rows of rows. -/
/-- the numbers of one cell are changed -/
theorem zRel.setRow {σ σ' : zMem} {ws : va_W} {tys : List (ClassId × FieldType)} {b a : Nat} {e e' : va_E} (h : zRel σ ws tys) (hb : ws[b]? = some (a, e)) (hI : ∀ a', a' ≠ b + 1 → σ'.1 a' = σ.1 a') (h2 : σ'.2 = σ.2) (hc : zCR ws tys (σ.2.2.1 (b + 1)) (σ'.1 (b + 1)) (σ.2.1 (b + 1)) e') : zRel σ' (ws.set b (a, e')) tys := by
  refine ⟨by rw [List.length_set, h2]; exact h.1, by rw [h2]; exact h.2.1, fun b' q hq => ?_⟩
  have hx := zext.set (e' := e') hb
  rw [h2]
  by_cases hbb : b' = b
  · subst hbb
    rw [List.getElem?_set_self (List.getElem?_eq_some_iff.mp hb).1] at hq
    cases hq
    exact hc.mono hx (fun _ _ h => h)
  · rw [List.getElem?_set_ne (Ne.symm hbb)] at hq
    have := (h.2.2 b' q hq).mono hx (fun _ _ h => h)
    rw [hI _ (fun q => hbb (by omega))]
    exact this
/-- the row of rows -/
def va_E_outer (cA : ClassId) (N : Nat) (r : Nat → Nat) : va_E := .inl (cA, (N, .inr (.inr (.inr (.inr (fun i => if i < N then some (r i) else none))))))
theorem zRel_multi {σ : zMem} {ws : va_W} {tys : List (ClassId × FieldType)} {q N M : Nat} {cA cy : ClassId} {r : Nat → Nat} (h : zRel σ ws tys) : zRel (zmulti σ N M) (ws ++ ((q, va_E_outer cA N r) :: (List.range N).map (fun i => (r i, .inl (cy, (M, .inr (.inl (fun _ => 0)))))))) ((tys ++ [(cA, .array .long)]) ++ [(cy, .long)]) := by
  have hl : ws.length = σ.2.2.2.1 := h.1
  have hrow : ∀ j, j < N → (ws ++ ((q, va_E_outer cA N r) :: (List.range N).map (fun i => (r i, (.inl (cy, (M, .inr (.inl (fun _ => 0)))) : va_E)))))[σ.2.2.2.1 + 1 + j]? = some (r j, .inl (cy, (M, .inr (.inl (fun _ => 0))))) := by
    intro j hj
    rw [List.getElem?_append_right (by omega), show σ.2.2.2.1 + 1 + j - ws.length = j + 1 by omega, List.getElem?_cons_succ, List.getElem?_map, List.getElem?_range hj]
    rfl
  refine ⟨?_, ?_, fun b x hb => ?_⟩
  · rw [List.length_append, List.length_cons, List.length_map, List.length_range, hl]
    show _ = σ.2.2.2.1 + 1 + N
    omega
  · simp only [zmulti]
    rw [if_neg (by omega), if_pos (by omega)]
    exact h.2.1
  · by_cases h1 : b < ws.length
    · rw [List.getElem?_append_left h1] at hb
      have hm := (h.2.2 b x hb).mono (zext.app ws ((q, va_E_outer cA N r) :: (List.range N).map (fun i => (r i, (.inl (cy, (M, .inr (.inl (fun _ => 0)))) : va_E))))) (ztys_app (q0 := (cA, .array .long)))
      have hm := hm.mono (zext.refl _) (ztys_app (q0 := (cy, .long)))
      have e1 : (zmulti σ N M).1 (b + 1) = σ.1 (b + 1) := by funext j; simp only [zmulti]; rw [if_pos (by omega)]
      have e2 : (zmulti σ N M).2.1 (b + 1) = σ.2.1 (b + 1) := by funext j; simp only [zmulti]; rw [if_neg (by omega), if_pos (by omega)]
      have e3 : (zmulti σ N M).2.2.1 (b + 1) = σ.2.2.1 (b + 1) := by simp only [zmulti]; rw [if_neg (by omega), if_pos (by omega)]
      rw [e1, e2, e3]
      exact hm
    · by_cases h2 : b = ws.length
      · subst h2
        rw [List.getElem?_append_right (Nat.le_refl _), Nat.sub_self] at hb
        cases hb
        have e3 : (zmulti σ N M).2.2.1 (ws.length + 1) = (6, (N, 0)) := by simp only [zmulti]; rw [if_pos (by omega)]
        have e2 : ∀ j, j < N → (zmulti σ N M).2.1 (ws.length + 1) j = σ.2.2.2.1 + 1 + j + 1 := by intro j hj; simp only [zmulti]; rw [if_pos (by omega), if_pos hj]; omega
        rw [e3]
        refine ⟨tys.length, cA, _, ?_, rfl, fun j hj => ?_⟩
        · rw [List.getElem?_append_left (by rw [List.length_append]; show _ < _ + 1; omega)]
          exact ztys_last
        · rw [e2 j hj, if_pos hj]
          exact ⟨_, hrow j hj, rfl⟩
      · have hlen := (List.getElem?_eq_some_iff.mp hb).1
        rw [List.length_append, List.length_cons, List.length_map, List.length_range] at hlen
        obtain ⟨j, rfl⟩ : ∃ j, b = σ.2.2.2.1 + 1 + j := ⟨b - (σ.2.2.2.1 + 1), by omega⟩
        rw [hrow j (by omega)] at hb
        cases hb
        have e3 : (zmulti σ N M).2.2.1 (σ.2.2.2.1 + 1 + j + 1) = (3, (M, 0)) := by simp only [zmulti]; rw [if_neg (by omega), if_neg (by omega), if_pos (by omega)]
        have e1 : (zmulti σ N M).1 (σ.2.2.2.1 + 1 + j + 1) = fun _ => 0 := by funext i; simp only [zmulti]; rw [if_neg (by omega)]
        rw [e3, e1]
        exact ⟨_, cy, _, ztys_last, rfl, fun j hj => rfl⟩
theorem znfw : nativeFrameWords "java/lang/System" "arraycopy" 5 = 7 := by decide +kernel
section ZOPS5
variable {p : Program} {l : Launch} {e : Env} {R : Room} {s : State} {m : MethodId} {args : Array Value} {below : List Frame} {meth : Method} {c : Code} {cc : ByteArray} {Q : State → Prop} {D : va_G} {A : Nat → Prop} {pa : Nat → Nat} {ws0 : va_W} {σ0 rf : zMem}
variable {pc nx : Nat} {ls : zLoc} {st : List zV} {σ : zMem} {k : zK} {X : zX} {C : zC} {rv : Option zV}
theorem zs_ldcS (hx : p.tables.exec = Jvm.exec) (hb : c.code = cc) {own i j : Nat} {tx : String} (hown : s.vm.findClass (znm own) = some m.cls) (hZ : vk_R (znm own) i tx (pa j) s) (hd : decode cc pc = .ok (.ldc i, 2)) (hk : ∀ pc ls st σ, k pc ls st σ = some (rv, rf) → zG p l e R s m args below meth c Q D A pa ws0 σ0 rf pc ls st σ) (h : zstep X C (.ldc j) ls st σ (pc + 2) k = some (rv, rf)) : zG p l e R s m args below meth c Q D A pa ws0 σ0 rf pc ls st σ :=
  zG_step (hk _ _ _ _ h) (fun ws H locs cells slots mls mst hS hl hs kk => va_ldcS hx hb hown hZ hd (kk mls _ hl ⟨_, _, rfl, rfl, hs⟩))
theorem zs_getstatic (hx : p.tables.exec = Jvm.exec) (hb : c.code = cc) {own i j : Nat} {O n d : String} (hown : s.vm.findClass (znm own) = some m.cls) (hZ : va_Z O n d (.ref (pa j)) A s s.heap) (hlk : (Cond.fieldLink (znm own) i O n d).before args s = true ∨ ∃ host, (Cond.fieldLinkNest (znm own) i O n d host).before args s = true) (hd : decode cc pc = .ok (.getstatic i, 3)) (hk : ∀ pc ls st σ, k pc ls st σ = some (rv, rf) → zG p l e R s m args below meth c Q D A pa ws0 σ0 rf pc ls st σ) (h : zstep X C (.getstatic j) ls st σ (pc + 3) k = some (rv, rf)) : zG p l e R s m args below meth c Q D A pa ws0 σ0 rf pc ls st σ :=
  zG_step (hk _ _ _ _ h) (fun ws H locs cells slots mls mst hS hl hs kk => by
    rcases hlk with hlk | ⟨host, hlk⟩
    · exact va_gets hx hb hZ hS hown hlk (fun _ h => h) hd (kk mls _ hl ⟨_, _, rfl, rfl, hs⟩)
    · exact va_getsN hx hb hZ hS hown hlk (fun _ h => h) hd (kk mls _ hl ⟨_, _, rfl, rfl, hs⟩))
theorem zs_fadd (hx : p.tables.exec = Jvm.exec) (hb : c.code = cc) {own i : Nat} (hown : s.vm.findClass (znm own) = some m.cls) (hlk : (Cond.methodLink (znm own) i Lib.Math.min.name).before args s = true) (hst : (Cond.static Lib.Math.min.name).before args s = true) (hini : (Cond.initialized "java/lang/Math").before args s = true) (hco : (Cond.code Lib.Math.min.name Lib.Math.min.code 2 (some .int)).before args s = true) (hml : c.maxLocals = ls.length) (hfr : 4 ≤ R.frames) (hlo : 200 ≤ R.locals) (hrc : rf.2.2.2.1 - σ0.2.2.2.1 ≤ R.cells) (hrs : rf.2.2.2.2 - σ0.2.2.2.2 ≤ R.slots) (hd : decode cc pc = .ok (.invokestatic i, 3)) (hk : ∀ pc ls st σ, k pc ls st σ = some (rv, rf) → zG p l e R s m args below meth c Q D A pa ws0 σ0 rf pc ls st σ) (h : zstep X C .fadd ls st σ (pc + 3) k = some (rv, rf)) : zG p l e R s m args below meth c Q D A pa ws0 σ0 rf pc ls st σ := by
  simp only [zstep] at h
  split at h
  · split at h
    · next y x r _ hsum =>
      have hs8 : (r.map zcat).sum ≤ 8 := Nat.ble_eq.mp hsum
      have hz := hk _ _ _ _ h
      refine ⟨hz.1, fun ws tys H locs mls mst hn hK hR hP hD hS hxx hl hst' => ?_⟩
      obtain ⟨hz1, hz2⟩ := hz.1
      obtain ⟨_, _, rfl, ⟨y, rfl, rfl⟩, _, m2, rfl, ⟨x, rfl, rfl⟩, hst'⟩ := hst'
      have hsz := hst'.sum
      refine va_mmin hx hb (by rw [hl.1, hml]) hown hlk hst hini hco (by omega) (by omega) (by omega) (by omega) hd (hz.2 ws tys H locs mls _ hn hK hR hP hD hS hxx hl (zSR_int ?_ hst'))
      by_cases e : y < x
      · rw [if_pos e, if_pos ((zn_lt y x).mp e)]
      · rw [if_neg e, if_neg (fun q => e ((zn_lt y x).mpr q))]
    · cases h
  · cases h
theorem zs_fsub (hx : p.tables.exec = Jvm.exec) (hb : c.code = cc) {own i : Nat} (hown : s.vm.findClass (znm own) = some m.cls) (hlk : (Cond.methodLink (znm own) i Lib.Math.max.name).before args s = true) (hst : (Cond.static Lib.Math.max.name).before args s = true) (hini : (Cond.initialized "java/lang/Math").before args s = true) (hco : (Cond.code Lib.Math.max.name Lib.Math.max.code 2 (some .int)).before args s = true) (hml : c.maxLocals = ls.length) (hfr : 4 ≤ R.frames) (hlo : 200 ≤ R.locals) (hrc : rf.2.2.2.1 - σ0.2.2.2.1 ≤ R.cells) (hrs : rf.2.2.2.2 - σ0.2.2.2.2 ≤ R.slots) (hd : decode cc pc = .ok (.invokestatic i, 3)) (hk : ∀ pc ls st σ, k pc ls st σ = some (rv, rf) → zG p l e R s m args below meth c Q D A pa ws0 σ0 rf pc ls st σ) (h : zstep X C .fsub ls st σ (pc + 3) k = some (rv, rf)) : zG p l e R s m args below meth c Q D A pa ws0 σ0 rf pc ls st σ := by
  simp only [zstep] at h
  split at h
  · split at h
    · next y x r _ hsum =>
      have hs8 : (r.map zcat).sum ≤ 8 := Nat.ble_eq.mp hsum
      have hz := hk _ _ _ _ h
      refine ⟨hz.1, fun ws tys H locs mls mst hn hK hR hP hD hS hxx hl hst' => ?_⟩
      obtain ⟨hz1, hz2⟩ := hz.1
      obtain ⟨_, _, rfl, ⟨y, rfl, rfl⟩, _, m2, rfl, ⟨x, rfl, rfl⟩, hst'⟩ := hst'
      have hsz := hst'.sum
      refine va_mmax hx hb (by rw [hl.1, hml]) hown hlk hst hini hco (by omega) (by omega) (by omega) (by omega) hd (hz.2 ws tys H locs mls _ hn hK hR hP hD hS hxx hl (zSR_int ?_ hst'))
      by_cases e : x < y
      · rw [if_pos e, if_pos ((zn_lt x y).mp e)]
      · rw [if_neg e, if_neg (fun q => e ((zn_lt x y).mpr q))]
    · cases h
  · cases h
theorem zs_swap (hx : p.tables.exec = Jvm.exec) (hb : c.code = cc) {own i : Nat} (hown : s.vm.findClass (znm own) = some m.cls) (hlk : (Cond.methodLink (znm own) i arraycopyName).before args s = true) (hnat : (Cond.native arraycopyName).before args s = true) (hst : (Cond.static arraycopyName).before args s = true) (hini : (Cond.initialized "java/lang/System").before args s = true) (hml : c.maxLocals = ls.length) (hfr : 4 ≤ R.frames) (hlo : 200 ≤ R.locals) (hd : decode cc pc = .ok (.invokestatic i, 3)) (hk : ∀ pc ls st σ, k pc ls st σ = some (rv, rf) → zG p l e R s m args below meth c Q D A pa ws0 σ0 rf pc ls st σ) (h : zstep X C .swap ls st σ (pc + 3) k = some (rv, rf)) : zG p l e R s m args below meth c Q D A pa ws0 σ0 rf pc ls st σ := by
  simp only [zstep] at h
  split at h
  · split at h
    · next n dp dst sp src r _ hsum =>
      split at h
      · next hc =>
        obtain ⟨c1, c2, c3, c4, c5, c6, c7⟩ := hc
        have hs8 : (r.map zcat).sum ≤ 8 := Nat.ble_eq.mp hsum
        have hz := hk _ _ _ _ h
        refine ⟨hz.1, fun ws tys H locs mls mst hn hK hR hP hD hS hxx hl hst' => ?_⟩
        obtain ⟨_, _, rfl, ⟨n, rfl, rfl⟩, _, _, rfl, ⟨dp, rfl, rfl⟩, w1, _, rfl, hw1, _, _, rfl, ⟨sp, rfl, rfl⟩, w2, m2, rfl, hw2, hst'⟩ := hst'
        have hsz := hst'.sum
        obtain ⟨bd, qd, ed, rfl, hb1, rfl, hcd⟩ := hR.at (show zRR ws dst w1 from hw1) (by rw [c2]; decide)
        obtain ⟨bs, qs, es, rfl, hb2, rfl, hcs⟩ := hR.at (show zRR ws src w2 from hw2) (by rw [c1]; decide)
        simp only [zCR, c2] at hcd
        simp only [zCR, c1] at hcs
        obtain ⟨td, cd, fd, htd, rfl, hfd⟩ := hcd
        obtain ⟨ts, cs, fs, hts, rfl, hfs⟩ := hcs
        have en : n.toNatClampNeg = n.toInt.toNat := rfl
        have ed : dp.toNatClampNeg = dp.toInt.toNat := rfl
        have es : sp.toNatClampNeg = sp.toInt.toNat := rfl
        refine va_copyi hx hb (by rw [hl.1, hml]) hown hlk hnat hst hini hK hP hD hS bs bd ts td hb2 hb1 hts htd rfl (znneg c3) (znneg c4) (znneg c5) (by rw [en, es]; omega) (by rw [en, ed]; omega) (fun _ _ => rfl) (by omega) (by rw [znfw]; omega) hd (fun H1 locs1 hP1 hD1 hS1 => ?_)
        have hx1 := zext.set (e' := .inl (cd, ((σ.2.2.1 (bd + 1)).2.1, .inl (va_cpy fs fd sp.toNatClampNeg dp.toNatClampNeg n.toNatClampNeg)))) hb1
        refine hz.2 _ tys H1 locs1 mls m2 hn hK (hR.setRow hb1 (fun a' ha' => ?_) rfl ?_) hP1 hD1 hS1 (hxx.trans hx1) (hl.mono hx1) (hst'.mono hx1)
        · funext j
          simp only [zcopy]
          rw [if_neg (fun q => ha' q.1)]
        · simp only [zCR, c2]
          refine ⟨td, cd, _, htd, rfl, fun j hj => ?_⟩
          simp only [zcopy]
          unfold va_cpy
          rw [en, ed, es]
          by_cases e : dp.toInt.toNat ≤ j ∧ j < dp.toInt.toNat + n.toInt.toNat
          · rw [if_pos e, if_pos (by exact ⟨trivial, e⟩)]
            exact hfs _ (by omega)
          · rw [if_neg e, if_neg (fun q => e q.2)]
            exact hfd _ hj
      · cases h
    · cases h
  · cases h
theorem zs_multi (hx : p.tables.exec = Jvm.exec) (hb : c.code = cc) {own i : Nat} (hown : s.vm.findClass (znm own) = some m.cls) (hcl : (Cond.classLink (znm own) i "[[J").before args s = true) (hov : va_AOA .long s) (hal : (Cond.arrayClass .long).before args s = true) (hA : ∀ q, s.heap.size ≤ q → A q) (hrc : rf.2.2.2.1 - σ0.2.2.2.1 ≤ R.cells) (hrs : rf.2.2.2.2 - σ0.2.2.2.2 ≤ R.slots) (hd : decode cc pc = .ok (.multianewarray i 2, 4)) (hk : ∀ pc ls st σ, k pc ls st σ = some (rv, rf) → zG p l e R s m args below meth c Q D A pa ws0 σ0 rf pc ls st σ) (h : zstep X C (.multianewarray 0 2) ls st σ (pc + 4) k = some (rv, rf)) : zG p l e R s m args below meth c Q D A pa ws0 σ0 rf pc ls st σ := by
  simp only [zstep] at h
  split at h
  · next mm n r =>
    split at h
    · next hc =>
      obtain ⟨cy, kA, comp, hcy, hkA, hkind⟩ := Cond.arrayClass_spec hal
      have hAr : ArrOfT s cy .long := fun N z => ⟨(fun q hq => by cases hq), kA, hkA, comp, hkind⟩
      have hz := hk _ _ _ _ h
      have hm1 : σ.2.2.2.1 + 1 + n.toNat ≤ rf.2.2.2.1 := hz.1.1
      have hm2 : σ.2.2.2.2 + n.toNat + n.toNat * mm.toNat ≤ rf.2.2.2.2 := hz.1.2
      refine ⟨⟨by omega, by omega⟩, fun ws tys H locs mls mst hn hK hR hP hD hS hxx hl hst => ?_⟩
      obtain ⟨hn1, hn2⟩ := hn
      obtain ⟨_, _, rfl, ⟨x, rfl, hx1⟩, _, m2, rfl, ⟨y, rfl, hy1⟩, hst⟩ := hst
      have hxN : x.toNatClampNeg = mm.toNat := by rw [← hx1]; rfl
      have hyN : y.toNatClampNeg = n.toNat := by rw [← hy1]; rfl
      have hP' : va_P D zcl (ws ++ va_pl [] (fun _ => .inr (0, []))) H := by simpa [va_pl] using hP
      have hD' : va_D A (ws ++ va_pl [] (fun _ => .inr (0, []))) := by simpa [va_pl] using hD
      refine va_mna hx hb hown hcl hov hal hcy hK hP' hD' hS hA (N' := n.toNat) (K' := mm.toNat) (z := (mm.toNat, .inr (.inl (fun _ => 0)))) (znneg (by omega)) (znneg (by omega)) hyN hxN (by omega) (by show _ * 8 ≤ _; omega) (by omega) rfl rfl (by omega) (by omega) (fun cc' => arrV_new cc' mm.toNat _) hd (fun q r' cA H1 hinj hnin hK1 hP1 hD1 hS1 => ?_)
      have hK2 : va_K D zcl ((tys ++ [(cA, .array .long)]) ++ [(cy, .long)]) s := by
        refine ⟨hK1.1, fun k9 x9 hx9 => ?_⟩
        by_cases hlt : k9 < (tys ++ [(cA, FieldType.array .long)]).length
        · rw [List.getElem?_append_left hlt] at hx9
          exact hK1.2 k9 x9 hx9
        · rw [List.getElem?_append_right (by omega)] at hx9
          have h1 : k9 - (tys ++ [(cA, FieldType.array .long)]).length < 1 := (List.getElem?_eq_some_iff.mp hx9).1
          rw [show k9 - (tys ++ [(cA, FieldType.array .long)]).length = 0 by omega] at hx9
          cases hx9
          exact ⟨hAr, hcy⟩
      have ews : ((ws ++ [(q, va_E_outer cA n.toNat r')]) ++ va_pl ([] ++ (List.range n.toNat).map r') (vr_up (fun _ => .inr (0, [])) ((List.range n.toNat).map r') (.inl (cy, (mm.toNat, .inr (.inl (fun _ => 0))))))) = ws ++ ((q, va_E_outer cA n.toNat r') :: (List.range n.toNat).map (fun i => (r' i, .inl (cy, (mm.toNat, .inr (.inl (fun _ => 0))))))) := by
        rw [List.append_assoc, List.nil_append]
        congr 1
        rw [List.singleton_append]
        congr 1
        unfold va_pl
        rw [List.map_map]
        apply List.map_congr_left
        intro i hi
        show (r' i, vr_up _ _ _ (r' i)) = _
        rw [vr_up_in (List.mem_map.mpr ⟨i, hi, rfl⟩)]
      rw [show ((ws ++ [(q, Sum.inl (cA, (n.toNat, Sum.inr (Sum.inr (Sum.inr (Sum.inr (fun i => if i < n.toNat then some (r' i) else none)))))))]) ++ va_pl ([] ++ (List.range n.toNat).map r') (vr_up (fun _ => .inr (0, [])) ((List.range n.toNat).map r') (.inl (cy, (mm.toNat, .inr (.inl (fun _ => 0))))))) = _ from ews] at hP1 hD1
      have e1 : σ.2.2.2.1 - σ0.2.2.2.1 + 1 + n.toNat = (zmulti σ n.toNat mm.toNat).2.2.2.1 - σ0.2.2.2.1 := by show _ = σ.2.2.2.1 + 1 + n.toNat - σ0.2.2.2.1; omega
      have e2 : σ.2.2.2.2 - σ0.2.2.2.2 + n.toNat + n.toNat * mm.toNat = (zmulti σ n.toNat mm.toNat).2.2.2.2 - σ0.2.2.2.2 := by show _ = σ.2.2.2.2 + n.toNat + n.toNat * mm.toNat - σ0.2.2.2.2; omega
      rw [e1, e2]
      have hx2 := zext.app ws ((q, va_E_outer cA n.toNat r') :: (List.range n.toNat).map (fun i => (r' i, .inl (cy, (mm.toNat, .inr (.inl (fun _ => 0)))))))
      refine hz.2 _ _ H1 locs mls _ ⟨by show _ ≤ σ.2.2.2.1 + 1 + _; omega, by show _ ≤ σ.2.2.2.2 + _ + _; omega⟩ hK2 (zRel_multi hR) hP1 hD1 hS1 (hxx.trans hx2) (hl.mono hx2) ⟨_, _, rfl, ?_, hst.mono hx2⟩
      show zRR _ (σ.2.2.2.1 + 1) _
      refine ⟨(q, va_E_outer cA n.toNat r'), ?_, rfl⟩
      rw [← hR.1, List.getElem?_append_right (Nat.le_refl _), Nat.sub_self]
      rfl
    · cases h
  · cases h
end ZOPS5
