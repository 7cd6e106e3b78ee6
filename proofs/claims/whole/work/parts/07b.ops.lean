/-! ONE STEP OF THE SMALL MACHINE IS ONE INSTRUCTION OF THE MACHINE: numbers, branches (written by program: wip/whole/mk07b.py). -/
section ZOPS2
variable {p : Program} {l : Launch} {e : Env} {R : Room} {s : State} {m : MethodId} {args : Array Value} {below : List Frame} {meth : Method} {c : Code} {cc : ByteArray} {Q : State → Prop} {D : va_G} {A : Nat → Prop} {pa : Nat → Nat} {ws0 : va_W} {σ0 rf : zMem}
variable {pc nx : Nat} {ls : zLoc} {st : List zV} {σ : zMem} {k : zK} {X : zX} {C : zC} {rv : Option zV}
theorem zs_iadd (hx : p.tables.exec = Jvm.exec) (hb : c.code = cc) (hd : decode cc pc = .ok (.iadd, 1)) (hk : ∀ pc ls st σ, k pc ls st σ = some (rv, rf) → zG p l e R s m args below meth c Q D A pa ws0 σ0 rf pc ls st σ) (h : zstep X C .iadd ls st σ (pc + 1) k = some (rv, rf)) : zG p l e R s m args below meth c Q D A pa ws0 σ0 rf pc ls st σ := by
  simp only [zstep] at h
  split at h
  · exact zG_step (hk _ _ _ _ h) (fun ws H locs cells slots mls mst hS hl hs kk => by
      obtain ⟨_, _, rfl, ⟨y, rfl, rfl⟩, _, m2, rfl, ⟨x, rfl, rfl⟩, hs⟩ := hs
      exact lv_iadd hx hb hd (kk mls _ hl (zSR_int (zn_add x y) hs)))
  · cases h
theorem zs_isub (hx : p.tables.exec = Jvm.exec) (hb : c.code = cc) (hd : decode cc pc = .ok (.isub, 1)) (hk : ∀ pc ls st σ, k pc ls st σ = some (rv, rf) → zG p l e R s m args below meth c Q D A pa ws0 σ0 rf pc ls st σ) (h : zstep X C .isub ls st σ (pc + 1) k = some (rv, rf)) : zG p l e R s m args below meth c Q D A pa ws0 σ0 rf pc ls st σ := by
  simp only [zstep] at h
  split at h
  · exact zG_step (hk _ _ _ _ h) (fun ws H locs cells slots mls mst hS hl hs kk => by
      obtain ⟨_, _, rfl, ⟨y, rfl, rfl⟩, _, m2, rfl, ⟨x, rfl, rfl⟩, hs⟩ := hs
      exact lv_isub hx hb hd (kk mls _ hl (zSR_int (zn_sub x y) hs)))
  · cases h
theorem zs_imul (hx : p.tables.exec = Jvm.exec) (hb : c.code = cc) (hd : decode cc pc = .ok (.imul, 1)) (hk : ∀ pc ls st σ, k pc ls st σ = some (rv, rf) → zG p l e R s m args below meth c Q D A pa ws0 σ0 rf pc ls st σ) (h : zstep X C .imul ls st σ (pc + 1) k = some (rv, rf)) : zG p l e R s m args below meth c Q D A pa ws0 σ0 rf pc ls st σ := by
  simp only [zstep] at h
  split at h
  · exact zG_step (hk _ _ _ _ h) (fun ws H locs cells slots mls mst hS hl hs kk => by
      obtain ⟨_, _, rfl, ⟨y, rfl, rfl⟩, _, m2, rfl, ⟨x, rfl, rfl⟩, hs⟩ := hs
      exact lv_imul hx hb hd (kk mls _ hl (zSR_int (zn_mul x y) hs)))
  · cases h
theorem zs_iand (hx : p.tables.exec = Jvm.exec) (hb : c.code = cc) (hd : decode cc pc = .ok (.iand, 1)) (hk : ∀ pc ls st σ, k pc ls st σ = some (rv, rf) → zG p l e R s m args below meth c Q D A pa ws0 σ0 rf pc ls st σ) (h : zstep X C .iand ls st σ (pc + 1) k = some (rv, rf)) : zG p l e R s m args below meth c Q D A pa ws0 σ0 rf pc ls st σ := by
  simp only [zstep] at h
  split at h
  · exact zG_step (hk _ _ _ _ h) (fun ws H locs cells slots mls mst hS hl hs kk => by
      obtain ⟨_, _, rfl, ⟨y, rfl, rfl⟩, _, m2, rfl, ⟨x, rfl, rfl⟩, hs⟩ := hs
      exact lv_iand hx hb hd (kk mls _ hl (zSR_int (zn_and x y) hs)))
  · cases h
theorem zs_ior (hx : p.tables.exec = Jvm.exec) (hb : c.code = cc) (hd : decode cc pc = .ok (.ior, 1)) (hk : ∀ pc ls st σ, k pc ls st σ = some (rv, rf) → zG p l e R s m args below meth c Q D A pa ws0 σ0 rf pc ls st σ) (h : zstep X C .ior ls st σ (pc + 1) k = some (rv, rf)) : zG p l e R s m args below meth c Q D A pa ws0 σ0 rf pc ls st σ := by
  simp only [zstep] at h
  split at h
  · exact zG_step (hk _ _ _ _ h) (fun ws H locs cells slots mls mst hS hl hs kk => by
      obtain ⟨_, _, rfl, ⟨y, rfl, rfl⟩, _, m2, rfl, ⟨x, rfl, rfl⟩, hs⟩ := hs
      exact lv_ior hx hb hd (kk mls _ hl (zSR_int (zn_or x y) hs)))
  · cases h
theorem zs_ishl (hx : p.tables.exec = Jvm.exec) (hb : c.code = cc) (hd : decode cc pc = .ok (.ishl, 1)) (hk : ∀ pc ls st σ, k pc ls st σ = some (rv, rf) → zG p l e R s m args below meth c Q D A pa ws0 σ0 rf pc ls st σ) (h : zstep X C .ishl ls st σ (pc + 1) k = some (rv, rf)) : zG p l e R s m args below meth c Q D A pa ws0 σ0 rf pc ls st σ := by
  simp only [zstep] at h
  split at h
  · exact zG_step (hk _ _ _ _ h) (fun ws H locs cells slots mls mst hS hl hs kk => by
      obtain ⟨_, _, rfl, ⟨y, rfl, rfl⟩, _, m2, rfl, ⟨x, rfl, rfl⟩, hs⟩ := hs
      exact lv_ishl hx hb hd (kk mls _ hl (zSR_int (zn_shl x y) hs)))
  · cases h
theorem zs_ishr (hx : p.tables.exec = Jvm.exec) (hb : c.code = cc) (hd : decode cc pc = .ok (.ishr, 1)) (hk : ∀ pc ls st σ, k pc ls st σ = some (rv, rf) → zG p l e R s m args below meth c Q D A pa ws0 σ0 rf pc ls st σ) (h : zstep X C .ishr ls st σ (pc + 1) k = some (rv, rf)) : zG p l e R s m args below meth c Q D A pa ws0 σ0 rf pc ls st σ := by
  simp only [zstep] at h
  split at h
  · exact zG_step (hk _ _ _ _ h) (fun ws H locs cells slots mls mst hS hl hs kk => by
      obtain ⟨_, _, rfl, ⟨y, rfl, rfl⟩, _, m2, rfl, ⟨x, rfl, rfl⟩, hs⟩ := hs
      exact lv_ishr hx hb hd (kk mls _ hl (zSR_int (zn_shr x y) hs)))
  · cases h
theorem zs_iushr (hx : p.tables.exec = Jvm.exec) (hb : c.code = cc) (hd : decode cc pc = .ok (.iushr, 1)) (hk : ∀ pc ls st σ, k pc ls st σ = some (rv, rf) → zG p l e R s m args below meth c Q D A pa ws0 σ0 rf pc ls st σ) (h : zstep X C .iushr ls st σ (pc + 1) k = some (rv, rf)) : zG p l e R s m args below meth c Q D A pa ws0 σ0 rf pc ls st σ := by
  simp only [zstep] at h
  split at h
  · exact zG_step (hk _ _ _ _ h) (fun ws H locs cells slots mls mst hS hl hs kk => by
      obtain ⟨_, _, rfl, ⟨y, rfl, rfl⟩, _, m2, rfl, ⟨x, rfl, rfl⟩, hs⟩ := hs
      exact lv_iushr hx hb hd rfl (kk mls _ hl (zSR_int (zn_ushr x y) hs)))
  · cases h
theorem zs_idiv (hx : p.tables.exec = Jvm.exec) (hb : c.code = cc) (hd : decode cc pc = .ok (.idiv, 1)) (hk : ∀ pc ls st σ, k pc ls st σ = some (rv, rf) → zG p l e R s m args below meth c Q D A pa ws0 σ0 rf pc ls st σ) (h : zstep X C .idiv ls st σ (pc + 1) k = some (rv, rf)) : zG p l e R s m args below meth c Q D A pa ws0 σ0 rf pc ls st σ := by
  simp only [zstep] at h
  split at h
  · split at h
    · cases h
    · next hy0 =>
      exact zG_step (hk _ _ _ _ h) (fun ws H locs cells slots mls mst hS hl hs kk => by
        obtain ⟨_, _, rfl, ⟨y, rfl, hy1⟩, _, m2, rfl, ⟨x, rfl, hx1⟩, hs⟩ := hs
        subst hy1; subst hx1
        have hy : ¬ y.toInt = 0 := hy0
        exact lv_idiv hx hb hd (fun q => hy ((zn_eq0 y).mp q)) (kk mls _ hl (zSR_int (zn_div x y) hs)))
  · cases h
theorem zs_irem (hx : p.tables.exec = Jvm.exec) (hb : c.code = cc) (hd : decode cc pc = .ok (.irem, 1)) (hk : ∀ pc ls st σ, k pc ls st σ = some (rv, rf) → zG p l e R s m args below meth c Q D A pa ws0 σ0 rf pc ls st σ) (h : zstep X C .irem ls st σ (pc + 1) k = some (rv, rf)) : zG p l e R s m args below meth c Q D A pa ws0 σ0 rf pc ls st σ := by
  simp only [zstep] at h
  split at h
  · split at h
    · cases h
    · next hy0 =>
      exact zG_step (hk _ _ _ _ h) (fun ws H locs cells slots mls mst hS hl hs kk => by
        obtain ⟨_, _, rfl, ⟨y, rfl, hy1⟩, _, m2, rfl, ⟨x, rfl, hx1⟩, hs⟩ := hs
        subst hy1; subst hx1
        have hy : ¬ y.toInt = 0 := hy0
        exact lv_irem hx hb hd (fun q => hy ((zn_eq0 y).mp q)) (kk mls _ hl (zSR_int (zn_rem x y hy) hs)))
  · cases h
theorem zs_i2l (hx : p.tables.exec = Jvm.exec) (hb : c.code = cc) (hd : decode cc pc = .ok (.i2l, 1)) (hk : ∀ pc ls st σ, k pc ls st σ = some (rv, rf) → zG p l e R s m args below meth c Q D A pa ws0 σ0 rf pc ls st σ) (h : zstep X C .i2l ls st σ (pc + 1) k = some (rv, rf)) : zG p l e R s m args below meth c Q D A pa ws0 σ0 rf pc ls st σ := by
  simp only [zstep] at h
  split at h
  · exact zG_step (hk _ _ _ _ h) (fun ws H locs cells slots mls mst hS hl hs kk => by
      obtain ⟨_, _, rfl, ⟨x, rfl, rfl⟩, hs⟩ := hs
      exact lv_i2l hx hb hd rfl (kk mls _ hl (zSR_long (zn_i2l x) hs)))
  · cases h
theorem zs_l2i (hx : p.tables.exec = Jvm.exec) (hb : c.code = cc) (hd : decode cc pc = .ok (.l2i, 1)) (hk : ∀ pc ls st σ, k pc ls st σ = some (rv, rf) → zG p l e R s m args below meth c Q D A pa ws0 σ0 rf pc ls st σ) (h : zstep X C .l2i ls st σ (pc + 1) k = some (rv, rf)) : zG p l e R s m args below meth c Q D A pa ws0 σ0 rf pc ls st σ := by
  simp only [zstep] at h
  split at h
  · exact zG_step (hk _ _ _ _ h) (fun ws H locs cells slots mls mst hS hl hs kk => by
      obtain ⟨_, _, rfl, ⟨x, rfl, rfl⟩, hs⟩ := hs
      exact lv_l2i hx hb hd rfl (kk mls _ hl (zSR_int (zn_l2i x) hs)))
  · cases h
theorem zs_i2b (hx : p.tables.exec = Jvm.exec) (hb : c.code = cc) (hd : decode cc pc = .ok (.i2b, 1)) (hk : ∀ pc ls st σ, k pc ls st σ = some (rv, rf) → zG p l e R s m args below meth c Q D A pa ws0 σ0 rf pc ls st σ) (h : zstep X C .i2b ls st σ (pc + 1) k = some (rv, rf)) : zG p l e R s m args below meth c Q D A pa ws0 σ0 rf pc ls st σ := by
  simp only [zstep] at h
  split at h
  · exact zG_step (hk _ _ _ _ h) (fun ws H locs cells slots mls mst hS hl hs kk => by
      obtain ⟨_, _, rfl, ⟨x, rfl, rfl⟩, hs⟩ := hs
      exact lv_i2b hx hb hd rfl (kk mls _ hl (zSR_int (zn_i2b x) hs)))
  · cases h
theorem zs_i2s (hx : p.tables.exec = Jvm.exec) (hb : c.code = cc) (hd : decode cc pc = .ok (.i2s, 1)) (hk : ∀ pc ls st σ, k pc ls st σ = some (rv, rf) → zG p l e R s m args below meth c Q D A pa ws0 σ0 rf pc ls st σ) (h : zstep X C .i2s ls st σ (pc + 1) k = some (rv, rf)) : zG p l e R s m args below meth c Q D A pa ws0 σ0 rf pc ls st σ := by
  simp only [zstep] at h
  split at h
  · exact zG_step (hk _ _ _ _ h) (fun ws H locs cells slots mls mst hS hl hs kk => by
      obtain ⟨_, _, rfl, ⟨x, rfl, rfl⟩, hs⟩ := hs
      exact lv_i2s hx hb hd rfl (kk mls _ hl (zSR_int (zn_i2s x) hs)))
  · cases h
theorem zs_ladd (hx : p.tables.exec = Jvm.exec) (hb : c.code = cc) (hd : decode cc pc = .ok (.ladd, 1)) (hk : ∀ pc ls st σ, k pc ls st σ = some (rv, rf) → zG p l e R s m args below meth c Q D A pa ws0 σ0 rf pc ls st σ) (h : zstep X C .ladd ls st σ (pc + 1) k = some (rv, rf)) : zG p l e R s m args below meth c Q D A pa ws0 σ0 rf pc ls st σ := by
  simp only [zstep] at h
  split at h
  · exact zG_step (hk _ _ _ _ h) (fun ws H locs cells slots mls mst hS hl hs kk => by
      obtain ⟨_, _, rfl, ⟨y, rfl, rfl⟩, _, m2, rfl, ⟨x, rfl, rfl⟩, hs⟩ := hs
      exact lv_ladd hx hb hd (kk mls _ hl (zSR_long (zn_ladd x y) hs)))
  · cases h
theorem zs_lsub (hx : p.tables.exec = Jvm.exec) (hb : c.code = cc) (hd : decode cc pc = .ok (.lsub, 1)) (hk : ∀ pc ls st σ, k pc ls st σ = some (rv, rf) → zG p l e R s m args below meth c Q D A pa ws0 σ0 rf pc ls st σ) (h : zstep X C .lsub ls st σ (pc + 1) k = some (rv, rf)) : zG p l e R s m args below meth c Q D A pa ws0 σ0 rf pc ls st σ := by
  simp only [zstep] at h
  split at h
  · exact zG_step (hk _ _ _ _ h) (fun ws H locs cells slots mls mst hS hl hs kk => by
      obtain ⟨_, _, rfl, ⟨y, rfl, rfl⟩, _, m2, rfl, ⟨x, rfl, rfl⟩, hs⟩ := hs
      exact lv_lsub hx hb hd (kk mls _ hl (zSR_long (zn_lsub x y) hs)))
  · cases h
theorem zs_lmul (hx : p.tables.exec = Jvm.exec) (hb : c.code = cc) (hd : decode cc pc = .ok (.lmul, 1)) (hk : ∀ pc ls st σ, k pc ls st σ = some (rv, rf) → zG p l e R s m args below meth c Q D A pa ws0 σ0 rf pc ls st σ) (h : zstep X C .lmul ls st σ (pc + 1) k = some (rv, rf)) : zG p l e R s m args below meth c Q D A pa ws0 σ0 rf pc ls st σ := by
  simp only [zstep] at h
  split at h
  · exact zG_step (hk _ _ _ _ h) (fun ws H locs cells slots mls mst hS hl hs kk => by
      obtain ⟨_, _, rfl, ⟨y, rfl, rfl⟩, _, m2, rfl, ⟨x, rfl, rfl⟩, hs⟩ := hs
      exact lv_lmul hx hb hd (kk mls _ hl (zSR_long (zn_lmul x y) hs)))
  · cases h
theorem zs_lcmp (hx : p.tables.exec = Jvm.exec) (hb : c.code = cc) (hd : decode cc pc = .ok (.lcmp, 1)) (hk : ∀ pc ls st σ, k pc ls st σ = some (rv, rf) → zG p l e R s m args below meth c Q D A pa ws0 σ0 rf pc ls st σ) (h : zstep X C .lcmp ls st σ (pc + 1) k = some (rv, rf)) : zG p l e R s m args below meth c Q D A pa ws0 σ0 rf pc ls st σ := by
  simp only [zstep] at h
  split at h
  · exact zG_step (hk _ _ _ _ h) (fun ws H locs cells slots mls mst hS hl hs kk => by
      obtain ⟨_, _, rfl, ⟨y, rfl, rfl⟩, _, m2, rfl, ⟨x, rfl, rfl⟩, hs⟩ := hs
      exact W.lcmp hx hb hd (kk mls _ hl (zSR_int (zn_lcmp x y) hs)))
  · cases h
theorem zs_dup (hx : p.tables.exec = Jvm.exec) (hb : c.code = cc) (hd : decode cc pc = .ok (.dup, 1)) (hk : ∀ pc ls st σ, k pc ls st σ = some (rv, rf) → zG p l e R s m args below meth c Q D A pa ws0 σ0 rf pc ls st σ) (h : zstep X C .dup ls st σ (pc + 1) k = some (rv, rf)) : zG p l e R s m args below meth c Q D A pa ws0 σ0 rf pc ls st σ := by
  simp only [zstep] at h
  split at h
  · exact zG_step (hk _ _ _ _ h) (fun ws H locs cells slots mls mst hS hl hs kk => by
      obtain ⟨w, m2, rfl, hv, hs⟩ := hs
      exact lv_dup hx hb hd hv.cat (kk mls _ hl ⟨_, _, rfl, hv, _, _, rfl, hv, hs⟩))
  · exact zG_step (hk _ _ _ _ h) (fun ws H locs cells slots mls mst hS hl hs kk => by
      obtain ⟨w, m2, rfl, hv, hs⟩ := hs
      exact lv_dup hx hb hd hv.cat (kk mls _ hl ⟨_, _, rfl, hv, _, _, rfl, hv, hs⟩))
  · cases h
theorem zs_dup2 (hx : p.tables.exec = Jvm.exec) (hb : c.code = cc) (hd : decode cc pc = .ok (.dup2, 1)) (hk : ∀ pc ls st σ, k pc ls st σ = some (rv, rf) → zG p l e R s m args below meth c Q D A pa ws0 σ0 rf pc ls st σ) (h : zstep X C .dup2 ls st σ (pc + 1) k = some (rv, rf)) : zG p l e R s m args below meth c Q D A pa ws0 σ0 rf pc ls st σ := by
  simp only [zstep] at h
  split at h
  · exact zG_step (hk _ _ _ _ h) (fun ws H locs cells slots mls mst hS hl hs kk => by
      obtain ⟨w, m2, rfl, hv, hs⟩ := hs
      exact lv_dup2_2 hx hb hd hv.cat (kk mls _ hl ⟨_, _, rfl, hv, _, _, rfl, hv, hs⟩))
  · exact zG_step (hk _ _ _ _ h) (fun ws H locs cells slots mls mst hS hl hs kk => by
      obtain ⟨w, _, rfl, hv, w2, m2, rfl, hv2, hs⟩ := hs
      exact lv_dup2_11 hx hb hd hv.cat hv2.cat (kk mls _ hl ⟨_, _, rfl, hv, _, _, rfl, hv2, _, _, rfl, hv, _, _, rfl, hv2, hs⟩))
  · cases h
theorem zs_pop (hx : p.tables.exec = Jvm.exec) (hb : c.code = cc) (hd : decode cc pc = .ok (.pop, 1)) (hk : ∀ pc ls st σ, k pc ls st σ = some (rv, rf) → zG p l e R s m args below meth c Q D A pa ws0 σ0 rf pc ls st σ) (h : zstep X C .pop ls st σ (pc + 1) k = some (rv, rf)) : zG p l e R s m args below meth c Q D A pa ws0 σ0 rf pc ls st σ := by
  simp only [zstep] at h
  split at h
  · exact zG_step (hk _ _ _ _ h) (fun ws H locs cells slots mls mst hS hl hs kk => by
      obtain ⟨w, m2, rfl, hv, hs⟩ := hs
      exact lv_pop hx hb hd hv.cat (kk mls _ hl hs))
  · exact zG_step (hk _ _ _ _ h) (fun ws H locs cells slots mls mst hS hl hs kk => by
      obtain ⟨w, m2, rfl, hv, hs⟩ := hs
      exact lv_pop hx hb hd hv.cat (kk mls _ hl hs))
  · cases h
theorem zt_tgt {pc : Nat} {o : Int} (h : 0 ≤ (pc : Int) + o) : (pc : Int) + o = (((pc : Int) + o).toNat : Int) := (Int.toNat_of_nonneg h).symm
theorem zs_goto (hx : p.tables.exec = Jvm.exec) (hb : c.code = cc) {o : Int} (hd : decode cc pc = .ok (.goto o, 3)) (ho : 0 ≤ (pc : Int) + o) (hk : ∀ pc ls st σ, k pc ls st σ = some (rv, rf) → zG p l e R s m args below meth c Q D A pa ws0 σ0 rf pc ls st σ) (h : zstep X C (.goto (pc + o)) ls st σ nx k = some (rv, rf)) : zG p l e R s m args below meth c Q D A pa ws0 σ0 rf pc ls st σ :=
  zG_step (hk _ _ _ _ h) (fun ws H locs cells slots mls mst hS hl hs kk => lv_goto hx hb hd (zt_tgt ho) (kk mls _ hl hs))
theorem zs_ifCond_eq (hx : p.tables.exec = Jvm.exec) (hb : c.code = cc) {o : Int} (hd : decode cc pc = .ok (.ifCond .eq o, 3)) (ho : 0 ≤ (pc : Int) + o) (hk : ∀ pc ls st σ, k pc ls st σ = some (rv, rf) → zG p l e R s m args below meth c Q D A pa ws0 σ0 rf pc ls st σ) (h : zstep X C (.ifCond .eq (pc + o)) ls st σ (pc + 3) k = some (rv, rf)) : zG p l e R s m args below meth c Q D A pa ws0 σ0 rf pc ls st σ := by
  simp only [zstep] at h
  split at h
  · split at h
    · next hc =>
      exact zG_step (hk _ _ _ _ h) (fun ws H locs cells slots mls mst hS hl hs kk => by
        obtain ⟨_, m2, rfl, ⟨x, rfl, hx1⟩, hs⟩ := hs
        subst hx1
        refine lv_if_eq hx hb hd (zt_tgt ho) (fun q => ?_) (fun q => ?_)
        · first | exact kk mls _ hl hs | exact absurd ((zn_eq x (0 : Int32)).mpr hc) (by first | exact q | (simp only [Int32.not_lt, Int32.not_le, ne_eq] at q ⊢; exact q))
        · first | exact kk mls _ hl hs | exact absurd ((zn_eq x (0 : Int32)).mpr hc) (by first | exact q | (simp only [Int32.not_lt, Int32.not_le, ne_eq] at q ⊢; exact q)))
    · next hc =>
      exact zG_step (hk _ _ _ _ h) (fun ws H locs cells slots mls mst hS hl hs kk => by
        obtain ⟨_, m2, rfl, ⟨x, rfl, hx1⟩, hs⟩ := hs
        subst hx1
        refine lv_if_eq hx hb hd (zt_tgt ho) (fun q => ?_) (fun q => ?_)
        · first | exact kk mls _ hl hs | exact absurd ((zn_eq x (0 : Int32)).mp (by first | exact q | (simp only [Int32.not_lt, Int32.not_le, ne_eq] at q ⊢; exact q))) hc
        · first | exact kk mls _ hl hs | exact absurd ((zn_eq x (0 : Int32)).mp (by first | exact q | (simp only [Int32.not_lt, Int32.not_le, ne_eq] at q ⊢; exact q))) hc)
  · cases h
theorem zs_ifCond_ne (hx : p.tables.exec = Jvm.exec) (hb : c.code = cc) {o : Int} (hd : decode cc pc = .ok (.ifCond .ne o, 3)) (ho : 0 ≤ (pc : Int) + o) (hk : ∀ pc ls st σ, k pc ls st σ = some (rv, rf) → zG p l e R s m args below meth c Q D A pa ws0 σ0 rf pc ls st σ) (h : zstep X C (.ifCond .ne (pc + o)) ls st σ (pc + 3) k = some (rv, rf)) : zG p l e R s m args below meth c Q D A pa ws0 σ0 rf pc ls st σ := by
  simp only [zstep] at h
  split at h
  · split at h
    · next hc =>
      exact zG_step (hk _ _ _ _ h) (fun ws H locs cells slots mls mst hS hl hs kk => by
        obtain ⟨_, m2, rfl, ⟨x, rfl, hx1⟩, hs⟩ := hs
        subst hx1
        refine lv_if_ne hx hb hd (zt_tgt ho) (fun q => ?_) (fun q => ?_)
        · first | exact kk mls _ hl hs | exact absurd ((zn_eq x (0 : Int32)).mpr hc) (by first | exact q | (simp only [Int32.not_lt, Int32.not_le, ne_eq] at q ⊢; exact q))
        · first | exact kk mls _ hl hs | exact absurd ((zn_eq x (0 : Int32)).mpr hc) (by first | exact q | (simp only [Int32.not_lt, Int32.not_le, ne_eq] at q ⊢; exact q)))
    · next hc =>
      exact zG_step (hk _ _ _ _ h) (fun ws H locs cells slots mls mst hS hl hs kk => by
        obtain ⟨_, m2, rfl, ⟨x, rfl, hx1⟩, hs⟩ := hs
        subst hx1
        refine lv_if_ne hx hb hd (zt_tgt ho) (fun q => ?_) (fun q => ?_)
        · first | exact kk mls _ hl hs | exact absurd ((zn_eq x (0 : Int32)).mp (by first | exact q | (simp only [Int32.not_lt, Int32.not_le, ne_eq] at q ⊢; exact q))) hc
        · first | exact kk mls _ hl hs | exact absurd ((zn_eq x (0 : Int32)).mp (by first | exact q | (simp only [Int32.not_lt, Int32.not_le, ne_eq] at q ⊢; exact q))) hc)
  · cases h
theorem zs_ifCond_lt (hx : p.tables.exec = Jvm.exec) (hb : c.code = cc) {o : Int} (hd : decode cc pc = .ok (.ifCond .lt o, 3)) (ho : 0 ≤ (pc : Int) + o) (hk : ∀ pc ls st σ, k pc ls st σ = some (rv, rf) → zG p l e R s m args below meth c Q D A pa ws0 σ0 rf pc ls st σ) (h : zstep X C (.ifCond .lt (pc + o)) ls st σ (pc + 3) k = some (rv, rf)) : zG p l e R s m args below meth c Q D A pa ws0 σ0 rf pc ls st σ := by
  simp only [zstep] at h
  split at h
  · split at h
    · next hc =>
      exact zG_step (hk _ _ _ _ h) (fun ws H locs cells slots mls mst hS hl hs kk => by
        obtain ⟨_, m2, rfl, ⟨x, rfl, hx1⟩, hs⟩ := hs
        subst hx1
        refine lv_if_lt hx hb hd (zt_tgt ho) (fun q => ?_) (fun q => ?_)
        · first | exact kk mls _ hl hs | exact absurd ((zn_lt x (0 : Int32)).mpr hc) (by first | exact q | (simp only [Int32.not_lt, Int32.not_le, ne_eq] at q ⊢; exact q))
        · first | exact kk mls _ hl hs | exact absurd ((zn_lt x (0 : Int32)).mpr hc) (by first | exact q | (simp only [Int32.not_lt, Int32.not_le, ne_eq] at q ⊢; exact q)))
    · next hc =>
      exact zG_step (hk _ _ _ _ h) (fun ws H locs cells slots mls mst hS hl hs kk => by
        obtain ⟨_, m2, rfl, ⟨x, rfl, hx1⟩, hs⟩ := hs
        subst hx1
        refine lv_if_lt hx hb hd (zt_tgt ho) (fun q => ?_) (fun q => ?_)
        · first | exact kk mls _ hl hs | exact absurd ((zn_lt x (0 : Int32)).mp (by first | exact q | (simp only [Int32.not_lt, Int32.not_le, ne_eq] at q ⊢; exact q))) hc
        · first | exact kk mls _ hl hs | exact absurd ((zn_lt x (0 : Int32)).mp (by first | exact q | (simp only [Int32.not_lt, Int32.not_le, ne_eq] at q ⊢; exact q))) hc)
  · cases h
theorem zs_ifCond_ge (hx : p.tables.exec = Jvm.exec) (hb : c.code = cc) {o : Int} (hd : decode cc pc = .ok (.ifCond .ge o, 3)) (ho : 0 ≤ (pc : Int) + o) (hk : ∀ pc ls st σ, k pc ls st σ = some (rv, rf) → zG p l e R s m args below meth c Q D A pa ws0 σ0 rf pc ls st σ) (h : zstep X C (.ifCond .ge (pc + o)) ls st σ (pc + 3) k = some (rv, rf)) : zG p l e R s m args below meth c Q D A pa ws0 σ0 rf pc ls st σ := by
  simp only [zstep] at h
  split at h
  · split at h
    · next hc =>
      exact zG_step (hk _ _ _ _ h) (fun ws H locs cells slots mls mst hS hl hs kk => by
        obtain ⟨_, m2, rfl, ⟨x, rfl, hx1⟩, hs⟩ := hs
        subst hx1
        refine lv_if_ge hx hb hd (zt_tgt ho) (fun q => ?_) (fun q => ?_)
        · first | exact kk mls _ hl hs | exact absurd ((zn_lt x (0 : Int32)).mpr hc) (by first | exact q | (simp only [Int32.not_lt, Int32.not_le, ne_eq] at q ⊢; exact q))
        · first | exact kk mls _ hl hs | exact absurd ((zn_lt x (0 : Int32)).mpr hc) (by first | exact q | (simp only [Int32.not_lt, Int32.not_le, ne_eq] at q ⊢; exact q)))
    · next hc =>
      exact zG_step (hk _ _ _ _ h) (fun ws H locs cells slots mls mst hS hl hs kk => by
        obtain ⟨_, m2, rfl, ⟨x, rfl, hx1⟩, hs⟩ := hs
        subst hx1
        refine lv_if_ge hx hb hd (zt_tgt ho) (fun q => ?_) (fun q => ?_)
        · first | exact kk mls _ hl hs | exact absurd ((zn_lt x (0 : Int32)).mp (by first | exact q | (simp only [Int32.not_lt, Int32.not_le, ne_eq] at q ⊢; exact q))) hc
        · first | exact kk mls _ hl hs | exact absurd ((zn_lt x (0 : Int32)).mp (by first | exact q | (simp only [Int32.not_lt, Int32.not_le, ne_eq] at q ⊢; exact q))) hc)
  · cases h
theorem zs_ifCond_gt (hx : p.tables.exec = Jvm.exec) (hb : c.code = cc) {o : Int} (hd : decode cc pc = .ok (.ifCond .gt o, 3)) (ho : 0 ≤ (pc : Int) + o) (hk : ∀ pc ls st σ, k pc ls st σ = some (rv, rf) → zG p l e R s m args below meth c Q D A pa ws0 σ0 rf pc ls st σ) (h : zstep X C (.ifCond .gt (pc + o)) ls st σ (pc + 3) k = some (rv, rf)) : zG p l e R s m args below meth c Q D A pa ws0 σ0 rf pc ls st σ := by
  simp only [zstep] at h
  split at h
  · split at h
    · next hc =>
      exact zG_step (hk _ _ _ _ h) (fun ws H locs cells slots mls mst hS hl hs kk => by
        obtain ⟨_, m2, rfl, ⟨x, rfl, hx1⟩, hs⟩ := hs
        subst hx1
        refine lv_if_gt hx hb hd (zt_tgt ho) (fun q => ?_) (fun q => ?_)
        · first | exact kk mls _ hl hs | exact absurd ((zn_lt (0 : Int32) x).mpr hc) (by first | exact q | (simp only [Int32.not_lt, Int32.not_le, ne_eq] at q ⊢; exact q))
        · first | exact kk mls _ hl hs | exact absurd ((zn_lt (0 : Int32) x).mpr hc) (by first | exact q | (simp only [Int32.not_lt, Int32.not_le, ne_eq] at q ⊢; exact q)))
    · next hc =>
      exact zG_step (hk _ _ _ _ h) (fun ws H locs cells slots mls mst hS hl hs kk => by
        obtain ⟨_, m2, rfl, ⟨x, rfl, hx1⟩, hs⟩ := hs
        subst hx1
        refine lv_if_gt hx hb hd (zt_tgt ho) (fun q => ?_) (fun q => ?_)
        · first | exact kk mls _ hl hs | exact absurd ((zn_lt (0 : Int32) x).mp (by first | exact q | (simp only [Int32.not_lt, Int32.not_le, ne_eq] at q ⊢; exact q))) hc
        · first | exact kk mls _ hl hs | exact absurd ((zn_lt (0 : Int32) x).mp (by first | exact q | (simp only [Int32.not_lt, Int32.not_le, ne_eq] at q ⊢; exact q))) hc)
  · cases h
theorem zs_ifCond_le (hx : p.tables.exec = Jvm.exec) (hb : c.code = cc) {o : Int} (hd : decode cc pc = .ok (.ifCond .le o, 3)) (ho : 0 ≤ (pc : Int) + o) (hk : ∀ pc ls st σ, k pc ls st σ = some (rv, rf) → zG p l e R s m args below meth c Q D A pa ws0 σ0 rf pc ls st σ) (h : zstep X C (.ifCond .le (pc + o)) ls st σ (pc + 3) k = some (rv, rf)) : zG p l e R s m args below meth c Q D A pa ws0 σ0 rf pc ls st σ := by
  simp only [zstep] at h
  split at h
  · split at h
    · next hc =>
      exact zG_step (hk _ _ _ _ h) (fun ws H locs cells slots mls mst hS hl hs kk => by
        obtain ⟨_, m2, rfl, ⟨x, rfl, hx1⟩, hs⟩ := hs
        subst hx1
        refine lv_if_le hx hb hd (zt_tgt ho) (fun q => ?_) (fun q => ?_)
        · first | exact kk mls _ hl hs | exact absurd ((zn_lt (0 : Int32) x).mpr hc) (by first | exact q | (simp only [Int32.not_lt, Int32.not_le, ne_eq] at q ⊢; exact q))
        · first | exact kk mls _ hl hs | exact absurd ((zn_lt (0 : Int32) x).mpr hc) (by first | exact q | (simp only [Int32.not_lt, Int32.not_le, ne_eq] at q ⊢; exact q)))
    · next hc =>
      exact zG_step (hk _ _ _ _ h) (fun ws H locs cells slots mls mst hS hl hs kk => by
        obtain ⟨_, m2, rfl, ⟨x, rfl, hx1⟩, hs⟩ := hs
        subst hx1
        refine lv_if_le hx hb hd (zt_tgt ho) (fun q => ?_) (fun q => ?_)
        · first | exact kk mls _ hl hs | exact absurd ((zn_lt (0 : Int32) x).mp (by first | exact q | (simp only [Int32.not_lt, Int32.not_le, ne_eq] at q ⊢; exact q))) hc
        · first | exact kk mls _ hl hs | exact absurd ((zn_lt (0 : Int32) x).mp (by first | exact q | (simp only [Int32.not_lt, Int32.not_le, ne_eq] at q ⊢; exact q))) hc)
  · cases h
theorem zs_if_icmp_eq (hx : p.tables.exec = Jvm.exec) (hb : c.code = cc) {o : Int} (hd : decode cc pc = .ok (.if_icmp .eq o, 3)) (ho : 0 ≤ (pc : Int) + o) (hk : ∀ pc ls st σ, k pc ls st σ = some (rv, rf) → zG p l e R s m args below meth c Q D A pa ws0 σ0 rf pc ls st σ) (h : zstep X C (.if_icmp .eq (pc + o)) ls st σ (pc + 3) k = some (rv, rf)) : zG p l e R s m args below meth c Q D A pa ws0 σ0 rf pc ls st σ := by
  simp only [zstep] at h
  split at h
  · split at h
    · next hc =>
      exact zG_step (hk _ _ _ _ h) (fun ws H locs cells slots mls mst hS hl hs kk => by
        obtain ⟨_, _, rfl, ⟨y, rfl, hy1⟩, _, m2, rfl, ⟨x, rfl, hx1⟩, hs⟩ := hs
        subst hy1; subst hx1
        refine lv_icmp_eq hx hb hd (zt_tgt ho) (fun q => ?_) (fun q => ?_)
        · first | exact kk mls _ hl hs | exact absurd ((zn_eq x y).mpr hc) (by first | exact q | (simp only [Int32.not_lt, Int32.not_le, ne_eq] at q ⊢; exact q))
        · first | exact kk mls _ hl hs | exact absurd ((zn_eq x y).mpr hc) (by first | exact q | (simp only [Int32.not_lt, Int32.not_le, ne_eq] at q ⊢; exact q)))
    · next hc =>
      exact zG_step (hk _ _ _ _ h) (fun ws H locs cells slots mls mst hS hl hs kk => by
        obtain ⟨_, _, rfl, ⟨y, rfl, hy1⟩, _, m2, rfl, ⟨x, rfl, hx1⟩, hs⟩ := hs
        subst hy1; subst hx1
        refine lv_icmp_eq hx hb hd (zt_tgt ho) (fun q => ?_) (fun q => ?_)
        · first | exact kk mls _ hl hs | exact absurd ((zn_eq x y).mp (by first | exact q | (simp only [Int32.not_lt, Int32.not_le, ne_eq] at q ⊢; exact q))) hc
        · first | exact kk mls _ hl hs | exact absurd ((zn_eq x y).mp (by first | exact q | (simp only [Int32.not_lt, Int32.not_le, ne_eq] at q ⊢; exact q))) hc)
  · cases h
theorem zs_if_icmp_ne (hx : p.tables.exec = Jvm.exec) (hb : c.code = cc) {o : Int} (hd : decode cc pc = .ok (.if_icmp .ne o, 3)) (ho : 0 ≤ (pc : Int) + o) (hk : ∀ pc ls st σ, k pc ls st σ = some (rv, rf) → zG p l e R s m args below meth c Q D A pa ws0 σ0 rf pc ls st σ) (h : zstep X C (.if_icmp .ne (pc + o)) ls st σ (pc + 3) k = some (rv, rf)) : zG p l e R s m args below meth c Q D A pa ws0 σ0 rf pc ls st σ := by
  simp only [zstep] at h
  split at h
  · split at h
    · next hc =>
      exact zG_step (hk _ _ _ _ h) (fun ws H locs cells slots mls mst hS hl hs kk => by
        obtain ⟨_, _, rfl, ⟨y, rfl, hy1⟩, _, m2, rfl, ⟨x, rfl, hx1⟩, hs⟩ := hs
        subst hy1; subst hx1
        refine lv_icmp_ne hx hb hd (zt_tgt ho) (fun q => ?_) (fun q => ?_)
        · first | exact kk mls _ hl hs | exact absurd ((zn_eq x y).mpr hc) (by first | exact q | (simp only [Int32.not_lt, Int32.not_le, ne_eq] at q ⊢; exact q))
        · first | exact kk mls _ hl hs | exact absurd ((zn_eq x y).mpr hc) (by first | exact q | (simp only [Int32.not_lt, Int32.not_le, ne_eq] at q ⊢; exact q)))
    · next hc =>
      exact zG_step (hk _ _ _ _ h) (fun ws H locs cells slots mls mst hS hl hs kk => by
        obtain ⟨_, _, rfl, ⟨y, rfl, hy1⟩, _, m2, rfl, ⟨x, rfl, hx1⟩, hs⟩ := hs
        subst hy1; subst hx1
        refine lv_icmp_ne hx hb hd (zt_tgt ho) (fun q => ?_) (fun q => ?_)
        · first | exact kk mls _ hl hs | exact absurd ((zn_eq x y).mp (by first | exact q | (simp only [Int32.not_lt, Int32.not_le, ne_eq] at q ⊢; exact q))) hc
        · first | exact kk mls _ hl hs | exact absurd ((zn_eq x y).mp (by first | exact q | (simp only [Int32.not_lt, Int32.not_le, ne_eq] at q ⊢; exact q))) hc)
  · cases h
theorem zs_if_icmp_lt (hx : p.tables.exec = Jvm.exec) (hb : c.code = cc) {o : Int} (hd : decode cc pc = .ok (.if_icmp .lt o, 3)) (ho : 0 ≤ (pc : Int) + o) (hk : ∀ pc ls st σ, k pc ls st σ = some (rv, rf) → zG p l e R s m args below meth c Q D A pa ws0 σ0 rf pc ls st σ) (h : zstep X C (.if_icmp .lt (pc + o)) ls st σ (pc + 3) k = some (rv, rf)) : zG p l e R s m args below meth c Q D A pa ws0 σ0 rf pc ls st σ := by
  simp only [zstep] at h
  split at h
  · split at h
    · next hc =>
      exact zG_step (hk _ _ _ _ h) (fun ws H locs cells slots mls mst hS hl hs kk => by
        obtain ⟨_, _, rfl, ⟨y, rfl, hy1⟩, _, m2, rfl, ⟨x, rfl, hx1⟩, hs⟩ := hs
        subst hy1; subst hx1
        refine lv_icmp_lt hx hb hd (zt_tgt ho) (fun q => ?_) (fun q => ?_)
        · first | exact kk mls _ hl hs | exact absurd ((zn_lt x y).mpr hc) (by first | exact q | (simp only [Int32.not_lt, Int32.not_le, ne_eq] at q ⊢; exact q))
        · first | exact kk mls _ hl hs | exact absurd ((zn_lt x y).mpr hc) (by first | exact q | (simp only [Int32.not_lt, Int32.not_le, ne_eq] at q ⊢; exact q)))
    · next hc =>
      exact zG_step (hk _ _ _ _ h) (fun ws H locs cells slots mls mst hS hl hs kk => by
        obtain ⟨_, _, rfl, ⟨y, rfl, hy1⟩, _, m2, rfl, ⟨x, rfl, hx1⟩, hs⟩ := hs
        subst hy1; subst hx1
        refine lv_icmp_lt hx hb hd (zt_tgt ho) (fun q => ?_) (fun q => ?_)
        · first | exact kk mls _ hl hs | exact absurd ((zn_lt x y).mp (by first | exact q | (simp only [Int32.not_lt, Int32.not_le, ne_eq] at q ⊢; exact q))) hc
        · first | exact kk mls _ hl hs | exact absurd ((zn_lt x y).mp (by first | exact q | (simp only [Int32.not_lt, Int32.not_le, ne_eq] at q ⊢; exact q))) hc)
  · cases h
theorem zs_if_icmp_ge (hx : p.tables.exec = Jvm.exec) (hb : c.code = cc) {o : Int} (hd : decode cc pc = .ok (.if_icmp .ge o, 3)) (ho : 0 ≤ (pc : Int) + o) (hk : ∀ pc ls st σ, k pc ls st σ = some (rv, rf) → zG p l e R s m args below meth c Q D A pa ws0 σ0 rf pc ls st σ) (h : zstep X C (.if_icmp .ge (pc + o)) ls st σ (pc + 3) k = some (rv, rf)) : zG p l e R s m args below meth c Q D A pa ws0 σ0 rf pc ls st σ := by
  simp only [zstep] at h
  split at h
  · split at h
    · next hc =>
      exact zG_step (hk _ _ _ _ h) (fun ws H locs cells slots mls mst hS hl hs kk => by
        obtain ⟨_, _, rfl, ⟨y, rfl, hy1⟩, _, m2, rfl, ⟨x, rfl, hx1⟩, hs⟩ := hs
        subst hy1; subst hx1
        refine lv_icmp_ge hx hb hd (zt_tgt ho) (fun q => ?_) (fun q => ?_)
        · first | exact kk mls _ hl hs | exact absurd ((zn_lt x y).mpr hc) (by first | exact q | (simp only [Int32.not_lt, Int32.not_le, ne_eq] at q ⊢; exact q))
        · first | exact kk mls _ hl hs | exact absurd ((zn_lt x y).mpr hc) (by first | exact q | (simp only [Int32.not_lt, Int32.not_le, ne_eq] at q ⊢; exact q)))
    · next hc =>
      exact zG_step (hk _ _ _ _ h) (fun ws H locs cells slots mls mst hS hl hs kk => by
        obtain ⟨_, _, rfl, ⟨y, rfl, hy1⟩, _, m2, rfl, ⟨x, rfl, hx1⟩, hs⟩ := hs
        subst hy1; subst hx1
        refine lv_icmp_ge hx hb hd (zt_tgt ho) (fun q => ?_) (fun q => ?_)
        · first | exact kk mls _ hl hs | exact absurd ((zn_lt x y).mp (by first | exact q | (simp only [Int32.not_lt, Int32.not_le, ne_eq] at q ⊢; exact q))) hc
        · first | exact kk mls _ hl hs | exact absurd ((zn_lt x y).mp (by first | exact q | (simp only [Int32.not_lt, Int32.not_le, ne_eq] at q ⊢; exact q))) hc)
  · cases h
theorem zs_if_icmp_gt (hx : p.tables.exec = Jvm.exec) (hb : c.code = cc) {o : Int} (hd : decode cc pc = .ok (.if_icmp .gt o, 3)) (ho : 0 ≤ (pc : Int) + o) (hk : ∀ pc ls st σ, k pc ls st σ = some (rv, rf) → zG p l e R s m args below meth c Q D A pa ws0 σ0 rf pc ls st σ) (h : zstep X C (.if_icmp .gt (pc + o)) ls st σ (pc + 3) k = some (rv, rf)) : zG p l e R s m args below meth c Q D A pa ws0 σ0 rf pc ls st σ := by
  simp only [zstep] at h
  split at h
  · split at h
    · next hc =>
      exact zG_step (hk _ _ _ _ h) (fun ws H locs cells slots mls mst hS hl hs kk => by
        obtain ⟨_, _, rfl, ⟨y, rfl, hy1⟩, _, m2, rfl, ⟨x, rfl, hx1⟩, hs⟩ := hs
        subst hy1; subst hx1
        refine lv_icmp_gt hx hb hd (zt_tgt ho) (fun q => ?_) (fun q => ?_)
        · first | exact kk mls _ hl hs | exact absurd ((zn_lt y x).mpr hc) (by first | exact q | (simp only [Int32.not_lt, Int32.not_le, ne_eq] at q ⊢; exact q))
        · first | exact kk mls _ hl hs | exact absurd ((zn_lt y x).mpr hc) (by first | exact q | (simp only [Int32.not_lt, Int32.not_le, ne_eq] at q ⊢; exact q)))
    · next hc =>
      exact zG_step (hk _ _ _ _ h) (fun ws H locs cells slots mls mst hS hl hs kk => by
        obtain ⟨_, _, rfl, ⟨y, rfl, hy1⟩, _, m2, rfl, ⟨x, rfl, hx1⟩, hs⟩ := hs
        subst hy1; subst hx1
        refine lv_icmp_gt hx hb hd (zt_tgt ho) (fun q => ?_) (fun q => ?_)
        · first | exact kk mls _ hl hs | exact absurd ((zn_lt y x).mp (by first | exact q | (simp only [Int32.not_lt, Int32.not_le, ne_eq] at q ⊢; exact q))) hc
        · first | exact kk mls _ hl hs | exact absurd ((zn_lt y x).mp (by first | exact q | (simp only [Int32.not_lt, Int32.not_le, ne_eq] at q ⊢; exact q))) hc)
  · cases h
theorem zs_if_icmp_le (hx : p.tables.exec = Jvm.exec) (hb : c.code = cc) {o : Int} (hd : decode cc pc = .ok (.if_icmp .le o, 3)) (ho : 0 ≤ (pc : Int) + o) (hk : ∀ pc ls st σ, k pc ls st σ = some (rv, rf) → zG p l e R s m args below meth c Q D A pa ws0 σ0 rf pc ls st σ) (h : zstep X C (.if_icmp .le (pc + o)) ls st σ (pc + 3) k = some (rv, rf)) : zG p l e R s m args below meth c Q D A pa ws0 σ0 rf pc ls st σ := by
  simp only [zstep] at h
  split at h
  · split at h
    · next hc =>
      exact zG_step (hk _ _ _ _ h) (fun ws H locs cells slots mls mst hS hl hs kk => by
        obtain ⟨_, _, rfl, ⟨y, rfl, hy1⟩, _, m2, rfl, ⟨x, rfl, hx1⟩, hs⟩ := hs
        subst hy1; subst hx1
        refine lv_icmp_le hx hb hd (zt_tgt ho) (fun q => ?_) (fun q => ?_)
        · first | exact kk mls _ hl hs | exact absurd ((zn_lt y x).mpr hc) (by first | exact q | (simp only [Int32.not_lt, Int32.not_le, ne_eq] at q ⊢; exact q))
        · first | exact kk mls _ hl hs | exact absurd ((zn_lt y x).mpr hc) (by first | exact q | (simp only [Int32.not_lt, Int32.not_le, ne_eq] at q ⊢; exact q)))
    · next hc =>
      exact zG_step (hk _ _ _ _ h) (fun ws H locs cells slots mls mst hS hl hs kk => by
        obtain ⟨_, _, rfl, ⟨y, rfl, hy1⟩, _, m2, rfl, ⟨x, rfl, hx1⟩, hs⟩ := hs
        subst hy1; subst hx1
        refine lv_icmp_le hx hb hd (zt_tgt ho) (fun q => ?_) (fun q => ?_)
        · first | exact kk mls _ hl hs | exact absurd ((zn_lt y x).mp (by first | exact q | (simp only [Int32.not_lt, Int32.not_le, ne_eq] at q ⊢; exact q))) hc
        · first | exact kk mls _ hl hs | exact absurd ((zn_lt y x).mp (by first | exact q | (simp only [Int32.not_lt, Int32.not_le, ne_eq] at q ⊢; exact q))) hc)
  · cases h
end ZOPS2
