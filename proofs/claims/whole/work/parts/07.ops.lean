/-! ONE STEP OF THE SMALL MACHINE IS ONE INSTRUCTION OF THE MACHINE: steps that leave the heap. -/
/-- from a place of the small machine the machine comes to its end; rf is the small heap in the end, σ0 the one of the method's entry -/
def zG (p : Program) (l : Launch) (e : Env) (R : Room) (s : State) (m : MethodId) (args : Array Value) (below : List Frame) (meth : Method) (c : Code) (Q : State → Prop) (D : va_G) (A : Nat → Prop) (pa : Nat → Nat) (ws0 : va_W) (σ0 rf : zMem) (pc : Nat) (ls : zLoc) (st : List zV) (σ : zMem) : Prop :=
  (σ.2.2.2.1 ≤ rf.2.2.2.1 ∧ σ.2.2.2.2 ≤ rf.2.2.2.2) ∧ ∀ (ws : va_W) (tys : List (ClassId × FieldType)) (H : Heap) (locs : List Loc) (mls : Array Slot) (mst : List Value), (σ0.2.2.2.1 ≤ σ.2.2.2.1 ∧ σ0.2.2.2.2 ≤ σ.2.2.2.2) → va_K D zcl tys s → zRel σ ws tys → va_P D zcl ws H → va_D A ws → va_S A s.heap H locs → zext ws0 ws → zLR pa ws ls mls → zSR pa ws st mst →
    W p l e R s m args below meth c H locs (σ.2.2.2.1 - σ0.2.2.2.1) (σ.2.2.2.2 - σ0.2.2.2.2) Q (F0 m pc mls mst)
section ZOPS
variable {p : Program} {l : Launch} {e : Env} {R : Room} {s : State} {m : MethodId} {args : Array Value} {below : List Frame} {meth : Method} {c : Code} {cc : ByteArray} {Q : State → Prop} {D : va_G} {A : Nat → Prop} {pa : Nat → Nat} {ws0 : va_W} {σ0 rf : zMem}
theorem zG_step {pc pc' : Nat} {ls ls' : zLoc} {st st' : List zV} {σ : zMem} (h : zG p l e R s m args below meth c Q D A pa ws0 σ0 rf pc' ls' st' σ) (hs : ∀ (ws : va_W) (H : Heap) (locs : List Loc) (cells slots : Nat) (mls : Array Slot) (mst : List Value), va_S A s.heap H locs → zLR pa ws ls mls → zSR pa ws st mst → (∀ (mls' : Array Slot) (mst' : List Value), zLR pa ws ls' mls' → zSR pa ws st' mst' → W p l e R s m args below meth c H locs cells slots Q (F0 m pc' mls' mst')) → W p l e R s m args below meth c H locs cells slots Q (F0 m pc mls mst)) : zG p l e R s m args below meth c Q D A pa ws0 σ0 rf pc ls st σ :=
  ⟨h.1, fun ws tys H locs mls mst hn hK hR hP hD hS hxx hl hst => hs ws H locs _ _ mls mst hS hl hst (fun mls' mst' hl' hs' => h.2 ws tys H locs mls' mst' hn hK hR hP hD hS hxx hl' hs')⟩
theorem zSR_int {ws : va_W} {x : Int32} {z : Int} {st : List zV} {mst : List Value} (hz : x.toInt = z) (h : zSR pa ws st mst) : zSR pa ws (.inl z :: st) (.int x :: mst) := ⟨_, _, rfl, ⟨_, rfl, hz⟩, h⟩
theorem zSR_long {ws : va_W} {x : Int64} {z : Int} {st : List zV} {mst : List Value} (hz : x.toInt = z) (h : zSR pa ws st mst) : zSR pa ws (.inr (.inl z) :: st) (.long x :: mst) := ⟨_, _, rfl, ⟨_, rfl, hz⟩, h⟩
variable {pc nx : Nat} {ls : zLoc} {st : List zV} {σ : zMem} {k : zK} {X : zX} {C : zC} {rv : Option zV}
theorem zs_iconst (hx : p.tables.exec = Jvm.exec) (hb : c.code = cc) {n : Int} (hd : decode cc pc = .ok (.iconst n, 1)) (h1 : -1 ≤ n ∧ n ≤ 5) (hk : ∀ pc ls st σ, k pc ls st σ = some (rv, rf) → zG p l e R s m args below meth c Q D A pa ws0 σ0 rf pc ls st σ) (h : zstep X C (.iconst n) ls st σ (pc + 1) k = some (rv, rf)) : zG p l e R s m args below meth c Q D A pa ws0 σ0 rf pc ls st σ :=
  zG_step (hk _ _ _ _ h) (fun ws H locs cells slots mls mst hS hl hs kk => lv_iconst hx hb hd rfl (kk mls _ hl (zSR_int (zn_ofIntIn (by omega) (by omega)) hs)))
theorem zs_bipush (hx : p.tables.exec = Jvm.exec) (hb : c.code = cc) {n : Int} (hd : decode cc pc = .ok (.bipush n, 2)) (h1 : -128 ≤ n ∧ n < 128) (hk : ∀ pc ls st σ, k pc ls st σ = some (rv, rf) → zG p l e R s m args below meth c Q D A pa ws0 σ0 rf pc ls st σ) (h : zstep X C (.iconst n) ls st σ (pc + 2) k = some (rv, rf)) : zG p l e R s m args below meth c Q D A pa ws0 σ0 rf pc ls st σ :=
  zG_step (hk _ _ _ _ h) (fun ws H locs cells slots mls mst hS hl hs kk => lv_bipush hx hb hd rfl (kk mls _ hl (zSR_int (by rw [Int8.toInt_toInt32, Int8.toInt_ofInt, zn_w8]; unfold w8; omega) hs)))
theorem zs_sipush (hx : p.tables.exec = Jvm.exec) (hb : c.code = cc) {n : Int} (hd : decode cc pc = .ok (.sipush n, 3)) (h1 : -32768 ≤ n ∧ n < 32768) (hk : ∀ pc ls st σ, k pc ls st σ = some (rv, rf) → zG p l e R s m args below meth c Q D A pa ws0 σ0 rf pc ls st σ) (h : zstep X C (.iconst n) ls st σ (pc + 3) k = some (rv, rf)) : zG p l e R s m args below meth c Q D A pa ws0 σ0 rf pc ls st σ :=
  zG_step (hk _ _ _ _ h) (fun ws H locs cells slots mls mst hS hl hs kk => lv_sipush hx hb hd rfl (kk mls _ hl (zSR_int (by rw [Int16.toInt_toInt32, Int16.toInt_ofInt, zn_w16]; unfold w16; omega) hs)))
theorem zn_l01 : ∀ n : Fin 2, (Int64.ofNat (n : Nat)).toInt = ((n : Nat) : Int) := by decide +kernel
theorem zs_lconst (hx : p.tables.exec = Jvm.exec) (hb : c.code = cc) {n : Fin 2} (hd : decode cc pc = .ok (.lconst n, 1)) (hk : ∀ pc ls st σ, k pc ls st σ = some (rv, rf) → zG p l e R s m args below meth c Q D A pa ws0 σ0 rf pc ls st σ) (h : zstep X C (.sipush ((n : Nat) : Int)) ls st σ (pc + 1) k = some (rv, rf)) : zG p l e R s m args below meth c Q D A pa ws0 σ0 rf pc ls st σ :=
  zG_step (hk _ _ _ _ h) (fun ws H locs cells slots mls mst hS hl hs kk => lv_lconst hx hb hd rfl (kk mls _ hl (zSR_long (zn_l01 n) hs)))
theorem zs_ldc (hx : p.tables.exec = Jvm.exec) (hb : c.code = cc) {own i : Nat} {n : Int} (hown : s.vm.findClass (znm own) = some m.cls) (hc : (Cond.constant (znm own) i (Int32.ofInt n)).before args s = true) (h1 : -2147483648 ≤ n ∧ n < 2147483648) (hd : decode cc pc = .ok (.ldc i, 2)) (hk : ∀ pc ls st σ, k pc ls st σ = some (rv, rf) → zG p l e R s m args below meth c Q D A pa ws0 σ0 rf pc ls st σ) (h : zstep X C (.iconst n) ls st σ (pc + 2) k = some (rv, rf)) : zG p l e R s m args below meth c Q D A pa ws0 σ0 rf pc ls st σ :=
  zG_step (hk _ _ _ _ h) (fun ws H locs cells slots mls mst hS hl hs kk => lv_ldc hx hb hown hc hd (kk mls _ hl (zSR_int (zn_ofIntIn h1.1 h1.2) hs)))
theorem zs_ldcw (hx : p.tables.exec = Jvm.exec) (hb : c.code = cc) {own i : Nat} {n : Int} (hown : s.vm.findClass (znm own) = some m.cls) (hc : (Cond.constant (znm own) i (Int32.ofInt n)).before args s = true) (h1 : -2147483648 ≤ n ∧ n < 2147483648) (hd : decode cc pc = .ok (.ldc_w i, 3)) (hk : ∀ pc ls st σ, k pc ls st σ = some (rv, rf) → zG p l e R s m args below meth c Q D A pa ws0 σ0 rf pc ls st σ) (h : zstep X C (.iconst n) ls st σ (pc + 3) k = some (rv, rf)) : zG p l e R s m args below meth c Q D A pa ws0 σ0 rf pc ls st σ :=
  zG_step (hk _ _ _ _ h) (fun ws H locs cells slots mls mst hS hl hs kk => lv_ldcw hx hb hown hc hd (kk mls _ hl (zSR_int (zn_ofIntIn h1.1 h1.2) hs)))
theorem zs_ldc2 (hx : p.tables.exec = Jvm.exec) (hb : c.code = cc) {own i : Nat} {n : Int} (hown : s.vm.findClass (znm own) = some m.cls) (hc : (Cond.constantLong (znm own) i (Int64.ofInt n)).before args s = true) (h1 : -9223372036854775808 ≤ n ∧ n < 9223372036854775808) (hd : decode cc pc = .ok (.ldc2_w i, 3)) (hk : ∀ pc ls st σ, k pc ls st σ = some (rv, rf) → zG p l e R s m args below meth c Q D A pa ws0 σ0 rf pc ls st σ) (h : zstep X C (.sipush n) ls st σ (pc + 3) k = some (rv, rf)) : zG p l e R s m args below meth c Q D A pa ws0 σ0 rf pc ls st σ :=
  zG_step (hk _ _ _ _ h) (fun ws H locs cells slots mls mst hS hl hs kk => lv_ldc2 hx hb hown hc hd (kk mls _ hl (zSR_long (by rw [Int64.toInt_ofInt, zn_w64]; exact zn_w64id h1.1 h1.2) hs)))
theorem zs_iload (hx : p.tables.exec = Jvm.exec) (hb : c.code = cc) {i : Nat} (hd : decode cc pc = .ok (.iload i, 2)) (hk : ∀ pc ls st σ, k pc ls st σ = some (rv, rf) → zG p l e R s m args below meth c Q D A pa ws0 σ0 rf pc ls st σ) (h : zstep X C (.iload i) ls st σ (pc + 2) k = some (rv, rf)) : zG p l e R s m args below meth c Q D A pa ws0 σ0 rf pc ls st σ := by
  simp only [zstep] at h
  split at h
  · next z hz =>
    exact zG_step (hk _ _ _ _ h) (fun ws H locs cells slots mls mst hS hl hs kk => by
      obtain ⟨w, ⟨x, rfl, hx'⟩, hw⟩ := hl.2.2 _ _ hz
      exact lv_iload hx hb hd hw (kk mls _ hl (zSR_int hx' hs)))
  · cases h
theorem zs_iload_n (hx : p.tables.exec = Jvm.exec) (hb : c.code = cc) {i : Fin 4} (hd : decode cc pc = .ok (.iload_n i, 1)) (hk : ∀ pc ls st σ, k pc ls st σ = some (rv, rf) → zG p l e R s m args below meth c Q D A pa ws0 σ0 rf pc ls st σ) (h : zstep X C (.iload i) ls st σ (pc + 1) k = some (rv, rf)) : zG p l e R s m args below meth c Q D A pa ws0 σ0 rf pc ls st σ := by
  simp only [zstep] at h
  split at h
  · next z hz =>
    exact zG_step (hk _ _ _ _ h) (fun ws H locs cells slots mls mst hS hl hs kk => by
      obtain ⟨w, ⟨x, rfl, hx'⟩, hw⟩ := hl.2.2 _ _ hz
      exact lv_iload_n hx hb hd rfl hw (kk mls _ hl (zSR_int hx' hs)))
  · cases h
theorem zs_lload (hx : p.tables.exec = Jvm.exec) (hb : c.code = cc) {i : Nat} (hd : decode cc pc = .ok (.lload i, 2)) (hk : ∀ pc ls st σ, k pc ls st σ = some (rv, rf) → zG p l e R s m args below meth c Q D A pa ws0 σ0 rf pc ls st σ) (h : zstep X C (.lload i) ls st σ (pc + 2) k = some (rv, rf)) : zG p l e R s m args below meth c Q D A pa ws0 σ0 rf pc ls st σ := by
  simp only [zstep] at h
  split at h
  · next z hz =>
    exact zG_step (hk _ _ _ _ h) (fun ws H locs cells slots mls mst hS hl hs kk => by
      obtain ⟨w, ⟨x, rfl, hx'⟩, hw⟩ := hl.2.2 _ _ hz
      exact lv_lload hx hb hd hw (kk mls _ hl (zSR_long hx' hs)))
  · cases h
theorem zs_lload_n (hx : p.tables.exec = Jvm.exec) (hb : c.code = cc) {i : Fin 4} (hd : decode cc pc = .ok (.lload_n i, 1)) (hk : ∀ pc ls st σ, k pc ls st σ = some (rv, rf) → zG p l e R s m args below meth c Q D A pa ws0 σ0 rf pc ls st σ) (h : zstep X C (.lload i) ls st σ (pc + 1) k = some (rv, rf)) : zG p l e R s m args below meth c Q D A pa ws0 σ0 rf pc ls st σ := by
  simp only [zstep] at h
  split at h
  · next z hz =>
    exact zG_step (hk _ _ _ _ h) (fun ws H locs cells slots mls mst hS hl hs kk => by
      obtain ⟨w, ⟨x, rfl, hx'⟩, hw⟩ := hl.2.2 _ _ hz
      exact lv_lload_n hx hb hd rfl hw (kk mls _ hl (zSR_long hx' hs)))
  · cases h
theorem zVR.ref {ws : va_W} {w : Value} : ∀ {z : Nat ⊕ Nat}, zVR pa ws (.inr (.inr z)) w → w = .null ∨ ∃ a, w = .ref a
  | .inl 0, h => Or.inl h
  | .inl (b + 1), ⟨q, _, h⟩ => Or.inr ⟨_, h⟩
  | .inr j, h => Or.inr ⟨_, h⟩
theorem zs_aload (hx : p.tables.exec = Jvm.exec) (hb : c.code = cc) {i : Nat} (hd : decode cc pc = .ok (.aload i, 2)) (hk : ∀ pc ls st σ, k pc ls st σ = some (rv, rf) → zG p l e R s m args below meth c Q D A pa ws0 σ0 rf pc ls st σ) (h : zstep X C (.aload i) ls st σ (pc + 2) k = some (rv, rf)) : zG p l e R s m args below meth c Q D A pa ws0 σ0 rf pc ls st σ := by
  simp only [zstep] at h
  split at h
  · next z hz =>
    exact zG_step (hk _ _ _ _ h) (fun ws H locs cells slots mls mst hS hl hs kk => by
      obtain ⟨w, hv, hw⟩ := hl.2.2 _ _ hz
      rcases hv.ref with rfl | ⟨a, rfl⟩
      · exact lv_aloadN hx hb hd hw (kk mls _ hl ⟨_, _, rfl, hv, hs⟩)
      · exact lv_aload hx hb hd hw (kk mls _ hl ⟨_, _, rfl, hv, hs⟩))
  · cases h
theorem zs_aload_n (hx : p.tables.exec = Jvm.exec) (hb : c.code = cc) {i : Fin 4} (hd : decode cc pc = .ok (.aload_n i, 1)) (hk : ∀ pc ls st σ, k pc ls st σ = some (rv, rf) → zG p l e R s m args below meth c Q D A pa ws0 σ0 rf pc ls st σ) (h : zstep X C (.aload i) ls st σ (pc + 1) k = some (rv, rf)) : zG p l e R s m args below meth c Q D A pa ws0 σ0 rf pc ls st σ := by
  simp only [zstep] at h
  split at h
  · next z hz =>
    exact zG_step (hk _ _ _ _ h) (fun ws H locs cells slots mls mst hS hl hs kk => by
      obtain ⟨w, hv, hw⟩ := hl.2.2 _ _ hz
      rcases hv.ref with rfl | ⟨a, rfl⟩
      · exact lv_aload_nN hx hb hd rfl hw (kk mls _ hl ⟨_, _, rfl, hv, hs⟩)
      · exact lv_aload_n hx hb hd rfl hw (kk mls _ hl ⟨_, _, rfl, hv, hs⟩))
  · cases h
theorem zs_istore (hx : p.tables.exec = Jvm.exec) (hb : c.code = cc) {i : Nat} (hd : decode cc pc = .ok (.istore i, 2)) (hk : ∀ pc ls st σ, k pc ls st σ = some (rv, rf) → zG p l e R s m args below meth c Q D A pa ws0 σ0 rf pc ls st σ) (h : zstep X C (.istore i) ls st σ (pc + 2) k = some (rv, rf)) : zG p l e R s m args below meth c Q D A pa ws0 σ0 rf pc ls st σ := by
  simp only [zstep] at h
  split at h
  · split at h
    · next z r hlt =>
      have hi : i < ls.length := Nat.blt_eq.mp hlt
      exact zG_step (hk _ _ _ _ h) (fun ws H locs cells slots mls mst hS hl hs kk => by
        obtain ⟨w, m', rfl, ⟨x, rfl, hx'⟩, hs'⟩ := hs
        exact lv_istore hx hb hd hl.has hi rfl (fun ls' h' => kk ls' _ (hl.put1 hi ⟨x, rfl, hx'⟩ h') hs'))
    · cases h
  · cases h
theorem zs_istore_n (hx : p.tables.exec = Jvm.exec) (hb : c.code = cc) {i : Fin 4} (hd : decode cc pc = .ok (.istore_n i, 1)) (hk : ∀ pc ls st σ, k pc ls st σ = some (rv, rf) → zG p l e R s m args below meth c Q D A pa ws0 σ0 rf pc ls st σ) (h : zstep X C (.istore i) ls st σ (pc + 1) k = some (rv, rf)) : zG p l e R s m args below meth c Q D A pa ws0 σ0 rf pc ls st σ := by
  simp only [zstep] at h
  split at h
  · split at h
    · next z r hlt =>
      have hi : (i : Nat) < ls.length := Nat.blt_eq.mp hlt
      exact zG_step (hk _ _ _ _ h) (fun ws H locs cells slots mls mst hS hl hs kk => by
        obtain ⟨w, m', rfl, ⟨x, rfl, hx'⟩, hs'⟩ := hs
        exact lv_istore_n hx hb hd rfl hl.has hi rfl (fun ls' h' => kk ls' _ (hl.put1 hi ⟨x, rfl, hx'⟩ h') hs'))
    · cases h
  · cases h
theorem zs_lstore (hx : p.tables.exec = Jvm.exec) (hb : c.code = cc) {i : Nat} (hd : decode cc pc = .ok (.lstore i, 2)) (hk : ∀ pc ls st σ, k pc ls st σ = some (rv, rf) → zG p l e R s m args below meth c Q D A pa ws0 σ0 rf pc ls st σ) (h : zstep X C (.lstore i) ls st σ (pc + 2) k = some (rv, rf)) : zG p l e R s m args below meth c Q D A pa ws0 σ0 rf pc ls st σ := by
  simp only [zstep] at h
  split at h
  · split at h
    · next z r hlt =>
      have hi : i + 1 < ls.length := Nat.blt_eq.mp hlt
      exact zG_step (hk _ _ _ _ h) (fun ws H locs cells slots mls mst hS hl hs kk => by
        obtain ⟨w, m', rfl, ⟨x, rfl, hx'⟩, hs'⟩ := hs
        exact lv_lstore hx hb hd hl.has hi rfl (fun ls' h' => kk ls' _ (hl.put2 hi ⟨x, rfl, hx'⟩ h') hs'))
    · cases h
  · cases h
theorem zs_lstore_n (hx : p.tables.exec = Jvm.exec) (hb : c.code = cc) {i : Fin 4} (hd : decode cc pc = .ok (.lstore_n i, 1)) (hk : ∀ pc ls st σ, k pc ls st σ = some (rv, rf) → zG p l e R s m args below meth c Q D A pa ws0 σ0 rf pc ls st σ) (h : zstep X C (.lstore i) ls st σ (pc + 1) k = some (rv, rf)) : zG p l e R s m args below meth c Q D A pa ws0 σ0 rf pc ls st σ := by
  simp only [zstep] at h
  split at h
  · split at h
    · next z r hlt =>
      have hi : (i : Nat) + 1 < ls.length := Nat.blt_eq.mp hlt
      exact zG_step (hk _ _ _ _ h) (fun ws H locs cells slots mls mst hS hl hs kk => by
        obtain ⟨w, m', rfl, ⟨x, rfl, hx'⟩, hs'⟩ := hs
        exact lv_lstore_n hx hb hd rfl hl.has hi rfl (fun ls' h' => kk ls' _ (hl.put2 hi ⟨x, rfl, hx'⟩ h') hs'))
    · cases h
  · cases h
theorem zs_astore (hx : p.tables.exec = Jvm.exec) (hb : c.code = cc) {i : Nat} (hd : decode cc pc = .ok (.astore i, 2)) (hk : ∀ pc ls st σ, k pc ls st σ = some (rv, rf) → zG p l e R s m args below meth c Q D A pa ws0 σ0 rf pc ls st σ) (h : zstep X C (.astore i) ls st σ (pc + 2) k = some (rv, rf)) : zG p l e R s m args below meth c Q D A pa ws0 σ0 rf pc ls st σ := by
  simp only [zstep] at h
  split at h
  · split at h
    · next z r hlt =>
      have hi : i < ls.length := Nat.blt_eq.mp hlt
      exact zG_step (hk _ _ _ _ h) (fun ws H locs cells slots mls mst hS hl hs kk => by
        obtain ⟨w, m', rfl, hv, hs'⟩ := hs
        rcases hv.ref with rfl | ⟨a, rfl⟩
        · exact lv_astoreN hx hb hd hl.has hi rfl (fun ls' h' => kk ls' _ (hl.put1 hi hv h') hs')
        · exact lv_astore hx hb hd hl.has hi rfl (fun ls' h' => kk ls' _ (hl.put1 hi hv h') hs'))
    · cases h
  · cases h
theorem zs_astore_n (hx : p.tables.exec = Jvm.exec) (hb : c.code = cc) {i : Fin 4} (hd : decode cc pc = .ok (.astore_n i, 1)) (hk : ∀ pc ls st σ, k pc ls st σ = some (rv, rf) → zG p l e R s m args below meth c Q D A pa ws0 σ0 rf pc ls st σ) (h : zstep X C (.astore i) ls st σ (pc + 1) k = some (rv, rf)) : zG p l e R s m args below meth c Q D A pa ws0 σ0 rf pc ls st σ := by
  simp only [zstep] at h
  split at h
  · split at h
    · next z r hlt =>
      have hi : (i : Nat) < ls.length := Nat.blt_eq.mp hlt
      exact zG_step (hk _ _ _ _ h) (fun ws H locs cells slots mls mst hS hl hs kk => by
        obtain ⟨w, m', rfl, hv, hs'⟩ := hs
        rcases hv.ref with rfl | ⟨a, rfl⟩
        · exact lv_astore_nN hx hb hd rfl hl.has hi rfl (fun ls' h' => kk ls' _ (hl.put1 hi hv h') hs')
        · exact lv_astore_n hx hb hd rfl hl.has hi rfl (fun ls' h' => kk ls' _ (hl.put1 hi hv h') hs'))
    · cases h
  · cases h
theorem zs_iinc (hx : p.tables.exec = Jvm.exec) (hb : c.code = cc) {i : Nat} {n : Int} (hd : decode cc pc = .ok (.iinc i n, 3)) (hk : ∀ pc ls st σ, k pc ls st σ = some (rv, rf) → zG p l e R s m args below meth c Q D A pa ws0 σ0 rf pc ls st σ) (h : zstep X C (.iinc i n) ls st σ (pc + 3) k = some (rv, rf)) : zG p l e R s m args below meth c Q D A pa ws0 σ0 rf pc ls st σ := by
  simp only [zstep] at h
  split at h
  · next z hz =>
    have hi : i < ls.length := (List.getElem?_eq_some_iff.mp hz).1
    exact zG_step (hk _ _ _ _ h) (fun ws H locs cells slots mls mst hS hl hs kk => by
      obtain ⟨w, ⟨x, rfl, hx'⟩, hw⟩ := hl.2.2 _ _ hz
      obtain ⟨j, hj⟩ := List.getElem?_of_mem (zfull_mem.mpr (show mls[(i, Value.int x).1]? = some (.val (i, Value.int x).2) from hw))
      refine lv_iinc hx hb hd hl.has hj rfl hi rfl (fun ls' h' => kk ls' _ (hl.put1 hi ⟨_, rfl, ?_⟩ h') hs)
      rw [zn_add, zn_ofInt, hx']
      unfold w32
      omega)
  · cases h
end ZOPS
