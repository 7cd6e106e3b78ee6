/-! EVERY STEP: a place of a method's code. -/
theorem zfind_mem : ∀ {code : List (Nat × (Instr × Nat))} {pc : Nat} {q : Instr × Nat}, zfind code pc = some q → (pc, q) ∈ code
  | [], pc, q, h => by cases h
  | (p, x) :: l, pc, q, h => by
    simp only [zfind] at h
    split at h
    · next hb =>
      cases h
      rw [Nat.eq_of_beq_eq_true hb]
      exact List.mem_cons_self
    · exact List.mem_cons_of_mem _ (zfind_mem h)
theorem zgood_of {own md : Nat} {b : ByteArray} {e : Nat × (Instr × Nat)} (h : zgood own md b e = true) : ∃ i n, decode b e.1 = .ok (i, n) ∧ znorm own md e.1 i = some e.2.1 ∧ e.2.2 = e.1 + n ∧ (zln i = 0 ∨ zln i = n) := by
  unfold zgood at h
  split at h
  · next i n hd =>
    simp only [Bool.and_eq_true, Bool.or_eq_true, decide_eq_true_eq] at h
    exact ⟨i, n, hd, h.1, Nat.eq_of_beq_eq_true h.2.1, h.2.2.elim (fun q => Or.inl (Nat.eq_of_beq_eq_true q)) (fun q => Or.inr (Nat.eq_of_beq_eq_true q))⟩
  · cases h
theorem zplook_mem : ∀ {l : List (Nat × (Nat × (Instr × Nat)))} {own ix : Nat} {i : Instr}, zplook l own ix = some i → ∃ P, (own, (ix, (i, P))) ∈ l
  | [], own, ix, i, h => by cases h
  | (o, (j, (i', P))) :: l, own, ix, i, h => by
    simp only [zplook] at h
    split at h
    · next hb =>
      cases h
      simp only [Bool.and_eq_true] at hb
      rw [Nat.eq_of_beq_eq_true hb.1, Nat.eq_of_beq_eq_true hb.2]
      exact ⟨P, List.mem_cons_self⟩
    · obtain ⟨P, hP⟩ := zplook_mem h
      exact ⟨P, List.mem_cons_of_mem _ hP⟩
theorem zpool_fact {own ix : Nat} {i : Instr} (h : zplook zpool own ix = some i) : ∃ c, c ∈ lw_tbl ∧ zwant own ix i c = true := by
  obtain ⟨P, hP⟩ := zplook_mem h
  have h1 := List.all_eq_true.mp zpool_ok _ hP
  unfold zpchk at h1
  split at h1
  · next c hc => exact ⟨c, List.mem_of_getElem? hc, h1⟩
  · cases h1
theorem zp_iconst {own ix : Nat} {n : Int} (h : zplook zpool own ix = some (.iconst n)) : (-2147483648 ≤ n ∧ n < 2147483648) ∧ Cond.constant (znm own) ix (Int32.ofInt n) ∈ lw_tbl := by
  obtain ⟨c, hc, hw⟩ := zpool_fact h
  simp only [zwant, Bool.and_eq_true, decide_eq_true_eq] at hw
  obtain ⟨h1, rfl⟩ := hw
  exact ⟨h1, hc⟩
theorem zp_sipush {own ix : Nat} {n : Int} (h : zplook zpool own ix = some (.sipush n)) : (-9223372036854775808 ≤ n ∧ n < 9223372036854775808) ∧ Cond.constantLong (znm own) ix (Int64.ofInt n) ∈ lw_tbl := by
  obtain ⟨c, hc, hw⟩ := zpool_fact h
  simp only [zwant, Bool.and_eq_true, decide_eq_true_eq] at hw
  obtain ⟨h1, rfl⟩ := hw
  exact ⟨h1, hc⟩
theorem zp_getfield {own ix n : Nat} (h : zplook zpool own ix = some (.getfield n)) : zFK n ∧ Cond.fieldLink (znm own) ix (zfT n).1 (zfT n).2.1 (zfT n).2.2.1 ∈ lw_tbl := by
  obtain ⟨c, hc, hw⟩ := zpool_fact h
  simp only [zwant, Bool.and_eq_true, decide_eq_true_eq] at hw
  obtain ⟨⟨⟨⟨h1, h2⟩, h3⟩, h4⟩, h5⟩ := hw
  refine ⟨⟨h1, h2, h4, ?_⟩, h3 ▸ hc⟩
  have hm : n % 4 < 4 := Nat.mod_lt _ (by decide)
  rcases (show n % 4 = 0 ∨ n % 4 = 1 ∨ n % 4 = 2 ∨ n % 4 = 3 by omega) with e | e | e | e
  · rw [e] at h5; exact Or.inl ⟨e, of_decide_eq_true h5⟩
  · rw [e] at h5; exact Or.inr (Or.inl ⟨e, of_decide_eq_true h5⟩)
  · rw [e] at h5; exact Or.inr (Or.inr (Or.inl ⟨e, of_decide_eq_true h5⟩))
  · rw [e] at h5; exact Or.inr (Or.inr (Or.inr ⟨e, of_decide_eq_true h5⟩))
theorem zp_getstatic {own ix j : Nat} (h : zplook zpool own ix = some (.getstatic j)) : (1 ≤ j ∧ j ≤ 3) ∧ (Cond.fieldLink (znm own) ix (zstat j).1 (zstat j).2.1 (zstat j).2.2 ∈ lw_tbl ∨ ∃ host, Cond.fieldLinkNest (znm own) ix (zstat j).1 (zstat j).2.1 (zstat j).2.2 host ∈ lw_tbl) := by
  obtain ⟨c, hc, hw⟩ := zpool_fact h
  simp only [zwant, Bool.and_eq_true, decide_eq_true_eq] at hw
  obtain ⟨h1, h2⟩ := hw
  refine ⟨h1, ?_⟩
  split at h2
  · simp only [decide_eq_true_eq] at h2
    obtain ⟨rfl, rfl, rfl, rfl, rfl⟩ := h2
    exact Or.inl hc
  · simp only [decide_eq_true_eq] at h2
    obtain ⟨rfl, rfl, rfl, rfl, rfl⟩ := h2
    exact Or.inr ⟨_, hc⟩
  · cases h2
theorem zp_new {own ix n : Nat} (h : zplook zpool own ix = some (.new n)) : n / 256 < 11 ∧ n % 256 = znf (n / 256) ∧ Cond.classLink (znm own) ix (znm (n / 256)) ∈ lw_tbl := by
  obtain ⟨c, hc, hw⟩ := zpool_fact h
  simp only [zwant, Bool.and_eq_true, decide_eq_true_eq] at hw
  obtain ⟨⟨h1, h2⟩, rfl⟩ := hw
  exact ⟨h1, h2, hc⟩
theorem zp_multi {own ix a b : Nat} (h : zplook zpool own ix = some (.multianewarray a b)) : Cond.classLink (znm own) ix "[[J" ∈ lw_tbl := by
  obtain ⟨c, hc, hw⟩ := zpool_fact h
  simp only [zwant, decide_eq_true_eq] at hw
  subst hw
  exact hc
theorem zp_invokevirtual {own ix n : Nat} (h : zplook zpool own ix = some (.invokevirtual n)) : ∃ q, zM[n / 1024]? = some q ∧ q.2.2.2.2.2.2.1 = 1 ∧ q.1 = n / 16 % 64 ∧ q.2.2.2.2.2.1 = n % 16 ∧ (Cond.methodLink (znm own) ix q.2.1 ∈ lw_tbl ∨ ∃ host, Cond.methodLinkNest (znm own) ix q.2.1 host ∈ lw_tbl) := by
  obtain ⟨c, hc, hw⟩ := zpool_fact h
  simp only [zwant] at hw
  split at hw
  · next q hq =>
    simp only [Bool.and_eq_true, decide_eq_true_eq] at hw
    obtain ⟨⟨h1, h4, h3⟩, h2⟩ := hw
    refine ⟨q, hq, h1, h4, h3, ?_⟩
    split at h2
    · simp only [decide_eq_true_eq] at h2
      obtain ⟨rfl, rfl, rfl⟩ := h2
      exact Or.inl hc
    · simp only [decide_eq_true_eq] at h2
      obtain ⟨rfl, rfl, rfl⟩ := h2
      exact Or.inr ⟨_, hc⟩
    · cases h2
  · cases hw
theorem zp_invokespecial {own ix n : Nat} (h : zplook zpool own ix = some (.invokespecial n)) : ∃ q, zM[n / 1024]? = some q ∧ q.2.2.2.2.2.2.1 = 2 ∧ q.1 = n / 16 % 64 ∧ q.2.2.2.2.2.1 = n % 16 ∧ (Cond.methodLink (znm own) ix q.2.1 ∈ lw_tbl ∨ ∃ host, Cond.methodLinkNest (znm own) ix q.2.1 host ∈ lw_tbl) := by
  obtain ⟨c, hc, hw⟩ := zpool_fact h
  simp only [zwant] at hw
  split at hw
  · next q hq =>
    simp only [Bool.and_eq_true, decide_eq_true_eq] at hw
    obtain ⟨⟨h1, h4, h3⟩, h2⟩ := hw
    refine ⟨q, hq, h1, h4, h3, ?_⟩
    split at h2
    · simp only [decide_eq_true_eq] at h2
      obtain ⟨rfl, rfl, rfl⟩ := h2
      exact Or.inl hc
    · simp only [decide_eq_true_eq] at h2
      obtain ⟨rfl, rfl, rfl⟩ := h2
      exact Or.inr ⟨_, hc⟩
    · cases h2
  · cases hw
theorem zp_invokestatic {own ix n : Nat} (h : zplook zpool own ix = some (.invokestatic n)) : ∃ q, zM[n / 1024]? = some q ∧ q.2.2.2.2.2.2.1 = 0 ∧ q.2.2.2.2.2.1 = n % 16 ∧ (Cond.methodLink (znm own) ix q.2.1 ∈ lw_tbl ∨ ∃ host, Cond.methodLinkNest (znm own) ix q.2.1 host ∈ lw_tbl) := by
  obtain ⟨c, hc, hw⟩ := zpool_fact h
  simp only [zwant] at hw
  split at hw
  · next q hq =>
    simp only [Bool.and_eq_true, decide_eq_true_eq] at hw
    obtain ⟨⟨h1, h3⟩, h2⟩ := hw
    refine ⟨q, hq, h1, h3, ?_⟩
    split at h2
    · simp only [decide_eq_true_eq] at h2
      obtain ⟨rfl, rfl, rfl⟩ := h2
      exact Or.inl hc
    · simp only [decide_eq_true_eq] at h2
      obtain ⟨rfl, rfl, rfl⟩ := h2
      exact Or.inr ⟨_, hc⟩
    · cases h2
  · cases hw
theorem zp_fadd {own ix : Nat} (h : zplook zpool own ix = some .fadd) : Cond.methodLink (znm own) ix Lib.Math.min.name ∈ lw_tbl := by
  obtain ⟨c, hc, hw⟩ := zpool_fact h
  simp only [zwant, decide_eq_true_eq] at hw
  subst hw
  exact hc
theorem zp_fsub {own ix : Nat} (h : zplook zpool own ix = some .fsub) : Cond.methodLink (znm own) ix Lib.Math.max.name ∈ lw_tbl := by
  obtain ⟨c, hc, hw⟩ := zpool_fact h
  simp only [zwant, decide_eq_true_eq] at hw
  subst hw
  exact hc
theorem zp_swap {own ix : Nat} (h : zplook zpool own ix = some .swap) : Cond.methodLink (znm own) ix arraycopyName ∈ lw_tbl := by
  obtain ⟨c, hc, hw⟩ := zpool_fact h
  simp only [zwant, decide_eq_true_eq] at hw
  subst hw
  exact hc
theorem zp_nop {own ix : Nat} (h : zplook zpool own ix = some .nop) : Cond.methodLink (znm own) ix objectInit ∈ lw_tbl := by
  obtain ⟨c, hc, hw⟩ := zpool_fact h
  simp only [zwant, decide_eq_true_eq] at hw
  subst hw
  exact hc
theorem zp_dadd {own ix : Nat} (h : zplook zpool own ix = some .dadd) : Cond.methodLink (znm own) ix zyLen ∈ lw_tbl := by
  obtain ⟨c, hc, hw⟩ := zpool_fact h
  simp only [zwant, decide_eq_true_eq] at hw
  subst hw
  exact hc
theorem zp_dsub {own ix : Nat} (h : zplook zpool own ix = some .dsub) : Cond.methodLink (znm own) ix zyChr ∈ lw_tbl := by
  obtain ⟨c, hc, hw⟩ := zpool_fact h
  simp only [zwant, decide_eq_true_eq] at hw
  subst hw
  exact hc
theorem zM_get {y : Nat} {q : zMt} (h : zM[y]? = some q) : zMF q := zMF_of (List.all_eq_true.mp zM_ok q (List.mem_of_getElem? h))
theorem zmisc : Cond.static Lib.Math.min.name ∈ lw_tbl ∧ Cond.static Lib.Math.max.name ∈ lw_tbl ∧ Cond.initialized "java/lang/Math" ∈ lw_tbl ∧ Cond.code Lib.Math.min.name Lib.Math.min.code 2 (some .int) ∈ lw_tbl ∧ Cond.code Lib.Math.max.name Lib.Math.max.code 2 (some .int) ∈ lw_tbl ∧ Cond.native arraycopyName ∈ lw_tbl ∧ Cond.static arraycopyName ∈ lw_tbl ∧ Cond.initialized "java/lang/System" ∈ lw_tbl ∧ Cond.instanceMethod objectInit ∈ lw_tbl ∧ Cond.code objectInit ⟨#[0xb1]⟩ 1 none ∈ lw_tbl ∧ Cond.arrayClass .int ∈ lw_tbl ∧ Cond.arrayClass .long ∈ lw_tbl ∧ Cond.arrayClass .byte ∈ lw_tbl := by decide +kernel
/-- the return of a method fits its type -/
def zretok (ret : Option FieldType) (i : Instr) : Bool := match i with
  | .ireturn => decide (ret = some .int)
  | .freturn => decide (ret = some .boolean)
  | .lreturn => decide (ret = some .long)
  | .areturn => (match ret with
    | some (.object _) => true
    | _ => false)
  | .return_ => decide (ret = none)
  | .anewarray c => decide (Cond.arrayOver (.object (znm c)) ∈ lw_tbl)
  | _ => true
theorem zln_eq {i : Instr} {n k : Nat} (h : zln i = 0 ∨ zln i = n) (hk : zln i = k) (h0 : k ≠ 0) : n = k := by omega
section ZSIM
variable {p : Program} {l : Launch} {e : Env} {R : Room} {s : State} {m : MethodId} {args : Array Value} {below : List Frame} {meth : Method} {c : Code} {cc : ByteArray} {Q : State → Prop} {D : va_G} {A : Nat → Prop} {pa : Nat → Nat} {ws0 : va_W} {σ0 rf : zMem}
variable {X : zX} {adV : Nat → Nat} {P : zT} {rv : Option zV}
/-- the ends of a method -/
def zRets (p : Program) (l : Launch) (e : Env) (R : Room) (s : State) (m : MethodId) (args : Array Value) (below : List Frame) (meth : Method) (c : Code) (cc : ByteArray) (Q : State → Prop) (D : va_G) (A : Nat → Prop) (pa : Nat → Nat) (ws0 : va_W) (σ0 rf : zMem) (rv : Option zV) (ret : Option FieldType) : Prop :=
  ∀ (ws : va_W) (tys : List (ClassId × FieldType)) (H : Heap) (locs : List Loc) (mls : Array Slot) (pc : Nat), va_K D zcl tys s → zRel rf ws tys → va_P D zcl ws H → va_D A ws → va_S A s.heap H locs → zext ws0 ws →
    (∀ x : Int32, rv = some (.inl x.toInt) → (ret = some .int ∨ (ret = some .boolean ∧ (x.toInt = 0 ∨ x.toInt = 1))) → decode cc pc = .ok (.ireturn, 1) → W p l e R s m args below meth c H locs (rf.2.2.2.1 - σ0.2.2.2.1) (rf.2.2.2.2 - σ0.2.2.2.2) Q (F0 m pc mls [.int x])) ∧
    (∀ x : Int64, rv = some (.inr (.inl x.toInt)) → ret = some .long → decode cc pc = .ok (.lreturn, 1) → W p l e R s m args below meth c H locs (rf.2.2.2.1 - σ0.2.2.2.1) (rf.2.2.2.2 - σ0.2.2.2.2) Q (F0 m pc mls [.long x])) ∧
    (∀ (z : Nat ⊕ Nat) (w : Value), rv = some (.inr (.inr z)) → zVR pa ws (.inr (.inr z)) w → (∃ n, ret = some (.object n)) → decode cc pc = .ok (.areturn, 1) → W p l e R s m args below meth c H locs (rf.2.2.2.1 - σ0.2.2.2.1) (rf.2.2.2.2 - σ0.2.2.2.2) Q (F0 m pc mls [w])) ∧
    (rv = none → ret = none → decode cc pc = .ok (.return_, 1) → W p l e R s m args below meth c H locs (rf.2.2.2.1 - σ0.2.2.2.1) (rf.2.2.2.2 - σ0.2.2.2.2) Q (F0 m pc mls []))
theorem zpre_of (hx : p.tables.exec = Jvm.exec) (hb : c.code = cc) (henv : zEnv A pa X adV s) : zPre p l e R s m args below meth c cc Q A pa X := by
  obtain ⟨-, -, -, hst, ⟨L, xs, hX0, hL, hXs, hb0, hA0⟩, -⟩ := henv
  intro j H locs cells slots pc mls rest hS hj
  by_cases h0 : j = 0
  · subst h0
    rw [hX0]
    refine ⟨fun i h1 h2 hd kk => ?_, fun hd kk => ?_⟩
    · exact va_sld hx hb hXs hb0 hA0 hS (zn_vpin h1 h2) hd (kk _ rfl)
    · exact va_slen hx hb hXs hb0 hA0 hS hd (kk _ (zn_ofNat hL))
  · obtain ⟨-, hT, hln, hin⟩ := hst j (by omega) (by omega)
    refine ⟨fun i h1 h2 hd kk => ?_, fun hd kk => ?_⟩
    · refine va_ti hx hb hT hS (zn_vpin h1 h2) rfl hd (kk _ ?_)
      rw [zn_ofInt]
      exact hin i.toInt.toNat (by omega)
    · exact va_tlen hx hb hT hS rfl hd (kk _ (zn_ofNat hln))
theorem zsim {own md d nl : Nat} {Ts : List Cond} {ret : Option FieldType} {code : List (Nat × (Instr × Nat))} (hx : p.tables.exec = Jvm.exec) (hb : c.code = cc) (hown : s.vm.findClass (znm own) = some m.cls) (hml : c.maxLocals = nl) (hts : ∀ w ∈ Ts, w.before args s = true) (hBT : ∀ w ∈ zBig, w ∈ Ts) (henv : zEnv A pa X adV s) (hA : ∀ q, s.heap.size ≤ q → A q) (hstr : zStrOK l A pa X adV) (hM : zMet l D A pa X adV P d) (hcode : ∀ e ∈ code, zgood own md cc e = true) (hro : ∀ e ∈ code, zretok ret e.2.1 = true) (hinit : md = 2 → meth.name = "<init>") (hfr : d + 6 ≤ R.frames) (hlo : 40 * (d + 1) + 250 ≤ R.locals) (hrc : rf.2.2.2.1 - σ0.2.2.2.1 ≤ R.cells) (hrs : rf.2.2.2.2 - σ0.2.2.2.2 ≤ R.slots) (hret : zRets p l e R s m args below meth c cc Q D A pa ws0 σ0 rf rv ret) : ∀ (n pc : Nat) (ls : zLoc) (st : List zV) (σ : zMem), ls.length = nl → zrun X (zcal X P d) code n pc ls st σ = some (rv, rf) → zG p l e R s m args below meth c Q D A pa ws0 σ0 rf pc ls st σ := by
  have hpre : zPre p l e R s m args below meth c cc Q A pa X := zpre_of hx hb henv
  have big : ∀ {w : Cond}, w ∈ lw_tbl → goodWord w = true → w.before args s = true := fun h g => hts _ (hBT _ (zBig_in h g))
  obtain ⟨z1, z2, z3, z4, z5, z6, z7, z8, z9, z10, z11, z12, z13⟩ := zmisc
  intro n
  induction n with
  | zero => intro pc ls st σ hl h; cases h
  | succ n ih =>
    intro pc ls st σ hl h
    simp only [zrun] at h
    split at h
    · cases h
    next j nx hf =>
    have hmem := zfind_mem hf
    obtain ⟨i, ln, hd, hno, hnx, hln⟩ := zgood_of (hcode _ hmem)
    have hr := hro _ hmem
    have h : zstep X (zcal X P d) j ls st σ nx (fun pc ls' st σ => if ls'.length = nl then zrun X (zcal X P d) code n pc ls' st σ else none) = some (rv, rf) := zstep_monoL (fun pc ls' st σ r hl' hh => by rw [if_pos (hl'.trans hl)]; exact hh) h
    have hk : ∀ pc ls' st σ, (fun pc ls' st σ => if ls'.length = nl then zrun X (zcal X P d) code n pc ls' st σ else none) pc ls' st σ = some (rv, rf) → zG p l e R s m args below meth c Q D A pa ws0 σ0 rf pc ls' st σ := by
      intro pc ls' st σ hh
      dsimp only at hh
      split at hh
      · next hl' => exact ih pc ls' st σ hl' hh
      · cases hh
    generalize (fun (pc : Nat) (ls' : zLoc) (st : List zV) (σ : zMem) => if ls'.length = nl then zrun X (zcal X P d) code n pc ls' st σ else none) = k at h hk
    dsimp only at hno hnx hd
    have hml' : c.maxLocals = ls.length := hml.trans hl.symm
    cases i with
    | iadd =>
      cases hno
      cases zln_eq (k := 1) hln rfl (Nat.succ_ne_zero _)
      subst hnx
      exact zs_iadd hx hb hd hk h
    | isub =>
      cases hno
      cases zln_eq (k := 1) hln rfl (Nat.succ_ne_zero _)
      subst hnx
      exact zs_isub hx hb hd hk h
    | imul =>
      cases hno
      cases zln_eq (k := 1) hln rfl (Nat.succ_ne_zero _)
      subst hnx
      exact zs_imul hx hb hd hk h
    | idiv =>
      cases hno
      cases zln_eq (k := 1) hln rfl (Nat.succ_ne_zero _)
      subst hnx
      exact zs_idiv hx hb hd hk h
    | irem =>
      cases hno
      cases zln_eq (k := 1) hln rfl (Nat.succ_ne_zero _)
      subst hnx
      exact zs_irem hx hb hd hk h
    | iand =>
      cases hno
      cases zln_eq (k := 1) hln rfl (Nat.succ_ne_zero _)
      subst hnx
      exact zs_iand hx hb hd hk h
    | ior =>
      cases hno
      cases zln_eq (k := 1) hln rfl (Nat.succ_ne_zero _)
      subst hnx
      exact zs_ior hx hb hd hk h
    | ishl =>
      cases hno
      cases zln_eq (k := 1) hln rfl (Nat.succ_ne_zero _)
      subst hnx
      exact zs_ishl hx hb hd hk h
    | ishr =>
      cases hno
      cases zln_eq (k := 1) hln rfl (Nat.succ_ne_zero _)
      subst hnx
      exact zs_ishr hx hb hd hk h
    | iushr =>
      cases hno
      cases zln_eq (k := 1) hln rfl (Nat.succ_ne_zero _)
      subst hnx
      exact zs_iushr hx hb hd hk h
    | i2l =>
      cases hno
      cases zln_eq (k := 1) hln rfl (Nat.succ_ne_zero _)
      subst hnx
      exact zs_i2l hx hb hd hk h
    | l2i =>
      cases hno
      cases zln_eq (k := 1) hln rfl (Nat.succ_ne_zero _)
      subst hnx
      exact zs_l2i hx hb hd hk h
    | i2b =>
      cases hno
      cases zln_eq (k := 1) hln rfl (Nat.succ_ne_zero _)
      subst hnx
      exact zs_i2b hx hb hd hk h
    | i2s =>
      cases hno
      cases zln_eq (k := 1) hln rfl (Nat.succ_ne_zero _)
      subst hnx
      exact zs_i2s hx hb hd hk h
    | ladd =>
      cases hno
      cases zln_eq (k := 1) hln rfl (Nat.succ_ne_zero _)
      subst hnx
      exact zs_ladd hx hb hd hk h
    | lsub =>
      cases hno
      cases zln_eq (k := 1) hln rfl (Nat.succ_ne_zero _)
      subst hnx
      exact zs_lsub hx hb hd hk h
    | lmul =>
      cases hno
      cases zln_eq (k := 1) hln rfl (Nat.succ_ne_zero _)
      subst hnx
      exact zs_lmul hx hb hd hk h
    | lcmp =>
      cases hno
      cases zln_eq (k := 1) hln rfl (Nat.succ_ne_zero _)
      subst hnx
      exact zs_lcmp hx hb hd hk h
    | dup =>
      cases hno
      cases zln_eq (k := 1) hln rfl (Nat.succ_ne_zero _)
      subst hnx
      exact zs_dup hx hb hd hk h
    | dup2 =>
      cases hno
      cases zln_eq (k := 1) hln rfl (Nat.succ_ne_zero _)
      subst hnx
      exact zs_dup2 hx hb hd hk h
    | pop =>
      cases hno
      cases zln_eq (k := 1) hln rfl (Nat.succ_ne_zero _)
      subst hnx
      exact zs_pop hx hb hd hk h
    | laload =>
      cases hno
      cases zln_eq (k := 1) hln rfl (Nat.succ_ne_zero _)
      subst hnx
      exact zs_laload hx hb hd hk h
    | baload =>
      cases hno
      cases zln_eq (k := 1) hln rfl (Nat.succ_ne_zero _)
      subst hnx
      exact zs_baload hx hb hd hk h
    | aaload =>
      cases hno
      cases zln_eq (k := 1) hln rfl (Nat.succ_ne_zero _)
      subst hnx
      exact zs_aaload hx hb hd hk h
    | iastore =>
      cases hno
      cases zln_eq (k := 1) hln rfl (Nat.succ_ne_zero _)
      subst hnx
      exact zs_iastore hx hb hd hk h
    | lastore =>
      cases hno
      cases zln_eq (k := 1) hln rfl (Nat.succ_ne_zero _)
      subst hnx
      exact zs_lastore hx hb hd hk h
    | bastore =>
      cases hno
      cases zln_eq (k := 1) hln rfl (Nat.succ_ne_zero _)
      subst hnx
      exact zs_bastore hx hb hd hk h
    | aastore =>
      cases hno
      cases zln_eq (k := 1) hln rfl (Nat.succ_ne_zero _)
      subst hnx
      exact zs_aastore hx hb hd hk h
    | iaload =>
      cases hno
      cases zln_eq (k := 1) hln rfl (Nat.succ_ne_zero _)
      subst hnx
      exact zs_iaload hx hb hpre hd hk h
    | arraylength =>
      cases hno
      cases zln_eq (k := 1) hln rfl (Nat.succ_ne_zero _)
      subst hnx
      exact zs_arraylength hx hb hpre hd hk h
    | iconst v =>
      simp only [znorm] at hno
      split at hno
      · next hv =>
        cases hno
        cases zln_eq (k := 1) hln rfl (Nat.succ_ne_zero _)
        subst hnx
        exact zs_iconst hx hb hd hv hk h
      · cases hno
    | bipush v =>
      simp only [znorm] at hno
      split at hno
      · next hv =>
        cases hno
        cases zln_eq (k := 2) hln rfl (Nat.succ_ne_zero _)
        subst hnx
        exact zs_bipush hx hb hd hv hk h
      · cases hno
    | sipush v =>
      simp only [znorm] at hno
      split at hno
      · next hv =>
        cases hno
        cases zln_eq (k := 3) hln rfl (Nat.succ_ne_zero _)
        subst hnx
        exact zs_sipush hx hb hd hv hk h
      · cases hno
    | lconst v =>
      cases hno
      cases zln_eq (k := 1) hln rfl (Nat.succ_ne_zero _)
      subst hnx
      exact zs_lconst hx hb hd hk h
    | iload v =>
      cases hno
      cases zln_eq (k := 2) hln rfl (Nat.succ_ne_zero _)
      subst hnx
      exact zs_iload hx hb hd hk h
    | iload_n v =>
      cases hno
      cases zln_eq (k := 1) hln rfl (Nat.succ_ne_zero _)
      subst hnx
      exact zs_iload_n hx hb hd hk h
    | lload v =>
      cases hno
      cases zln_eq (k := 2) hln rfl (Nat.succ_ne_zero _)
      subst hnx
      exact zs_lload hx hb hd hk h
    | lload_n v =>
      cases hno
      cases zln_eq (k := 1) hln rfl (Nat.succ_ne_zero _)
      subst hnx
      exact zs_lload_n hx hb hd hk h
    | aload v =>
      cases hno
      cases zln_eq (k := 2) hln rfl (Nat.succ_ne_zero _)
      subst hnx
      exact zs_aload hx hb hd hk h
    | aload_n v =>
      cases hno
      cases zln_eq (k := 1) hln rfl (Nat.succ_ne_zero _)
      subst hnx
      exact zs_aload_n hx hb hd hk h
    | istore v =>
      cases hno
      cases zln_eq (k := 2) hln rfl (Nat.succ_ne_zero _)
      subst hnx
      exact zs_istore hx hb hd hk h
    | istore_n v =>
      cases hno
      cases zln_eq (k := 1) hln rfl (Nat.succ_ne_zero _)
      subst hnx
      exact zs_istore_n hx hb hd hk h
    | lstore v =>
      cases hno
      cases zln_eq (k := 2) hln rfl (Nat.succ_ne_zero _)
      subst hnx
      exact zs_lstore hx hb hd hk h
    | lstore_n v =>
      cases hno
      cases zln_eq (k := 1) hln rfl (Nat.succ_ne_zero _)
      subst hnx
      exact zs_lstore_n hx hb hd hk h
    | astore v =>
      cases hno
      cases zln_eq (k := 2) hln rfl (Nat.succ_ne_zero _)
      subst hnx
      exact zs_astore hx hb hd hk h
    | astore_n v =>
      cases hno
      cases zln_eq (k := 1) hln rfl (Nat.succ_ne_zero _)
      subst hnx
      exact zs_astore_n hx hb hd hk h
    | iinc v w =>
      cases hno
      cases zln_eq (k := 3) hln rfl (Nat.succ_ne_zero _)
      subst hnx
      exact zs_iinc hx hb hd hk h
    | ldc ix =>
      simp only [znorm] at hno
      cases zln_eq (k := 2) hln rfl (Nat.succ_ne_zero _)
      subst hnx
      split at hno
      · next v hp =>
        cases hno
        obtain ⟨h1, h2⟩ := zp_iconst hp
        exact zs_ldc hx hb hown (big h2 rfl) h1 hd hk h
      · next v hp =>
        cases hno
        exact zs_ldcS hx hb hown (henv.2.2.2.2.2.2.2 own ix v hp) hd hk h
      · cases hno
    | ldc_w ix =>
      simp only [znorm] at hno
      cases zln_eq (k := 3) hln rfl (Nat.succ_ne_zero _)
      subst hnx
      split at hno
      · next v hp =>
        cases hno
        obtain ⟨h1, h2⟩ := zp_iconst hp
        exact zs_ldcw hx hb hown (big h2 rfl) h1 hd hk h
      · cases hno
    | ldc2_w ix =>
      simp only [znorm] at hno
      cases zln_eq (k := 3) hln rfl (Nat.succ_ne_zero _)
      subst hnx
      split at hno
      · next v hp =>
        cases hno
        obtain ⟨h1, h2⟩ := zp_sipush hp
        exact zs_ldc2 hx hb hown (big h2 rfl) h1 hd hk h
      · cases hno
    | ifCond cd o =>
      simp only [znorm] at hno
      split at hno
      · next ho =>
        cases hno
        cases zln_eq (k := 3) hln rfl (Nat.succ_ne_zero _)
        subst hnx
        cases cd
        · exact zs_ifCond_eq hx hb hd ho hk h
        · exact zs_ifCond_ne hx hb hd ho hk h
        · exact zs_ifCond_lt hx hb hd ho hk h
        · exact zs_ifCond_ge hx hb hd ho hk h
        · exact zs_ifCond_gt hx hb hd ho hk h
        · exact zs_ifCond_le hx hb hd ho hk h
      · cases hno
    | if_icmp cd o =>
      simp only [znorm] at hno
      split at hno
      · next ho =>
        cases hno
        cases zln_eq (k := 3) hln rfl (Nat.succ_ne_zero _)
        subst hnx
        cases cd
        · exact zs_if_icmp_eq hx hb hd ho hk h
        · exact zs_if_icmp_ne hx hb hd ho hk h
        · exact zs_if_icmp_lt hx hb hd ho hk h
        · exact zs_if_icmp_ge hx hb hd ho hk h
        · exact zs_if_icmp_gt hx hb hd ho hk h
        · exact zs_if_icmp_le hx hb hd ho hk h
      · cases hno
    | goto o =>
      simp only [znorm] at hno
      split at hno
      · next ho =>
        cases hno
        cases zln_eq (k := 3) hln rfl (Nat.succ_ne_zero _)
        exact zs_goto hx hb hd ho hk h
      · cases hno
    | tableswitch dd lo hi ts =>
      simp only [znorm] at hno
      split at hno
      · next ho =>
        cases hno
        exact zs_tableswitch hx hb hd ho.1 ho.2 hk h
      · cases hno
    | lookupswitch dd ps =>
      simp only [znorm] at hno
      split at hno
      · next ho =>
        cases hno
        exact zs_lookupswitch hx hb hd ho.1 ho.2.1 ho.2.2 hk h
      · cases hno
    | getfield ix =>
      simp only [znorm] at hno
      cases zln_eq (k := 3) hln rfl (Nat.succ_ne_zero _)
      subst hnx
      split at hno
      · next v hp =>
        cases hno
        obtain ⟨h1, h2⟩ := zp_getfield hp
        exact zs_getfield hx hb hown hts (fun w hw => hBT _ (zBig_in ((zclass_ok _ h1.1).2.1 w hw) (zlay_good hw))) h1 (big h2 rfl) hd hk h
      · cases hno
    | putfield ix =>
      simp only [znorm] at hno
      cases zln_eq (k := 3) hln rfl (Nat.succ_ne_zero _)
      subst hnx
      split at hno
      · next v hp =>
        split at hno
        · next hfin =>
          cases hno
          obtain ⟨h1, h2⟩ := zp_getfield hp
          exact zs_putfield hx hb hown hts (fun w hw => hBT _ (zBig_in ((zclass_ok _ h1.1).2.1 w hw) (zlay_good hw))) h1 (hfin.imp (fun q => q) (fun q => ⟨hinit q.1, q.2⟩)) (big h2 rfl) hd hk h
        · cases hno
      · cases hno
    | getstatic ix =>
      simp only [znorm] at hno
      cases zln_eq (k := 3) hln rfl (Nat.succ_ne_zero _)
      subst hnx
      split at hno
      · next v hp =>
        cases hno
        obtain ⟨h1, h2⟩ := zp_getstatic hp
        refine zs_getstatic hx hb hown (henv.2.2.2.1 v h1.1 h1.2).1 ?_ hd hk h
        rcases h2 with h2 | ⟨host, h2⟩
        · exact Or.inl (big h2 rfl)
        · exact Or.inr ⟨host, va_Nw.use rfl (henv.1 _ h2 rfl)⟩
      · cases hno
    | invokevirtual ix =>
      simp only [znorm] at hno
      cases zln_eq (k := 3) hln rfl (Nat.succ_ne_zero _)
      subst hnx
      split at hno
      · next v hp =>
        cases hno
        obtain ⟨q, h1, h2, h3, h4, h5⟩ := zp_invokevirtual hp
        exact zs_invokevirtual hx hb hown hml' hts hBT henv hA hM h1 (zM_get h1) h2 h3 h4 h5 hfr hlo hrc hrs hd hk h
      · next hp =>
        cases hno
        exact zs_dadd hx hb hown hml' hts hBT henv hA hstr (zp_dadd hp) (by omega) (by omega) hrc hrs hd hk h
      · next hp =>
        cases hno
        exact zs_dsub hx hb hown hml' hts hBT henv hA hstr (zp_dsub hp) (by omega) (by omega) hrc hrs hd hk h
      · cases hno
    | invokestatic ix =>
      simp only [znorm] at hno
      cases zln_eq (k := 3) hln rfl (Nat.succ_ne_zero _)
      subst hnx
      split at hno
      · next v hp =>
        cases hno
        obtain ⟨q, h1, h2, h4, h5⟩ := zp_invokestatic hp
        exact zs_invokestatic hx hb hown hml' hts hBT henv hA hM h1 (zM_get h1) h2 h4 h5 hfr hlo hrc hrs hd hk h
      · next hp =>
        cases hno
        exact zs_fadd hx hb hown (big (zp_fadd hp) rfl) (big z1 rfl) (big z3 rfl) (big z4 rfl) hml' (by omega) (by omega) hrc hrs hd hk h
      · next hp =>
        cases hno
        exact zs_fsub hx hb hown (big (zp_fsub hp) rfl) (big z2 rfl) (big z3 rfl) (big z5 rfl) hml' (by omega) (by omega) hrc hrs hd hk h
      · next hp =>
        cases hno
        exact zs_swap hx hb hown (big (zp_swap hp) rfl) (big z6 rfl) (big z7 rfl) (big z8 rfl) hml' (by omega) (by omega) hd hk h
      · cases hno
    | invokespecial ix =>
      simp only [znorm] at hno
      cases zln_eq (k := 3) hln rfl (Nat.succ_ne_zero _)
      subst hnx
      split at hno
      · next v hp =>
        cases hno
        obtain ⟨q, h1, h2, h3, h4, h5⟩ := zp_invokespecial hp
        exact zs_invokespecial hx hb hown hml' hts hBT henv hA hM h1 (zM_get h1) h2 h3 h4 h5 hfr hlo hrc hrs hd hk h
      · next hp =>
        cases hno
        exact zs_nop hx hb hown (big (zp_nop hp) rfl) (big z9 rfl) (big z10 rfl) hml' (by omega) (by omega) hd hk h
      · cases hno
    | new ix =>
      simp only [znorm] at hno
      cases zln_eq (k := 3) hln rfl (Nat.succ_ne_zero _)
      subst hnx
      split at hno
      · next v hp =>
        cases hno
        obtain ⟨h1, h2, h3⟩ := zp_new hp
        obtain ⟨c1, c2, c3, c4, c5, c6⟩ := zclass_ok _ h1
        exact zs_new hx hb hown hts h1 h2 (fun w hw => hBT _ (zBig_in (c2 w hw) (zlay_good hw))) (big h3 rfl) (big c5 rfl) (big c6 rfl) hA hrc hrs hd hk h
      · cases hno
    | anewarray ix =>
      simp only [znorm] at hno
      cases zln_eq (k := 3) hln rfl (Nat.succ_ne_zero _)
      subst hnx
      split at hno
      · next v hp =>
        cases hno
        obtain ⟨h1, h2, h3⟩ := zp_new hp
        have hov : Cond.arrayOver (.object (znm (v / 256))) ∈ lw_tbl := by simpa [zretok] using hr
        exact zs_anewarray hx hb hown (big h3 rfl) (henv.2.1 _ hov) hA hrc hrs hd hk h
      · cases hno
    | newarray t =>
      cases hno
      cases zln_eq (k := 2) hln rfl (Nat.succ_ne_zero _)
      subst hnx
      exact zs_newarray hx hb hA hrc hrs (big z11 rfl) (big z12 rfl) (big z13 rfl) hd hk h
    | multianewarray ix dm =>
      by_cases hdm : dm = 2
      · subst hdm
        simp only [znorm] at hno
        cases zln_eq (k := 4) hln rfl (Nat.succ_ne_zero _)
        subst hnx
        split at hno
        · next v hp =>
          cases hno
          exact zs_multi hx hb hown (big (zp_multi hp) rfl) henv.2.2.1 (big z12 rfl) hA hrc hrs hd hk h
        · cases hno
      · exfalso
        unfold znorm at hno
        split at hno <;> first | (cases hno; done) | (simp_all; done)
    | ireturn =>
      simp only [znorm] at hno
      cases zln_eq (k := 1) hln rfl (Nat.succ_ne_zero _)
      subst hnx
      split at hno
      · cases hno
        have hrt : ret = some .boolean := by simpa [zretok] using hr
        simp only [zstep] at h
        split at h
        · split at h
          · next z hz =>
            cases h
            refine ⟨⟨Nat.le_refl _, Nat.le_refl _⟩, fun ws tys H locs mls mst hn hK hR hP hD hS hxx hl' hst => ?_⟩
            obtain ⟨_, _, rfl, ⟨x, rfl, rfl⟩, rfl⟩ := hst
            exact (hret ws tys H locs mls pc hK hR hP hD hS hxx).1 x rfl (Or.inr ⟨hrt, hz⟩) hd
          · cases h
        · cases h
      · cases hno
        have hrt : ret = some .int := by simpa [zretok] using hr
        simp only [zstep] at h
        split at h
        · next z =>
          cases h
          refine ⟨⟨Nat.le_refl _, Nat.le_refl _⟩, fun ws tys H locs mls mst hn hK hR hP hD hS hxx hl' hst => ?_⟩
          obtain ⟨_, _, rfl, ⟨x, rfl, rfl⟩, rfl⟩ := hst
          exact (hret ws tys H locs mls pc hK hR hP hD hS hxx).1 x rfl (Or.inl hrt) hd
        · cases h
    | lreturn =>
      cases hno
      cases zln_eq (k := 1) hln rfl (Nat.succ_ne_zero _)
      subst hnx
      have hrt : ret = some .long := by simpa [zretok] using hr
      simp only [zstep] at h
      split at h
      · next z =>
        cases h
        refine ⟨⟨Nat.le_refl _, Nat.le_refl _⟩, fun ws tys H locs mls mst hn hK hR hP hD hS hxx hl' hst => ?_⟩
        obtain ⟨_, _, rfl, ⟨x, rfl, rfl⟩, rfl⟩ := hst
        exact (hret ws tys H locs mls pc hK hR hP hD hS hxx).2.1 x rfl hrt hd
      · cases h
    | areturn =>
      cases hno
      cases zln_eq (k := 1) hln rfl (Nat.succ_ne_zero _)
      subst hnx
      have hrt : ∃ n, ret = some (.object n) := by
        simp only [zretok] at hr
        split at hr
        · exact ⟨_, rfl⟩
        · cases hr
      simp only [zstep] at h
      split at h
      · next z =>
        cases h
        refine ⟨⟨Nat.le_refl _, Nat.le_refl _⟩, fun ws tys H locs mls mst hn hK hR hP hD hS hxx hl' hst => ?_⟩
        obtain ⟨w, _, rfl, hw, rfl⟩ := hst
        exact (hret ws tys H locs mls pc hK hR hP hD hS hxx).2.2.1 _ w rfl hw hrt hd
      · cases h
    | return_ =>
      cases hno
      cases zln_eq (k := 1) hln rfl (Nat.succ_ne_zero _)
      subst hnx
      have hrt : ret = none := by simpa [zretok] using hr
      simp only [zstep] at h
      split at h
      · cases h
        refine ⟨⟨Nat.le_refl _, Nat.le_refl _⟩, fun ws tys H locs mls mst hn hK hR hP hD hS hxx hl' hst => ?_⟩
        cases (show mst = [] from hst)
        exact (hret ws tys H locs mls pc hK hR hP hD hS hxx).2.2.2 rfl hrt hd
      · cases h
    | _ => exact absurd hno (by simp [znorm])
end ZSIM
