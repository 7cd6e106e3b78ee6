/-! CALLS: what a method of the small machine needs of the machine's start, what it leaves behind. -/
theorem zstep_le {X : zX} {C : zC} {i : Instr} {ls : zLoc} {st : List zV} {σ : zMem} {nx : Nat} {k : zK} {r : Option zV × zMem} (hC : ∀ y as σ r, C y as σ = some r → σ.2.2.2.1 ≤ r.2.2.2.2.1 ∧ σ.2.2.2.2 ≤ r.2.2.2.2.2) (hk : ∀ pc ls st σ r, k pc ls st σ = some r → σ.2.2.2.1 ≤ r.2.2.2.2.1 ∧ σ.2.2.2.2 ≤ r.2.2.2.2.2) (h : zstep X C i ls st σ nx k = some r) : σ.2.2.2.1 ≤ r.2.2.2.2.1 ∧ σ.2.2.2.2 ≤ r.2.2.2.2.2 := by
  have hmk : ∀ {kd n}, ((zmake σ kd n).2.2.2.1 ≤ r.2.2.2.2.1 ∧ (zmake σ kd n).2.2.2.2 ≤ r.2.2.2.2.2) → σ.2.2.2.1 ≤ r.2.2.2.2.1 ∧ σ.2.2.2.2 ≤ r.2.2.2.2.2 := fun {kd n} q => ⟨Nat.le_trans (Nat.le_succ _) q.1, Nat.le_trans (Nat.le_add_right _ _) q.2⟩
  have hmm : ∀ {n m}, ((zmulti σ n m).2.2.2.1 ≤ r.2.2.2.2.1 ∧ (zmulti σ n m).2.2.2.2 ≤ r.2.2.2.2.2) → σ.2.2.2.1 ≤ r.2.2.2.2.1 ∧ σ.2.2.2.2 ≤ r.2.2.2.2.2 := fun {n m} q => ⟨Nat.le_trans (Nat.le_trans (Nat.le_succ _) (Nat.le_add_right _ _)) q.1, Nat.le_trans (Nat.le_trans (Nat.le_add_right _ _) (Nat.le_add_right _ _)) q.2⟩
  cases i
  all_goals simp only [zstep] at h
  all_goals (repeat' split at h)
  all_goals first
    | (cases h; done)
    | exact hk _ _ _ _ _ h
    | (have q := hk _ _ _ _ _ h; exact q)
    | exact hmk (hk _ _ _ _ _ h)
    | exact hmm (hk _ _ _ _ _ h)
    | (cases h; exact ⟨Nat.le_refl _, Nat.le_refl _⟩)
    | (obtain ⟨q, h1, h2⟩ := Option.bind_eq_some_iff.mp h
       exact ⟨Nat.le_trans (hC _ _ _ _ h1).1 (hk _ _ _ _ _ h2).1, Nat.le_trans (hC _ _ _ _ h1).2 (hk _ _ _ _ _ h2).2⟩)
theorem zrun_le {X : zX} {C : zC} {code : List (Nat × (Instr × Nat))} (hC : ∀ y as σ r, C y as σ = some r → σ.2.2.2.1 ≤ r.2.2.2.2.1 ∧ σ.2.2.2.2 ≤ r.2.2.2.2.2) : ∀ (n pc : Nat) (ls : zLoc) (st : List zV) (σ : zMem) (r : Option zV × zMem), zrun X C code n pc ls st σ = some r → σ.2.2.2.1 ≤ r.2.2.2.2.1 ∧ σ.2.2.2.2 ≤ r.2.2.2.2.2 := by
  intro n
  induction n with
  | zero => intro pc ls st σ r h; cases h
  | succ n ih =>
    intro pc ls st σ r h
    simp only [zrun] at h
    split at h
    · cases h
    · exact zstep_le hC ih h
theorem zcal_le {X : zX} {P : zT} : ∀ (d y : Nat) (as : List zV) (σ : zMem) (r : Option zV × zMem), zcal X P d y as σ = some r → σ.2.2.2.1 ≤ r.2.2.2.2.1 ∧ σ.2.2.2.2 ≤ r.2.2.2.2.2 := by
  intro d
  induction d with
  | zero => intro y as σ r h; cases h
  | succ d ih =>
    intro y as σ r h
    obtain ⟨nl, code, n, -, -, hn⟩ := zcal_get h
    exact zrun_le ih n _ _ _ _ _ hn
theorem zpop_spec : ∀ (n : Nat) (st acc as r : List zV), zpop n st acc = some (as, r) → ∃ xs, st = xs ++ r ∧ xs.length = n ∧ as = xs.reverse ++ acc
  | 0, st, acc, as, r, h => by cases h; exact ⟨[], rfl, rfl, rfl⟩
  | n + 1, [], acc, as, r, h => by cases h
  | n + 1, v :: st, acc, as, r, h => by
    obtain ⟨xs, h1, h2, h3⟩ := zpop_spec n st (v :: acc) as r h
    exact ⟨v :: xs, by rw [h1]; rfl, by rw [List.length_cons, h2], by rw [h3, List.reverse_cons, List.append_assoc]; rfl⟩
def zBig : List Cond := lw_tbl.filter goodWord
def zws (q : zMt) : List Cond := Cond.code q.2.1 q.2.2.1 q.2.2.2.1 q.2.2.2.2.1 :: zBig
def zrm (d mc ms : Nat) : Room := { frames := d + 5, cells := mc, slots := ms, locals := 40 * d + 250 }
theorem zBig_in {w : Cond} (h : w ∈ lw_tbl) (hg : goodWord w = true) : w ∈ zBig := List.mem_filter.mpr ⟨h, hg⟩
theorem zlay_good {C : String} {T : u_T} {N : Nat} {w : Cond} (h : w ∈ u_ws C T N) : goodWord w = true := by
  obtain ⟨k, -, rfl⟩ := List.mem_map.mp h
  unfold u_lay
  split <;> rfl
def znest (w : Cond) : Bool := match w with
  | .fieldLinkNest .. => true
  | .methodLinkNest .. => true
  | _ => false
/-- the texts -/
def zchars (j : Nat) : List Int32 := (ztext j).toList.map (fun ch => Int32.ofNat ch.toNat)
/-- what stood there before the law began: the links between nest mates, the classes of rows, static rows, the script, the texts -/
def zEnv (A : Nat → Prop) (pa : Nat → Nat) (X : zX) (adV : Nat → Nat) (U : State) : Prop :=
  (∀ w ∈ lw_tbl, znest w = true → va_Nw w U) ∧ (∀ C, Cond.arrayOver (.object C) ∈ lw_tbl → va_AO C U) ∧ va_AOA .long U ∧
  (∀ j, 1 ≤ j → j ≤ 3 → va_Z (zstat j).1 (zstat j).2.1 (zstat j).2.2 (.ref (pa j)) A U U.heap ∧ va_T .int (pa j) (X j).1 (fun i => .int (Int32.ofInt ((X j).2 i))) A U U.heap ∧ (X j).1 < 2147483648 ∧ ∀ i, i < (X j).1 → w32 ((X j).2 i) = (X j).2 i) ∧
  (∃ (L : Nat) (xs : Nat → Int32), X 0 = (L, fun i => (xs i).toInt) ∧ L < 2147483648 ∧ va_X (pa 0) L xs U U.heap ∧ pa 0 < U.heap.size ∧ ¬ A (pa 0)) ∧
  (va_Z "java/lang/String" "COMPACT_STRINGS" "Z" (.int 1) A U U.heap ∧ va_Zq "jdk/internal/util/Preconditions" "SIOOBE_FORMATTER" "Ljava/util/function/BiFunction;" A U U.heap) ∧
  (vk_S 15 ((List.range 15).map (fun i => (zchars (i + 4)).length)) ((List.range 15).map (fun i => zchars (i + 4))) (fun i => pa (4 + i)) adV A U U.heap ∧ ∀ own i j, zplook zpool own i = some (.ldc j) → vk_R (znm own) i (ztext j) (pa j) U)
def zArg (pa : Nat → Nat) (ws : va_W) (as : List zV) (v : Array Value) : Prop := ∃ avs : List Value, v = avs.toArray ∧ zSR pa ws as avs
def zPc (D : va_G) (A : Nat → Prop) (pa : Nat → Nat) (X : zX) (adV : Nat → Nat) (ws : va_W) (σ : zMem) (as : List zV) : Array Value → State → Prop := fun v U =>
  zArg pa ws as v ∧ (∃ tys, va_K D zcl tys U ∧ zRel σ ws tys) ∧ va_P D zcl ws U.heap ∧ va_D A ws ∧ (∀ q, U.heap.size ≤ q → A q) ∧ zEnv A pa X adV U
def zVO (pa : Nat → Nat) (ws : va_W) : Option zV → Option Value → Prop
  | none, none => True
  | some v, some w => zVR pa ws v w
  | _, _ => False
def zQc (D : va_G) (A : Nat → Prop) (pa : Nat → Nat) (ws : va_W) (r : Option zV × zMem) : Array Value → State → Outcome → State → Prop := fun _ st o t =>
  ∃ (v : Option Value) (ws' : va_W) (tys' : List (ClassId × FieldType)), o = .returned v ∧ zVO pa ws' r.1 v ∧ va_K D zcl tys' t ∧ zRel r.2 ws' tys' ∧ va_P D zcl ws' t.heap ∧ va_D A ws' ∧ zext ws ws' ∧ va_F A st t
theorem zAOA.moved {u U : State} (hvm : u.vm.Alike U.vm) (h : va_AOA .long u) : va_AOA .long U := by
  have h0 : (Cond.arrayOver (.array .long)).holds #[] u none u [] = true := h
  obtain ⟨comp, c, k, h1, h2, h3, h4, h5⟩ : ∃ comp c k, u.vm.findClass (FieldType.array .long).toString = some comp ∧ (u.vm.classes.findIdx? fun x => match x.kind with | .array component _ => component == comp | _ => false) = some c ∧ u.vm.classes[c]? = some k ∧ k.kind = .array comp (.array .long) ∧ u.vm.findClass ("[" ++ (FieldType.array .long).toString) = some c := by
    simp only [Cond.holds, Cond.value, beq_iff_eq] at h0
    cases hc : u.vm.findClass (FieldType.array .long).toString with
    | none => simp [hc] at h0
    | some comp =>
      simp only [hc, Option.bind_some, Option.bind_eq_some_iff, Option.map_eq_some_iff] at h0
      obtain ⟨c, hi, k, hk, hb⟩ := h0
      obtain ⟨hlt, hp, -⟩ := Array.findIdx?_eq_some_iff_getElem.mp hi
      have hkk : u.vm.classes[c] = k := (Array.getElem?_eq_some_iff.mp hk).2
      rw [hkk] at hp
      cases hkind : k.kind with
      | array component ty =>
        rw [hkind] at hb hp
        simp at hb hp
        exact ⟨comp, c, k, rfl, hi, hk, by rw [hkind, hp, hb.1], hb.2⟩
      | _ => rw [hkind] at hb; simp at hb
  obtain ⟨k', hk', he⟩ := hvm.2.2 _ _ h3
  have hi : (U.vm.classes.findIdx? fun (x : Class) => match x.kind with | .array component _ => component == comp | _ => false) = some c := by
    have hb1 := va_idx_bare U.vm comp
    have hb2 := va_idx_bare u.vm comp
    have hbe : U.vm.bare = u.vm.bare := by first | exact hvm.bare_eq | exact hvm.bare_eq.symm
    rw [hbe] at hb1
    exact (hb1.symm.trans hb2).trans h2
  have hkind : k'.kind = .array comp (.array .long) := by rw [he]; exact h4
  have f1 : U.vm.findClass (FieldType.array .long).toString = some comp := by rw [hvm.findClass]; exact h1
  have f2 : U.vm.findClass ("[" ++ (FieldType.array .long).toString) = some c := by rw [hvm.findClass]; exact h5
  unfold va_AOA Cond.before Cond.holds
  simp only [Cond.value]
  rw [f1, Option.bind_some]
  refine (congrArg (fun o : Option Nat => (o.bind (fun c => (U.vm.classes[c]?).map fun (k : Class) => match k.kind with | .array _ ty => decide (ty = FieldType.array .long) && decide (U.vm.findClass ("[" ++ (FieldType.array .long).toString) = some c) | _ => false) == some true)) hi).trans ?_
  simp [hk', hkind, f2]
theorem zEnv.next {A : Nat → Prop} {pa : Nat → Nat} {X : zX} {adV : Nat → Nat} {s U : State} {H : Heap} {locs : List Loc} (h : zEnv A pa X adV s) (hS : va_S A s.heap H locs) (hU : U.heap = H) (hW : s.WarmedH U.vm) : zEnv A pa X adV U := by
  obtain ⟨h1, h2, h3, h4, ⟨L, xs, h5, h6, h7, h8, h9⟩, ⟨hc1, hc2⟩, h10, h11⟩ := h
  have hq : ∀ a : Nat, a < s.heap.size → ¬ A a → H[a]? = s.heap[a]? := hS.2.1
  subst hU
  refine ⟨fun w hw hn => ?_, fun C hC => (h2 C hC).moved hW.alike, zAOA.moved hW.alike h3, fun j j1 j2 => ⟨((h4 j j1 j2).1.kept hq).moved hW.alike, ((h4 j j1 j2).2.1.kept hq).moved hW.alike, (h4 j j1 j2).2.2⟩, ⟨L, xs, h5, h6, (h7.kept (hq _ h8 h9)).moved hW.alike, Nat.lt_of_lt_of_le h8 hS.1, h9⟩, ⟨(hc1.kept hq).moved hW.alike, (hc2.kept hq).moved hW.alike⟩, (h10.kept hq).moved hW.alike, fun own i j hj => (h11 own i j hj).warm hW⟩
  have h := h1 w hw hn
  cases w <;> first | (cases hn; done) | exact va_Nw.warmF hW h | exact va_Nw.warmM hW h
theorem zEnv.same {A : Nat → Prop} {pa : Nat → Nat} {X : zX} {adV : Nat → Nat} {s U : State} (h : zEnv A pa X adV s) (hH : U.heap = s.heap) (hV : U.vm = s.vm) : zEnv A pa X adV U := by
  obtain ⟨h1, h2, h3, h4, ⟨L, xs, h5, h6, h7, h8, h9⟩, ⟨hc1, hc2⟩, h10, h11⟩ := h
  have ha : s.vm.Alike U.vm := by rw [hV]; exact Vm.Alike.refl _
  rw [← hH] at h7 h8 h10
  refine ⟨fun w hw hn => ?_, fun C hC => (h2 C hC).moved ha, zAOA.moved ha h3, fun j j1 j2 => ⟨by have := (h4 j j1 j2).1.moved ha; rw [hH]; exact this, by have := (h4 j j1 j2).2.1.moved ha; rw [hH]; exact this, (h4 j j1 j2).2.2⟩, ⟨L, xs, h5, h6, h7.moved ha, h8, h9⟩, ⟨by have := hc1.moved ha; rw [hH]; exact this, by have := hc2.moved ha; rw [hH]; exact this⟩, h10.moved ha, fun own i j hj => (h11 own i j hj).same hV⟩
  have h := h1 w hw hn
  exact va_Nw.same (by cases w <;> first | (cases hn; done) | rfl) hV.symm h
theorem zPc_blind {D : va_G} {A : Nat → Prop} {pa : Nat → Nat} {X : zX} {adV : Nat → Nat} {ws : va_W} {σ : zMem} {as : List zV} : FrameBlind (zPc D A pa X adV ws σ as) := by
  intro a U g mk ⟨h1, ⟨tys, h2, h3⟩, h4, h5, h6, h7⟩
  exact ⟨h1, ⟨tys, va_K.moved (u := U) (U := U.calling g mk a) (Vm.Alike.refl U.vm) h2, h3⟩, h4, h5, h6, h7.same rfl rfl⟩
/-- the contract of a method, d calls deep at most -/
def zMet (l : Launch) (D : va_G) (A : Nat → Prop) (pa : Nat → Nat) (X : zX) (adV : Nat → Nat) (P : zT) (d : Nat) : Prop := ∀ (y : Nat) (q : zMt) (as : List zV) (σ : zMem) (r : Option zV × zMem) (ws : va_W), zM[y]? = some q → zcal X P d y as σ = some r →
  Met l q.2.1 (zws q) (zrm d (r.2.2.2.2.1 - σ.2.2.2.1) (r.2.2.2.2.2 - σ.2.2.2.2)) (zPc D A pa X adV ws σ as) (zQc D A pa ws r) (r.2.2.2.2.1 - σ.2.2.2.1) (r.2.2.2.2.2 - σ.2.2.2.2) A
section ZOPS6
variable {p : Program} {l : Launch} {e : Env} {R : Room} {s : State} {m : MethodId} {args : Array Value} {below : List Frame} {meth : Method} {c : Code} {cc : ByteArray} {Q : State → Prop} {D : va_G} {A : Nat → Prop} {pa : Nat → Nat} {ws0 : va_W} {σ0 rf : zMem}
variable {pc nx : Nat} {ls : zLoc} {st : List zV} {σ : zMem} {k : zK} {X : zX} {adV : Nat → Nat} {P : zT} {rv : Option zV}
theorem zcall_go {H : Heap} {locs : List Loc} {cells slots mc ms : Nat} {mls : Array Slot} {st0 rest : List Value} {Qa : State → Outcome → State → Prop} {free : Addr → Prop} (hr : va_Run p l e R s m args below meth c H locs cells slots mc ms (F0 m pc mls st0) rest Qa free)
    (kk : ∀ (v : Option Value) (st₀ t : State) (H1 : Heap) (L : List Loc), st₀.heap = H → t.heap = H1 → s.vm.Alike t.vm → Qa st₀ (.returned v) t → (∀ q ∈ L, free q.base) → W p l e R s m args below meth c H1 (locs ++ L) (cells + mc) (slots + ms) Q (F0 m (pc + 3) mls (v.toList ++ rest))) : W p l e R s m args below meth c H locs cells slots Q (F0 m pc mls st0) := by
  intro T hT X
  obtain ⟨v, st₀, t, T', L, h0, X', hL, e1, e2, hq, st⟩ := hr T hT X
  obtain ⟨t2, a1, b1⟩ := kk v st₀ t T'.heap L h0 e1.symm (by rw [← e2]; exact X'.warmed.alike) hq hL T' rfl X'
  exact ⟨t2, st t2 a1, b1⟩
/-- behind a call -/
theorem zcall_back {ws : va_W} {H : Heap} {locs : List Loc} {mls : Array Slot} {m2 : List Value} {st0 : List Value} {ra : Option zV × zMem} {r : List zV} (hz : zG p l e R s m args below meth c Q D A pa ws0 σ0 rf (pc + 3) ls (ra.1.toList ++ r) ra.2) (hle : σ.2.2.2.1 ≤ ra.2.2.2.2.1 ∧ σ.2.2.2.2 ≤ ra.2.2.2.2.2) (hn : σ0.2.2.2.1 ≤ σ.2.2.2.1 ∧ σ0.2.2.2.2 ≤ σ.2.2.2.2) (hS : va_S A s.heap H locs) (hxx : zext ws0 ws) (hl : zLR pa ws ls mls) (hst : zSR pa ws r m2) {as : Array Value}
    (hr : va_Run p l e R s m args below meth c H locs (σ.2.2.2.1 - σ0.2.2.2.1) (σ.2.2.2.2 - σ0.2.2.2.2) (ra.2.2.2.2.1 - σ.2.2.2.1) (ra.2.2.2.2.2 - σ.2.2.2.2) (F0 m pc mls st0) m2 (zQc D A pa ws ra as) A) : W p l e R s m args below meth c H locs (σ.2.2.2.1 - σ0.2.2.2.1) (σ.2.2.2.2 - σ0.2.2.2.2) Q (F0 m pc mls st0) := by
  refine zcall_go hr (fun v st₀ t H1 L h0 ht hvm hq hloc => ?_)
  obtain ⟨v', ws', tys', hv, hvo, hK1, hR1, hP1, hD1, hx1, hF⟩ := hq
  cases hv
  subst ht
  rw [show σ.2.2.2.1 - σ0.2.2.2.1 + (ra.2.2.2.2.1 - σ.2.2.2.1) = ra.2.2.2.2.1 - σ0.2.2.2.1 by omega, show σ.2.2.2.2 - σ0.2.2.2.2 + (ra.2.2.2.2.2 - σ.2.2.2.2) = ra.2.2.2.2.2 - σ0.2.2.2.2 by omega]
  refine hz.2 ws' tys' t.heap (locs ++ L) mls _ ⟨by omega, by omega⟩ (va_K.moved hvm.symm hK1) hR1 hP1 hD1 ⟨Nat.le_trans hS.1 (by rw [← h0]; exact hF.1), fun q h1 h2 => ?_, fun q hq => ?_⟩ (hxx.trans hx1) (hl.mono hx1) ?_
  · rw [hF.2 q (by rw [h0]; exact Nat.lt_of_lt_of_le h1 hS.1) h2, h0]
    exact hS.2.1 q h1 h2
  · rcases List.mem_append.mp hq with h | h
    · exact hS.2.2 q h
    · exact hloc q h
  · cases hra : ra.1 with
    | none =>
      rw [hra] at hvo
      cases v with
      | none => exact hst.mono hx1
      | some w => exact hvo.elim
    | some z =>
      rw [hra] at hvo
      cases v with
      | none => exact hvo.elim
      | some w => exact ⟨w, m2, rfl, hvo, hst.mono hx1⟩
end ZOPS6
