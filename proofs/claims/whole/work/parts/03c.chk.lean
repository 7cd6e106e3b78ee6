/-! THE TABLES ARE THOSE OF THE STATEMENT: each resolved entry beside its word. Written by program (wip/whole/chk.py). -/
/-- the script, the static rows, the texts: how long, what stands in them -/
def zstat (j : Nat) : String × (String × String) := match j with
  | 1 => ("CupsAndPea", "ABOVE", "[I")
  | 2 => ("CupsAndPea", "PLAYER_LEAST", "[I")
  | _ => ("CupsAndPea", "PLAYER_MOST", "[I")
def ztext (j : Nat) : String := match j with
  | 4 => "pass"
  | 5 => "feint"
  | 6 => "lift"
  | 7 => "drop"
  | 8 => "whirl"
  | 9 => "slow"
  | 10 => "quick"
  | 11 => "pea"
  | 12 => "hand"
  | 13 => "eye"
  | 14 => "slip"
  | 15 => "playe\x72"
  | 16 => "purse"
  | 17 => "stake"
  | _ => "bears"
/-- the word that an entry of the pool stands for -/
def zwant (own ix : Nat) (i : Instr) (c : Cond) : Bool := match i with
  | .getfield n => decide (n / 256 < 11) && decide (n / 4 % 64 < znf (n / 256)) && decide (c = .fieldLink (znm own) ix (zfT n).1 (zfT n).2.1 (zfT n).2.2.1) && decide ((zfT n).1 = znm (n / 256)) && (match n % 4 with
    | 0 => decide (zty (n / 256) (n / 4 % 64) = .int)
    | 1 => decide (zty (n / 256) (n / 4 % 64) = .long)
    | 2 => decide (zty (n / 256) (n / 4 % 64) = .boolean)
    | _ => decide (fits (zty (n / 256) (n / 4 % 64)) .null = true))
  | .getstatic j => decide (1 ≤ j ∧ j ≤ 3) && (match c with
    | .fieldLink o x r n d => decide (o = znm own ∧ x = ix ∧ r = (zstat j).1 ∧ n = (zstat j).2.1 ∧ d = (zstat j).2.2)
    | .fieldLinkNest o x r n d _ => decide (o = znm own ∧ x = ix ∧ r = (zstat j).1 ∧ n = (zstat j).2.1 ∧ d = (zstat j).2.2)
    | _ => false)
  | .ldc j => decide (4 ≤ j ∧ j ≤ 18) && decide (c = .stringRef (znm own) ix (ztext j))
  | .iconst n => decide (-2147483648 ≤ n ∧ n < 2147483648) && decide (c = .constant (znm own) ix (Int32.ofInt n))
  | .sipush n => decide (-9223372036854775808 ≤ n ∧ n < 9223372036854775808) && decide (c = .constantLong (znm own) ix (Int64.ofInt n))
  | .new n => decide (n / 256 < 11) && decide (n % 256 = znf (n / 256)) && decide (c = .classLink (znm own) ix (znm (n / 256)))
  | .multianewarray _ _ => decide (c = .classLink (znm own) ix "[[J")
  | .invokevirtual n => (match zM[n / 1024]? with
    | some q => decide (q.2.2.2.2.2.2.1 = 1 ∧ q.1 = n / 16 % 64 ∧ q.2.2.2.2.2.1 = n % 16) && (match c with
      | .methodLink o x y => decide (o = znm own ∧ x = ix ∧ y = q.2.1)
      | .methodLinkNest o x y _ => decide (o = znm own ∧ x = ix ∧ y = q.2.1)
      | _ => false)
    | none => false)
  | .invokespecial n => (match zM[n / 1024]? with
    | some q => decide (q.2.2.2.2.2.2.1 = 2 ∧ q.1 = n / 16 % 64 ∧ q.2.2.2.2.2.1 = n % 16) && (match c with
      | .methodLink o x y => decide (o = znm own ∧ x = ix ∧ y = q.2.1)
      | .methodLinkNest o x y _ => decide (o = znm own ∧ x = ix ∧ y = q.2.1)
      | _ => false)
    | none => false)
  | .invokestatic n => (match zM[n / 1024]? with
    | some q => decide (q.2.2.2.2.2.2.1 = 0 ∧ q.2.2.2.2.2.1 = n % 16) && (match c with
      | .methodLink o x y => decide (o = znm own ∧ x = ix ∧ y = q.2.1)
      | .methodLinkNest o x y _ => decide (o = znm own ∧ x = ix ∧ y = q.2.1)
      | _ => false)
    | none => false)
  | .fadd => decide (c = .methodLink (znm own) ix Lib.Math.min.name)
  | .fsub => decide (c = .methodLink (znm own) ix Lib.Math.max.name)
  | .swap => decide (c = .methodLink (znm own) ix arraycopyName)
  | .nop => decide (c = .methodLink (znm own) ix objectInit)
  | .dadd => decide (c = .methodLink (znm own) ix ⟨"java/lang/String", "length", "()I"⟩)
  | .dsub => decide (c = .methodLink (znm own) ix ⟨"java/lang/String", "charAt", "(I)C"⟩)
  | _ => false
def zpchk (e : Nat × (Nat × (Instr × Nat))) : Bool := match lw_tbl[e.2.2.2]? with
  | some c => zwant e.1 e.2.1 e.2.2.1 c
  | none => false
theorem zpool_ok_0 : zpool_0.all zpchk = true := by decide +kernel
theorem zpool_ok_1 : zpool_1.all zpchk = true := by decide +kernel
theorem zpool_ok_2 : zpool_2.all zpchk = true := by decide +kernel
theorem zpool_ok_3 : zpool_3.all zpchk = true := by decide +kernel
theorem zpool_ok_4 : zpool_4.all zpchk = true := by decide +kernel
theorem zpool_ok_5 : zpool_5.all zpchk = true := by decide +kernel
theorem zpool_ok_6 : zpool_6.all zpchk = true := by decide +kernel
theorem zpool_ok_7 : zpool_7.all zpchk = true := by decide +kernel
theorem zpool_ok_8 : zpool_8.all zpchk = true := by decide +kernel
theorem zpool_ok : zpool.all zpchk = true := by
  unfold zpool
  simp only [List.all_append, zpool_ok_0, zpool_ok_1, zpool_ok_2, zpool_ok_3, zpool_ok_4, zpool_ok_5, zpool_ok_6, zpool_ok_7, zpool_ok_8, Bool.and_self]
/-- the words of a method -/
def zmchk (q : zMt) : Bool := decide (q.1 < 11) && decide (znm q.1 = q.2.1.cls) && decide (lw_tbl[q.2.2.2.2.2.2.2.1]? = some (.code q.2.1 q.2.2.1 q.2.2.2.1 q.2.2.2.2.1)) && decide (lw_tbl[q.2.2.2.2.2.2.2.2.2.2]? = some (.initialized q.2.1.cls)) && decide (q.2.2.2.1 ≤ 13) && (match q.2.2.2.2.2.2.1 with
  | 0 => decide (lw_tbl[q.2.2.2.2.2.2.2.2.1]? = some (.static q.2.1)) && decide ((parseMethodDescriptor q.2.1.desc).map (fun d => d.parameters.length) = some q.2.2.2.2.2.1)
  | 1 => decide (lw_tbl[q.2.2.2.2.2.2.2.2.1]? = some (.instanceMethod q.2.1)) && decide (lw_tbl[q.2.2.2.2.2.2.2.2.2.1]? = some (.selects q.2.1.cls q.2.1 q.2.1)) && decide ((parseMethodDescriptor q.2.1.desc).map (fun d => d.parameters.length + 1) = some q.2.2.2.2.2.1)
  | _ => decide (q.2.1.name = "<init>" ∧ q.2.2.2.2.1 = none) && decide (lw_tbl[q.2.2.2.2.2.2.2.2.1]? = some (.instanceMethod q.2.1)) && decide ((parseMethodDescriptor q.2.1.desc).map (fun d => d.parameters.length + 1) = some q.2.2.2.2.2.1)) && decide (plainName q.2.1.cls = true)
theorem zM_ok_0 : zM_0.all zmchk = true := by decide +kernel
theorem zM_ok_1 : zM_1.all zmchk = true := by decide +kernel
theorem zM_ok_2 : zM_2.all zmchk = true := by decide +kernel
theorem zM_ok_3 : zM_3.all zmchk = true := by decide +kernel
theorem zM_ok_4 : zM_4.all zmchk = true := by decide +kernel
theorem zM_ok_5 : zM_5.all zmchk = true := by decide +kernel
theorem zM_ok_6 : zM_6.all zmchk = true := by decide +kernel
theorem zM_ok_7 : zM_7.all zmchk = true := by decide +kernel
theorem zM_ok_8 : zM_8.all zmchk = true := by decide +kernel
theorem zM_ok_9 : zM_9.all zmchk = true := by decide +kernel
theorem zM_ok : zM.all zmchk = true := by
  unfold zM
  simp only [List.all_append, zM_ok_0, zM_ok_1, zM_ok_2, zM_ok_3, zM_ok_4, zM_ok_5, zM_ok_6, zM_ok_7, zM_ok_8, zM_ok_9, Bool.and_self]
theorem zws_0 : ∀ w ∈ u_ws zR0 zT0 2, w ∈ lw_tbl := by decide +kernel
theorem zty_0 : ∀ k, k < 2 → parseFieldDescriptor (zT0 k).2.2.1 = some (zty 0 k) := by decide +kernel
theorem znd_0 : ∀ a, a < 2 → ∀ b, b < 2 → a ≠ b → (zT0 a).2.1 ≠ (zT0 b).2.1 := by decide +kernel
theorem zws_1 : ∀ w ∈ u_ws zR1 zT1 1, w ∈ lw_tbl := by decide +kernel
theorem zty_1 : ∀ k, k < 1 → parseFieldDescriptor (zT1 k).2.2.1 = some (zty 1 k) := by decide +kernel
theorem znd_1 : ∀ a, a < 1 → ∀ b, b < 1 → a ≠ b → (zT1 a).2.1 ≠ (zT1 b).2.1 := by decide +kernel
theorem zws_2 : ∀ w ∈ u_ws zR2 zT2 3, w ∈ lw_tbl := by decide +kernel
theorem zty_2 : ∀ k, k < 3 → parseFieldDescriptor (zT2 k).2.2.1 = some (zty 2 k) := by decide +kernel
theorem znd_2 : ∀ a, a < 3 → ∀ b, b < 3 → a ≠ b → (zT2 a).2.1 ≠ (zT2 b).2.1 := by decide +kernel
theorem zws_3 : ∀ w ∈ u_ws zR3 zT3 4, w ∈ lw_tbl := by decide +kernel
theorem zty_3 : ∀ k, k < 4 → parseFieldDescriptor (zT3 k).2.2.1 = some (zty 3 k) := by decide +kernel
theorem znd_3 : ∀ a, a < 4 → ∀ b, b < 4 → a ≠ b → (zT3 a).2.1 ≠ (zT3 b).2.1 := by decide +kernel
theorem zws_4 : ∀ w ∈ u_ws zR4 zT4 7, w ∈ lw_tbl := by decide +kernel
theorem zty_4 : ∀ k, k < 7 → parseFieldDescriptor (zT4 k).2.2.1 = some (zty 4 k) := by decide +kernel
theorem znd_4 : ∀ a, a < 7 → ∀ b, b < 7 → a ≠ b → (zT4 a).2.1 ≠ (zT4 b).2.1 := by decide +kernel
theorem zws_5 : ∀ w ∈ u_ws zR5 zT5 3, w ∈ lw_tbl := by decide +kernel
theorem zty_5 : ∀ k, k < 3 → parseFieldDescriptor (zT5 k).2.2.1 = some (zty 5 k) := by decide +kernel
theorem znd_5 : ∀ a, a < 3 → ∀ b, b < 3 → a ≠ b → (zT5 a).2.1 ≠ (zT5 b).2.1 := by decide +kernel
theorem zws_6 : ∀ w ∈ u_ws zR6 zT6 1, w ∈ lw_tbl := by decide +kernel
theorem zty_6 : ∀ k, k < 1 → parseFieldDescriptor (zT6 k).2.2.1 = some (zty 6 k) := by decide +kernel
theorem znd_6 : ∀ a, a < 1 → ∀ b, b < 1 → a ≠ b → (zT6 a).2.1 ≠ (zT6 b).2.1 := by decide +kernel
theorem zws_7 : ∀ w ∈ u_ws zR7 zT7 9, w ∈ lw_tbl := by decide +kernel
theorem zty_7 : ∀ k, k < 9 → parseFieldDescriptor (zT7 k).2.2.1 = some (zty 7 k) := by decide +kernel
theorem znd_7 : ∀ a, a < 9 → ∀ b, b < 9 → a ≠ b → (zT7 a).2.1 ≠ (zT7 b).2.1 := by decide +kernel
theorem zws_8 : ∀ w ∈ u_ws zR8 zT8 6, w ∈ lw_tbl := by decide +kernel
theorem zty_8 : ∀ k, k < 6 → parseFieldDescriptor (zT8 k).2.2.1 = some (zty 8 k) := by decide +kernel
theorem znd_8 : ∀ a, a < 6 → ∀ b, b < 6 → a ≠ b → (zT8 a).2.1 ≠ (zT8 b).2.1 := by decide +kernel
theorem zws_9 : ∀ w ∈ u_ws zR9 zT9 11, w ∈ lw_tbl := by decide +kernel
theorem zty_9 : ∀ k, k < 11 → parseFieldDescriptor (zT9 k).2.2.1 = some (zty 9 k) := by decide +kernel
theorem znd_9 : ∀ a, a < 11 → ∀ b, b < 11 → a ≠ b → (zT9 a).2.1 ≠ (zT9 b).2.1 := by decide +kernel
theorem zws_10 : ∀ w ∈ u_ws zR10 zT10 31, w ∈ lw_tbl := by decide +kernel
theorem zty_10 : ∀ k, k < 31 → parseFieldDescriptor (zT10 k).2.2.1 = some (zty 10 k) := by decide +kernel
theorem znd_10 : ∀ a, a < 31 → ∀ b, b < 31 → a ≠ b → (zT10 a).2.1 ≠ (zT10 b).2.1 := by decide +kernel
/-- what is said of class c -/
def zclass (c : Nat) : Prop := zcl[c]? = some (znm c, zTT c, znf c) ∧ (∀ w ∈ u_ws (znm c) (zTT c) (znf c), w ∈ lw_tbl) ∧ (∀ k, k < znf c → parseFieldDescriptor (zTT c k).2.2.1 = some (zty c k)) ∧ (∀ a, a < znf c → ∀ b, b < znf c → a ≠ b → (zTT c a).2.1 ≠ (zTT c b).2.1) ∧ Cond.instantiable (znm c) (znf c) ∈ lw_tbl ∧ Cond.initialized (znm c) ∈ lw_tbl
theorem zclass_0 : zclass 0 := ⟨rfl, zws_0, zty_0, znd_0, List.mem_of_getElem? (i := 125) (by decide +kernel), List.mem_of_getElem? (i := 68) (by decide +kernel)⟩
theorem zclass_1 : zclass 1 := ⟨rfl, zws_1, zty_1, znd_1, List.mem_of_getElem? (i := 266) (by decide +kernel), List.mem_of_getElem? (i := 72) (by decide +kernel)⟩
theorem zclass_2 : zclass 2 := ⟨rfl, zws_2, zty_2, znd_2, List.mem_of_getElem? (i := 102) (by decide +kernel), List.mem_of_getElem? (i := 67) (by decide +kernel)⟩
theorem zclass_3 : zclass 3 := ⟨rfl, zws_3, zty_3, znd_3, List.mem_of_getElem? (i := 145) (by decide +kernel), List.mem_of_getElem? (i := 69) (by decide +kernel)⟩
theorem zclass_4 : zclass 4 := ⟨rfl, zws_4, zty_4, znd_4, List.mem_of_getElem? (i := 234) (by decide +kernel), List.mem_of_getElem? (i := 71) (by decide +kernel)⟩
theorem zclass_5 : zclass 5 := ⟨rfl, zws_5, zty_5, znd_5, List.mem_of_getElem? (i := 304) (by decide +kernel), List.mem_of_getElem? (i := 74) (by decide +kernel)⟩
theorem zclass_6 : zclass 6 := ⟨rfl, zws_6, zty_6, znd_6, List.mem_of_getElem? (i := 221) (by decide +kernel), List.mem_of_getElem? (i := 70) (by decide +kernel)⟩
theorem zclass_7 : zclass 7 := ⟨rfl, zws_7, zty_7, znd_7, List.mem_of_getElem? (i := 91) (by decide +kernel), List.mem_of_getElem? (i := 66) (by decide +kernel)⟩
theorem zclass_8 : zclass 8 := ⟨rfl, zws_8, zty_8, znd_8, List.mem_of_getElem? (i := 276) (by decide +kernel), List.mem_of_getElem? (i := 73) (by decide +kernel)⟩
theorem zclass_9 : zclass 9 := ⟨rfl, zws_9, zty_9, znd_9, List.mem_of_getElem? (i := 83) (by decide +kernel), List.mem_of_getElem? (i := 65) (by decide +kernel)⟩
theorem zclass_10 : zclass 10 := ⟨rfl, zws_10, zty_10, znd_10, List.mem_of_getElem? (i := 968) (by decide +kernel), List.mem_of_getElem? (i := 75) (by decide +kernel)⟩
theorem zclass_ok : ∀ c, c < 11 → zclass c
  | 0, _ => zclass_0
  | 1, _ => zclass_1
  | 2, _ => zclass_2
  | 3, _ => zclass_3
  | 4, _ => zclass_4
  | 5, _ => zclass_5
  | 6, _ => zclass_6
  | 7, _ => zclass_7
  | 8, _ => zclass_8
  | 9, _ => zclass_9
  | 10, _ => zclass_10
  | n + 11, h => absurd h (by omega)
