/-! THE CLAIM OUT OF ONE RUN OF THE SMALL MACHINE. -/
def z0 : zMem := (fun _ _ => 0, (fun _ _ => 0, (fun _ => (0, (0, 0)), (0, 0))))
/-- the law, as the small machine runs it, answers 1, for a script of L ints xs -/
def zLawRuns (L : Nat) (xs : Nat → Int32) : Prop := ∃ (n d : Nat) (rf : zMem), d ≤ 50 ∧ zrun (zXs L xs) (zcal (zXs L xs) zP d) zc_law n 0 (zinit [.inr (.inr (.inr 0))] 4) [] z0 = some (some (.inl 1), rf) ∧ rf.2.2.2.1 ≤ 600000 ∧ rf.2.2.2.2 ≤ 7302250
def zidxs : List Nat := [69, 71, 73, 75, 77, 79, 81, 46, 97, 55, 102, 60, 132, 134, 136]
def ztm (i : Nat) : Term := .string "CupsAndPea$Tape" (zidxs.getD i 0)
def zflat : List Cond := flatC (Jvm.Cond.and given_1 narrow_1)
theorem zf_ex : ∀ i, i < 15 → Cond.exactly (ztm i) "java/lang/String" ∈ zflat := by decide +kernel
theorem zf_co : ∀ i, i < 15 → Cond.eq (.field (ztm i) "java/lang/String" "coder" "B") (.int 0) ∈ zflat := by decide +kernel
theorem zf_ar : ∀ i, i < 15 → Cond.arrayOf (.field (ztm i) "java/lang/String" "value" "[B") .byte ∈ zflat := by decide +kernel
theorem zf_le : ∀ i, i < 15 → Cond.eq (.length (.field (ztm i) "java/lang/String" "value" "[B")) (.int (Int32.ofNat (zchars (i + 4)).length)) ∈ zflat := by decide +kernel
theorem zf_el : ∀ i, i < 15 → ∀ j, j < (zchars (i + 4)).length → Cond.eq (.elem (.field (ztm i) "java/lang/String" "value" "[B") (.int (Int32.ofNat j))) (.int ((zchars (i + 4)).getD j 0)) ∈ zflat := by decide +kernel
def zfne : List (Nat × (Nat × Nat)) := [(0, (1, 92)), (0, (2, 101)), (1, (2, 102)), (0, (3, 111)), (1, (3, 112)), (2, (3, 113)), (0, (4, 123)), (1, (4, 124)), (2, (4, 125)), (3, (4, 126)), (0, (5, 135)), (1, (5, 136)), (2, (5, 137)), (3, (5, 138)), (4, (5, 139)), (0, (6, 149)), (1, (6, 150)), (2, (6, 151)), (3, (6, 152)), (4, (6, 153)), (5, (6, 154)), (0, (7, 162)), (1, (7, 163)), (2, (7, 164)), (3, (7, 165)), (4, (7, 166)), (5, (7, 167)), (6, (7, 168)), (0, (8, 177)), (1, (8, 178)), (2, (8, 179)), (3, (8, 180)), (4, (8, 181)), (5, (8, 182)), (6, (8, 183)), (7, (8, 184)), (0, (9, 192)), (1, (9, 193)), (2, (9, 194)), (3, (9, 195)), (4, (9, 196)), (5, (9, 197)), (6, (9, 198)), (7, (9, 199)), (8, (9, 200)), (0, (10, 209)), (1, (10, 210)), (2, (10, 211)), (3, (10, 212)), (4, (10, 213)), (5, (10, 214)), (6, (10, 215)), (7, (10, 216)), (8, (10, 217)), (9, (10, 218)), (0, (11, 229)), (1, (11, 230)), (2, (11, 231)), (3, (11, 232)), (4, (11, 233)), (5, (11, 234)), (6, (11, 235)), (7, (11, 236)), (8, (11, 237)), (9, (11, 238)), (10, (11, 239)), (0, (12, 249)), (1, (12, 250)), (2, (12, 251)), (3, (12, 252)), (4, (12, 253)), (5, (12, 254)), (6, (12, 255)), (7, (12, 256)), (8, (12, 257)), (9, (12, 258)), (10, (12, 259)), (11, (12, 260)), (0, (13, 270)), (1, (13, 271)), (2, (13, 272)), (3, (13, 273)), (4, (13, 274)), (5, (13, 275)), (6, (13, 276)), (7, (13, 277)), (8, (13, 278)), (9, (13, 279)), (10, (13, 280)), (11, (13, 281)), (12, (13, 282)), (0, (14, 292)), (1, (14, 293)), (2, (14, 294)), (3, (14, 295)), (4, (14, 296)), (5, (14, 297)), (6, (14, 298)), (7, (14, 299)), (8, (14, 300)), (9, (14, 301)), (10, (14, 302)), (11, (14, 303)), (12, (14, 304)), (13, (14, 305))]
theorem zf_ne0 : zfne.all (fun q => decide (zflat[q.2.2]? = some (Cond.not (Cond.eq (ztm q.1) (ztm q.2.1))))) = true := by decide +kernel
theorem zf_ne1 : ∀ i, i < 15 → ∀ j, j < 15 → i ≠ j → ∃ q ∈ zfne, (q.1 = i ∧ q.2.1 = j) ∨ (q.1 = j ∧ q.2.1 = i) := by decide +kernel
theorem zf_ne : ∀ i, i < 15 → ∀ j, j < 15 → i ≠ j → (Cond.not (Cond.eq (ztm i) (ztm j)) ∈ zflat ∨ Cond.not (Cond.eq (ztm j) (ztm i)) ∈ zflat) := by
  intro i hi j hj hij
  obtain ⟨q, hq, h⟩ := zf_ne1 i hi j hj hij
  have h1 := List.all_eq_true.mp zf_ne0 q hq
  simp only [decide_eq_true_eq] at h1
  rcases h with ⟨rfl, rfl⟩ | ⟨rfl, rfl⟩
  · exact Or.inl (List.mem_of_getElem? h1)
  · exact Or.inr (List.mem_of_getElem? h1)
def zsl (j : Nat) : List Int32 := match j with
  | 1 => [-1, 0, 0, 2, 1, 0, 5]
  | 2 => [0, 1, 1]
  | _ => [9999, 99, 9]
theorem zf_st : ∀ j, j < 3 → Cond.arrayOf (.static (zstat (j + 1)).1 (zstat (j + 1)).2.1 (zstat (j + 1)).2.2) .int ∈ zflat ∧ Cond.eq (.length (.static (zstat (j + 1)).1 (zstat (j + 1)).2.1 (zstat (j + 1)).2.2)) (.int (Int32.ofNat (zsl (j + 1)).length)) ∈ zflat ∧ ∀ i, i < (zsl (j + 1)).length → Cond.eq (.elem (.static (zstat (j + 1)).1 (zstat (j + 1)).2.1 (zstat (j + 1)).2.2) (.int (Int32.ofNat i))) (.int ((zsl (j + 1)).getD i 0)) ∈ zflat := by decide +kernel
theorem zf_ls : ∀ j, j < 3 → Cond.laysStatic (zstat (j + 1)).1 (zstat (j + 1)).2.1 (zstat (j + 1)).2.2 ∈ lw_tbl ∧ Cond.initialized (zstat (j + 1)).1 ∈ lw_tbl := by decide +kernel
theorem zf_X : ∀ (L : Nat) (xs : Nat → Int32) (j : Nat), j < 3 → (zXs L xs (j + 1)).1 = (zsl (j + 1)).length ∧ ∀ i, i < (zsl (j + 1)).length → Int32.ofInt ((zXs L xs (j + 1)).2 i) = (zsl (j + 1)).getD i 0 ∧ w32 ((zXs L xs (j + 1)).2 i) = (zXs L xs (j + 1)).2 i := by
  intro L xs j hj
  match j, hj with
  | 0, _ => exact ⟨rfl, (by decide +kernel : ∀ i, i < 7 → Int32.ofInt (([-1, 0, 0, 2, 1, 0, 5] : List Int).getD i 0) = ([-1, 0, 0, 2, 1, 0, 5] : List Int32).getD i 0 ∧ w32 (([-1, 0, 0, 2, 1, 0, 5] : List Int).getD i 0) = ([-1, 0, 0, 2, 1, 0, 5] : List Int).getD i 0)⟩
  | 1, _ => exact ⟨rfl, (by decide +kernel : ∀ i, i < 3 → Int32.ofInt (([0, 1, 1] : List Int).getD i 0) = ([0, 1, 1] : List Int32).getD i 0 ∧ w32 (([0, 1, 1] : List Int).getD i 0) = ([0, 1, 1] : List Int).getD i 0)⟩
  | 2, _ => exact ⟨rfl, (by decide +kernel : ∀ i, i < 3 → Int32.ofInt (([9999, 99, 9] : List Int).getD i 0) = ([9999, 99, 9] : List Int32).getD i 0 ∧ w32 (([9999, 99, 9] : List Int).getD i 0) = ([9999, 99, 9] : List Int).getD i 0)⟩
theorem zf_jdk : Cond.eq (.static "java/lang/String" "COMPACT_STRINGS" "Z") (.int 1) ∈ zflat ∧ Cond.isRef (.static "jdk/internal/util/Preconditions" "SIOOBE_FORMATTER" "Ljava/util/function/BiFunction;") ∈ zflat ∧ Cond.laysStatic "java/lang/String" "COMPACT_STRINGS" "Z" ∈ lw_tbl ∧ Cond.laysStatic "jdk/internal/util/Preconditions" "SIOOBE_FORMATTER" "Ljava/util/function/BiFunction;" ∈ lw_tbl ∧ Cond.initialized "java/lang/String" ∈ lw_tbl ∧ Cond.initialized "jdk/internal/util/Preconditions" ∈ lw_tbl ∧ Cond.arrayOver (.array .long) ∈ lw_tbl := by
  refine ⟨?_, ?_, ?_, ?_, ?_, ?_, ?_⟩ <;> decide +kernel
theorem zf_pool : zpool.all (fun e => match e.2.2.1 with
  | .ldc j => decide (e.1 = 8 ∧ 4 ≤ j ∧ j < 19 ∧ e.2.1 = zidxs.getD (j - 4) 0)
  | _ => true) = true := by decide +kernel
theorem zf_nestOn {w : Cond} (h : znest w = true) : w.onTables = true := by cases w <;> first | rfl | (cases h; done)
theorem zenv_start {args : Array Value} {s : State} {b L : Nat} {xs : Nat → Int32} (hL : L ≤ 3072) (hts : ∀ w ∈ lw_tbl, w.before args s = true) (hX : va_X b L xs s s.heap) (hbl : b < s.heap.size) (hgv : (Jvm.Cond.and given_1 narrow_1).before args s = true) (hex : ∀ own i j A', zplook zpool own i = some (.ldc j) → (Cond.stringRef (znm own) i (ztext j)).before A' s = true → True) : ∃ (pa adV : Nat → Nat), pa 0 = b ∧ zEnv (fun q => s.heap.size ≤ q) pa (zXs L xs) adV s := by
  have hs : ∀ c ∈ zflat, c.before args s = true := flat_of_before _ hgv
  have hA : ∀ a : Nat, a < s.heap.size → ¬ s.heap.size ≤ a := fun a h => by omega
  obtain ⟨j1, j2, j3, j4, j5, j6, j7⟩ := zf_jdk
  have hst : ∀ j, j < 3 → ∃ t : Nat, (Term.static (zstat (j + 1)).1 (zstat (j + 1)).2.1 (zstat (j + 1)).2.2).eval args s none [] s = some (.ref t) ∧ va_T .int t (zsl (j + 1)).length (fun i => .int ((zsl (j + 1)).getD i 0)) (fun q => s.heap.size ≤ q) s s.heap := by
    intro j hj
    obtain ⟨h1, h2, h3⟩ := zf_st j hj
    have hsm : ∀ j, j < 3 → (zsl (j + 1)).length < 2 ^ 31 := by decide +kernel
    exact va_Tof (hsm j hj) (hs _ h1) (va_eqt (hs _ h2)) (fun i hi => va_eqt (hs _ (h3 i hi))) hA
  obtain ⟨adK, adV, hvk, hadK⟩ := vk_Sof (args := args) (s := s) (N := 15) (tm := ztm) (len := (List.range 15).map (fun i => (zchars (i + 4)).length)) (byt := (List.range 15).map (fun i => zchars (i + 4))) (A := fun q => s.heap.size ≤ q) (fun i hi => by rw [zch_len hi]; have := (zchars_ok i hi).1; omega) (fun i hi => hs _ (zf_ex i hi)) (fun i hi => hs _ (zf_co i hi)) (fun i hi => hs _ (zf_ar i hi)) (fun i hi => by rw [zch_len hi]; exact hs _ (zf_le i hi)) (fun i hi j hj => by rw [zch_len hi] at hj; rw [zch_get hi]; exact hs _ (zf_el i hi j hj)) (fun i j hi hj hij => (zf_ne i hi j hj hij).imp (hs _) (hs _)) hA
  obtain ⟨t1, e1, T1⟩ := hst 0 (by decide)
  obtain ⟨t2, e2, T2⟩ := hst 1 (by decide)
  obtain ⟨t3, e3, T3⟩ := hst 2 (by decide)
  refine ⟨fun j => if j = 0 then b else if j = 1 then t1 else if j = 2 then t2 else if j = 3 then t3 else adK (j - 4), adV, rfl, fun w hw hn => va_Nw.of (zf_nestOn hn) (hts w hw), fun C hC => va_AO.of (hts _ hC), hts _ j7, ?_, ⟨L, xs, rfl, by omega, hX, hbl, hA b hbl⟩, ⟨va_Zof (hts _ j3) (hts _ j5) (va_eqi (hs _ j1)) hA, va_Zqof (hts _ j4) (hts _ j6) (hs _ j2) hA⟩, ?_, ?_⟩
  · intro j h1 h2
    have key : ∀ k, k < 3 → ∀ t, (Term.static (zstat (k + 1)).1 (zstat (k + 1)).2.1 (zstat (k + 1)).2.2).eval args s none [] s = some (.ref t) → va_T .int t (zsl (k + 1)).length (fun i => .int ((zsl (k + 1)).getD i 0)) (fun q => s.heap.size ≤ q) s s.heap → va_Z (zstat (k + 1)).1 (zstat (k + 1)).2.1 (zstat (k + 1)).2.2 (.ref t) (fun q => s.heap.size ≤ q) s s.heap ∧ va_T .int t (zXs L xs (k + 1)).1 (fun i => .int (Int32.ofInt ((zXs L xs (k + 1)).2 i))) (fun q => s.heap.size ≤ q) s s.heap ∧ (zXs L xs (k + 1)).1 < 2147483648 ∧ ∀ i, i < (zXs L xs (k + 1)).1 → w32 ((zXs L xs (k + 1)).2 i) = (zXs L xs (k + 1)).2 i := by
      intro k hk t he hT
      obtain ⟨x1, x2⟩ := zf_X L xs k hk
      obtain ⟨l1, l2⟩ := zf_ls k hk
      have hsm : ∀ j, j < 3 → (zsl (j + 1)).length < 2147483648 := by decide +kernel
      refine ⟨va_Zref (hts _ l1) (hts _ l2) he hA, ?_, by rw [x1]; exact hsm k hk, fun i hi => (x2 i (by rw [← x1]; exact hi)).2⟩
      rw [x1]
      obtain ⟨cell, q1, q2, q3, q4, q5, q6, q7⟩ := hT
      exact ⟨cell, q1, q2, q3, q4, q5, (fun i hi => by rw [q6 i hi]; show some (Value.int _) = some (Value.int _); rw [(x2 i hi).1]), q7⟩
    rcases (show j = 1 ∨ j = 2 ∨ j = 3 by omega) with rfl | rfl | rfl
    · exact key 0 (by decide) t1 e1 T1
    · exact key 1 (by decide) t2 e2 T2
    · exact key 2 (by decide) t3 e3 T3
  · have ep : (fun i => (fun j => if j = 0 then b else if j = 1 then t1 else if j = 2 then t2 else if j = 3 then t3 else adK (j - 4)) (4 + i)) = adK := by
      funext i
      show (if 4 + i = 0 then b else if 4 + i = 1 then t1 else if 4 + i = 2 then t2 else if 4 + i = 3 then t3 else adK (4 + i - 4)) = adK i
      rw [if_neg (by omega), if_neg (by omega), if_neg (by omega), if_neg (by omega), Nat.add_sub_cancel_left]
    rw [ep]
    exact hvk
  · intro own i j hp
    obtain ⟨P, hP⟩ := zplook_mem hp
    have h1 := List.all_eq_true.mp zf_pool _ hP
    simp only [decide_eq_true_eq] at h1
    obtain ⟨rfl, h2, h3, rfl⟩ := h1
    obtain ⟨c, hc, hw⟩ := zpool_fact hp
    simp only [zwant, Bool.and_eq_true, decide_eq_true_eq] at hw
    obtain ⟨-, rfl⟩ := hw
    have h4 := hadK (j - 4) (by omega)
    refine vk_R.of (hts _ hc) ?_
    show (ztm (j - 4)).eval args s none [] s = some (.ref (if j = 0 then b else if j = 1 then t1 else if j = 2 then t2 else if j = 3 then t3 else adK (j - 4)))
    rw [if_neg (by omega), if_neg (by omega), if_neg (by omega), if_neg (by omega)]
    exact h4
theorem zretok_law : zc_law.all (fun e => zretok (some .boolean) e.2.1) = true := by decide +kernel
theorem whole_of (hall : ∀ (L : Nat) (xs : Nat → Int32), L ≤ 3072 → zLawRuns L xs) {p : Program} {e : Env} {s : State} {m : MethodId} {below : List Frame} {meth : Method} {c : Code} (l : Launch) {b L : Nat} {xs : Nat → Int32} (hL : L ≤ 3072) (C0 : lw_At p s m meth c b L xs) : W p l e room_1 s m #[Value.ref b] below meth c s.heap [] 0 0 (lw_Z below #[Value.ref b] s) (entryFrame m ([Value.ref b] : List Value).toArray 4) := by
  obtain ⟨hx, hb, hr, hml, hown, hts, hX, hbl, hlocks, hgv⟩ := C0
  obtain ⟨n, d, rf, hd, hrun, hr1, hr2⟩ := hall L xs hL
  obtain ⟨pa, adV, hpa, henv⟩ := zenv_start hL hts hX hbl hgv (fun _ _ _ _ _ _ => trivial)
  have hex : ∀ c0, ∃ (cC : ClassId) (iS : Nat → Nat), c0 < 11 → u_Kn s (znm c0) (zTT c0) (znf c0) cC iS := by
    intro c0
    by_cases hc : c0 < 11
    · obtain ⟨-, k2, -, -, k5, -⟩ := zclass_ok c0 hc
      obtain ⟨cC, iS, h⟩ := u_known hts k2 (hts _ k5)
      exact ⟨cC, iS, fun _ => h⟩
    · exact ⟨0, fun _ => 0, fun h => absurd h hc⟩
  generalize hDe : ((fun c0 => Classical.choose (hex c0), fun c0 => Classical.choose (Classical.choose_spec (hex c0))) : va_G) = D
  have hK : va_K D zcl [] s := by
    refine ⟨fun c0 q hq => ?_, fun k q hq => by cases hq⟩
    have hc : c0 < 11 := (List.getElem?_eq_some_iff.mp hq).1
    have hq2 := (zclass_ok c0 hc).1
    rw [hq] at hq2
    cases hq2
    rw [← hDe]
    exact Classical.choose_spec (Classical.choose_spec (hex c0)) hc
  rw [lg_entry_eq]
  have hargs : zSR pa [] [.inr (.inr (.inr 0))] [Value.ref b] := ⟨_, _, rfl, by show Value.ref b = .ref (pa 0); rw [hpa], rfl⟩
  have hl := zLR_init (nl := 4) hargs (by decide)
  generalize (lg_sl [Value.ref b] ++ List.replicate (4 - (lg_sl [Value.ref b]).length) Slot.unset).toArray = mls at hl ⊢
  have hret : zRets p l e room_1 s m #[Value.ref b] below meth c code (lw_Z below #[Value.ref b] s) D (fun q => s.heap.size ≤ q) pa [] z0 rf (some (.inl 1)) (some .boolean) := by
    intro ws' tys' H locs mls' pc hK' hR' hP' hD' hS' hxx'
    refine ⟨fun x hx1 hty hdg => ?_, fun x hx1 hty hdg => (by cases hx1), fun z w hz hw hty hdg => (by cases hz), fun hn0 hty hdg => (by cases hn0)⟩
    have e1 : x = 1 := by
      have h9 : (1 : Int) = x.toInt := Sum.inl.inj (Option.some.inj hx1)
      exact (zn_eq x 1).mpr (by rw [← h9]; rfl)
    subst e1
    refine va_forget (fun q hq => hS'.2.2 q hq) ?_
    refine W.widen (k := 600000) (n := 7302250) ?_ ?_ ?_
    · show rf.2.2.2.1 - 0 ≤ _; omega
    · show rf.2.2.2.2 - 0 ≤ _; omega
    · exact lw_ret hx hb hr hlocks hdg
  have hz := zsim (ret := some .boolean) (ws0 := []) (σ0 := z0) (rf := rf) (rv := some (.inl 1)) (P := zP) (md := 1) (d := d) (own := 11) (nl := 4) (code := zc_law) (R := room_1) (Q := lw_Z below #[Value.ref b] s) (D := D) (A := fun q => s.heap.size ≤ q) (pa := pa) (X := zXs L xs) (adV := adV) (Ts := lw_tbl) (args := #[Value.ref b]) (below := below) (l := l) (e := e) hx hb hown hml hts (fun w hw => (List.mem_filter.mp hw).1) henv (fun q h => h) (zstr_ok l L xs) (zmet_all (zstr_ok l L xs) d) (fun e he => List.all_eq_true.mp zlaw_ok e he) (fun e he => List.all_eq_true.mp zretok_law e he) (fun h => by cases h) (by show d + 6 ≤ 2048; omega) (by show 40 * (d + 1) + 250 ≤ 84000; omega) (by show rf.2.2.2.1 - 0 ≤ 600000; omega) (by show rf.2.2.2.2 - 0 ≤ 7302250; omega) hret n 0 (zinit [.inr (.inr (.inr 0))] 4) [] z0 rfl hrun
  have h1 := hz.2 [] [] s.heap [] mls [] ⟨Nat.le_refl _, Nat.le_refl _⟩ hK ⟨rfl, rfl, (fun b q hq => by cases hq)⟩ (fun k q hq => by cases hq) ⟨(fun i j p q hp => by cases hp), (fun k q hq => by cases hq)⟩ va_S.rf (zext.refl []) hl rfl
  exact h1
