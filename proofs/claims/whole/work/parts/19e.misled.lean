/-! MISLED: the class's search: the loops over the pairs; all levels. -/
section
variable {X : zX} {C : zC} {d n sz c m : Nat} {k s : Int} {L : zLt} {I : Nat → Nat → Int}
theorem zh_b (hL : zLay L) (hc : 3 ≤ c ∧ c < 7) (hs : 0 ≤ s ∧ s ≤ 10) (hn : sz + n ≤ 14 ∧ n ≤ 4) (h : zCh (zcal X zP (d + 4)) L sz c n k s m) {dp pre : Nat} {st : (Nat → Int) × Int} (hd : dp + (m + 1) = n) (hst : zso c (sz + dp) st) {a : Nat} (ha : a < c)
    (hN : ∀ (q : Int × Nat) (o : Option zV) (I : Nat → Nat → Int), zSI I sz c n k s → zCs c (I 118) dp pre → zqI I c n q → 0 ≤ q.1 → (∀ p, p < 6 → I (85 + sz + dp) p = st.1 p) → ∃ I', zgo X (zcal X zP (d + 4)) zc_Search_seek 12 [some (.inr (.inr (.inl 117))), some (.inr (.inr (.inl 2))), some (.inr (.inr (.inl 83))), some (.inl (dp : Int)), some (.inl st.2), some (.inl ((a + 1 : Nat) : Int)), o] [] (I, L) = some (none, (I', L)) ∧ zqI I' c n (zfor (zuq (zVs c k s (m + 1) st)) ((zPP c - zjj c (a + 1) (a + 2)) * zPP c ^ m) ((pre * zPP c + zjj c (a + 1) (a + 2)) * zPP c ^ m) q) ∧ zFr I I' sz dp dp) :
    ∀ (mb b : Nat) (q : Int × Nat) (I : Nat → Nat → Int), b + mb = c → a < b → zSI I sz c n k s → zCs c (I 118) dp pre → zqI I c n q → 0 ≤ q.1 → (∀ p, p < 6 → I (85 + sz + dp) p = st.1 p) → ∃ I', zgo X (zcal X zP (d + 4)) zc_Search_seek 36 [some (.inr (.inr (.inl 117))), some (.inr (.inr (.inl 2))), some (.inr (.inr (.inl 83))), some (.inl (dp : Int)), some (.inl st.2), some (.inl (a : Int)), some (.inl (b : Int))] [] (I, L) = some (none, (I', L)) ∧ zqI I' c n (zfor (zuq (zVs c k s (m + 1) st)) ((zPP c - zjj c a b) * zPP c ^ m) ((pre * zPP c + zjj c a b) * zPP c ^ m) q) ∧ zFr I I' sz dp dp := by
  have ham : a < 1000000 := by omega
  have hV : ∀ x, 0 ≤ zVs c k s (m + 1) st x := fun x => (zVs_ok hc hs (m + 1) (sz + dp) st x (by omega) hst).1
  intro mb
  induction mb with
  | zero =>
    intro b q I hb hab hI hC hq h0 hw
    have hbc : b = c := by omega
    subst hbc
    obtain ⟨I', a1, a2, a3⟩ := hN q (some (.inl (b : Int))) I hI hC hq h0 hw
    rw [← zjj_n hc.2 ha] at a2
    refine ⟨I', ?_, a2, a3⟩
    have hnn : ((b : Int) < (b : Int)) = False := eq_false (by omega)
    rw [zb_Search_seek_36]
    simp only [if_true, if_false, Option.bind_some, Option.bind, Option.toList, List.cons_append, List.nil_append, zite0, zite1, zite01, znn, ite_not, true_or, or_true, true_and, and_true, zn10, zn00, zk_2 hL, hI.1, hnn, zw32n ham, a1]
  | succ mb ih =>
    intro b q I hb hab hI hC hq h0 hw
    have hbm : b < 1000000 := by omega
    have hbc : ((b : Int) < (c : Int)) = True := eq_true (by omega)
    by_cases hq0 : 0 < q.1
    · obtain ⟨hp, hj⟩ := zjj_p (a := a) hc.2 hab (show b < c by omega)
      have hx : Unit → w32 (w32 (10 * (a : Int)) + (b : Int)) = zcd c (zjj c a b) := by
        intro _
        rw [show w32 (10 * (a : Int)) = 10 * (a : Int) from zw32 (by omega) (by omega), show w32 (10 * (a : Int) + (b : Int)) = 10 * (a : Int) + (b : Int) from zw32 (by omega) (by omega)]
        unfold zcd
        rw [hp]
      have g118 : ((L.2.1 118).1 = 2 ∧ 0 ≤ (dp : Int) ∧ (dp : Int) < ((L.2.1 118).2.1 : Int)) = True := by
        rw [zk_118 hL]
        exact eq_true ⟨rfl, by omega, show (dp : Int) < ((4 : Nat) : Int) by omega⟩
      have hset := fun σ h => zq_Pass_set (X := X) (d := d + 3) (σ := σ) (p := 120) (k := k) (a := (a : Int)) (b := (b : Int)) h
      generalize hI1 : zwI I 118 dp (zcd c (zjj c a b)) = I1 at *
      generalize hI2 : zwI (zwI (zwI I1 120 0 k) 120 1 (a : Int)) 120 2 (b : Int) = I2 at *
      have r0 : I2 120 0 = k := by rw [← hI2, zwI_nej (by omega), zwI_nej (by omega), zwI_eq]
      have r1 : I2 120 1 = (a : Int) := by rw [← hI2, zwI_nej (by omega), zwI_eq]
      have r2 : I2 120 2 = (b : Int) := by rw [← hI2, zwI_eq]
      have r3 : ∀ x, x ≠ 120 → I2 x = I1 x := fun x hx => by rw [← hI2, zwI_row hx, zwI_row hx, zwI_row hx]
      have r4 : ∀ x, x ≠ 118 → I1 x = I x := fun x hx => by rw [← hI1, zwI_row hx]
      have r5 : ∀ j, j ≠ dp → I1 118 j = I 118 j := fun j hj => by rw [← hI1, zwI_nej hj]
      have r6 : I1 118 dp = zcd c (zjj c a b) := by rw [← hI1, zwI_eq]
      have k0 : I1 117 0 = k := by rw [r4 117 (by omega)]; exact hI.2.2.1
      have f1 : zFr I I2 sz dp dp := ⟨fun x hx => by rw [r3 x (by omega), r4 x (by omega)], fun j hj => by rw [r3 117 (by omega), r4 117 (by omega)], fun j hj => by rw [r3 118 (by omega), r5 j (by omega)]⟩
      have hset1 : zcal X zP (d + 4) 6 [.inr (.inr (.inl 120)), .inl k, .inl (a : Int), .inl (b : Int)] (I1, L) = some (none, (I2, L)) := by
        rw [hset (I1, L) (zk_120 hL), zw_I, zw_I, zw_I, hI2]
      have hpb := zq_Pass_peaBehind (X := X) (d := d) (σ := (I2, L)) (p := 120) (v := st.2) (zk_120 hL) (by show I2 120 1 ≠ I2 120 2; rw [r1, r2]; omega)
      have hpb : zcal X zP (d + 4) 11 [.inr (.inr (.inl 120)), .inl st.2] (I2, L) = some (some (.inl (zpea k (a : Int) (b : Int) st.2)), (I2, L)) := by
        rw [hpb]
        show some (some (Sum.inl (zpea (I2 120 0) (I2 120 1) (I2 120 2) st.2)), (I2, L)) = _
        rw [r0, r1, r2]
      obtain ⟨I3, b1, b2, b3⟩ := h dp (pre * zPP c + zjj c a b) a b st q I2 (by omega) hab (by omega) (zSI_f f1 hI) (zCs_s hj hC f1.2.2 (by rw [r3 118 (by omega)]; exact r6)) ⟨(by rw [r3 117 (by omega), r4 117 (by omega)]; exact hq.1), fun hh => zCs_c (hq.2 hh) fun i _ => by rw [r3 119 (by omega), r4 119 (by omega)]⟩ h0 hst (fun p hp6 => by rw [f1.1 _ (by omega)]; exact hw p hp6) r0 r1 r2
      have f2 : zFr I I3 sz dp dp := zFr_t (Nat.le_refl _) (by omega) f1 b3
      have hV2 : ∀ x, 0 ≤ zVs c k s m (zstp c k s a b st) x := fun x => (zVs_ok hc hs m (sz + dp + 1) _ x (by omega) (zso_s hc hs (by omega) ⟨hab, by omega⟩ hst)).1
      obtain ⟨I4, c1, c2, c3⟩ := ih (b + 1) _ I3 (by omega) (by omega) (zSI_f f2 hI) (zCs_c hC f2.2.2) b2 (zuq_ge hV2 h0) (fun p hp6 => by rw [f2.1 _ (by omega)]; exact hw p hp6)
      have es : zstp c k s a b st = zsj c k s (zjj c a b) st := by
        show _ = zstp c k s (zpj c (zjj c a b)).1 (zpj c (zjj c a b)).2 st
        rw [hp]
      have eN : (zPP c - zjj c a b) * zPP c ^ m = zPP c ^ m + (zPP c - zjj c a (b + 1)) * zPP c ^ m := by
        rw [zjj_s hab, show zPP c - zjj c a b = (zPP c - (zjj c a b + 1)) + 1 by omega, Nat.add_mul, Nat.one_mul, Nat.add_comm]
      refine ⟨I4, ?_, ?_, zFr_t (Nat.le_refl _) (Nat.le_refl _) f2 c3⟩
      · rw [zb_Search_seek_36]
        simp only [if_true, if_false, Option.bind_some, Option.bind, Option.toList, List.cons_append, List.nil_append, zite0, zite1, zite01, znn, ite_not, true_or, or_true, true_and, and_true, zn10, zn00, zk_2 hL, zk_117 hL, zr_117_4 hL, zr_117_6 hL, zk_120 hL, hI.1, hbc, zcmp_gt, hq.1, eq_true hq0, g118, zw_I, Int.toNat_natCast, hx (), hI1, k0, hset1, zb_Search_seek_83, hpb, zb_Search_seek_96, b1, zb_Search_seek_99, zw32n hbm, c1]
      · rw [eN, zup_b hj, ← es, ← zjj_s hab]
        exact c2
    · refine ⟨I, ?_, ?_, zFr_r⟩
      · rw [zb_Search_seek_36]
        simp only [if_true, if_false, Option.bind_some, Option.bind, Option.toList, List.cons_append, List.nil_append, zite0, zite1, zite01, znn, ite_not, true_or, or_true, true_and, and_true, zn10, zn00, zk_2 hL, zk_117 hL, hI.1, hbc, zcmp_gt, hq.1, eq_false hq0, zw32n ham, zb_Search_seek_12]
        split <;> rfl
      · rw [zup_stop hV _ _ _ (by omega)]
        exact hq
theorem zh_a (hL : zLay L) (hc : 3 ≤ c ∧ c < 7) (hs : 0 ≤ s ∧ s ≤ 10) (hn : sz + n ≤ 14 ∧ n ≤ 4) (h : zCh (zcal X zP (d + 4)) L sz c n k s m) {dp pre : Nat} {st : (Nat → Int) × Int} (hd : dp + (m + 1) = n) (hst : zso c (sz + dp) st) : ∀ (ma a : Nat) (q : Int × Nat) (o : Option zV) (I : Nat → Nat → Int), a + ma = c → zSI I sz c n k s → zCs c (I 118) dp pre → zqI I c n q → 0 ≤ q.1 → (∀ p, p < 6 → I (85 + sz + dp) p = st.1 p) → ∃ I', zgo X (zcal X zP (d + 4)) zc_Search_seek 12 [some (.inr (.inr (.inl 117))), some (.inr (.inr (.inl 2))), some (.inr (.inr (.inl 83))), some (.inl (dp : Int)), some (.inl st.2), some (.inl (a : Int)), o] [] (I, L) = some (none, (I', L)) ∧ zqI I' c n (zfor (zuq (zVs c k s (m + 1) st)) ((zPP c - zjj c a (a + 1)) * zPP c ^ m) ((pre * zPP c + zjj c a (a + 1)) * zPP c ^ m) q) ∧ zFr I I' sz dp dp := by
  have hV : ∀ x, 0 ≤ zVs c k s (m + 1) st x := fun x => (zVs_ok hc hs (m + 1) (sz + dp) st x (by omega) hst).1
  intro ma
  induction ma with
  | zero =>
    intro a q o I ha hI hC hq h0 hw
    have hac : a = c := by omega
    subst hac
    refine ⟨I, ?_, ?_, zFr_r⟩
    · have hnn : ((a : Int) < (a : Int)) = False := eq_false (by omega)
      rw [zb_Search_seek_12]
      simp only [if_true, if_false, Option.bind_some, Option.bind, Option.toList, List.cons_append, List.nil_append, zite0, zite1, zite01, znn, ite_not, true_or, or_true, true_and, and_true, zn10, zn00, zk_2 hL, hI.1, hnn]
      try rfl
    · rw [zjj_e hc.2, Nat.sub_self, Nat.zero_mul]
      exact hq
  | succ ma ih =>
    intro a q o I ha hI hC hq h0 hw
    have ham : a < 1000000 := by omega
    have hac : ((a : Int) < (c : Int)) = True := eq_true (by omega)
    by_cases hq0 : 0 < q.1
    · obtain ⟨I', a1, a2, a3⟩ := zh_b (X := X) (d := d) hL hc hs hn h hd hst (a := a) (by omega) (fun q o I h1 h2 h3 h4 h5 => ih (a + 1) q o I (by omega) h1 h2 h3 h4 h5) (c - (a + 1)) (a + 1) q I (by omega) (by omega) hI hC hq h0 hw
      refine ⟨I', ?_, a2, a3⟩
      rw [zb_Search_seek_12]
      simp only [if_true, if_false, Option.bind_some, Option.bind, Option.toList, List.cons_append, List.nil_append, zite0, zite1, zite01, znn, ite_not, true_or, or_true, true_and, and_true, zn10, zn00, zk_2 hL, zk_117 hL, hI.1, hac, zcmp_gt, hq.1, eq_true hq0, zw32n ham, a1]
    · refine ⟨I, ?_, ?_, zFr_r⟩
      · rw [zb_Search_seek_12]
        simp only [if_true, if_false, Option.bind_some, Option.bind, Option.toList, List.cons_append, List.nil_append, zite0, zite1, zite01, znn, ite_not, true_or, or_true, true_and, and_true, zn10, zn00, zk_2 hL, zk_117 hL, hI.1, hac, zcmp_gt, hq.1, eq_false hq0]
        try rfl
      · rw [zup_stop hV _ _ _ (by omega)]
        exact hq
theorem zh_k (hL : zLay L) (hc : 3 ≤ c ∧ c < 7) (hs : 0 ≤ s ∧ s ≤ 10) (hn : sz + n ≤ 14 ∧ n ≤ 4) (h : zCh (zcal X zP (d + 4)) L sz c n k s m) : zSk (zcal X zP (d + 5)) L sz c n k s (m + 1) := by
  intro dp pre st q I hd hI hC hq h0 hst hw
  obtain ⟨I', a1, a2, a3⟩ := zh_a (X := X) (d := d) hL hc hs hn h hd hst c 0 q none I (by omega) hI hC hq h0 hw
  have a1 : zgo X (zcal X zP (d + 4)) zc_Search_seek 12 [some (.inr (.inr (.inl 117))), some (.inr (.inr (.inl 2))), some (.inr (.inr (.inl 83))), some (.inl (dp : Int)), some (.inl st.2), some (.inl 0), none] [] (I, L) = some (none, (I', L)) := a1
  refine ⟨I', ?_, ?_, a3⟩
  · have hdn : ((dp : Int) < (n : Int)) = True := eq_true (by omega)
    refine ((zcal_go zp_Search_seek rfl).trans zb_Search_seek_0).trans ?_
    simp only [if_true, if_false, Option.bind_some, Option.bind, Option.toList, List.cons_append, List.nil_append, zite0, zite1, zite01, znn, ite_not, true_or, or_true, true_and, and_true, zn10, zn00, zk_117 hL, hI.2.2.2.2, hdn, a1]
  · have a2 : zqI I' c n (zfor (zuq (zVs c k s (m + 1) st)) ((zPP c - zjj c 0 1) * zPP c ^ m) ((pre * zPP c + zjj c 0 1) * zPP c ^ m) q) := a2
    rw [zjj_0, Nat.sub_zero, show pre * zPP c + 0 = pre * zPP c from rfl, Nat.mul_assoc] at a2
    rw [Nat.pow_succ, Nat.mul_comm (zPP c ^ m) (zPP c)]
    exact a2
theorem zh_all (hL : zLay L) (hc : 3 ≤ c ∧ c < 7) (hs : 0 ≤ s ∧ s ≤ 10) (h1 : 1 ≤ n) (hn : sz + n ≤ 14 ∧ n ≤ 4) : zSk (zcal X zP (d + 11)) L sz c n k s n := by
  have c0 := fun e => zh_0 (X := X) (d := e) (L := L) (sz := sz) (c := c) (n := n) (k := k) (s := s) hL hc hs hn
  have cs := fun e m h => zh_s (X := X) (d := e) (L := L) (sz := sz) (c := c) (n := n) (k := k) (s := s) (m := m) hL hc hs hn h
  have ks := fun e m h => zh_k (X := X) (d := e) (L := L) (sz := sz) (c := c) (n := n) (k := k) (s := s) (m := m) hL hc hs hn h
  rcases (show n = 1 ∨ n = 2 ∨ n = 3 ∨ n = 4 by omega) with e | e | e | e
  · have r := ks (d + 6) 0 (c0 (d + 6))
    have r : zSk (zcal X zP (d + 11)) L sz c n k s 1 := r
    rw [← e] at r; exact r
  · have r := ks (d + 6) 1 (cs (d + 5) 0 (ks (d + 4) 0 (c0 (d + 4))))
    have r : zSk (zcal X zP (d + 11)) L sz c n k s 2 := r
    rw [← e] at r; exact r
  · have r := ks (d + 6) 2 (cs (d + 5) 1 (ks (d + 4) 1 (cs (d + 3) 0 (ks (d + 2) 0 (c0 (d + 2))))))
    have r : zSk (zcal X zP (d + 11)) L sz c n k s 3 := r
    rw [← e] at r; exact r
  · have r := ks (d + 6) 3 (cs (d + 5) 2 (ks (d + 4) 2 (cs (d + 3) 1 (ks (d + 2) 1 (cs (d + 1) 0 (ks d 0 (c0 d)))))))
    have r : zSk (zcal X zP (d + 11)) L sz c n k s 4 := r
    rw [← e] at r; exact r
end
