theorem lwt_1 {w : Cond} (j : Nat) (h : tables_1_1[j]? = some w) : w ∈ lw_tbl := by unfold lw_tbl tables_1; simp only [List.mem_append]; have := List.mem_of_getElem? h; simp only [this, true_or, or_true]
theorem lwt_2 {w : Cond} (j : Nat) (h : tables_1_2[j]? = some w) : w ∈ lw_tbl := by unfold lw_tbl tables_1; simp only [List.mem_append]; have := List.mem_of_getElem? h; simp only [this, true_or, or_true]
theorem lwt_3 {w : Cond} (j : Nat) (h : tables_1_3[j]? = some w) : w ∈ lw_tbl := by unfold lw_tbl tables_1; simp only [List.mem_append]; have := List.mem_of_getElem? h; simp only [this, true_or, or_true]
theorem lwt_4 {w : Cond} (j : Nat) (h : tables_1_4[j]? = some w) : w ∈ lw_tbl := by unfold lw_tbl tables_1; simp only [List.mem_append]; have := List.mem_of_getElem? h; simp only [this, true_or, or_true]
theorem lwt_5 {w : Cond} (j : Nat) (h : tables_1_5[j]? = some w) : w ∈ lw_tbl := by unfold lw_tbl tables_1; simp only [List.mem_append]; have := List.mem_of_getElem? h; simp only [this, true_or, or_true]
theorem lwt_6 {w : Cond} (j : Nat) (h : tables_1_6[j]? = some w) : w ∈ lw_tbl := by unfold lw_tbl tables_1; simp only [List.mem_append]; have := List.mem_of_getElem? h; simp only [this, true_or, or_true]
theorem lwt_7 {w : Cond} (j : Nat) (h : tables_1_7[j]? = some w) : w ∈ lw_tbl := by unfold lw_tbl tables_1; simp only [List.mem_append]; have := List.mem_of_getElem? h; simp only [this, true_or, or_true]
def xS0 : xS2 := (q402.2.1, q402.2.2.1)
theorem xS0_1 : q402.1 = xNT := by decide +kernel
theorem xS0_ref : ∀ o, o < 74 → (xSH o).1 < 10 → ∀ k, k < (xSH o).2 → xft (xSH o).1 k = 2 → q402.2.2.2 o k = xRC o k := by decide +kernel
theorem xS0_shv : ∀ j, j < 6 → q402.2.2.2 27 j = xRC 27 j := by decide +kernel
theorem xS0_only : ∀ o, o < 74 → (xSH o).1 = 15 → o = 27 ∧ (xSH o).2 = 6 := by decide +kernel
theorem xS0_fv {G : xG} {o k : Nat} (ho : o < 74) (hc : (xSH o).1 < 10) (hk : k < (xSH o).2) : xfv G (xM xS0) (xSH o).1 o k = xfv G q402 (xSH o).1 o k := by
  unfold xfv
  by_cases h1 : xft (xSH o).1 k = 1
  · rw [if_pos h1, if_pos h1]; rfl
  · rw [if_neg h1, if_neg h1]
    by_cases h2 : xft (xSH o).1 k = 2
    · rw [if_pos h2, if_pos h2, xS0_ref o ho hc k hk h2]; rfl
    · rw [if_neg h2, if_neg h2]; rfl
theorem xarrV_ext {c : ClassId} {n : Nat} {f g : Nat → Value} (h : ∀ j, j < n → f j = g j) : arrV c n f = arrV c n g := by
  unfold arrV
  have e : (fun j : Fin n => f j.val) = fun j => g j.val := funext fun j => h j.val j.isLt
  rw [e]
theorem xS0_at {G : xG} {o : Nat} {H : Heap} (ho : o < 74) (h : va_at G.1 vwCl (xad G o, xent G q402 o) H) : va_at G.1 vwCl (xad G o, xent G (xM xS0) o) H := by
  by_cases hc : (xSH o).1 < 10
  · have e : xent G (xM xS0) o = xent G q402 o := by
      unfold xent
      rw [if_pos hc, if_pos hc]
      have e2 : (List.range (xSH o).2).map (xfv G (xM xS0) (xSH o).1 o) = (List.range (xSH o).2).map (xfv G q402 (xSH o).1 o) :=
        List.map_congr_left fun k hk => xS0_fv ho hc (List.mem_range.mp hk)
      rw [e2]
    rw [e]
    exact h
  · by_cases h5 : (xSH o).1 = 15
    · obtain ⟨rfl, h6⟩ := xS0_only o ho h5
      have hs : xSH 27 = (15, 6) := by decide
      rw [xent_arrR hs] at h ⊢
      have h' : H[xad G 27]? = some (vp_cell (G.2.1 5) (6, .inr (.inr (.inr (.inr (fun j => (q402.2.2.2 27 j).map (xad G))))))) := h
      show H[xad G 27]? = some (vp_cell (G.2.1 5) (6, .inr (.inr (.inr (.inr (fun j => (xRC 27 j).map (xad G)))))))
      rw [h', vp_cell_q, vp_cell_q]
      exact congrArg some (xarrV_ext fun j hj => by rw [xS0_shv j hj])
    · have e : xent G (xM xS0) o = xent G q402 o := by
        unfold xent
        rw [if_neg hc, if_neg hc, if_neg h5, if_neg h5]
        rfl
      rw [e]
      exact h
theorem xS0_V {G : xG} {l : Launch} {M : xMI} {K : xK} {pc : Nat} {lv : List (Nat × Value)} {st : List Value} (k : xV G l M K pc lv st (xM xS0)) : xV G l M K pc lv st q402 := by
  intro H locs ls cells slots hi hl
  obtain ⟨h1, h2, h3, h4, h5, ⟨hP, hz⟩, hS⟩ := hi
  have e : q402.1 = (xM xS0).1 := xS0_1
  refine k H locs ls cells slots ⟨by rw [← e]; exact h1, by rw [← e]; exact h2, by rw [← e]; exact h3, by rw [← e]; exact h4, by rw [← e]; exact h5, ⟨?_, fun z => absurd z (by decide)⟩, hS⟩ hl
  intro i q hq
  have hi : i < 74 := by
    have := (List.getElem?_eq_some_iff.mp hq).1
    simpa [xws, xM, xNT] using this
  have hq2 : (xws G (xM xS0))[i]? = some (xad G i, xent G (xM xS0) i) := xws_get hi
  rw [hq2] at hq
  cases hq
  exact xS0_at hi (hP i _ (xws_get (by rw [xS0_1]; exact hi)))
set_option maxRecDepth 100000 in
set_option maxHeartbeats 4000000 in
theorem whole_of {Inv : xS2 → Prop} (h0 : Inv xS0) (h_mend : xStep_mend Inv) (h_of : xStep_of Inv) (h_heights : xStep_heights Inv) (h_feed : xStep_feed Inv) (h_law : xStep_law Inv) (h_cost : xStep_cost Inv) (h_order : xStep_order Inv) (h_day : xStep_day Inv) (h_days : xStep_days Inv) (h_led : xStep_led Inv) (h_run : xStep_run Inv) (h_first : xStep_first Inv) (h_lawful : xStep_lawful Inv) (h_cheapest : xStep_cheapest Inv) (h_soonest : xStep_soonest Inv) (h_round : xStep_round Inv) (h_lasts : xStep_lasts Inv) (h_clean : xStep_clean Inv) (h_line : xStep_line Inv) (h_drawn : xStep_drawn Inv) (h_judge : xStep_judge Inv) (h_image : xStep_image Inv) (h_back : xStep_back Inv) (h_undo : xStep_undo Inv) (h_redo : xStep_redo Inv) (h_body : xStep_body Inv) (h_act : xStep_act Inv) (h_trace : xStep_trace Inv) (h_keep : xStep_keep Inv) (h_row : xStep_row Inv) (h_put : xStep_put Inv) (h_element : xStep_element Inv) (h_shift : xStep_shift Inv) (h_taken : xStep_taken Inv) (h_count : xStep_count Inv)
    {p : Program} {e : Env} {s : State} {m : MethodId} {below : List Frame} {meth : Method} {c : Code} (l : Launch) {b L : Nat} {xs : Nat → Int32} (hL : L ≤ 3072) (hx : p.tables.exec = Jvm.exec) (hb : c.code = code) (hr : meth.sig.returnType = ret) (hml : c.maxLocals = 4) (hown : s.vm.findClass "DustCartLaw" = some m.cls) (hts : ∀ w ∈ lw_tbl, w.before #[Value.ref b] s = true) (hX : va_X b L xs s s.heap) (hbl : b < s.heap.size) (hlocks : meth.locks = false) (hgv : (Jvm.Cond.and given_1 narrow_1).before #[Value.ref b] s = true)
    (Z : State → Prop) (hZ : ∀ (H : Heap) (pc : Nat) (ls : Array Slot), decode code pc = .ok (.ireturn, 1) → W p l e room_1 s m #[Value.ref b] below meth c H [] 600000 7302250 Z (F0 m pc ls [.int 1])) :
    W p l e room_1 s m #[Value.ref b] below meth c s.heap [] 0 0 Z (entryFrame m ([Value.ref b] : List Value).toArray 4) := by
  obtain ⟨c0, iS0, hKn0⟩ := u_known (C := RX0) (T := TX0) (N := 4) (n := 4) hts (fun w h => xTbl_in (inlX0 w h)) (hts _ (lwt_1 35 (by decide +kernel)))
  obtain ⟨c1, iS1, hKn1⟩ := u_known (C := RX1) (T := TX1) (N := 5) (n := 5) hts (fun w h => xTbl_in (inlX1 w h)) (hts _ (lwt_1 163 (by decide +kernel)))
  obtain ⟨c2, iS2, hKn2⟩ := u_known (C := RX2) (T := TX2) (N := 10) (n := 10) hts (fun w h => xTbl_in (inlX2 w h)) (hts _ (lwt_1 65 (by decide +kernel)))
  obtain ⟨c3, iS3, hKn3⟩ := u_known (C := RX3) (T := TX3) (N := 1) (n := 1) hts (fun w h => xTbl_in (inlX3 w h)) (hts _ (lwt_1 24 (by decide +kernel)))
  obtain ⟨c4, iS4, hKn4⟩ := u_known (C := RX4) (T := TX4) (N := 5) (n := 5) hts (fun w h => xTbl_in (inlX4 w h)) (hts _ (lwt_1 137 (by decide +kernel)))
  obtain ⟨c5, iS5, hKn5⟩ := u_known (C := RX5) (T := TX5) (N := 5) (n := 5) hts (fun w h => xTbl_in (inlX5 w h)) (hts _ (lwt_1 188 (by decide +kernel)))
  obtain ⟨c6, iS6, hKn6⟩ := u_known (C := RX6) (T := TX6) (N := 8) (n := 8) hts (fun w h => xTbl_in (inlX6 w h)) (hts _ (lwt_1 104 (by decide +kernel)))
  obtain ⟨c7, iS7, hKn7⟩ := u_known (C := RX7) (T := TX7) (N := 5) (n := 5) hts (fun w h => xTbl_in (inlX7 w h)) (hts _ (lwt_1 215 (by decide +kernel)))
  obtain ⟨c8, iS8, hKn8⟩ := u_known (C := RX8) (T := TX8) (N := 14) (n := 14) hts (fun w h => xTbl_in (inlX8 w h)) (hts _ (lwt_1 16 (by decide +kernel)))
  obtain ⟨c9, iS9, hKn9⟩ := u_known (C := RX9) (T := TX9) (N := 60) (n := 60) hts (fun w h => xTbl_in (inlX9 w h)) (hts _ (lwt_4 153 (by decide +kernel)))
  obtain ⟨a0, kA0, cp0, f0, g0, i0⟩ := Cond.arrayClass_spec (hts (.arrayClass .int) (lwt_1 33 (by decide +kernel)))
  obtain ⟨a1, kA1, cp1, f1, g1, i1⟩ := Cond.arrayClass_spec (hts (.arrayClass .byte) (lwt_5 98 (by decide +kernel)))
  obtain ⟨a2, kA2, cp2, f2, g2, i2⟩ := Cond.arrayClass_spec (hts (.arrayClass .short) (lwt_5 99 (by decide +kernel)))
  obtain ⟨a3, kA3, cp3, f3, g3, i3⟩ := Cond.arrayClass_spec (hts (.arrayClass .long) (lwt_1 213 (by decide +kernel)))
  obtain ⟨a4, kA4, cp4, f4, g4, i4⟩ := Cond.arrayClass_spec (hts (.arrayClass .boolean) (lwt_1 102 (by decide +kernel)))
  have hao := hts (.arrayOver (.object "DustCart$Shelf")) (lwt_1 187 (by decide +kernel))
  obtain ⟨cp5, a5, kA5, f5, -, g5, i5, j5⟩ := Cond.arrayOver_spec hao
  have hfl := flat_of_before _ hgv
  have hA : ∀ a : Nat, a < s.heap.size → ¬ (s.heap.size ≤ a) := fun a h => Nat.not_le.mpr h
  obtain ⟨t0, ht0, hT0⟩ := va_Tof (args := #[Value.ref b]) (s := s) (tm := (.static "DustCart$Plain" "MANY" "[I")) (ty := .int) (N := 6) (f := fun i => .int (([36, 36, 60, 60, 1, 1] : List Int32).getD i 0)) (A := fun q => s.heap.size ≤ q) (by decide) (hfl _ (by decide +kernel)) (va_eqt (hfl (.eq (.length (.static "DustCart$Plain" "MANY" "[I")) (.int (Int32.ofNat 6))) (by decide +kernel))) (fun j hj => va_eqt (hfl _ ((by decide +kernel : ∀ j, j < 6 → Cond.eq (.elem (.static "DustCart$Plain" "MANY" "[I") (.int (Int32.ofNat j))) (.int (([36, 36, 60, 60, 1, 1] : List Int32).getD j 0)) ∈ flatC (Jvm.Cond.and given_1 narrow_1)) j hj))) hA
  have hZ0 : va_Z "DustCart$Plain" "MANY" "[I" (.ref t0) (fun q => s.heap.size ≤ q) s s.heap := va_Zref (hts (.laysStatic "DustCart$Plain" "MANY" "[I") (lwt_2 49 (by decide +kernel))) (hts (.initialized "DustCart$Plain") (lwt_1 2 (by decide +kernel))) ht0 hA
  obtain ⟨t1, ht1, hT1⟩ := va_Tof (args := #[Value.ref b]) (s := s) (tm := (.static "DustCart$Plain" "BEGIN" "[I")) (ty := .int) (N := 6) (f := fun i => .int (([0, 36, 72, 132, 192, 193] : List Int32).getD i 0)) (A := fun q => s.heap.size ≤ q) (by decide) (hfl _ (by decide +kernel)) (va_eqt (hfl (.eq (.length (.static "DustCart$Plain" "BEGIN" "[I")) (.int (Int32.ofNat 6))) (by decide +kernel))) (fun j hj => va_eqt (hfl _ ((by decide +kernel : ∀ j, j < 6 → Cond.eq (.elem (.static "DustCart$Plain" "BEGIN" "[I") (.int (Int32.ofNat j))) (.int (([0, 36, 72, 132, 192, 193] : List Int32).getD j 0)) ∈ flatC (Jvm.Cond.and given_1 narrow_1)) j hj))) hA
  have hZ1 : va_Z "DustCart$Plain" "BEGIN" "[I" (.ref t1) (fun q => s.heap.size ≤ q) s s.heap := va_Zref (hts (.laysStatic "DustCart$Plain" "BEGIN" "[I") (lwt_2 51 (by decide +kernel))) (hts (.initialized "DustCart$Plain") (lwt_1 2 (by decide +kernel))) ht1 hA
  obtain ⟨t2, ht2, hT2⟩ := va_Tof (args := #[Value.ref b]) (s := s) (tm := (.static "DustCart$Plain" "LEAST" "[I")) (ty := .int) (N := 6) (f := fun i => .int (([0, 0, 0, 0, 1, 0] : List Int32).getD i 0)) (A := fun q => s.heap.size ≤ q) (by decide) (hfl _ (by decide +kernel)) (va_eqt (hfl (.eq (.length (.static "DustCart$Plain" "LEAST" "[I")) (.int (Int32.ofNat 6))) (by decide +kernel))) (fun j hj => va_eqt (hfl _ ((by decide +kernel : ∀ j, j < 6 → Cond.eq (.elem (.static "DustCart$Plain" "LEAST" "[I") (.int (Int32.ofNat j))) (.int (([0, 0, 0, 0, 1, 0] : List Int32).getD j 0)) ∈ flatC (Jvm.Cond.and given_1 narrow_1)) j hj))) hA
  have hZ2 : va_Z "DustCart$Plain" "LEAST" "[I" (.ref t2) (fun q => s.heap.size ≤ q) s s.heap := va_Zref (hts (.laysStatic "DustCart$Plain" "LEAST" "[I") (lwt_2 56 (by decide +kernel))) (hts (.initialized "DustCart$Plain") (lwt_1 2 (by decide +kernel))) ht2 hA
  obtain ⟨t3, ht3, hT3⟩ := va_Tof (args := #[Value.ref b]) (s := s) (tm := (.static "DustCart$Plain" "MOST" "[I")) (ty := .int) (N := 6) (f := fun i => .int (([9, 1, 20, 9, 6, 12] : List Int32).getD i 0)) (A := fun q => s.heap.size ≤ q) (by decide) (hfl _ (by decide +kernel)) (va_eqt (hfl (.eq (.length (.static "DustCart$Plain" "MOST" "[I")) (.int (Int32.ofNat 6))) (by decide +kernel))) (fun j hj => va_eqt (hfl _ ((by decide +kernel : ∀ j, j < 6 → Cond.eq (.elem (.static "DustCart$Plain" "MOST" "[I") (.int (Int32.ofNat j))) (.int (([9, 1, 20, 9, 6, 12] : List Int32).getD j 0)) ∈ flatC (Jvm.Cond.and given_1 narrow_1)) j hj))) hA
  have hZ3 : va_Z "DustCart$Plain" "MOST" "[I" (.ref t3) (fun q => s.heap.size ≤ q) s s.heap := va_Zref (hts (.laysStatic "DustCart$Plain" "MOST" "[I") (lwt_2 58 (by decide +kernel))) (hts (.initialized "DustCart$Plain") (lwt_1 2 (by decide +kernel))) ht3 hA
  obtain ⟨t4, ht4, hT4⟩ := va_Tof (args := #[Value.ref b]) (s := s) (tm := (.static "DustCart$Wheels" "BODIES" "[I")) (ty := .int) (N := 32) (f := fun i => .int (([1, 20, 0, 0, 0, 0, 70, 81, 10, 0, 30, 41, 0, 0, 0, 80, 11, 0, 0, 40, 0, 60, 0, 0, 2, 0, 0, 0, 50, 61, 0, 0] : List Int32).getD i 0)) (A := fun q => s.heap.size ≤ q) (by decide) (hfl _ (by decide +kernel)) (va_eqt (hfl (.eq (.length (.static "DustCart$Wheels" "BODIES" "[I")) (.int (Int32.ofNat 32))) (by decide +kernel))) (fun j hj => va_eqt (hfl _ ((by decide +kernel : ∀ j, j < 32 → Cond.eq (.elem (.static "DustCart$Wheels" "BODIES" "[I") (.int (Int32.ofNat j))) (.int (([1, 20, 0, 0, 0, 0, 70, 81, 10, 0, 30, 41, 0, 0, 0, 80, 11, 0, 0, 40, 0, 60, 0, 0, 2, 0, 0, 0, 50, 61, 0, 0] : List Int32).getD j 0)) ∈ flatC (Jvm.Cond.and given_1 narrow_1)) j hj))) hA
  have hZ4 : va_Z "DustCart$Wheels" "BODIES" "[I" (.ref t4) (fun q => s.heap.size ≤ q) s s.heap := va_Zref (hts (.laysStatic "DustCart$Wheels" "BODIES" "[I") (lwt_4 52 (by decide +kernel))) (hts (.initialized "DustCart$Wheels") (lwt_1 9 (by decide +kernel))) ht4 hA
  obtain ⟨t5, ht5, hT5⟩ := va_Tof (args := #[Value.ref b]) (s := s) (tm := (.static "DustCart$Wheels" "ABOVE" "[I")) (ty := .int) (N := 8) (f := fun i => .int (([-1, 0, 0, 2, 1, 3, 0, 6] : List Int32).getD i 0)) (A := fun q => s.heap.size ≤ q) (by decide) (hfl _ (by decide +kernel)) (va_eqt (hfl (.eq (.length (.static "DustCart$Wheels" "ABOVE" "[I")) (.int (Int32.ofNat 8))) (by decide +kernel))) (fun j hj => va_eqt (hfl _ ((by decide +kernel : ∀ j, j < 8 → Cond.eq (.elem (.static "DustCart$Wheels" "ABOVE" "[I") (.int (Int32.ofNat j))) (.int (([-1, 0, 0, 2, 1, 3, 0, 6] : List Int32).getD j 0)) ∈ flatC (Jvm.Cond.and given_1 narrow_1)) j hj))) hA
  have hZ5 : va_Z "DustCart$Wheels" "ABOVE" "[I" (.ref t5) (fun q => s.heap.size ≤ q) s s.heap := va_Zref (hts (.laysStatic "DustCart$Wheels" "ABOVE" "[I") (lwt_4 54 (by decide +kernel))) (hts (.initialized "DustCart$Wheels") (lwt_1 9 (by decide +kernel))) ht5 hA
  obtain ⟨G, hG⟩ : ∃ G : xG, G = ((fun k => if k = 0 then c0 else if k = 1 then c1 else if k = 2 then c2 else if k = 3 then c3 else if k = 4 then c4 else if k = 5 then c5 else if k = 6 then c6 else if k = 7 then c7 else if k = 8 then c8 else c9, fun k => if k = 0 then iS0 else if k = 1 then iS1 else if k = 2 then iS2 else if k = 3 then iS3 else if k = 4 then iS4 else if k = 5 then iS5 else if k = 6 then iS6 else if k = 7 then iS7 else if k = 8 then iS8 else iS9), fun k => if k = 0 then a0 else if k = 1 then a1 else if k = 2 then a2 else if k = 3 then a3 else if k = 4 then a4 else a5, s.heap.size, fun k => if k = 0 then t0 else if k = 1 then t1 else if k = 2 then t2 else if k = 3 then t3 else if k = 4 then t4 else t5) := ⟨_, rfl⟩
  have hK : va_K G.1 vwCl (xTy G) s := by
    subst hG
    refine ⟨?_, ?_⟩
    · intro k q hq
      match k, hq with
      | 0, hq => cases hq; exact hKn0
      | 1, hq => cases hq; exact hKn1
      | 2, hq => cases hq; exact hKn2
      | 3, hq => cases hq; exact hKn3
      | 4, hq => cases hq; exact hKn4
      | 5, hq => cases hq; exact hKn5
      | 6, hq => cases hq; exact hKn6
      | 7, hq => cases hq; exact hKn7
      | 8, hq => cases hq; exact hKn8
      | 9, hq => cases hq; exact hKn9
      | n + 10, hq => simp [vwCl] at hq
    · intro k q hq
      match k, hq with
      | 0, hq => cases hq; exact ⟨fun n z => ⟨fun k h => (by cases h), kA0, g0, cp0, i0⟩, f0⟩
      | 1, hq => cases hq; exact ⟨fun n z => ⟨fun k h => (by cases h), kA1, g1, cp1, i1⟩, f1⟩
      | 2, hq => cases hq; exact ⟨fun n z => ⟨fun k h => (by cases h), kA2, g2, cp2, i2⟩, f2⟩
      | 3, hq => cases hq; exact ⟨fun n z => ⟨fun k h => (by cases h), kA3, g3, cp3, i3⟩, f3⟩
      | 4, hq => cases hq; exact ⟨fun n z => ⟨fun k h => (by cases h), kA4, g4, cp4, i4⟩, f4⟩
      | 5, hq => cases hq; exact ⟨fun n z => ⟨fun k h => (by cases h), kA5, g5, cp5, i5⟩, kA5, cp5, g5, i5, f5, j5⟩
      | n + 6, hq => simp [xTy] at hq
  have hF : xSF G s s.heap := by
    subst hG
    refine ⟨?_, va_AO.of hao, ?_⟩
    · intro j q hq
      match j, hq with
      | 0, hq => cases hq; exact ⟨hZ0, hT0⟩
      | 1, hq => cases hq; exact ⟨hZ1, hT1⟩
      | 2, hq => cases hq; exact ⟨hZ2, hT2⟩
      | 3, hq => cases hq; exact ⟨hZ3, hT3⟩
      | 4, hq => cases hq; exact ⟨hZ4, hT4⟩
      | 5, hq => cases hq; exact ⟨hZ5, hT5⟩
      | n + 6, hq => simp [xST] at hq
    · intro q hq
      simp only [xNL, List.mem_cons, List.not_mem_nil, or_false] at hq
      rcases hq with rfl | rfl | rfl | rfl | rfl | rfl
      · exact va_Nw.of rfl (hts _ (lwt_1 66 (by decide +kernel)))
      · exact va_Nw.of rfl (hts _ (lwt_1 105 (by decide +kernel)))
      · exact va_Nw.of rfl (hts _ (lwt_1 138 (by decide +kernel)))
      · exact va_Nw.of rfl (hts _ (lwt_1 164 (by decide +kernel)))
      · exact va_Nw.of rfl (hts _ (lwt_1 189 (by decide +kernel)))
      · exact va_Nw.of rfl (hts _ (lwt_1 216 (by decide +kernel)))
  have hbase : G.2.2.1 = s.heap.size := by rw [hG]
  have hC : xCX G mM_L_law (p, e, s, m, #[Value.ref b], below, meth, c, room_1, 0, Z) := ⟨hx, hb, hml, hown, fun w hw => hts w (xTbl_in hw), hlocks, hr, hK, hF, fun h => absurd h (by decide)⟩
  have hl := lv_entry ([.ref b]) (n := 4) (Nat.le_of_ble_eq_true rfl)
  rw [lg_entry_eq]
  generalize (lg_sl ([.ref b]) ++ List.replicate (4 - (lg_sl ([.ref b])).length) Slot.unset).toArray = ls at hl ⊢
  refine (xlaw_begin (G := G) (l := l) hC ⟨Nat.le_of_ble_eq_true rfl, Nat.le_of_ble_eq_true rfl⟩ rfl rfl rfl (xS0_V ?_)) s.heap [] ls 0 0 ⟨Nat.le_refl _, rfl, rfl, Nat.zero_le _, Nat.zero_le _, ⟨?_, ?_⟩, va_S.rf⟩ hl
  · refine xlaw_loop (Inv := Inv) hC ⟨Nat.le_of_ble_eq_true rfl, Nat.le_of_ble_eq_true rfl⟩ hX hbl (by show ¬ G.2.2.1 ≤ b; rw [hbase]; exact Nat.not_le.mpr hbl) hL h_mend h_of h_heights h_feed h_law h_cost h_order h_day h_days h_led h_run h_first h_lawful h_cheapest h_soonest h_round h_lasts h_clean h_line h_drawn h_judge h_image h_back h_undo h_redo h_body h_act h_trace h_keep h_row h_put h_element h_shift h_taken h_count ?_ (L + 1) 0 0 nI_0.symm (Nat.zero_le _) (by omega) xS0 h0
    intro σ lv H locs ls cells slots hi hl
    obtain ⟨h1, h2, h3, h4, h5, hWF, hS⟩ := hi
    refine va_forget (fun q hq => by have := hS.2.2 q hq; rw [← hbase]; exact this) ?_
    have e2 : cells + 0 = (xM σ).1 := h2
    have e4 : (xM σ).1 ≤ 0 + 600000 := h4
    have e3 : slots + xSz 0 = xSz (xM σ).1 := h3
    have e5 : xSz (xM σ).1 ≤ xSz 0 + 7302250 := h5
    refine W.widen (k := 600000) (n := 7302250) (by omega) (by omega) ?_
    exact hZ H 1273 ls dL_law_1273
  · intro k q h
    have : (xws G q0)[k]? = none := by simp [xws, q0]
    rw [this] at h
    cases h
  · intro _
    exact hbase.symm
