def xSHL : List (Nat × Nat) := [(8, 14), (3, 1), (10, 194), (0, 4), (0, 4), (0, 4), (10, 60), (14, 60), (2, 10), (10, 120), (10, 121), (10, 121), (10, 121), (6, 8), (10, 36), (10, 5), (10, 5), (10, 25), (10, 160), (4, 5), (10, 360), (10, 360), (0, 4), (1, 5), (10, 40), (10, 40), (10, 40), (15, 6), (5, 5), (13, 60), (5, 5), (13, 60), (5, 5), (13, 60), (5, 5), (13, 60), (5, 5), (13, 60), (5, 5), (13, 60), (7, 5), (10, 50), (10, 24), (9, 60), (10, 36), (10, 36), (10, 60), (10, 60), (10, 60), (10, 60), (10, 40), (10, 40), (10, 40), (10, 40), (11, 120), (11, 260), (10, 260), (10, 2), (12, 122), (12, 122), (10, 7), (10, 130), (10, 36), (10, 360), (10, 360), (10, 5), (10, 30), (10, 5), (10, 50), (10, 24), (10, 6), (10, 6), (13, 360), (13, 60)]
def xFT : List (List Nat) := [[0, 0, 0, 1], [2, 2, 2, 0, 0], [2, 2, 2, 2, 0, 0, 0, 0, 0, 0], [2], [2, 2, 2, 0, 0], [2, 0, 0, 0, 0], [2, 2, 2, 2, 2, 0, 0, 0], [2, 2, 0, 0, 0], [2, 2, 2, 2, 2, 2, 2, 2, 2, 2, 2, 2, 0, 0], [0, 2, 2, 2, 2, 0, 0, 0, 0, 0, 0, 1, 2, 2, 0, 0, 2, 2, 2, 2, 2, 0, 0, 0, 0, 0, 2, 2, 2, 2, 2, 2, 2, 3, 0, 0, 0, 1, 2, 2, 2, 2, 2, 2, 0, 0, 3, 0, 0, 0, 0, 1, 0, 2, 0, 2, 2, 2, 2, 2]]
def xST : List (String × String × List Int32) := [("DustCart$Plain", "MANY", [36, 36, 60, 60, 1, 1]), ("DustCart$Plain", "BEGIN", [0, 36, 72, 132, 192, 193]), ("DustCart$Plain", "LEAST", [0, 0, 0, 0, 1, 0]), ("DustCart$Plain", "MOST", [9, 1, 20, 9, 6, 12]), ("DustCart$Wheels", "BODIES", [1, 20, 0, 0, 0, 0, 70, 81, 10, 0, 30, 41, 0, 0, 0, 80, 11, 0, 0, 40, 0, 60, 0, 0, 2, 0, 0, 0, 50, 61, 0, 0]), ("DustCart$Wheels", "ABOVE", [-1, 0, 0, 2, 1, 3, 0, 6])]
def xNT : Nat := 74
def xNL : List (Nat × MethodName) := [(39, yX2_init), (46, yX6_init), (53, yX4_init), (60, yX1_init), (71, yX5_init), (74, yX7_init)]
theorem inlX0 : ∀ w ∈ wsX00, w ∈ xTbl := xms _ [149, 151, 153, 155] (by decide +kernel) (by decide +kernel)
theorem inlX1 : ∀ w ∈ wsX10, w ∈ xTbl := xms _ [269, 271, 273, 275, 277] (by decide +kernel) (by decide +kernel)
theorem inlX2 : ∀ w ∈ wsX20, w ∈ xTbl := xms _ [175, 177, 179, 181, 183, 185, 187, 189, 191, 193] (by decide +kernel) (by decide +kernel)
theorem inlX3 : ∀ w ∈ wsX30, w ∈ xTbl := xms _ [124] (by decide +kernel) (by decide +kernel)
theorem inlX4 : ∀ w ∈ wsX40, w ∈ xTbl := xms _ [245, 247, 249, 251, 253] (by decide +kernel) (by decide +kernel)
theorem inlX5 : ∀ w ∈ wsX50, w ∈ xTbl := xms _ [296, 298, 300, 302, 304] (by decide +kernel) (by decide +kernel)
theorem inlX6 : ∀ w ∈ wsX60, w ∈ xTbl := xms _ [213, 215, 217, 219, 221, 223, 225, 227] (by decide +kernel) (by decide +kernel)
theorem inlX7 : ∀ w ∈ wsX70, w ∈ xTbl := xms _ [321, 323, 325, 327, 329] (by decide +kernel) (by decide +kernel)
theorem inlX8 : ∀ w ∈ wsX80, w ∈ xTbl := xms _ [346, 348, 350, 352, 354, 356, 358, 360, 362, 364, 366, 368, 370, 372] (by decide +kernel) (by decide +kernel)
theorem inlX9 : ∀ w ∈ wsX90, w ∈ xTbl := xms _ [1031, 1033, 1035, 1037, 1039, 1041, 1043, 1045, 1047, 1049, 1051, 1053, 1055, 1057, 1059, 1061, 1063, 1065, 1067, 1069, 1071, 1073, 1075, 1077, 1079, 1081, 1083, 1085, 1087, 1089, 1091, 1093, 1095, 1097, 1099, 1101, 1103, 1105, 1107, 1109, 1111, 1113, 1115, 1117, 1119, 1121, 1123, 1125, 1127, 1129, 1131, 1133, 1135, 1137, 1139, 1141, 1143, 1145, 1147, 1149] (by decide +kernel) (by decide +kernel)
theorem xw_native : Cond.native arraycopyName ∈ xTbl := xmt_2 77 (by decide +kernel) (by decide +kernel)
theorem xw_static : Cond.static arraycopyName ∈ xTbl := xmt_2 76 (by decide +kernel) (by decide +kernel)
theorem xw_system : Cond.initialized "java/lang/System" ∈ xTbl := xmt_1 11 (by decide +kernel) (by decide +kernel)
/-! The system in small: every object has a number, every int, long and reference a place (object, place); all rows below speak of these. -/
abbrev xMI : Type := MethodName × ByteArray × Nat × Option FieldType × String
abbrev xMem : Type := Nat × (Nat → Nat → Int32) × (Nat → Nat → Int64) × (Nat → Nat → Option Nat)
/-- what a launch gives: classes and slots, array classes, the first address of ours, where the static rows lie -/
abbrev xG : Type := va_G × (Nat → ClassId) × Nat × (Nat → Nat)
abbrev xK : Type := Program × Env × State × MethodId × Array Value × List Frame × Method × Code × Room × Nat × (State → Prop)
abbrev xKp (K : xK) : Program := K.1
abbrev xKe (K : xK) : Env := K.2.1
abbrev xKs (K : xK) : State := K.2.2.1
abbrev xKm (K : xK) : MethodId := K.2.2.2.1
abbrev xKa (K : xK) : Array Value := K.2.2.2.2.1
abbrev xKb (K : xK) : List Frame := K.2.2.2.2.2.1
abbrev xKme (K : xK) : Method := K.2.2.2.2.2.2.1
abbrev xKc (K : xK) : Code := K.2.2.2.2.2.2.2.1
abbrev xKR (K : xK) : Room := K.2.2.2.2.2.2.2.2.1
abbrev xKn (K : xK) : Nat := K.2.2.2.2.2.2.2.2.2.1
abbrev xKQ (K : xK) : State → Prop := K.2.2.2.2.2.2.2.2.2.2
def xSH (o : Nat) : Nat × Nat := xSHL.getD o (99, 0)
def xft (ci k : Nat) : Nat := (xFT.getD ci []).getD k 0
def xSz : Nat → Nat
  | 0 => 0
  | n + 1 => xSz n + (xSH n).2
def xad (G : xG) (o : Nat) : Nat := G.2.2.1 + o
def xfv (G : xG) (σ : xMem) (ci o k : Nat) : Value :=
  if xft ci k = 1 then .long (σ.2.2.1 o k) else if xft ci k = 2 then va_rf ((σ.2.2.2 o k).map (xad G)) else .int (σ.2.1 o k)
def xent (G : xG) (σ : xMem) (o : Nat) : va_E :=
  if (xSH o).1 < 10 then .inr ((xSH o).1, (List.range (xSH o).2).map (xfv G σ (xSH o).1 o))
  else if (xSH o).1 = 13 then .inl (G.2.1 3, (xSH o).2, .inr (.inl (σ.2.2.1 o)))
  else if (xSH o).1 = 15 then .inl (G.2.1 5, (xSH o).2, .inr (.inr (.inr (.inr (fun j => (σ.2.2.2 o j).map (xad G))))))
  else .inl (G.2.1 ((xSH o).1 - 10), (xSH o).2, .inl (σ.2.1 o))
def xTy (G : xG) : List (ClassId × FieldType) := [(G.2.1 0, .int), (G.2.1 1, .byte), (G.2.1 2, .short), (G.2.1 3, .long), (G.2.1 4, .boolean), (G.2.1 5, .object "DustCart$Shelf")]
def xws (G : xG) (σ : xMem) : va_W := (List.range σ.1).map fun k => (xad G k, xent G σ k)
theorem xws_get {G : xG} {σ : xMem} {o : Nat} (h : o < σ.1) : (xws G σ)[o]? = some (xad G o, xent G σ o) := by
  simp [xws, h]
theorem xws_set {G : xG} {σ τ : xMem} {o : Nat} (hn : τ.1 = σ.1) (ho : o < σ.1) (he : ∀ k, k ≠ o → xent G τ k = xent G σ k) : (xws G σ).set o (xad G o, xent G τ o) = xws G τ := by
  apply List.ext_getElem?
  intro i
  rw [List.getElem?_set]
  by_cases hi : o = i
  · subst hi
    have hl : o < (xws G σ).length := by simpa [xws] using ho
    rw [if_pos rfl, if_pos hl, xws_get (by omega)]
  · rw [if_neg hi]
    by_cases h2 : i < σ.1
    · rw [xws_get h2, xws_get (by omega), he i (fun z => hi z.symm)]
    · simp [xws, h2, hn]
theorem xws_app {G : xG} {σ τ : xMem} (hn : τ.1 = σ.1 + 1) (he : ∀ k, k < σ.1 → xent G τ k = xent G σ k) : xws G σ ++ [(xad G σ.1, xent G τ σ.1)] = xws G τ := by
  simp only [xws, hn, List.range_succ, List.map_append, List.map_cons, List.map_nil]
  congr 1
  apply List.map_congr_left
  intro k hk
  rw [he k (List.mem_range.mp hk)]
def xA (G : xG) : Nat → Prop := fun q => G.2.2.1 ≤ q
theorem xD {G : xG} {σ : xMem} : va_D (xA G) (xws G σ) := by
  have key : ∀ (i : Nat) (p : Nat × va_E), (xws G σ)[i]? = some p → p.1 = xad G i := by
    intro i p h
    have hi : i < σ.1 := by
      have := (List.getElem?_eq_some_iff.mp h).1
      simpa [xws] using this
    rw [xws_get hi] at h
    cases h
    rfl
  refine ⟨fun i j p q hp hq he => ?_, fun k q hq => ?_⟩
  · have h1 := key i p hp
    have h2 := key j q hq
    unfold xad at h1 h2
    omega
  · have h1 := key k q hq
    unfold xad at h1
    show G.2.2.1 ≤ q.1
    omega
def xWF (G : xG) (σ : xMem) (H : Heap) : Prop := va_P G.1 vwCl (xws G σ) H ∧ (σ.1 < xNT → H.size = G.2.2.1 + σ.1)
/-- what is known of a state beside the tables' good words: the static rows, the array of shelves' class, the links to nest mates' constructors -/
def xSF (G : xG) (U : State) (H : Heap) : Prop :=
  (∀ (j : Nat) (q : String × String × List Int32), xST[j]? = some q → va_Z q.1 q.2.1 "[I" (.ref (G.2.2.2 j)) (xA G) U H ∧ va_T .int (G.2.2.2 j) q.2.2.length (fun i => .int (q.2.2.getD i 0)) (xA G) U H) ∧
  va_AO "DustCart$Shelf" U ∧ ∀ q ∈ xNL, va_Nw (.methodLinkNest "DustCart" q.1 q.2 "DustCart") U
theorem xSF_to {G : xG} {s U : State} {H : Heap} {locs : List Loc} (hW : s.WarmedH U.vm) (h : xSF G s s.heap) (hS : va_S (xA G) s.heap H locs) : xSF G U H := by
  refine ⟨fun j q hq => ?_, h.2.1.moved hW.alike, fun q hq => (h.2.2 q hq).warmM hW⟩
  obtain ⟨h1, h2⟩ := h.1 j q hq
  exact ⟨(h1.moved hW.alike).kept (fun a h3 h4 => hS.2.1 a h3 h4), (h2.moved hW.alike).kept (fun a h3 h4 => hS.2.1 a h3 h4)⟩
theorem xSF_same {G : xG} {u U : State} {H : Heap} (e : u.vm = U.vm) (h : xSF G u H) : xSF G U H := by
  have hvm : u.vm.Alike U.vm := e ▸ Vm.Alike.refl u.vm
  refine ⟨fun j q hq => ?_, h.2.1.moved hvm, fun q hq => va_Nw.same rfl e (h.2.2 q hq)⟩
  obtain ⟨h1, h2⟩ := h.1 j q hq
  exact ⟨h1.moved hvm, h2.moved hvm⟩
def xCX (G : xG) (M : xMI) (K : xK) : Prop :=
  (xKp K).tables.exec = Jvm.exec ∧ (xKc K).code = M.2.1 ∧ (xKc K).maxLocals = M.2.2.1 ∧ (xKs K).vm.findClass M.2.2.2.2 = some (xKm K).cls ∧ (∀ w ∈ xTbl, w.before (xKa K) (xKs K) = true) ∧
  (xKme K).locks = false ∧ (xKme K).sig.returnType = M.2.2.2.1 ∧ va_K G.1 vwCl (xTy G) (xKs K) ∧ xSF G (xKs K) (xKs K).heap ∧ (M.1.name = "<init>" → (xKme K).name = "<init>")
def xI (G : xG) (K : xK) (σ : xMem) (H : Heap) (locs : List Loc) (cells slots : Nat) : Prop :=
  xKn K ≤ σ.1 ∧ cells + xKn K = σ.1 ∧ slots + xSz (xKn K) = xSz σ.1 ∧ σ.1 ≤ xKn K + (xKR K).cells ∧ xSz σ.1 ≤ xSz (xKn K) + (xKR K).slots ∧ xWF G σ H ∧ va_S (xA G) (xKs K).heap H locs
/-- from here the machine comes to the end that K asks for -/
def xV (G : xG) (l : Launch) (M : xMI) (K : xK) (pc : Nat) (lv : List (Nat × Value)) (st : List Value) (σ : xMem) : Prop :=
  ∀ (H : Heap) (locs : List Loc) (ls : Array Slot) (cells slots : Nat), xI G K σ H locs cells slots → lv_has ls M.2.2.1 lv →
    W (xKp K) l (xKe K) (xKR K) (xKs K) (xKm K) (xKa K) (xKb K) (xKme K) (xKc K) H locs cells slots (xKQ K) (F0 (xKm K) pc ls st)
def xQ (G : xG) (r : Option Value) (τ : xMem) : Array Value → State → Outcome → State → Prop := fun _ st oc t => oc = .returned r ∧ xWF G τ t.heap ∧ va_F (xA G) st t
/-- K's end: an answer r, and the memory τ behind it -/
def xE (G : xG) (K : xK) (r : Option Value) (τ : xMem) : Prop :=
  xKQ K = MQ (xKb K) (xQ G r τ) (xKa K) (xKs K) (xKR K).cells (xKR K).slots (xA G) ∧ τ.1 = xKn K + (xKR K).cells ∧ xSz τ.1 = xSz (xKn K) + (xKR K).slots
def xRm (d mc ms : Nat) : Room := { frames := d, cells := mc, slots := ms, locals := 48 * d }
def xRd (K : xK) (d : Nat) : Prop := d ≤ (xKR K).frames ∧ 48 * d ≤ (xKR K).locals
abbrev xWs (M : xMI) : List Cond := Cond.code M.1 M.2.1 M.2.2.1 M.2.2.2.1 :: xTbl
/-- a method's contract: called with these values in the memory σ, it answers r, and leaves the memory τ -/
def xC (G : xG) (l : Launch) (M : xMI) (d : Nat) (av : List Value) (σ : xMem) (r : Option Value) (τ : xMem) : Prop :=
  σ.1 ≤ τ.1 ∧ xSz σ.1 ≤ xSz τ.1 ∧ Met l M.1 (xWs M) (xRm d (τ.1 - σ.1) (xSz τ.1 - xSz σ.1)) (va_Pc av (fun U => xWF G σ U.heap ∧ va_K G.1 vwCl (xTy G) U ∧ xSF G U U.heap)) (xQ G r τ) (τ.1 - σ.1) (xSz τ.1 - xSz σ.1) (xA G)
theorem xSz_mono {a b : Nat} (h : a ≤ b) : xSz a ≤ xSz b := by
  induction h with
  | refl => exact Nat.le_refl _
  | step _ ih => exact Nat.le_trans ih (Nat.le_add_right _ _)
theorem xC_of {G : xG} {l : Launch} {M : xMI} {d : Nat} {av : List Value} {σ τ : xMem} {r : Option Value} (hy : plainName M.1.cls = true) (hc : M.1.cls = M.2.2.2.2) (hle : σ.1 ≤ τ.1) (hz : (lg_sl av).length ≤ M.2.2.1)
    (body : ∀ K, xCX G M K → xE G K r τ → xRd K d → xKn K = σ.1 → xV G l M K 0 (lv_args 0 av) [] σ) : xC G l M d av σ r τ := by
  have hsz := xSz_mono hle
  refine ⟨hle, hsz, ?_⟩
  refine Met.ofW (cc := M.2.1) (maxL := M.2.2.1) (ret := M.2.2.2.1) hy rfl ?_
  intro p e s m args below meth c s₁ B hml hv
  obtain ⟨rfl, hP, hK, hF⟩ := hv
  have hts := atoms_spec (ws := xWs M) B.pre
  have hb := body (p, e, s, m, av.toArray, below, meth, c, xRm d (τ.1 - σ.1) (xSz τ.1 - xSz σ.1), σ.1, MQ below (xQ G r τ) av.toArray s (τ.1 - σ.1) (xSz τ.1 - xSz σ.1) (xA G))
    ⟨B.exec, B.bytes, hml, by rw [← hc]; exact findClass_of_methodNamed B.named, fun w hw => hts w (List.mem_cons_of_mem _ hw), B.notSynchronized, B.returns, hK, hF, fun hn => (name_of_methodNamed B.named B.method).1.trans hn⟩
    ⟨rfl, by show τ.1 = σ.1 + (τ.1 - σ.1); omega, by show xSz τ.1 = xSz σ.1 + (xSz τ.1 - xSz σ.1); omega⟩ ⟨Nat.le_refl _, Nat.le_refl _⟩ rfl
  have hl := lv_entry av (n := M.2.2.1) hz
  rw [lg_entry_eq]
  exact hb s.heap [] _ 0 0 ⟨Nat.le_refl _, Nat.zero_add _, Nat.zero_add _, by show σ.1 ≤ σ.1 + (τ.1 - σ.1); omega, by show xSz σ.1 ≤ xSz σ.1 + (xSz τ.1 - xSz σ.1); omega, hP, va_S.rf⟩ hl
theorem x_sub {G : xG} {l : Launch} {M : xMI} {K : xK} {pc : Nat} {lv lv' : List (Nat × Value)} {st : List Value} {σ : xMem} (ks : List Nat) (h : lv_pick lv ks = lv') (k : xV G l M K pc lv' st σ) : xV G l M K pc lv st σ :=
  fun H locs ls cells slots hi hl => k H locs ls cells slots hi (lv_sub hl ks h)
-- what the fields' types are
def xTyB (c : Nat) (t : FieldType) : Bool := match c, t with
  | 0, .int => true
  | 1, .long => true
  | 2, .object _ => true
  | 2, .array _ => true
  | 3, .boolean => true
  | _, _ => false
theorem xTyB_0 {t : FieldType} (h : xTyB 0 t = true) : t = .int := by cases t <;> first | rfl | cases h
theorem xTyB_1 {t : FieldType} (h : xTyB 1 t = true) : t = .long := by cases t <;> first | rfl | cases h
theorem xTyB_3 {t : FieldType} (h : xTyB 3 t = true) : t = .boolean := by cases t <;> first | rfl | cases h
theorem xTyB_2 {t : FieldType} (h : xTyB 2 t = true) (a : Nat) : narrow t (.ref a) = .ref a ∧ fits t (.ref a) = true := by cases t <;> first | exact ⟨rfl, rfl⟩ | cases h
def xClOk (ci : Nat) (q : vw_C) : Prop := (∀ w ∈ u_ws q.1 q.2.1 q.2.2, w ∈ xTbl) ∧ (∀ a, a < q.2.2 → ∀ b, b < q.2.2 → a ≠ b → (q.2.1 a).2.1 ≠ (q.2.1 b).2.1) ∧
  ∃ ty : Nat → FieldType, (∀ k, k < q.2.2 → parseFieldDescriptor (q.2.1 k).2.2.1 = some (ty k)) ∧ ∀ k, k < q.2.2 → xTyB (xft ci k) (ty k) = true
theorem xcls_ok (ci : Nat) (q : vw_C) (h : vwCl[ci]? = some q) : xClOk ci q := by
  match ci, h with
  | 0, h => cases h; exact ⟨inlX0, nmX0, tyX0, tyX0_ok, by decide +kernel⟩
  | 1, h => cases h; exact ⟨inlX1, nmX1, tyX1, tyX1_ok, by decide +kernel⟩
  | 2, h => cases h; exact ⟨inlX2, nmX2, tyX2, tyX2_ok, by decide +kernel⟩
  | 3, h => cases h; exact ⟨inlX3, nmX3, tyX3, tyX3_ok, by decide +kernel⟩
  | 4, h => cases h; exact ⟨inlX4, nmX4, tyX4, tyX4_ok, by decide +kernel⟩
  | 5, h => cases h; exact ⟨inlX5, nmX5, tyX5, tyX5_ok, by decide +kernel⟩
  | 6, h => cases h; exact ⟨inlX6, nmX6, tyX6, tyX6_ok, by decide +kernel⟩
  | 7, h => cases h; exact ⟨inlX7, nmX7, tyX7, tyX7_ok, by decide +kernel⟩
  | 8, h => cases h; exact ⟨inlX8, nmX8, tyX8, tyX8_ok, by decide +kernel⟩
  | 9, h => cases h; exact ⟨inlX9, nmX9, tyX9, tyX9_ok, by decide +kernel⟩
  | n + 10, h => simp [vwCl] at h
/-- the link of a field in a class's pool -/
def xFl (own : String) (idx ci k : Nat) : Prop := ∃ q : vw_C, vwCl[ci]? = some q ∧ k < q.2.2 ∧ Cond.fieldLink own idx (q.2.1 k).1 (q.2.1 k).2.1 (q.2.1 k).2.2.1 ∈ xTbl
def xFn (ci k : Nat) : Bool := match vwCl[ci]? with
  | some q => (q.2.1 k).2.2.2
  | none => true
def xFo (ci k : Nat) : String := match vwCl[ci]? with
  | some q => (q.2.1 k).1
  | none => ""
theorem xent_obj {G : xG} {σ : xMem} {o ci N : Nat} (h : xSH o = (ci, N)) (hci : ci < 10) : xent G σ o = .inr (ci, (List.range N).map (xfv G σ ci o)) := by
  simp [xent, h, hci]
theorem xent_arrI {G : xG} {σ : xMem} {o t N : Nat} (h : xSH o = (10 + t, N)) (ht : t ≠ 3) (ht5 : t ≠ 5) : xent G σ o = .inl (G.2.1 t, N, .inl (σ.2.1 o)) := by
  unfold xent
  rw [h]
  rw [if_neg (by show ¬ 10 + t < 10; omega), if_neg (by show ¬ 10 + t = 13; omega), if_neg (by show ¬ 10 + t = 15; omega)]
  rw [show (10 + t, N).1 - 10 = t from by show 10 + t - 10 = t; omega]
theorem xent_arrL {G : xG} {σ : xMem} {o N : Nat} (h : xSH o = (13, N)) : xent G σ o = .inl (G.2.1 3, N, .inr (.inl (σ.2.2.1 o))) := by
  unfold xent
  rw [h]
  rfl
theorem xent_arrR {G : xG} {σ : xMem} {o N : Nat} (h : xSH o = (15, N)) : xent G σ o = .inl (G.2.1 5, N, .inr (.inr (.inr (.inr (fun j => (σ.2.2.2 o j).map (xad G)))))) := by
  unfold xent
  rw [h]
  rfl
-- the memory written
def xup {α : Type} (f : Nat → Nat → α) (o k : Nat) (v : α) : Nat → Nat → α := fun a b => if a = o then (if b = k then v else f a b) else f a b
def xsI (σ : xMem) (o k : Nat) (v : Int32) : xMem := (σ.1, xup σ.2.1 o k v, σ.2.2.1, σ.2.2.2)
def xsL (σ : xMem) (o k : Nat) (v : Int64) : xMem := (σ.1, σ.2.1, xup σ.2.2.1 o k v, σ.2.2.2)
def xsR (σ : xMem) (o k : Nat) (v : Option Nat) : xMem := (σ.1, σ.2.1, σ.2.2.1, xup σ.2.2.2 o k v)
def xbl {α : Type} (f : Nat → Nat → α) (o : Nat) (z : α) : Nat → Nat → α := fun a b => if a = o then z else f a b
def xnw (σ : xMem) : xMem := (σ.1 + 1, xbl σ.2.1 σ.1 0, xbl σ.2.2.1 σ.1 0, xbl σ.2.2.2 σ.1 none)
/-- a piece of an int row copied -/
def xcp {α : Type} (f : Nat → Nat → α) (a i b j n : Nat) : Nat → Nat → α := fun o k => if o = b then va_cpy (f a) (f b) i j n k else f o k
def xcI (σ : xMem) (a i b j n : Nat) : xMem := (σ.1, xcp σ.2.1 a i b j n, σ.2.2.1, σ.2.2.2)
def xcL (σ : xMem) (a i b j n : Nat) : xMem := (σ.1, σ.2.1, xcp σ.2.2.1 a i b j n, σ.2.2.2)
theorem xent_I {G : xG} {σ : xMem} {o j : Nat} {g : Nat → Nat → Int32} (hg : ∀ k, g j k = σ.2.1 j k) : xent G (σ.1, g, σ.2.2.1, σ.2.2.2) j = xent G σ j := by
  have h : g j = σ.2.1 j := funext hg
  have h2 : xfv G (σ.1, g, σ.2.2.1, σ.2.2.2) (xSH j).1 j = xfv G σ (xSH j).1 j := by
    funext k
    simp [xfv, hg]
  simp [xent, h, h2]
theorem xent_L {G : xG} {σ : xMem} {o j : Nat} {g : Nat → Nat → Int64} (hg : ∀ k, g j k = σ.2.2.1 j k) : xent G (σ.1, σ.2.1, g, σ.2.2.2) j = xent G σ j := by
  have h : g j = σ.2.2.1 j := funext hg
  have h2 : xfv G (σ.1, σ.2.1, g, σ.2.2.2) (xSH j).1 j = xfv G σ (xSH j).1 j := by
    funext k
    simp [xfv, hg]
  simp [xent, h, h2]
theorem xent_R {G : xG} {σ : xMem} {o j : Nat} {g : Nat → Nat → Option Nat} (hg : ∀ k, g j k = σ.2.2.2 j k) : xent G (σ.1, σ.2.1, σ.2.2.1, g) j = xent G σ j := by
  have h : g j = σ.2.2.2 j := funext hg
  have h2 : xfv G (σ.1, σ.2.1, σ.2.2.1, g) (xSH j).1 j = xfv G σ (xSH j).1 j := by
    funext k
    simp [xfv, hg]
  simp [xent, h, h2]
theorem xsI_ne {G : xG} {σ : xMem} {o k : Nat} {v : Int32} (j : Nat) (h : j ≠ o) : xent G (xsI σ o k v) j = xent G σ j := xent_I (o := o) fun b => by simp [xup, h]
theorem xsL_ne {G : xG} {σ : xMem} {o k : Nat} {v : Int64} (j : Nat) (h : j ≠ o) : xent G (xsL σ o k v) j = xent G σ j := xent_L (o := o) fun b => by simp [xup, h]
theorem xsR_ne {G : xG} {σ : xMem} {o k : Nat} {v : Option Nat} (j : Nat) (h : j ≠ o) : xent G (xsR σ o k v) j = xent G σ j := xent_R (o := o) fun b => by simp [xup, h]
theorem xcI_ne {G : xG} {σ : xMem} {a i b c n : Nat} (j : Nat) (h : j ≠ b) : xent G (xcI σ a i b c n) j = xent G σ j := xent_I (o := b) fun k => by simp [xcp, h]
theorem xcL_ne {G : xG} {σ : xMem} {a i b c n : Nat} (j : Nat) (h : j ≠ b) : xent G (xcL σ a i b c n) j = xent G σ j := xent_L (o := b) fun k => by simp [xcp, h]
theorem xset_map {N k : Nat} {f g : Nat → Value} {v : Value} (hv : g k = v) (h : ∀ j, j ≠ k → g j = f j) : ((List.range N).map f).set k v = (List.range N).map g := by
  apply List.ext_getElem?
  intro i
  rw [List.getElem?_set]
  by_cases hi : k = i
  · subst hi
    rw [if_pos rfl]
    by_cases h2 : k < N
    · rw [if_pos (by simpa using h2)]; simp [h2, hv]
    · rw [if_neg (by simpa using h2)]; simp [h2]
  · rw [if_neg hi]
    by_cases h2 : i < N
    · simp [h2, h i (fun z => hi z.symm)]
    · simp [h2]
theorem xWF_put {G : xG} {σ τ : xMem} {o : Nat} {H H1 : Heap} (hwf : xWF G σ H) (hn : τ.1 = σ.1) (ho : o < σ.1) (he : ∀ k, k ≠ o → xent G τ k = xent G σ k) (hat : va_at G.1 vwCl (xad G o, xent G τ o) H1) (z : H1.size = H.size) (oq : ∀ q : Nat, q ≠ xad G o → H1[q]? = H[q]?) : xWF G τ H1 :=
  ⟨by rw [← xws_set hn ho he]; exact hwf.1.set xD (xws_get ho) hat oq, fun h => by rw [z, hn]; exact hwf.2 (by rw [← hn]; exact h)⟩
def xin (i : Int32) (n : Nat) : Bool := decide (0 ≤ i.toInt) && decide (i.toInt < n)
theorem xin_vp {i : Int32} {n : Nat} (h : xin i n = true) : vp_in i n := by
  simp only [xin, Bool.and_eq_true, decide_eq_true_eq] at h
  exact vp_in_iff.mpr h
