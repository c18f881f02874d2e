/-! act: the wheels' bodies, in both. -/
def xTr (b K c : Nat) (σ μ : xS2) : Prop := b < 50 ∧ σ.1 40 2 = nI b ∧ (∃ N, N ≤ 50 ∧ b < N ∧ σ.1 40 3 = nI N) ∧ σ.1 41 b = nI K ∧ σ.1 40 4 = nI c ∧ μ.1 43 54 = nI c ∧ μ.1 68 b = nI K ∧ ∀ i, i < 24 → i < c → μ.1 69 i = σ.1 42 i ∧ xRg (σ.1 42 i) 1 81
def xRn (v : Nat) (σ : xS2) : xS2 := yI (if (24 : Int32) ≤ σ.1 40 4 then σ else yI σ 42 (σ.1 40 4).toNatClampNeg (nI v)) 40 4 (σ.1 40 4 + 1)
theorem ran_eq {b K c v : Nat} {σ μ : xS2} (h : xTr b K c σ μ) (hc : c < 900) (hv : 1 ≤ v) (hv2 : v ≤ 81) : ∃ μ1, J_X9_ran (nI v) μ = some μ1 ∧ xTr b K (c + 1) (xRn v σ) μ1 := by
  obtain ⟨hb, h2, h3, h41, h4, h54, h68, h69⟩ := h
  unfold J_X9_ran J_X9_ran_19 xRn
  rw [h4, h54]
  by_cases q : c < 24
  · rw [if_neg (k_nle (x := (24 : Int32)) 24 rfl (by decide) (by omega) q), if_neg (k_nle (x := (24 : Int32)) 24 rfl (by decide) (by omega) q), c_xin q (by decide), xgd_t, nI_c (by omega)]
    refine ⟨_, rfl, hb, h2, h3, h41, nI_1 c, ?_, h68, fun i hi hic => ?_⟩
    · show (yI μ 69 c (nI v)).1 43 54 + 1 = nI (c + 1)
      rw [show (yI μ 69 c (nI v)).1 43 54 = nI c from h54, nI_1]
    · show (if i = c then nI v else μ.1 69 i) = (if i = c then nI v else σ.1 42 i) ∧ xRg (if i = c then nI v else σ.1 42 i) 1 81
      by_cases e : i = c
      · rw [if_pos e, if_pos e]
        exact ⟨rfl, nI_rg2 (by omega) (by omega) (by omega)⟩
      · rw [if_neg e, if_neg e]
        exact h69 i hi (by omega)
  · rw [if_pos (show (24 : Int32) ≤ nI c from r_le (x := nI c) c rfl (by omega) (b := 24) (by decide) (by omega)), if_pos (show (24 : Int32) ≤ nI c from r_le (x := nI c) c rfl (by omega) (b := 24) (by decide) (by omega))]
    refine ⟨_, rfl, hb, h2, h3, h41, nI_1 c, ?_, h68, fun i hi hic => h69 i hi (by omega)⟩
    exact nI_1 c
theorem tr_kind {b K c : Nat} {σ μ : xS2} (h : xTr b K c σ μ) : J_X7_kindOf (σ.1 40 2) σ = some (nI K) := by
  obtain ⟨hb, h2, ⟨N, hN, hbN, h3⟩, h41, h4, h54, h68, h69⟩ := h
  unfold J_X7_kindOf J_X7_has
  rw [h2, h3, if_neg (nI_pos (by omega)), if_neg (c_nle (by omega) (by omega) hbN), if_neg (k_nle (x := (50 : Int32)) 50 rfl (by decide) (by omega) hb), if_neg xb_nt, c_xin hb (by decide), xgd_t, nI_c (by omega), h41]
-- holders and bodies
def xHo (A k : Nat) : Nat := (([[0, 1, 0, 0, 1, 0, 6, 7], [0, 0, 2, 3, 0, 3, 0, 7], [0, 0, 0, 3, 0, 5, 0, 0], [0, 0, 0, 0, 4, 5, 0, 0]] : List (List Nat)).getD A []).getD k 0
def xBo (A k : Nat) : Nat := (([[1, 20, 1, 1, 20, 1, 70, 81], [10, 10, 30, 41, 10, 41, 10, 80], [11, 11, 11, 40, 11, 60, 11, 11], [2, 2, 2, 2, 50, 61, 2, 2]] : List (List Nat)).getD A []).getD k 0
def xRa (k : Nat) : Nat := ([0, 1, 1, 2, 2, 3, 1, 2] : List Nat).getD k 0
theorem ho_facts : ∀ A, A < 4 → ∀ k, k < 8 → (¬ xsv 4 (nI A * 8 + nI k) = 0 ∧ xHo A k = k) ∨ (xsv 4 (nI A * 8 + nI k) = 0 ∧ ∃ k', k' < 8 ∧ xsv 5 (nI k) = nI k' ∧ xHo A k' = xHo A k ∧ xRa k' < xRa k) := by decide +kernel
theorem ho_facts2 : ∀ A, A < 4 → ∀ k, k < 8 → xHo A k < 8 ∧ xsv 4 (nI A * 8 + nI (xHo A k)) = nI (xBo A k) ∧ xin (nI A * 8 + nI k) 32 = true ∧ J_X7_isKind (nI k) = true := by decide +kernel
theorem ra_le : ∀ k, k < 8 → xRa k ≤ 3 := by decide +kernel
theorem bg_loop {pW : Int32 → Int32 → Int32 → xS2 → Option (Int32 × xS2)} {pU : Int32 → Int32 → Int32 → Int32 → Int32 → xS2 → Option (Int32 × xS2)} {A : Nat} {x d : Int32} {σ : xS2} (hA : A < 4) : ∀ (r k f j : Nat), k < 8 → xRa k ≤ r → r < f → j + r < 8 →
    J_X7_begin_6 pW pU f (nI A) x d (nI k) (nI j) σ = J_X7_begin_49 pW pU (nI A) x d (nI (xHo A k)) σ := by
  have one : ∀ {k f j : Nat}, k < 8 → j < 8 → J_X7_begin_6 pW pU (f + 1) (nI A) x d (nI k) (nI j) σ = if xsv 4 (nI A * 8 + nI k) = 0 then J_X7_begin_6 pW pU f (nI A) x d (xsv 5 (nI k)) (nI (j + 1)) σ else J_X7_begin_49 pW pU (nI A) x d (nI k) σ := by
    intro k f j hk hj
    obtain ⟨-, -, t1, t2⟩ := ho_facts2 A hA k hk
    rw [E_X7_begin_6, if_neg (k_nle (x := (8 : Int32)) 8 rfl (by decide) (by omega) hj), t2, if_neg xb_nt, t1, xgd_t, c_xin hk (by decide), xgd_t, nI_1]
  intro r
  induction r with
  | zero =>
    intro k f j hk hr hf hj
    obtain ⟨f, rfl⟩ : ∃ z, f = z + 1 := ⟨f - 1, by omega⟩
    rcases ho_facts A hA k hk with ⟨h1, h2⟩ | ⟨h1, k', -, -, -, h4⟩
    · rw [one hk (by omega), if_neg h1, h2]
    · omega
  | succ r ih =>
    intro k f j hk hr hf hj
    obtain ⟨f, rfl⟩ : ∃ z, f = z + 1 := ⟨f - 1, by omega⟩
    rcases ho_facts A hA k hk with ⟨h1, h2⟩ | ⟨h1, k', hk', h2, h3, h4⟩
    · rw [one hk (by omega), if_neg h1, h2]
    · rw [one hk (by omega), if_pos h1, h2, ih k' f (j + 1) hk' (by omega) (by omega) (by omega), h3]
theorem bid {x : Option (Int32 × xS2)} : (x.bind fun x7 => some (x7.1, x7.2)) = x := by cases x <;> rfl
theorem begin_eq {n A k d c : Nat} {x : Int32} {σ : xS2} (hA : A < 4) (hk : k < 8) (hd : d ≤ 20) (h4 : σ.1 40 4 = nI c) (hc : c < 900) : (G_X7_answerOfWheel (n + 1)).2.2.1 (nI A) (nI k) x (nI d) σ =
    if (11 : Int32) < nI (xBo A k) then (G_X7_answerOfWheel n).2.1 (nI (xBo A k)) (nI A) (xsv 5 (nI (xHo A k))) x (nI d) (xRn (xBo A k) σ) else (G_X7_answerOfWheel n).1 (nI (xBo A k)) x (nI d) (xRn (xBo A k) σ) := by
  obtain ⟨t0, tb, -, -⟩ := ho_facts2 A hA k hk
  obtain ⟨-, -, t1, t2⟩ := ho_facts2 A hA (xHo A k) t0
  show J_X7_begin_6 _ _ xFU (nI A) x (nI d) (nI k) (nI 0) σ = _
  rw [bg_loop hA 3 k xFU 0 hk (ra_le k hk) (by show 3 < 2000; omega) (by omega)]
  unfold J_X7_begin_49 J_X7_begin_99 xRn
  rw [t2, if_neg xb_nt, if_pos (r_le (x := (20 : Int32)) 20 rfl (by decide) (by omega) hd), t1, xgd_t, tb, c_xin t0 (by decide), xgd_t, bid, bid, xgd_t, bid]
  by_cases q : c < 24
  · rw [h4, if_neg (k_nle (x := (24 : Int32)) 24 rfl (by decide) (by omega) q), c_xin q (by decide), xgd_t, if_neg (k_nle (x := (24 : Int32)) 24 rfl (by decide) (by omega) q), show (yI σ 42 (nI c).toNatClampNeg (nI (xBo A k))).1 40 4 = nI c from h4, bid]
  · rw [h4, if_pos (show (24 : Int32) ≤ nI c from r_le (x := nI c) c rfl (by omega) (b := 24) (by decide) (by omega)), if_pos (show (24 : Int32) ≤ nI c from r_le (x := nI c) c rfl (by omega) (b := 24) (by decide) (by omega))]
-- class and reference do alike
def xSim (b K N : Nat) (F H : xS2 → Option (Int32 × xS2)) : Prop := ∀ (c : Nat) (σ μ : xS2), c + N < 900 → xTr b K c σ μ → ∃ r σ' μ' c', F σ = some (r, σ') ∧ H μ = some (r, μ') ∧ xTr b K c' σ' μ' ∧ c' ≤ c + N
theorem sim_map {b K N : Nat} {F H : xS2 → Option (Int32 × xS2)} (g : Int32 → Int32) (h : xSim b K N F H) : xSim b K N (fun σ => (F σ).bind fun x => some (g x.1, x.2)) (fun μ => (H μ).bind fun x => some (g x.1, x.2)) := by
  intro c σ μ hc ht
  obtain ⟨r, σ', μ', c', h1, h2, h3, h4⟩ := h c σ μ hc ht
  exact ⟨g r, σ', μ', c', by show (F σ).bind _ = _; rw [h1, Option.bind_some], by show (H μ).bind _ = _; rw [h2, Option.bind_some], h3, h4⟩
theorem sim_two {b K N M : Nat} {F H F2 H2 : xS2 → Option (Int32 × xS2)} (g : Int32 → Int32 → Int32) (h : xSim b K N F H) (h2 : xSim b K M F2 H2) : xSim b K (N + M) (fun σ => (F σ).bind fun x => (F2 x.2).bind fun y => some (g x.1 y.1, y.2)) (fun μ => (H μ).bind fun x => (H2 x.2).bind fun y => some (g x.1 y.1, y.2)) := by
  intro c σ μ hc ht
  obtain ⟨r, σ', μ', c', e1, e2, e3, e4⟩ := h c σ μ (by omega) ht
  obtain ⟨r2, σ2, μ2, c2, d1, d2, d3, d4⟩ := h2 c' σ' μ' (by omega) e3
  exact ⟨g r r2, σ2, μ2, c2, by show (F σ).bind _ = _; rw [e1, Option.bind_some]; show (F2 σ').bind _ = _; rw [d1, Option.bind_some], by show (H μ).bind _ = _; rw [e2, Option.bind_some]; show (H2 μ').bind _ = _; rw [d2, Option.bind_some], d3, by omega⟩
theorem sim_eq {b K N : Nat} {F H F' H' : xS2 → Option (Int32 × xS2)} (h : xSim b K N F H) (e1 : ∀ c σ μ, c < 900 → xTr b K c σ μ → F' σ = F σ) (e2 : ∀ c σ μ, xTr b K c σ μ → H' μ = H μ) : xSim b K N F' H' := by
  intro c σ μ hc ht
  rw [e1 c σ μ (by omega) ht, e2 c σ μ ht]
  exact h c σ μ hc ht
theorem sim_H {b K N : Nat} {F H H' : xS2 → Option (Int32 × xS2)} (h : xSim b K N F H) (e2 : ∀ c σ μ, xTr b K c σ μ → H' μ = H μ) : xSim b K N F H' := sim_eq h (fun _ _ _ _ _ => rfl) e2
theorem sim_wk {b K N M : Nat} {F H : xS2 → Option (Int32 × xS2)} (h : xSim b K N F H) (hM : N ≤ M) : xSim b K M F H := by
  intro c σ μ hc ht
  obtain ⟨r, σ', μ', c', h1, h2, h3, h4⟩ := h c σ μ (by omega) ht
  exact ⟨r, σ', μ', c', h1, h2, h3, by omega⟩
theorem sim_ran {b K N v : Nat} {F H : xS2 → Option (Int32 × xS2)} (hv : 1 ≤ v) (hv2 : v ≤ 81) (h : xSim b K N F H) : xSim b K (N + 1) (fun σ => F (xRn v σ)) (fun μ => (J_X9_ran (nI v) μ).bind H) := by
  intro c σ μ hc ht
  obtain ⟨μ1, e1, e2⟩ := ran_eq ht (by omega) hv hv2
  obtain ⟨r, σ', μ', c', h1, h2, h3, h4⟩ := h (c + 1) _ _ (by omega) e2
  exact ⟨r, σ', μ', c', h1, by show (J_X9_ran (nI v) μ).bind H = _; rw [e1, Option.bind_some, h2], h3, by omega⟩
theorem s_W {b K n A k d N : Nat} (v : Nat) {x : Int32} {H : xS2 → Option (Int32 × xS2)} (hA : A < 4) (hk : k < 8) (hd : d ≤ 20) (hv : xBo A k = v) (hv1 : 1 ≤ v) (hv2 : v ≤ 11) (h : xSim b K N (fun σ => (G_X7_answerOfWheel n).1 (nI v) x (nI d) σ) H) :
    xSim b K (N + 1) (fun σ => (G_X7_answerOfWheel (n + 1)).2.2.1 (nI A) (nI k) x (nI d) σ) (fun μ => (J_X9_ran (nI v) μ).bind H) := by
  refine sim_eq (sim_ran hv1 (by omega) h) (fun c σ μ hc ht => ?_) (fun _ _ _ _ => rfl)
  show (G_X7_answerOfWheel (n + 1)).2.2.1 (nI A) (nI k) x (nI d) σ = (G_X7_answerOfWheel n).1 (nI v) x (nI d) (xRn v σ)
  rw [begin_eq hA hk hd ht.2.2.2.2.1 hc, hv, if_neg (show ¬ (11 : Int32) < nI v from r_nlt (x := nI v) v rfl (by omega) (b := 11) (by decide) hv2 |> fun z => fun q => (c_nlt (a := 11) (b := v) (by decide) (by omega) hv2) q)]
theorem s_U {b K n A k d N : Nat} (v : Nat) {x : Int32} {H : xS2 → Option (Int32 × xS2)} (hA : A < 4) (hk : k < 8) (hd : d ≤ 20) (hv : xBo A k = v) (hv1 : 11 < v) (hv2 : v ≤ 81) (h : xSim b K N (fun σ => (G_X7_answerOfWheel n).2.1 (nI v) (nI A) (xsv 5 (nI (xHo A k))) x (nI d) σ) H) :
    xSim b K (N + 1) (fun σ => (G_X7_answerOfWheel (n + 1)).2.2.1 (nI A) (nI k) x (nI d) σ) (fun μ => (J_X9_ran (nI v) μ).bind H) := by
  refine sim_eq (sim_ran (by omega) hv2 h) (fun c σ μ hc ht => ?_) (fun _ _ _ _ => rfl)
  show (G_X7_answerOfWheel (n + 1)).2.2.1 (nI A) (nI k) x (nI d) σ = (G_X7_answerOfWheel n).2.1 (nI v) (nI A) (xsv 5 (nI (xHo A k))) x (nI d) (xRn v σ)
  rw [begin_eq hA hk hd ht.2.2.2.2.1 hc, hv, if_pos (show (11 : Int32) < nI v from c_lt (a := 11) (b := v) (by decide) (by omega) hv1)]
theorem s_own {b K n A d N : Nat} {x : Int32} {H : xS2 → Option (Int32 × xS2)} (h : xSim b K N (fun σ => (G_X7_answerOfWheel n).2.2.1 (nI A) (nI K) x (nI (d + 1)) σ) H) : xSim b K N (fun σ => (G_X7_answerOfWheel (n + 1)).2.2.2 (nI A) x (nI d) σ) H := by
  refine sim_eq h (fun c σ μ hc ht => ?_) (fun _ _ _ _ => rfl)
  show (J_X7_kindOf (σ.1 40 2) σ).bind _ = _
  rw [tr_kind ht, Option.bind_some, bid, nI_1]
-- turns
theorem a_pT {b K n k d : Nat} {x : Int32} (hk : k < 8) (hb : xBo 0 k = 1) (hd : d ≤ 20) : xSim b K 1 (fun σ => (G_X7_answerOfWheel (n + 2)).2.2.1 (nI 0) (nI k) x (nI d) σ) (fun μ => J_X9_plainTurns (nI b) x μ) := by
  have h : xSim b K 0 (fun σ => (G_X7_answerOfWheel (n + 1)).1 (nI 1) x (nI d) σ) (fun μ => some (x + nI b, μ)) := fun c σ μ hc ht => ⟨x + nI b, σ, μ, c, by show some (x + σ.1 40 2, σ) = _; rw [ht.2.1], rfl, ht, by omega⟩
  exact s_W 1 (by decide) hk hd hb (by decide) (by decide) h
theorem a_nT {b K n d : Nat} {x : Int32} (hd : d + 1 ≤ 20) : xSim b K 2 (fun σ => (G_X7_answerOfWheel (n + 4)).2.2.1 (nI 0) (nI 6) x (nI d) σ) (fun μ => J_X9_northTurns (nI b) x μ) := by
  have h := sim_map (fun r => r * 2) (a_pT (b := b) (K := K) (n := n) (k := 0) (x := x) (by decide) (by decide) hd)
  have h2 : xSim b K 1 (fun σ => (G_X7_answerOfWheel (n + 3)).2.1 (nI 70) (nI 0) (xsv 5 (nI (xHo 0 6))) x (nI d) σ) (fun μ => (J_X9_plainTurns (nI b) x μ).bind fun x => some (x.1 * 2, x.2)) := by
    refine sim_eq h (fun c σ μ hc ht => ?_) (fun _ _ _ _ => rfl)
    show ((G_X7_answerOfWheel (n + 2)).2.2.1 (nI 0) (nI 0) x (nI d + 1) σ).bind (fun x => some (x.1 * 2, x.2)) = _
    rw [nI_1]
  exact s_U 70 (by decide) (by decide) (by omega) (by decide) (by decide) (by decide) h2
theorem a_T {b K n d : Nat} {x : Int32} (hK : K < 8) (hd : d + 2 ≤ 20) : xSim b K 3 (fun σ => (G_X7_answerOfWheel (n + 6)).2.2.1 (nI 0) (nI K) x (nI d) σ) (fun μ => J_X9_turning (nI b) x μ) := by
  have hT : ∀ c σ μ, xTr b K c σ μ → J_X9_turning (nI b) x μ = if (xb (J_X9_isUnder (nI K) 1)) = 0 then (if nI K = 7 then (J_X9_ran 81 μ).bind fun x10 => (J_X9_northTurns (nI b) x x10).bind fun x11 => some (x11.1 - 1, x11.2) else if nI K = 6 then J_X9_northTurns (nI b) x μ else J_X9_plainTurns (nI b) x μ) else (J_X9_ran 20 μ).bind fun x12 => (J_X9_plainTurns (nI b) x x12).bind fun x13 => some (x13.1 + 3, x13.2) := by
    intro c σ μ ht
    unfold J_X9_turning
    rw [c_xin ht.1 (by decide), xgd_t, xgd_t, xgd_t, nI_c (by have := ht.1; omega), ht.2.2.2.2.2.2.1, bid, bid]
  have plain : xBo 0 K = 1 → (if (xb (J_X9_isUnder (nI K) 1)) = 0 then 1 else 0) = 1 → ¬ nI K = 7 → ¬ nI K = 6 → xSim b K 3 (fun σ => (G_X7_answerOfWheel (n + 6)).2.2.1 (nI 0) (nI K) x (nI d) σ) (fun μ => J_X9_turning (nI b) x μ) := by
    intro h1 h2 h3 h4
    refine sim_H (sim_wk (a_pT (n := n + 4) hK h1 (by omega)) (by decide)) (fun c σ μ ht => ?_)
    have h2' : xb (J_X9_isUnder (nI K) 1) = 0 := by
      by_cases q : xb (J_X9_isUnder (nI K) 1) = 0
      · exact q
      · rw [if_neg q] at h2; exact absurd h2 (by decide)
    rw [hT c σ μ ht, if_pos h2', if_neg h3, if_neg h4]
  have drag : ∀ {a : Nat}, a = 0 → xBo 0 K = 20 → xsv 5 (nI (xHo 0 K)) = nI a → ¬ xb (J_X9_isUnder (nI K) 1) = 0 → xSim b K 3 (fun σ => (G_X7_answerOfWheel (n + 6)).2.2.1 (nI 0) (nI K) x (nI d) σ) (fun μ => J_X9_turning (nI b) x μ) := by
    intro a ha h1 h2 h3
    subst ha
    have h := sim_map (fun r => r + 3) (a_pT (b := b) (K := K) (n := n + 2) (k := 0) (d := d + 1) (x := x) (by decide) (by decide) (by omega))
    have h5 : xSim b K 1 (fun σ => (G_X7_answerOfWheel (n + 5)).2.1 (nI 20) (nI 0) (xsv 5 (nI (xHo 0 K))) x (nI d) σ) (fun μ => (J_X9_plainTurns (nI b) x μ).bind fun x => some (x.1 + 3, x.2)) := by
      refine sim_eq h (fun c σ μ hc ht => ?_) (fun _ _ _ _ => rfl)
      rw [h2]
      show ((G_X7_answerOfWheel (n + 4)).2.2.1 (nI 0) (nI 0) x (nI d + 1) σ).bind (fun x => some (x.1 + 3, x.2)) = _
      rw [nI_1]
    refine sim_H (sim_wk (s_U 20 (by decide) hK (by omega) h1 (by decide) (by decide) h5) (by decide)) (fun c σ μ ht => ?_)
    rw [hT c σ μ ht, if_neg h3]
    rfl
  rcases (show K = 0 ∨ K = 1 ∨ K = 2 ∨ K = 3 ∨ K = 4 ∨ K = 5 ∨ K = 6 ∨ K = 7 by omega) with rfl | rfl | rfl | rfl | rfl | rfl | rfl | rfl
  · exact plain (by decide) (by decide) (by decide) (by decide)
  · exact drag rfl (by decide) (by decide) (by decide)
  · exact plain (by decide) (by decide) (by decide) (by decide)
  · exact plain (by decide) (by decide) (by decide) (by decide)
  · exact drag rfl (by decide) (by decide) (by decide)
  · exact plain (by decide) (by decide) (by decide) (by decide)
  · refine sim_H (sim_wk (a_nT (n := n + 2) (by omega)) (by decide)) (fun c σ μ ht => ?_)
    rw [hT c σ μ ht, if_pos (by decide), if_neg (by decide), if_pos (by decide)]
  · have h := sim_map (fun r => r - 1) (a_nT (b := b) (K := 7) (n := n) (d := d + 1) (x := x) (by omega))
    have h5 : xSim b 7 2 (fun σ => (G_X7_answerOfWheel (n + 5)).2.1 (nI 81) (nI 0) (xsv 5 (nI (xHo 0 7))) x (nI d) σ) (fun μ => (J_X9_northTurns (nI b) x μ).bind fun x => some (x.1 - 1, x.2)) := by
      refine sim_eq h (fun c σ μ hc ht => ?_) (fun _ _ _ _ => rfl)
      show ((G_X7_answerOfWheel (n + 4)).2.2.1 (nI 0) (nI 6) x (nI d + 1) σ).bind (fun x => some (x.1 - 1, x.2)) = _
      rw [nI_1]
    refine sim_H (s_U 81 (by decide) (by decide) (by omega) (by decide) (by decide) (by decide) h5) (fun c σ μ ht => ?_)
    rw [hT c σ μ ht, if_pos (by decide), if_pos (by decide)]
    rfl
