/-! soonest: a day on. -/
def zNx : List (Nat × Nat) := [(21, 99), (22, 0), (22, 1), (22, 2), (22, 3)]
theorem ix10 : ∀ i, i < 360 → nI i / 10 = nI (i / 10) ∧ xrm (nI i) 10 = nI (i % 10) := by decide +kernel
theorem price_at {σ μ : xS2} {a b : Nat} (h : xPl σ μ) (ha : a < 36) (hb : b < 36) : ∃ p, p ≤ 60 ∧ xPrice (σ.1 2 192) (σ.1 2 a) (σ.1 2 b) = nI p ∧ xPrice (μ.1 43 5) (μ.1 44 a) (μ.1 44 b) = nI p := by
  have h44 : ∀ k, k < 36 → μ.1 44 k = σ.1 2 k ∧ xRg (σ.1 2 k) 0 9 := fun k hk => by
    have := h 0 k (by decide) hk
    rw [show xBg 0 = 0 from rfl, Nat.zero_add] at this
    exact this
  have h5 : μ.1 43 5 = σ.1 2 192 ∧ xRg (σ.1 2 192) 1 6 := h 4 0 (by decide) (by decide)
  obtain ⟨W, hW, eW⟩ := xRg_at (l := 6) (xRg_w h5.2 (by decide) (by decide))
  obtain ⟨x, hx, ex⟩ := xRg_at (l := 9) (h44 a ha).2
  obtain ⟨y, hy, ey⟩ := xRg_at (l := 9) (h44 b hb).2
  obtain ⟨p, hp, ep⟩ := xRg_at (l := 60) (price_rg W (by omega) x (by omega) y (by omega))
  exact ⟨p, hp, by rw [eW, ex, ey, ep], by rw [h5.1, (h44 a ha).1, (h44 b hb).1, eW, ex, ey, ep]⟩
/-- one order of a cart at an index, in both -/
theorem xPl_22 {σ μ σ' μ' : xS2} (hp : xPl σ μ) (f : xFr zNx σ σ') (g : xFr [(64, 99)] μ μ') : xPl σ' μ' := tw_P f g (by decide) (by decide) hp
theorem way_on {i s t : Nat} {kc : Int32 → Int32 → Int32 → Int32 → xS2 → Option xS2} {km : Int32 → Int32 → xS2 → Option xS2} (hi : i < 360) (hs : s ≤ 99) (ht : t < 60) : ∀ (m w f g : Nat) (σ μ : xS2), w + m = 5 → 0 < w → m < f → m < g → xPl σ μ → xNx σ μ → σ.1 20 i = nI s → μ.1 63 i = nI s →
    ∃ σ' μ', J_X4_goOn_50 kc f (nI t) (σ.1 2 (72 + t)) (σ.1 2 (132 + t)) (nI i) (nI w) σ = kc (nI t) (σ.1 2 (72 + t)) (σ.1 2 (132 + t)) (nI (i + 1)) σ' ∧ J_X9_goOn_67 km g (nI t) (nI i) (nI (i / 10)) (nI w) μ = km (nI t) (nI (i + 1)) μ' ∧ xPl σ' μ' ∧ xNx σ' μ' ∧ xFr zNx σ σ' ∧ xFr [(64, 99)] μ μ' := by
  obtain ⟨d10, m10⟩ := ix10 i hi
  have hc : i / 10 < 36 := by omega
  have hd : i % 10 ≤ 9 := by omega
  intro m
  induction m with
  | zero =>
    intro w f g σ μ hw hw0 hf hg hp hx h20 h63
    obtain ⟨f, rfl⟩ : ∃ z, f = z + 1 := ⟨f - 1, by omega⟩
    obtain ⟨g, rfl⟩ : ∃ z, g = z + 1 := ⟨g - 1, by omega⟩
    obtain rfl : w = 5 := by omega
    refine ⟨σ, μ, ?_, ?_, hp, hx, xFr_rf, xFr_rf⟩
    · rw [E_X4_goOn_50, if_pos (by decide)]
      unfold J_X4_goOn_114
      rw [nI_1]
    · rw [E_X9_goOn_67, if_pos (by decide)]
      unfold J_X9_goOn_133
      rw [nI_1]
  | succ m ih =>
    intro w f g σ μ hw hw0 hf hg hp hx h20 h63
    obtain ⟨f, rfl⟩ : ∃ z, f = z + 1 := ⟨f - 1, by omega⟩
    obtain ⟨g, rfl⟩ : ∃ z, g = z + 1 := ⟨g - 1, by omega⟩
    have n4 : ¬ (4 : Int32) < nI w := k_nlt (x := (4 : Int32)) 4 rfl (by decide) (by omega) (by omega)
    obtain ⟨σp, hσp⟩ : ∃ z, z = yI (yI (yI σ 22 0 (nI (i / 10))) 22 1 (nI s)) 22 2 (nI (i % 10)) := ⟨_, rfl⟩
    have fp : xFr zNx σ σp := by rw [hσp]; exact xFr_yI (xFr_yI (xFr_yI xFr_rf rfl) rfl) rfl
    have p0 : σp.1 22 0 = nI (i / 10) := by rw [hσp]; rfl
    have p1 : σp.1 22 1 = nI s := by rw [hσp]; rfl
    have p2 : σp.1 22 2 = nI (i % 10) := by rw [hσp]; rfl
    have p20 : ∀ k, σp.1 20 k = σ.1 20 k := fun k => (fp 20 k rfl).1
    have p21 : ∀ k, σp.1 21 k = σ.1 21 k := fun k => by rw [hσp]; rfl
    have p2' : ∀ k, σp.1 2 k = σ.1 2 k := fun k => (fp 2 k rfl).1
    have kc1 : J_X4_goOn_50 kc (f + 1) (nI t) (σ.1 2 (72 + t)) (σ.1 2 (132 + t)) (nI i) (nI w) σ = (J_X0_liveUnder 22 (nI t) (nI w) (σ.1 2 (72 + t)) (σ.1 2 (132 + t)) σp).bind fun x11 => if xb x11.1 = 0 then J_X4_goOn_50 kc f (nI t) (σ.1 2 (72 + t)) (σ.1 2 (132 + t)) (nI i) (nI (w + 1)) x11.2 else (J_X4_arrive 21 22 x11.2).bind fun x13 => J_X4_goOn_50 kc f (nI t) (σ.1 2 (72 + t)) (σ.1 2 (132 + t)) (nI i) (nI (w + 1)) x13 := by
      rw [E_X4_goOn_50, if_neg n4, c_xin hi (by decide), xgd_t, nI_c (by omega), d10, m10, h20]
      unfold J_X0_place J_X4_goOn_108
      rw [Option.bind_some, ← hσp, nI_1]
    have km1 : J_X9_goOn_67 km (g + 1) (nI t) (nI i) (nI (i / 10)) (nI w) μ = if xNb (i / 10) w < 36 then (J_X9_costOf (nI (i / 10)) (nI w) μ).bind fun x14 => if nI s < x14 then J_X9_goOn_67 km g (nI t) (nI i) (nI (i / 10)) (nI (w + 1)) μ else (J_X9_costOf (nI (i / 10)) (nI w) μ).bind fun x18 => (J_X9_come (nI (xNb (i / 10) w)) (nI s - x18) (nI (i % 10)) (nI t) μ).bind fun x19 => J_X9_goOn_67 km g (nI t) (nI i) (nI (i / 10)) (nI (w + 1)) x19 else J_X9_goOn_67 km g (nI t) (nI i) (nI (i / 10)) (nI (w + 1)) μ := by
      rw [E_X9_goOn_67, if_neg n4, X9_nb _ hc w (by omega) hw0]
      unfold J_X9_goOn_127 xNbI
      rw [nI_1]
      by_cases q : xNb (i / 10) w < 36
      · rw [if_pos q, if_pos q, if_neg (nI_pos (by omega)), c_xin hi (by decide), xgd_t, nI_c (by omega), h63, m10]
        simp only [xgd_t]
      · rw [if_neg q, if_neg q, if_pos (by decide)]
    have hp1 : xPl σp μ := xPl_22 hp fp xFr_rf
    -- the order could not be: nothing comes
    have no : ∀ τ, J_X0_liveUnder 22 (nI t) (nI w) (σ.1 2 (72 + t)) (σ.1 2 (132 + t)) σp = some (false, τ) → J_X9_goOn_67 km (g + 1) (nI t) (nI i) (nI (i / 10)) (nI w) μ = J_X9_goOn_67 km g (nI t) (nI i) (nI (i / 10)) (nI (w + 1)) μ → ∃ σ' μ', J_X4_goOn_50 kc (f + 1) (nI t) (σ.1 2 (72 + t)) (σ.1 2 (132 + t)) (nI i) (nI w) σ = kc (nI t) (σ.1 2 (72 + t)) (σ.1 2 (132 + t)) (nI (i + 1)) σ' ∧ J_X9_goOn_67 km (g + 1) (nI t) (nI i) (nI (i / 10)) (nI w) μ = km (nI t) (nI (i + 1)) μ' ∧ xPl σ' μ' ∧ xNx σ' μ' ∧ xFr zNx σ σ' ∧ xFr [(64, 99)] μ μ' := by
      intro τ h1 h2
      have f1 := F_X0_liveUnder h1
      have fσ : xFr zNx σ τ := xFr_tr fp f1 (by decide)
      obtain ⟨σ', μ', r1, r2, r3, r4, r5, r6⟩ := ih (w + 1) f g τ μ (by omega) (by omega) (by omega) (by omega) (xPl_22 hp fσ xFr_rf) (fun k hk => by rw [(f1 21 k rfl).1, p21]; exact hx k hk) (by rw [(fσ 20 i rfl).1]; exact h20) h63
      rw [(fσ 2 (72 + t) rfl).1, (fσ 2 (132 + t) rfl).1] at r1
      refine ⟨σ', μ', ?_, h2.trans r2, r3, r4, xFr_tq fσ r5, r6⟩
      rw [kc1, h1, Option.bind_some, if_pos xb_f]
      exact r1
    obtain ⟨lw1, lw2⟩ := lu_way (σ := σp) (p := 0) (t := nI t) (u := σ.1 2 (72 + t)) (v := σ.1 2 (132 + t)) hc hw0 (show w < 5 by omega) p0 p1 hs
    by_cases q : xNb (i / 10) w < 36
    · obtain ⟨p, hp60, ep1, ep2⟩ := price_at hp1 hc q
      have hcost : J_X9_costOf (nI (i / 10)) (nI w) μ = some (nI p) := by rw [X9_costOf hc (by omega) hw0 q, ep2]
      rw [if_pos q, hcost, Option.bind_some, Option.bind_some] at km1
      by_cases z : s < p
      · rw [if_pos (c_lt (by omega) (by omega) z)] at km1
        obtain ⟨τ, hτ⟩ := lw2 (fun _ => ⟨p, hp60, ep1, z⟩)
        exact no τ hτ km1
      · rw [if_neg (c_nlt (by omega) (by omega) (by omega)), nI_sub (by omega) (by omega)] at km1
        obtain ⟨τ, hτ, t0, t1, t2⟩ := lw1 p hp60 q ep1 (by omega)
        have f1 := F_X0_liveUnder hτ
        have fσ : xFr zNx σ τ := xFr_tr fp f1 (by decide)
        have e2 : ∀ k, τ.1 2 k = σ.1 2 k := fun k => (fσ 2 k rfl).1
        have hol : xHollow (σp.1 2) (xNb (i / 10) w) = xHollow (τ.1 2) (xNb (i / 10) w) := xHollow_eq q (fun k _ => by rw [p2', e2])
        rw [p2, hol, ← e2 (72 + t)] at t1
        rw [p2, hol, ← e2 (132 + t)] at t2
        obtain ⟨σ2, μ2, a1, a2, a3⟩ := arr_eq (s := s - p) q hd ht (xPl_22 hp fσ xFr_rf) (fun k hk => by rw [(f1 21 k rfl).1, p21]; exact hx k hk) t0 t1 t2
        have g1 : xFr zNx σ σ2 := xFr_tr fσ (F_X4_arrive a1) (by decide)
        have g2 := F_X9_come a2
        obtain ⟨σ', μ', r1, r2, r3, r4, r5, r6⟩ := ih (w + 1) f g σ2 μ2 (by omega) (by omega) (by omega) (by omega) (xPl_22 hp g1 g2) a3 (by rw [(g1 20 i rfl).1]; exact h20) (by rw [(g2 63 i rfl).1]; exact h63)
        rw [(g1 2 (72 + t) rfl).1, (g1 2 (132 + t) rfl).1] at r1
        refine ⟨σ', μ', ?_, ?_, r3, r4, xFr_tq g1 r5, xFr_tq g2 r6⟩
        · rw [kc1, hτ, Option.bind_some, if_neg xb_nt, a1, Option.bind_some]
          exact r1
        · rw [km1, a2, Option.bind_some]
          exact r2
    · rw [if_neg q] at km1
      obtain ⟨τ, hτ⟩ := lw2 (fun h => absurd h q)
      exact no τ hτ km1
/-- the stores now, by cell and dust -/
def xNw (σ μ : xS2) : Prop := ∀ k, k < 360 → μ.1 63 k = σ.1 20 k ∧ (σ.1 20 k = -1 ∨ xRg (σ.1 20 k) 0 99)
theorem row_on {t : Nat} (ht : t < 60) : ∀ (m i f g : Nat) (σ μ : xS2), i + m = 360 → m < f → m < g → xPl σ μ → xNw σ μ → xNx σ μ →
    ∃ σ' μ', J_X4_goOn_24 f (nI t) (σ.1 2 (72 + t)) (σ.1 2 (132 + t)) (nI i) σ = some (yCI σ' 21 0 20 0 360) ∧ J_X9_goOn_24 g (nI t) (nI i) μ = J_X9_goOn_141 xFU 0 μ' ∧ xNx σ' μ' ∧ xFr zNx σ σ' ∧ xFr [(64, 99)] μ μ' := by
  intro m
  induction m with
  | zero =>
    intro i f g σ μ hi hf hg hp hw hx
    obtain ⟨f, rfl⟩ : ∃ z, f = z + 1 := ⟨f - 1, by omega⟩
    obtain ⟨g, rfl⟩ : ∃ z, g = z + 1 := ⟨g - 1, by omega⟩
    obtain rfl : i = 360 := by omega
    refine ⟨σ, μ, ?_, ?_, hx, xFr_rf, xFr_rf⟩
    · rw [E_X4_goOn_24, if_pos (by decide), show xcg 0 0 360 360 360 = true from by decide, xgd_t]
      rfl
    · rw [E_X9_goOn_24, if_pos (by decide)]
  | succ m ih =>
    intro i f g σ μ hi hf hg hp hw hx
    obtain ⟨f, rfl⟩ : ∃ z, f = z + 1 := ⟨f - 1, by omega⟩
    obtain ⟨g, rfl⟩ : ∃ z, g = z + 1 := ⟨g - 1, by omega⟩
    have hi36 : i < 360 := by omega
    obtain ⟨d10, m10⟩ := ix10 i hi36
    have hc : i / 10 < 36 := by omega
    have hd : i % 10 ≤ 9 := by omega
    have n3 : ¬ (360 : Int32) ≤ nI i := k_nle (x := (360 : Int32)) 360 rfl (by decide) (by omega) hi36
    obtain ⟨w1, w2⟩ := hw i hi36
    rcases w2 with w2 | w2
    · have kc : J_X4_goOn_24 (f + 1) (nI t) (σ.1 2 (72 + t)) (σ.1 2 (132 + t)) (nI i) σ = J_X4_goOn_24 f (nI t) (σ.1 2 (72 + t)) (σ.1 2 (132 + t)) (nI (i + 1)) σ := by
        rw [E_X4_goOn_24, if_neg n3, c_xin hi36 (by decide), xgd_t, nI_c (by omega), w2, if_neg (by decide)]
        unfold J_X4_goOn_114
        rw [nI_1]
      have km : J_X9_goOn_24 (g + 1) (nI t) (nI i) μ = J_X9_goOn_24 g (nI t) (nI (i + 1)) μ := by
        rw [E_X9_goOn_24, if_neg n3, c_xin hi36 (by decide), xgd_t, nI_c (by omega), w1, w2, if_neg (by decide)]
        unfold J_X9_goOn_133
        rw [nI_1]
      rw [kc, km]
      exact ih (i + 1) f g σ μ (by omega) (by omega) (by omega) hp hw hx
    · obtain ⟨s, hs, es⟩ := xRg_at (l := 99) w2
      have n0 : (0 : Int32) ≤ nI s := nI_pos' (by omega)
      -- it stays
      obtain ⟨σp, hσp⟩ : ∃ z, z = yI (yI (yI σ 22 0 (nI (i / 10))) 22 1 (nI s)) 22 2 (nI (i % 10)) := ⟨_, rfl⟩
      have fp : xFr zNx σ σp := by rw [hσp]; exact xFr_yI (xFr_yI (xFr_yI xFr_rf rfl) rfl) rfl
      have p0 : σp.1 22 0 = nI (i / 10) := by rw [hσp]; rfl
      have p1 : σp.1 22 1 = nI s := by rw [hσp]; rfl
      have p2 : σp.1 22 2 = nI (i % 10) := by rw [hσp]; rfl
      have p21 : ∀ k, σp.1 21 k = σ.1 21 k := fun k => by rw [hσp]; rfl
      obtain ⟨τ, hτ, t0, t1, t2⟩ := lu_stay (σ := σp) (t := nI t) (u := σ.1 2 (72 + t)) (v := σ.1 2 (132 + t)) hc p0
      have f1 := F_X0_liveUnder hτ
      have fσ : xFr zNx σ τ := xFr_tr fp f1 (by decide)
      have e2 : ∀ k, τ.1 2 k = σ.1 2 k := fun k => (fσ 2 k rfl).1
      have hol : xHollow (σp.1 2) (i / 10) = xHollow (τ.1 2) (i / 10) := xHollow_eq hc (fun k _ => by rw [e2, (fp 2 k rfl).1])
      rw [p1, p2, hol, ← e2 (72 + t)] at t1
      rw [p2, hol, ← e2 (132 + t)] at t2
      obtain ⟨σ2, μ2, a1, a2, a3⟩ := arr_eq (s := s) hc hd ht (xPl_22 hp fσ xFr_rf) (fun k hk => by rw [(f1 21 k rfl).1, p21]; exact hx k hk) t0 t1 t2
      have g1 : xFr zNx σ σ2 := xFr_tr fσ (F_X4_arrive a1) (by decide)
      have g2 := F_X9_come a2
      obtain ⟨σ3, μ3, b1, b2, b3, b4, b5, b6⟩ := way_on (kc := J_X4_goOn_24 f) (km := J_X9_goOn_24 g) hi36 hs ht 4 1 1999 xFU σ2 μ2 (by omega) (by omega) (by omega) (by show 4 < 2000; omega) (xPl_22 hp g1 g2) a3 (by rw [(g1 20 i rfl).1]; exact es) (by rw [(g2 63 i rfl).1, w1]; exact es)
      have g13 : xFr zNx σ σ3 := xFr_tq g1 b5
      have g23 : xFr [(64, 99)] μ μ3 := xFr_tq g2 b6
      rw [(g1 2 (72 + t) rfl).1, (g1 2 (132 + t) rfl).1] at b1
      have kc : J_X4_goOn_24 (f + 1) (nI t) (σ.1 2 (72 + t)) (σ.1 2 (132 + t)) (nI i) σ = J_X4_goOn_24 f (nI t) (σ.1 2 (72 + t)) (σ.1 2 (132 + t)) (nI (i + 1)) σ3 := by
        rw [E_X4_goOn_24, if_neg n3, c_xin hi36 (by decide), xgd_t, nI_c (by omega), es, if_pos n0]
        show J_X4_goOn_50 (J_X4_goOn_24 f) (1999 + 1) (nI t) (σ.1 2 (72 + t)) (σ.1 2 (132 + t)) (nI i) (nI 0) σ = _
        rw [E_X4_goOn_50, if_neg (show ¬ (4 : Int32) < nI 0 by decide), c_xin hi36 (by decide), xgd_t, nI_c (by omega), d10, m10, es]
        unfold J_X0_place J_X4_goOn_108
        rw [Option.bind_some, ← hσp, hτ, Option.bind_some, if_neg xb_nt, a1, Option.bind_some]
        exact b1
      have km : J_X9_goOn_24 (g + 1) (nI t) (nI i) μ = J_X9_goOn_24 g (nI t) (nI (i + 1)) μ3 := by
        rw [E_X9_goOn_24, if_neg n3, c_xin hi36 (by decide), xgd_t, nI_c (by omega), w1, es, if_pos n0, xgd_t, d10, m10, a2, Option.bind_some]
        exact b2
      rw [kc, km]
      obtain ⟨σ', μ', r1, r2, r3, r4, r5⟩ := ih (i + 1) f g σ3 μ3 (by omega) (by omega) (by omega) b3 (fun k hk => by rw [(g13 20 k rfl).1, (g23 63 k rfl).1]; exact hw k hk) b4
      rw [(g13 2 (72 + t) rfl).1, (g13 2 (132 + t) rfl).1] at r1
      exact ⟨σ', μ', r1, r2, r3, xFr_tq g13 r4, xFr_tq g23 r5⟩
