/-! What a method leaves as it was: xFr l: all but the places that l names (99: the whole object). -/
def xWn (l : List (Nat × Nat)) (o k : Nat) : Bool := l.any fun q => q.1 == o && (q.2 == 99 || q.2 == k)
def xFr (l : List (Nat × Nat)) (σ τ : xS2) : Prop := ∀ o k, xWn l o k = false → τ.1 o k = σ.1 o k ∧ τ.2 o k = σ.2 o k
theorem xFr_rf {l : List (Nat × Nat)} {σ : xS2} : xFr l σ σ := fun _ _ _ => ⟨rfl, rfl⟩
theorem xFr_tq {l : List (Nat × Nat)} {σ ρ τ : xS2} (h1 : xFr l σ ρ) (h2 : xFr l ρ τ) : xFr l σ τ := fun o k h => ⟨(h2 o k h).1.trans (h1 o k h).1, (h2 o k h).2.trans (h1 o k h).2⟩
theorem xWn_sub {l l2 : List (Nat × Nat)} (hs : ∀ q ∈ l2, q ∈ l) {o k : Nat} (h : xWn l o k = false) : xWn l2 o k = false := by
  simp only [xWn, List.any_eq_false] at h ⊢
  exact fun q hq => h q (hs q hq)
theorem xFr_tr {l l2 : List (Nat × Nat)} {σ ρ τ : xS2} (h1 : xFr l σ ρ) (h2 : xFr l2 ρ τ) (hs : ∀ q ∈ l2, q ∈ l) : xFr l σ τ := fun o k h =>
  ⟨(h2 o k (xWn_sub hs h)).1.trans (h1 o k h).1, (h2 o k (xWn_sub hs h)).2.trans (h1 o k h).2⟩
theorem xFr_yI {l : List (Nat × Nat)} {σ ρ : xS2} {o k : Nat} {v : Int32} (h1 : xFr l σ ρ) (hw : xWn l o k = true) : xFr l σ (yI ρ o k v) := by
  intro a b h
  refine ⟨Eq.trans ?_ (h1 a b h).1, (h1 a b h).2⟩
  show xup ρ.1 o k v a b = ρ.1 a b
  unfold xup
  by_cases ha : a = o
  · by_cases hb : b = k
    · rw [ha, hb, hw] at h; cases h
    · rw [if_pos ha, if_neg hb]
  · rw [if_neg ha]
theorem xFr_yL {l : List (Nat × Nat)} {σ ρ : xS2} {o k : Nat} {v : Int64} (h1 : xFr l σ ρ) (hw : xWn l o k = true) : xFr l σ (yL ρ o k v) := by
  intro a b h
  refine ⟨(h1 a b h).1, Eq.trans ?_ (h1 a b h).2⟩
  show xup ρ.2 o k v a b = ρ.2 a b
  unfold xup
  by_cases ha : a = o
  · by_cases hb : b = k
    · rw [ha, hb, hw] at h; cases h
    · rw [if_pos ha, if_neg hb]
  · rw [if_neg ha]
theorem xFr_yCI {l : List (Nat × Nat)} {σ ρ : xS2} {s o i j n : Nat} (h1 : xFr l σ ρ) (hw : ∀ k, xWn l o k = true) : xFr l σ (yCI ρ s i o j n) := by
  intro a b h
  refine ⟨Eq.trans ?_ (h1 a b h).1, (h1 a b h).2⟩
  show xcp ρ.1 s i o j n a b = ρ.1 a b
  unfold xcp
  by_cases ha : a = o
  · rw [ha, hw b] at h; cases h
  · rw [if_neg ha]
theorem xFr_yCL {l : List (Nat × Nat)} {σ ρ : xS2} {s o i j n : Nat} (h1 : xFr l σ ρ) (hw : ∀ k, xWn l o k = true) : xFr l σ (yCL ρ s i o j n) := by
  intro a b h
  refine ⟨(h1 a b h).1, Eq.trans ?_ (h1 a b h).2⟩
  show xcp ρ.2 s i o j n a b = ρ.2 a b
  unfold xcp
  by_cases ha : a = o
  · rw [ha, hw b] at h; cases h
  · rw [if_neg ha]
theorem xite_or {α : Type} {c : Prop} [Decidable c] {a b r : α} (h : (if c then a else b) = r) : (c ∧ a = r) ∨ (¬ c ∧ b = r) := by
  by_cases hc : c
  · rw [if_pos hc] at h; exact Or.inl ⟨hc, h⟩
  · rw [if_neg hc] at h; exact Or.inr ⟨hc, h⟩
theorem xite_ro {α : Type} {c : Prop} [Decidable c] {a b r : α} (h : (if c then a else b) = r) : (¬ c ∧ b = r) ∨ (c ∧ a = r) := (xite_or h).symm
set_option maxRecDepth 100000 in
set_option maxHeartbeats 4000000 in
theorem FB_J7_fill_53178_5 {τ : xS2} : ∀ (f : Nat) (l0 : Nat) (l1 : Int32) (l2 : Int32) (l3 : Int32) (σ : xS2), J_J7_fill_53178_5 f l0 l1 l2 l3 σ = some τ → xFr [(l0, 99)] σ τ := by
  intro f
  induction f with
  | zero => intro l0 l1 l2 l3 σ h; cases h
  | succ f ih =>
    intro l0 l1 l2 l3 σ h
    rcases xite_or h with ⟨-, h⟩ | ⟨-, h⟩
    · skip
      have e1 := Option.some.inj h
      subst e1
      exact xFr_rf
    · skip
      obtain ⟨-, h⟩ := xgd_some h
      exact xFr_tq (xFr_yI xFr_rf (by simp [xWn])) (ih l0 l1 (l2 + (1 : Int32)) l3 (yI σ l0 l2.toNatClampNeg l1) h)
set_option maxRecDepth 100000 in
set_option maxHeartbeats 4000000 in
theorem F_J7_fill_53178 {a0 : Nat} {a1 : Int32} {σ : xS2} {τ : xS2} (h : J_J7_fill_53178 a0 a1 σ = some τ) : xFr [(a0, 99)] σ τ := by
  exact xFr_tq xFr_rf (FB_J7_fill_53178_5 xFU a0 a1 (0 : Int32) (Int32.ofNat (xSH a0).2) σ h)
set_option maxRecDepth 100000 in
set_option maxHeartbeats 4000000 in
theorem FB_J7_fill_d0a16_6 {τ : xS2} : ∀ (f : Nat) (l0 : Nat) (l1 : Int64) (l3 : Int32) (l4 : Int32) (σ : xS2), J_J7_fill_d0a16_6 f l0 l1 l3 l4 σ = some τ → xFr [(l0, 99)] σ τ := by
  intro f
  induction f with
  | zero => intro l0 l1 l3 l4 σ h; cases h
  | succ f ih =>
    intro l0 l1 l3 l4 σ h
    rcases xite_or h with ⟨-, h⟩ | ⟨-, h⟩
    · skip
      have e1 := Option.some.inj h
      subst e1
      exact xFr_rf
    · skip
      obtain ⟨-, h⟩ := xgd_some h
      exact xFr_tq (xFr_yL xFr_rf (by simp [xWn])) (ih l0 l1 (l3 + (1 : Int32)) l4 (yL σ l0 l3.toNatClampNeg l1) h)
set_option maxRecDepth 100000 in
set_option maxHeartbeats 4000000 in
theorem F_J7_fill_d0a16 {a0 : Nat} {a1 : Int64} {σ : xS2} {τ : xS2} (h : J_J7_fill_d0a16 a0 a1 σ = some τ) : xFr [(a0, 99)] σ τ := by
  exact xFr_tq xFr_rf (FB_J7_fill_d0a16_6 xFU a0 a1 (0 : Int32) (Int32.ofNat (xSH a0).2) σ h)
set_option maxRecDepth 100000 in
set_option maxHeartbeats 4000000 in
theorem F_X0_place {a0 : Nat} {a1 : Int32} {a2 : Int32} {a3 : Int32} {σ : xS2} {τ : xS2} (h : J_X0_place a0 a1 a2 a3 σ = some τ) : xFr [(a0, 0), (a0, 1), (a0, 2)] σ τ := by
  have e1 := Option.some.inj h
  subst e1
  exact (xFr_yI (xFr_yI (xFr_yI xFr_rf (by simp [xWn])) (by simp [xWn])) (by simp [xWn]))
set_option maxRecDepth 100000 in
set_option maxHeartbeats 4000000 in
theorem F_X0_become {a0 : Nat} {a1 : Nat} {σ : xS2} {τ : xS2} (h : J_X0_become a0 a1 σ = some τ) : xFr [(a0, 0), (a0, 1), (a0, 2), (a0, 3)] σ τ := by
  obtain ⟨x1, h1, h⟩ := Option.bind_eq_some_iff.mp h
  have e1 := Option.some.inj h
  subst e1
  exact (xFr_yL (xFr_tr xFr_rf (F_X0_place h1) (by simp)) (by simp [xWn]))
set_option maxRecDepth 100000 in
set_option maxHeartbeats 4000000 in
theorem F_X0_lookAround {a0 : Nat} {σ : xS2} {r : Bool} {τ : xS2} (h : J_X0_lookAround a0 σ = some (r, τ)) : xFr [(a0, 1), (a0, 3)] σ τ := by
  rcases xite_or h with ⟨-, h⟩ | ⟨-, h⟩
  · skip
    obtain ⟨e1, e2⟩ := xso2 h
    subst e1
    subst e2
    exact xFr_rf
  · skip
    obtain ⟨x2, h2, h⟩ := Option.bind_eq_some_iff.mp h
    rcases xite_ro h with ⟨-, h⟩ | ⟨-, h⟩
    · skip
      obtain ⟨e1, e2⟩ := xso2 h
      subst e1
      subst e2
      exact (xFr_yL (xFr_yI xFr_rf (by simp [xWn])) (by simp [xWn]))
    · skip
      obtain ⟨e1, e2⟩ := xso2 h
      subst e1
      subst e2
      exact xFr_rf
set_option maxRecDepth 100000 in
set_option maxHeartbeats 4000000 in
theorem F_X0_move {a0 : Nat} {a2 : Int32} {σ : xS2} {r : Bool} {τ : xS2} (h : J_X0_move a0 a2 σ = some (r, τ)) : xFr [(a0, 0), (a0, 1)] σ τ := by
  rcases xite_or h with ⟨-, h⟩ | ⟨-, h⟩
  · skip
    obtain ⟨x3, h3, h⟩ := Option.bind_eq_some_iff.mp h
    rcases xite_or h with ⟨-, h⟩ | ⟨-, h⟩
    · skip
      obtain ⟨e1, e2⟩ := xso2 h
      subst e1
      subst e2
      exact (xFr_yI (xFr_yI xFr_rf (by simp [xWn])) (by simp [xWn]))
    · skip
      obtain ⟨e1, e2⟩ := xso2 h
      subst e1
      subst e2
      exact xFr_rf
  · skip
    obtain ⟨e1, e2⟩ := xso2 h
    subst e1
    subst e2
    exact xFr_rf
set_option maxHeartbeats 4000000 in
theorem F_X0_liveUnder_31 {l0 : Nat} {l2 l4 l5 : Int32} {s0 : Bool} {σ : xS2} {r : Bool} {τ : xS2} (h : J_X0_liveUnder_31 l0 l2 l4 l5 s0 σ = some (r, τ)) : xFr [(l0, 0), (l0, 1), (l0, 2), (l0, 3)] σ τ := by
  unfold J_X0_liveUnder_31 J_X0_liveUnder_80 J_X0_liveUnder_122 at h
  obtain ⟨x, -, h⟩ := Option.bind_eq_some_iff.mp h
  rcases xite_or h with ⟨-, h⟩ | ⟨-, h⟩ <;> rcases xite_or h with ⟨-, h⟩ | ⟨-, h⟩ <;> rcases xite_or h with ⟨-, h⟩ | ⟨-, h⟩ <;>
    first
    | (obtain ⟨e1, e2⟩ := xso2 h; subst e2; repeat (first | exact xFr_rf | refine xFr_yI ?_ (by simp [xWn])))
    | (rcases xite_or h with ⟨-, h⟩ | ⟨-, h⟩ <;> (obtain ⟨e1, e2⟩ := xso2 h; subst e2; repeat (first | exact xFr_rf | refine xFr_yI ?_ (by simp [xWn]))))
theorem F_X0_liveUnder {a0 : Nat} {a2 a3 a4 a5 : Int32} {σ : xS2} {r : Bool} {τ : xS2} (h : J_X0_liveUnder a0 a2 a3 a4 a5 σ = some (r, τ)) : xFr [(a0, 0), (a0, 1), (a0, 2), (a0, 3)] σ τ := by
  unfold J_X0_liveUnder J_X0_liveUnder_26 at h
  rcases xite_or h with ⟨-, h⟩ | ⟨-, h⟩
  · obtain ⟨x, hx, h⟩ := Option.bind_eq_some_iff.mp h
    exact xFr_tq (xFr_tr xFr_rf (F_X0_lookAround hx) (by simp)) (F_X0_liveUnder_31 h)
  · rcases xite_or h with ⟨-, h⟩ | ⟨-, h⟩
    · exact F_X0_liveUnder_31 h
    · obtain ⟨x, hx, h⟩ := Option.bind_eq_some_iff.mp h
      rcases xite_or h with ⟨-, h⟩ | ⟨-, h⟩ <;> exact xFr_tq (xFr_tr xFr_rf (F_X0_move hx) (by simp)) (F_X0_liveUnder_31 h)
set_option maxRecDepth 100000 in
set_option maxHeartbeats 4000000 in
theorem F_X0_live {a0 : Nat} {a2 : Int32} {a3 : Int32} {σ : xS2} {r : Bool} {τ : xS2} (h : J_X0_live a0 a2 a3 σ = some (r, τ)) : xFr [(a0, 0), (a0, 1), (a0, 2), (a0, 3)] σ τ := by
  obtain ⟨x1, h1, h⟩ := Option.bind_eq_some_iff.mp h
  obtain ⟨x2, h2, h⟩ := Option.bind_eq_some_iff.mp h
  obtain ⟨x3, h3, h⟩ := Option.bind_eq_some_iff.mp h
  obtain ⟨e1, e2⟩ := xso2 h
  subst e1
  subst e2
  exact (xFr_tr xFr_rf (F_X0_liveUnder h3) (by simp))
set_option maxRecDepth 100000 in
set_option maxHeartbeats 4000000 in
theorem F_X3_tell {a1 : Int32} {a2 : Int32} {σ : xS2} {τ : xS2} (h : J_X3_tell a1 a2 σ = some τ) : xFr [(2, 99)] σ τ := by
  rcases xite_or h with ⟨-, h⟩ | ⟨-, h⟩
  · skip
    have e1 := Option.some.inj h
    subst e1
    exact xFr_rf
  · skip
    rcases xite_or h with ⟨-, h⟩ | ⟨-, h⟩
    · skip
      have e1 := Option.some.inj h
      subst e1
      exact xFr_rf
    · skip
      obtain ⟨-, h⟩ := xgd_some h
      have e1 := Option.some.inj h
      subst e1
      exact (xFr_yI xFr_rf rfl)
set_option maxRecDepth 100000 in
set_option maxHeartbeats 4000000 in
theorem F_X1_bringBack {σ : xS2} {r : Bool} {τ : xS2} (h : J_X1_bringBack σ = some (r, τ)) : xFr [(2, 99), (23, 3)] σ τ := by
  rcases xite_or h with ⟨-, h⟩ | ⟨-, h⟩
  · skip
    obtain ⟨-, h⟩ := xgd_some h
    obtain ⟨-, h⟩ := xgd_some h
    obtain ⟨x4, h4, h⟩ := Option.bind_eq_some_iff.mp h
    obtain ⟨e1, e2⟩ := xso2 h
    subst e1
    subst e2
    exact (xFr_yI (xFr_tr xFr_rf (F_X3_tell h4) (by simp)) rfl)
  · skip
    obtain ⟨e1, e2⟩ := xso2 h
    subst e1
    subst e2
    exact xFr_rf
set_option maxRecDepth 100000 in
set_option maxHeartbeats 4000000 in
theorem F_X1_dropOldest {σ : xS2} {τ : xS2} (h : J_X1_dropOldest σ = some τ) : xFr [(23, 3), (24, 99), (25, 99), (26, 99)] σ τ := by
  obtain ⟨-, h⟩ := xgd_some h
  obtain ⟨-, h⟩ := xgd_some h
  obtain ⟨-, h⟩ := xgd_some h
  have e1 := Option.some.inj h
  subst e1
  exact (xFr_yCI (xFr_yCI (xFr_yCI (xFr_yI xFr_rf rfl) (fun _ => rfl)) (fun _ => rfl)) (fun _ => rfl))
set_option maxRecDepth 100000 in
set_option maxHeartbeats 4000000 in
theorem FB_X1_note_13 {τ : xS2} : ∀ (l1 : Int32) (l2 : Int32) (l3 : Int32) (σ : xS2), J_X1_note_13 l1 l2 l3 σ = some τ → xFr [(23, 3), (23, 4), (24, 99), (25, 99), (26, 99)] σ τ := by
  intro l1 l2 l3 σ h
  obtain ⟨-, h⟩ := xgd_some h
  obtain ⟨-, h⟩ := xgd_some h
  obtain ⟨-, h⟩ := xgd_some h
  have e1 := Option.some.inj h
  subst e1
  exact (xFr_yI (xFr_yI (xFr_yI (xFr_yI (xFr_yI xFr_rf rfl) rfl) rfl) rfl) rfl)
set_option maxRecDepth 100000 in
set_option maxHeartbeats 4000000 in
theorem F_X1_note {a1 : Int32} {a2 : Int32} {a3 : Int32} {σ : xS2} {τ : xS2} (h : J_X1_note a1 a2 a3 σ = some τ) : xFr [(23, 3), (23, 4), (24, 99), (25, 99), (26, 99)] σ τ := by
  rcases xite_or h with ⟨-, h⟩ | ⟨-, h⟩
  · skip
    exact xFr_tq xFr_rf (FB_X1_note_13 a1 a2 a3 σ h)
  · skip
    obtain ⟨x5, h5, h⟩ := Option.bind_eq_some_iff.mp h
    exact xFr_tq (xFr_tr xFr_rf (F_X1_dropOldest h5) (by simp)) (FB_X1_note_13 a1 a2 a3 x5 h)
set_option maxRecDepth 100000 in
set_option maxHeartbeats 4000000 in
theorem F_X1_takeBack {σ : xS2} {r : Bool} {τ : xS2} (h : J_X1_takeBack σ = some (r, τ)) : xFr [(2, 99), (23, 3)] σ τ := by
  rcases xite_or h with ⟨-, h⟩ | ⟨-, h⟩
  · skip
    obtain ⟨-, h⟩ := xgd_some h
    obtain ⟨-, h⟩ := xgd_some h
    obtain ⟨x4, h4, h⟩ := Option.bind_eq_some_iff.mp h
    obtain ⟨e1, e2⟩ := xso2 h
    subst e1
    subst e2
    exact (xFr_tr (xFr_yI xFr_rf rfl) (F_X3_tell h4) (by simp))
  · skip
    obtain ⟨e1, e2⟩ := xso2 h
    subst e1
    subst e2
    exact xFr_rf
set_option maxRecDepth 100000 in
set_option maxHeartbeats 4000000 in
theorem F_X2_pass {a1 : Int32} {σ : xS2} {r : Bool} {τ : xS2} (h : J_X2_pass a1 σ = some (r, τ)) : xFr [(8, 7)] σ τ := by
  obtain ⟨x1, h1, h⟩ := Option.bind_eq_some_iff.mp h
  rcases xite_or h with ⟨-, h⟩ | ⟨-, h⟩
  · skip
    obtain ⟨e1, e2⟩ := xso2 h
    subst e1
    subst e2
    exact (xFr_yI xFr_rf rfl)
  · skip
    obtain ⟨e1, e2⟩ := xso2 h
    subst e1
    subst e2
    exact xFr_rf
set_option maxRecDepth 100000 in
set_option maxHeartbeats 4000000 in
theorem F_X2_write {a1 : Int32} {σ : xS2} {τ : xS2} (h : J_X2_write a1 σ = some τ) : xFr [(10, 99), (8, 4)] σ τ := by
  rcases xite_or h with ⟨-, h⟩ | ⟨-, h⟩
  · skip
    have e1 := Option.some.inj h
    subst e1
    exact xFr_rf
  · skip
    obtain ⟨-, h⟩ := xgd_some h
    have e1 := Option.some.inj h
    subst e1
    exact (xFr_yI (xFr_yI xFr_rf rfl) rfl)
set_option maxRecDepth 100000 in
set_option maxHeartbeats 4000000 in
theorem FB_X2_readNumber_48 {τ : xS2} : ∀ (l1 : Int32) (σ : xS2), J_X2_readNumber_48 l1 σ = some τ → xFr [(10, 99), (8, 4), (8, 7)] σ τ := by
  intro l1 σ h
  obtain ⟨x2, h2, h⟩ := Option.bind_eq_some_iff.mp h
  have e1 := Option.some.inj h
  subst e1
  exact (xFr_tr xFr_rf (F_X2_write h2) (by simp))
set_option maxRecDepth 100000 in
set_option maxHeartbeats 4000000 in
theorem FB_X2_readNumber_4 {τ : xS2} : ∀ (f : Nat) (l1 : Int32) (l2 : Int32) (σ : xS2), J_X2_readNumber_4 f l1 l2 σ = some τ → xFr [(10, 99), (8, 4), (8, 7)] σ τ := by
  intro f
  induction f with
  | zero => intro l1 l2 σ h; cases h
  | succ f ih =>
    intro l1 l2 σ h
    rcases xite_or h with ⟨-, h⟩ | ⟨-, h⟩
    · skip
      exact xFr_tq xFr_rf (FB_X2_readNumber_48 l1 σ h)
    · skip
      obtain ⟨x3, h3, h⟩ := Option.bind_eq_some_iff.mp h
      rcases xite_or h with ⟨-, h⟩ | ⟨-, h⟩
      · skip
        exact xFr_tq xFr_rf (FB_X2_readNumber_48 l1 σ h)
      · skip
        obtain ⟨x6, h6, h⟩ := Option.bind_eq_some_iff.mp h
        exact xFr_tq (xFr_yI xFr_rf rfl) (ih (((l1 * (10 : Int32)) + x6) - (48 : Int32)) (l2 + (1 : Int32)) (yI σ 8 7 ((σ.1 8 7) + (1 : Int32))) h)
set_option maxRecDepth 100000 in
set_option maxHeartbeats 4000000 in
theorem F_X2_readNumber {σ : xS2} {τ : xS2} (h : J_X2_readNumber σ = some τ) : xFr [(10, 99), (8, 4), (8, 7)] σ τ := by
  exact xFr_tq xFr_rf (FB_X2_readNumber_4 xFU (0 : Int32) (0 : Int32) σ h)
set_option maxRecDepth 100000 in
set_option maxHeartbeats 4000000 in
theorem F_X2_refuse {σ : xS2} {τ : xS2} (h : J_X2_refuse σ = some τ) : xFr [(8, 8)] σ τ := by
  rcases xite_ro h with ⟨-, h⟩ | ⟨-, h⟩
  · skip
    have e1 := Option.some.inj h
    subst e1
    exact xFr_rf
  · skip
    have e1 := Option.some.inj h
    subst e1
    exact (xFr_yI xFr_rf rfl)
set_option maxRecDepth 100000 in
set_option maxHeartbeats 4000000 in
theorem FB_X2_readAnd_7 {τ : xS2} {p_X2_readCompared : (Int32 → xS2 → Option xS2)} (fp_X2_readCompared : ∀ (a1 : Int32) (σ : xS2) (τ : xS2), p_X2_readCompared a1 σ = some τ → xFr [(10, 99), (8, 4), (8, 7), (8, 8)] σ τ) : ∀ (f : Nat) (l1 : Int32) (l2 : Int32) (σ : xS2), J_X2_readAnd_7 p_X2_readCompared f l1 l2 σ = some τ → xFr [(10, 99), (8, 4), (8, 7), (8, 8)] σ τ := by
  intro f
  induction f with
  | zero => intro l1 l2 σ h; cases h
  | succ f ih =>
    intro l1 l2 σ h
    rcases xite_or h with ⟨-, h⟩ | ⟨-, h⟩
    · skip
      have e1 := Option.some.inj h
      subst e1
      exact xFr_rf
    · skip
      obtain ⟨x3, h3, h⟩ := Option.bind_eq_some_iff.mp h
      rcases xite_or h with ⟨-, h⟩ | ⟨-, h⟩
      · skip
        have e1 := Option.some.inj h
        subst e1
        exact (xFr_tr xFr_rf (F_X2_pass h3) (by simp))
      · skip
        obtain ⟨x5, h5, h⟩ := Option.bind_eq_some_iff.mp h
        obtain ⟨x6, h6, h⟩ := Option.bind_eq_some_iff.mp h
        exact xFr_tq (xFr_tr (xFr_tr (xFr_tr xFr_rf (F_X2_pass h3) (by simp)) (fp_X2_readCompared _ _ _ h5) (by simp)) (F_X2_write h6) (by simp)) (ih l1 (l2 + (1 : Int32)) x6 h)
set_option maxRecDepth 100000 in
set_option maxHeartbeats 4000000 in
theorem FD_X2_readAnd {p_X2_readCompared : (Int32 → xS2 → Option xS2)} (fp_X2_readCompared : ∀ (a1 : Int32) (σ : xS2) (τ : xS2), p_X2_readCompared a1 σ = some τ → xFr [(10, 99), (8, 4), (8, 7), (8, 8)] σ τ) {a1 : Int32} {σ : xS2} {τ : xS2} (h : J_X2_readAnd_b p_X2_readCompared a1 σ = some τ) : xFr [(10, 99), (8, 4), (8, 7), (8, 8)] σ τ := by
  obtain ⟨x1, h1, h⟩ := Option.bind_eq_some_iff.mp h
  exact xFr_tq (xFr_tr xFr_rf (fp_X2_readCompared _ _ _ h1) (by simp)) (FB_X2_readAnd_7 fp_X2_readCompared xFU a1 (0 : Int32) x1 h)
set_option maxRecDepth 100000 in
set_option maxHeartbeats 4000000 in
theorem FB_X2_readCompared_28 {τ : xS2} {p_X2_readSum : (Int32 → xS2 → Option xS2)} (fp_X2_readSum : ∀ (a1 : Int32) (σ : xS2) (τ : xS2), p_X2_readSum a1 σ = some τ → xFr [(10, 99), (8, 4), (8, 7), (8, 8)] σ τ) : ∀ (l1 : Int32) (l2 : Int32) (σ : xS2), J_X2_readCompared_28 p_X2_readSum l1 l2 σ = some τ → xFr [(10, 99), (8, 4), (8, 7), (8, 8)] σ τ := by
  intro l1 l2 σ h
  obtain ⟨x4, h4, h⟩ := Option.bind_eq_some_iff.mp h
  obtain ⟨x5, h5, h⟩ := Option.bind_eq_some_iff.mp h
  have e1 := Option.some.inj h
  subst e1
  exact (xFr_tr (xFr_tr (xFr_yI xFr_rf rfl) (fp_X2_readSum _ _ _ h4) (by simp)) (F_X2_write h5) (by simp))
set_option maxRecDepth 100000 in
set_option maxHeartbeats 4000000 in
theorem FD_X2_readCompared {p_X2_readSum : (Int32 → xS2 → Option xS2)} (fp_X2_readSum : ∀ (a1 : Int32) (σ : xS2) (τ : xS2), p_X2_readSum a1 σ = some τ → xFr [(10, 99), (8, 4), (8, 7), (8, 8)] σ τ) {a1 : Int32} {σ : xS2} {τ : xS2} (h : J_X2_readCompared_b p_X2_readSum a1 σ = some τ) : xFr [(10, 99), (8, 4), (8, 7), (8, 8)] σ τ := by
  obtain ⟨x1, h1, h⟩ := Option.bind_eq_some_iff.mp h
  obtain ⟨x2, h2, h⟩ := Option.bind_eq_some_iff.mp h
  rcases xite_or h with ⟨-, h⟩ | ⟨-, h⟩
  · skip
    exact xFr_tq (xFr_tr xFr_rf (fp_X2_readSum _ _ _ h1) (by simp)) (FB_X2_readCompared_28 fp_X2_readSum a1 x2 x1 h)
  · skip
    rcases xite_or h with ⟨-, h⟩ | ⟨-, h⟩
    · skip
      exact xFr_tq (xFr_tr xFr_rf (fp_X2_readSum _ _ _ h1) (by simp)) (FB_X2_readCompared_28 fp_X2_readSum a1 x2 x1 h)
    · skip
      rcases xite_ro h with ⟨-, h⟩ | ⟨-, h⟩
      · skip
        have e1 := Option.some.inj h
        subst e1
        exact (xFr_tr xFr_rf (fp_X2_readSum _ _ _ h1) (by simp))
      · skip
        exact xFr_tq (xFr_tr xFr_rf (fp_X2_readSum _ _ _ h1) (by simp)) (FB_X2_readCompared_28 fp_X2_readSum a1 x2 x1 h)
set_option maxRecDepth 100000 in
set_option maxHeartbeats 4000000 in
theorem FB_X2_readOpened_46 {τ : xS2} {p_X2_readOperand : (Int32 → xS2 → Option xS2)} (fp_X2_readOperand : ∀ (a1 : Int32) (σ : xS2) (τ : xS2), p_X2_readOperand a1 σ = some τ → xFr [(10, 99), (8, 4), (8, 7), (8, 8)] σ τ) {p_X2_readOr : (Int32 → xS2 → Option xS2)} (fp_X2_readOr : ∀ (a1 : Int32) (σ : xS2) (τ : xS2), p_X2_readOr a1 σ = some τ → xFr [(10, 99), (8, 4), (8, 7), (8, 8)] σ τ) : ∀ (s1 : Int32) (σ : xS2), J_X2_readOpened_46 p_X2_readOperand p_X2_readOr s1 σ = some τ → xFr [(10, 99), (8, 4), (8, 7), (8, 8)] σ τ := by
  intro s1 σ h
  obtain ⟨x4, h4, h⟩ := Option.bind_eq_some_iff.mp h
  have e1 := Option.some.inj h
  subst e1
  exact (xFr_tr xFr_rf (F_X2_write h4) (by simp))
set_option maxRecDepth 100000 in
set_option maxHeartbeats 4000000 in
theorem FD_X2_readOpened {p_X2_readOperand : (Int32 → xS2 → Option xS2)} (fp_X2_readOperand : ∀ (a1 : Int32) (σ : xS2) (τ : xS2), p_X2_readOperand a1 σ = some τ → xFr [(10, 99), (8, 4), (8, 7), (8, 8)] σ τ) {p_X2_readOr : (Int32 → xS2 → Option xS2)} (fp_X2_readOr : ∀ (a1 : Int32) (σ : xS2) (τ : xS2), p_X2_readOr a1 σ = some τ → xFr [(10, 99), (8, 4), (8, 7), (8, 8)] σ τ) {a1 : Int32} {a2 : Int32} {σ : xS2} {τ : xS2} (h : J_X2_readOpened_b p_X2_readOperand p_X2_readOr a1 a2 σ = some τ) : xFr [(10, 99), (8, 4), (8, 7), (8, 8)] σ τ := by
  rcases xite_ro h with ⟨-, h⟩ | ⟨-, h⟩
  · skip
    obtain ⟨x2, h2, h⟩ := Option.bind_eq_some_iff.mp h
    rcases xite_ro h with ⟨-, h⟩ | ⟨-, h⟩
    · skip
      exact xFr_tq (xFr_tr xFr_rf (fp_X2_readOperand _ _ _ h2) (by simp)) (FB_X2_readOpened_46 fp_X2_readOperand fp_X2_readOr (-126 : Int32) x2 h)
    · skip
      exact xFr_tq (xFr_tr xFr_rf (fp_X2_readOperand _ _ _ h2) (by simp)) (FB_X2_readOpened_46 fp_X2_readOperand fp_X2_readOr (-33 : Int32) x2 h)
  · skip
    obtain ⟨x5, h5, h⟩ := Option.bind_eq_some_iff.mp h
    obtain ⟨x6, h6, h⟩ := Option.bind_eq_some_iff.mp h
    rcases xite_ro h with ⟨-, h⟩ | ⟨-, h⟩
    · skip
      have e1 := Option.some.inj h
      subst e1
      exact (xFr_tr (xFr_tr xFr_rf (fp_X2_readOr _ _ _ h5) (by simp)) (F_X2_pass h6) (by simp))
    · skip
      obtain ⟨x8, h8, h⟩ := Option.bind_eq_some_iff.mp h
      have e1 := Option.some.inj h
      subst e1
      exact (xFr_tr (xFr_tr (xFr_tr xFr_rf (fp_X2_readOr _ _ _ h5) (by simp)) (F_X2_pass h6) (by simp)) (F_X2_refuse h8) (by simp))
set_option maxRecDepth 100000 in
set_option maxHeartbeats 4000000 in
theorem FB_X2_readOperand_90 {τ : xS2} {p_X2_readOpened : (Int32 → Int32 → xS2 → Option xS2)} (fp_X2_readOpened : ∀ (a1 : Int32) (a2 : Int32) (σ : xS2) (τ : xS2), p_X2_readOpened a1 a2 σ = some τ → xFr [(10, 99), (8, 4), (8, 7), (8, 8)] σ τ) : ∀ (σ : xS2), J_X2_readOperand_90 p_X2_readOpened σ = some τ → xFr [(10, 99), (8, 4), (8, 7), (8, 8)] σ τ := by
  intro σ h
  obtain ⟨x7, h7, h⟩ := Option.bind_eq_some_iff.mp h
  have e1 := Option.some.inj h
  subst e1
  exact (xFr_tr xFr_rf (F_X2_refuse h7) (by simp))
set_option maxRecDepth 100000 in
set_option maxHeartbeats 4000000 in
theorem FB_X2_readOperand_69 {τ : xS2} {p_X2_readOpened : (Int32 → Int32 → xS2 → Option xS2)} (fp_X2_readOpened : ∀ (a1 : Int32) (a2 : Int32) (σ : xS2) (τ : xS2), p_X2_readOpened a1 a2 σ = some τ → xFr [(10, 99), (8, 4), (8, 7), (8, 8)] σ τ) : ∀ (l1 : Int32) (l2 : Int32) (σ : xS2), J_X2_readOperand_69 p_X2_readOpened l1 l2 σ = some τ → xFr [(10, 99), (8, 4), (8, 7), (8, 8)] σ τ := by
  intro l1 l2 σ h
  obtain ⟨x9, h9, h⟩ := Option.bind_eq_some_iff.mp h
  have e1 := Option.some.inj h
  subst e1
  exact (xFr_tr (xFr_yI xFr_rf rfl) (fp_X2_readOpened _ _ _ _ h9) (by simp))
set_option maxRecDepth 100000 in
set_option maxHeartbeats 4000000 in
theorem FD_X2_readOperand {p_X2_readOpened : (Int32 → Int32 → xS2 → Option xS2)} (fp_X2_readOpened : ∀ (a1 : Int32) (a2 : Int32) (σ : xS2) (τ : xS2), p_X2_readOpened a1 a2 σ = some τ → xFr [(10, 99), (8, 4), (8, 7), (8, 8)] σ τ) {a1 : Int32} {σ : xS2} {τ : xS2} (h : J_X2_readOperand_b p_X2_readOpened a1 σ = some τ) : xFr [(10, 99), (8, 4), (8, 7), (8, 8)] σ τ := by
  obtain ⟨x1, h1, h⟩ := Option.bind_eq_some_iff.mp h
  rcases xite_or h with ⟨-, h⟩ | ⟨-, h⟩
  · skip
    rcases xite_or h with ⟨-, h⟩ | ⟨-, h⟩
    · skip
      rcases xite_or h with ⟨-, h⟩ | ⟨-, h⟩
      · skip
        exact xFr_tq xFr_rf (FB_X2_readOperand_90 fp_X2_readOpened σ h)
      · skip
        rcases xite_or h with ⟨-, h⟩ | ⟨-, h⟩
        · skip
          exact xFr_tq xFr_rf (FB_X2_readOperand_69 fp_X2_readOpened a1 x1 σ h)
        · skip
          rcases xite_or h with ⟨-, h⟩ | ⟨-, h⟩
          · skip
            exact xFr_tq xFr_rf (FB_X2_readOperand_69 fp_X2_readOpened a1 x1 σ h)
          · skip
            rcases xite_ro h with ⟨-, h⟩ | ⟨-, h⟩
            · skip
              exact xFr_tq xFr_rf (FB_X2_readOperand_90 fp_X2_readOpened σ h)
            · skip
              exact xFr_tq xFr_rf (FB_X2_readOperand_69 fp_X2_readOpened a1 x1 σ h)
    · skip
      obtain ⟨x12, h12, h⟩ := Option.bind_eq_some_iff.mp h
      have e1 := Option.some.inj h
      subst e1
      exact (xFr_tr (xFr_yI xFr_rf rfl) (F_X2_write h12) (by simp))
  · skip
    obtain ⟨x13, h13, h⟩ := Option.bind_eq_some_iff.mp h
    have e1 := Option.some.inj h
    subst e1
    exact (xFr_tr xFr_rf (F_X2_readNumber h13) (by simp))
set_option maxRecDepth 100000 in
set_option maxHeartbeats 4000000 in
theorem FB_X2_readOr_7 {τ : xS2} {p_X2_readAnd : (Int32 → xS2 → Option xS2)} (fp_X2_readAnd : ∀ (a1 : Int32) (σ : xS2) (τ : xS2), p_X2_readAnd a1 σ = some τ → xFr [(10, 99), (8, 4), (8, 7), (8, 8)] σ τ) : ∀ (f : Nat) (l1 : Int32) (l2 : Int32) (σ : xS2), J_X2_readOr_7 p_X2_readAnd f l1 l2 σ = some τ → xFr [(10, 99), (8, 4), (8, 7), (8, 8)] σ τ := by
  intro f
  induction f with
  | zero => intro l1 l2 σ h; cases h
  | succ f ih =>
    intro l1 l2 σ h
    rcases xite_or h with ⟨-, h⟩ | ⟨-, h⟩
    · skip
      have e1 := Option.some.inj h
      subst e1
      exact xFr_rf
    · skip
      obtain ⟨x3, h3, h⟩ := Option.bind_eq_some_iff.mp h
      rcases xite_or h with ⟨-, h⟩ | ⟨-, h⟩
      · skip
        have e1 := Option.some.inj h
        subst e1
        exact (xFr_tr xFr_rf (F_X2_pass h3) (by simp))
      · skip
        obtain ⟨x5, h5, h⟩ := Option.bind_eq_some_iff.mp h
        obtain ⟨x6, h6, h⟩ := Option.bind_eq_some_iff.mp h
        exact xFr_tq (xFr_tr (xFr_tr (xFr_tr xFr_rf (F_X2_pass h3) (by simp)) (fp_X2_readAnd _ _ _ h5) (by simp)) (F_X2_write h6) (by simp)) (ih l1 (l2 + (1 : Int32)) x6 h)
set_option maxRecDepth 100000 in
set_option maxHeartbeats 4000000 in
theorem FD_X2_readOr {p_X2_readAnd : (Int32 → xS2 → Option xS2)} (fp_X2_readAnd : ∀ (a1 : Int32) (σ : xS2) (τ : xS2), p_X2_readAnd a1 σ = some τ → xFr [(10, 99), (8, 4), (8, 7), (8, 8)] σ τ) {a1 : Int32} {σ : xS2} {τ : xS2} (h : J_X2_readOr_b p_X2_readAnd a1 σ = some τ) : xFr [(10, 99), (8, 4), (8, 7), (8, 8)] σ τ := by
  obtain ⟨x1, h1, h⟩ := Option.bind_eq_some_iff.mp h
  exact xFr_tq (xFr_tr xFr_rf (fp_X2_readAnd _ _ _ h1) (by simp)) (FB_X2_readOr_7 fp_X2_readAnd xFU a1 (0 : Int32) x1 h)
set_option maxRecDepth 100000 in
set_option maxHeartbeats 4000000 in
theorem FB_X2_readProduct_39 {τ : xS2} {p_X2_readOperand : (Int32 → xS2 → Option xS2)} (fp_X2_readOperand : ∀ (a1 : Int32) (σ : xS2) (τ : xS2), p_X2_readOperand a1 σ = some τ → xFr [(10, 99), (8, 4), (8, 7), (8, 8)] σ τ) {k7 : Int32 → Int32 → xS2 → Option xS2} (hk7 : ∀ (l1 : Int32) (l2 : Int32) (σ : xS2), k7 l1 l2 σ = some τ → xFr [(10, 99), (8, 4), (8, 7), (8, 8)] σ τ) : ∀ (l1 : Int32) (l2 : Int32) (l3 : Int32) (σ : xS2), J_X2_readProduct_39 p_X2_readOperand k7 l1 l2 l3 σ = some τ → xFr [(10, 99), (8, 4), (8, 7), (8, 8)] σ τ := by
  intro l1 l2 l3 σ h
  obtain ⟨x5, h5, h⟩ := Option.bind_eq_some_iff.mp h
  obtain ⟨x6, h6, h⟩ := Option.bind_eq_some_iff.mp h
  exact xFr_tq (xFr_tr (xFr_tr (xFr_yI xFr_rf rfl) (fp_X2_readOperand _ _ _ h5) (by simp)) (F_X2_write h6) (by simp)) (hk7 l1 (l2 + (1 : Int32)) x6 h)
set_option maxRecDepth 100000 in
set_option maxHeartbeats 4000000 in
theorem FB_X2_readProduct_7 {τ : xS2} {p_X2_readOperand : (Int32 → xS2 → Option xS2)} (fp_X2_readOperand : ∀ (a1 : Int32) (σ : xS2) (τ : xS2), p_X2_readOperand a1 σ = some τ → xFr [(10, 99), (8, 4), (8, 7), (8, 8)] σ τ) : ∀ (f : Nat) (l1 : Int32) (l2 : Int32) (σ : xS2), J_X2_readProduct_7 p_X2_readOperand f l1 l2 σ = some τ → xFr [(10, 99), (8, 4), (8, 7), (8, 8)] σ τ := by
  intro f
  induction f with
  | zero => intro l1 l2 σ h; cases h
  | succ f ih =>
    intro l1 l2 σ h
    rcases xite_or h with ⟨-, h⟩ | ⟨-, h⟩
    · skip
      have e1 := Option.some.inj h
      subst e1
      exact xFr_rf
    · skip
      obtain ⟨x3, h3, h⟩ := Option.bind_eq_some_iff.mp h
      rcases xite_or h with ⟨-, h⟩ | ⟨-, h⟩
      · skip
        exact xFr_tq xFr_rf (FB_X2_readProduct_39 fp_X2_readOperand ih l1 l2 x3 σ h)
      · skip
        rcases xite_or h with ⟨-, h⟩ | ⟨-, h⟩
        · skip
          exact xFr_tq xFr_rf (FB_X2_readProduct_39 fp_X2_readOperand ih l1 l2 x3 σ h)
        · skip
          rcases xite_or h with ⟨-, h⟩ | ⟨-, h⟩
          · skip
            exact xFr_tq xFr_rf (FB_X2_readProduct_39 fp_X2_readOperand ih l1 l2 x3 σ h)
          · skip
            have e1 := Option.some.inj h
            subst e1
            exact xFr_rf
set_option maxRecDepth 100000 in
set_option maxHeartbeats 4000000 in
theorem FD_X2_readProduct {p_X2_readOperand : (Int32 → xS2 → Option xS2)} (fp_X2_readOperand : ∀ (a1 : Int32) (σ : xS2) (τ : xS2), p_X2_readOperand a1 σ = some τ → xFr [(10, 99), (8, 4), (8, 7), (8, 8)] σ τ) {a1 : Int32} {σ : xS2} {τ : xS2} (h : J_X2_readProduct_b p_X2_readOperand a1 σ = some τ) : xFr [(10, 99), (8, 4), (8, 7), (8, 8)] σ τ := by
  obtain ⟨x1, h1, h⟩ := Option.bind_eq_some_iff.mp h
  exact xFr_tq (xFr_tr xFr_rf (fp_X2_readOperand _ _ _ h1) (by simp)) (FB_X2_readProduct_7 fp_X2_readOperand xFU a1 (0 : Int32) x1 h)
set_option maxRecDepth 100000 in
set_option maxHeartbeats 4000000 in
theorem FB_X2_readSum_33 {τ : xS2} {p_X2_readProduct : (Int32 → xS2 → Option xS2)} (fp_X2_readProduct : ∀ (a1 : Int32) (σ : xS2) (τ : xS2), p_X2_readProduct a1 σ = some τ → xFr [(10, 99), (8, 4), (8, 7), (8, 8)] σ τ) {k7 : Int32 → Int32 → xS2 → Option xS2} (hk7 : ∀ (l1 : Int32) (l2 : Int32) (σ : xS2), k7 l1 l2 σ = some τ → xFr [(10, 99), (8, 4), (8, 7), (8, 8)] σ τ) : ∀ (l1 : Int32) (l2 : Int32) (l3 : Int32) (σ : xS2), J_X2_readSum_33 p_X2_readProduct k7 l1 l2 l3 σ = some τ → xFr [(10, 99), (8, 4), (8, 7), (8, 8)] σ τ := by
  intro l1 l2 l3 σ h
  obtain ⟨x5, h5, h⟩ := Option.bind_eq_some_iff.mp h
  obtain ⟨x6, h6, h⟩ := Option.bind_eq_some_iff.mp h
  exact xFr_tq (xFr_tr (xFr_tr (xFr_yI xFr_rf rfl) (fp_X2_readProduct _ _ _ h5) (by simp)) (F_X2_write h6) (by simp)) (hk7 l1 (l2 + (1 : Int32)) x6 h)
set_option maxRecDepth 100000 in
set_option maxHeartbeats 4000000 in
theorem FB_X2_readSum_7 {τ : xS2} {p_X2_readProduct : (Int32 → xS2 → Option xS2)} (fp_X2_readProduct : ∀ (a1 : Int32) (σ : xS2) (τ : xS2), p_X2_readProduct a1 σ = some τ → xFr [(10, 99), (8, 4), (8, 7), (8, 8)] σ τ) : ∀ (f : Nat) (l1 : Int32) (l2 : Int32) (σ : xS2), J_X2_readSum_7 p_X2_readProduct f l1 l2 σ = some τ → xFr [(10, 99), (8, 4), (8, 7), (8, 8)] σ τ := by
  intro f
  induction f with
  | zero => intro l1 l2 σ h; cases h
  | succ f ih =>
    intro l1 l2 σ h
    rcases xite_or h with ⟨-, h⟩ | ⟨-, h⟩
    · skip
      have e1 := Option.some.inj h
      subst e1
      exact xFr_rf
    · skip
      obtain ⟨x3, h3, h⟩ := Option.bind_eq_some_iff.mp h
      rcases xite_or h with ⟨-, h⟩ | ⟨-, h⟩
      · skip
        exact xFr_tq xFr_rf (FB_X2_readSum_33 fp_X2_readProduct ih l1 l2 x3 σ h)
      · skip
        rcases xite_or h with ⟨-, h⟩ | ⟨-, h⟩
        · skip
          exact xFr_tq xFr_rf (FB_X2_readSum_33 fp_X2_readProduct ih l1 l2 x3 σ h)
        · skip
          have e1 := Option.some.inj h
          subst e1
          exact xFr_rf
set_option maxRecDepth 100000 in
set_option maxHeartbeats 4000000 in
theorem FD_X2_readSum {p_X2_readProduct : (Int32 → xS2 → Option xS2)} (fp_X2_readProduct : ∀ (a1 : Int32) (σ : xS2) (τ : xS2), p_X2_readProduct a1 σ = some τ → xFr [(10, 99), (8, 4), (8, 7), (8, 8)] σ τ) {a1 : Int32} {σ : xS2} {τ : xS2} (h : J_X2_readSum_b p_X2_readProduct a1 σ = some τ) : xFr [(10, 99), (8, 4), (8, 7), (8, 8)] σ τ := by
  obtain ⟨x1, h1, h⟩ := Option.bind_eq_some_iff.mp h
  exact xFr_tq (xFr_tr xFr_rf (fp_X2_readProduct _ _ _ h1) (by simp)) (FB_X2_readSum_7 fp_X2_readProduct xFU a1 (0 : Int32) x1 h)
set_option maxRecDepth 100000 in
set_option maxHeartbeats 4000000 in
theorem FG_X2_readAnd : ∀ n : Nat, (∀ (a1 : Int32) (σ : xS2) (τ : xS2), (G_X2_readAnd n).1 a1 σ = some τ → xFr [(10, 99), (8, 4), (8, 7), (8, 8)] σ τ) ∧ (∀ (a1 : Int32) (σ : xS2) (τ : xS2), (G_X2_readAnd n).2.1 a1 σ = some τ → xFr [(10, 99), (8, 4), (8, 7), (8, 8)] σ τ) ∧ (∀ (a1 : Int32) (a2 : Int32) (σ : xS2) (τ : xS2), (G_X2_readAnd n).2.2.1 a1 a2 σ = some τ → xFr [(10, 99), (8, 4), (8, 7), (8, 8)] σ τ) ∧ (∀ (a1 : Int32) (σ : xS2) (τ : xS2), (G_X2_readAnd n).2.2.2.1 a1 σ = some τ → xFr [(10, 99), (8, 4), (8, 7), (8, 8)] σ τ) ∧ (∀ (a1 : Int32) (σ : xS2) (τ : xS2), (G_X2_readAnd n).2.2.2.2.1 a1 σ = some τ → xFr [(10, 99), (8, 4), (8, 7), (8, 8)] σ τ) ∧ (∀ (a1 : Int32) (σ : xS2) (τ : xS2), (G_X2_readAnd n).2.2.2.2.2.1 a1 σ = some τ → xFr [(10, 99), (8, 4), (8, 7), (8, 8)] σ τ) ∧ (∀ (a1 : Int32) (σ : xS2) (τ : xS2), (G_X2_readAnd n).2.2.2.2.2.2 a1 σ = some τ → xFr [(10, 99), (8, 4), (8, 7), (8, 8)] σ τ) := by
  intro n
  induction n with
  | zero => exact ⟨fun _ _ _ h => (by cases h), fun _ _ _ h => (by cases h), fun _ _ _ _ h => (by cases h), fun _ _ _ h => (by cases h), fun _ _ _ h => (by cases h), fun _ _ _ h => (by cases h), fun _ _ _ h => (by cases h)⟩
  | succ n ih =>
    obtain ⟨i_X2_readAnd, i_X2_readCompared, i_X2_readOpened, i_X2_readOperand, i_X2_readOr, i_X2_readProduct, i_X2_readSum⟩ := ih
    exact ⟨fun _ _ _ h => FD_X2_readAnd i_X2_readCompared h, fun _ _ _ h => FD_X2_readCompared i_X2_readSum h, fun _ _ _ _ h => FD_X2_readOpened i_X2_readOperand i_X2_readOr h, fun _ _ _ h => FD_X2_readOperand i_X2_readOpened h, fun _ _ _ h => FD_X2_readOr i_X2_readAnd h, fun _ _ _ h => FD_X2_readProduct i_X2_readOperand h, fun _ _ _ h => FD_X2_readSum i_X2_readProduct h⟩
theorem F_X2_readAnd {a1 : Int32} {σ : xS2} {τ : xS2} (h : J_X2_readAnd a1 σ = some τ) : xFr [(10, 99), (8, 4), (8, 7), (8, 8)] σ τ := (FG_X2_readAnd 100).1 _ _ _ h
theorem F_X2_readCompared {a1 : Int32} {σ : xS2} {τ : xS2} (h : J_X2_readCompared a1 σ = some τ) : xFr [(10, 99), (8, 4), (8, 7), (8, 8)] σ τ := (FG_X2_readAnd 100).2.1 _ _ _ h
theorem F_X2_readOpened {a1 : Int32} {a2 : Int32} {σ : xS2} {τ : xS2} (h : J_X2_readOpened a1 a2 σ = some τ) : xFr [(10, 99), (8, 4), (8, 7), (8, 8)] σ τ := (FG_X2_readAnd 100).2.2.1 _ _ _ _ h
theorem F_X2_readOperand {a1 : Int32} {σ : xS2} {τ : xS2} (h : J_X2_readOperand a1 σ = some τ) : xFr [(10, 99), (8, 4), (8, 7), (8, 8)] σ τ := (FG_X2_readAnd 100).2.2.2.1 _ _ _ h
theorem F_X2_readOr {a1 : Int32} {σ : xS2} {τ : xS2} (h : J_X2_readOr a1 σ = some τ) : xFr [(10, 99), (8, 4), (8, 7), (8, 8)] σ τ := (FG_X2_readAnd 100).2.2.2.2.1 _ _ _ h
theorem F_X2_readProduct {a1 : Int32} {σ : xS2} {τ : xS2} (h : J_X2_readProduct a1 σ = some τ) : xFr [(10, 99), (8, 4), (8, 7), (8, 8)] σ τ := (FG_X2_readAnd 100).2.2.2.2.2.1 _ _ _ h
theorem F_X2_readSum {a1 : Int32} {σ : xS2} {τ : xS2} (h : J_X2_readSum a1 σ = some τ) : xFr [(10, 99), (8, 4), (8, 7), (8, 8)] σ τ := (FG_X2_readAnd 100).2.2.2.2.2.2 _ _ _ h
set_option maxRecDepth 100000 in
set_option maxHeartbeats 4000000 in
theorem FB_X2_readLines_57 {τ : xS2} : ∀ (σ : xS2), J_X2_readLines_57 σ = some τ → xFr [(10, 99), (8, 4), (8, 7), (8, 8)] σ τ := by
  intro σ h
  rcases xite_or h with ⟨-, h⟩ | ⟨-, h⟩
  · skip
    have e1 := Option.some.inj h
    subst e1
    exact xFr_rf
  · skip
    obtain ⟨x3, h3, h⟩ := Option.bind_eq_some_iff.mp h
    have e1 := Option.some.inj h
    subst e1
    exact (xFr_tr xFr_rf (F_X2_refuse h3) (by simp))
set_option maxRecDepth 100000 in
set_option maxHeartbeats 4000000 in
theorem FB_X2_readLines_33 {τ : xS2} {k2 : Int32 → xS2 → Option xS2} (hk2 : ∀ (l1 : Int32) (σ : xS2), k2 l1 σ = some τ → xFr [(10, 99), (8, 4), (8, 7), (8, 8)] σ τ) : ∀ (l1 : Int32) (σ : xS2), J_X2_readLines_33 k2 l1 σ = some τ → xFr [(10, 99), (8, 4), (8, 7), (8, 8)] σ τ := by
  intro l1 σ h
  obtain ⟨x7, h7, h⟩ := Option.bind_eq_some_iff.mp h
  obtain ⟨x8, h8, h⟩ := Option.bind_eq_some_iff.mp h
  rcases xite_ro h with ⟨-, h⟩ | ⟨-, h⟩
  · skip
    exact xFr_tq (xFr_tr (xFr_tr xFr_rf (F_X2_write h7) (by simp)) (F_X2_pass h8) (by simp)) (hk2 (l1 + (1 : Int32)) x8.2 h)
  · skip
    exact xFr_tq (xFr_tr (xFr_tr xFr_rf (F_X2_write h7) (by simp)) (F_X2_pass h8) (by simp)) (FB_X2_readLines_57 x8.2 h)
set_option maxRecDepth 100000 in
set_option maxHeartbeats 4000000 in
theorem FB_X2_readLines_2 {τ : xS2} : ∀ (f : Nat) (l1 : Int32) (σ : xS2), J_X2_readLines_2 f l1 σ = some τ → xFr [(10, 99), (8, 4), (8, 7), (8, 8)] σ τ := by
  intro f
  induction f with
  | zero => intro l1 σ h; cases h
  | succ f ih =>
    intro l1 σ h
    rcases xite_or h with ⟨-, h⟩ | ⟨-, h⟩
    · skip
      exact xFr_tq xFr_rf (FB_X2_readLines_57 σ h)
    · skip
      obtain ⟨x4, h4, h⟩ := Option.bind_eq_some_iff.mp h
      obtain ⟨x5, h5, h⟩ := Option.bind_eq_some_iff.mp h
      rcases xite_or h with ⟨-, h⟩ | ⟨-, h⟩
      · skip
        exact xFr_tq (xFr_tr (xFr_tr xFr_rf (F_X2_readOr h4) (by simp)) (F_X2_pass h5) (by simp)) (FB_X2_readLines_33 ih l1 x5.2 h)
      · skip
        obtain ⟨x10, h10, h⟩ := Option.bind_eq_some_iff.mp h
        obtain ⟨x11, h11, h⟩ := Option.bind_eq_some_iff.mp h
        exact xFr_tq (xFr_tr (xFr_tr (xFr_tr (xFr_tr xFr_rf (F_X2_readOr h4) (by simp)) (F_X2_pass h5) (by simp)) (F_X2_write h10) (by simp)) (F_X2_readOr h11) (by simp)) (FB_X2_readLines_33 ih l1 x11 h)
set_option maxRecDepth 100000 in
set_option maxHeartbeats 4000000 in
theorem F_X2_readLines {σ : xS2} {τ : xS2} (h : J_X2_readLines σ = some τ) : xFr [(10, 99), (8, 4), (8, 7), (8, 8)] σ τ := by
  exact xFr_tq xFr_rf (FB_X2_readLines_2 xFU (0 : Int32) σ h)
set_option maxRecDepth 100000 in
set_option maxHeartbeats 4000000 in
theorem FB_X2_become_52 {r : Int32} {τ : xS2} : ∀ (σ : xS2), J_X2_become_52 σ = some (r, τ) → xFr [(10, 99), (11, 99), (8, 4), (8, 5), (8, 7), (8, 8), (8, 9)] σ τ := by
  intro σ h
  obtain ⟨e1, e2⟩ := xso2 h
  subst e1
  subst e2
  exact (xFr_yI xFr_rf rfl)
set_option maxRecDepth 100000 in
set_option maxHeartbeats 4000000 in
theorem F_X2_become {σ : xS2} {r : Int32} {τ : xS2} (h : J_X2_become σ = some (r, τ)) : xFr [(10, 99), (11, 99), (8, 4), (8, 5), (8, 7), (8, 8), (8, 9)] σ τ := by
  obtain ⟨x1, h1, h⟩ := Option.bind_eq_some_iff.mp h
  rcases xite_ro h with ⟨-, h⟩ | ⟨-, h⟩
  · skip
    exact xFr_tq (xFr_tr (xFr_yI (xFr_yI (xFr_yI xFr_rf rfl) rfl) rfl) (F_X2_readLines h1) (by simp)) (FB_X2_become_52 x1 h)
  · skip
    obtain ⟨-, h⟩ := xgd_some h
    exact xFr_tq (xFr_yI (xFr_yCI (xFr_tr (xFr_yI (xFr_yI (xFr_yI xFr_rf rfl) rfl) rfl) (F_X2_readLines h1) (by simp)) (fun _ => rfl)) rfl) (FB_X2_become_52 (yI (yCI x1 10 (0 : Int32).toNatClampNeg 11 (0 : Int32).toNatClampNeg (x1.1 8 4).toNatClampNeg) 8 5 ((yCI x1 10 (0 : Int32).toNatClampNeg 11 (0 : Int32).toNatClampNeg (x1.1 8 4).toNatClampNeg).1 8 4)) h)
set_option maxRecDepth 100000 in
set_option maxHeartbeats 4000000 in
theorem F_X2_pop {σ : xS2} {r : Int32} {τ : xS2} (h : J_X2_pop σ = some (r, τ)) : xFr [(8, 6)] σ τ := by
  rcases xite_or h with ⟨-, h⟩ | ⟨-, h⟩
  · skip
    obtain ⟨-, h⟩ := xgd_some h
    obtain ⟨e1, e2⟩ := xso2 h
    subst e1
    subst e2
    exact (xFr_yI xFr_rf rfl)
  · skip
    obtain ⟨e1, e2⟩ := xso2 h
    subst e1
    subst e2
    exact xFr_rf
set_option maxRecDepth 100000 in
set_option maxHeartbeats 4000000 in
theorem F_X2_push {a1 : Int32} {σ : xS2} {τ : xS2} (h : J_X2_push a1 σ = some τ) : xFr [(12, 99), (8, 6)] σ τ := by
  rcases xite_or h with ⟨-, h⟩ | ⟨-, h⟩
  · skip
    have e1 := Option.some.inj h
    subst e1
    exact xFr_rf
  · skip
    obtain ⟨-, h⟩ := xgd_some h
    have e1 := Option.some.inj h
    subst e1
    exact (xFr_yI (xFr_yI xFr_rf rfl) rfl)
set_option maxRecDepth 100000 in
set_option maxHeartbeats 4000000 in
theorem FB_X2_step_73 {τ : xS2} : ∀ (s1 : Bool) (σ : xS2), J_X2_step_73 s1 σ = some τ → xFr [(12, 99), (8, 6)] σ τ := by
  intro s1 σ h
  obtain ⟨x12, h12, h⟩ := Option.bind_eq_some_iff.mp h
  have e1 := Option.some.inj h
  subst e1
  exact (xFr_tr xFr_rf (F_X2_push h12) (by simp))
set_option maxRecDepth 100000 in
set_option maxHeartbeats 4000000 in
theorem F_X2_step {a1 : Int32} {a3 : Nat} {a4 : Int32} {σ : xS2} {τ : xS2} (h : J_X2_step a1 a3 a4 σ = some τ) : xFr [(12, 99), (8, 6)] σ τ := by
  rcases xite_or h with ⟨-, h⟩ | ⟨-, h⟩
  · skip
    rcases xite_or h with ⟨-, h⟩ | ⟨-, h⟩
    · skip
      rcases xite_ro h with ⟨-, h⟩ | ⟨-, h⟩
      · skip
        rcases xite_ro h with ⟨-, h⟩ | ⟨-, h⟩
        · skip
          obtain ⟨x6, h6, h⟩ := Option.bind_eq_some_iff.mp h
          obtain ⟨x7, h7, h⟩ := Option.bind_eq_some_iff.mp h
          obtain ⟨x8, h8, h⟩ := Option.bind_eq_some_iff.mp h
          obtain ⟨x9, h9, h⟩ := Option.bind_eq_some_iff.mp h
          have e1 := Option.some.inj h
          subst e1
          exact (xFr_tr (xFr_tr (xFr_tr xFr_rf (F_X2_pop h6) (by simp)) (F_X2_pop h7) (by simp)) (F_X2_push h9) (by simp))
        · skip
          obtain ⟨x10, h10, h⟩ := Option.bind_eq_some_iff.mp h
          rcases xite_ro h with ⟨-, h⟩ | ⟨-, h⟩
          · skip
            exact xFr_tq (xFr_tr xFr_rf (F_X2_pop h10) (by simp)) (FB_X2_step_73 false x10.2 h)
          · skip
            exact xFr_tq (xFr_tr xFr_rf (F_X2_pop h10) (by simp)) (FB_X2_step_73 true x10.2 h)
      · skip
        obtain ⟨x13, h13, h⟩ := Option.bind_eq_some_iff.mp h
        obtain ⟨x14, h14, h⟩ := Option.bind_eq_some_iff.mp h
        have e1 := Option.some.inj h
        subst e1
        exact (xFr_tr (xFr_tr xFr_rf (F_X2_pop h13) (by simp)) (F_X2_push h14) (by simp))
    · skip
      obtain ⟨x15, h15, h⟩ := Option.bind_eq_some_iff.mp h
      obtain ⟨x16, h16, h⟩ := Option.bind_eq_some_iff.mp h
      have e1 := Option.some.inj h
      subst e1
      exact (xFr_tr xFr_rf (F_X2_push h16) (by simp))
  · skip
    obtain ⟨x17, h17, h⟩ := Option.bind_eq_some_iff.mp h
    have e1 := Option.some.inj h
    subst e1
    exact (xFr_tr xFr_rf (F_X2_push h17) (by simp))
set_option maxRecDepth 100000 in
set_option maxHeartbeats 4000000 in
theorem FB_X2_workOut_90 {r : Int32} {τ : xS2} {k11 : Nat → Int32 → Bool → Int32 → xS2 → Option (Int32 × xS2)} (hk11 : ∀ (l2 : Nat) (l3 : Int32) (l4 : Bool) (l5 : Int32) (σ : xS2), k11 l2 l3 l4 l5 σ = some (r, τ) → xFr [(12, 99), (8, 6)] σ τ) : ∀ (l2 : Nat) (l3 : Int32) (l4 : Bool) (l5 : Int32) (σ : xS2), J_X2_workOut_90 k11 l2 l3 l4 l5 σ = some (r, τ) → xFr [(12, 99), (8, 6)] σ τ := by
  intro l2 l3 l4 l5 σ h
  exact xFr_tq xFr_rf (hk11 l2 l3 l4 (l5 + (1 : Int32)) σ h)
set_option maxRecDepth 100000 in
set_option maxHeartbeats 4000000 in
theorem FB_X2_workOut_76 {r : Int32} {τ : xS2} {k11 : Nat → Int32 → Bool → Int32 → xS2 → Option (Int32 × xS2)} (hk11 : ∀ (l2 : Nat) (l3 : Int32) (l4 : Bool) (l5 : Int32) (σ : xS2), k11 l2 l3 l4 l5 σ = some (r, τ) → xFr [(12, 99), (8, 6)] σ τ) : ∀ (l2 : Nat) (l3 : Int32) (l5 : Int32) (s0 : Bool) (σ : xS2), J_X2_workOut_76 k11 l2 l3 l5 s0 σ = some (r, τ) → xFr [(12, 99), (8, 6)] σ τ := by
  intro l2 l3 l5 s0 σ h
  exact xFr_tq xFr_rf (FB_X2_workOut_90 hk11 l2 l3 s0 l5 σ h)
set_option maxRecDepth 100000 in
set_option maxHeartbeats 4000000 in
theorem FB_X2_workOut_11 {r : Int32} {τ : xS2} : ∀ (f : Nat) (l2 : Nat) (l3 : Int32) (l4 : Bool) (l5 : Int32) (σ : xS2), J_X2_workOut_11 f l2 l3 l4 l5 σ = some (r, τ) → xFr [(12, 99), (8, 6)] σ τ := by
  intro f
  induction f with
  | zero => intro l2 l3 l4 l5 σ h; cases h
  | succ f ih =>
    intro l2 l3 l4 l5 σ h
    rcases xite_or h with ⟨-, h⟩ | ⟨-, h⟩
    · skip
      obtain ⟨e1, e2⟩ := xso2 h
      subst e1
      subst e2
      exact xFr_rf
    · skip
      obtain ⟨-, h⟩ := xgd_some h
      rcases xite_ro h with ⟨-, h⟩ | ⟨-, h⟩
      · skip
        rcases xite_ro h with ⟨-, h⟩ | ⟨-, h⟩
        · skip
          exact xFr_tq xFr_rf (FB_X2_workOut_90 ih l2 l3 l4 l5 σ h)
        · skip
          rcases xite_ro h with ⟨-, h⟩ | ⟨-, h⟩
          · skip
            obtain ⟨x6, h6, h⟩ := Option.bind_eq_some_iff.mp h
            exact xFr_tq (xFr_tr xFr_rf (F_X2_step h6) (by simp)) (FB_X2_workOut_90 ih l2 l3 l4 l5 x6 h)
          · skip
            obtain ⟨x7, h7, h⟩ := Option.bind_eq_some_iff.mp h
            rcases xite_ro h with ⟨-, h⟩ | ⟨-, h⟩
            · skip
              exact xFr_tq (xFr_tr xFr_rf (F_X2_pop h7) (by simp)) (FB_X2_workOut_76 ih l2 l3 l5 false x7.2 h)
            · skip
              exact xFr_tq (xFr_tr xFr_rf (F_X2_pop h7) (by simp)) (FB_X2_workOut_76 ih l2 l3 l5 true x7.2 h)
      · skip
        rcases xite_ro h with ⟨-, h⟩ | ⟨-, h⟩
        · skip
          exact xFr_tq xFr_rf (FB_X2_workOut_90 ih l2 l3 false l5 σ h)
        · skip
          obtain ⟨x10, h10, h⟩ := Option.bind_eq_some_iff.mp h
          obtain ⟨e1, e2⟩ := xso2 h
          subst e1
          subst e2
          exact (xFr_tr xFr_rf (F_X2_pop h10) (by simp))
set_option maxRecDepth 100000 in
set_option maxHeartbeats 4000000 in
theorem F_X2_workOut {a2 : Nat} {a3 : Int32} {σ : xS2} {r : Int32} {τ : xS2} (h : J_X2_workOut a2 a3 σ = some (r, τ)) : xFr [(12, 99), (8, 6)] σ τ := by
  exact xFr_tq (xFr_yI xFr_rf rfl) (FB_X2_workOut_11 xFU a2 a3 false (0 : Int32) (yI σ 8 6 (0 : Int32)) h)
set_option maxRecDepth 100000 in
set_option maxHeartbeats 4000000 in
theorem F_X2_orderFor {a2 : Nat} {a3 : Int32} {σ : xS2} {r : Int32} {τ : xS2} (h : J_X2_orderFor a2 a3 σ = some (r, τ)) : xFr [(12, 99), (8, 6)] σ τ := by
  rcases xite_ro h with ⟨-, h⟩ | ⟨-, h⟩
  · skip
    obtain ⟨x2, h2, h⟩ := Option.bind_eq_some_iff.mp h
    rcases xite_or h with ⟨-, h⟩ | ⟨-, h⟩
    · skip
      obtain ⟨e1, e2⟩ := xso2 h
      subst e1
      subst e2
      exact (xFr_tr xFr_rf (F_X2_workOut h2) (by simp))
    · skip
      obtain ⟨e1, e2⟩ := xso2 h
      subst e1
      subst e2
      exact (xFr_tr xFr_rf (F_X2_workOut h2) (by simp))
  · skip
    obtain ⟨x4, h4, h⟩ := Option.bind_eq_some_iff.mp h
    rcases xite_or h with ⟨-, h⟩ | ⟨-, h⟩
    · skip
      obtain ⟨e1, e2⟩ := xso2 h
      subst e1
      subst e2
      exact xFr_rf
    · skip
      obtain ⟨e1, e2⟩ := xso2 h
      subst e1
      subst e2
      exact xFr_rf
set_option maxRecDepth 100000 in
set_option maxHeartbeats 4000000 in
theorem F_X2_take {a1 : Int32} {σ : xS2} {r : Bool} {τ : xS2} (h : J_X2_take a1 σ = some (r, τ)) : xFr [(8, 9), (9, 99)] σ τ := by
  rcases xite_or h with ⟨-, h⟩ | ⟨-, h⟩
  · skip
    obtain ⟨-, h⟩ := xgd_some h
    obtain ⟨e1, e2⟩ := xso2 h
    subst e1
    subst e2
    exact (xFr_yI (xFr_yI xFr_rf rfl) rfl)
  · skip
    obtain ⟨e1, e2⟩ := xso2 h
    subst e1
    subst e2
    exact xFr_rf
set_option maxRecDepth 100000 in
set_option maxHeartbeats 4000000 in
theorem F_X4_arrive {a0 : Nat} {a1 : Nat} {σ : xS2} {τ : xS2} (h : J_X4_arrive a0 a1 σ = some τ) : xFr [(a0, 99)] σ τ := by
  rcases xite_or h with ⟨-, h⟩ | ⟨-, h⟩
  · skip
    have e1 := Option.some.inj h
    subst e1
    exact xFr_rf
  · skip
    rcases xite_or h with ⟨-, h⟩ | ⟨-, h⟩
    · skip
      have e1 := Option.some.inj h
      subst e1
      exact xFr_rf
    · skip
      obtain ⟨-, h⟩ := xgd_some h
      obtain ⟨-, h⟩ := xgd_some h
      have e1 := Option.some.inj h
      subst e1
      exact (xFr_yI xFr_rf (by simp [xWn]))
set_option maxRecDepth 100000 in
set_option maxHeartbeats 4000000 in
theorem FB_X4_goOn_114 {τ : xS2} {k24 : Int32 → Int32 → Int32 → Int32 → xS2 → Option xS2} (hk24 : ∀ (l2 : Int32) (l3 : Int32) (l4 : Int32) (l5 : Int32) (σ : xS2), k24 l2 l3 l4 l5 σ = some τ → xFr [(20, 99), (21, 99), (22, 0), (22, 1), (22, 2), (22, 3)] σ τ) : ∀ (l2 : Int32) (l3 : Int32) (l4 : Int32) (l5 : Int32) (σ : xS2), J_X4_goOn_114 k24 l2 l3 l4 l5 σ = some τ → xFr [(20, 99), (21, 99), (22, 0), (22, 1), (22, 2), (22, 3)] σ τ := by
  intro l2 l3 l4 l5 σ h
  exact xFr_tq xFr_rf (hk24 l2 l3 l4 (l5 + (1 : Int32)) σ h)
set_option maxRecDepth 100000 in
set_option maxHeartbeats 4000000 in
theorem FB_X4_goOn_108 {τ : xS2} {k24 : Int32 → Int32 → Int32 → Int32 → xS2 → Option xS2} (hk24 : ∀ (l2 : Int32) (l3 : Int32) (l4 : Int32) (l5 : Int32) (σ : xS2), k24 l2 l3 l4 l5 σ = some τ → xFr [(20, 99), (21, 99), (22, 0), (22, 1), (22, 2), (22, 3)] σ τ) {k50 : Int32 → Int32 → Int32 → Int32 → Int32 → xS2 → Option xS2} (hk50 : ∀ (l2 : Int32) (l3 : Int32) (l4 : Int32) (l5 : Int32) (l6 : Int32) (σ : xS2), k50 l2 l3 l4 l5 l6 σ = some τ → xFr [(20, 99), (21, 99), (22, 0), (22, 1), (22, 2), (22, 3)] σ τ) : ∀ (l2 : Int32) (l3 : Int32) (l4 : Int32) (l5 : Int32) (l6 : Int32) (σ : xS2), J_X4_goOn_108 k24 k50 l2 l3 l4 l5 l6 σ = some τ → xFr [(20, 99), (21, 99), (22, 0), (22, 1), (22, 2), (22, 3)] σ τ := by
  intro l2 l3 l4 l5 l6 σ h
  exact xFr_tq xFr_rf (hk50 l2 l3 l4 l5 (l6 + (1 : Int32)) σ h)
set_option maxRecDepth 100000 in
set_option maxHeartbeats 4000000 in
theorem FB_X4_goOn_50 {τ : xS2} {k24 : Int32 → Int32 → Int32 → Int32 → xS2 → Option xS2} (hk24 : ∀ (l2 : Int32) (l3 : Int32) (l4 : Int32) (l5 : Int32) (σ : xS2), k24 l2 l3 l4 l5 σ = some τ → xFr [(20, 99), (21, 99), (22, 0), (22, 1), (22, 2), (22, 3)] σ τ) : ∀ (f : Nat) (l2 : Int32) (l3 : Int32) (l4 : Int32) (l5 : Int32) (l6 : Int32) (σ : xS2), J_X4_goOn_50 k24 f l2 l3 l4 l5 l6 σ = some τ → xFr [(20, 99), (21, 99), (22, 0), (22, 1), (22, 2), (22, 3)] σ τ := by
  intro f
  induction f with
  | zero => intro l2 l3 l4 l5 l6 σ h; cases h
  | succ f ih =>
    intro l2 l3 l4 l5 l6 σ h
    rcases xite_or h with ⟨-, h⟩ | ⟨-, h⟩
    · skip
      exact xFr_tq xFr_rf (FB_X4_goOn_114 hk24 l2 l3 l4 l5 σ h)
    · skip
      obtain ⟨-, h⟩ := xgd_some h
      obtain ⟨x10, h10, h⟩ := Option.bind_eq_some_iff.mp h
      obtain ⟨x11, h11, h⟩ := Option.bind_eq_some_iff.mp h
      rcases xite_or h with ⟨-, h⟩ | ⟨-, h⟩
      · skip
        exact xFr_tq (xFr_tr (xFr_tr xFr_rf (F_X0_place h10) (by simp)) (F_X0_liveUnder h11) (by simp)) (FB_X4_goOn_108 hk24 ih l2 l3 l4 l5 l6 x11.2 h)
      · skip
        obtain ⟨x13, h13, h⟩ := Option.bind_eq_some_iff.mp h
        exact xFr_tq (xFr_tr (xFr_tr (xFr_tr xFr_rf (F_X0_place h10) (by simp)) (F_X0_liveUnder h11) (by simp)) (F_X4_arrive h13) (by simp)) (FB_X4_goOn_108 hk24 ih l2 l3 l4 l5 l6 x13 h)
set_option maxRecDepth 100000 in
set_option maxHeartbeats 4000000 in
theorem FB_X4_goOn_24 {τ : xS2} : ∀ (f : Nat) (l2 : Int32) (l3 : Int32) (l4 : Int32) (l5 : Int32) (σ : xS2), J_X4_goOn_24 f l2 l3 l4 l5 σ = some τ → xFr [(20, 99), (21, 99), (22, 0), (22, 1), (22, 2), (22, 3)] σ τ := by
  intro f
  induction f with
  | zero => intro l2 l3 l4 l5 σ h; cases h
  | succ f ih =>
    intro l2 l3 l4 l5 σ h
    rcases xite_or h with ⟨-, h⟩ | ⟨-, h⟩
    · skip
      obtain ⟨-, h⟩ := xgd_some h
      have e1 := Option.some.inj h
      subst e1
      exact (xFr_yCI xFr_rf (fun _ => rfl))
    · skip
      obtain ⟨-, h⟩ := xgd_some h
      rcases xite_or h with ⟨-, h⟩ | ⟨-, h⟩
      · skip
        exact xFr_tq xFr_rf (FB_X4_goOn_50 ih xFU l2 l3 l4 l5 (0 : Int32) σ h)
      · skip
        exact xFr_tq xFr_rf (FB_X4_goOn_114 ih l2 l3 l4 l5 σ h)
set_option maxRecDepth 100000 in
set_option maxHeartbeats 4000000 in
theorem F_X4_goOn {a2 : Int32} {σ : xS2} {τ : xS2} (h : J_X4_goOn a2 σ = some τ) : xFr [(20, 99), (21, 99), (22, 0), (22, 1), (22, 2), (22, 3)] σ τ := by
  obtain ⟨x1, h1, h⟩ := Option.bind_eq_some_iff.mp h
  obtain ⟨x2, h2, h⟩ := Option.bind_eq_some_iff.mp h
  obtain ⟨x3, h3, h⟩ := Option.bind_eq_some_iff.mp h
  exact xFr_tq (xFr_tr xFr_rf (F_J7_fill_53178 h1) (by simp)) (FB_X4_goOn_24 xFU a2 x2 x3 (0 : Int32) x1 h)
set_option maxRecDepth 100000 in
set_option maxHeartbeats 4000000 in
theorem FB_X4_find_78 {r : Bool} {τ : xS2} {k30 : Int32 → Int32 → Int32 → Int32 → xS2 → Option (Bool × xS2)} (hk30 : ∀ (l3 : Int32) (l4 : Int32) (l5 : Int32) (l6 : Int32) (σ : xS2), k30 l3 l4 l5 l6 σ = some (r, τ) → xFr [(19, 3), (19, 4), (20, 99), (21, 99), (22, 0), (22, 1), (22, 2), (22, 3)] σ τ) : ∀ (l3 : Int32) (l4 : Int32) (l5 : Int32) (l6 : Int32) (σ : xS2), J_X4_find_78 k30 l3 l4 l5 l6 σ = some (r, τ) → xFr [(19, 3), (19, 4), (20, 99), (21, 99), (22, 0), (22, 1), (22, 2), (22, 3)] σ τ := by
  intro l3 l4 l5 l6 σ h
  exact xFr_tq xFr_rf (hk30 l3 l4 l5 (l6 + (1 : Int32)) σ h)
set_option maxRecDepth 100000 in
set_option maxHeartbeats 4000000 in
theorem FB_X4_find_30 {r : Bool} {τ : xS2} : ∀ (f : Nat) (l3 : Int32) (l4 : Int32) (l5 : Int32) (l6 : Int32) (σ : xS2), J_X4_find_30 f l3 l4 l5 l6 σ = some (r, τ) → xFr [(19, 3), (19, 4), (20, 99), (21, 99), (22, 0), (22, 1), (22, 2), (22, 3)] σ τ := by
  intro f
  induction f with
  | zero => intro l3 l4 l5 l6 σ h; cases h
  | succ f ih =>
    intro l3 l4 l5 l6 σ h
    rcases xite_or h with ⟨-, h⟩ | ⟨-, h⟩
    · skip
      obtain ⟨e1, e2⟩ := xso2 h
      subst e1
      subst e2
      exact xFr_rf
    · skip
      obtain ⟨x4, h4, h⟩ := Option.bind_eq_some_iff.mp h
      rcases xite_or h with ⟨-, h⟩ | ⟨-, h⟩
      · skip
        rcases xite_or h with ⟨-, h⟩ | ⟨-, h⟩
        · skip
          exact xFr_tq (xFr_yI (xFr_yI xFr_rf rfl) rfl) (FB_X4_find_78 ih l3 l4 l5 l6 (yI (yI σ 19 4 x4) 19 3 l6) h)
        · skip
          obtain ⟨x7, h7, h⟩ := Option.bind_eq_some_iff.mp h
          exact xFr_tq (xFr_tr (xFr_yI (xFr_yI xFr_rf rfl) rfl) (F_X4_goOn h7) (by simp)) (FB_X4_find_78 ih l3 l4 l5 l6 x7 h)
      · skip
        obtain ⟨e1, e2⟩ := xso2 h
        subst e1
        subst e2
        exact (xFr_yI (xFr_yI xFr_rf rfl) rfl)
set_option maxRecDepth 100000 in
set_option maxHeartbeats 4000000 in
theorem F_X4_find {a2 : Nat} {a3 : Int32} {a4 : Int32} {σ : xS2} {r : Bool} {τ : xS2} (h : J_X4_find a2 a3 a4 σ = some (r, τ)) : xFr [(19, 3), (19, 4), (20, 99), (21, 99), (22, 0), (22, 1), (22, 2), (22, 3)] σ τ := by
  obtain ⟨x1, h1, h⟩ := Option.bind_eq_some_iff.mp h
  obtain ⟨x2, h2, h⟩ := Option.bind_eq_some_iff.mp h
  exact xFr_tq (xFr_tr (xFr_tr xFr_rf (F_J7_fill_53178 h1) (by simp)) (F_X4_arrive h2) (by simp)) (FB_X4_find_30 xFU a3 a4 (xmin (20 : Int32) ((60 : Int32) - a3)) (0 : Int32) x2 h)
set_option maxRecDepth 100000 in
set_option maxHeartbeats 4000000 in
theorem F_X5_holdBody {a0 : Nat} {a1 : Int32} {σ : xS2} {τ : xS2} (h : J_X5_holdBody a0 a1 σ = some τ) : xFr [(a0, 1), (a0, 2)] σ τ := by
  have e1 := Option.some.inj h
  subst e1
  exact (xFr_yI (xFr_yI xFr_rf (by simp [xWn])) (by simp [xWn]))
set_option maxRecDepth 100000 in
set_option maxHeartbeats 4000000 in
theorem F_X5_holdNothing {a0 : Nat} {σ : xS2} {τ : xS2} (h : J_X5_holdNothing a0 σ = some τ) : xFr [(a0, 1)] σ τ := by
  have e1 := Option.some.inj h
  subst e1
  exact (xFr_yI xFr_rf (by simp [xWn]))
set_option maxRecDepth 100000 in
set_option maxHeartbeats 4000000 in
theorem F_X5_holdRow {a0 : Nat} {a1 : Int32} {a2 : Int32} {σ : xS2} {τ : xS2} (h : J_X5_holdRow a0 a1 a2 σ = some τ) : xFr [(a0, 1), (a0, 3), (a0, 4), (a0 + 1, 99)] σ τ := by
  obtain ⟨x1, h1, h⟩ := Option.bind_eq_some_iff.mp h
  have e1 := Option.some.inj h
  subst e1
  exact (xFr_tr (xFr_yI (xFr_yI (xFr_yI xFr_rf (by simp [xWn])) (by simp [xWn])) (by simp [xWn])) (F_J7_fill_d0a16 h1) (by simp))
set_option maxRecDepth 100000 in
set_option maxHeartbeats 4000000 in
theorem F_X5_set {a0 : Nat} {a1 : Int32} {a2 : Int64} {σ : xS2} {τ : xS2} (h : J_X5_set a0 a1 a2 σ = some τ) : xFr [(a0 + 1, 99)] σ τ := by
  rcases xite_or h with ⟨-, h⟩ | ⟨-, h⟩
  · skip
    have e1 := Option.some.inj h
    subst e1
    exact xFr_rf
  · skip
    obtain ⟨-, h⟩ := xgd_some h
    have e1 := Option.some.inj h
    subst e1
    exact (xFr_yL xFr_rf (by simp [xWn]))
set_option maxRecDepth 100000 in
set_option maxHeartbeats 4000000 in
theorem FB_X6_chooseFirst_89 {τ : xS2} {k33 : Int32 → Int32 → xS2 → Option xS2} (hk33 : ∀ (l2 : Int32) (l3 : Int32) (σ : xS2), k33 l2 l3 σ = some τ → xFr [(13, 6), (13, 7)] σ τ) : ∀ (l2 : Int32) (l3 : Int32) (σ : xS2), J_X6_chooseFirst_89 k33 l2 l3 σ = some τ → xFr [(13, 6), (13, 7)] σ τ := by
  intro l2 l3 σ h
  exact xFr_tq xFr_rf (hk33 l2 (l3 + (1 : Int32)) σ h)
set_option maxRecDepth 100000 in
set_option maxHeartbeats 4000000 in
theorem FB_X6_chooseFirst_33 {τ : xS2} : ∀ (f : Nat) (l2 : Int32) (l3 : Int32) (σ : xS2), J_X6_chooseFirst_33 f l2 l3 σ = some τ → xFr [(13, 6), (13, 7)] σ τ := by
  intro f
  induction f with
  | zero => intro l2 l3 σ h; cases h
  | succ f ih =>
    intro l2 l3 σ h
    rcases xite_or h with ⟨-, h⟩ | ⟨-, h⟩
    · skip
      have e1 := Option.some.inj h
      subst e1
      exact xFr_rf
    · skip
      obtain ⟨-, h⟩ := xgd_some h
      obtain ⟨-, h⟩ := xgd_some h
      rcases xite_or h with ⟨-, h⟩ | ⟨-, h⟩
      · skip
        exact xFr_tq xFr_rf (FB_X6_chooseFirst_89 ih l2 l3 σ h)
      · skip
        obtain ⟨-, h⟩ := xgd_some h
        exact xFr_tq (xFr_yI (xFr_yI xFr_rf rfl) rfl) (FB_X6_chooseFirst_89 ih l2 l3 (yI (yI σ 13 6 ((σ.1 16 l3.toNatClampNeg) + (σ.1 18 (((l2 ^^^ ((1 : Int32) <<< (l3 &&& 31))) * (5 : Int32)) + l3).toNatClampNeg))) 13 7 (σ.1 15 l3.toNatClampNeg)) h)
set_option maxRecDepth 100000 in
set_option maxHeartbeats 4000000 in
theorem FB_X6_chooseFirst_14 {τ : xS2} : ∀ (s1 : Int32) (σ : xS2), J_X6_chooseFirst_14 s1 σ = some τ → xFr [(13, 6), (13, 7)] σ τ := by
  intro s1 σ h
  exact xFr_tq (xFr_yI (xFr_yI xFr_rf rfl) rfl) (FB_X6_chooseFirst_33 xFU (((1 : Int32) <<< ((σ.1 13 5) &&& 31)) - (1 : Int32)) (0 : Int32) (yI (yI σ 13 6 s1) 13 7 (-1 : Int32)) h)
set_option maxRecDepth 100000 in
set_option maxHeartbeats 4000000 in
theorem F_X6_chooseFirst {a1 : Int32} {σ : xS2} {τ : xS2} (h : J_X6_chooseFirst a1 σ = some τ) : xFr [(13, 6), (13, 7)] σ τ := by
  rcases xite_ro h with ⟨-, h⟩ | ⟨-, h⟩
  · skip
    exact xFr_tq xFr_rf (FB_X6_chooseFirst_14 (1000000 : Int32) σ h)
  · skip
    exact xFr_tq xFr_rf (FB_X6_chooseFirst_14 a1 σ h)
set_option maxRecDepth 100000 in
set_option maxHeartbeats 4000000 in
theorem FB_X6_listStones_62 {r : Bool} {τ : xS2} {k7 : Nat → Int32 → xS2 → Option (Bool × xS2)} (hk7 : ∀ (l2 : Nat) (l3 : Int32) (σ : xS2), k7 l2 l3 σ = some (r, τ) → xFr [(13, 5), (15, 99)] σ τ) : ∀ (l2 : Nat) (l3 : Int32) (σ : xS2), J_X6_listStones_62 k7 l2 l3 σ = some (r, τ) → xFr [(13, 5), (15, 99)] σ τ := by
  intro l2 l3 σ h
  exact xFr_tq xFr_rf (hk7 l2 (l3 + (1 : Int32)) σ h)
set_option maxRecDepth 100000 in
set_option maxHeartbeats 4000000 in
theorem FB_X6_listStones_7 {r : Bool} {τ : xS2} : ∀ (f : Nat) (l2 : Nat) (l3 : Int32) (σ : xS2), J_X6_listStones_7 f l2 l3 σ = some (r, τ) → xFr [(13, 5), (15, 99)] σ τ := by
  intro f
  induction f with
  | zero => intro l2 l3 σ h; cases h
  | succ f ih =>
    intro l2 l3 σ h
    rcases xite_or h with ⟨-, h⟩ | ⟨-, h⟩
    · skip
      obtain ⟨e1, e2⟩ := xso2 h
      subst e1
      subst e2
      exact xFr_rf
    · skip
      obtain ⟨x2, h2, h⟩ := Option.bind_eq_some_iff.mp h
      rcases xite_or h with ⟨-, h⟩ | ⟨-, h⟩
      · skip
        exact xFr_tq xFr_rf (FB_X6_listStones_62 ih l2 l3 σ h)
      · skip
        rcases xite_or h with ⟨-, h⟩ | ⟨-, h⟩
        · skip
          rcases xite_or h with ⟨-, h⟩ | ⟨-, h⟩
          · skip
            obtain ⟨-, h⟩ := xgd_some h
            exact xFr_tq (xFr_yI (xFr_yI xFr_rf rfl) rfl) (FB_X6_listStones_62 ih l2 l3 (yI (yI σ 15 (σ.1 13 5).toNatClampNeg l3) 13 5 ((σ.1 13 5) + (1 : Int32))) h)
          · skip
            obtain ⟨e1, e2⟩ := xso2 h
            subst e1
            subst e2
            exact xFr_rf
        · skip
          exact xFr_tq xFr_rf (FB_X6_listStones_62 ih l2 l3 σ h)
set_option maxRecDepth 100000 in
set_option maxHeartbeats 4000000 in
theorem F_X6_listStones {a2 : Nat} {σ : xS2} {r : Bool} {τ : xS2} (h : J_X6_listStones a2 σ = some (r, τ)) : xFr [(13, 5), (15, 99)] σ τ := by
  exact xFr_tq (xFr_yI xFr_rf rfl) (FB_X6_listStones_7 xFU a2 (0 : Int32) (yI σ 13 5 (0 : Int32)) h)
set_option maxRecDepth 100000 in
set_option maxHeartbeats 4000000 in
theorem FB_X6_spreadFrom_50 {τ : xS2} {k2 : Int32 → Int32 → xS2 → Option xS2} (hk2 : ∀ (l2 : Int32) (l3 : Int32) (σ : xS2), k2 l2 l3 σ = some τ → xFr [(14, 99)] σ τ) : ∀ (l2 : Int32) (l3 : Int32) (σ : xS2), J_X6_spreadFrom_50 k2 l2 l3 σ = some τ → xFr [(14, 99)] σ τ := by
  intro l2 l3 σ h
  exact xFr_tq xFr_rf (hk2 l2 (l3 + (1 : Int32)) σ h)
set_option maxRecDepth 100000 in
set_option maxHeartbeats 4000000 in
theorem FB_X6_spreadFrom_2 {τ : xS2} : ∀ (f : Nat) (l2 : Int32) (l3 : Int32) (σ : xS2), J_X6_spreadFrom_2 f l2 l3 σ = some τ → xFr [(14, 99)] σ τ := by
  intro f
  induction f with
  | zero => intro l2 l3 σ h; cases h
  | succ f ih =>
    intro l2 l3 σ h
    rcases xite_or h with ⟨-, h⟩ | ⟨-, h⟩
    · skip
      have e1 := Option.some.inj h
      subst e1
      exact xFr_rf
    · skip
      rcases xite_or h with ⟨-, h⟩ | ⟨-, h⟩
      · skip
        exact xFr_tq xFr_rf (FB_X6_spreadFrom_50 ih l2 l3 σ h)
      · skip
        obtain ⟨-, h⟩ := xgd_some h
        obtain ⟨x5, h5, h⟩ := Option.bind_eq_some_iff.mp h
        obtain ⟨-, h⟩ := xgd_some h
        obtain ⟨-, h⟩ := xgd_some h
        exact xFr_tq (xFr_yI xFr_rf rfl) (FB_X6_spreadFrom_50 ih l2 l3 (yI σ 14 (J_X3_neighbour l2 l3).toNatClampNeg (xmin (σ.1 14 (J_X3_neighbour l2 l3).toNatClampNeg) (x5 + (σ.1 14 l2.toNatClampNeg)))) h)
set_option maxRecDepth 100000 in
set_option maxHeartbeats 4000000 in
theorem F_X6_spreadFrom {a2 : Int32} {σ : xS2} {τ : xS2} (h : J_X6_spreadFrom a2 σ = some τ) : xFr [(14, 99)] σ τ := by
  exact xFr_tq xFr_rf (FB_X6_spreadFrom_2 xFU a2 (1 : Int32) σ h)
set_option maxRecDepth 100000 in
set_option maxHeartbeats 4000000 in
theorem FB_X6_spreadTo_67 {τ : xS2} : ∀ (f : Nat) (l3 : Int64) (l5 : Int32) (σ : xS2), J_X6_spreadTo_67 f l3 l5 σ = some τ → xFr [(14, 99)] σ τ := by
  intro f
  induction f with
  | zero => intro l3 l5 σ h; cases h
  | succ f ih =>
    intro l3 l5 σ h
    rcases xite_or h with ⟨-, h⟩ | ⟨-, h⟩
    · skip
      have e1 := Option.some.inj h
      subst e1
      exact xFr_rf
    · skip
      obtain ⟨x3, h3, h⟩ := Option.bind_eq_some_iff.mp h
      rcases xite_or h with ⟨-, h⟩ | ⟨-, h⟩
      · skip
        obtain ⟨x5, h5, h⟩ := Option.bind_eq_some_iff.mp h
        exact xFr_tq (xFr_tr xFr_rf (F_X6_spreadFrom h5) (by simp)) (ih (l3 ||| (xls (1 : Int64) x3)) (l5 + (1 : Int32)) x5 h)
      · skip
        have e1 := Option.some.inj h
        subst e1
        exact xFr_rf
set_option maxRecDepth 100000 in
set_option maxHeartbeats 4000000 in
theorem FB_X6_spreadTo_55 {τ : xS2} {k2 : Int32 → Int32 → xS2 → Option xS2} (hk2 : ∀ (l2 : Int32) (l3 : Int32) (σ : xS2), k2 l2 l3 σ = some τ → xFr [(14, 99)] σ τ) : ∀ (l2 : Int32) (l3 : Int32) (s1 : Int32) (s2 : Int32) (σ : xS2), J_X6_spreadTo_55 k2 l2 l3 s1 s2 σ = some τ → xFr [(14, 99)] σ τ := by
  intro l2 l3 s1 s2 σ h
  obtain ⟨-, h⟩ := xgd_some h
  exact xFr_tq (xFr_yI xFr_rf rfl) (hk2 l2 (l3 + (1 : Int32)) (yI σ 14 s1.toNatClampNeg s2) h)
set_option maxRecDepth 100000 in
set_option maxHeartbeats 4000000 in
theorem FB_X6_spreadTo_37 {τ : xS2} {k2 : Int32 → Int32 → xS2 → Option xS2} (hk2 : ∀ (l2 : Int32) (l3 : Int32) (σ : xS2), k2 l2 l3 σ = some τ → xFr [(14, 99)] σ τ) : ∀ (l2 : Int32) (l3 : Int32) (s0 : Bool) (σ : xS2), J_X6_spreadTo_37 k2 l2 l3 s0 σ = some τ → xFr [(14, 99)] σ τ := by
  intro l2 l3 s0 σ h
  rcases xite_or h with ⟨-, h⟩ | ⟨-, h⟩
  · skip
    exact xFr_tq xFr_rf (FB_X6_spreadTo_55 hk2 l2 l3 l3 (1000000 : Int32) σ h)
  · skip
    exact xFr_tq xFr_rf (FB_X6_spreadTo_55 hk2 l2 l3 l3 (0 : Int32) σ h)
set_option maxRecDepth 100000 in
set_option maxHeartbeats 4000000 in
theorem FB_X6_spreadTo_2 {τ : xS2} : ∀ (f : Nat) (l2 : Int32) (l3 : Int32) (σ : xS2), J_X6_spreadTo_2 f l2 l3 σ = some τ → xFr [(14, 99)] σ τ := by
  intro f
  induction f with
  | zero => intro l2 l3 σ h; cases h
  | succ f ih =>
    intro l2 l3 σ h
    rcases xite_or h with ⟨-, h⟩ | ⟨-, h⟩
    · skip
      exact xFr_tq xFr_rf (FB_X6_spreadTo_67 xFU (0 : Int64) (0 : Int32) σ h)
    · skip
      rcases xite_ro h with ⟨-, h⟩ | ⟨-, h⟩
      · skip
        rcases xite_ro h with ⟨-, h⟩ | ⟨-, h⟩
        · skip
          exact xFr_tq xFr_rf (FB_X6_spreadTo_37 ih l2 l3 false σ h)
        · skip
          exact xFr_tq xFr_rf (FB_X6_spreadTo_37 ih l2 l3 true σ h)
      · skip
        rcases xite_or h with ⟨-, h⟩ | ⟨-, h⟩
        · skip
          exact xFr_tq xFr_rf (FB_X6_spreadTo_37 ih l2 l3 false σ h)
        · skip
          exact xFr_tq xFr_rf (FB_X6_spreadTo_37 ih l2 l3 true σ h)
set_option maxRecDepth 100000 in
set_option maxHeartbeats 4000000 in
theorem F_X6_spreadTo {a2 : Int32} {σ : xS2} {τ : xS2} (h : J_X6_spreadTo a2 σ = some τ) : xFr [(14, 99)] σ τ := by
  exact xFr_tq xFr_rf (FB_X6_spreadTo_2 xFU a2 (0 : Int32) σ h)
set_option maxRecDepth 100000 in
set_option maxHeartbeats 4000000 in
theorem FB_X6_planRound_113 {r : Bool} {τ : xS2} {k100 : Nat → Int32 → xS2 → Option (Bool × xS2)} (hk100 : ∀ (l2 : Nat) (l3 : Int32) (σ : xS2), k100 l2 l3 σ = some (r, τ) → xFr [(13, 5), (13, 6), (13, 7), (14, 99), (15, 99), (16, 99), (17, 99), (18, 99)] σ τ) : ∀ (f : Nat) (l2 : Nat) (l3 : Int32) (l4 : Int32) (σ : xS2), J_X6_planRound_113 k100 f l2 l3 l4 σ = some (r, τ) → xFr [(13, 5), (13, 6), (13, 7), (14, 99), (15, 99), (16, 99), (17, 99), (18, 99)] σ τ := by
  intro f
  induction f with
  | zero => intro l2 l3 l4 σ h; cases h
  | succ f ih =>
    intro l2 l3 l4 σ h
    rcases xite_or h with ⟨-, h⟩ | ⟨-, h⟩
    · skip
      exact xFr_tq xFr_rf (hk100 l2 (l3 + (1 : Int32)) σ h)
    · skip
      obtain ⟨x9, h9, h⟩ := Option.bind_eq_some_iff.mp h
      obtain ⟨-, h⟩ := xgd_some h
      exact xFr_tq (xFr_yI xFr_rf rfl) (ih l2 l3 (l4 + (1 : Int32)) (yI σ 18 ((l3 * (5 : Int32)) + l4).toNatClampNeg x9) h)
set_option maxRecDepth 100000 in
set_option maxHeartbeats 4000000 in
theorem FB_X6_planRound_100 {r : Bool} {τ : xS2} : ∀ (f : Nat) (l2 : Nat) (l3 : Int32) (σ : xS2), J_X6_planRound_100 f l2 l3 σ = some (r, τ) → xFr [(13, 5), (13, 6), (13, 7), (14, 99), (15, 99), (16, 99), (17, 99), (18, 99)] σ τ := by
  intro f
  induction f with
  | zero => intro l2 l3 σ h; cases h
  | succ f ih =>
    intro l2 l3 σ h
    rcases xite_or h with ⟨-, h⟩ | ⟨-, h⟩
    · skip
      obtain ⟨x6, h6, h⟩ := Option.bind_eq_some_iff.mp h
      obtain ⟨x7, h7, h⟩ := Option.bind_eq_some_iff.mp h
      obtain ⟨e1, e2⟩ := xso2 h
      subst e1
      subst e2
      exact (xFr_tr xFr_rf (F_X6_chooseFirst h7) (by simp))
    · skip
      exact xFr_tq xFr_rf (FB_X6_planRound_113 ih xFU l2 l3 (0 : Int32) σ h)
set_option maxRecDepth 100000 in
set_option maxHeartbeats 4000000 in
theorem FB_X6_planRound_49 {r : Bool} {τ : xS2} {k13 : Nat → Int32 → xS2 → Option (Bool × xS2)} (hk13 : ∀ (l2 : Nat) (l3 : Int32) (σ : xS2), k13 l2 l3 σ = some (r, τ) → xFr [(13, 5), (13, 6), (13, 7), (14, 99), (15, 99), (16, 99), (17, 99), (18, 99)] σ τ) : ∀ (f : Nat) (l2 : Nat) (l3 : Int32) (l4 : Int32) (σ : xS2), J_X6_planRound_49 k13 f l2 l3 l4 σ = some (r, τ) → xFr [(13, 5), (13, 6), (13, 7), (14, 99), (15, 99), (16, 99), (17, 99), (18, 99)] σ τ := by
  intro f
  induction f with
  | zero => intro l2 l3 l4 σ h; cases h
  | succ f ih =>
    intro l2 l3 l4 σ h
    rcases xite_or h with ⟨-, h⟩ | ⟨-, h⟩
    · skip
      exact xFr_tq xFr_rf (hk13 l2 (l3 + (1 : Int32)) σ h)
    · skip
      obtain ⟨-, h⟩ := xgd_some h
      obtain ⟨x17, h17, h⟩ := Option.bind_eq_some_iff.mp h
      obtain ⟨-, h⟩ := xgd_some h
      exact xFr_tq (xFr_yI xFr_rf rfl) (ih l2 l3 (l4 + (1 : Int32)) (yI σ 17 ((l4 * (5 : Int32)) + l3).toNatClampNeg x17) h)
set_option maxRecDepth 100000 in
set_option maxHeartbeats 4000000 in
theorem FB_X6_planRound_13 {r : Bool} {τ : xS2} : ∀ (f : Nat) (l2 : Nat) (l3 : Int32) (σ : xS2), J_X6_planRound_13 f l2 l3 σ = some (r, τ) → xFr [(13, 5), (13, 6), (13, 7), (14, 99), (15, 99), (16, 99), (17, 99), (18, 99)] σ τ := by
  intro f
  induction f with
  | zero => intro l2 l3 σ h; cases h
  | succ f ih =>
    intro l2 l3 σ h
    rcases xite_or h with ⟨-, h⟩ | ⟨-, h⟩
    · skip
      obtain ⟨x4, h4, h⟩ := Option.bind_eq_some_iff.mp h
      exact xFr_tq (xFr_tr xFr_rf (F_X6_spreadTo h4) (by simp)) (FB_X6_planRound_100 xFU l2 (0 : Int32) x4 h)
    · skip
      obtain ⟨-, h⟩ := xgd_some h
      obtain ⟨x12, h12, h⟩ := Option.bind_eq_some_iff.mp h
      obtain ⟨x13, h13, h⟩ := Option.bind_eq_some_iff.mp h
      obtain ⟨-, h⟩ := xgd_some h
      exact xFr_tq (xFr_yI (xFr_tr xFr_rf (F_X6_spreadTo h12) (by simp)) rfl) (FB_X6_planRound_49 ih xFU l2 l3 (0 : Int32) (yI x12 16 l3.toNatClampNeg x13) h)
set_option maxRecDepth 100000 in
set_option maxHeartbeats 4000000 in
theorem F_X6_planRound {a2 : Nat} {σ : xS2} {r : Bool} {τ : xS2} (h : J_X6_planRound a2 σ = some (r, τ)) : xFr [(13, 5), (13, 6), (13, 7), (14, 99), (15, 99), (16, 99), (17, 99), (18, 99)] σ τ := by
  obtain ⟨x1, h1, h⟩ := Option.bind_eq_some_iff.mp h
  rcases xite_ro h with ⟨-, h⟩ | ⟨-, h⟩
  · skip
    exact xFr_tq (xFr_tr xFr_rf (F_X6_listStones h1) (by simp)) (FB_X6_planRound_13 xFU a2 (0 : Int32) x1.2 h)
  · skip
    obtain ⟨e1, e2⟩ := xso2 h
    subst e1
    subst e2
    exact (xFr_tr xFr_rf (F_X6_listStones h1) (by simp))
set_option maxRecDepth 100000 in
set_option maxHeartbeats 4000000 in
theorem F_X7_add {a1 : Int32} {σ : xS2} {r : Int32} {τ : xS2} (h : J_X7_add a1 σ = some (r, τ)) : xFr [(40, 3), (41, 99)] σ τ := by
  rcases xite_or h with ⟨-, h⟩ | ⟨-, h⟩
  · skip
    obtain ⟨-, h⟩ := xgd_some h
    obtain ⟨e1, e2⟩ := xso2 h
    subst e1
    subst e2
    exact (xFr_yI (xFr_yI xFr_rf rfl) rfl)
  · skip
    obtain ⟨e1, e2⟩ := xso2 h
    subst e1
    subst e2
    exact xFr_rf
set_option maxRecDepth 100000 in
set_option maxHeartbeats 4000000 in
theorem FD_X7_answerOfWheel {p_X7_own : (Int32 → Int32 → Int32 → xS2 → Option (Int32 × xS2))} (fp_X7_own : ∀ (a1 : Int32) (a2 : Int32) (a3 : Int32) (σ : xS2) (r : Int32) (τ : xS2), p_X7_own a1 a2 a3 σ = some (r, τ) → xFr [(40, 4), (42, 99)] σ τ) {a1 : Int32} {a2 : Int32} {a3 : Int32} {σ : xS2} {r : Int32} {τ : xS2} (h : J_X7_answerOfWheel_b p_X7_own a1 a2 a3 σ = some (r, τ)) : xFr [(40, 4), (42, 99)] σ τ := by
  rcases xite_or h with ⟨-, h⟩ | ⟨-, h⟩
  · skip
    obtain ⟨e1, e2⟩ := xso2 h
    subst e1
    subst e2
    exact xFr_rf
  · skip
    rcases xite_or h with ⟨-, h⟩ | ⟨-, h⟩
    · skip
      obtain ⟨x3, h3, h⟩ := Option.bind_eq_some_iff.mp h
      obtain ⟨x4, h4, h⟩ := Option.bind_eq_some_iff.mp h
      obtain ⟨e1, e2⟩ := xso2 h
      subst e1
      subst e2
      exact (xFr_tr (xFr_tr xFr_rf (fp_X7_own _ _ _ _ _ _ h3) (by simp)) (fp_X7_own _ _ _ _ _ _ h4) (by simp))
    · skip
      rcases xite_or h with ⟨-, h⟩ | ⟨-, h⟩
      · skip
        obtain ⟨x6, h6, h⟩ := Option.bind_eq_some_iff.mp h
        obtain ⟨e1, e2⟩ := xso2 h
        subst e1
        subst e2
        exact (xFr_tr xFr_rf (fp_X7_own _ _ _ _ _ _ h6) (by simp))
      · skip
        obtain ⟨e1, e2⟩ := xso2 h
        subst e1
        subst e2
        exact xFr_rf
set_option maxRecDepth 100000 in
set_option maxHeartbeats 4000000 in
theorem FB_X7_answerUnder_18 {r : Int32} {τ : xS2} {p_X7_begin : (Int32 → Int32 → Int32 → Int32 → xS2 → Option (Int32 × xS2))} (fp_X7_begin : ∀ (a1 : Int32) (a2 : Int32) (a3 : Int32) (a4 : Int32) (σ : xS2) (r : Int32) (τ : xS2), p_X7_begin a1 a2 a3 a4 σ = some (r, τ) → xFr [(40, 4), (42, 99)] σ τ) {p_X7_own : (Int32 → Int32 → Int32 → xS2 → Option (Int32 × xS2))} (fp_X7_own : ∀ (a1 : Int32) (a2 : Int32) (a3 : Int32) (σ : xS2) (r : Int32) (τ : xS2), p_X7_own a1 a2 a3 σ = some (r, τ) → xFr [(40, 4), (42, 99)] σ τ) : ∀ (l1 : Int32) (l5 : Int32) (s1 : Int32) (s2 : Int32) (s3 : Int32) (σ : xS2), J_X7_answerUnder_18 p_X7_begin p_X7_own l1 l5 s1 s2 s3 σ = some (r, τ) → xFr [(40, 4), (42, 99)] σ τ := by
  intro l1 l5 s1 s2 s3 σ h
  obtain ⟨x2, h2, h⟩ := Option.bind_eq_some_iff.mp h
  rcases xite_or h with ⟨-, h⟩ | ⟨-, h⟩
  · skip
    obtain ⟨e1, e2⟩ := xso2 h
    subst e1
    subst e2
    exact (xFr_tr xFr_rf (fp_X7_begin _ _ _ _ _ _ _ h2) (by simp))
  · skip
    rcases xite_or h with ⟨-, h⟩ | ⟨-, h⟩
    · skip
      obtain ⟨e1, e2⟩ := xso2 h
      subst e1
      subst e2
      exact (xFr_tr xFr_rf (fp_X7_begin _ _ _ _ _ _ _ h2) (by simp))
    · skip
      rcases xite_or h with ⟨-, h⟩ | ⟨-, h⟩
      · skip
        obtain ⟨e1, e2⟩ := xso2 h
        subst e1
        subst e2
        exact (xFr_tr xFr_rf (fp_X7_begin _ _ _ _ _ _ _ h2) (by simp))
      · skip
        rcases xite_or h with ⟨-, h⟩ | ⟨-, h⟩
        · skip
          obtain ⟨e1, e2⟩ := xso2 h
          subst e1
          subst e2
          exact (xFr_tr xFr_rf (fp_X7_begin _ _ _ _ _ _ _ h2) (by simp))
        · skip
          rcases xite_or h with ⟨-, h⟩ | ⟨-, h⟩
          · skip
            obtain ⟨x8, h8, h⟩ := Option.bind_eq_some_iff.mp h
            obtain ⟨e1, e2⟩ := xso2 h
            subst e1
            subst e2
            exact (xFr_tr (xFr_tr xFr_rf (fp_X7_begin _ _ _ _ _ _ _ h2) (by simp)) (fp_X7_own _ _ _ _ _ _ h8) (by simp))
          · skip
            rcases xite_or h with ⟨-, h⟩ | ⟨-, h⟩
            · skip
              obtain ⟨e1, e2⟩ := xso2 h
              subst e1
              subst e2
              exact (xFr_tr xFr_rf (fp_X7_begin _ _ _ _ _ _ _ h2) (by simp))
            · skip
              rcases xite_or h with ⟨-, h⟩ | ⟨-, h⟩
              · skip
                obtain ⟨e1, e2⟩ := xso2 h
                subst e1
                subst e2
                exact (xFr_tr xFr_rf (fp_X7_begin _ _ _ _ _ _ _ h2) (by simp))
              · skip
                rcases xite_or h with ⟨-, h⟩ | ⟨-, h⟩
                · skip
                  obtain ⟨x12, h12, h⟩ := Option.bind_eq_some_iff.mp h
                  obtain ⟨e1, e2⟩ := xso2 h
                  subst e1
                  subst e2
                  exact (xFr_tr (xFr_tr xFr_rf (fp_X7_begin _ _ _ _ _ _ _ h2) (by simp)) (fp_X7_own _ _ _ _ _ _ h12) (by simp))
                · skip
                  rcases xite_or h with ⟨-, h⟩ | ⟨-, h⟩
                  · skip
                    obtain ⟨e1, e2⟩ := xso2 h
                    subst e1
                    subst e2
                    exact (xFr_tr xFr_rf (fp_X7_begin _ _ _ _ _ _ _ h2) (by simp))
                  · skip
                    obtain ⟨e1, e2⟩ := xso2 h
                    subst e1
                    subst e2
                    exact (xFr_tr xFr_rf (fp_X7_begin _ _ _ _ _ _ _ h2) (by simp))
set_option maxRecDepth 100000 in
set_option maxHeartbeats 4000000 in
theorem FD_X7_answerUnder {p_X7_begin : (Int32 → Int32 → Int32 → Int32 → xS2 → Option (Int32 × xS2))} (fp_X7_begin : ∀ (a1 : Int32) (a2 : Int32) (a3 : Int32) (a4 : Int32) (σ : xS2) (r : Int32) (τ : xS2), p_X7_begin a1 a2 a3 a4 σ = some (r, τ) → xFr [(40, 4), (42, 99)] σ τ) {p_X7_own : (Int32 → Int32 → Int32 → xS2 → Option (Int32 × xS2))} (fp_X7_own : ∀ (a1 : Int32) (a2 : Int32) (a3 : Int32) (σ : xS2) (r : Int32) (τ : xS2), p_X7_own a1 a2 a3 σ = some (r, τ) → xFr [(40, 4), (42, 99)] σ τ) {a1 : Int32} {a2 : Int32} {a3 : Int32} {a4 : Int32} {a5 : Int32} {σ : xS2} {r : Int32} {τ : xS2} (h : J_X7_answerUnder_b p_X7_begin p_X7_own a1 a2 a3 a4 a5 σ = some (r, τ)) : xFr [(40, 4), (42, 99)] σ τ := by
  rcases xite_ro h with ⟨-, h⟩ | ⟨-, h⟩
  · skip
    exact xFr_tq xFr_rf (FB_X7_answerUnder_18 fp_X7_begin fp_X7_own a1 a5 a2 a3 a4 σ h)
  · skip
    exact xFr_tq xFr_rf (FB_X7_answerUnder_18 fp_X7_begin fp_X7_own a1 a5 a2 a3 (a4 + (1 : Int32)) σ h)
set_option maxRecDepth 100000 in
set_option maxHeartbeats 4000000 in
theorem FB_X7_begin_99 {r : Int32} {τ : xS2} {p_X7_answerOfWheel : (Int32 → Int32 → Int32 → xS2 → Option (Int32 × xS2))} (fp_X7_answerOfWheel : ∀ (a1 : Int32) (a2 : Int32) (a3 : Int32) (σ : xS2) (r : Int32) (τ : xS2), p_X7_answerOfWheel a1 a2 a3 σ = some (r, τ) → xFr [(40, 4), (42, 99)] σ τ) {p_X7_answerUnder : (Int32 → Int32 → Int32 → Int32 → Int32 → xS2 → Option (Int32 × xS2))} (fp_X7_answerUnder : ∀ (a1 : Int32) (a2 : Int32) (a3 : Int32) (a4 : Int32) (a5 : Int32) (σ : xS2) (r : Int32) (τ : xS2), p_X7_answerUnder a1 a2 a3 a4 a5 σ = some (r, τ) → xFr [(40, 4), (42, 99)] σ τ) : ∀ (l1 : Int32) (l3 : Int32) (l4 : Int32) (l5 : Int32) (l6 : Int32) (σ : xS2), J_X7_begin_99 p_X7_answerOfWheel p_X7_answerUnder l1 l3 l4 l5 l6 σ = some (r, τ) → xFr [(40, 4), (42, 99)] σ τ := by
  intro l1 l3 l4 l5 l6 σ h
  rcases xite_or h with ⟨-, h⟩ | ⟨-, h⟩
  · skip
    obtain ⟨-, h⟩ := xgd_some h
    obtain ⟨x9, h9, h⟩ := Option.bind_eq_some_iff.mp h
    obtain ⟨e1, e2⟩ := xso2 h
    subst e1
    subst e2
    exact (xFr_tr (xFr_yI xFr_rf rfl) (fp_X7_answerUnder _ _ _ _ _ _ _ _ h9) (by simp))
  · skip
    obtain ⟨x10, h10, h⟩ := Option.bind_eq_some_iff.mp h
    obtain ⟨e1, e2⟩ := xso2 h
    subst e1
    subst e2
    exact (xFr_tr (xFr_yI xFr_rf rfl) (fp_X7_answerOfWheel _ _ _ _ _ _ h10) (by simp))
set_option maxRecDepth 100000 in
set_option maxHeartbeats 4000000 in
theorem FB_X7_begin_49 {r : Int32} {τ : xS2} {p_X7_answerOfWheel : (Int32 → Int32 → Int32 → xS2 → Option (Int32 × xS2))} (fp_X7_answerOfWheel : ∀ (a1 : Int32) (a2 : Int32) (a3 : Int32) (σ : xS2) (r : Int32) (τ : xS2), p_X7_answerOfWheel a1 a2 a3 σ = some (r, τ) → xFr [(40, 4), (42, 99)] σ τ) {p_X7_answerUnder : (Int32 → Int32 → Int32 → Int32 → Int32 → xS2 → Option (Int32 × xS2))} (fp_X7_answerUnder : ∀ (a1 : Int32) (a2 : Int32) (a3 : Int32) (a4 : Int32) (a5 : Int32) (σ : xS2) (r : Int32) (τ : xS2), p_X7_answerUnder a1 a2 a3 a4 a5 σ = some (r, τ) → xFr [(40, 4), (42, 99)] σ τ) : ∀ (l1 : Int32) (l3 : Int32) (l4 : Int32) (l5 : Int32) (σ : xS2), J_X7_begin_49 p_X7_answerOfWheel p_X7_answerUnder l1 l3 l4 l5 σ = some (r, τ) → xFr [(40, 4), (42, 99)] σ τ := by
  intro l1 l3 l4 l5 σ h
  rcases xite_or h with ⟨-, h⟩ | ⟨-, h⟩
  · skip
    obtain ⟨e1, e2⟩ := xso2 h
    subst e1
    subst e2
    exact xFr_rf
  · skip
    rcases xite_or h with ⟨-, h⟩ | ⟨-, h⟩
    · skip
      obtain ⟨-, h⟩ := xgd_some h
      rcases xite_or h with ⟨-, h⟩ | ⟨-, h⟩
      · skip
        exact xFr_tq xFr_rf (FB_X7_begin_99 fp_X7_answerOfWheel fp_X7_answerUnder l1 l3 l4 l5 (xsv 4 ((l1 * (8 : Int32)) + l5)) σ h)
      · skip
        obtain ⟨-, h⟩ := xgd_some h
        exact xFr_tq (xFr_yI xFr_rf rfl) (FB_X7_begin_99 fp_X7_answerOfWheel fp_X7_answerUnder l1 l3 l4 l5 (xsv 4 ((l1 * (8 : Int32)) + l5)) (yI σ 42 (σ.1 40 4).toNatClampNeg (xsv 4 ((l1 * (8 : Int32)) + l5))) h)
    · skip
      obtain ⟨e1, e2⟩ := xso2 h
      subst e1
      subst e2
      exact xFr_rf
set_option maxRecDepth 100000 in
set_option maxHeartbeats 4000000 in
theorem FB_X7_begin_6 {r : Int32} {τ : xS2} {p_X7_answerOfWheel : (Int32 → Int32 → Int32 → xS2 → Option (Int32 × xS2))} (fp_X7_answerOfWheel : ∀ (a1 : Int32) (a2 : Int32) (a3 : Int32) (σ : xS2) (r : Int32) (τ : xS2), p_X7_answerOfWheel a1 a2 a3 σ = some (r, τ) → xFr [(40, 4), (42, 99)] σ τ) {p_X7_answerUnder : (Int32 → Int32 → Int32 → Int32 → Int32 → xS2 → Option (Int32 × xS2))} (fp_X7_answerUnder : ∀ (a1 : Int32) (a2 : Int32) (a3 : Int32) (a4 : Int32) (a5 : Int32) (σ : xS2) (r : Int32) (τ : xS2), p_X7_answerUnder a1 a2 a3 a4 a5 σ = some (r, τ) → xFr [(40, 4), (42, 99)] σ τ) : ∀ (f : Nat) (l1 : Int32) (l3 : Int32) (l4 : Int32) (l5 : Int32) (l6 : Int32) (σ : xS2), J_X7_begin_6 p_X7_answerOfWheel p_X7_answerUnder f l1 l3 l4 l5 l6 σ = some (r, τ) → xFr [(40, 4), (42, 99)] σ τ := by
  intro f
  induction f with
  | zero => intro l1 l3 l4 l5 l6 σ h; cases h
  | succ f ih =>
    intro l1 l3 l4 l5 l6 σ h
    rcases xite_or h with ⟨-, h⟩ | ⟨-, h⟩
    · skip
      exact xFr_tq xFr_rf (FB_X7_begin_49 fp_X7_answerOfWheel fp_X7_answerUnder l1 l3 l4 l5 σ h)
    · skip
      rcases xite_or h with ⟨-, h⟩ | ⟨-, h⟩
      · skip
        exact xFr_tq xFr_rf (FB_X7_begin_49 fp_X7_answerOfWheel fp_X7_answerUnder l1 l3 l4 l5 σ h)
      · skip
        obtain ⟨-, h⟩ := xgd_some h
        rcases xite_ro h with ⟨-, h⟩ | ⟨-, h⟩
        · skip
          exact xFr_tq xFr_rf (FB_X7_begin_49 fp_X7_answerOfWheel fp_X7_answerUnder l1 l3 l4 l5 σ h)
        · skip
          obtain ⟨-, h⟩ := xgd_some h
          exact xFr_tq xFr_rf (ih l1 l3 l4 (xsv 5 l5) (l6 + (1 : Int32)) σ h)
set_option maxRecDepth 100000 in
set_option maxHeartbeats 4000000 in
theorem FD_X7_begin {p_X7_answerOfWheel : (Int32 → Int32 → Int32 → xS2 → Option (Int32 × xS2))} (fp_X7_answerOfWheel : ∀ (a1 : Int32) (a2 : Int32) (a3 : Int32) (σ : xS2) (r : Int32) (τ : xS2), p_X7_answerOfWheel a1 a2 a3 σ = some (r, τ) → xFr [(40, 4), (42, 99)] σ τ) {p_X7_answerUnder : (Int32 → Int32 → Int32 → Int32 → Int32 → xS2 → Option (Int32 × xS2))} (fp_X7_answerUnder : ∀ (a1 : Int32) (a2 : Int32) (a3 : Int32) (a4 : Int32) (a5 : Int32) (σ : xS2) (r : Int32) (τ : xS2), p_X7_answerUnder a1 a2 a3 a4 a5 σ = some (r, τ) → xFr [(40, 4), (42, 99)] σ τ) {a1 : Int32} {a2 : Int32} {a3 : Int32} {a4 : Int32} {σ : xS2} {r : Int32} {τ : xS2} (h : J_X7_begin_b p_X7_answerOfWheel p_X7_answerUnder a1 a2 a3 a4 σ = some (r, τ)) : xFr [(40, 4), (42, 99)] σ τ := by
  exact xFr_tq xFr_rf (FB_X7_begin_6 fp_X7_answerOfWheel fp_X7_answerUnder xFU a1 a3 a4 a2 (0 : Int32) σ h)
set_option maxRecDepth 100000 in
set_option maxHeartbeats 4000000 in
theorem FD_X7_own {p_X7_begin : (Int32 → Int32 → Int32 → Int32 → xS2 → Option (Int32 × xS2))} (fp_X7_begin : ∀ (a1 : Int32) (a2 : Int32) (a3 : Int32) (a4 : Int32) (σ : xS2) (r : Int32) (τ : xS2), p_X7_begin a1 a2 a3 a4 σ = some (r, τ) → xFr [(40, 4), (42, 99)] σ τ) {a1 : Int32} {a2 : Int32} {a3 : Int32} {σ : xS2} {r : Int32} {τ : xS2} (h : J_X7_own_b p_X7_begin a1 a2 a3 σ = some (r, τ)) : xFr [(40, 4), (42, 99)] σ τ := by
  obtain ⟨x1, h1, h⟩ := Option.bind_eq_some_iff.mp h
  obtain ⟨x2, h2, h⟩ := Option.bind_eq_some_iff.mp h
  obtain ⟨e1, e2⟩ := xso2 h
  subst e1
  subst e2
  exact (xFr_tr xFr_rf (fp_X7_begin _ _ _ _ _ _ _ h2) (by simp))
set_option maxRecDepth 100000 in
set_option maxHeartbeats 4000000 in
theorem FG_X7_answerOfWheel : ∀ n : Nat, (∀ (a1 : Int32) (a2 : Int32) (a3 : Int32) (σ : xS2) (r : Int32) (τ : xS2), (G_X7_answerOfWheel n).1 a1 a2 a3 σ = some (r, τ) → xFr [(40, 4), (42, 99)] σ τ) ∧ (∀ (a1 : Int32) (a2 : Int32) (a3 : Int32) (a4 : Int32) (a5 : Int32) (σ : xS2) (r : Int32) (τ : xS2), (G_X7_answerOfWheel n).2.1 a1 a2 a3 a4 a5 σ = some (r, τ) → xFr [(40, 4), (42, 99)] σ τ) ∧ (∀ (a1 : Int32) (a2 : Int32) (a3 : Int32) (a4 : Int32) (σ : xS2) (r : Int32) (τ : xS2), (G_X7_answerOfWheel n).2.2.1 a1 a2 a3 a4 σ = some (r, τ) → xFr [(40, 4), (42, 99)] σ τ) ∧ (∀ (a1 : Int32) (a2 : Int32) (a3 : Int32) (σ : xS2) (r : Int32) (τ : xS2), (G_X7_answerOfWheel n).2.2.2 a1 a2 a3 σ = some (r, τ) → xFr [(40, 4), (42, 99)] σ τ) := by
  intro n
  induction n with
  | zero => exact ⟨fun _ _ _ _ _ _ h => (by cases h), fun _ _ _ _ _ _ _ _ h => (by cases h), fun _ _ _ _ _ _ _ h => (by cases h), fun _ _ _ _ _ _ h => (by cases h)⟩
  | succ n ih =>
    obtain ⟨i_X7_answerOfWheel, i_X7_answerUnder, i_X7_begin, i_X7_own⟩ := ih
    exact ⟨fun _ _ _ _ _ _ h => FD_X7_answerOfWheel i_X7_own h, fun _ _ _ _ _ _ _ _ h => FD_X7_answerUnder i_X7_begin i_X7_own h, fun _ _ _ _ _ _ _ h => FD_X7_begin i_X7_answerOfWheel i_X7_answerUnder h, fun _ _ _ _ _ _ h => FD_X7_own i_X7_begin h⟩
theorem F_X7_answerOfWheel {a1 : Int32} {a2 : Int32} {a3 : Int32} {σ : xS2} {r : Int32} {τ : xS2} (h : J_X7_answerOfWheel a1 a2 a3 σ = some (r, τ)) : xFr [(40, 4), (42, 99)] σ τ := (FG_X7_answerOfWheel 100).1 _ _ _ _ _ _ h
theorem F_X7_answerUnder {a1 : Int32} {a2 : Int32} {a3 : Int32} {a4 : Int32} {a5 : Int32} {σ : xS2} {r : Int32} {τ : xS2} (h : J_X7_answerUnder a1 a2 a3 a4 a5 σ = some (r, τ)) : xFr [(40, 4), (42, 99)] σ τ := (FG_X7_answerOfWheel 100).2.1 _ _ _ _ _ _ _ _ h
theorem F_X7_begin {a1 : Int32} {a2 : Int32} {a3 : Int32} {a4 : Int32} {σ : xS2} {r : Int32} {τ : xS2} (h : J_X7_begin a1 a2 a3 a4 σ = some (r, τ)) : xFr [(40, 4), (42, 99)] σ τ := (FG_X7_answerOfWheel 100).2.2.1 _ _ _ _ _ _ _ h
theorem F_X7_own {a1 : Int32} {a2 : Int32} {a3 : Int32} {σ : xS2} {r : Int32} {τ : xS2} (h : J_X7_own a1 a2 a3 σ = some (r, τ)) : xFr [(40, 4), (42, 99)] σ τ := (FG_X7_answerOfWheel 100).2.2.2 _ _ _ _ _ _ h
set_option maxRecDepth 100000 in
set_option maxHeartbeats 4000000 in
theorem F_X7_perform {a1 : Int32} {a2 : Int32} {a3 : Int32} {σ : xS2} {r : Int32} {τ : xS2} (h : J_X7_perform a1 a2 a3 σ = some (r, τ)) : xFr [(40, 2), (40, 4), (42, 99)] σ τ := by
  rcases xite_or h with ⟨-, h⟩ | ⟨-, h⟩
  · skip
    obtain ⟨e1, e2⟩ := xso2 h
    subst e1
    subst e2
    exact (xFr_yI xFr_rf rfl)
  · skip
    rcases xite_or h with ⟨-, h⟩ | ⟨-, h⟩
    · skip
      obtain ⟨e1, e2⟩ := xso2 h
      subst e1
      subst e2
      exact (xFr_yI xFr_rf rfl)
    · skip
      rcases xite_or h with ⟨-, h⟩ | ⟨-, h⟩
      · skip
        obtain ⟨x5, h5, h⟩ := Option.bind_eq_some_iff.mp h
        obtain ⟨x6, h6, h⟩ := Option.bind_eq_some_iff.mp h
        obtain ⟨e1, e2⟩ := xso2 h
        subst e1
        subst e2
        exact (xFr_tr (xFr_yI (xFr_yI xFr_rf rfl) rfl) (F_X7_begin h6) (by simp))
      · skip
        obtain ⟨e1, e2⟩ := xso2 h
        subst e1
        subst e2
        exact (xFr_yI xFr_rf rfl)
set_option maxRecDepth 100000 in
set_option maxHeartbeats 4000000 in
theorem F_X8_act {a1 : Int32} {a2 : Int32} {a3 : Int32} {σ : xS2} {r : Int32} {τ : xS2} (h : J_X8_act a1 a2 a3 σ = some (r, τ)) : xFr [(40, 2), (40, 4), (42, 99)] σ τ := by
  obtain ⟨x1, h1, h⟩ := Option.bind_eq_some_iff.mp h
  obtain ⟨e1, e2⟩ := xso2 h
  subst e1
  subst e2
  exact (xFr_tr xFr_rf (F_X7_perform h1) (by simp))
set_option maxRecDepth 100000 in
set_option maxHeartbeats 4000000 in
theorem F_X8_back {σ : xS2} {r : Int32} {τ : xS2} (h : J_X8_back σ = some (r, τ)) : xFr [(0, 12), (3, 0), (3, 1), (3, 2), (3, 3)] σ τ := by
  rcases xite_or h with ⟨-, h⟩ | ⟨-, h⟩
  · skip
    obtain ⟨x2, h2, h⟩ := Option.bind_eq_some_iff.mp h
    obtain ⟨e1, e2⟩ := xso2 h
    subst e1
    subst e2
    exact (xFr_yI (xFr_tr xFr_rf (F_X0_become h2) (by simp)) rfl)
  · skip
    obtain ⟨e1, e2⟩ := xso2 h
    subst e1
    subst e2
    exact xFr_rf
set_option maxRecDepth 100000 in
set_option maxHeartbeats 4000000 in
theorem F_X8_body {a1 : Int32} {σ : xS2} {r : Int32} {τ : xS2} (h : J_X8_body a1 σ = some (r, τ)) : xFr [(40, 3), (41, 99)] σ τ := by
  rcases xite_ro h with ⟨-, h⟩ | ⟨-, h⟩
  · skip
    obtain ⟨x3, h3, h⟩ := Option.bind_eq_some_iff.mp h
    rcases xite_or h with ⟨-, h⟩ | ⟨-, h⟩
    · skip
      obtain ⟨e1, e2⟩ := xso2 h
      subst e1
      subst e2
      exact (xFr_tr xFr_rf (F_X7_add h3) (by simp))
    · skip
      obtain ⟨e1, e2⟩ := xso2 h
      subst e1
      subst e2
      exact (xFr_tr xFr_rf (F_X7_add h3) (by simp))
  · skip
    obtain ⟨e1, e2⟩ := xso2 h
    subst e1
    subst e2
    exact xFr_rf
set_option maxRecDepth 100000 in
set_option maxHeartbeats 4000000 in
theorem F_X8_cheapest {a1 : Int32} {a2 : Int32} {σ : xS2} {r : Int32} {τ : xS2} (h : J_X8_cheapest a1 a2 σ = some (r, τ)) : xFr [(14, 99)] σ τ := by
  rcases xite_or h with ⟨-, h⟩ | ⟨-, h⟩
  · skip
    obtain ⟨e1, e2⟩ := xso2 h
    subst e1
    subst e2
    exact xFr_rf
  · skip
    rcases xite_or h with ⟨-, h⟩ | ⟨-, h⟩
    · skip
      obtain ⟨e1, e2⟩ := xso2 h
      subst e1
      subst e2
      exact xFr_rf
    · skip
      rcases xite_or h with ⟨-, h⟩ | ⟨-, h⟩
      · skip
        obtain ⟨e1, e2⟩ := xso2 h
        subst e1
        subst e2
        exact xFr_rf
      · skip
        rcases xite_ro h with ⟨-, h⟩ | ⟨-, h⟩
        · skip
          obtain ⟨x8, h8, h⟩ := Option.bind_eq_some_iff.mp h
          rcases xite_ro h with ⟨-, h⟩ | ⟨-, h⟩
          · skip
            obtain ⟨x10, h10, h⟩ := Option.bind_eq_some_iff.mp h
            rcases xite_or h with ⟨-, h⟩ | ⟨-, h⟩
            · skip
              obtain ⟨e1, e2⟩ := xso2 h
              subst e1
              subst e2
              exact (xFr_tr xFr_rf (F_X6_spreadTo h8) (by simp))
            · skip
              obtain ⟨e1, e2⟩ := xso2 h
              subst e1
              subst e2
              exact (xFr_tr xFr_rf (F_X6_spreadTo h8) (by simp))
          · skip
            obtain ⟨x12, h12, h⟩ := Option.bind_eq_some_iff.mp h
            obtain ⟨e1, e2⟩ := xso2 h
            subst e1
            subst e2
            exact (xFr_tr xFr_rf (F_X6_spreadTo h8) (by simp))
        · skip
          obtain ⟨e1, e2⟩ := xso2 h
          subst e1
          subst e2
          exact xFr_rf
set_option maxRecDepth 100000 in
set_option maxHeartbeats 4000000 in
theorem F_X8_live {a1 : Int32} {σ : xS2} {r : Bool} {τ : xS2} (h : J_X8_live a1 σ = some (r, τ)) : xFr [(0, 12), (3, 0), (3, 1), (3, 2), (3, 3), (6, 99), (7, 99)] σ τ := by
  rcases xite_or h with ⟨-, h⟩ | ⟨-, h⟩
  · skip
    obtain ⟨x2, h2, h⟩ := Option.bind_eq_some_iff.mp h
    obtain ⟨-, h⟩ := xgd_some h
    obtain ⟨-, h⟩ := xgd_some h
    obtain ⟨e1, e2⟩ := xso2 h
    subst e1
    subst e2
    exact (xFr_yI (xFr_yI (xFr_yI (xFr_tr xFr_rf (F_X0_live h2) (by simp)) rfl) rfl) rfl)
  · skip
    obtain ⟨e1, e2⟩ := xso2 h
    subst e1
    subst e2
    exact xFr_rf
set_option maxRecDepth 100000 in
set_option maxHeartbeats 4000000 in
theorem F_X8_day {a1 : Int32} {σ : xS2} {r : Int32} {τ : xS2} (h : J_X8_day a1 σ = some (r, τ)) : xFr [(0, 12), (3, 0), (3, 1), (3, 2), (3, 3), (6, 99), (7, 99)] σ τ := by
  rcases xite_or h with ⟨-, h⟩ | ⟨-, h⟩
  · skip
    obtain ⟨e1, e2⟩ := xso2 h
    subst e1
    subst e2
    exact xFr_rf
  · skip
    rcases xite_or h with ⟨-, h⟩ | ⟨-, h⟩
    · skip
      rcases xite_or h with ⟨-, h⟩ | ⟨-, h⟩
      · skip
        obtain ⟨x4, h4, h⟩ := Option.bind_eq_some_iff.mp h
        rcases xite_or h with ⟨-, h⟩ | ⟨-, h⟩
        · skip
          obtain ⟨e1, e2⟩ := xso2 h
          subst e1
          subst e2
          exact (xFr_tr xFr_rf (F_X8_live h4) (by simp))
        · skip
          obtain ⟨e1, e2⟩ := xso2 h
          subst e1
          subst e2
          exact (xFr_tr xFr_rf (F_X8_live h4) (by simp))
      · skip
        obtain ⟨e1, e2⟩ := xso2 h
        subst e1
        subst e2
        exact xFr_rf
    · skip
      obtain ⟨e1, e2⟩ := xso2 h
      subst e1
      subst e2
      exact xFr_rf
set_option maxRecDepth 100000 in
set_option maxHeartbeats 4000000 in
theorem FB_X8_days_65 {r : Int32} {τ : xS2} {k31 : Int32 → Int32 → Int32 → xS2 → Option (Int32 × xS2)} (hk31 : ∀ (l1 : Int32) (l2 : Int32) (l3 : Int32) (σ : xS2), k31 l1 l2 l3 σ = some (r, τ) → xFr [(0, 12), (12, 99), (3, 0), (3, 1), (3, 2), (3, 3), (6, 99), (7, 99), (8, 6)] σ τ) : ∀ (l1 : Int32) (l2 : Int32) (l3 : Int32) (σ : xS2), J_X8_days_65 k31 l1 l2 l3 σ = some (r, τ) → xFr [(0, 12), (12, 99), (3, 0), (3, 1), (3, 2), (3, 3), (6, 99), (7, 99), (8, 6)] σ τ := by
  intro l1 l2 l3 σ h
  exact xFr_tq xFr_rf (hk31 l1 l2 (l3 + (1 : Int32)) σ h)
set_option maxRecDepth 100000 in
set_option maxHeartbeats 4000000 in
theorem FB_X8_days_31 {r : Int32} {τ : xS2} : ∀ (f : Nat) (l1 : Int32) (l2 : Int32) (l3 : Int32) (σ : xS2), J_X8_days_31 f l1 l2 l3 σ = some (r, τ) → xFr [(0, 12), (12, 99), (3, 0), (3, 1), (3, 2), (3, 3), (6, 99), (7, 99), (8, 6)] σ τ := by
  intro f
  induction f with
  | zero => intro l1 l2 l3 σ h; cases h
  | succ f ih =>
    intro l1 l2 l3 σ h
    rcases xite_or h with ⟨-, h⟩ | ⟨-, h⟩
    · skip
      obtain ⟨e1, e2⟩ := xso2 h
      subst e1
      subst e2
      exact xFr_rf
    · skip
      obtain ⟨x5, h5, h⟩ := Option.bind_eq_some_iff.mp h
      obtain ⟨x6, h6, h⟩ := Option.bind_eq_some_iff.mp h
      rcases xite_or h with ⟨-, h⟩ | ⟨-, h⟩
      · skip
        exact xFr_tq (xFr_tr (xFr_tr xFr_rf (F_X2_orderFor h5) (by simp)) (F_X8_live h6) (by simp)) (FB_X8_days_65 ih l1 l2 l3 x6.2 h)
      · skip
        exact xFr_tq (xFr_tr (xFr_tr xFr_rf (F_X2_orderFor h5) (by simp)) (F_X8_live h6) (by simp)) (FB_X8_days_65 ih l1 (l2 + (1 : Int32)) l3 x6.2 h)
set_option maxRecDepth 100000 in
set_option maxHeartbeats 4000000 in
theorem F_X8_days {a1 : Int32} {σ : xS2} {r : Int32} {τ : xS2} (h : J_X8_days a1 σ = some (r, τ)) : xFr [(0, 12), (12, 99), (3, 0), (3, 1), (3, 2), (3, 3), (6, 99), (7, 99), (8, 6)] σ τ := by
  rcases xite_or h with ⟨-, h⟩ | ⟨-, h⟩
  · skip
    obtain ⟨e1, e2⟩ := xso2 h
    subst e1
    subst e2
    exact xFr_rf
  · skip
    rcases xite_or h with ⟨-, h⟩ | ⟨-, h⟩
    · skip
      rcases xite_or h with ⟨-, h⟩ | ⟨-, h⟩
      · skip
        exact xFr_tq xFr_rf (FB_X8_days_31 xFU a1 (0 : Int32) (0 : Int32) σ h)
      · skip
        obtain ⟨e1, e2⟩ := xso2 h
        subst e1
        subst e2
        exact xFr_rf
    · skip
      obtain ⟨e1, e2⟩ := xso2 h
      subst e1
      subst e2
      exact xFr_rf
set_option maxRecDepth 100000 in
set_option maxHeartbeats 4000000 in
theorem FB_X8_drawn_157 {r : Int32} {τ : xS2} {k33 : Int32 → Int32 → Int32 → Int32 → Int32 → Int32 → xS2 → Option (Int32 × xS2)} (hk33 : ∀ (l2 : Int32) (l3 : Int32) (l4 : Int32) (l5 : Int32) (l6 : Int32) (l7 : Int32) (σ : xS2), k33 l2 l3 l4 l5 l6 l7 σ = some (r, τ) → xFr [(4, 0), (4, 1), (4, 2), (4, 3)] σ τ) : ∀ (l2 : Int32) (l3 : Int32) (l4 : Int32) (l5 : Int32) (l6 : Int32) (l7 : Int32) (σ : xS2), J_X8_drawn_157 k33 l2 l3 l4 l5 l6 l7 σ = some (r, τ) → xFr [(4, 0), (4, 1), (4, 2), (4, 3)] σ τ := by
  intro l2 l3 l4 l5 l6 l7 σ h
  exact xFr_tq xFr_rf (hk33 l2 l3 l4 l5 (l6 + (σ.1 4 1)) (l7 + (1 : Int32)) σ h)
set_option maxRecDepth 100000 in
set_option maxHeartbeats 4000000 in
theorem FB_X8_drawn_143 {r : Int32} {τ : xS2} {k33 : Int32 → Int32 → Int32 → Int32 → Int32 → Int32 → xS2 → Option (Int32 × xS2)} (hk33 : ∀ (l2 : Int32) (l3 : Int32) (l4 : Int32) (l5 : Int32) (l6 : Int32) (l7 : Int32) (σ : xS2), k33 l2 l3 l4 l5 l6 l7 σ = some (r, τ) → xFr [(4, 0), (4, 1), (4, 2), (4, 3)] σ τ) {k59 : Int32 → Int32 → Int32 → Int32 → Int32 → Int32 → Bool → Int32 → xS2 → Option (Int32 × xS2)} (hk59 : ∀ (l2 : Int32) (l3 : Int32) (l4 : Int32) (l5 : Int32) (l6 : Int32) (l7 : Int32) (l8 : Bool) (l9 : Int32) (σ : xS2), k59 l2 l3 l4 l5 l6 l7 l8 l9 σ = some (r, τ) → xFr [(4, 0), (4, 1), (4, 2), (4, 3)] σ τ) : ∀ (l2 : Int32) (l3 : Int32) (l4 : Int32) (l5 : Int32) (l6 : Int32) (l7 : Int32) (l8 : Bool) (l9 : Int32) (σ : xS2), J_X8_drawn_143 k33 k59 l2 l3 l4 l5 l6 l7 l8 l9 σ = some (r, τ) → xFr [(4, 0), (4, 1), (4, 2), (4, 3)] σ τ := by
  intro l2 l3 l4 l5 l6 l7 l8 l9 σ h
  exact xFr_tq xFr_rf (hk59 l2 l3 l4 l5 l6 l7 l8 (l9 + (1 : Int32)) σ h)
set_option maxRecDepth 100000 in
set_option maxHeartbeats 4000000 in
theorem FB_X8_drawn_102 {r : Int32} {τ : xS2} {k33 : Int32 → Int32 → Int32 → Int32 → Int32 → Int32 → xS2 → Option (Int32 × xS2)} (hk33 : ∀ (l2 : Int32) (l3 : Int32) (l4 : Int32) (l5 : Int32) (l6 : Int32) (l7 : Int32) (σ : xS2), k33 l2 l3 l4 l5 l6 l7 σ = some (r, τ) → xFr [(4, 0), (4, 1), (4, 2), (4, 3)] σ τ) {k59 : Int32 → Int32 → Int32 → Int32 → Int32 → Int32 → Bool → Int32 → xS2 → Option (Int32 × xS2)} (hk59 : ∀ (l2 : Int32) (l3 : Int32) (l4 : Int32) (l5 : Int32) (l6 : Int32) (l7 : Int32) (l8 : Bool) (l9 : Int32) (σ : xS2), k59 l2 l3 l4 l5 l6 l7 l8 l9 σ = some (r, τ) → xFr [(4, 0), (4, 1), (4, 2), (4, 3)] σ τ) : ∀ (l2 : Int32) (l3 : Int32) (l4 : Int32) (l5 : Int32) (l6 : Int32) (l7 : Int32) (l8 : Bool) (l9 : Int32) (s0 : Int32) (σ : xS2), J_X8_drawn_102 k33 k59 l2 l3 l4 l5 l6 l7 l8 l9 s0 σ = some (r, τ) → xFr [(4, 0), (4, 1), (4, 2), (4, 3)] σ τ := by
  intro l2 l3 l4 l5 l6 l7 l8 l9 s0 σ h
  obtain ⟨x12, h12, h⟩ := Option.bind_eq_some_iff.mp h
  obtain ⟨x13, h13, h⟩ := Option.bind_eq_some_iff.mp h
  rcases xite_ro h with ⟨-, h⟩ | ⟨-, h⟩
  · skip
    exact xFr_tq (xFr_tr xFr_rf (F_X0_liveUnder h13) (by simp)) (FB_X8_drawn_143 hk33 hk59 l2 l3 l4 l5 l6 l7 l8 l9 x13.2 h)
  · skip
    exact xFr_tq (xFr_tr xFr_rf (F_X0_liveUnder h13) (by simp)) (FB_X8_drawn_143 hk33 hk59 l2 l3 l4 l5 l6 l7 true l9 x13.2 h)
set_option maxRecDepth 100000 in
set_option maxHeartbeats 4000000 in
theorem FB_X8_drawn_59 {r : Int32} {τ : xS2} {k33 : Int32 → Int32 → Int32 → Int32 → Int32 → Int32 → xS2 → Option (Int32 × xS2)} (hk33 : ∀ (l2 : Int32) (l3 : Int32) (l4 : Int32) (l5 : Int32) (l6 : Int32) (l7 : Int32) (σ : xS2), k33 l2 l3 l4 l5 l6 l7 σ = some (r, τ) → xFr [(4, 0), (4, 1), (4, 2), (4, 3)] σ τ) : ∀ (f : Nat) (l2 : Int32) (l3 : Int32) (l4 : Int32) (l5 : Int32) (l6 : Int32) (l7 : Int32) (l8 : Bool) (l9 : Int32) (σ : xS2), J_X8_drawn_59 k33 f l2 l3 l4 l5 l6 l7 l8 l9 σ = some (r, τ) → xFr [(4, 0), (4, 1), (4, 2), (4, 3)] σ τ := by
  intro f
  induction f with
  | zero => intro l2 l3 l4 l5 l6 l7 l8 l9 σ h; cases h
  | succ f ih =>
    intro l2 l3 l4 l5 l6 l7 l8 l9 σ h
    rcases xite_or h with ⟨-, h⟩ | ⟨-, h⟩
    · skip
      rcases xite_or h with ⟨-, h⟩ | ⟨-, h⟩
      · skip
        exact xFr_tq xFr_rf (FB_X8_drawn_157 hk33 l2 l3 l4 l5 l6 l7 σ h)
      · skip
        exact xFr_tq xFr_rf (FB_X8_drawn_157 hk33 l2 l3 l4 (l5 + (1 : Int32)) l6 l7 σ h)
    · skip
      rcases xite_or h with ⟨-, h⟩ | ⟨-, h⟩
      · skip
        exact xFr_tq xFr_rf (FB_X8_drawn_102 hk33 ih l2 l3 ((l4 * (1103515245 : Int32)) + (12345 : Int32)) l5 l6 l7 l8 l9 (0 : Int32) σ h)
      · skip
        exact xFr_tq xFr_rf (FB_X8_drawn_102 hk33 ih l2 l3 ((l4 * (1103515245 : Int32)) + (12345 : Int32)) l5 l6 l7 l8 l9 (9 : Int32) σ h)
set_option maxRecDepth 100000 in
set_option maxHeartbeats 4000000 in
theorem FB_X8_drawn_33 {r : Int32} {τ : xS2} : ∀ (f : Nat) (l2 : Int32) (l3 : Int32) (l4 : Int32) (l5 : Int32) (l6 : Int32) (l7 : Int32) (σ : xS2), J_X8_drawn_33 f l2 l3 l4 l5 l6 l7 σ = some (r, τ) → xFr [(4, 0), (4, 1), (4, 2), (4, 3)] σ τ := by
  intro f
  induction f with
  | zero => intro l2 l3 l4 l5 l6 l7 σ h; cases h
  | succ f ih =>
    intro l2 l3 l4 l5 l6 l7 σ h
    rcases xite_or h with ⟨-, h⟩ | ⟨-, h⟩
    · skip
      rcases xite_ro h with ⟨-, h⟩ | ⟨-, h⟩
      · skip
        obtain ⟨e1, e2⟩ := xso2 h
        subst e1
        subst e2
        exact xFr_rf
      · skip
        obtain ⟨e1, e2⟩ := xso2 h
        subst e1
        subst e2
        exact xFr_rf
    · skip
      obtain ⟨x7, h7, h⟩ := Option.bind_eq_some_iff.mp h
      exact xFr_tq (xFr_tr xFr_rf (F_X0_become h7) (by simp)) (FB_X8_drawn_59 ih xFU l2 l3 l4 l5 l6 l7 false (x7.1 0 12) x7 h)
set_option maxRecDepth 100000 in
set_option maxHeartbeats 4000000 in
theorem F_X8_drawn {a1 : Int32} {a2 : Int32} {a3 : Int32} {σ : xS2} {r : Int32} {τ : xS2} (h : J_X8_drawn a1 a2 a3 σ = some (r, τ)) : xFr [(4, 0), (4, 1), (4, 2), (4, 3)] σ τ := by
  rcases xite_or h with ⟨-, h⟩ | ⟨-, h⟩
  · skip
    obtain ⟨e1, e2⟩ := xso2 h
    subst e1
    subst e2
    exact xFr_rf
  · skip
    rcases xite_or h with ⟨-, h⟩ | ⟨-, h⟩
    · skip
      obtain ⟨e1, e2⟩ := xso2 h
      subst e1
      subst e2
      exact xFr_rf
    · skip
      rcases xite_ro h with ⟨-, h⟩ | ⟨-, h⟩
      · skip
        exact xFr_tq xFr_rf (FB_X8_drawn_33 xFU a2 a3 a1 (0 : Int32) (0 : Int32) (0 : Int32) σ h)
      · skip
        obtain ⟨e1, e2⟩ := xso2 h
        subst e1
        subst e2
        exact xFr_rf
set_option maxRecDepth 100000 in
set_option maxHeartbeats 4000000 in
theorem F_X8_feed {a1 : Int32} {σ : xS2} {r : Int32} {τ : xS2} (h : J_X8_feed a1 σ = some (r, τ)) : xFr [(8, 9), (9, 99)] σ τ := by
  rcases xite_or h with ⟨-, h⟩ | ⟨-, h⟩
  · skip
    obtain ⟨e1, e2⟩ := xso2 h
    subst e1
    subst e2
    exact xFr_rf
  · skip
    rcases xite_or h with ⟨-, h⟩ | ⟨-, h⟩
    · skip
      obtain ⟨x3, h3, h⟩ := Option.bind_eq_some_iff.mp h
      rcases xite_or h with ⟨-, h⟩ | ⟨-, h⟩
      · skip
        obtain ⟨e1, e2⟩ := xso2 h
        subst e1
        subst e2
        exact (xFr_tr xFr_rf (F_X2_take h3) (by simp))
      · skip
        obtain ⟨e1, e2⟩ := xso2 h
        subst e1
        subst e2
        exact (xFr_tr xFr_rf (F_X2_take h3) (by simp))
    · skip
      obtain ⟨e1, e2⟩ := xso2 h
      subst e1
      subst e2
      exact xFr_rf
set_option maxRecDepth 100000 in
set_option maxHeartbeats 4000000 in
theorem FB_X8_first_55 {r : Int32} {τ : xS2} : ∀ (f : Nat) (l1 : Int32) (l3 : Int32) (l4 : Int32) (σ : xS2), J_X8_first_55 f l1 l3 l4 σ = some (r, τ) → xFr [(4, 0), (4, 1), (4, 2), (4, 3)] σ τ := by
  intro f
  induction f with
  | zero => intro l1 l3 l4 σ h; cases h
  | succ f ih =>
    intro l1 l3 l4 σ h
    rcases xite_or h with ⟨-, h⟩ | ⟨-, h⟩
    · skip
      obtain ⟨e1, e2⟩ := xso2 h
      subst e1
      subst e2
      exact xFr_rf
    · skip
      obtain ⟨-, h⟩ := xgd_some h
      obtain ⟨x9, h9, h⟩ := Option.bind_eq_some_iff.mp h
      obtain ⟨x10, h10, h⟩ := Option.bind_eq_some_iff.mp h
      rcases xite_ro h with ⟨-, h⟩ | ⟨-, h⟩
      · skip
        exact xFr_tq (xFr_tr xFr_rf (F_X0_live h10) (by simp)) (ih l1 l3 (l4 + (1 : Int32)) x10.2 h)
      · skip
        obtain ⟨e1, e2⟩ := xso2 h
        subst e1
        subst e2
        exact (xFr_tr xFr_rf (F_X0_live h10) (by simp))
set_option maxRecDepth 100000 in
set_option maxHeartbeats 4000000 in
theorem F_X8_first {a1 : Int32} {σ : xS2} {r : Int32} {τ : xS2} (h : J_X8_first a1 σ = some (r, τ)) : xFr [(4, 0), (4, 1), (4, 2), (4, 3)] σ τ := by
  rcases xite_ro h with ⟨-, h⟩ | ⟨-, h⟩
  · skip
    obtain ⟨x3, h3, h⟩ := Option.bind_eq_some_iff.mp h
    rcases xite_or h with ⟨-, h⟩ | ⟨-, h⟩
    · skip
      obtain ⟨-, h⟩ := xgd_some h
      obtain ⟨x6, h6, h⟩ := Option.bind_eq_some_iff.mp h
      exact xFr_tq (xFr_tr xFr_rf (F_X0_become h6) (by simp)) (FB_X8_first_55 xFU a1 (xmin (σ.1 (28 + 2 * a1.toNatClampNeg) 4) ((60 : Int32) - (σ.1 0 12))) (0 : Int32) x6 h)
    · skip
      obtain ⟨e1, e2⟩ := xso2 h
      subst e1
      subst e2
      exact xFr_rf
  · skip
    obtain ⟨e1, e2⟩ := xso2 h
    subst e1
    subst e2
    exact xFr_rf
set_option maxRecDepth 100000 in
set_option maxHeartbeats 4000000 in
theorem FB_X8_heightsFrom_6 {r : Int32} {τ : xS2} : ∀ (f : Nat) (l1 : Nat) (l2 : Int32) (l3 : Int32) (l4 : Int32) (l5 : Int32) (l6 : Int32) (σ : xS2), J_X8_heightsFrom_6 f l1 l2 l3 l4 l5 l6 σ = some (r, τ) → xFr [(2, 99)] σ τ := by
  intro f
  induction f with
  | zero => intro l1 l2 l3 l4 l5 l6 σ h; cases h
  | succ f ih =>
    intro l1 l2 l3 l4 l5 l6 σ h
    rcases xite_or h with ⟨-, h⟩ | ⟨-, h⟩
    · skip
      obtain ⟨e1, e2⟩ := xso2 h
      subst e1
      subst e2
      exact xFr_rf
    · skip
      obtain ⟨x2, h2, h⟩ := Option.bind_eq_some_iff.mp h
      rcases xite_or h with ⟨-, h⟩ | ⟨-, h⟩
      · skip
        obtain ⟨e1, e2⟩ := xso2 h
        subst e1
        subst e2
        exact xFr_rf
      · skip
        rcases xite_or h with ⟨-, h⟩ | ⟨-, h⟩
        · skip
          obtain ⟨e1, e2⟩ := xso2 h
          subst e1
          subst e2
          exact xFr_rf
        · skip
          rcases xite_or h with ⟨-, h⟩ | ⟨-, h⟩
          · skip
            obtain ⟨x6, h6, h⟩ := Option.bind_eq_some_iff.mp h
            obtain ⟨x7, h7, h⟩ := Option.bind_eq_some_iff.mp h
            rcases xite_ro h with ⟨-, h⟩ | ⟨-, h⟩
            · skip
              obtain ⟨x9, h9, h⟩ := Option.bind_eq_some_iff.mp h
              exact xFr_tq (xFr_tr xFr_rf (F_X3_tell h9) (by simp)) (ih l1 l2 l3 l4 (l5 + (1 : Int32)) (l6 + (1 : Int32)) x9 h)
            · skip
              obtain ⟨e1, e2⟩ := xso2 h
              subst e1
              subst e2
              exact xFr_rf
          · skip
            obtain ⟨e1, e2⟩ := xso2 h
            subst e1
            subst e2
            exact xFr_rf
set_option maxRecDepth 100000 in
set_option maxHeartbeats 4000000 in
theorem F_X8_heightsFrom {a1 : Nat} {a2 : Int32} {a3 : Int32} {a4 : Int32} {σ : xS2} {r : Int32} {τ : xS2} (h : J_X8_heightsFrom a1 a2 a3 a4 σ = some (r, τ)) : xFr [(2, 99)] σ τ := by
  exact xFr_tq xFr_rf (FB_X8_heightsFrom_6 xFU a1 a2 a3 a4 (0 : Int32) (0 : Int32) σ h)
set_option maxRecDepth 100000 in
set_option maxHeartbeats 4000000 in
theorem F_X8_heights {a1 : Int32} {a2 : Int32} {a3 : Int32} {σ : xS2} {r : Int32} {τ : xS2} (h : J_X8_heights a1 a2 a3 σ = some (r, τ)) : xFr [(2, 99)] σ τ := by
  rcases xite_or h with ⟨-, h⟩ | ⟨-, h⟩
  · skip
    obtain ⟨e1, e2⟩ := xso2 h
    subst e1
    subst e2
    exact xFr_rf
  · skip
    rcases xite_or h with ⟨-, h⟩ | ⟨-, h⟩
    · skip
      rcases xite_or h with ⟨-, h⟩ | ⟨-, h⟩
      · skip
        obtain ⟨e1, e2⟩ := xso2 h
        subst e1
        subst e2
        exact xFr_rf
      · skip
        rcases xite_or h with ⟨-, h⟩ | ⟨-, h⟩
        · skip
          obtain ⟨e1, e2⟩ := xso2 h
          subst e1
          subst e2
          exact xFr_rf
        · skip
          rcases xite_or h with ⟨-, h⟩ | ⟨-, h⟩
          · skip
            obtain ⟨-, h⟩ := xgd_some h
            rcases xite_or h with ⟨-, h⟩ | ⟨-, h⟩
            · skip
              obtain ⟨-, h⟩ := xgd_some h
              rcases xite_ro h with ⟨-, h⟩ | ⟨-, h⟩
              · skip
                obtain ⟨-, h⟩ := xgd_some h
                obtain ⟨x15, h15, h⟩ := Option.bind_eq_some_iff.mp h
                obtain ⟨e1, e2⟩ := xso2 h
                subst e1
                subst e2
                exact (xFr_tr xFr_rf (F_X8_heightsFrom h15) (by simp))
              · skip
                obtain ⟨e1, e2⟩ := xso2 h
                subst e1
                subst e2
                exact xFr_rf
            · skip
              obtain ⟨e1, e2⟩ := xso2 h
              subst e1
              subst e2
              exact xFr_rf
          · skip
            obtain ⟨e1, e2⟩ := xso2 h
            subst e1
            subst e2
            exact xFr_rf
    · skip
      obtain ⟨e1, e2⟩ := xso2 h
      subst e1
      subst e2
      exact xFr_rf
set_option maxRecDepth 100000 in
set_option maxHeartbeats 4000000 in
theorem F_X8_image {σ : xS2} {r : Int32} {τ : xS2} (h : J_X8_image σ = some (r, τ)) : xFr [(0, 13), (5, 0), (5, 1), (5, 2), (5, 3)] σ τ := by
  obtain ⟨x1, h1, h⟩ := Option.bind_eq_some_iff.mp h
  obtain ⟨e1, e2⟩ := xso2 h
  subst e1
  subst e2
  exact (xFr_yI (xFr_tr xFr_rf (F_X0_become h1) (by simp)) rfl)
set_option maxRecDepth 100000 in
set_option maxHeartbeats 4000000 in
theorem FB_X8_judge_55 {r : Int32} {τ : xS2} : ∀ (f : Nat) (l1 : Int32) (l3 : Int32) (l4 : Int32) (σ : xS2), J_X8_judge_55 f l1 l3 l4 σ = some (r, τ) → xFr [(4, 0), (4, 1), (4, 2), (4, 3)] σ τ := by
  intro f
  induction f with
  | zero => intro l1 l3 l4 σ h; cases h
  | succ f ih =>
    intro l1 l3 l4 σ h
    rcases xite_or h with ⟨-, h⟩ | ⟨-, h⟩
    · skip
      obtain ⟨e1, e2⟩ := xso2 h
      subst e1
      subst e2
      exact xFr_rf
    · skip
      obtain ⟨x8, h8, h⟩ := Option.bind_eq_some_iff.mp h
      obtain ⟨-, h⟩ := xgd_some h
      obtain ⟨x10, h10, h⟩ := Option.bind_eq_some_iff.mp h
      rcases xite_or h with ⟨-, h⟩ | ⟨-, h⟩
      · skip
        exact xFr_tq (xFr_tr xFr_rf (F_X0_live h8) (by simp)) (ih l1 l3 (l4 + (1 : Int32)) x8.2 h)
      · skip
        obtain ⟨e1, e2⟩ := xso2 h
        subst e1
        subst e2
        exact (xFr_tr xFr_rf (F_X0_live h8) (by simp))
set_option maxRecDepth 100000 in
set_option maxHeartbeats 4000000 in
theorem F_X8_judge {a1 : Int32} {σ : xS2} {r : Int32} {τ : xS2} (h : J_X8_judge a1 σ = some (r, τ)) : xFr [(4, 0), (4, 1), (4, 2), (4, 3)] σ τ := by
  rcases xite_ro h with ⟨-, h⟩ | ⟨-, h⟩
  · skip
    obtain ⟨x3, h3, h⟩ := Option.bind_eq_some_iff.mp h
    rcases xite_or h with ⟨-, h⟩ | ⟨-, h⟩
    · skip
      obtain ⟨-, h⟩ := xgd_some h
      obtain ⟨x6, h6, h⟩ := Option.bind_eq_some_iff.mp h
      exact xFr_tq (xFr_tr xFr_rf (F_X0_become h6) (by simp)) (FB_X8_judge_55 xFU a1 (xmin (σ.1 (28 + 2 * a1.toNatClampNeg) 4) ((60 : Int32) - (σ.1 0 12))) (0 : Int32) x6 h)
    · skip
      obtain ⟨e1, e2⟩ := xso2 h
      subst e1
      subst e2
      exact xFr_rf
  · skip
    obtain ⟨e1, e2⟩ := xso2 h
    subst e1
    subst e2
    exact xFr_rf
set_option maxRecDepth 100000 in
set_option maxHeartbeats 4000000 in
theorem FB_X8_lasts_28 {r : Int32} {τ : xS2} : ∀ (f : Nat) (l1 : Int32) (l2 : Int32) (σ : xS2), J_X8_lasts_28 f l1 l2 σ = some (r, τ) → xFr [(4, 0), (4, 1), (4, 2), (4, 3)] σ τ := by
  intro f
  induction f with
  | zero => intro l1 l2 σ h; cases h
  | succ f ih =>
    intro l1 l2 σ h
    rcases xite_or h with ⟨-, h⟩ | ⟨-, h⟩
    · skip
      obtain ⟨e1, e2⟩ := xso2 h
      subst e1
      subst e2
      exact xFr_rf
    · skip
      obtain ⟨x5, h5, h⟩ := Option.bind_eq_some_iff.mp h
      obtain ⟨x6, h6, h⟩ := Option.bind_eq_some_iff.mp h
      obtain ⟨x7, h7, h⟩ := Option.bind_eq_some_iff.mp h
      rcases xite_ro h with ⟨-, h⟩ | ⟨-, h⟩
      · skip
        exact xFr_tq (xFr_tr xFr_rf (F_X0_liveUnder h7) (by simp)) (ih l1 (l2 + (1 : Int32)) x7.2 h)
      · skip
        obtain ⟨e1, e2⟩ := xso2 h
        subst e1
        subst e2
        exact (xFr_tr xFr_rf (F_X0_liveUnder h7) (by simp))
set_option maxRecDepth 100000 in
set_option maxHeartbeats 4000000 in
theorem F_X8_lasts {a1 : Int32} {σ : xS2} {r : Int32} {τ : xS2} (h : J_X8_lasts a1 σ = some (r, τ)) : xFr [(4, 0), (4, 1), (4, 2), (4, 3)] σ τ := by
  rcases xite_or h with ⟨-, h⟩ | ⟨-, h⟩
  · skip
    obtain ⟨e1, e2⟩ := xso2 h
    subst e1
    subst e2
    exact xFr_rf
  · skip
    rcases xite_or h with ⟨-, h⟩ | ⟨-, h⟩
    · skip
      obtain ⟨x3, h3, h⟩ := Option.bind_eq_some_iff.mp h
      exact xFr_tq (xFr_tr xFr_rf (F_X0_become h3) (by simp)) (FB_X8_lasts_28 xFU a1 (x3.1 0 12) x3 h)
    · skip
      obtain ⟨e1, e2⟩ := xso2 h
      subst e1
      subst e2
      exact xFr_rf
set_option maxRecDepth 100000 in
set_option maxHeartbeats 4000000 in
theorem F_X8_law {σ : xS2} {r : Int32} {τ : xS2} (h : J_X8_law σ = some (r, τ)) : xFr [(10, 99), (11, 99), (8, 4), (8, 5), (8, 7), (8, 8), (8, 9)] σ τ := by
  obtain ⟨x1, h1, h⟩ := Option.bind_eq_some_iff.mp h
  rcases xite_or h with ⟨-, h⟩ | ⟨-, h⟩
  · skip
    obtain ⟨e1, e2⟩ := xso2 h
    subst e1
    subst e2
    exact (xFr_tr xFr_rf (F_X2_become h1) (by simp))
  · skip
    obtain ⟨e1, e2⟩ := xso2 h
    subst e1
    subst e2
    exact (xFr_tr xFr_rf (F_X2_become h1) (by simp))
set_option maxRecDepth 100000 in
set_option maxHeartbeats 4000000 in
theorem FB_X8_lawful_47 {r : Int32} {τ : xS2} : ∀ (f : Nat) (l1 : Int32) (l2 : Int32) (l3 : Int32) (σ : xS2), J_X8_lawful_47 f l1 l2 l3 σ = some (r, τ) → xFr [(12, 99), (4, 0), (4, 1), (4, 2), (4, 3), (8, 6)] σ τ := by
  intro f
  induction f with
  | zero => intro l1 l2 l3 σ h; cases h
  | succ f ih =>
    intro l1 l2 l3 σ h
    rcases xite_or h with ⟨-, h⟩ | ⟨-, h⟩
    · skip
      obtain ⟨e1, e2⟩ := xso2 h
      subst e1
      subst e2
      exact xFr_rf
    · skip
      obtain ⟨x9, h9, h⟩ := Option.bind_eq_some_iff.mp h
      obtain ⟨x10, h10, h⟩ := Option.bind_eq_some_iff.mp h
      exact xFr_tq (xFr_tr (xFr_tr xFr_rf (F_X2_orderFor h9) (by simp)) (F_X0_live h10) (by simp)) (ih l1 l2 (l3 + (1 : Int32)) x10.2 h)
set_option maxRecDepth 100000 in
set_option maxHeartbeats 4000000 in
theorem F_X8_lawful {a1 : Int32} {a2 : Int32} {σ : xS2} {r : Int32} {τ : xS2} (h : J_X8_lawful a1 a2 σ = some (r, τ)) : xFr [(12, 99), (4, 0), (4, 1), (4, 2), (4, 3), (8, 6)] σ τ := by
  rcases xite_or h with ⟨-, h⟩ | ⟨-, h⟩
  · skip
    obtain ⟨e1, e2⟩ := xso2 h
    subst e1
    subst e2
    exact xFr_rf
  · skip
    rcases xite_or h with ⟨-, h⟩ | ⟨-, h⟩
    · skip
      obtain ⟨e1, e2⟩ := xso2 h
      subst e1
      subst e2
      exact xFr_rf
    · skip
      rcases xite_ro h with ⟨-, h⟩ | ⟨-, h⟩
      · skip
        rcases xite_or h with ⟨-, h⟩ | ⟨-, h⟩
        · skip
          obtain ⟨x6, h6, h⟩ := Option.bind_eq_some_iff.mp h
          exact xFr_tq (xFr_tr xFr_rf (F_X0_become h6) (by simp)) (FB_X8_lawful_47 xFU a1 a2 (0 : Int32) x6 h)
        · skip
          obtain ⟨e1, e2⟩ := xso2 h
          subst e1
          subst e2
          exact xFr_rf
      · skip
        obtain ⟨e1, e2⟩ := xso2 h
        subst e1
        subst e2
        exact xFr_rf
set_option maxRecDepth 100000 in
set_option maxHeartbeats 4000000 in
theorem F_X8_mend {a1 : Int32} {a2 : Int32} {a3 : Int32} {σ : xS2} {r : Int32} {τ : xS2} (h : J_X8_mend a1 a2 a3 σ = some (r, τ)) : xFr [(2, 99), (23, 3), (23, 4), (24, 99), (25, 99), (26, 99)] σ τ := by
  obtain ⟨x1, h1, h⟩ := Option.bind_eq_some_iff.mp h
  rcases xite_or h with ⟨-, h⟩ | ⟨-, h⟩
  · skip
    obtain ⟨e1, e2⟩ := xso2 h
    subst e1
    subst e2
    exact xFr_rf
  · skip
    obtain ⟨x3, h3, h⟩ := Option.bind_eq_some_iff.mp h
    rcases xite_ro h with ⟨-, h⟩ | ⟨-, h⟩
    · skip
      obtain ⟨x5, h5, h⟩ := Option.bind_eq_some_iff.mp h
      rcases xite_or h with ⟨-, h⟩ | ⟨-, h⟩
      · skip
        obtain ⟨e1, e2⟩ := xso2 h
        subst e1
        subst e2
        exact xFr_rf
      · skip
        obtain ⟨x7, h7, h⟩ := Option.bind_eq_some_iff.mp h
        obtain ⟨x8, h8, h⟩ := Option.bind_eq_some_iff.mp h
        obtain ⟨e1, e2⟩ := xso2 h
        subst e1
        subst e2
        exact (xFr_tr (xFr_tr xFr_rf (F_X3_tell h7) (by simp)) (F_X1_note h8) (by simp))
    · skip
      obtain ⟨e1, e2⟩ := xso2 h
      subst e1
      subst e2
      exact xFr_rf
set_option maxRecDepth 100000 in
set_option maxHeartbeats 4000000 in
theorem F_X8_order {σ : xS2} {r : Int32} {τ : xS2} (h : J_X8_order σ = some (r, τ)) : xFr [(12, 99), (8, 6)] σ τ := by
  rcases xite_or h with ⟨-, h⟩ | ⟨-, h⟩
  · skip
    obtain ⟨x2, h2, h⟩ := Option.bind_eq_some_iff.mp h
    obtain ⟨e1, e2⟩ := xso2 h
    subst e1
    subst e2
    exact (xFr_tr xFr_rf (F_X2_orderFor h2) (by simp))
  · skip
    obtain ⟨e1, e2⟩ := xso2 h
    subst e1
    subst e2
    exact xFr_rf
set_option maxRecDepth 100000 in
set_option maxHeartbeats 4000000 in
theorem F_X8_redo {σ : xS2} {r : Int32} {τ : xS2} (h : J_X8_redo σ = some (r, τ)) : xFr [(2, 99), (23, 3)] σ τ := by
  obtain ⟨x1, h1, h⟩ := Option.bind_eq_some_iff.mp h
  rcases xite_or h with ⟨-, h⟩ | ⟨-, h⟩
  · skip
    obtain ⟨e1, e2⟩ := xso2 h
    subst e1
    subst e2
    exact (xFr_tr xFr_rf (F_X1_bringBack h1) (by simp))
  · skip
    obtain ⟨e1, e2⟩ := xso2 h
    subst e1
    subst e2
    exact (xFr_tr xFr_rf (F_X1_bringBack h1) (by simp))
set_option maxRecDepth 100000 in
set_option maxHeartbeats 4000000 in
theorem F_X8_round {a1 : Int32} {σ : xS2} {r : Int32} {τ : xS2} (h : J_X8_round a1 σ = some (r, τ)) : xFr [(13, 5), (13, 6), (13, 7), (14, 99), (15, 99), (16, 99), (17, 99), (18, 99)] σ τ := by
  rcases xite_ro h with ⟨-, h⟩ | ⟨-, h⟩
  · skip
    obtain ⟨x3, h3, h⟩ := Option.bind_eq_some_iff.mp h
    rcases xite_ro h with ⟨-, h⟩ | ⟨-, h⟩
    · skip
      rcases xite_ro h with ⟨-, h⟩ | ⟨-, h⟩
      · skip
        rcases xite_or h with ⟨-, h⟩ | ⟨-, h⟩
        · skip
          obtain ⟨e1, e2⟩ := xso2 h
          subst e1
          subst e2
          exact (xFr_tr xFr_rf (F_X6_planRound h3) (by simp))
        · skip
          obtain ⟨e1, e2⟩ := xso2 h
          subst e1
          subst e2
          exact (xFr_tr xFr_rf (F_X6_planRound h3) (by simp))
      · skip
        obtain ⟨e1, e2⟩ := xso2 h
        subst e1
        subst e2
        exact (xFr_tr xFr_rf (F_X6_planRound h3) (by simp))
    · skip
      obtain ⟨e1, e2⟩ := xso2 h
      subst e1
      subst e2
      exact (xFr_tr xFr_rf (F_X6_planRound h3) (by simp))
  · skip
    obtain ⟨e1, e2⟩ := xso2 h
    subst e1
    subst e2
    exact xFr_rf
set_option maxRecDepth 100000 in
set_option maxHeartbeats 4000000 in
theorem FB_X8_run_77 {r : Int32} {τ : xS2} : ∀ (f : Nat) (l1 : Int32) (l2 : Int32) (l3 : Int32) (l5 : Int32) (σ : xS2), J_X8_run_77 f l1 l2 l3 l5 σ = some (r, τ) → xFr [(4, 0), (4, 1), (4, 2), (4, 3)] σ τ := by
  intro f
  induction f with
  | zero => intro l1 l2 l3 l5 σ h; cases h
  | succ f ih =>
    intro l1 l2 l3 l5 σ h
    rcases xite_or h with ⟨-, h⟩ | ⟨-, h⟩
    · skip
      obtain ⟨e1, e2⟩ := xso2 h
      subst e1
      subst e2
      exact xFr_rf
    · skip
      obtain ⟨-, h⟩ := xgd_some h
      obtain ⟨x15, h15, h⟩ := Option.bind_eq_some_iff.mp h
      obtain ⟨x16, h16, h⟩ := Option.bind_eq_some_iff.mp h
      exact xFr_tq (xFr_tr xFr_rf (F_X0_live h16) (by simp)) (ih l1 l2 l3 (l5 + (1 : Int32)) x16.2 h)
set_option maxRecDepth 100000 in
set_option maxHeartbeats 4000000 in
theorem F_X8_run {a1 : Int32} {a2 : Int32} {a3 : Int32} {σ : xS2} {r : Int32} {τ : xS2} (h : J_X8_run a1 a2 a3 σ = some (r, τ)) : xFr [(4, 0), (4, 1), (4, 2), (4, 3)] σ τ := by
  rcases xite_or h with ⟨-, h⟩ | ⟨-, h⟩
  · skip
    obtain ⟨e1, e2⟩ := xso2 h
    subst e1
    subst e2
    exact xFr_rf
  · skip
    rcases xite_or h with ⟨-, h⟩ | ⟨-, h⟩
    · skip
      obtain ⟨e1, e2⟩ := xso2 h
      subst e1
      subst e2
      exact xFr_rf
    · skip
      rcases xite_ro h with ⟨-, h⟩ | ⟨-, h⟩
      · skip
        obtain ⟨x6, h6, h⟩ := Option.bind_eq_some_iff.mp h
        rcases xite_or h with ⟨-, h⟩ | ⟨-, h⟩
        · skip
          obtain ⟨-, h⟩ := xgd_some h
          rcases xite_or h with ⟨-, h⟩ | ⟨-, h⟩
          · skip
            obtain ⟨e1, e2⟩ := xso2 h
            subst e1
            subst e2
            exact xFr_rf
          · skip
            rcases xite_or h with ⟨-, h⟩ | ⟨-, h⟩
            · skip
              obtain ⟨x11, h11, h⟩ := Option.bind_eq_some_iff.mp h
              exact xFr_tq (xFr_tr xFr_rf (F_X0_become h11) (by simp)) (FB_X8_run_77 xFU a1 a2 a3 (0 : Int32) x11 h)
            · skip
              obtain ⟨e1, e2⟩ := xso2 h
              subst e1
              subst e2
              exact xFr_rf
        · skip
          obtain ⟨e1, e2⟩ := xso2 h
          subst e1
          subst e2
          exact xFr_rf
      · skip
        obtain ⟨e1, e2⟩ := xso2 h
        subst e1
        subst e2
        exact xFr_rf
set_option maxRecDepth 100000 in
set_option maxHeartbeats 4000000 in
theorem F_X8_soonest {a1 : Int32} {a2 : Int32} {σ : xS2} {r : Int32} {τ : xS2} (h : J_X8_soonest a1 a2 σ = some (r, τ)) : xFr [(19, 3), (19, 4), (20, 99), (21, 99), (22, 0), (22, 1), (22, 2), (22, 3)] σ τ := by
  rcases xite_or h with ⟨-, h⟩ | ⟨-, h⟩
  · skip
    obtain ⟨e1, e2⟩ := xso2 h
    subst e1
    subst e2
    exact xFr_rf
  · skip
    rcases xite_ro h with ⟨-, h⟩ | ⟨-, h⟩
    · skip
      obtain ⟨x5, h5, h⟩ := Option.bind_eq_some_iff.mp h
      rcases xite_ro h with ⟨-, h⟩ | ⟨-, h⟩
      · skip
        rcases xite_ro h with ⟨-, h⟩ | ⟨-, h⟩
        · skip
          obtain ⟨e1, e2⟩ := xso2 h
          subst e1
          subst e2
          exact (xFr_tr xFr_rf (F_X4_find h5) (by simp))
        · skip
          obtain ⟨e1, e2⟩ := xso2 h
          subst e1
          subst e2
          exact (xFr_tr xFr_rf (F_X4_find h5) (by simp))
      · skip
        obtain ⟨e1, e2⟩ := xso2 h
        subst e1
        subst e2
        exact (xFr_tr xFr_rf (F_X4_find h5) (by simp))
    · skip
      obtain ⟨e1, e2⟩ := xso2 h
      subst e1
      subst e2
      exact xFr_rf
set_option maxRecDepth 100000 in
set_option maxHeartbeats 4000000 in
theorem F_X8_undo {σ : xS2} {r : Int32} {τ : xS2} (h : J_X8_undo σ = some (r, τ)) : xFr [(2, 99), (23, 3)] σ τ := by
  obtain ⟨x1, h1, h⟩ := Option.bind_eq_some_iff.mp h
  rcases xite_or h with ⟨-, h⟩ | ⟨-, h⟩
  · skip
    obtain ⟨e1, e2⟩ := xso2 h
    subst e1
    subst e2
    exact (xFr_tr xFr_rf (F_X1_takeBack h1) (by simp))
  · skip
    obtain ⟨e1, e2⟩ := xso2 h
    subst e1
    subst e2
    exact (xFr_tr xFr_rf (F_X1_takeBack h1) (by simp))
set_option maxRecDepth 100000 in
set_option maxHeartbeats 4000000 in
theorem FB_X9_ran_19 {τ : xS2} : ∀ (σ : xS2), J_X9_ran_19 σ = some τ → xFr [(43, 54), (69, 99)] σ τ := by
  intro σ h
  have e1 := Option.some.inj h
  subst e1
  exact (xFr_yI xFr_rf rfl)
set_option maxRecDepth 100000 in
set_option maxHeartbeats 4000000 in
theorem F_X9_ran {a1 : Int32} {σ : xS2} {τ : xS2} (h : J_X9_ran a1 σ = some τ) : xFr [(43, 54), (69, 99)] σ τ := by
  rcases xite_or h with ⟨-, h⟩ | ⟨-, h⟩
  · skip
    exact xFr_tq xFr_rf (FB_X9_ran_19 σ h)
  · skip
    obtain ⟨-, h⟩ := xgd_some h
    exact xFr_tq (xFr_yI xFr_rf rfl) (FB_X9_ran_19 (yI σ 69 (σ.1 43 54).toNatClampNeg a1) h)
set_option maxRecDepth 100000 in
set_option maxHeartbeats 4000000 in
theorem F_X9_plainLooks {a1 : Int32} {a2 : Int32} {σ : xS2} {r : Int32} {τ : xS2} (h : J_X9_plainLooks a1 a2 σ = some (r, τ)) : xFr [(43, 54), (69, 99)] σ τ := by
  obtain ⟨x1, h1, h⟩ := Option.bind_eq_some_iff.mp h
  obtain ⟨e1, e2⟩ := xso2 h
  subst e1
  subst e2
  exact (xFr_tr xFr_rf (F_X9_ran h1) (by simp))
set_option maxRecDepth 100000 in
set_option maxHeartbeats 4000000 in
theorem F_X9_cleanLooks {a1 : Int32} {a2 : Int32} {σ : xS2} {r : Int32} {τ : xS2} (h : J_X9_cleanLooks a1 a2 σ = some (r, τ)) : xFr [(43, 54), (69, 99)] σ τ := by
  obtain ⟨x1, h1, h⟩ := Option.bind_eq_some_iff.mp h
  obtain ⟨x2, h2, h⟩ := Option.bind_eq_some_iff.mp h
  obtain ⟨e1, e2⟩ := xso2 h
  subst e1
  subst e2
  exact (xFr_tr (xFr_tr xFr_rf (F_X9_ran h1) (by simp)) (F_X9_plainLooks h2) (by simp))
set_option maxRecDepth 100000 in
set_option maxHeartbeats 4000000 in
theorem F_X9_plainTurns {a1 : Int32} {a2 : Int32} {σ : xS2} {r : Int32} {τ : xS2} (h : J_X9_plainTurns a1 a2 σ = some (r, τ)) : xFr [(43, 54), (69, 99)] σ τ := by
  obtain ⟨x1, h1, h⟩ := Option.bind_eq_some_iff.mp h
  obtain ⟨e1, e2⟩ := xso2 h
  subst e1
  subst e2
  exact (xFr_tr xFr_rf (F_X9_ran h1) (by simp))
set_option maxRecDepth 100000 in
set_option maxHeartbeats 4000000 in
theorem F_X9_northTurns {a1 : Int32} {a2 : Int32} {σ : xS2} {r : Int32} {τ : xS2} (h : J_X9_northTurns a1 a2 σ = some (r, τ)) : xFr [(43, 54), (69, 99)] σ τ := by
  obtain ⟨x1, h1, h⟩ := Option.bind_eq_some_iff.mp h
  obtain ⟨x2, h2, h⟩ := Option.bind_eq_some_iff.mp h
  obtain ⟨e1, e2⟩ := xso2 h
  subst e1
  subst e2
  exact (xFr_tr (xFr_tr xFr_rf (F_X9_ran h1) (by simp)) (F_X9_plainTurns h2) (by simp))
set_option maxRecDepth 100000 in
set_option maxHeartbeats 4000000 in
theorem F_X9_turning {a1 : Int32} {a2 : Int32} {σ : xS2} {r : Int32} {τ : xS2} (h : J_X9_turning a1 a2 σ = some (r, τ)) : xFr [(43, 54), (69, 99)] σ τ := by
  obtain ⟨-, h⟩ := xgd_some h
  rcases xite_or h with ⟨-, h⟩ | ⟨-, h⟩
  · skip
    obtain ⟨-, h⟩ := xgd_some h
    rcases xite_ro h with ⟨-, h⟩ | ⟨-, h⟩
    · skip
      obtain ⟨-, h⟩ := xgd_some h
      rcases xite_ro h with ⟨-, h⟩ | ⟨-, h⟩
      · skip
        obtain ⟨x8, h8, h⟩ := Option.bind_eq_some_iff.mp h
        obtain ⟨e1, e2⟩ := xso2 h
        subst e1
        subst e2
        exact (xFr_tr xFr_rf (F_X9_plainTurns h8) (by simp))
      · skip
        obtain ⟨x9, h9, h⟩ := Option.bind_eq_some_iff.mp h
        obtain ⟨e1, e2⟩ := xso2 h
        subst e1
        subst e2
        exact (xFr_tr xFr_rf (F_X9_northTurns h9) (by simp))
    · skip
      obtain ⟨x10, h10, h⟩ := Option.bind_eq_some_iff.mp h
      obtain ⟨x11, h11, h⟩ := Option.bind_eq_some_iff.mp h
      obtain ⟨e1, e2⟩ := xso2 h
      subst e1
      subst e2
      exact (xFr_tr (xFr_tr xFr_rf (F_X9_ran h10) (by simp)) (F_X9_northTurns h11) (by simp))
  · skip
    obtain ⟨x12, h12, h⟩ := Option.bind_eq_some_iff.mp h
    obtain ⟨x13, h13, h⟩ := Option.bind_eq_some_iff.mp h
    obtain ⟨e1, e2⟩ := xso2 h
    subst e1
    subst e2
    exact (xFr_tr (xFr_tr xFr_rf (F_X9_ran h12) (by simp)) (F_X9_plainTurns h13) (by simp))
set_option maxRecDepth 100000 in
set_option maxHeartbeats 4000000 in
theorem F_X9_looking {a1 : Int32} {a2 : Int32} {σ : xS2} {r : Int32} {τ : xS2} (h : J_X9_looking a1 a2 σ = some (r, τ)) : xFr [(43, 54), (69, 99)] σ τ := by
  obtain ⟨-, h⟩ := xgd_some h
  rcases xite_ro h with ⟨-, h⟩ | ⟨-, h⟩
  · skip
    obtain ⟨-, h⟩ := xgd_some h
    rcases xite_ro h with ⟨-, h⟩ | ⟨-, h⟩
    · skip
      obtain ⟨x5, h5, h⟩ := Option.bind_eq_some_iff.mp h
      obtain ⟨e1, e2⟩ := xso2 h
      subst e1
      subst e2
      exact (xFr_tr xFr_rf (F_X9_plainLooks h5) (by simp))
    · skip
      obtain ⟨x6, h6, h⟩ := Option.bind_eq_some_iff.mp h
      obtain ⟨e1, e2⟩ := xso2 h
      subst e1
      subst e2
      exact (xFr_tr xFr_rf (F_X9_cleanLooks h6) (by simp))
  · skip
    obtain ⟨x7, h7, h⟩ := Option.bind_eq_some_iff.mp h
    obtain ⟨x8, h8, h⟩ := Option.bind_eq_some_iff.mp h
    obtain ⟨x9, h9, h⟩ := Option.bind_eq_some_iff.mp h
    obtain ⟨e1, e2⟩ := xso2 h
    subst e1
    subst e2
    exact (xFr_tr (xFr_tr (xFr_tr xFr_rf (F_X9_ran h7) (by simp)) (F_X9_cleanLooks h8) (by simp)) (F_X9_turning h9) (by simp))
set_option maxRecDepth 100000 in
set_option maxHeartbeats 4000000 in
theorem F_X9_plainMoves {a1 : Int32} {a2 : Int32} {σ : xS2} {r : Int32} {τ : xS2} (h : J_X9_plainMoves a1 a2 σ = some (r, τ)) : xFr [(43, 54), (69, 99)] σ τ := by
  obtain ⟨x1, h1, h⟩ := Option.bind_eq_some_iff.mp h
  obtain ⟨x2, h2, h⟩ := Option.bind_eq_some_iff.mp h
  obtain ⟨e1, e2⟩ := xso2 h
  subst e1
  subst e2
  exact (xFr_tr (xFr_tr xFr_rf (F_X9_ran h1) (by simp)) (F_X9_turning h2) (by simp))
set_option maxRecDepth 100000 in
set_option maxHeartbeats 4000000 in
theorem F_X9_dustyMoves {a1 : Int32} {a2 : Int32} {σ : xS2} {r : Int32} {τ : xS2} (h : J_X9_dustyMoves a1 a2 σ = some (r, τ)) : xFr [(43, 54), (69, 99)] σ τ := by
  obtain ⟨x1, h1, h⟩ := Option.bind_eq_some_iff.mp h
  obtain ⟨x2, h2, h⟩ := Option.bind_eq_some_iff.mp h
  obtain ⟨e1, e2⟩ := xso2 h
  subst e1
  subst e2
  exact (xFr_tr (xFr_tr xFr_rf (F_X9_ran h1) (by simp)) (F_X9_plainMoves h2) (by simp))
set_option maxRecDepth 100000 in
set_option maxHeartbeats 4000000 in
theorem F_X9_moving {a1 : Int32} {a2 : Int32} {σ : xS2} {r : Int32} {τ : xS2} (h : J_X9_moving a1 a2 σ = some (r, τ)) : xFr [(43, 54), (69, 99)] σ τ := by
  obtain ⟨-, h⟩ := xgd_some h
  rcases xite_or h with ⟨-, h⟩ | ⟨-, h⟩
  · skip
    obtain ⟨-, h⟩ := xgd_some h
    rcases xite_ro h with ⟨-, h⟩ | ⟨-, h⟩
    · skip
      obtain ⟨-, h⟩ := xgd_some h
      rcases xite_ro h with ⟨-, h⟩ | ⟨-, h⟩
      · skip
        obtain ⟨x8, h8, h⟩ := Option.bind_eq_some_iff.mp h
        obtain ⟨e1, e2⟩ := xso2 h
        subst e1
        subst e2
        exact (xFr_tr xFr_rf (F_X9_plainMoves h8) (by simp))
      · skip
        obtain ⟨x9, h9, h⟩ := Option.bind_eq_some_iff.mp h
        obtain ⟨e1, e2⟩ := xso2 h
        subst e1
        subst e2
        exact (xFr_tr xFr_rf (F_X9_dustyMoves h9) (by simp))
    · skip
      obtain ⟨x10, h10, h⟩ := Option.bind_eq_some_iff.mp h
      obtain ⟨x11, h11, h⟩ := Option.bind_eq_some_iff.mp h
      obtain ⟨x12, h12, h⟩ := Option.bind_eq_some_iff.mp h
      obtain ⟨e1, e2⟩ := xso2 h
      subst e1
      subst e2
      exact (xFr_tr (xFr_tr (xFr_tr xFr_rf (F_X9_ran h10) (by simp)) (F_X9_plainMoves h11) (by simp)) (F_X9_looking h12) (by simp))
  · skip
    obtain ⟨x13, h13, h⟩ := Option.bind_eq_some_iff.mp h
    obtain ⟨x14, h14, h⟩ := Option.bind_eq_some_iff.mp h
    obtain ⟨e1, e2⟩ := xso2 h
    subst e1
    subst e2
    exact (xFr_tr (xFr_tr xFr_rf (F_X9_ran h13) (by simp)) (F_X9_dustyMoves h14) (by simp))
set_option maxRecDepth 100000 in
set_option maxHeartbeats 4000000 in
theorem F_X9_plainTells {a1 : Int32} {a2 : Int32} {σ : xS2} {r : Int32} {τ : xS2} (h : J_X9_plainTells a1 a2 σ = some (r, τ)) : xFr [(43, 54), (69, 99)] σ τ := by
  obtain ⟨x1, h1, h⟩ := Option.bind_eq_some_iff.mp h
  obtain ⟨x2, h2, h⟩ := Option.bind_eq_some_iff.mp h
  obtain ⟨x3, h3, h⟩ := Option.bind_eq_some_iff.mp h
  obtain ⟨e1, e2⟩ := xso2 h
  subst e1
  subst e2
  exact (xFr_tr (xFr_tr (xFr_tr xFr_rf (F_X9_ran h1) (by simp)) (F_X9_moving h2) (by simp)) (F_X9_looking h3) (by simp))
set_option maxRecDepth 100000 in
set_option maxHeartbeats 4000000 in
theorem F_X9_telling {a1 : Int32} {a2 : Int32} {σ : xS2} {r : Int32} {τ : xS2} (h : J_X9_telling a1 a2 σ = some (r, τ)) : xFr [(43, 54), (69, 99)] σ τ := by
  obtain ⟨-, h⟩ := xgd_some h
  rcases xite_ro h with ⟨-, h⟩ | ⟨-, h⟩
  · skip
    obtain ⟨-, h⟩ := xgd_some h
    rcases xite_ro h with ⟨-, h⟩ | ⟨-, h⟩
    · skip
      obtain ⟨x5, h5, h⟩ := Option.bind_eq_some_iff.mp h
      obtain ⟨e1, e2⟩ := xso2 h
      subst e1
      subst e2
      exact (xFr_tr xFr_rf (F_X9_plainTells h5) (by simp))
    · skip
      obtain ⟨x6, h6, h⟩ := Option.bind_eq_some_iff.mp h
      obtain ⟨x7, h7, h⟩ := Option.bind_eq_some_iff.mp h
      obtain ⟨e1, e2⟩ := xso2 h
      subst e1
      subst e2
      exact (xFr_tr (xFr_tr xFr_rf (F_X9_ran h6) (by simp)) (F_X9_plainTells h7) (by simp))
  · skip
    obtain ⟨x8, h8, h⟩ := Option.bind_eq_some_iff.mp h
    obtain ⟨x9, h9, h⟩ := Option.bind_eq_some_iff.mp h
    obtain ⟨e1, e2⟩ := xso2 h
    subst e1
    subst e2
    exact (xFr_tr (xFr_tr xFr_rf (F_X9_ran h8) (by simp)) (F_X9_plainTells h9) (by simp))
set_option maxRecDepth 100000 in
set_option maxHeartbeats 4000000 in
theorem F_X9_act {a1 : Int32} {a2 : Int32} {a3 : Int32} {σ : xS2} {r : Int32} {τ : xS2} (h : J_X9_act a1 a2 a3 σ = some (r, τ)) : xFr [(43, 54), (69, 99)] σ τ := by
  rcases xite_or h with ⟨-, h⟩ | ⟨-, h⟩
  · skip
    obtain ⟨e1, e2⟩ := xso2 h
    subst e1
    subst e2
    exact (xFr_yI xFr_rf rfl)
  · skip
    rcases xite_ro h with ⟨-, h⟩ | ⟨-, h⟩
    · skip
      rcases xite_ro h with ⟨-, h⟩ | ⟨-, h⟩
      · skip
        rcases xite_ro h with ⟨-, h⟩ | ⟨-, h⟩
        · skip
          rcases xite_ro h with ⟨-, h⟩ | ⟨-, h⟩
          · skip
            obtain ⟨x8, h8, h⟩ := Option.bind_eq_some_iff.mp h
            obtain ⟨e1, e2⟩ := xso2 h
            subst e1
            subst e2
            exact (xFr_tr (xFr_yI xFr_rf rfl) (F_X9_telling h8) (by simp))
          · skip
            obtain ⟨x9, h9, h⟩ := Option.bind_eq_some_iff.mp h
            obtain ⟨e1, e2⟩ := xso2 h
            subst e1
            subst e2
            exact (xFr_tr (xFr_yI xFr_rf rfl) (F_X9_looking h9) (by simp))
        · skip
          obtain ⟨x10, h10, h⟩ := Option.bind_eq_some_iff.mp h
          obtain ⟨e1, e2⟩ := xso2 h
          subst e1
          subst e2
          exact (xFr_tr (xFr_yI xFr_rf rfl) (F_X9_moving h10) (by simp))
      · skip
        obtain ⟨x11, h11, h⟩ := Option.bind_eq_some_iff.mp h
        obtain ⟨e1, e2⟩ := xso2 h
        subst e1
        subst e2
        exact (xFr_tr (xFr_yI xFr_rf rfl) (F_X9_turning h11) (by simp))
    · skip
      obtain ⟨e1, e2⟩ := xso2 h
      subst e1
      subst e2
      exact (xFr_yI xFr_rf rfl)
set_option maxRecDepth 100000 in
set_option maxHeartbeats 4000000 in
theorem F_X9_addStep {a1 : Int32} {a2 : Int32} {σ : xS2} {τ : xS2} (h : J_X9_addStep a1 a2 σ = some τ) : xFr [(43, 25), (55, 99), (56, 99)] σ τ := by
  obtain ⟨-, h⟩ := xgd_some h
  obtain ⟨-, h⟩ := xgd_some h
  have e1 := Option.some.inj h
  subst e1
  exact (xFr_yI (xFr_yI (xFr_yI xFr_rf rfl) rfl) rfl)
set_option maxRecDepth 100000 in
set_option maxHeartbeats 4000000 in
theorem F_X9_back {σ : xS2} {r : Int32} {τ : xS2} (h : J_X9_back σ = some (r, τ)) : xFr [(43, 10), (43, 11), (43, 7), (43, 8), (43, 9)] σ τ := by
  rcases xite_ro h with ⟨-, h⟩ | ⟨-, h⟩
  · skip
    obtain ⟨e1, e2⟩ := xso2 h
    subst e1
    subst e2
    exact (xFr_yL (xFr_yI (xFr_yI (xFr_yI (xFr_yI xFr_rf rfl) rfl) rfl) rfl) rfl)
  · skip
    obtain ⟨e1, e2⟩ := xso2 h
    subst e1
    subst e2
    exact xFr_rf
set_option maxRecDepth 100000 in
set_option maxHeartbeats 4000000 in
theorem F_X9_body {a1 : Int32} {σ : xS2} {r : Int32} {τ : xS2} (h : J_X9_body a1 σ = some (r, τ)) : xFr [(43, 52), (68, 99)] σ τ := by
  rcases xite_ro h with ⟨-, h⟩ | ⟨-, h⟩
  · skip
    rcases xite_ro h with ⟨-, h⟩ | ⟨-, h⟩
    · skip
      obtain ⟨-, h⟩ := xgd_some h
      obtain ⟨e1, e2⟩ := xso2 h
      subst e1
      subst e2
      exact (xFr_yI (xFr_yI xFr_rf rfl) rfl)
    · skip
      obtain ⟨e1, e2⟩ := xso2 h
      subst e1
      subst e2
      exact xFr_rf
  · skip
    obtain ⟨e1, e2⟩ := xso2 h
    subst e1
    subst e2
    exact xFr_rf
set_option maxRecDepth 100000 in
set_option maxHeartbeats 4000000 in
theorem F_X9_faulty {σ : xS2} {τ : xS2} (h : J_X9_faulty σ = some τ) : xFr [(43, 23)] σ τ := by
  rcases xite_or h with ⟨-, h⟩ | ⟨-, h⟩
  · skip
    have e1 := Option.some.inj h
    subst e1
    exact xFr_rf
  · skip
    have e1 := Option.some.inj h
    subst e1
    exact (xFr_yI xFr_rf rfl)
set_option maxRecDepth 100000 in
set_option maxHeartbeats 4000000 in
theorem FB_X9_figure_74 {τ : xS2} : ∀ (l1 : Int32) (σ : xS2), J_X9_figure_74 l1 σ = some τ → xFr [(43, 22), (43, 23), (43, 25), (55, 99), (56, 99)] σ τ := by
  intro l1 σ h
  obtain ⟨x4, h4, h⟩ := Option.bind_eq_some_iff.mp h
  have e1 := Option.some.inj h
  subst e1
  exact (xFr_tr xFr_rf (F_X9_addStep h4) (by simp))
set_option maxRecDepth 100000 in
set_option maxHeartbeats 4000000 in
theorem FB_X9_figure_70 {τ : xS2} : ∀ (l1 : Int32) (σ : xS2), J_X9_figure_70 l1 σ = some τ → xFr [(43, 22), (43, 23), (43, 25), (55, 99), (56, 99)] σ τ := by
  intro l1 σ h
  obtain ⟨x3, h3, h⟩ := Option.bind_eq_some_iff.mp h
  exact xFr_tq (xFr_tr xFr_rf (F_X9_faulty h3) (by simp)) (FB_X9_figure_74 l1 x3 h)
set_option maxRecDepth 100000 in
set_option maxHeartbeats 4000000 in
theorem FB_X9_figure_52 {τ : xS2} : ∀ (l1 : Int32) (l2 : Int32) (σ : xS2), J_X9_figure_52 l1 l2 σ = some τ → xFr [(43, 22), (43, 23), (43, 25), (55, 99), (56, 99)] σ τ := by
  intro l1 l2 σ h
  rcases xite_or h with ⟨-, h⟩ | ⟨-, h⟩
  · skip
    exact xFr_tq xFr_rf (FB_X9_figure_70 l1 σ h)
  · skip
    obtain ⟨x5, h5, h⟩ := Option.bind_eq_some_iff.mp h
    rcases xite_or h with ⟨-, h⟩ | ⟨-, h⟩
    · skip
      exact xFr_tq xFr_rf (FB_X9_figure_74 l1 σ h)
    · skip
      exact xFr_tq xFr_rf (FB_X9_figure_70 l1 σ h)
set_option maxRecDepth 100000 in
set_option maxHeartbeats 4000000 in
theorem FB_X9_figure_4 {τ : xS2} : ∀ (f : Nat) (l1 : Int32) (l2 : Int32) (σ : xS2), J_X9_figure_4 f l1 l2 σ = some τ → xFr [(43, 22), (43, 23), (43, 25), (55, 99), (56, 99)] σ τ := by
  intro f
  induction f with
  | zero => intro l1 l2 σ h; cases h
  | succ f ih =>
    intro l1 l2 σ h
    rcases xite_or h with ⟨-, h⟩ | ⟨-, h⟩
    · skip
      exact xFr_tq xFr_rf (FB_X9_figure_52 l1 l2 σ h)
    · skip
      obtain ⟨x8, h8, h⟩ := Option.bind_eq_some_iff.mp h
      rcases xite_or h with ⟨-, h⟩ | ⟨-, h⟩
      · skip
        exact xFr_tq xFr_rf (FB_X9_figure_52 l1 l2 σ h)
      · skip
        obtain ⟨x11, h11, h⟩ := Option.bind_eq_some_iff.mp h
        exact xFr_tq (xFr_yI xFr_rf rfl) (ih ((((10 : Int32) * l1) + x11) - (48 : Int32)) (l2 + (1 : Int32)) (yI σ 43 22 ((σ.1 43 22) + (1 : Int32))) h)
set_option maxRecDepth 100000 in
set_option maxHeartbeats 4000000 in
theorem F_X9_figure {σ : xS2} {τ : xS2} (h : J_X9_figure σ = some τ) : xFr [(43, 22), (43, 23), (43, 25), (55, 99), (56, 99)] σ τ := by
  exact xFr_tq xFr_rf (FB_X9_figure_4 xFU (0 : Int32) (0 : Int32) σ h)
set_option maxRecDepth 100000 in
set_option maxHeartbeats 4000000 in
theorem F_X9_opens {σ : xS2} {r : Bool} {τ : xS2} (h : J_X9_opens σ = some (r, τ)) : xFr [(43, 22), (43, 23), (43, 24)] σ τ := by
  rcases xite_ro h with ⟨-, h⟩ | ⟨-, h⟩
  · skip
    obtain ⟨e1, e2⟩ := xso2 h
    subst e1
    subst e2
    exact (xFr_yI (xFr_yI xFr_rf rfl) rfl)
  · skip
    obtain ⟨x2, h2, h⟩ := Option.bind_eq_some_iff.mp h
    obtain ⟨e1, e2⟩ := xso2 h
    subst e1
    subst e2
    exact (xFr_tr xFr_rf (F_X9_faulty h2) (by simp))
set_option maxRecDepth 100000 in
set_option maxHeartbeats 4000000 in
theorem FB_X9_both_4 {τ : xS2} {p_X9_compared : (xS2 → Option xS2)} (fp_X9_compared : ∀ (σ : xS2) (τ : xS2), p_X9_compared σ = some τ → xFr [(43, 22), (43, 23), (43, 24), (43, 25), (55, 99), (56, 99)] σ τ) : ∀ (f : Nat) (σ : xS2), J_X9_both_4 p_X9_compared f σ = some τ → xFr [(43, 22), (43, 23), (43, 24), (43, 25), (55, 99), (56, 99)] σ τ := by
  intro f
  induction f with
  | zero => intro σ h; cases h
  | succ f ih =>
    intro σ h
    rcases xite_or h with ⟨-, h⟩ | ⟨-, h⟩
    · skip
      have e1 := Option.some.inj h
      subst e1
      exact xFr_rf
    · skip
      obtain ⟨x3, h3, h⟩ := Option.bind_eq_some_iff.mp h
      rcases xite_ro h with ⟨-, h⟩ | ⟨-, h⟩
      · skip
        have e1 := Option.some.inj h
        subst e1
        exact xFr_rf
      · skip
        obtain ⟨x5, h5, h⟩ := Option.bind_eq_some_iff.mp h
        obtain ⟨x6, h6, h⟩ := Option.bind_eq_some_iff.mp h
        exact xFr_tq (xFr_tr (xFr_tr (xFr_yI xFr_rf rfl) (fp_X9_compared _ _ h5) (by simp)) (F_X9_addStep h6) (by simp)) (ih x6 h)
set_option maxRecDepth 100000 in
set_option maxHeartbeats 4000000 in
theorem FD_X9_both {p_X9_compared : (xS2 → Option xS2)} (fp_X9_compared : ∀ (σ : xS2) (τ : xS2), p_X9_compared σ = some τ → xFr [(43, 22), (43, 23), (43, 24), (43, 25), (55, 99), (56, 99)] σ τ) {σ : xS2} {τ : xS2} (h : J_X9_both_b p_X9_compared σ = some τ) : xFr [(43, 22), (43, 23), (43, 24), (43, 25), (55, 99), (56, 99)] σ τ := by
  obtain ⟨x1, h1, h⟩ := Option.bind_eq_some_iff.mp h
  exact xFr_tq (xFr_tr xFr_rf (fp_X9_compared _ _ h1) (by simp)) (FB_X9_both_4 fp_X9_compared xFU x1 h)
set_option maxRecDepth 100000 in
set_option maxHeartbeats 4000000 in
theorem FB_X9_compared_35 {τ : xS2} {p_X9_sum : (xS2 → Option xS2)} (fp_X9_sum : ∀ (σ : xS2) (τ : xS2), p_X9_sum σ = some τ → xFr [(43, 22), (43, 23), (43, 24), (43, 25), (55, 99), (56, 99)] σ τ) : ∀ (l1 : Int32) (σ : xS2), J_X9_compared_35 p_X9_sum l1 σ = some τ → xFr [(43, 22), (43, 23), (43, 24), (43, 25), (55, 99), (56, 99)] σ τ := by
  intro l1 σ h
  obtain ⟨x5, h5, h⟩ := Option.bind_eq_some_iff.mp h
  obtain ⟨x6, h6, h⟩ := Option.bind_eq_some_iff.mp h
  have e1 := Option.some.inj h
  subst e1
  exact (xFr_tr (xFr_tr (xFr_yI xFr_rf rfl) (fp_X9_sum _ _ h5) (by simp)) (F_X9_addStep h6) (by simp))
set_option maxRecDepth 100000 in
set_option maxHeartbeats 4000000 in
theorem FD_X9_compared {p_X9_sum : (xS2 → Option xS2)} (fp_X9_sum : ∀ (σ : xS2) (τ : xS2), p_X9_sum σ = some τ → xFr [(43, 22), (43, 23), (43, 24), (43, 25), (55, 99), (56, 99)] σ τ) {σ : xS2} {τ : xS2} (h : J_X9_compared_b p_X9_sum σ = some τ) : xFr [(43, 22), (43, 23), (43, 24), (43, 25), (55, 99), (56, 99)] σ τ := by
  obtain ⟨x1, h1, h⟩ := Option.bind_eq_some_iff.mp h
  obtain ⟨x2, h2, h⟩ := Option.bind_eq_some_iff.mp h
  rcases xite_or h with ⟨-, h⟩ | ⟨-, h⟩
  · skip
    have e1 := Option.some.inj h
    subst e1
    exact (xFr_tr xFr_rf (fp_X9_sum _ _ h1) (by simp))
  · skip
    rcases xite_or h with ⟨-, h⟩ | ⟨-, h⟩
    · skip
      exact xFr_tq (xFr_tr xFr_rf (fp_X9_sum _ _ h1) (by simp)) (FB_X9_compared_35 fp_X9_sum x2 x1 h)
    · skip
      rcases xite_or h with ⟨-, h⟩ | ⟨-, h⟩
      · skip
        exact xFr_tq (xFr_tr xFr_rf (fp_X9_sum _ _ h1) (by simp)) (FB_X9_compared_35 fp_X9_sum x2 x1 h)
      · skip
        rcases xite_or h with ⟨-, h⟩ | ⟨-, h⟩
        · skip
          exact xFr_tq (xFr_tr xFr_rf (fp_X9_sum _ _ h1) (by simp)) (FB_X9_compared_35 fp_X9_sum x2 x1 h)
        · skip
          have e1 := Option.some.inj h
          subst e1
          exact (xFr_tr xFr_rf (fp_X9_sum _ _ h1) (by simp))
set_option maxRecDepth 100000 in
set_option maxHeartbeats 4000000 in
theorem FB_X9_either_4 {τ : xS2} {p_X9_both : (xS2 → Option xS2)} (fp_X9_both : ∀ (σ : xS2) (τ : xS2), p_X9_both σ = some τ → xFr [(43, 22), (43, 23), (43, 24), (43, 25), (55, 99), (56, 99)] σ τ) : ∀ (f : Nat) (σ : xS2), J_X9_either_4 p_X9_both f σ = some τ → xFr [(43, 22), (43, 23), (43, 24), (43, 25), (55, 99), (56, 99)] σ τ := by
  intro f
  induction f with
  | zero => intro σ h; cases h
  | succ f ih =>
    intro σ h
    rcases xite_or h with ⟨-, h⟩ | ⟨-, h⟩
    · skip
      have e1 := Option.some.inj h
      subst e1
      exact xFr_rf
    · skip
      obtain ⟨x3, h3, h⟩ := Option.bind_eq_some_iff.mp h
      rcases xite_ro h with ⟨-, h⟩ | ⟨-, h⟩
      · skip
        have e1 := Option.some.inj h
        subst e1
        exact xFr_rf
      · skip
        obtain ⟨x5, h5, h⟩ := Option.bind_eq_some_iff.mp h
        obtain ⟨x6, h6, h⟩ := Option.bind_eq_some_iff.mp h
        exact xFr_tq (xFr_tr (xFr_tr (xFr_yI xFr_rf rfl) (fp_X9_both _ _ h5) (by simp)) (F_X9_addStep h6) (by simp)) (ih x6 h)
set_option maxRecDepth 100000 in
set_option maxHeartbeats 4000000 in
theorem FD_X9_either {p_X9_both : (xS2 → Option xS2)} (fp_X9_both : ∀ (σ : xS2) (τ : xS2), p_X9_both σ = some τ → xFr [(43, 22), (43, 23), (43, 24), (43, 25), (55, 99), (56, 99)] σ τ) {σ : xS2} {τ : xS2} (h : J_X9_either_b p_X9_both σ = some τ) : xFr [(43, 22), (43, 23), (43, 24), (43, 25), (55, 99), (56, 99)] σ τ := by
  obtain ⟨x1, h1, h⟩ := Option.bind_eq_some_iff.mp h
  exact xFr_tq (xFr_tr xFr_rf (fp_X9_both _ _ h1) (by simp)) (FB_X9_either_4 fp_X9_both xFU x1 h)
set_option maxRecDepth 100000 in
set_option maxHeartbeats 4000000 in
theorem FB_X9_operand_80 {τ : xS2} {p_X9_either : (xS2 → Option xS2)} (fp_X9_either : ∀ (σ : xS2) (τ : xS2), p_X9_either σ = some τ → xFr [(43, 22), (43, 23), (43, 24), (43, 25), (55, 99), (56, 99)] σ τ) {p_X9_operand : (xS2 → Option xS2)} (fp_X9_operand : ∀ (σ : xS2) (τ : xS2), p_X9_operand σ = some τ → xFr [(43, 22), (43, 23), (43, 24), (43, 25), (55, 99), (56, 99)] σ τ) : ∀ (s1 : Int32) (σ : xS2), J_X9_operand_80 p_X9_either p_X9_operand s1 σ = some τ → xFr [(43, 22), (43, 23), (43, 24), (43, 25), (55, 99), (56, 99)] σ τ := by
  intro s1 σ h
  obtain ⟨x9, h9, h⟩ := Option.bind_eq_some_iff.mp h
  have e1 := Option.some.inj h
  subst e1
  exact (xFr_tr xFr_rf (F_X9_addStep h9) (by simp))
set_option maxRecDepth 100000 in
set_option maxHeartbeats 4000000 in
theorem FB_X9_operand_46 {τ : xS2} {p_X9_either : (xS2 → Option xS2)} (fp_X9_either : ∀ (σ : xS2) (τ : xS2), p_X9_either σ = some τ → xFr [(43, 22), (43, 23), (43, 24), (43, 25), (55, 99), (56, 99)] σ τ) {p_X9_operand : (xS2 → Option xS2)} (fp_X9_operand : ∀ (σ : xS2) (τ : xS2), p_X9_operand σ = some τ → xFr [(43, 22), (43, 23), (43, 24), (43, 25), (55, 99), (56, 99)] σ τ) : ∀ (l1 : Int32) (σ : xS2), J_X9_operand_46 p_X9_either p_X9_operand l1 σ = some τ → xFr [(43, 22), (43, 23), (43, 24), (43, 25), (55, 99), (56, 99)] σ τ := by
  intro l1 σ h
  obtain ⟨x5, h5, h⟩ := Option.bind_eq_some_iff.mp h
  rcases xite_ro h with ⟨-, h⟩ | ⟨-, h⟩
  · skip
    obtain ⟨x7, h7, h⟩ := Option.bind_eq_some_iff.mp h
    rcases xite_ro h with ⟨-, h⟩ | ⟨-, h⟩
    · skip
      exact xFr_tq (xFr_yI (xFr_tr (xFr_tr xFr_rf (F_X9_opens h5) (by simp)) (fp_X9_operand _ _ h7) (by simp)) rfl) (FB_X9_operand_80 fp_X9_either fp_X9_operand (4 : Int32) (yI x7 43 24 ((x7.1 43 24) - (1 : Int32))) h)
    · skip
      exact xFr_tq (xFr_yI (xFr_tr (xFr_tr xFr_rf (F_X9_opens h5) (by simp)) (fp_X9_operand _ _ h7) (by simp)) rfl) (FB_X9_operand_80 fp_X9_either fp_X9_operand (3 : Int32) (yI x7 43 24 ((x7.1 43 24) - (1 : Int32))) h)
  · skip
    have e1 := Option.some.inj h
    subst e1
    exact (xFr_tr xFr_rf (F_X9_opens h5) (by simp))
set_option maxRecDepth 100000 in
set_option maxHeartbeats 4000000 in
theorem FD_X9_operand {p_X9_either : (xS2 → Option xS2)} (fp_X9_either : ∀ (σ : xS2) (τ : xS2), p_X9_either σ = some τ → xFr [(43, 22), (43, 23), (43, 24), (43, 25), (55, 99), (56, 99)] σ τ) {p_X9_operand : (xS2 → Option xS2)} (fp_X9_operand : ∀ (σ : xS2) (τ : xS2), p_X9_operand σ = some τ → xFr [(43, 22), (43, 23), (43, 24), (43, 25), (55, 99), (56, 99)] σ τ) {σ : xS2} {τ : xS2} (h : J_X9_operand_b p_X9_either p_X9_operand σ = some τ) : xFr [(43, 22), (43, 23), (43, 24), (43, 25), (55, 99), (56, 99)] σ τ := by
  obtain ⟨x1, h1, h⟩ := Option.bind_eq_some_iff.mp h
  rcases xite_or h with ⟨-, h⟩ | ⟨-, h⟩
  · skip
    rcases xite_or h with ⟨-, h⟩ | ⟨-, h⟩
    · skip
      exact xFr_tq xFr_rf (FB_X9_operand_46 fp_X9_either fp_X9_operand x1 σ h)
    · skip
      rcases xite_ro h with ⟨-, h⟩ | ⟨-, h⟩
      · skip
        rcases xite_ro h with ⟨-, h⟩ | ⟨-, h⟩
        · skip
          obtain ⟨x12, h12, h⟩ := Option.bind_eq_some_iff.mp h
          have e1 := Option.some.inj h
          subst e1
          exact (xFr_tr xFr_rf (F_X9_figure h12) (by simp))
        · skip
          obtain ⟨x13, h13, h⟩ := Option.bind_eq_some_iff.mp h
          rcases xite_ro h with ⟨-, h⟩ | ⟨-, h⟩
          · skip
            obtain ⟨x15, h15, h⟩ := Option.bind_eq_some_iff.mp h
            rcases xite_or h with ⟨-, h⟩ | ⟨-, h⟩
            · skip
              obtain ⟨x17, h17, h⟩ := Option.bind_eq_some_iff.mp h
              rcases xite_or h with ⟨-, h⟩ | ⟨-, h⟩
              · skip
                have e1 := Option.some.inj h
                subst e1
                exact (xFr_yI (xFr_yI (xFr_tr (xFr_tr xFr_rf (F_X9_opens h13) (by simp)) (fp_X9_either _ _ h15) (by simp)) rfl) rfl)
              · skip
                obtain ⟨x19, h19, h⟩ := Option.bind_eq_some_iff.mp h
                have e1 := Option.some.inj h
                subst e1
                exact (xFr_tr (xFr_tr (xFr_tr xFr_rf (F_X9_opens h13) (by simp)) (fp_X9_either _ _ h15) (by simp)) (F_X9_faulty h19) (by simp))
            · skip
              have e1 := Option.some.inj h
              subst e1
              exact (xFr_tr (xFr_tr xFr_rf (F_X9_opens h13) (by simp)) (fp_X9_either _ _ h15) (by simp))
          · skip
            have e1 := Option.some.inj h
            subst e1
            exact (xFr_tr xFr_rf (F_X9_opens h13) (by simp))
      · skip
        exact xFr_tq xFr_rf (FB_X9_operand_46 fp_X9_either fp_X9_operand x1 σ h)
  · skip
    obtain ⟨x21, h21, h⟩ := Option.bind_eq_some_iff.mp h
    have e1 := Option.some.inj h
    subst e1
    exact (xFr_yI (xFr_tr xFr_rf (F_X9_addStep h21) (by simp)) rfl)
set_option maxRecDepth 100000 in
set_option maxHeartbeats 4000000 in
theorem FB_X9_product_38 {τ : xS2} {p_X9_operand : (xS2 → Option xS2)} (fp_X9_operand : ∀ (σ : xS2) (τ : xS2), p_X9_operand σ = some τ → xFr [(43, 22), (43, 23), (43, 24), (43, 25), (55, 99), (56, 99)] σ τ) {k4 : xS2 → Option xS2} (hk4 : ∀ (σ : xS2), k4 σ = some τ → xFr [(43, 22), (43, 23), (43, 24), (43, 25), (55, 99), (56, 99)] σ τ) : ∀ (σ : xS2), J_X9_product_38 p_X9_operand k4 σ = some τ → xFr [(43, 22), (43, 23), (43, 24), (43, 25), (55, 99), (56, 99)] σ τ := by
  intro σ h
  obtain ⟨x5, h5, h⟩ := Option.bind_eq_some_iff.mp h
  obtain ⟨x6, h6, h⟩ := Option.bind_eq_some_iff.mp h
  obtain ⟨x7, h7, h⟩ := Option.bind_eq_some_iff.mp h
  exact xFr_tq (xFr_tr (xFr_tr (xFr_yI xFr_rf rfl) (fp_X9_operand _ _ h6) (by simp)) (F_X9_addStep h7) (by simp)) (hk4 x7 h)
set_option maxRecDepth 100000 in
set_option maxHeartbeats 4000000 in
theorem FB_X9_product_4 {τ : xS2} {p_X9_operand : (xS2 → Option xS2)} (fp_X9_operand : ∀ (σ : xS2) (τ : xS2), p_X9_operand σ = some τ → xFr [(43, 22), (43, 23), (43, 24), (43, 25), (55, 99), (56, 99)] σ τ) : ∀ (f : Nat) (σ : xS2), J_X9_product_4 p_X9_operand f σ = some τ → xFr [(43, 22), (43, 23), (43, 24), (43, 25), (55, 99), (56, 99)] σ τ := by
  intro f
  induction f with
  | zero => intro σ h; cases h
  | succ f ih =>
    intro σ h
    rcases xite_or h with ⟨-, h⟩ | ⟨-, h⟩
    · skip
      have e1 := Option.some.inj h
      subst e1
      exact xFr_rf
    · skip
      obtain ⟨x3, h3, h⟩ := Option.bind_eq_some_iff.mp h
      rcases xite_or h with ⟨-, h⟩ | ⟨-, h⟩
      · skip
        exact xFr_tq xFr_rf (FB_X9_product_38 fp_X9_operand ih σ h)
      · skip
        obtain ⟨x8, h8, h⟩ := Option.bind_eq_some_iff.mp h
        rcases xite_or h with ⟨-, h⟩ | ⟨-, h⟩
        · skip
          exact xFr_tq xFr_rf (FB_X9_product_38 fp_X9_operand ih σ h)
        · skip
          obtain ⟨x10, h10, h⟩ := Option.bind_eq_some_iff.mp h
          rcases xite_ro h with ⟨-, h⟩ | ⟨-, h⟩
          · skip
            have e1 := Option.some.inj h
            subst e1
            exact xFr_rf
          · skip
            exact xFr_tq xFr_rf (FB_X9_product_38 fp_X9_operand ih σ h)
set_option maxRecDepth 100000 in
set_option maxHeartbeats 4000000 in
theorem FD_X9_product {p_X9_operand : (xS2 → Option xS2)} (fp_X9_operand : ∀ (σ : xS2) (τ : xS2), p_X9_operand σ = some τ → xFr [(43, 22), (43, 23), (43, 24), (43, 25), (55, 99), (56, 99)] σ τ) {σ : xS2} {τ : xS2} (h : J_X9_product_b p_X9_operand σ = some τ) : xFr [(43, 22), (43, 23), (43, 24), (43, 25), (55, 99), (56, 99)] σ τ := by
  obtain ⟨x1, h1, h⟩ := Option.bind_eq_some_iff.mp h
  exact xFr_tq (xFr_tr xFr_rf (fp_X9_operand _ _ h1) (by simp)) (FB_X9_product_4 fp_X9_operand xFU x1 h)
set_option maxRecDepth 100000 in
set_option maxHeartbeats 4000000 in
theorem FB_X9_sum_29 {τ : xS2} {p_X9_product : (xS2 → Option xS2)} (fp_X9_product : ∀ (σ : xS2) (τ : xS2), p_X9_product σ = some τ → xFr [(43, 22), (43, 23), (43, 24), (43, 25), (55, 99), (56, 99)] σ τ) {k4 : xS2 → Option xS2} (hk4 : ∀ (σ : xS2), k4 σ = some τ → xFr [(43, 22), (43, 23), (43, 24), (43, 25), (55, 99), (56, 99)] σ τ) : ∀ (σ : xS2), J_X9_sum_29 p_X9_product k4 σ = some τ → xFr [(43, 22), (43, 23), (43, 24), (43, 25), (55, 99), (56, 99)] σ τ := by
  intro σ h
  obtain ⟨x5, h5, h⟩ := Option.bind_eq_some_iff.mp h
  obtain ⟨x6, h6, h⟩ := Option.bind_eq_some_iff.mp h
  obtain ⟨x7, h7, h⟩ := Option.bind_eq_some_iff.mp h
  exact xFr_tq (xFr_tr (xFr_tr (xFr_yI xFr_rf rfl) (fp_X9_product _ _ h6) (by simp)) (F_X9_addStep h7) (by simp)) (hk4 x7 h)
set_option maxRecDepth 100000 in
set_option maxHeartbeats 4000000 in
theorem FB_X9_sum_4 {τ : xS2} {p_X9_product : (xS2 → Option xS2)} (fp_X9_product : ∀ (σ : xS2) (τ : xS2), p_X9_product σ = some τ → xFr [(43, 22), (43, 23), (43, 24), (43, 25), (55, 99), (56, 99)] σ τ) : ∀ (f : Nat) (σ : xS2), J_X9_sum_4 p_X9_product f σ = some τ → xFr [(43, 22), (43, 23), (43, 24), (43, 25), (55, 99), (56, 99)] σ τ := by
  intro f
  induction f with
  | zero => intro σ h; cases h
  | succ f ih =>
    intro σ h
    rcases xite_or h with ⟨-, h⟩ | ⟨-, h⟩
    · skip
      have e1 := Option.some.inj h
      subst e1
      exact xFr_rf
    · skip
      obtain ⟨x3, h3, h⟩ := Option.bind_eq_some_iff.mp h
      rcases xite_or h with ⟨-, h⟩ | ⟨-, h⟩
      · skip
        exact xFr_tq xFr_rf (FB_X9_sum_29 fp_X9_product ih σ h)
      · skip
        obtain ⟨x8, h8, h⟩ := Option.bind_eq_some_iff.mp h
        rcases xite_ro h with ⟨-, h⟩ | ⟨-, h⟩
        · skip
          have e1 := Option.some.inj h
          subst e1
          exact xFr_rf
        · skip
          exact xFr_tq xFr_rf (FB_X9_sum_29 fp_X9_product ih σ h)
set_option maxRecDepth 100000 in
set_option maxHeartbeats 4000000 in
theorem FD_X9_sum {p_X9_product : (xS2 → Option xS2)} (fp_X9_product : ∀ (σ : xS2) (τ : xS2), p_X9_product σ = some τ → xFr [(43, 22), (43, 23), (43, 24), (43, 25), (55, 99), (56, 99)] σ τ) {σ : xS2} {τ : xS2} (h : J_X9_sum_b p_X9_product σ = some τ) : xFr [(43, 22), (43, 23), (43, 24), (43, 25), (55, 99), (56, 99)] σ τ := by
  obtain ⟨x1, h1, h⟩ := Option.bind_eq_some_iff.mp h
  exact xFr_tq (xFr_tr xFr_rf (fp_X9_product _ _ h1) (by simp)) (FB_X9_sum_4 fp_X9_product xFU x1 h)
set_option maxRecDepth 100000 in
set_option maxHeartbeats 4000000 in
theorem FG_X9_both : ∀ n : Nat, (∀ (σ : xS2) (τ : xS2), (G_X9_both n).1 σ = some τ → xFr [(43, 22), (43, 23), (43, 24), (43, 25), (55, 99), (56, 99)] σ τ) ∧ (∀ (σ : xS2) (τ : xS2), (G_X9_both n).2.1 σ = some τ → xFr [(43, 22), (43, 23), (43, 24), (43, 25), (55, 99), (56, 99)] σ τ) ∧ (∀ (σ : xS2) (τ : xS2), (G_X9_both n).2.2.1 σ = some τ → xFr [(43, 22), (43, 23), (43, 24), (43, 25), (55, 99), (56, 99)] σ τ) ∧ (∀ (σ : xS2) (τ : xS2), (G_X9_both n).2.2.2.1 σ = some τ → xFr [(43, 22), (43, 23), (43, 24), (43, 25), (55, 99), (56, 99)] σ τ) ∧ (∀ (σ : xS2) (τ : xS2), (G_X9_both n).2.2.2.2.1 σ = some τ → xFr [(43, 22), (43, 23), (43, 24), (43, 25), (55, 99), (56, 99)] σ τ) ∧ (∀ (σ : xS2) (τ : xS2), (G_X9_both n).2.2.2.2.2 σ = some τ → xFr [(43, 22), (43, 23), (43, 24), (43, 25), (55, 99), (56, 99)] σ τ) := by
  intro n
  induction n with
  | zero => exact ⟨fun _ _ h => (by cases h), fun _ _ h => (by cases h), fun _ _ h => (by cases h), fun _ _ h => (by cases h), fun _ _ h => (by cases h), fun _ _ h => (by cases h)⟩
  | succ n ih =>
    obtain ⟨i_X9_both, i_X9_compared, i_X9_either, i_X9_operand, i_X9_product, i_X9_sum⟩ := ih
    exact ⟨fun _ _ h => FD_X9_both i_X9_compared h, fun _ _ h => FD_X9_compared i_X9_sum h, fun _ _ h => FD_X9_either i_X9_both h, fun _ _ h => FD_X9_operand i_X9_either i_X9_operand h, fun _ _ h => FD_X9_product i_X9_operand h, fun _ _ h => FD_X9_sum i_X9_product h⟩
theorem F_X9_both {σ : xS2} {τ : xS2} (h : J_X9_both σ = some τ) : xFr [(43, 22), (43, 23), (43, 24), (43, 25), (55, 99), (56, 99)] σ τ := (FG_X9_both 100).1 _ _ h
theorem F_X9_compared {σ : xS2} {τ : xS2} (h : J_X9_compared σ = some τ) : xFr [(43, 22), (43, 23), (43, 24), (43, 25), (55, 99), (56, 99)] σ τ := (FG_X9_both 100).2.1 _ _ h
theorem F_X9_either {σ : xS2} {τ : xS2} (h : J_X9_either σ = some τ) : xFr [(43, 22), (43, 23), (43, 24), (43, 25), (55, 99), (56, 99)] σ τ := (FG_X9_both 100).2.2.1 _ _ h
theorem F_X9_operand {σ : xS2} {τ : xS2} (h : J_X9_operand σ = some τ) : xFr [(43, 22), (43, 23), (43, 24), (43, 25), (55, 99), (56, 99)] σ τ := (FG_X9_both 100).2.2.2.1 _ _ h
theorem F_X9_product {σ : xS2} {τ : xS2} (h : J_X9_product σ = some τ) : xFr [(43, 22), (43, 23), (43, 24), (43, 25), (55, 99), (56, 99)] σ τ := (FG_X9_both 100).2.2.2.2.1 _ _ h
theorem F_X9_sum {σ : xS2} {τ : xS2} (h : J_X9_sum σ = some τ) : xFr [(43, 22), (43, 23), (43, 24), (43, 25), (55, 99), (56, 99)] σ τ := (FG_X9_both 100).2.2.2.2.2 _ _ h
set_option maxRecDepth 100000 in
set_option maxHeartbeats 4000000 in
theorem F_X9_lays {a1 : Int32} {a2 : Int32} {a3 : Int32} {σ : xS2} {τ : xS2} (h : J_X9_lays a1 a2 a3 σ = some τ) : xFr [(43, 5), (43, 6), (44, 99), (45, 99), (46, 99), (47, 99)] σ τ := by
  rcases xite_or h with ⟨-, h⟩ | ⟨-, h⟩
  · skip
    obtain ⟨-, h⟩ := xgd_some h
    have e1 := Option.some.inj h
    subst e1
    exact (xFr_yI xFr_rf rfl)
  · skip
    rcases xite_or h with ⟨-, h⟩ | ⟨-, h⟩
    · skip
      obtain ⟨-, h⟩ := xgd_some h
      have e1 := Option.some.inj h
      subst e1
      exact (xFr_yI xFr_rf rfl)
    · skip
      rcases xite_or h with ⟨-, h⟩ | ⟨-, h⟩
      · skip
        obtain ⟨-, h⟩ := xgd_some h
        have e1 := Option.some.inj h
        subst e1
        exact (xFr_yI xFr_rf rfl)
      · skip
        rcases xite_or h with ⟨-, h⟩ | ⟨-, h⟩
        · skip
          obtain ⟨-, h⟩ := xgd_some h
          have e1 := Option.some.inj h
          subst e1
          exact (xFr_yI xFr_rf rfl)
        · skip
          rcases xite_or h with ⟨-, h⟩ | ⟨-, h⟩
          · skip
            have e1 := Option.some.inj h
            subst e1
            exact (xFr_yI xFr_rf rfl)
          · skip
            have e1 := Option.some.inj h
            subst e1
            exact (xFr_yI xFr_rf rfl)
set_option maxRecDepth 100000 in
set_option maxHeartbeats 4000000 in
theorem FB_X9_changes_121 {r : Int32} {τ : xS2} : ∀ (l1 : Int32) (l2 : Int32) (l3 : Int32) (l4 : Int32) (σ : xS2), J_X9_changes_121 l1 l2 l3 l4 σ = some (r, τ) → xFr [(43, 14), (43, 15), (43, 5), (43, 6), (44, 99), (45, 99), (46, 99), (47, 99), (50, 99), (51, 99), (52, 99), (53, 99)] σ τ := by
  intro l1 l2 l3 l4 σ h
  obtain ⟨-, h⟩ := xgd_some h
  obtain ⟨-, h⟩ := xgd_some h
  obtain ⟨-, h⟩ := xgd_some h
  obtain ⟨-, h⟩ := xgd_some h
  obtain ⟨x8, h8, h⟩ := Option.bind_eq_some_iff.mp h
  obtain ⟨e1, e2⟩ := xso2 h
  subst e1
  subst e2
  exact (xFr_tr (xFr_yI (xFr_yI (xFr_yI (xFr_yI (xFr_yI xFr_rf rfl) rfl) rfl) rfl) rfl) (F_X9_lays h8) (by simp))
set_option maxRecDepth 100000 in
set_option maxHeartbeats 4000000 in
theorem FB_X9_changes_34 {r : Int32} {τ : xS2} : ∀ (f : Nat) (l1 : Int32) (l2 : Int32) (l3 : Int32) (l4 : Int32) (l5 : Int32) (σ : xS2), J_X9_changes_34 f l1 l2 l3 l4 l5 σ = some (r, τ) → xFr [(43, 14), (43, 15), (43, 5), (43, 6), (44, 99), (45, 99), (46, 99), (47, 99), (50, 99), (51, 99), (52, 99), (53, 99)] σ τ := by
  intro f
  induction f with
  | zero => intro l1 l2 l3 l4 l5 σ h; cases h
  | succ f ih =>
    intro l1 l2 l3 l4 l5 σ h
    rcases xite_or h with ⟨-, h⟩ | ⟨-, h⟩
    · skip
      exact xFr_tq (xFr_yI xFr_rf rfl) (FB_X9_changes_121 l1 l2 l3 l4 (yI σ 43 14 ((σ.1 43 14) - (1 : Int32))) h)
    · skip
      obtain ⟨-, h⟩ := xgd_some h
      obtain ⟨-, h⟩ := xgd_some h
      obtain ⟨-, h⟩ := xgd_some h
      obtain ⟨-, h⟩ := xgd_some h
      obtain ⟨-, h⟩ := xgd_some h
      obtain ⟨-, h⟩ := xgd_some h
      obtain ⟨-, h⟩ := xgd_some h
      obtain ⟨-, h⟩ := xgd_some h
      exact xFr_tq (xFr_yI (xFr_yI (xFr_yI (xFr_yI xFr_rf rfl) rfl) rfl) rfl) (ih l1 l2 l3 l4 (l5 + (1 : Int32)) (yI (yI (yI (yI σ 50 (l5 - (1 : Int32)).toNatClampNeg (σ.1 50 l5.toNatClampNeg)) 51 (l5 - (1 : Int32)).toNatClampNeg (σ.1 51 l5.toNatClampNeg)) 52 (l5 - (1 : Int32)).toNatClampNeg (σ.1 52 l5.toNatClampNeg)) 53 (l5 - (1 : Int32)).toNatClampNeg (σ.1 53 l5.toNatClampNeg)) h)
set_option maxRecDepth 100000 in
set_option maxHeartbeats 4000000 in
theorem F_X9_changes {a1 : Int32} {a2 : Int32} {a3 : Int32} {σ : xS2} {r : Int32} {τ : xS2} (h : J_X9_changes a1 a2 a3 σ = some (r, τ)) : xFr [(43, 14), (43, 15), (43, 5), (43, 6), (44, 99), (45, 99), (46, 99), (47, 99), (50, 99), (51, 99), (52, 99), (53, 99)] σ τ := by
  obtain ⟨x1, h1, h⟩ := Option.bind_eq_some_iff.mp h
  rcases xite_ro h with ⟨-, h⟩ | ⟨-, h⟩
  · skip
    rcases xite_ro h with ⟨-, h⟩ | ⟨-, h⟩
    · skip
      exact xFr_tq (xFr_yI xFr_rf rfl) (FB_X9_changes_121 a1 a2 a3 x1 (yI σ 43 15 (0 : Int32)) h)
    · skip
      exact xFr_tq (xFr_yI xFr_rf rfl) (FB_X9_changes_34 xFU a1 a2 a3 x1 (1 : Int32) (yI σ 43 15 (0 : Int32)) h)
  · skip
    obtain ⟨e1, e2⟩ := xso2 h
    subst e1
    subst e2
    exact xFr_rf
set_option maxRecDepth 100000 in
set_option maxHeartbeats 4000000 in
theorem FB_X9_findFar_133 {τ : xS2} {k34 : Bool → xS2 → Option xS2} (hk34 : ∀ (l2 : Bool) (σ : xS2), k34 l2 σ = some τ → xFr [(62, 99)] σ τ) {k42 : Bool → Int32 → xS2 → Option xS2} (hk42 : ∀ (l2 : Bool) (l3 : Int32) (σ : xS2), k42 l2 l3 σ = some τ → xFr [(62, 99)] σ τ) {k51 : Bool → Int32 → Int32 → xS2 → Option xS2} (hk51 : ∀ (l2 : Bool) (l3 : Int32) (l4 : Int32) (σ : xS2), k51 l2 l3 l4 σ = some τ → xFr [(62, 99)] σ τ) : ∀ (l2 : Bool) (l3 : Int32) (l4 : Int32) (σ : xS2), J_X9_findFar_133 k34 k42 k51 l2 l3 l4 σ = some τ → xFr [(62, 99)] σ τ := by
  intro l2 l3 l4 σ h
  exact xFr_tq xFr_rf (hk51 l2 l3 (l4 + (1 : Int32)) σ h)
set_option maxRecDepth 100000 in
set_option maxHeartbeats 4000000 in
theorem FB_X9_findFar_51 {τ : xS2} {k34 : Bool → xS2 → Option xS2} (hk34 : ∀ (l2 : Bool) (σ : xS2), k34 l2 σ = some τ → xFr [(62, 99)] σ τ) {k42 : Bool → Int32 → xS2 → Option xS2} (hk42 : ∀ (l2 : Bool) (l3 : Int32) (σ : xS2), k42 l2 l3 σ = some τ → xFr [(62, 99)] σ τ) : ∀ (f : Nat) (l2 : Bool) (l3 : Int32) (l4 : Int32) (σ : xS2), J_X9_findFar_51 k34 k42 f l2 l3 l4 σ = some τ → xFr [(62, 99)] σ τ := by
  intro f
  induction f with
  | zero => intro l2 l3 l4 σ h; cases h
  | succ f ih =>
    intro l2 l3 l4 σ h
    rcases xite_or h with ⟨-, h⟩ | ⟨-, h⟩
    · skip
      exact xFr_tq xFr_rf (hk42 l2 (l3 + (1 : Int32)) σ h)
    · skip
      rcases xite_or h with ⟨-, h⟩ | ⟨-, h⟩
      · skip
        exact xFr_tq xFr_rf (FB_X9_findFar_133 hk34 hk42 ih l2 l3 l4 σ h)
      · skip
        obtain ⟨-, h⟩ := xgd_some h
        rcases xite_or h with ⟨-, h⟩ | ⟨-, h⟩
        · skip
          exact xFr_tq xFr_rf (FB_X9_findFar_133 hk34 hk42 ih l2 l3 l4 σ h)
        · skip
          obtain ⟨-, h⟩ := xgd_some h
          obtain ⟨x10, h10, h⟩ := Option.bind_eq_some_iff.mp h
          obtain ⟨-, h⟩ := xgd_some h
          rcases xite_or h with ⟨-, h⟩ | ⟨-, h⟩
          · skip
            obtain ⟨-, h⟩ := xgd_some h
            obtain ⟨x14, h14, h⟩ := Option.bind_eq_some_iff.mp h
            obtain ⟨-, h⟩ := xgd_some h
            exact xFr_tq (xFr_yI xFr_rf rfl) (FB_X9_findFar_133 hk34 hk42 ih true l3 l4 (yI σ 62 l3.toNatClampNeg ((σ.1 62 (J_X9_beside l3 l4).toNatClampNeg) + x14)) h)
          · skip
            exact xFr_tq xFr_rf (FB_X9_findFar_133 hk34 hk42 ih l2 l3 l4 σ h)
set_option maxRecDepth 100000 in
set_option maxHeartbeats 4000000 in
theorem FB_X9_findFar_42 {τ : xS2} {k34 : Bool → xS2 → Option xS2} (hk34 : ∀ (l2 : Bool) (σ : xS2), k34 l2 σ = some τ → xFr [(62, 99)] σ τ) : ∀ (f : Nat) (l2 : Bool) (l3 : Int32) (σ : xS2), J_X9_findFar_42 k34 f l2 l3 σ = some τ → xFr [(62, 99)] σ τ := by
  intro f
  induction f with
  | zero => intro l2 l3 σ h; cases h
  | succ f ih =>
    intro l2 l3 σ h
    rcases xite_or h with ⟨-, h⟩ | ⟨-, h⟩
    · skip
      exact xFr_tq xFr_rf (hk34 l2 σ h)
    · skip
      exact xFr_tq xFr_rf (FB_X9_findFar_51 hk34 ih xFU l2 l3 (1 : Int32) σ h)
set_option maxRecDepth 100000 in
set_option maxHeartbeats 4000000 in
theorem FB_X9_findFar_34 {τ : xS2} : ∀ (f : Nat) (l2 : Bool) (σ : xS2), J_X9_findFar_34 f l2 σ = some τ → xFr [(62, 99)] σ τ := by
  intro f
  induction f with
  | zero => intro l2 σ h; cases h
  | succ f ih =>
    intro l2 σ h
    rcases xite_or h with ⟨-, h⟩ | ⟨-, h⟩
    · skip
      have e1 := Option.some.inj h
      subst e1
      exact xFr_rf
    · skip
      exact xFr_tq xFr_rf (FB_X9_findFar_42 ih xFU false (0 : Int32) σ h)
set_option maxRecDepth 100000 in
set_option maxHeartbeats 4000000 in
theorem FB_X9_findFar_25 {τ : xS2} {k2 : Int32 → Int32 → xS2 → Option xS2} (hk2 : ∀ (l1 : Int32) (l2 : Int32) (σ : xS2), k2 l1 l2 σ = some τ → xFr [(62, 99)] σ τ) : ∀ (l1 : Int32) (l2 : Int32) (s1 : Int32) (s2 : Int32) (σ : xS2), J_X9_findFar_25 k2 l1 l2 s1 s2 σ = some τ → xFr [(62, 99)] σ τ := by
  intro l1 l2 s1 s2 σ h
  obtain ⟨-, h⟩ := xgd_some h
  exact xFr_tq (xFr_yI xFr_rf rfl) (hk2 l1 (l2 + (1 : Int32)) (yI σ 62 s1.toNatClampNeg s2) h)
set_option maxRecDepth 100000 in
set_option maxHeartbeats 4000000 in
theorem FB_X9_findFar_2 {τ : xS2} : ∀ (f : Nat) (l1 : Int32) (l2 : Int32) (σ : xS2), J_X9_findFar_2 f l1 l2 σ = some τ → xFr [(62, 99)] σ τ := by
  intro f
  induction f with
  | zero => intro l1 l2 σ h; cases h
  | succ f ih =>
    intro l1 l2 σ h
    rcases xite_or h with ⟨-, h⟩ | ⟨-, h⟩
    · skip
      exact xFr_tq xFr_rf (FB_X9_findFar_34 xFU true σ h)
    · skip
      rcases xite_ro h with ⟨-, h⟩ | ⟨-, h⟩
      · skip
        exact xFr_tq xFr_rf (FB_X9_findFar_25 ih l1 l2 l2 (1000000 : Int32) σ h)
      · skip
        exact xFr_tq xFr_rf (FB_X9_findFar_25 ih l1 l2 l2 (0 : Int32) σ h)
set_option maxRecDepth 100000 in
set_option maxHeartbeats 4000000 in
theorem F_X9_findFar {a1 : Int32} {σ : xS2} {τ : xS2} (h : J_X9_findFar a1 σ = some τ) : xFr [(62, 99)] σ τ := by
  exact xFr_tq xFr_rf (FB_X9_findFar_2 xFU a1 (0 : Int32) σ h)
set_option maxRecDepth 100000 in
set_option maxHeartbeats 4000000 in
theorem FB_X9_cheapest_110 {r : Int32} {τ : xS2} {k73 : Int32 → Int32 → xS2 → Option (Int32 × xS2)} (hk73 : ∀ (l3 : Int32) (l4 : Int32) (σ : xS2), k73 l3 l4 σ = some (r, τ) → xFr [(62, 99)] σ τ) : ∀ (l3 : Int32) (l4 : Int32) (σ : xS2), J_X9_cheapest_110 k73 l3 l4 σ = some (r, τ) → xFr [(62, 99)] σ τ := by
  intro l3 l4 σ h
  exact xFr_tq xFr_rf (hk73 l3 (l4 + (1 : Int32)) σ h)
set_option maxRecDepth 100000 in
set_option maxHeartbeats 4000000 in
theorem FB_X9_cheapest_73 {r : Int32} {τ : xS2} : ∀ (f : Nat) (l3 : Int32) (l4 : Int32) (σ : xS2), J_X9_cheapest_73 f l3 l4 σ = some (r, τ) → xFr [(62, 99)] σ τ := by
  intro f
  induction f with
  | zero => intro l3 l4 σ h; cases h
  | succ f ih =>
    intro l3 l4 σ h
    rcases xite_or h with ⟨-, h⟩ | ⟨-, h⟩
    · skip
      exact xFr_tq xFr_rf (FB_X9_cheapest_110 ih l3 l4 σ h)
    · skip
      obtain ⟨-, h⟩ := xgd_some h
      obtain ⟨x15, h15, h⟩ := Option.bind_eq_some_iff.mp h
      obtain ⟨-, h⟩ := xgd_some h
      rcases xite_or h with ⟨-, h⟩ | ⟨-, h⟩
      · skip
        obtain ⟨e1, e2⟩ := xso2 h
        subst e1
        subst e2
        exact xFr_rf
      · skip
        exact xFr_tq xFr_rf (FB_X9_cheapest_110 ih l3 l4 σ h)
set_option maxRecDepth 100000 in
set_option maxHeartbeats 4000000 in
theorem F_X9_cheapest {a1 : Int32} {a2 : Int32} {σ : xS2} {r : Int32} {τ : xS2} (h : J_X9_cheapest a1 a2 σ = some (r, τ)) : xFr [(62, 99)] σ τ := by
  rcases xite_or h with ⟨-, h⟩ | ⟨-, h⟩
  · skip
    obtain ⟨e1, e2⟩ := xso2 h
    subst e1
    subst e2
    exact xFr_rf
  · skip
    rcases xite_or h with ⟨-, h⟩ | ⟨-, h⟩
    · skip
      obtain ⟨e1, e2⟩ := xso2 h
      subst e1
      subst e2
      exact xFr_rf
    · skip
      rcases xite_or h with ⟨-, h⟩ | ⟨-, h⟩
      · skip
        obtain ⟨e1, e2⟩ := xso2 h
        subst e1
        subst e2
        exact xFr_rf
      · skip
        rcases xite_ro h with ⟨-, h⟩ | ⟨-, h⟩
        · skip
          obtain ⟨x8, h8, h⟩ := Option.bind_eq_some_iff.mp h
          rcases xite_ro h with ⟨-, h⟩ | ⟨-, h⟩
          · skip
            rcases xite_ro h with ⟨-, h⟩ | ⟨-, h⟩
            · skip
              exact xFr_tq (xFr_tr xFr_rf (F_X9_findFar h8) (by simp)) (FB_X9_cheapest_73 xFU (a1 / (100 : Int32)) (1 : Int32) x8 h)
            · skip
              obtain ⟨e1, e2⟩ := xso2 h
              subst e1
              subst e2
              exact (xFr_tr xFr_rf (F_X9_findFar h8) (by simp))
          · skip
            obtain ⟨-, h⟩ := xgd_some h
            obtain ⟨e1, e2⟩ := xso2 h
            subst e1
            subst e2
            exact (xFr_tr xFr_rf (F_X9_findFar h8) (by simp))
        · skip
          obtain ⟨e1, e2⟩ := xso2 h
          subst e1
          subst e2
          exact xFr_rf
set_option maxRecDepth 100000 in
set_option maxHeartbeats 4000000 in
theorem F_X9_come {a1 : Int32} {a2 : Int32} {a3 : Int32} {a4 : Int32} {σ : xS2} {τ : xS2} (h : J_X9_come a1 a2 a3 a4 σ = some τ) : xFr [(64, 99)] σ τ := by
  obtain ⟨x1, h1, h⟩ := Option.bind_eq_some_iff.mp h
  obtain ⟨-, h⟩ := xgd_some h
  obtain ⟨-, h⟩ := xgd_some h
  obtain ⟨-, h⟩ := xgd_some h
  rcases xite_or h with ⟨-, h⟩ | ⟨-, h⟩
  · skip
    have e1 := Option.some.inj h
    subst e1
    exact xFr_rf
  · skip
    obtain ⟨-, h⟩ := xgd_some h
    have e1 := Option.some.inj h
    subst e1
    exact (xFr_yI xFr_rf rfl)
set_option maxRecDepth 100000 in
set_option maxHeartbeats 4000000 in
theorem F_X9_obeys {a1 : Int32} {σ : xS2} {r : Bool} {τ : xS2} (h : J_X9_obeys a1 σ = some (r, τ)) : xFr [(43, 11), (43, 8), (43, 9)] σ τ := by
  rcases xite_ro h with ⟨-, h⟩ | ⟨-, h⟩
  · skip
    rcases xite_ro h with ⟨-, h⟩ | ⟨-, h⟩
    · skip
      rcases xite_or h with ⟨-, h⟩ | ⟨-, h⟩
      · skip
        obtain ⟨e1, e2⟩ := xso2 h
        subst e1
        subst e2
        exact xFr_rf
      · skip
        obtain ⟨x5, h5, h⟩ := Option.bind_eq_some_iff.mp h
        rcases xite_or h with ⟨-, h⟩ | ⟨-, h⟩
        · skip
          obtain ⟨x7, h7, h⟩ := Option.bind_eq_some_iff.mp h
          obtain ⟨e1, e2⟩ := xso2 h
          subst e1
          subst e2
          exact (xFr_yI (xFr_yI xFr_rf rfl) rfl)
        · skip
          obtain ⟨e1, e2⟩ := xso2 h
          subst e1
          subst e2
          exact xFr_rf
    · skip
      obtain ⟨-, h⟩ := xgd_some h
      rcases xite_or h with ⟨-, h⟩ | ⟨-, h⟩
      · skip
        obtain ⟨e1, e2⟩ := xso2 h
        subst e1
        subst e2
        exact xFr_rf
      · skip
        rcases xite_ro h with ⟨-, h⟩ | ⟨-, h⟩
        · skip
          obtain ⟨e1, e2⟩ := xso2 h
          subst e1
          subst e2
          exact xFr_rf
        · skip
          rcases xite_or h with ⟨-, h⟩ | ⟨-, h⟩
          · skip
            obtain ⟨e1, e2⟩ := xso2 h
            subst e1
            subst e2
            exact (xFr_yL (xFr_yI xFr_rf rfl) rfl)
          · skip
            obtain ⟨e1, e2⟩ := xso2 h
            subst e1
            subst e2
            exact xFr_rf
  · skip
    obtain ⟨e1, e2⟩ := xso2 h
    subst e1
    subst e2
    exact xFr_rf
set_option maxRecDepth 100000 in
set_option maxHeartbeats 4000000 in
theorem F_X9_goDay {a1 : Int32} {a2 : Int32} {a3 : Int32} {a4 : Int32} {σ : xS2} {r : Bool} {τ : xS2} (h : J_X9_goDay a1 a2 a3 a4 σ = some (r, τ)) : xFr [(43, 10), (43, 11), (43, 8), (43, 9)] σ τ := by
  obtain ⟨x1, h1, h⟩ := Option.bind_eq_some_iff.mp h
  obtain ⟨x2, h2, h⟩ := Option.bind_eq_some_iff.mp h
  obtain ⟨e1, e2⟩ := xso2 h
  subst e1
  subst e2
  exact (xFr_yI (xFr_yI (xFr_tr xFr_rf (F_X9_obeys h1) (by simp)) rfl) rfl)
set_option maxRecDepth 100000 in
set_option maxHeartbeats 4000000 in
theorem F_X9_goOwn {a1 : Int32} {a2 : Int32} {σ : xS2} {r : Bool} {τ : xS2} (h : J_X9_goOwn a1 a2 σ = some (r, τ)) : xFr [(43, 10), (43, 11), (43, 8), (43, 9)] σ τ := by
  obtain ⟨-, h⟩ := xgd_some h
  obtain ⟨-, h⟩ := xgd_some h
  obtain ⟨x3, h3, h⟩ := Option.bind_eq_some_iff.mp h
  obtain ⟨e1, e2⟩ := xso2 h
  subst e1
  subst e2
  exact (xFr_tr xFr_rf (F_X9_goDay h3) (by simp))
set_option maxRecDepth 100000 in
set_option maxHeartbeats 4000000 in
theorem FB_X9_lead_37 {r : Int32} {τ : xS2} : ∀ (l2 : Bool) (s1 : Int32) (s2 : Bool) (σ : xS2), J_X9_lead_37 l2 s1 s2 σ = some (r, τ) → xFr [(43, 10), (43, 11), (43, 7), (43, 8), (43, 9), (48, 99), (49, 99)] σ τ := by
  intro l2 s1 s2 σ h
  obtain ⟨-, h⟩ := xgd_some h
  rcases xite_or h with ⟨-, h⟩ | ⟨-, h⟩
  · skip
    obtain ⟨e1, e2⟩ := xso2 h
    subst e1
    subst e2
    exact (xFr_yI (xFr_yI xFr_rf rfl) rfl)
  · skip
    obtain ⟨e1, e2⟩ := xso2 h
    subst e1
    subst e2
    exact (xFr_yI (xFr_yI xFr_rf rfl) rfl)
set_option maxRecDepth 100000 in
set_option maxHeartbeats 4000000 in
theorem F_X9_lead {a1 : Int32} {σ : xS2} {r : Int32} {τ : xS2} (h : J_X9_lead a1 σ = some (r, τ)) : xFr [(43, 10), (43, 11), (43, 7), (43, 8), (43, 9), (48, 99), (49, 99)] σ τ := by
  obtain ⟨x1, h1, h⟩ := Option.bind_eq_some_iff.mp h
  obtain ⟨-, h⟩ := xgd_some h
  rcases xite_or h with ⟨-, h⟩ | ⟨-, h⟩
  · skip
    exact xFr_tq (xFr_yI (xFr_tr xFr_rf (F_X9_goOwn h1) (by simp)) rfl) (FB_X9_lead_37 x1.1 (x1.2.1 43 7) false (yI x1.2 48 (x1.2.1 43 7).toNatClampNeg a1) h)
  · skip
    exact xFr_tq (xFr_yI (xFr_tr xFr_rf (F_X9_goOwn h1) (by simp)) rfl) (FB_X9_lead_37 x1.1 (x1.2.1 43 7) true (yI x1.2 48 (x1.2.1 43 7).toNatClampNeg a1) h)
set_option maxRecDepth 100000 in
set_option maxHeartbeats 4000000 in
theorem F_X9_day {a1 : Int32} {σ : xS2} {r : Int32} {τ : xS2} (h : J_X9_day a1 σ = some (r, τ)) : xFr [(43, 10), (43, 11), (43, 7), (43, 8), (43, 9), (48, 99), (49, 99)] σ τ := by
  rcases xite_ro h with ⟨-, h⟩ | ⟨-, h⟩
  · skip
    rcases xite_ro h with ⟨-, h⟩ | ⟨-, h⟩
    · skip
      obtain ⟨x4, h4, h⟩ := Option.bind_eq_some_iff.mp h
      obtain ⟨e1, e2⟩ := xso2 h
      subst e1
      subst e2
      exact (xFr_tr xFr_rf (F_X9_lead h4) (by simp))
    · skip
      obtain ⟨e1, e2⟩ := xso2 h
      subst e1
      subst e2
      exact xFr_rf
  · skip
    obtain ⟨e1, e2⟩ := xso2 h
    subst e1
    subst e2
    exact xFr_rf
set_option maxRecDepth 100000 in
set_option maxHeartbeats 4000000 in
theorem FB_X9_worked_182 {r : Int32} {τ : xS2} {k12 : Int32 → Int32 → Int32 → Int32 → xS2 → Option (Int32 × xS2)} (hk12 : ∀ (l1 : Int32) (l3 : Int32) (l4 : Int32) (l5 : Int32) (σ : xS2), k12 l1 l3 l4 l5 σ = some (r, τ) → xFr [(61, 99)] σ τ) : ∀ (l1 : Int32) (l3 : Int32) (l4 : Int32) (l5 : Int32) (σ : xS2), J_X9_worked_182 k12 l1 l3 l4 l5 σ = some (r, τ) → xFr [(61, 99)] σ τ := by
  intro l1 l3 l4 l5 σ h
  exact xFr_tq xFr_rf (hk12 l1 l3 l4 (l5 + (1 : Int32)) σ h)
set_option maxRecDepth 100000 in
set_option maxHeartbeats 4000000 in
theorem FB_X9_worked_79 {r : Int32} {τ : xS2} {k12 : Int32 → Int32 → Int32 → Int32 → xS2 → Option (Int32 × xS2)} (hk12 : ∀ (l1 : Int32) (l3 : Int32) (l4 : Int32) (l5 : Int32) (σ : xS2), k12 l1 l3 l4 l5 σ = some (r, τ) → xFr [(61, 99)] σ τ) : ∀ (l1 : Int32) (l3 : Int32) (l4 : Int32) (l5 : Int32) (s1 : Int32) (s2 : Int32) (σ : xS2), J_X9_worked_79 k12 l1 l3 l4 l5 s1 s2 σ = some (r, τ) → xFr [(61, 99)] σ τ := by
  intro l1 l3 l4 l5 s1 s2 σ h
  obtain ⟨-, h⟩ := xgd_some h
  exact xFr_tq (xFr_yI xFr_rf rfl) (FB_X9_worked_182 hk12 l1 l3 (l4 + (1 : Int32)) l5 (yI σ 61 s1.toNatClampNeg s2) h)
set_option maxRecDepth 100000 in
set_option maxHeartbeats 4000000 in
theorem FB_X9_worked_45 {r : Int32} {τ : xS2} {k12 : Int32 → Int32 → Int32 → Int32 → xS2 → Option (Int32 × xS2)} (hk12 : ∀ (l1 : Int32) (l3 : Int32) (l4 : Int32) (l5 : Int32) (σ : xS2), k12 l1 l3 l4 l5 σ = some (r, τ) → xFr [(61, 99)] σ τ) : ∀ (l1 : Int32) (l3 : Int32) (l4 : Int32) (l5 : Int32) (l6 : Int32) (σ : xS2), J_X9_worked_45 k12 l1 l3 l4 l5 l6 σ = some (r, τ) → xFr [(61, 99)] σ τ := by
  intro l1 l3 l4 l5 l6 σ h
  rcases xite_ro h with ⟨-, h⟩ | ⟨-, h⟩
  · skip
    obtain ⟨-, h⟩ := xgd_some h
    obtain ⟨-, h⟩ := xgd_some h
    exact xFr_tq xFr_rf (FB_X9_worked_79 hk12 l1 l3 l4 l5 l4 (σ.1 60 (σ.1 56 l5.toNatClampNeg).toNatClampNeg) σ h)
  · skip
    obtain ⟨-, h⟩ := xgd_some h
    exact xFr_tq xFr_rf (FB_X9_worked_79 hk12 l1 l3 l4 l5 l4 (σ.1 56 l5.toNatClampNeg) σ h)
set_option maxRecDepth 100000 in
set_option maxHeartbeats 4000000 in
theorem FB_X9_worked_117 {r : Int32} {τ : xS2} {k12 : Int32 → Int32 → Int32 → Int32 → xS2 → Option (Int32 × xS2)} (hk12 : ∀ (l1 : Int32) (l3 : Int32) (l4 : Int32) (l5 : Int32) (σ : xS2), k12 l1 l3 l4 l5 σ = some (r, τ) → xFr [(61, 99)] σ τ) : ∀ (l1 : Int32) (l3 : Int32) (l4 : Int32) (l5 : Int32) (s1 : Int32) (s2 : Bool) (σ : xS2), J_X9_worked_117 k12 l1 l3 l4 l5 s1 s2 σ = some (r, τ) → xFr [(61, 99)] σ τ := by
  intro l1 l3 l4 l5 s1 s2 σ h
  obtain ⟨-, h⟩ := xgd_some h
  exact xFr_tq (xFr_yI xFr_rf rfl) (FB_X9_worked_182 hk12 l1 l3 l4 l5 (yI σ 61 s1.toNatClampNeg (xb s2)) h)
set_option maxRecDepth 100000 in
set_option maxHeartbeats 4000000 in
theorem FB_X9_worked_12 {r : Int32} {τ : xS2} : ∀ (f : Nat) (l1 : Int32) (l3 : Int32) (l4 : Int32) (l5 : Int32) (σ : xS2), J_X9_worked_12 f l1 l3 l4 l5 σ = some (r, τ) → xFr [(61, 99)] σ τ := by
  intro f
  induction f with
  | zero => intro l1 l3 l4 l5 σ h; cases h
  | succ f ih =>
    intro l1 l3 l4 l5 σ h
    rcases xite_or h with ⟨-, h⟩ | ⟨-, h⟩
    · skip
      obtain ⟨e1, e2⟩ := xso2 h
      subst e1
      subst e2
      exact xFr_rf
    · skip
      obtain ⟨-, h⟩ := xgd_some h
      rcases xite_or h with ⟨-, h⟩ | ⟨-, h⟩
      · skip
        exact xFr_tq xFr_rf (FB_X9_worked_45 ih l1 l3 l4 l5 (σ.1 55 l5.toNatClampNeg) σ h)
      · skip
        rcases xite_ro h with ⟨-, h⟩ | ⟨-, h⟩
        · skip
          rcases xite_ro h with ⟨-, h⟩ | ⟨-, h⟩
          · skip
            rcases xite_ro h with ⟨-, h⟩ | ⟨-, h⟩
            · skip
              obtain ⟨-, h⟩ := xgd_some h
              obtain ⟨-, h⟩ := xgd_some h
              obtain ⟨x15, h15, h⟩ := Option.bind_eq_some_iff.mp h
              obtain ⟨-, h⟩ := xgd_some h
              exact xFr_tq (xFr_yI xFr_rf rfl) (FB_X9_worked_182 ih l1 l3 (l4 + (-1 : Int32)) l5 (yI σ 61 ((l4 + (-1 : Int32)) - (1 : Int32)).toNatClampNeg x15) h)
            · skip
              obtain ⟨-, h⟩ := xgd_some h
              obtain ⟨-, h⟩ := xgd_some h
              exact xFr_tq (xFr_yI xFr_rf rfl) (FB_X9_worked_182 ih l1 l3 l4 l5 (yI σ 61 (l4 - (1 : Int32)).toNatClampNeg (-(σ.1 61 (l4 - (1 : Int32)).toNatClampNeg))) h)
          · skip
            obtain ⟨-, h⟩ := xgd_some h
            rcases xite_ro h with ⟨-, h⟩ | ⟨-, h⟩
            · skip
              exact xFr_tq xFr_rf (FB_X9_worked_117 ih l1 l3 l4 l5 (l4 - (1 : Int32)) false σ h)
            · skip
              exact xFr_tq xFr_rf (FB_X9_worked_117 ih l1 l3 l4 l5 (l4 - (1 : Int32)) true σ h)
        · skip
          exact xFr_tq xFr_rf (FB_X9_worked_45 ih l1 l3 l4 l5 (σ.1 55 l5.toNatClampNeg) σ h)
set_option maxRecDepth 100000 in
set_option maxHeartbeats 4000000 in
theorem F_X9_worked {a1 : Int32} {a2 : Int32} {a3 : Int32} {σ : xS2} {r : Int32} {τ : xS2} (h : J_X9_worked a1 a2 a3 σ = some (r, τ)) : xFr [(61, 99)] σ τ := by
  exact xFr_tq xFr_rf (FB_X9_worked_12 xFU a1 a3 (0 : Int32) (((130 : Int32) * a1) + a2) σ h)
set_option maxRecDepth 100000 in
set_option maxHeartbeats 4000000 in
theorem FB_X9_gives_47 {r : Int32} {τ : xS2} : ∀ (l1 : Int32) (l3 : Int32) (σ : xS2), J_X9_gives_47 l1 l3 σ = some (r, τ) → xFr [(61, 99)] σ τ := by
  intro l1 l3 σ h
  obtain ⟨-, h⟩ := xgd_some h
  obtain ⟨-, h⟩ := xgd_some h
  obtain ⟨x7, h7, h⟩ := Option.bind_eq_some_iff.mp h
  obtain ⟨e1, e2⟩ := xso2 h
  subst e1
  subst e2
  exact (xFr_tr xFr_rf (F_X9_worked h7) (by simp))
set_option maxRecDepth 100000 in
set_option maxHeartbeats 4000000 in
theorem FB_X9_gives_7 {r : Int32} {τ : xS2} : ∀ (f : Nat) (l1 : Int32) (l2 : Int32) (l3 : Int32) (σ : xS2), J_X9_gives_7 f l1 l2 l3 σ = some (r, τ) → xFr [(61, 99)] σ τ := by
  intro f
  induction f with
  | zero => intro l1 l2 l3 σ h; cases h
  | succ f ih =>
    intro l1 l2 l3 σ h
    obtain ⟨-, h⟩ := xgd_some h
    rcases xite_or h with ⟨-, h⟩ | ⟨-, h⟩
    · skip
      obtain ⟨e1, e2⟩ := xso2 h
      subst e1
      subst e2
      exact xFr_rf
    · skip
      obtain ⟨-, h⟩ := xgd_some h
      rcases xite_or h with ⟨-, h⟩ | ⟨-, h⟩
      · skip
        exact xFr_tq xFr_rf (FB_X9_gives_47 l1 l3 σ h)
      · skip
        obtain ⟨-, h⟩ := xgd_some h
        obtain ⟨x9, h9, h⟩ := Option.bind_eq_some_iff.mp h
        rcases xite_or h with ⟨-, h⟩ | ⟨-, h⟩
        · skip
          obtain ⟨-, h⟩ := xgd_some h
          exact xFr_tq (xFr_tr xFr_rf (F_X9_worked h9) (by simp)) (ih l1 (x9.2.1 59 l3.toNatClampNeg) (l3 + (1 : Int32)) x9.2 h)
        · skip
          exact xFr_tq (xFr_tr xFr_rf (F_X9_worked h9) (by simp)) (FB_X9_gives_47 l1 l3 x9.2 h)
set_option maxRecDepth 100000 in
set_option maxHeartbeats 4000000 in
theorem F_X9_gives {a1 : Int32} {σ : xS2} {r : Int32} {τ : xS2} (h : J_X9_gives a1 σ = some (r, τ)) : xFr [(61, 99)] σ τ := by
  exact xFr_tq xFr_rf (FB_X9_gives_7 xFU a1 (0 : Int32) ((61 : Int32) * a1) σ h)
set_option maxRecDepth 100000 in
set_option maxHeartbeats 4000000 in
theorem FB_X9_orderOf_103 {r : Int32} {τ : xS2} : ∀ (l1 : Int32) (s1 : Int32) (s2 : Bool) (σ : xS2), J_X9_orderOf_103 l1 s1 s2 σ = some (r, τ) → xFr [(60, 99), (61, 99)] σ τ := by
  intro l1 s1 s2 σ h
  obtain ⟨-, h⟩ := xgd_some h
  obtain ⟨-, h⟩ := xgd_some h
  obtain ⟨x14, h14, h⟩ := Option.bind_eq_some_iff.mp h
  rcases xite_or h with ⟨-, h⟩ | ⟨-, h⟩
  · skip
    obtain ⟨e1, e2⟩ := xso2 h
    subst e1
    subst e2
    exact (xFr_tr (xFr_yI (xFr_yI (xFr_yI xFr_rf rfl) rfl) rfl) (F_X9_gives h14) (by simp))
  · skip
    obtain ⟨e1, e2⟩ := xso2 h
    subst e1
    subst e2
    exact (xFr_tr (xFr_yI (xFr_yI (xFr_yI xFr_rf rfl) rfl) rfl) (F_X9_gives h14) (by simp))
set_option maxRecDepth 100000 in
set_option maxHeartbeats 4000000 in
theorem FB_X9_orderOf_29 {r : Int32} {τ : xS2} : ∀ (l1 : Int32) (s0 : Bool) (σ : xS2), J_X9_orderOf_29 l1 s0 σ = some (r, τ) → xFr [(60, 99), (61, 99)] σ τ := by
  intro l1 s0 σ h
  rcases xite_ro h with ⟨-, h⟩ | ⟨-, h⟩
  · skip
    obtain ⟨-, h⟩ := xgd_some h
    rcases xite_or h with ⟨-, h⟩ | ⟨-, h⟩
    · skip
      exact xFr_tq (xFr_yI (xFr_yI (xFr_yI (xFr_yI xFr_rf rfl) rfl) rfl) rfl) (FB_X9_orderOf_103 l1 (4 : Int32) false (yI (yI (yI (yI σ 60 0 (σ.1 43 9)) 60 1 (σ.1 43 10)) 60 2 l1) 60 3 (σ.1 44 (σ.1 43 8).toNatClampNeg)) h)
    · skip
      exact xFr_tq (xFr_yI (xFr_yI (xFr_yI (xFr_yI xFr_rf rfl) rfl) rfl) rfl) (FB_X9_orderOf_103 l1 (4 : Int32) true (yI (yI (yI (yI σ 60 0 (σ.1 43 9)) 60 1 (σ.1 43 10)) 60 2 l1) 60 3 (σ.1 44 (σ.1 43 8).toNatClampNeg)) h)
  · skip
    rcases xite_or h with ⟨-, h⟩ | ⟨-, h⟩
    · skip
      obtain ⟨e1, e2⟩ := xso2 h
      subst e1
      subst e2
      exact xFr_rf
    · skip
      obtain ⟨e1, e2⟩ := xso2 h
      subst e1
      subst e2
      exact xFr_rf
set_option maxRecDepth 100000 in
set_option maxHeartbeats 4000000 in
theorem FB_X9_orderOf_28 {r : Int32} {τ : xS2} : ∀ (l1 : Int32) (σ : xS2), J_X9_orderOf_28 l1 σ = some (r, τ) → xFr [(60, 99), (61, 99)] σ τ := by
  intro l1 σ h
  exact xFr_tq xFr_rf (FB_X9_orderOf_29 l1 false σ h)
set_option maxRecDepth 100000 in
set_option maxHeartbeats 4000000 in
theorem F_X9_orderOf {a1 : Int32} {σ : xS2} {r : Int32} {τ : xS2} (h : J_X9_orderOf a1 σ = some (r, τ)) : xFr [(60, 99), (61, 99)] σ τ := by
  obtain ⟨-, h⟩ := xgd_some h
  rcases xite_ro h with ⟨-, h⟩ | ⟨-, h⟩
  · skip
    exact xFr_tq xFr_rf (FB_X9_orderOf_28 a1 σ h)
  · skip
    rcases xite_ro h with ⟨-, h⟩ | ⟨-, h⟩
    · skip
      exact xFr_tq xFr_rf (FB_X9_orderOf_28 a1 σ h)
    · skip
      exact xFr_tq xFr_rf (FB_X9_orderOf_29 a1 true σ h)
set_option maxRecDepth 100000 in
set_option maxHeartbeats 4000000 in
theorem FB_X9_days_30 {r : Int32} {τ : xS2} : ∀ (f : Nat) (l1 : Int32) (l2 : Int32) (l3 : Int32) (σ : xS2), J_X9_days_30 f l1 l2 l3 σ = some (r, τ) → xFr [(43, 10), (43, 11), (43, 7), (43, 8), (43, 9), (48, 99), (49, 99), (60, 99), (61, 99)] σ τ := by
  intro f
  induction f with
  | zero => intro l1 l2 l3 σ h; cases h
  | succ f ih =>
    intro l1 l2 l3 σ h
    rcases xite_or h with ⟨-, h⟩ | ⟨-, h⟩
    · skip
      obtain ⟨e1, e2⟩ := xso2 h
      subst e1
      subst e2
      exact xFr_rf
    · skip
      obtain ⟨x5, h5, h⟩ := Option.bind_eq_some_iff.mp h
      obtain ⟨x6, h6, h⟩ := Option.bind_eq_some_iff.mp h
      exact xFr_tq (xFr_tr (xFr_tr xFr_rf (F_X9_orderOf h5) (by simp)) (F_X9_lead h6) (by simp)) (ih l1 (l2 + x6.1) (l3 + (1 : Int32)) x6.2 h)
set_option maxRecDepth 100000 in
set_option maxHeartbeats 4000000 in
theorem F_X9_days {a1 : Int32} {σ : xS2} {r : Int32} {τ : xS2} (h : J_X9_days a1 σ = some (r, τ)) : xFr [(43, 10), (43, 11), (43, 7), (43, 8), (43, 9), (48, 99), (49, 99), (60, 99), (61, 99)] σ τ := by
  rcases xite_ro h with ⟨-, h⟩ | ⟨-, h⟩
  · skip
    rcases xite_or h with ⟨-, h⟩ | ⟨-, h⟩
    · skip
      exact xFr_tq xFr_rf (FB_X9_days_30 xFU a1 (0 : Int32) (0 : Int32) σ h)
    · skip
      obtain ⟨e1, e2⟩ := xso2 h
      subst e1
      subst e2
      exact xFr_rf
  · skip
    obtain ⟨e1, e2⟩ := xso2 h
    subst e1
    subst e2
    exact xFr_rf
set_option maxRecDepth 100000 in
set_option maxHeartbeats 4000000 in
theorem F_X9_think {σ : xS2} {τ : xS2} (h : J_X9_think σ = some τ) : xFr [(43, 34), (43, 35), (43, 36), (43, 37)] σ τ := by
  have e1 := Option.some.inj h
  subst e1
  exact (xFr_yL (xFr_yI (xFr_yI (xFr_yI xFr_rf rfl) rfl) rfl) rfl)
set_option maxRecDepth 100000 in
set_option maxHeartbeats 4000000 in
theorem F_X9_unthink {σ : xS2} {τ : xS2} (h : J_X9_unthink σ = some τ) : xFr [(43, 10), (43, 11), (43, 8), (43, 9)] σ τ := by
  have e1 := Option.some.inj h
  subst e1
  exact (xFr_yL (xFr_yI (xFr_yI (xFr_yI xFr_rf rfl) rfl) rfl) rfl)
set_option maxRecDepth 100000 in
set_option maxHeartbeats 4000000 in
theorem FB_X9_drawn_140 {r : Int32} {τ : xS2} {k37 : Int32 → Int32 → Int32 → Int32 → Int32 → Int32 → xS2 → Option (Int32 × xS2)} (hk37 : ∀ (l2 : Int32) (l3 : Int32) (l4 : Int32) (l5 : Int32) (l6 : Int32) (l7 : Int32) (σ : xS2), k37 l2 l3 l4 l5 l6 l7 σ = some (r, τ) → xFr [(43, 10), (43, 11), (43, 34), (43, 35), (43, 36), (43, 37), (43, 8), (43, 9)] σ τ) : ∀ (l2 : Int32) (l3 : Int32) (l4 : Int32) (l5 : Int32) (l6 : Int32) (l7 : Int32) (σ : xS2), J_X9_drawn_140 k37 l2 l3 l4 l5 l6 l7 σ = some (r, τ) → xFr [(43, 10), (43, 11), (43, 34), (43, 35), (43, 36), (43, 37), (43, 8), (43, 9)] σ τ := by
  intro l2 l3 l4 l5 l6 l7 σ h
  obtain ⟨x10, h10, h⟩ := Option.bind_eq_some_iff.mp h
  exact xFr_tq (xFr_tr xFr_rf (F_X9_unthink h10) (by simp)) (hk37 l2 l3 l4 l5 (l6 + (σ.1 43 9)) (l7 + (1 : Int32)) x10 h)
set_option maxRecDepth 100000 in
set_option maxHeartbeats 4000000 in
theorem FB_X9_drawn_124 {r : Int32} {τ : xS2} {k37 : Int32 → Int32 → Int32 → Int32 → Int32 → Int32 → xS2 → Option (Int32 × xS2)} (hk37 : ∀ (l2 : Int32) (l3 : Int32) (l4 : Int32) (l5 : Int32) (l6 : Int32) (l7 : Int32) (σ : xS2), k37 l2 l3 l4 l5 l6 l7 σ = some (r, τ) → xFr [(43, 10), (43, 11), (43, 34), (43, 35), (43, 36), (43, 37), (43, 8), (43, 9)] σ τ) {k52 : Int32 → Int32 → Int32 → Int32 → Int32 → Int32 → Bool → Int32 → xS2 → Option (Int32 × xS2)} (hk52 : ∀ (l2 : Int32) (l3 : Int32) (l4 : Int32) (l5 : Int32) (l6 : Int32) (l7 : Int32) (l8 : Bool) (l9 : Int32) (σ : xS2), k52 l2 l3 l4 l5 l6 l7 l8 l9 σ = some (r, τ) → xFr [(43, 10), (43, 11), (43, 34), (43, 35), (43, 36), (43, 37), (43, 8), (43, 9)] σ τ) : ∀ (l2 : Int32) (l3 : Int32) (l4 : Int32) (l5 : Int32) (l6 : Int32) (l7 : Int32) (l9 : Int32) (s0 : Bool) (σ : xS2), J_X9_drawn_124 k37 k52 l2 l3 l4 l5 l6 l7 l9 s0 σ = some (r, τ) → xFr [(43, 10), (43, 11), (43, 34), (43, 35), (43, 36), (43, 37), (43, 8), (43, 9)] σ τ := by
  intro l2 l3 l4 l5 l6 l7 l9 s0 σ h
  exact xFr_tq xFr_rf (hk52 l2 l3 l4 l5 l6 l7 s0 (l9 + (1 : Int32)) σ h)
set_option maxRecDepth 100000 in
set_option maxHeartbeats 4000000 in
theorem FB_X9_drawn_119 {r : Int32} {τ : xS2} {k37 : Int32 → Int32 → Int32 → Int32 → Int32 → Int32 → xS2 → Option (Int32 × xS2)} (hk37 : ∀ (l2 : Int32) (l3 : Int32) (l4 : Int32) (l5 : Int32) (l6 : Int32) (l7 : Int32) (σ : xS2), k37 l2 l3 l4 l5 l6 l7 σ = some (r, τ) → xFr [(43, 10), (43, 11), (43, 34), (43, 35), (43, 36), (43, 37), (43, 8), (43, 9)] σ τ) {k52 : Int32 → Int32 → Int32 → Int32 → Int32 → Int32 → Bool → Int32 → xS2 → Option (Int32 × xS2)} (hk52 : ∀ (l2 : Int32) (l3 : Int32) (l4 : Int32) (l5 : Int32) (l6 : Int32) (l7 : Int32) (l8 : Bool) (l9 : Int32) (σ : xS2), k52 l2 l3 l4 l5 l6 l7 l8 l9 σ = some (r, τ) → xFr [(43, 10), (43, 11), (43, 34), (43, 35), (43, 36), (43, 37), (43, 8), (43, 9)] σ τ) : ∀ (l2 : Int32) (l3 : Int32) (l4 : Int32) (l5 : Int32) (l6 : Int32) (l7 : Int32) (l9 : Int32) (σ : xS2), J_X9_drawn_119 k37 k52 l2 l3 l4 l5 l6 l7 l9 σ = some (r, τ) → xFr [(43, 10), (43, 11), (43, 34), (43, 35), (43, 36), (43, 37), (43, 8), (43, 9)] σ τ := by
  intro l2 l3 l4 l5 l6 l7 l9 σ h
  exact xFr_tq xFr_rf (FB_X9_drawn_124 hk37 hk52 l2 l3 l4 l5 l6 l7 l9 true σ h)
set_option maxRecDepth 100000 in
set_option maxHeartbeats 4000000 in
theorem FB_X9_drawn_103 {r : Int32} {τ : xS2} {k37 : Int32 → Int32 → Int32 → Int32 → Int32 → Int32 → xS2 → Option (Int32 × xS2)} (hk37 : ∀ (l2 : Int32) (l3 : Int32) (l4 : Int32) (l5 : Int32) (l6 : Int32) (l7 : Int32) (σ : xS2), k37 l2 l3 l4 l5 l6 l7 σ = some (r, τ) → xFr [(43, 10), (43, 11), (43, 34), (43, 35), (43, 36), (43, 37), (43, 8), (43, 9)] σ τ) {k52 : Int32 → Int32 → Int32 → Int32 → Int32 → Int32 → Bool → Int32 → xS2 → Option (Int32 × xS2)} (hk52 : ∀ (l2 : Int32) (l3 : Int32) (l4 : Int32) (l5 : Int32) (l6 : Int32) (l7 : Int32) (l8 : Bool) (l9 : Int32) (σ : xS2), k52 l2 l3 l4 l5 l6 l7 l8 l9 σ = some (r, τ) → xFr [(43, 10), (43, 11), (43, 34), (43, 35), (43, 36), (43, 37), (43, 8), (43, 9)] σ τ) : ∀ (l2 : Int32) (l3 : Int32) (l4 : Int32) (l5 : Int32) (l6 : Int32) (l7 : Int32) (l8 : Bool) (l9 : Int32) (s1 : Bool) (s2 : Int32) (s3 : Int32) (s4 : Int32) (σ : xS2), J_X9_drawn_103 k37 k52 l2 l3 l4 l5 l6 l7 l8 l9 s1 s2 s3 s4 σ = some (r, τ) → xFr [(43, 10), (43, 11), (43, 34), (43, 35), (43, 36), (43, 37), (43, 8), (43, 9)] σ τ := by
  intro l2 l3 l4 l5 l6 l7 l8 l9 s1 s2 s3 s4 σ h
  obtain ⟨x13, h13, h⟩ := Option.bind_eq_some_iff.mp h
  rcases xite_ro h with ⟨-, h⟩ | ⟨-, h⟩
  · skip
    exact xFr_tq (xFr_tr xFr_rf (F_X9_goDay h13) (by simp)) (FB_X9_drawn_119 hk37 hk52 l2 l3 l4 l5 l6 l7 l9 x13.2 h)
  · skip
    rcases xite_ro h with ⟨-, h⟩ | ⟨-, h⟩
    · skip
      exact xFr_tq (xFr_tr xFr_rf (F_X9_goDay h13) (by simp)) (FB_X9_drawn_124 hk37 hk52 l2 l3 l4 l5 l6 l7 l9 false x13.2 h)
    · skip
      exact xFr_tq (xFr_tr xFr_rf (F_X9_goDay h13) (by simp)) (FB_X9_drawn_119 hk37 hk52 l2 l3 l4 l5 l6 l7 l9 x13.2 h)
set_option maxRecDepth 100000 in
set_option maxHeartbeats 4000000 in
theorem FB_X9_drawn_52 {r : Int32} {τ : xS2} {k37 : Int32 → Int32 → Int32 → Int32 → Int32 → Int32 → xS2 → Option (Int32 × xS2)} (hk37 : ∀ (l2 : Int32) (l3 : Int32) (l4 : Int32) (l5 : Int32) (l6 : Int32) (l7 : Int32) (σ : xS2), k37 l2 l3 l4 l5 l6 l7 σ = some (r, τ) → xFr [(43, 10), (43, 11), (43, 34), (43, 35), (43, 36), (43, 37), (43, 8), (43, 9)] σ τ) : ∀ (f : Nat) (l2 : Int32) (l3 : Int32) (l4 : Int32) (l5 : Int32) (l6 : Int32) (l7 : Int32) (l8 : Bool) (l9 : Int32) (σ : xS2), J_X9_drawn_52 k37 f l2 l3 l4 l5 l6 l7 l8 l9 σ = some (r, τ) → xFr [(43, 10), (43, 11), (43, 34), (43, 35), (43, 36), (43, 37), (43, 8), (43, 9)] σ τ := by
  intro f
  induction f with
  | zero => intro l2 l3 l4 l5 l6 l7 l8 l9 σ h; cases h
  | succ f ih =>
    intro l2 l3 l4 l5 l6 l7 l8 l9 σ h
    rcases xite_or h with ⟨-, h⟩ | ⟨-, h⟩
    · skip
      rcases xite_or h with ⟨-, h⟩ | ⟨-, h⟩
      · skip
        exact xFr_tq xFr_rf (FB_X9_drawn_140 hk37 l2 l3 l4 l5 l6 l7 σ h)
      · skip
        exact xFr_tq xFr_rf (FB_X9_drawn_140 hk37 l2 l3 l4 (l5 + (1 : Int32)) l6 l7 σ h)
    · skip
      obtain ⟨-, h⟩ := xgd_some h
      rcases xite_or h with ⟨-, h⟩ | ⟨-, h⟩
      · skip
        exact xFr_tq xFr_rf (FB_X9_drawn_103 hk37 ih l2 l3 ((l4 * (1103515245 : Int32)) + (12345 : Int32)) l5 l6 l7 l8 l9 false l9 (σ.1 46 l9.toNatClampNeg) (0 : Int32) σ h)
      · skip
        exact xFr_tq xFr_rf (FB_X9_drawn_103 hk37 ih l2 l3 ((l4 * (1103515245 : Int32)) + (12345 : Int32)) l5 l6 l7 l8 l9 false l9 (σ.1 46 l9.toNatClampNeg) (9 : Int32) σ h)
set_option maxRecDepth 100000 in
set_option maxHeartbeats 4000000 in
theorem FB_X9_drawn_37 {r : Int32} {τ : xS2} : ∀ (f : Nat) (l2 : Int32) (l3 : Int32) (l4 : Int32) (l5 : Int32) (l6 : Int32) (l7 : Int32) (σ : xS2), J_X9_drawn_37 f l2 l3 l4 l5 l6 l7 σ = some (r, τ) → xFr [(43, 10), (43, 11), (43, 34), (43, 35), (43, 36), (43, 37), (43, 8), (43, 9)] σ τ := by
  intro f
  induction f with
  | zero => intro l2 l3 l4 l5 l6 l7 σ h; cases h
  | succ f ih =>
    intro l2 l3 l4 l5 l6 l7 σ h
    rcases xite_or h with ⟨-, h⟩ | ⟨-, h⟩
    · skip
      rcases xite_ro h with ⟨-, h⟩ | ⟨-, h⟩
      · skip
        obtain ⟨e1, e2⟩ := xso2 h
        subst e1
        subst e2
        exact xFr_rf
      · skip
        obtain ⟨e1, e2⟩ := xso2 h
        subst e1
        subst e2
        exact xFr_rf
    · skip
      exact xFr_tq xFr_rf (FB_X9_drawn_52 ih xFU l2 l3 l4 l5 l6 l7 false (σ.1 43 7) σ h)
set_option maxRecDepth 100000 in
set_option maxHeartbeats 4000000 in
theorem F_X9_drawn {a1 : Int32} {a2 : Int32} {a3 : Int32} {σ : xS2} {r : Int32} {τ : xS2} (h : J_X9_drawn a1 a2 a3 σ = some (r, τ)) : xFr [(43, 10), (43, 11), (43, 34), (43, 35), (43, 36), (43, 37), (43, 8), (43, 9)] σ τ := by
  rcases xite_or h with ⟨-, h⟩ | ⟨-, h⟩
  · skip
    obtain ⟨e1, e2⟩ := xso2 h
    subst e1
    subst e2
    exact xFr_rf
  · skip
    rcases xite_ro h with ⟨-, h⟩ | ⟨-, h⟩
    · skip
      obtain ⟨x5, h5, h⟩ := Option.bind_eq_some_iff.mp h
      exact xFr_tq (xFr_tr xFr_rf (F_X9_think h5) (by simp)) (FB_X9_drawn_37 xFU a2 a3 a1 (0 : Int32) (0 : Int32) (0 : Int32) x5 h)
    · skip
      obtain ⟨e1, e2⟩ := xso2 h
      subst e1
      subst e2
      exact xFr_rf
set_option maxRecDepth 100000 in
set_option maxHeartbeats 4000000 in
theorem F_X9_feed {a1 : Int32} {σ : xS2} {r : Int32} {τ : xS2} (h : J_X9_feed a1 σ = some (r, τ)) : xFr [(43, 21), (54, 99)] σ τ := by
  rcases xite_ro h with ⟨-, h⟩ | ⟨-, h⟩
  · skip
    rcases xite_ro h with ⟨-, h⟩ | ⟨-, h⟩
    · skip
      obtain ⟨-, h⟩ := xgd_some h
      obtain ⟨e1, e2⟩ := xso2 h
      subst e1
      subst e2
      exact (xFr_yI (xFr_yI xFr_rf rfl) rfl)
    · skip
      obtain ⟨e1, e2⟩ := xso2 h
      subst e1
      subst e2
      exact xFr_rf
  · skip
    obtain ⟨e1, e2⟩ := xso2 h
    subst e1
    subst e2
    exact xFr_rf
set_option maxRecDepth 100000 in
set_option maxHeartbeats 4000000 in
theorem FB_X9_first_84 {r : Int32} {τ : xS2} : ∀ (l2 : Int32) (σ : xS2), J_X9_first_84 l2 σ = some (r, τ) → xFr [(43, 10), (43, 11), (43, 34), (43, 35), (43, 36), (43, 37), (43, 8), (43, 9)] σ τ := by
  intro l2 σ h
  obtain ⟨x8, h8, h⟩ := Option.bind_eq_some_iff.mp h
  obtain ⟨e1, e2⟩ := xso2 h
  subst e1
  subst e2
  exact (xFr_tr xFr_rf (F_X9_unthink h8) (by simp))
set_option maxRecDepth 100000 in
set_option maxHeartbeats 4000000 in
theorem FB_X9_first_78 {r : Int32} {τ : xS2} {k32 : Int32 → Int32 → Int32 → xS2 → Option (Int32 × xS2)} (hk32 : ∀ (l1 : Int32) (l2 : Int32) (l3 : Int32) (σ : xS2), k32 l1 l2 l3 σ = some (r, τ) → xFr [(43, 10), (43, 11), (43, 34), (43, 35), (43, 36), (43, 37), (43, 8), (43, 9)] σ τ) : ∀ (l1 : Int32) (l2 : Int32) (l3 : Int32) (σ : xS2), J_X9_first_78 k32 l1 l2 l3 σ = some (r, τ) → xFr [(43, 10), (43, 11), (43, 34), (43, 35), (43, 36), (43, 37), (43, 8), (43, 9)] σ τ := by
  intro l1 l2 l3 σ h
  exact xFr_tq xFr_rf (hk32 l1 l2 (l3 + (1 : Int32)) σ h)
set_option maxRecDepth 100000 in
set_option maxHeartbeats 4000000 in
theorem FB_X9_first_32 {r : Int32} {τ : xS2} : ∀ (f : Nat) (l1 : Int32) (l2 : Int32) (l3 : Int32) (σ : xS2), J_X9_first_32 f l1 l2 l3 σ = some (r, τ) → xFr [(43, 10), (43, 11), (43, 34), (43, 35), (43, 36), (43, 37), (43, 8), (43, 9)] σ τ := by
  intro f
  induction f with
  | zero => intro l1 l2 l3 σ h; cases h
  | succ f ih =>
    intro l1 l2 l3 σ h
    obtain ⟨-, h⟩ := xgd_some h
    rcases xite_or h with ⟨-, h⟩ | ⟨-, h⟩
    · skip
      exact xFr_tq xFr_rf (FB_X9_first_84 l2 σ h)
    · skip
      rcases xite_or h with ⟨-, h⟩ | ⟨-, h⟩
      · skip
        exact xFr_tq xFr_rf (FB_X9_first_84 l2 σ h)
      · skip
        rcases xite_or h with ⟨-, h⟩ | ⟨-, h⟩
        · skip
          exact xFr_tq xFr_rf (FB_X9_first_84 l2 σ h)
        · skip
          obtain ⟨x11, h11, h⟩ := Option.bind_eq_some_iff.mp h
          obtain ⟨x12, h12, h⟩ := Option.bind_eq_some_iff.mp h
          rcases xite_ro h with ⟨-, h⟩ | ⟨-, h⟩
          · skip
            exact xFr_tq (xFr_tr xFr_rf (F_X9_goOwn h12) (by simp)) (FB_X9_first_78 ih l1 l2 l3 x12.2 h)
          · skip
            exact xFr_tq (xFr_tr xFr_rf (F_X9_goOwn h12) (by simp)) (FB_X9_first_78 ih l1 l3 l3 x12.2 h)
set_option maxRecDepth 100000 in
set_option maxHeartbeats 4000000 in
theorem F_X9_first {a1 : Int32} {σ : xS2} {r : Int32} {τ : xS2} (h : J_X9_first a1 σ = some (r, τ)) : xFr [(43, 10), (43, 11), (43, 34), (43, 35), (43, 36), (43, 37), (43, 8), (43, 9)] σ τ := by
  rcases xite_ro h with ⟨-, h⟩ | ⟨-, h⟩
  · skip
    obtain ⟨x3, h3, h⟩ := Option.bind_eq_some_iff.mp h
    rcases xite_or h with ⟨-, h⟩ | ⟨-, h⟩
    · skip
      obtain ⟨x5, h5, h⟩ := Option.bind_eq_some_iff.mp h
      exact xFr_tq (xFr_tr xFr_rf (F_X9_think h5) (by simp)) (FB_X9_first_32 xFU a1 (-2 : Int32) (0 : Int32) x5 h)
    · skip
      obtain ⟨x14, h14, h⟩ := Option.bind_eq_some_iff.mp h
      obtain ⟨e1, e2⟩ := xso2 h
      subst e1
      subst e2
      exact xFr_rf
  · skip
    obtain ⟨e1, e2⟩ := xso2 h
    subst e1
    subst e2
    exact xFr_rf
set_option maxRecDepth 100000 in
set_option maxHeartbeats 4000000 in
theorem FB_X9_goOn_141 {τ : xS2} : ∀ (f : Nat) (l2 : Int32) (σ : xS2), J_X9_goOn_141 f l2 σ = some τ → xFr [(63, 99), (64, 99)] σ τ := by
  intro f
  induction f with
  | zero => intro l2 σ h; cases h
  | succ f ih =>
    intro l2 σ h
    rcases xite_or h with ⟨-, h⟩ | ⟨-, h⟩
    · skip
      have e1 := Option.some.inj h
      subst e1
      exact xFr_rf
    · skip
      obtain ⟨-, h⟩ := xgd_some h
      obtain ⟨-, h⟩ := xgd_some h
      exact xFr_tq (xFr_yI xFr_rf rfl) (ih (l2 + (1 : Int32)) (yI σ 63 l2.toNatClampNeg (σ.1 64 l2.toNatClampNeg)) h)
set_option maxRecDepth 100000 in
set_option maxHeartbeats 4000000 in
theorem FB_X9_goOn_133 {τ : xS2} {k24 : Int32 → Int32 → xS2 → Option xS2} (hk24 : ∀ (l1 : Int32) (l2 : Int32) (σ : xS2), k24 l1 l2 σ = some τ → xFr [(63, 99), (64, 99)] σ τ) : ∀ (l1 : Int32) (l2 : Int32) (σ : xS2), J_X9_goOn_133 k24 l1 l2 σ = some τ → xFr [(63, 99), (64, 99)] σ τ := by
  intro l1 l2 σ h
  exact xFr_tq xFr_rf (hk24 l1 (l2 + (1 : Int32)) σ h)
set_option maxRecDepth 100000 in
set_option maxHeartbeats 4000000 in
theorem FB_X9_goOn_127 {τ : xS2} {k24 : Int32 → Int32 → xS2 → Option xS2} (hk24 : ∀ (l1 : Int32) (l2 : Int32) (σ : xS2), k24 l1 l2 σ = some τ → xFr [(63, 99), (64, 99)] σ τ) {k67 : Int32 → Int32 → Int32 → Int32 → xS2 → Option xS2} (hk67 : ∀ (l1 : Int32) (l2 : Int32) (l3 : Int32) (l4 : Int32) (σ : xS2), k67 l1 l2 l3 l4 σ = some τ → xFr [(63, 99), (64, 99)] σ τ) : ∀ (l1 : Int32) (l2 : Int32) (l3 : Int32) (l4 : Int32) (σ : xS2), J_X9_goOn_127 k24 k67 l1 l2 l3 l4 σ = some τ → xFr [(63, 99), (64, 99)] σ τ := by
  intro l1 l2 l3 l4 σ h
  exact xFr_tq xFr_rf (hk67 l1 l2 l3 (l4 + (1 : Int32)) σ h)
set_option maxRecDepth 100000 in
set_option maxHeartbeats 4000000 in
theorem FB_X9_goOn_67 {τ : xS2} {k24 : Int32 → Int32 → xS2 → Option xS2} (hk24 : ∀ (l1 : Int32) (l2 : Int32) (σ : xS2), k24 l1 l2 σ = some τ → xFr [(63, 99), (64, 99)] σ τ) : ∀ (f : Nat) (l1 : Int32) (l2 : Int32) (l3 : Int32) (l4 : Int32) (σ : xS2), J_X9_goOn_67 k24 f l1 l2 l3 l4 σ = some τ → xFr [(63, 99), (64, 99)] σ τ := by
  intro f
  induction f with
  | zero => intro l1 l2 l3 l4 σ h; cases h
  | succ f ih =>
    intro l1 l2 l3 l4 σ h
    rcases xite_or h with ⟨-, h⟩ | ⟨-, h⟩
    · skip
      exact xFr_tq xFr_rf (FB_X9_goOn_133 hk24 l1 l2 σ h)
    · skip
      rcases xite_or h with ⟨-, h⟩ | ⟨-, h⟩
      · skip
        exact xFr_tq xFr_rf (FB_X9_goOn_127 hk24 ih l1 l2 l3 l4 σ h)
      · skip
        obtain ⟨-, h⟩ := xgd_some h
        obtain ⟨x14, h14, h⟩ := Option.bind_eq_some_iff.mp h
        rcases xite_or h with ⟨-, h⟩ | ⟨-, h⟩
        · skip
          exact xFr_tq xFr_rf (FB_X9_goOn_127 hk24 ih l1 l2 l3 l4 σ h)
        · skip
          obtain ⟨-, h⟩ := xgd_some h
          obtain ⟨x18, h18, h⟩ := Option.bind_eq_some_iff.mp h
          obtain ⟨x19, h19, h⟩ := Option.bind_eq_some_iff.mp h
          exact xFr_tq (xFr_tr xFr_rf (F_X9_come h19) (by simp)) (FB_X9_goOn_127 hk24 ih l1 l2 l3 l4 x19 h)
set_option maxRecDepth 100000 in
set_option maxHeartbeats 4000000 in
theorem FB_X9_goOn_24 {τ : xS2} : ∀ (f : Nat) (l1 : Int32) (l2 : Int32) (σ : xS2), J_X9_goOn_24 f l1 l2 σ = some τ → xFr [(63, 99), (64, 99)] σ τ := by
  intro f
  induction f with
  | zero => intro l1 l2 σ h; cases h
  | succ f ih =>
    intro l1 l2 σ h
    rcases xite_or h with ⟨-, h⟩ | ⟨-, h⟩
    · skip
      exact xFr_tq xFr_rf (FB_X9_goOn_141 xFU (0 : Int32) σ h)
    · skip
      obtain ⟨-, h⟩ := xgd_some h
      rcases xite_or h with ⟨-, h⟩ | ⟨-, h⟩
      · skip
        obtain ⟨-, h⟩ := xgd_some h
        obtain ⟨x9, h9, h⟩ := Option.bind_eq_some_iff.mp h
        exact xFr_tq (xFr_tr xFr_rf (F_X9_come h9) (by simp)) (FB_X9_goOn_67 ih xFU l1 l2 (l2 / (10 : Int32)) (1 : Int32) x9 h)
      · skip
        exact xFr_tq xFr_rf (FB_X9_goOn_133 ih l1 l2 σ h)
set_option maxRecDepth 100000 in
set_option maxHeartbeats 4000000 in
theorem FB_X9_goOn_2 {τ : xS2} : ∀ (f : Nat) (l1 : Int32) (l2 : Int32) (σ : xS2), J_X9_goOn_2 f l1 l2 σ = some τ → xFr [(63, 99), (64, 99)] σ τ := by
  intro f
  induction f with
  | zero => intro l1 l2 σ h; cases h
  | succ f ih =>
    intro l1 l2 σ h
    rcases xite_or h with ⟨-, h⟩ | ⟨-, h⟩
    · skip
      exact xFr_tq xFr_rf (FB_X9_goOn_24 xFU l1 (0 : Int32) σ h)
    · skip
      obtain ⟨-, h⟩ := xgd_some h
      exact xFr_tq (xFr_yI xFr_rf rfl) (ih l1 (l2 + (1 : Int32)) (yI σ 64 l2.toNatClampNeg (-1 : Int32)) h)
set_option maxRecDepth 100000 in
set_option maxHeartbeats 4000000 in
theorem F_X9_goOn {a1 : Int32} {σ : xS2} {τ : xS2} (h : J_X9_goOn a1 σ = some τ) : xFr [(63, 99), (64, 99)] σ τ := by
  exact xFr_tq xFr_rf (FB_X9_goOn_2 xFU a1 (0 : Int32) σ h)
set_option maxRecDepth 100000 in
set_option maxHeartbeats 4000000 in
theorem FB_X9_goRound_131 {τ : xS2} {p_X9_goRound : (Int32 → Int32 → Int32 → Int32 → Int32 → xS2 → Option xS2)} (fp_X9_goRound : ∀ (a1 : Int32) (a2 : Int32) (a3 : Int32) (a4 : Int32) (a5 : Int32) (σ : xS2) (τ : xS2), p_X9_goRound a1 a2 a3 a4 a5 σ = some τ → xFr [(43, 44), (43, 45)] σ τ) {k64 : Int32 → Int32 → Int32 → Int32 → Int32 → Int32 → xS2 → Option xS2} (hk64 : ∀ (l1 : Int32) (l2 : Int32) (l3 : Int32) (l4 : Int32) (l5 : Int32) (l6 : Int32) (σ : xS2), k64 l1 l2 l3 l4 l5 l6 σ = some τ → xFr [(43, 44), (43, 45)] σ τ) : ∀ (l1 : Int32) (l2 : Int32) (l3 : Int32) (l4 : Int32) (l5 : Int32) (l6 : Int32) (σ : xS2), J_X9_goRound_131 p_X9_goRound k64 l1 l2 l3 l4 l5 l6 σ = some τ → xFr [(43, 44), (43, 45)] σ τ := by
  intro l1 l2 l3 l4 l5 l6 σ h
  exact xFr_tq xFr_rf (hk64 l1 l2 l3 l4 l5 (l6 + (1 : Int32)) σ h)
set_option maxRecDepth 100000 in
set_option maxHeartbeats 4000000 in
theorem FB_X9_goRound_128 {τ : xS2} {p_X9_goRound : (Int32 → Int32 → Int32 → Int32 → Int32 → xS2 → Option xS2)} (fp_X9_goRound : ∀ (a1 : Int32) (a2 : Int32) (a3 : Int32) (a4 : Int32) (a5 : Int32) (σ : xS2) (τ : xS2), p_X9_goRound a1 a2 a3 a4 a5 σ = some τ → xFr [(43, 44), (43, 45)] σ τ) {k64 : Int32 → Int32 → Int32 → Int32 → Int32 → Int32 → xS2 → Option xS2} (hk64 : ∀ (l1 : Int32) (l2 : Int32) (l3 : Int32) (l4 : Int32) (l5 : Int32) (l6 : Int32) (σ : xS2), k64 l1 l2 l3 l4 l5 l6 σ = some τ → xFr [(43, 44), (43, 45)] σ τ) : ∀ (l1 : Int32) (l2 : Int32) (l3 : Int32) (l4 : Int32) (l5 : Int32) (l6 : Int32) (s1 : Int32) (s2 : Int32) (s3 : Int32) (s4 : Int32) (s5 : Int32) (σ : xS2), J_X9_goRound_128 p_X9_goRound k64 l1 l2 l3 l4 l5 l6 s1 s2 s3 s4 s5 σ = some τ → xFr [(43, 44), (43, 45)] σ τ := by
  intro l1 l2 l3 l4 l5 l6 s1 s2 s3 s4 s5 σ h
  obtain ⟨x7, h7, h⟩ := Option.bind_eq_some_iff.mp h
  exact xFr_tq (xFr_tr xFr_rf (fp_X9_goRound _ _ _ _ _ _ _ h7) (by simp)) (FB_X9_goRound_131 fp_X9_goRound hk64 l1 l2 l3 l4 l5 l6 x7 h)
set_option maxRecDepth 100000 in
set_option maxHeartbeats 4000000 in
theorem FB_X9_goRound_105 {τ : xS2} {p_X9_goRound : (Int32 → Int32 → Int32 → Int32 → Int32 → xS2 → Option xS2)} (fp_X9_goRound : ∀ (a1 : Int32) (a2 : Int32) (a3 : Int32) (a4 : Int32) (a5 : Int32) (σ : xS2) (τ : xS2), p_X9_goRound a1 a2 a3 a4 a5 σ = some τ → xFr [(43, 44), (43, 45)] σ τ) {k64 : Int32 → Int32 → Int32 → Int32 → Int32 → Int32 → xS2 → Option xS2} (hk64 : ∀ (l1 : Int32) (l2 : Int32) (l3 : Int32) (l4 : Int32) (l5 : Int32) (l6 : Int32) (σ : xS2), k64 l1 l2 l3 l4 l5 l6 σ = some τ → xFr [(43, 44), (43, 45)] σ τ) : ∀ (l1 : Int32) (l2 : Int32) (l3 : Int32) (l4 : Int32) (l5 : Int32) (l6 : Int32) (s1 : Int32) (s2 : Int32) (s3 : Int32) (s4 : Int32) (s6 : Int32) (s7 : Int32) (σ : xS2), J_X9_goRound_105 p_X9_goRound k64 l1 l2 l3 l4 l5 l6 s1 s2 s3 s4 s6 s7 σ = some τ → xFr [(43, 44), (43, 45)] σ τ := by
  intro l1 l2 l3 l4 l5 l6 s1 s2 s3 s4 s6 s7 σ h
  obtain ⟨-, h⟩ := xgd_some h
  rcases xite_or h with ⟨-, h⟩ | ⟨-, h⟩
  · skip
    exact xFr_tq xFr_rf (FB_X9_goRound_128 fp_X9_goRound hk64 l1 l2 l3 l4 l5 l6 s1 s2 s3 (s4 + (σ.1 66 ((s6 * s7) + l6).toNatClampNeg)) l5 σ h)
  · skip
    obtain ⟨-, h⟩ := xgd_some h
    exact xFr_tq xFr_rf (FB_X9_goRound_128 fp_X9_goRound hk64 l1 l2 l3 l4 l5 l6 s1 s2 s3 (s4 + (σ.1 66 ((s6 * s7) + l6).toNatClampNeg)) (σ.1 65 l6.toNatClampNeg) σ h)
set_option maxRecDepth 100000 in
set_option maxHeartbeats 4000000 in
theorem FB_X9_goRound_64 {τ : xS2} {p_X9_goRound : (Int32 → Int32 → Int32 → Int32 → Int32 → xS2 → Option xS2)} (fp_X9_goRound : ∀ (a1 : Int32) (a2 : Int32) (a3 : Int32) (a4 : Int32) (a5 : Int32) (σ : xS2) (τ : xS2), p_X9_goRound a1 a2 a3 a4 a5 σ = some τ → xFr [(43, 44), (43, 45)] σ τ) : ∀ (f : Nat) (l1 : Int32) (l2 : Int32) (l3 : Int32) (l4 : Int32) (l5 : Int32) (l6 : Int32) (σ : xS2), J_X9_goRound_64 p_X9_goRound f l1 l2 l3 l4 l5 l6 σ = some τ → xFr [(43, 44), (43, 45)] σ τ := by
  intro f
  induction f with
  | zero => intro l1 l2 l3 l4 l5 l6 σ h; cases h
  | succ f ih =>
    intro l1 l2 l3 l4 l5 l6 σ h
    rcases xite_or h with ⟨-, h⟩ | ⟨-, h⟩
    · skip
      have e1 := Option.some.inj h
      subst e1
      exact xFr_rf
    · skip
      rcases xite_ro h with ⟨-, h⟩ | ⟨-, h⟩
      · skip
        exact xFr_tq xFr_rf (FB_X9_goRound_131 fp_X9_goRound ih l1 l2 l3 l4 l5 l6 σ h)
      · skip
        rcases xite_or h with ⟨-, h⟩ | ⟨-, h⟩
        · skip
          exact xFr_tq xFr_rf (FB_X9_goRound_105 fp_X9_goRound ih l1 l2 l3 l4 l5 l6 l1 (l2 ||| ((1 : Int32) <<< (l6 &&& 31))) l6 l4 (5 : Int32) l3 σ h)
        · skip
          exact xFr_tq xFr_rf (FB_X9_goRound_105 fp_X9_goRound ih l1 l2 l3 l4 l5 l6 l1 (l2 ||| ((1 : Int32) <<< (l6 &&& 31))) l6 l4 (5 : Int32) (5 : Int32) σ h)
set_option maxRecDepth 100000 in
set_option maxHeartbeats 4000000 in
theorem FB_X9_goRound_48 {τ : xS2} {p_X9_goRound : (Int32 → Int32 → Int32 → Int32 → Int32 → xS2 → Option xS2)} (fp_X9_goRound : ∀ (a1 : Int32) (a2 : Int32) (a3 : Int32) (a4 : Int32) (a5 : Int32) (σ : xS2) (τ : xS2), p_X9_goRound a1 a2 a3 a4 a5 σ = some τ → xFr [(43, 44), (43, 45)] σ τ) : ∀ (l5 : Int32) (l6 : Int32) (σ : xS2), J_X9_goRound_48 p_X9_goRound l5 l6 σ = some τ → xFr [(43, 44), (43, 45)] σ τ := by
  intro l5 l6 σ h
  have e1 := Option.some.inj h
  subst e1
  exact (xFr_yI (xFr_yI xFr_rf rfl) rfl)
set_option maxRecDepth 100000 in
set_option maxHeartbeats 4000000 in
theorem FD_X9_goRound {p_X9_goRound : (Int32 → Int32 → Int32 → Int32 → Int32 → xS2 → Option xS2)} (fp_X9_goRound : ∀ (a1 : Int32) (a2 : Int32) (a3 : Int32) (a4 : Int32) (a5 : Int32) (σ : xS2) (τ : xS2), p_X9_goRound a1 a2 a3 a4 a5 σ = some τ → xFr [(43, 44), (43, 45)] σ τ) {a1 : Int32} {a2 : Int32} {a3 : Int32} {a4 : Int32} {a5 : Int32} {σ : xS2} {τ : xS2} (h : J_X9_goRound_b p_X9_goRound a1 a2 a3 a4 a5 σ = some τ) : xFr [(43, 44), (43, 45)] σ τ := by
  rcases xite_ro h with ⟨-, h⟩ | ⟨-, h⟩
  · skip
    exact xFr_tq xFr_rf (FB_X9_goRound_64 fp_X9_goRound xFU a1 a2 a3 a4 a5 (0 : Int32) σ h)
  · skip
    obtain ⟨-, h⟩ := xgd_some h
    rcases xite_or h with ⟨-, h⟩ | ⟨-, h⟩
    · skip
      have e1 := Option.some.inj h
      subst e1
      exact xFr_rf
    · skip
      rcases xite_ro h with ⟨-, h⟩ | ⟨-, h⟩
      · skip
        exact xFr_tq xFr_rf (FB_X9_goRound_48 fp_X9_goRound a5 (a4 + (σ.1 67 a3.toNatClampNeg)) σ h)
      · skip
        rcases xite_or h with ⟨-, h⟩ | ⟨-, h⟩
        · skip
          exact xFr_tq xFr_rf (FB_X9_goRound_48 fp_X9_goRound a5 (a4 + (σ.1 67 a3.toNatClampNeg)) σ h)
        · skip
          have e1 := Option.some.inj h
          subst e1
          exact xFr_rf
set_option maxRecDepth 100000 in
set_option maxHeartbeats 4000000 in
theorem FG_X9_goRound : ∀ n : Nat, (∀ (a1 : Int32) (a2 : Int32) (a3 : Int32) (a4 : Int32) (a5 : Int32) (σ : xS2) (τ : xS2), (G_X9_goRound n) a1 a2 a3 a4 a5 σ = some τ → xFr [(43, 44), (43, 45)] σ τ) := by
  intro n
  induction n with
  | zero => exact fun _ _ _ _ _ _ _ h => (by cases h)
  | succ n ih =>
    have i_X9_goRound := ih
    exact fun _ _ _ _ _ _ _ h => FD_X9_goRound i_X9_goRound h
theorem F_X9_goRound {a1 : Int32} {a2 : Int32} {a3 : Int32} {a4 : Int32} {a5 : Int32} {σ : xS2} {τ : xS2} (h : J_X9_goRound a1 a2 a3 a4 a5 σ = some τ) : xFr [(43, 44), (43, 45)] σ τ := (FG_X9_goRound 100) _ _ _ _ _ _ _ h
set_option maxRecDepth 100000 in
set_option maxHeartbeats 4000000 in
theorem FB_X9_heights_75 {r : Int32} {τ : xS2} : ∀ (f : Nat) (l1 : Int32) (l2 : Int32) (l3 : Int32) (l4 : Int32) (σ : xS2), J_X9_heights_75 f l1 l2 l3 l4 σ = some (r, τ) → xFr [(44, 99)] σ τ := by
  intro f
  induction f with
  | zero => intro l1 l2 l3 l4 σ h; cases h
  | succ f ih =>
    intro l1 l2 l3 l4 σ h
    rcases xite_or h with ⟨-, h⟩ | ⟨-, h⟩
    · skip
      obtain ⟨e1, e2⟩ := xso2 h
      subst e1
      subst e2
      exact xFr_rf
    · skip
      rcases xite_or h with ⟨-, h⟩ | ⟨-, h⟩
      · skip
        obtain ⟨e1, e2⟩ := xso2 h
        subst e1
        subst e2
        exact xFr_rf
      · skip
        obtain ⟨-, h⟩ := xgd_some h
        rcases xite_or h with ⟨-, h⟩ | ⟨-, h⟩
        · skip
          obtain ⟨e1, e2⟩ := xso2 h
          subst e1
          subst e2
          exact xFr_rf
        · skip
          rcases xite_ro h with ⟨-, h⟩ | ⟨-, h⟩
          · skip
            obtain ⟨-, h⟩ := xgd_some h
            rcases xite_ro h with ⟨-, h⟩ | ⟨-, h⟩
            · skip
              obtain ⟨-, h⟩ := xgd_some h
              exact xFr_tq (xFr_yI xFr_rf rfl) (ih l1 l2 l3 (l4 + (1 : Int32)) (yI σ 44 ((l3 / (100 : Int32)) + l4).toNatClampNeg ((σ.2 72 (((60 : Int32) * l1) + (((l2.toInt64) + (l4.toInt64)).toInt32)).toNatClampNeg).toInt32)) h)
            · skip
              obtain ⟨e1, e2⟩ := xso2 h
              subst e1
              subst e2
              exact xFr_rf
          · skip
            obtain ⟨e1, e2⟩ := xso2 h
            subst e1
            subst e2
            exact xFr_rf
set_option maxRecDepth 100000 in
set_option maxHeartbeats 4000000 in
theorem FB_X9_heights_60 {r : Int32} {τ : xS2} : ∀ (l1 : Int32) (l2 : Int32) (l3 : Int32) (σ : xS2), J_X9_heights_60 l1 l2 l3 σ = some (r, τ) → xFr [(44, 99)] σ τ := by
  intro l1 l2 l3 σ h
  obtain ⟨-, h⟩ := xgd_some h
  rcases xite_ro h with ⟨-, h⟩ | ⟨-, h⟩
  · skip
    exact xFr_tq xFr_rf (FB_X9_heights_75 xFU l1 l2 l3 (0 : Int32) σ h)
  · skip
    obtain ⟨e1, e2⟩ := xso2 h
    subst e1
    subst e2
    exact xFr_rf
set_option maxRecDepth 100000 in
set_option maxHeartbeats 4000000 in
theorem F_X9_heights {a1 : Int32} {a2 : Int32} {a3 : Int32} {σ : xS2} {r : Int32} {τ : xS2} (h : J_X9_heights a1 a2 a3 σ = some (r, τ)) : xFr [(44, 99)] σ τ := by
  rcases xite_or h with ⟨-, h⟩ | ⟨-, h⟩
  · skip
    obtain ⟨e1, e2⟩ := xso2 h
    subst e1
    subst e2
    exact xFr_rf
  · skip
    rcases xite_or h with ⟨-, h⟩ | ⟨-, h⟩
    · skip
      obtain ⟨e1, e2⟩ := xso2 h
      subst e1
      subst e2
      exact xFr_rf
    · skip
      rcases xite_or h with ⟨-, h⟩ | ⟨-, h⟩
      · skip
        obtain ⟨e1, e2⟩ := xso2 h
        subst e1
        subst e2
        exact xFr_rf
      · skip
        rcases xite_ro h with ⟨-, h⟩ | ⟨-, h⟩
        · skip
          obtain ⟨-, h⟩ := xgd_some h
          rcases xite_or h with ⟨-, h⟩ | ⟨-, h⟩
          · skip
            exact xFr_tq xFr_rf (FB_X9_heights_60 a1 a2 a3 σ h)
          · skip
            obtain ⟨-, h⟩ := xgd_some h
            rcases xite_or h with ⟨-, h⟩ | ⟨-, h⟩
            · skip
              exact xFr_tq xFr_rf (FB_X9_heights_60 a1 a2 a3 σ h)
            · skip
              obtain ⟨e1, e2⟩ := xso2 h
              subst e1
              subst e2
              exact xFr_rf
        · skip
          obtain ⟨e1, e2⟩ := xso2 h
          subst e1
          subst e2
          exact xFr_rf
set_option maxRecDepth 100000 in
set_option maxHeartbeats 4000000 in
theorem F_X9_image {σ : xS2} {r : Int32} {τ : xS2} (h : J_X9_image σ = some (r, τ)) : xFr [(43, 46), (43, 47), (43, 48), (43, 49), (43, 50), (43, 51)] σ τ := by
  obtain ⟨e1, e2⟩ := xso2 h
  subst e1
  subst e2
  exact (xFr_yL (xFr_yI (xFr_yI (xFr_yI (xFr_yI (xFr_yI xFr_rf rfl) rfl) rfl) rfl) rfl) rfl)
set_option maxRecDepth 100000 in
set_option maxHeartbeats 4000000 in
theorem FB_X9_judge_90 {r : Int32} {τ : xS2} : ∀ (l2 : Int32) (σ : xS2), J_X9_judge_90 l2 σ = some (r, τ) → xFr [(43, 10), (43, 11), (43, 34), (43, 35), (43, 36), (43, 37), (43, 8), (43, 9)] σ τ := by
  intro l2 σ h
  obtain ⟨x8, h8, h⟩ := Option.bind_eq_some_iff.mp h
  obtain ⟨e1, e2⟩ := xso2 h
  subst e1
  subst e2
  exact (xFr_tr xFr_rf (F_X9_unthink h8) (by simp))
set_option maxRecDepth 100000 in
set_option maxHeartbeats 4000000 in
theorem FB_X9_judge_84 {r : Int32} {τ : xS2} {k32 : Int32 → Int32 → Int32 → xS2 → Option (Int32 × xS2)} (hk32 : ∀ (l1 : Int32) (l2 : Int32) (l3 : Int32) (σ : xS2), k32 l1 l2 l3 σ = some (r, τ) → xFr [(43, 10), (43, 11), (43, 34), (43, 35), (43, 36), (43, 37), (43, 8), (43, 9)] σ τ) : ∀ (l1 : Int32) (l2 : Int32) (l3 : Int32) (σ : xS2), J_X9_judge_84 k32 l1 l2 l3 σ = some (r, τ) → xFr [(43, 10), (43, 11), (43, 34), (43, 35), (43, 36), (43, 37), (43, 8), (43, 9)] σ τ := by
  intro l1 l2 l3 σ h
  exact xFr_tq xFr_rf (hk32 l1 l2 (l3 + (1 : Int32)) σ h)
set_option maxRecDepth 100000 in
set_option maxHeartbeats 4000000 in
theorem FB_X9_judge_32 {r : Int32} {τ : xS2} : ∀ (f : Nat) (l1 : Int32) (l2 : Int32) (l3 : Int32) (σ : xS2), J_X9_judge_32 f l1 l2 l3 σ = some (r, τ) → xFr [(43, 10), (43, 11), (43, 34), (43, 35), (43, 36), (43, 37), (43, 8), (43, 9)] σ τ := by
  intro f
  induction f with
  | zero => intro l1 l2 l3 σ h; cases h
  | succ f ih =>
    intro l1 l2 l3 σ h
    obtain ⟨-, h⟩ := xgd_some h
    rcases xite_or h with ⟨-, h⟩ | ⟨-, h⟩
    · skip
      exact xFr_tq xFr_rf (FB_X9_judge_90 l2 σ h)
    · skip
      rcases xite_or h with ⟨-, h⟩ | ⟨-, h⟩
      · skip
        exact xFr_tq xFr_rf (FB_X9_judge_90 l2 σ h)
      · skip
        rcases xite_or h with ⟨-, h⟩ | ⟨-, h⟩
        · skip
          exact xFr_tq xFr_rf (FB_X9_judge_90 l2 σ h)
        · skip
          obtain ⟨x11, h11, h⟩ := Option.bind_eq_some_iff.mp h
          obtain ⟨x12, h12, h⟩ := Option.bind_eq_some_iff.mp h
          rcases xite_or h with ⟨-, h⟩ | ⟨-, h⟩
          · skip
            exact xFr_tq (xFr_tr xFr_rf (F_X9_goOwn h11) (by simp)) (FB_X9_judge_84 ih l1 l2 l3 x11.2 h)
          · skip
            exact xFr_tq (xFr_tr xFr_rf (F_X9_goOwn h11) (by simp)) (FB_X9_judge_84 ih l1 l3 l3 x11.2 h)
set_option maxRecDepth 100000 in
set_option maxHeartbeats 4000000 in
theorem F_X9_judge {a1 : Int32} {σ : xS2} {r : Int32} {τ : xS2} (h : J_X9_judge a1 σ = some (r, τ)) : xFr [(43, 10), (43, 11), (43, 34), (43, 35), (43, 36), (43, 37), (43, 8), (43, 9)] σ τ := by
  rcases xite_ro h with ⟨-, h⟩ | ⟨-, h⟩
  · skip
    obtain ⟨x3, h3, h⟩ := Option.bind_eq_some_iff.mp h
    rcases xite_or h with ⟨-, h⟩ | ⟨-, h⟩
    · skip
      obtain ⟨x5, h5, h⟩ := Option.bind_eq_some_iff.mp h
      exact xFr_tq (xFr_tr xFr_rf (F_X9_think h5) (by simp)) (FB_X9_judge_32 xFU a1 (-2 : Int32) (0 : Int32) x5 h)
    · skip
      obtain ⟨x14, h14, h⟩ := Option.bind_eq_some_iff.mp h
      obtain ⟨e1, e2⟩ := xso2 h
      subst e1
      subst e2
      exact xFr_rf
  · skip
    obtain ⟨e1, e2⟩ := xso2 h
    subst e1
    subst e2
    exact xFr_rf
set_option maxRecDepth 100000 in
set_option maxHeartbeats 4000000 in
theorem FB_X9_keep_22 {r : Int32} {τ : xS2} : ∀ (l1 : Int32) (l2 : Int32) (σ : xS2), J_X9_keep_22 l1 l2 σ = some (r, τ) → xFr [(70, 99)] σ τ := by
  intro l1 l2 σ h
  obtain ⟨-, h⟩ := xgd_some h
  obtain ⟨e1, e2⟩ := xso2 h
  subst e1
  subst e2
  exact (xFr_yI xFr_rf rfl)
set_option maxRecDepth 100000 in
set_option maxHeartbeats 4000000 in
theorem F_X9_keep {a1 : Int32} {a2 : Int32} {σ : xS2} {r : Int32} {τ : xS2} (h : J_X9_keep a1 a2 σ = some (r, τ)) : xFr [(70, 99)] σ τ := by
  rcases xite_or h with ⟨-, h⟩ | ⟨-, h⟩
  · skip
    obtain ⟨e1, e2⟩ := xso2 h
    subst e1
    subst e2
    exact xFr_rf
  · skip
    rcases xite_or h with ⟨-, h⟩ | ⟨-, h⟩
    · skip
      exact xFr_tq xFr_rf (FB_X9_keep_22 a1 a2 σ h)
    · skip
      rcases xite_ro h with ⟨-, h⟩ | ⟨-, h⟩
      · skip
        exact xFr_tq xFr_rf (FB_X9_keep_22 a1 a2 σ h)
      · skip
        obtain ⟨e1, e2⟩ := xso2 h
        subst e1
        subst e2
        exact xFr_rf
set_option maxRecDepth 100000 in
set_option maxHeartbeats 4000000 in
theorem FB_X9_lasts_84 {r : Int32} {τ : xS2} : ∀ (l2 : Int32) (σ : xS2), J_X9_lasts_84 l2 σ = some (r, τ) → xFr [(43, 10), (43, 11), (43, 34), (43, 35), (43, 36), (43, 37), (43, 8), (43, 9)] σ τ := by
  intro l2 σ h
  obtain ⟨x5, h5, h⟩ := Option.bind_eq_some_iff.mp h
  obtain ⟨e1, e2⟩ := xso2 h
  subst e1
  subst e2
  exact (xFr_tr xFr_rf (F_X9_unthink h5) (by simp))
set_option maxRecDepth 100000 in
set_option maxHeartbeats 4000000 in
theorem FB_X9_lasts_78 {r : Int32} {τ : xS2} {k24 : Int32 → Int32 → Int32 → xS2 → Option (Int32 × xS2)} (hk24 : ∀ (l1 : Int32) (l2 : Int32) (l3 : Int32) (σ : xS2), k24 l1 l2 l3 σ = some (r, τ) → xFr [(43, 10), (43, 11), (43, 34), (43, 35), (43, 36), (43, 37), (43, 8), (43, 9)] σ τ) : ∀ (l1 : Int32) (l2 : Int32) (l3 : Int32) (σ : xS2), J_X9_lasts_78 k24 l1 l2 l3 σ = some (r, τ) → xFr [(43, 10), (43, 11), (43, 34), (43, 35), (43, 36), (43, 37), (43, 8), (43, 9)] σ τ := by
  intro l1 l2 l3 σ h
  exact xFr_tq xFr_rf (hk24 l1 l2 (l3 + (1 : Int32)) σ h)
set_option maxRecDepth 100000 in
set_option maxHeartbeats 4000000 in
theorem FB_X9_lasts_59 {r : Int32} {τ : xS2} {k24 : Int32 → Int32 → Int32 → xS2 → Option (Int32 × xS2)} (hk24 : ∀ (l1 : Int32) (l2 : Int32) (l3 : Int32) (σ : xS2), k24 l1 l2 l3 σ = some (r, τ) → xFr [(43, 10), (43, 11), (43, 34), (43, 35), (43, 36), (43, 37), (43, 8), (43, 9)] σ τ) : ∀ (l1 : Int32) (l2 : Int32) (l3 : Int32) (s1 : Bool) (s2 : Int32) (s3 : Int32) (σ : xS2), J_X9_lasts_59 k24 l1 l2 l3 s1 s2 s3 σ = some (r, τ) → xFr [(43, 10), (43, 11), (43, 34), (43, 35), (43, 36), (43, 37), (43, 8), (43, 9)] σ τ := by
  intro l1 l2 l3 s1 s2 s3 σ h
  obtain ⟨-, h⟩ := xgd_some h
  obtain ⟨x10, h10, h⟩ := Option.bind_eq_some_iff.mp h
  rcases xite_ro h with ⟨-, h⟩ | ⟨-, h⟩
  · skip
    exact xFr_tq (xFr_tr xFr_rf (F_X9_goDay h10) (by simp)) (FB_X9_lasts_78 hk24 l1 l2 l3 x10.2 h)
  · skip
    exact xFr_tq (xFr_tr xFr_rf (F_X9_goDay h10) (by simp)) (FB_X9_lasts_78 hk24 l1 l3 l3 x10.2 h)
set_option maxRecDepth 100000 in
set_option maxHeartbeats 4000000 in
theorem FB_X9_lasts_24 {r : Int32} {τ : xS2} : ∀ (f : Nat) (l1 : Int32) (l2 : Int32) (l3 : Int32) (σ : xS2), J_X9_lasts_24 f l1 l2 l3 σ = some (r, τ) → xFr [(43, 10), (43, 11), (43, 34), (43, 35), (43, 36), (43, 37), (43, 8), (43, 9)] σ τ := by
  intro f
  induction f with
  | zero => intro l1 l2 l3 σ h; cases h
  | succ f ih =>
    intro l1 l2 l3 σ h
    rcases xite_or h with ⟨-, h⟩ | ⟨-, h⟩
    · skip
      exact xFr_tq xFr_rf (FB_X9_lasts_84 l2 σ h)
    · skip
      rcases xite_or h with ⟨-, h⟩ | ⟨-, h⟩
      · skip
        exact xFr_tq xFr_rf (FB_X9_lasts_84 l2 σ h)
      · skip
        obtain ⟨-, h⟩ := xgd_some h
        rcases xite_or h with ⟨-, h⟩ | ⟨-, h⟩
        · skip
          exact xFr_tq xFr_rf (FB_X9_lasts_59 ih l1 l2 l3 false l3 (0 : Int32) σ h)
        · skip
          obtain ⟨-, h⟩ := xgd_some h
          exact xFr_tq xFr_rf (FB_X9_lasts_59 ih l1 l2 l3 false l3 ((σ.1 46 l3.toNatClampNeg) - l1) σ h)
set_option maxRecDepth 100000 in
set_option maxHeartbeats 4000000 in
theorem F_X9_lasts {a1 : Int32} {σ : xS2} {r : Int32} {τ : xS2} (h : J_X9_lasts a1 σ = some (r, τ)) : xFr [(43, 10), (43, 11), (43, 34), (43, 35), (43, 36), (43, 37), (43, 8), (43, 9)] σ τ := by
  rcases xite_ro h with ⟨-, h⟩ | ⟨-, h⟩
  · skip
    obtain ⟨x3, h3, h⟩ := Option.bind_eq_some_iff.mp h
    exact xFr_tq (xFr_tr xFr_rf (F_X9_think h3) (by simp)) (FB_X9_lasts_24 xFU a1 (-2 : Int32) (x3.1 43 7) x3 h)
  · skip
    obtain ⟨e1, e2⟩ := xso2 h
    subst e1
    subst e2
    exact xFr_rf
set_option maxRecDepth 100000 in
set_option maxHeartbeats 4000000 in
theorem FB_X9_oneLine_66 {τ : xS2} : ∀ (l1 : Int32) (σ : xS2), J_X9_oneLine_66 l1 σ = some τ → xFr [(43, 22), (43, 23), (43, 24), (43, 25), (55, 99), (56, 99), (57, 99), (58, 99), (59, 99)] σ τ := by
  intro l1 σ h
  obtain ⟨-, h⟩ := xgd_some h
  have e1 := Option.some.inj h
  subst e1
  exact (xFr_yI (xFr_yI xFr_rf rfl) rfl)
set_option maxRecDepth 100000 in
set_option maxHeartbeats 4000000 in
theorem F_X9_oneLine {σ : xS2} {τ : xS2} (h : J_X9_oneLine σ = some τ) : xFr [(43, 22), (43, 23), (43, 24), (43, 25), (55, 99), (56, 99), (57, 99), (58, 99), (59, 99)] σ τ := by
  obtain ⟨-, h⟩ := xgd_some h
  obtain ⟨x3, h3, h⟩ := Option.bind_eq_some_iff.mp h
  rcases xite_or h with ⟨-, h⟩ | ⟨-, h⟩
  · skip
    exact xFr_tq (xFr_tr (xFr_yI xFr_rf rfl) (F_X9_either h3) (by simp)) (FB_X9_oneLine_66 ((61 : Int32) + (σ.1 57 1)) x3 h)
  · skip
    obtain ⟨x8, h8, h⟩ := Option.bind_eq_some_iff.mp h
    rcases xite_ro h with ⟨-, h⟩ | ⟨-, h⟩
    · skip
      exact xFr_tq (xFr_tr (xFr_yI xFr_rf rfl) (F_X9_either h3) (by simp)) (FB_X9_oneLine_66 ((61 : Int32) + (σ.1 57 1)) x3 h)
    · skip
      obtain ⟨-, h⟩ := xgd_some h
      obtain ⟨x11, h11, h⟩ := Option.bind_eq_some_iff.mp h
      exact xFr_tq (xFr_tr (xFr_yI (xFr_yI (xFr_tr (xFr_yI xFr_rf rfl) (F_X9_either h3) (by simp)) rfl) rfl) (F_X9_either h11) (by simp)) (FB_X9_oneLine_66 ((61 : Int32) + (σ.1 57 1)) x11 h)
set_option maxRecDepth 100000 in
set_option maxHeartbeats 4000000 in
theorem FB_X9_readText_177 {r : Int32} {τ : xS2} : ∀ (f : Nat) (l1 : Int32) (l2 : Int32) (σ : xS2), J_X9_readText_177 f l1 l2 σ = some (r, τ) → xFr [(43, 21), (43, 22), (43, 23), (43, 24), (43, 25), (55, 99), (56, 99), (57, 99), (58, 99), (59, 99)] σ τ := by
  intro f
  induction f with
  | zero => intro l1 l2 σ h; cases h
  | succ f ih =>
    intro l1 l2 σ h
    obtain ⟨-, h⟩ := xgd_some h
    rcases xite_or h with ⟨-, h⟩ | ⟨-, h⟩
    · skip
      obtain ⟨e1, e2⟩ := xso2 h
      subst e1
      subst e2
      exact xFr_rf
    · skip
      obtain ⟨-, h⟩ := xgd_some h
      obtain ⟨-, h⟩ := xgd_some h
      obtain ⟨-, h⟩ := xgd_some h
      obtain ⟨-, h⟩ := xgd_some h
      exact xFr_tq (xFr_yI (xFr_yI xFr_rf rfl) rfl) (ih l1 (l2 + (1 : Int32)) (yI (yI σ 58 (((61 : Int32) * l1) + l2).toNatClampNeg (vp_nar .short (σ.1 58 ((61 : Int32) + l2).toNatClampNeg))) 59 (((61 : Int32) * l1) + l2).toNatClampNeg (vp_nar .short (σ.1 59 ((61 : Int32) + l2).toNatClampNeg))) h)
set_option maxRecDepth 100000 in
set_option maxHeartbeats 4000000 in
theorem FB_X9_readText_105 {r : Int32} {τ : xS2} : ∀ (f : Nat) (l1 : Int32) (l2 : Int32) (σ : xS2), J_X9_readText_105 f l1 l2 σ = some (r, τ) → xFr [(43, 21), (43, 22), (43, 23), (43, 24), (43, 25), (55, 99), (56, 99), (57, 99), (58, 99), (59, 99)] σ τ := by
  intro f
  induction f with
  | zero => intro l1 l2 σ h; cases h
  | succ f ih =>
    intro l1 l2 σ h
    rcases xite_or h with ⟨-, h⟩ | ⟨-, h⟩
    · skip
      obtain ⟨-, h⟩ := xgd_some h
      exact xFr_tq (xFr_yI xFr_rf rfl) (FB_X9_readText_177 xFU l1 (0 : Int32) (yI σ 57 l1.toNatClampNeg (σ.1 57 1)) h)
    · skip
      obtain ⟨-, h⟩ := xgd_some h
      obtain ⟨-, h⟩ := xgd_some h
      obtain ⟨-, h⟩ := xgd_some h
      obtain ⟨-, h⟩ := xgd_some h
      exact xFr_tq (xFr_yI (xFr_yI xFr_rf rfl) rfl) (ih l1 (l2 + (1 : Int32)) (yI (yI σ 55 (((130 : Int32) * l1) + l2).toNatClampNeg (vp_nar .byte (σ.1 55 ((130 : Int32) + l2).toNatClampNeg))) 56 (((130 : Int32) * l1) + l2).toNatClampNeg (σ.1 56 ((130 : Int32) + l2).toNatClampNeg)) h)
set_option maxRecDepth 100000 in
set_option maxHeartbeats 4000000 in
theorem FB_X9_readText_86 {r : Int32} {τ : xS2} : ∀ (l1 : Int32) (σ : xS2), J_X9_readText_86 l1 σ = some (r, τ) → xFr [(43, 21), (43, 22), (43, 23), (43, 24), (43, 25), (55, 99), (56, 99), (57, 99), (58, 99), (59, 99)] σ τ := by
  intro l1 σ h
  rcases xite_or h with ⟨-, h⟩ | ⟨-, h⟩
  · skip
    exact xFr_tq (xFr_yI xFr_rf rfl) (FB_X9_readText_105 xFU l1 (0 : Int32) (yI σ 43 21 (0 : Int32)) h)
  · skip
    obtain ⟨e1, e2⟩ := xso2 h
    subst e1
    subst e2
    exact (xFr_yI xFr_rf rfl)
set_option maxRecDepth 100000 in
set_option maxHeartbeats 4000000 in
theorem FB_X9_readText_64 {r : Int32} {τ : xS2} : ∀ (l1 : Int32) (σ : xS2), J_X9_readText_64 l1 σ = some (r, τ) → xFr [(43, 21), (43, 22), (43, 23), (43, 24), (43, 25), (55, 99), (56, 99), (57, 99), (58, 99), (59, 99)] σ τ := by
  intro l1 σ h
  rcases xite_or h with ⟨-, h⟩ | ⟨-, h⟩
  · skip
    exact xFr_tq xFr_rf (FB_X9_readText_86 l1 σ h)
  · skip
    rcases xite_or h with ⟨-, h⟩ | ⟨-, h⟩
    · skip
      exact xFr_tq xFr_rf (FB_X9_readText_86 l1 σ h)
    · skip
      obtain ⟨x20, h20, h⟩ := Option.bind_eq_some_iff.mp h
      exact xFr_tq (xFr_tr xFr_rf (F_X9_faulty h20) (by simp)) (FB_X9_readText_86 l1 x20 h)
set_option maxRecDepth 100000 in
set_option maxHeartbeats 4000000 in
theorem FB_X9_readText_31 {r : Int32} {τ : xS2} : ∀ (f : Nat) (l1 : Int32) (σ : xS2), J_X9_readText_31 f l1 σ = some (r, τ) → xFr [(43, 21), (43, 22), (43, 23), (43, 24), (43, 25), (55, 99), (56, 99), (57, 99), (58, 99), (59, 99)] σ τ := by
  intro f
  induction f with
  | zero => intro l1 σ h; cases h
  | succ f ih =>
    intro l1 σ h
    rcases xite_or h with ⟨-, h⟩ | ⟨-, h⟩
    · skip
      exact xFr_tq xFr_rf (FB_X9_readText_64 l1 σ h)
    · skip
      obtain ⟨x21, h21, h⟩ := Option.bind_eq_some_iff.mp h
      rcases xite_ro h with ⟨-, h⟩ | ⟨-, h⟩
      · skip
        exact xFr_tq xFr_rf (FB_X9_readText_64 l1 σ h)
      · skip
        obtain ⟨x23, h23, h⟩ := Option.bind_eq_some_iff.mp h
        exact xFr_tq (xFr_tr (xFr_yI xFr_rf rfl) (F_X9_oneLine h23) (by simp)) (ih l1 x23 h)
set_option maxRecDepth 100000 in
set_option maxHeartbeats 4000000 in
theorem F_X9_readText {a1 : Int32} {σ : xS2} {r : Int32} {τ : xS2} (h : J_X9_readText a1 σ = some (r, τ)) : xFr [(43, 21), (43, 22), (43, 23), (43, 24), (43, 25), (55, 99), (56, 99), (57, 99), (58, 99), (59, 99)] σ τ := by
  obtain ⟨x2, h2, h⟩ := Option.bind_eq_some_iff.mp h
  exact xFr_tq (xFr_tr (xFr_yI (xFr_yI (xFr_yI (xFr_yI (xFr_yI xFr_rf rfl) rfl) rfl) rfl) rfl) (F_X9_oneLine h2) (by simp)) (FB_X9_readText_31 xFU a1 x2 h)
set_option maxRecDepth 100000 in
set_option maxHeartbeats 4000000 in
theorem F_X9_law {σ : xS2} {r : Int32} {τ : xS2} (h : J_X9_law σ = some (r, τ)) : xFr [(43, 21), (43, 22), (43, 23), (43, 24), (43, 25), (43, 33), (55, 99), (56, 99), (57, 99), (58, 99), (59, 99)] σ τ := by
  obtain ⟨x1, h1, h⟩ := Option.bind_eq_some_iff.mp h
  rcases xite_or h with ⟨-, h⟩ | ⟨-, h⟩
  · skip
    obtain ⟨e1, e2⟩ := xso2 h
    subst e1
    subst e2
    exact (xFr_yI (xFr_tr xFr_rf (F_X9_readText h1) (by simp)) rfl)
  · skip
    obtain ⟨e1, e2⟩ := xso2 h
    subst e1
    subst e2
    exact (xFr_tr xFr_rf (F_X9_readText h1) (by simp))
set_option maxRecDepth 100000 in
set_option maxHeartbeats 4000000 in
theorem FB_X9_tellThought_50 {r : Int32} {τ : xS2} : ∀ (s0 : Int32) (σ : xS2), J_X9_tellThought_50 s0 σ = some (r, τ) → xFr [(43, 10), (43, 11), (43, 8), (43, 9)] σ τ := by
  intro s0 σ h
  obtain ⟨x6, h6, h⟩ := Option.bind_eq_some_iff.mp h
  obtain ⟨e1, e2⟩ := xso2 h
  subst e1
  subst e2
  exact (xFr_tr xFr_rf (F_X9_unthink h6) (by simp))
set_option maxRecDepth 100000 in
set_option maxHeartbeats 4000000 in
theorem F_X9_tellThought {a1 : Int32} {σ : xS2} {r : Int32} {τ : xS2} (h : J_X9_tellThought a1 σ = some (r, τ)) : xFr [(43, 10), (43, 11), (43, 8), (43, 9)] σ τ := by
  rcases xite_ro h with ⟨-, h⟩ | ⟨-, h⟩
  · skip
    rcases xite_ro h with ⟨-, h⟩ | ⟨-, h⟩
    · skip
      rcases xite_ro h with ⟨-, h⟩ | ⟨-, h⟩
      · skip
        obtain ⟨x4, h4, h⟩ := Option.bind_eq_some_iff.mp h
        obtain ⟨x5, h5, h⟩ := Option.bind_eq_some_iff.mp h
        exact xFr_tq xFr_rf (FB_X9_tellThought_50 (x4 - x5) σ h)
      · skip
        exact xFr_tq xFr_rf (FB_X9_tellThought_50 (σ.1 43 10) σ h)
    · skip
      exact xFr_tq xFr_rf (FB_X9_tellThought_50 (σ.1 43 9) σ h)
  · skip
    exact xFr_tq xFr_rf (FB_X9_tellThought_50 (σ.1 43 8) σ h)
set_option maxRecDepth 100000 in
set_option maxHeartbeats 4000000 in
theorem FB_X9_lawful_41 {r : Int32} {τ : xS2} : ∀ (f : Nat) (l1 : Int32) (l2 : Int32) (l3 : Int32) (σ : xS2), J_X9_lawful_41 f l1 l2 l3 σ = some (r, τ) → xFr [(43, 10), (43, 11), (43, 34), (43, 35), (43, 36), (43, 37), (43, 8), (43, 9), (60, 99), (61, 99)] σ τ := by
  intro f
  induction f with
  | zero => intro l1 l2 l3 σ h; cases h
  | succ f ih =>
    intro l1 l2 l3 σ h
    rcases xite_or h with ⟨-, h⟩ | ⟨-, h⟩
    · skip
      obtain ⟨x8, h8, h⟩ := Option.bind_eq_some_iff.mp h
      obtain ⟨e1, e2⟩ := xso2 h
      subst e1
      subst e2
      exact (xFr_tr xFr_rf (F_X9_tellThought h8) (by simp))
    · skip
      obtain ⟨x9, h9, h⟩ := Option.bind_eq_some_iff.mp h
      obtain ⟨x10, h10, h⟩ := Option.bind_eq_some_iff.mp h
      exact xFr_tq (xFr_tr (xFr_tr xFr_rf (F_X9_orderOf h9) (by simp)) (F_X9_goOwn h10) (by simp)) (ih l1 l2 (l3 + (1 : Int32)) x10.2 h)
set_option maxRecDepth 100000 in
set_option maxHeartbeats 4000000 in
theorem F_X9_lawful {a1 : Int32} {a2 : Int32} {σ : xS2} {r : Int32} {τ : xS2} (h : J_X9_lawful a1 a2 σ = some (r, τ)) : xFr [(43, 10), (43, 11), (43, 34), (43, 35), (43, 36), (43, 37), (43, 8), (43, 9), (60, 99), (61, 99)] σ τ := by
  rcases xite_or h with ⟨-, h⟩ | ⟨-, h⟩
  · skip
    obtain ⟨e1, e2⟩ := xso2 h
    subst e1
    subst e2
    exact xFr_rf
  · skip
    rcases xite_ro h with ⟨-, h⟩ | ⟨-, h⟩
    · skip
      rcases xite_or h with ⟨-, h⟩ | ⟨-, h⟩
      · skip
        obtain ⟨x6, h6, h⟩ := Option.bind_eq_some_iff.mp h
        exact xFr_tq (xFr_tr xFr_rf (F_X9_think h6) (by simp)) (FB_X9_lawful_41 xFU a1 a2 (0 : Int32) x6 h)
      · skip
        obtain ⟨e1, e2⟩ := xso2 h
        subst e1
        subst e2
        exact xFr_rf
    · skip
      obtain ⟨e1, e2⟩ := xso2 h
      subst e1
      subst e2
      exact xFr_rf
set_option maxRecDepth 100000 in
set_option maxHeartbeats 4000000 in
theorem FB_X9_mend_20 {r : Int32} {τ : xS2} : ∀ (l1 : Int32) (l2 : Int32) (l3 : Int32) (s0 : Int32) (s1 : Bool) (σ : xS2), J_X9_mend_20 l1 l2 l3 s0 s1 σ = some (r, τ) → xFr [(43, 14), (43, 15), (43, 5), (43, 6), (44, 99), (45, 99), (46, 99), (47, 99), (50, 99), (51, 99), (52, 99), (53, 99)] σ τ := by
  intro l1 l2 l3 s0 s1 σ h
  rcases xite_or h with ⟨-, h⟩ | ⟨-, h⟩
  · skip
    obtain ⟨e1, e2⟩ := xso2 h
    subst e1
    subst e2
    exact xFr_rf
  · skip
    obtain ⟨x7, h7, h⟩ := Option.bind_eq_some_iff.mp h
    obtain ⟨e1, e2⟩ := xso2 h
    subst e1
    subst e2
    exact (xFr_tr xFr_rf (F_X9_changes h7) (by simp))
set_option maxRecDepth 100000 in
set_option maxHeartbeats 4000000 in
theorem F_X9_mend {a1 : Int32} {a2 : Int32} {a3 : Int32} {σ : xS2} {r : Int32} {τ : xS2} (h : J_X9_mend a1 a2 a3 σ = some (r, τ)) : xFr [(43, 14), (43, 15), (43, 5), (43, 6), (44, 99), (45, 99), (46, 99), (47, 99), (50, 99), (51, 99), (52, 99), (53, 99)] σ τ := by
  rcases xite_or h with ⟨-, h⟩ | ⟨-, h⟩
  · skip
    obtain ⟨e1, e2⟩ := xso2 h
    subst e1
    subst e2
    exact xFr_rf
  · skip
    rcases xite_ro h with ⟨-, h⟩ | ⟨-, h⟩
    · skip
      exact xFr_tq xFr_rf (FB_X9_mend_20 a1 a2 a3 a3 false σ h)
    · skip
      exact xFr_tq xFr_rf (FB_X9_mend_20 a1 a2 a3 a3 true σ h)
set_option maxRecDepth 100000 in
set_option maxHeartbeats 4000000 in
theorem F_X9_order {σ : xS2} {r : Int32} {τ : xS2} (h : J_X9_order σ = some (r, τ)) : xFr [(60, 99), (61, 99)] σ τ := by
  rcases xite_ro h with ⟨-, h⟩ | ⟨-, h⟩
  · skip
    obtain ⟨x2, h2, h⟩ := Option.bind_eq_some_iff.mp h
    obtain ⟨e1, e2⟩ := xso2 h
    subst e1
    subst e2
    exact (xFr_tr xFr_rf (F_X9_orderOf h2) (by simp))
  · skip
    obtain ⟨e1, e2⟩ := xso2 h
    subst e1
    subst e2
    exact xFr_rf
set_option maxRecDepth 100000 in
set_option maxHeartbeats 4000000 in
theorem FB_X9_put_95 {r : Int32} {τ : xS2} : ∀ (s1 : Int32) (s2 : Int64) (σ : xS2), J_X9_put_95 s1 s2 σ = some (r, τ) → xFr [(72, 99)] σ τ := by
  intro s1 s2 σ h
  obtain ⟨-, h⟩ := xgd_some h
  obtain ⟨e1, e2⟩ := xso2 h
  subst e1
  subst e2
  exact (xFr_yL xFr_rf rfl)
set_option maxRecDepth 100000 in
set_option maxHeartbeats 4000000 in
theorem F_X9_put {a1 : Int32} {a2 : Int32} {a3 : Int64} {σ : xS2} {r : Int32} {τ : xS2} (h : J_X9_put a1 a2 a3 σ = some (r, τ)) : xFr [(72, 99)] σ τ := by
  obtain ⟨x1, h1, h⟩ := Option.bind_eq_some_iff.mp h
  rcases xite_or h with ⟨-, h⟩ | ⟨-, h⟩
  · skip
    obtain ⟨-, h⟩ := xgd_some h
    rcases xite_ro h with ⟨-, h⟩ | ⟨-, h⟩
    · skip
      rcases xite_ro h with ⟨-, h⟩ | ⟨-, h⟩
      · skip
        rcases xite_ro h with ⟨-, h⟩ | ⟨-, h⟩
        · skip
          rcases xite_ro h with ⟨-, h⟩ | ⟨-, h⟩
          · skip
            rcases xite_or h with ⟨-, h⟩ | ⟨-, h⟩
            · skip
              exact xFr_tq xFr_rf (FB_X9_put_95 (((60 : Int32) * a1) + a2) (0 : Int64) σ h)
            · skip
              exact xFr_tq xFr_rf (FB_X9_put_95 (((60 : Int32) * a1) + a2) (1 : Int64) σ h)
          · skip
            exact xFr_tq xFr_rf (FB_X9_put_95 (((60 : Int32) * a1) + a2) a3 σ h)
        · skip
          exact xFr_tq xFr_rf (FB_X9_put_95 (((60 : Int32) * a1) + a2) ((a3.toInt32).toInt64) σ h)
      · skip
        exact xFr_tq xFr_rf (FB_X9_put_95 (((60 : Int32) * a1) + a2) (((a3.toInt32).toInt16.toInt32).toInt64) σ h)
    · skip
      exact xFr_tq xFr_rf (FB_X9_put_95 (((60 : Int32) * a1) + a2) (((a3.toInt32).toInt8.toInt32).toInt64) σ h)
  · skip
    obtain ⟨e1, e2⟩ := xso2 h
    subst e1
    subst e2
    exact xFr_rf
set_option maxRecDepth 100000 in
set_option maxHeartbeats 4000000 in
theorem F_X9_redo {σ : xS2} {r : Int32} {τ : xS2} (h : J_X9_redo σ = some (r, τ)) : xFr [(43, 14), (43, 15), (43, 5), (43, 6), (44, 99), (45, 99), (46, 99), (47, 99)] σ τ := by
  rcases xite_ro h with ⟨-, h⟩ | ⟨-, h⟩
  · skip
    obtain ⟨-, h⟩ := xgd_some h
    obtain ⟨-, h⟩ := xgd_some h
    obtain ⟨-, h⟩ := xgd_some h
    obtain ⟨x5, h5, h⟩ := Option.bind_eq_some_iff.mp h
    obtain ⟨e1, e2⟩ := xso2 h
    subst e1
    subst e2
    exact (xFr_yI (xFr_yI (xFr_tr xFr_rf (F_X9_lays h5) (by simp)) rfl) rfl)
  · skip
    obtain ⟨e1, e2⟩ := xso2 h
    subst e1
    subst e2
    exact xFr_rf
set_option maxRecDepth 100000 in
set_option maxHeartbeats 4000000 in
theorem FB_X9_toNorth_34 {r : Int32} {τ : xS2} {k6 : Int32 → Int32 → Int32 → xS2 → Option (Int32 × xS2)} (hk6 : ∀ (l1 : Int32) (l2 : Int32) (l3 : Int32) (σ : xS2), k6 l1 l2 l3 σ = some (r, τ) → xFr [(62, 99)] σ τ) : ∀ (l1 : Int32) (l2 : Int32) (l3 : Int32) (σ : xS2), J_X9_toNorth_34 k6 l1 l2 l3 σ = some (r, τ) → xFr [(62, 99)] σ τ := by
  intro l1 l2 l3 σ h
  exact xFr_tq xFr_rf (hk6 l1 l2 (l3 + (1 : Int32)) σ h)
set_option maxRecDepth 100000 in
set_option maxHeartbeats 4000000 in
theorem FB_X9_toNorth_6 {r : Int32} {τ : xS2} : ∀ (f : Nat) (l1 : Int32) (l2 : Int32) (l3 : Int32) (σ : xS2), J_X9_toNorth_6 f l1 l2 l3 σ = some (r, τ) → xFr [(62, 99)] σ τ := by
  intro f
  induction f with
  | zero => intro l1 l2 l3 σ h; cases h
  | succ f ih =>
    intro l1 l2 l3 σ h
    rcases xite_or h with ⟨-, h⟩ | ⟨-, h⟩
    · skip
      obtain ⟨e1, e2⟩ := xso2 h
      subst e1
      subst e2
      exact xFr_rf
    · skip
      obtain ⟨x2, h2, h⟩ := Option.bind_eq_some_iff.mp h
      obtain ⟨-, h⟩ := xgd_some h
      rcases xite_or h with ⟨-, h⟩ | ⟨-, h⟩
      · skip
        exact xFr_tq (xFr_tr xFr_rf (F_X9_findFar h2) (by simp)) (FB_X9_toNorth_34 ih l1 l2 l3 x2 h)
      · skip
        obtain ⟨-, h⟩ := xgd_some h
        exact xFr_tq (xFr_tr xFr_rf (F_X9_findFar h2) (by simp)) (FB_X9_toNorth_34 ih l1 (x2.1 62 l1.toNatClampNeg) l3 x2 h)
set_option maxRecDepth 100000 in
set_option maxHeartbeats 4000000 in
theorem F_X9_toNorth {a1 : Int32} {σ : xS2} {r : Int32} {τ : xS2} (h : J_X9_toNorth a1 σ = some (r, τ)) : xFr [(62, 99)] σ τ := by
  exact xFr_tq xFr_rf (FB_X9_toNorth_6 xFU a1 (1000000 : Int32) (0 : Int32) σ h)
set_option maxRecDepth 100000 in
set_option maxHeartbeats 4000000 in
theorem FB_X9_round_168 {r : Int32} {τ : xS2} : ∀ (f : Nat) (l1 : Int32) (l2 : Int32) (l3 : Int32) (σ : xS2), J_X9_round_168 f l1 l2 l3 σ = some (r, τ) → xFr [(43, 44), (43, 45), (62, 99), (65, 99), (66, 99), (67, 99)] σ τ := by
  intro f
  induction f with
  | zero => intro l1 l2 l3 σ h; cases h
  | succ f ih =>
    intro l1 l2 l3 σ h
    rcases xite_or h with ⟨-, h⟩ | ⟨-, h⟩
    · skip
      obtain ⟨x7, h7, h⟩ := Option.bind_eq_some_iff.mp h
      rcases xite_ro h with ⟨-, h⟩ | ⟨-, h⟩
      · skip
        obtain ⟨e1, e2⟩ := xso2 h
        subst e1
        subst e2
        exact (xFr_tr (xFr_yI (xFr_yI xFr_rf rfl) rfl) (F_X9_goRound h7) (by simp))
      · skip
        obtain ⟨e1, e2⟩ := xso2 h
        subst e1
        subst e2
        exact (xFr_tr (xFr_yI (xFr_yI xFr_rf rfl) rfl) (F_X9_goRound h7) (by simp))
    · skip
      obtain ⟨-, h⟩ := xgd_some h
      obtain ⟨x10, h10, h⟩ := Option.bind_eq_some_iff.mp h
      obtain ⟨-, h⟩ := xgd_some h
      exact xFr_tq (xFr_yI (xFr_tr xFr_rf (F_X9_toNorth h10) (by simp)) rfl) (ih l1 l2 (l3 + (1 : Int32)) (yI x10.2 67 l3.toNatClampNeg x10.1) h)
set_option maxRecDepth 100000 in
set_option maxHeartbeats 4000000 in
theorem FB_X9_round_107 {r : Int32} {τ : xS2} {k89 : Int32 → Int32 → Int32 → xS2 → Option (Int32 × xS2)} (hk89 : ∀ (l1 : Int32) (l2 : Int32) (l3 : Int32) (σ : xS2), k89 l1 l2 l3 σ = some (r, τ) → xFr [(43, 44), (43, 45), (62, 99), (65, 99), (66, 99), (67, 99)] σ τ) : ∀ (f : Nat) (l1 : Int32) (l2 : Int32) (l3 : Int32) (l4 : Int32) (σ : xS2), J_X9_round_107 k89 f l1 l2 l3 l4 σ = some (r, τ) → xFr [(43, 44), (43, 45), (62, 99), (65, 99), (66, 99), (67, 99)] σ τ := by
  intro f
  induction f with
  | zero => intro l1 l2 l3 l4 σ h; cases h
  | succ f ih =>
    intro l1 l2 l3 l4 σ h
    rcases xite_or h with ⟨-, h⟩ | ⟨-, h⟩
    · skip
      obtain ⟨-, h⟩ := xgd_some h
      obtain ⟨-, h⟩ := xgd_some h
      exact xFr_tq (xFr_yI xFr_rf rfl) (hk89 l1 l2 (l3 + (1 : Int32)) (yI σ 66 ((25 : Int32) + l3).toNatClampNeg (σ.1 62 (σ.1 43 8).toNatClampNeg)) h)
    · skip
      obtain ⟨-, h⟩ := xgd_some h
      obtain ⟨-, h⟩ := xgd_some h
      obtain ⟨-, h⟩ := xgd_some h
      exact xFr_tq (xFr_yI xFr_rf rfl) (ih l1 l2 l3 (l4 + (1 : Int32)) (yI σ 66 (((5 : Int32) * l4) + l3).toNatClampNeg (σ.1 62 (σ.1 65 l4.toNatClampNeg).toNatClampNeg)) h)
set_option maxRecDepth 100000 in
set_option maxHeartbeats 4000000 in
theorem FB_X9_round_89 {r : Int32} {τ : xS2} : ∀ (f : Nat) (l1 : Int32) (l2 : Int32) (l3 : Int32) (σ : xS2), J_X9_round_89 f l1 l2 l3 σ = some (r, τ) → xFr [(43, 44), (43, 45), (62, 99), (65, 99), (66, 99), (67, 99)] σ τ := by
  intro f
  induction f with
  | zero => intro l1 l2 l3 σ h; cases h
  | succ f ih =>
    intro l1 l2 l3 σ h
    rcases xite_or h with ⟨-, h⟩ | ⟨-, h⟩
    · skip
      exact xFr_tq xFr_rf (FB_X9_round_168 xFU l1 l2 (0 : Int32) σ h)
    · skip
      obtain ⟨-, h⟩ := xgd_some h
      obtain ⟨x13, h13, h⟩ := Option.bind_eq_some_iff.mp h
      exact xFr_tq (xFr_tr xFr_rf (F_X9_findFar h13) (by simp)) (FB_X9_round_107 ih xFU l1 l2 l3 (0 : Int32) x13 h)
set_option maxRecDepth 100000 in
set_option maxHeartbeats 4000000 in
theorem FB_X9_round_59 {r : Int32} {τ : xS2} {k15 : Int32 → Int32 → Int32 → xS2 → Option (Int32 × xS2)} (hk15 : ∀ (l1 : Int32) (l2 : Int32) (l3 : Int32) (σ : xS2), k15 l1 l2 l3 σ = some (r, τ) → xFr [(43, 44), (43, 45), (62, 99), (65, 99), (66, 99), (67, 99)] σ τ) : ∀ (l1 : Int32) (l2 : Int32) (l3 : Int32) (σ : xS2), J_X9_round_59 k15 l1 l2 l3 σ = some (r, τ) → xFr [(43, 44), (43, 45), (62, 99), (65, 99), (66, 99), (67, 99)] σ τ := by
  intro l1 l2 l3 σ h
  exact xFr_tq xFr_rf (hk15 l1 l2 (l3 + (1 : Int32)) σ h)
set_option maxRecDepth 100000 in
set_option maxHeartbeats 4000000 in
theorem FB_X9_round_15 {r : Int32} {τ : xS2} : ∀ (f : Nat) (l1 : Int32) (l2 : Int32) (l3 : Int32) (σ : xS2), J_X9_round_15 f l1 l2 l3 σ = some (r, τ) → xFr [(43, 44), (43, 45), (62, 99), (65, 99), (66, 99), (67, 99)] σ τ := by
  intro f
  induction f with
  | zero => intro l1 l2 l3 σ h; cases h
  | succ f ih =>
    intro l1 l2 l3 σ h
    rcases xite_or h with ⟨-, h⟩ | ⟨-, h⟩
    · skip
      rcases xite_ro h with ⟨-, h⟩ | ⟨-, h⟩
      · skip
        exact xFr_tq xFr_rf (FB_X9_round_89 xFU l1 l2 (0 : Int32) σ h)
      · skip
        rcases xite_ro h with ⟨-, h⟩ | ⟨-, h⟩
        · skip
          obtain ⟨e1, e2⟩ := xso2 h
          subst e1
          subst e2
          exact xFr_rf
        · skip
          obtain ⟨x21, h21, h⟩ := Option.bind_eq_some_iff.mp h
          obtain ⟨e1, e2⟩ := xso2 h
          subst e1
          subst e2
          exact (xFr_tr xFr_rf (F_X9_toNorth h21) (by simp))
    · skip
      obtain ⟨-, h⟩ := xgd_some h
      rcases xite_or h with ⟨-, h⟩ | ⟨-, h⟩
      · skip
        exact xFr_tq xFr_rf (FB_X9_round_59 ih l1 l2 l3 σ h)
      · skip
        rcases xite_or h with ⟨-, h⟩ | ⟨-, h⟩
        · skip
          rcases xite_ro h with ⟨-, h⟩ | ⟨-, h⟩
          · skip
            obtain ⟨-, h⟩ := xgd_some h
            exact xFr_tq (xFr_yI xFr_rf rfl) (FB_X9_round_59 ih l1 (l2 + (1 : Int32)) l3 (yI σ 65 l2.toNatClampNeg l3) h)
          · skip
            obtain ⟨e1, e2⟩ := xso2 h
            subst e1
            subst e2
            exact xFr_rf
        · skip
          exact xFr_tq xFr_rf (FB_X9_round_59 ih l1 l2 l3 σ h)
set_option maxRecDepth 100000 in
set_option maxHeartbeats 4000000 in
theorem F_X9_round {a1 : Int32} {σ : xS2} {r : Int32} {τ : xS2} (h : J_X9_round a1 σ = some (r, τ)) : xFr [(43, 44), (43, 45), (62, 99), (65, 99), (66, 99), (67, 99)] σ τ := by
  rcases xite_ro h with ⟨-, h⟩ | ⟨-, h⟩
  · skip
    exact xFr_tq xFr_rf (FB_X9_round_15 xFU a1 (0 : Int32) (0 : Int32) σ h)
  · skip
    obtain ⟨e1, e2⟩ := xso2 h
    subst e1
    subst e2
    exact xFr_rf
set_option maxRecDepth 100000 in
set_option maxHeartbeats 4000000 in
theorem FB_X9_row_54 {r : Int32} {τ : xS2} : ∀ (f : Nat) (l1 : Int32) (l4 : Int32) (σ : xS2), J_X9_row_54 f l1 l4 σ = some (r, τ) → xFr [(70, 99), (71, 99), (72, 99)] σ τ := by
  intro f
  induction f with
  | zero => intro l1 l4 σ h; cases h
  | succ f ih =>
    intro l1 l4 σ h
    rcases xite_or h with ⟨-, h⟩ | ⟨-, h⟩
    · skip
      obtain ⟨e1, e2⟩ := xso2 h
      subst e1
      subst e2
      exact xFr_rf
    · skip
      obtain ⟨-, h⟩ := xgd_some h
      exact xFr_tq (xFr_yL xFr_rf rfl) (ih l1 (l4 + (1 : Int32)) (yL σ 72 l4.toNatClampNeg (0 : Int64)) h)
set_option maxRecDepth 100000 in
set_option maxHeartbeats 4000000 in
theorem F_X9_row {a1 : Int32} {a2 : Int32} {a3 : Int32} {σ : xS2} {r : Int32} {τ : xS2} (h : J_X9_row a1 a2 a3 σ = some (r, τ)) : xFr [(70, 99), (71, 99), (72, 99)] σ τ := by
  rcases xite_or h with ⟨-, h⟩ | ⟨-, h⟩
  · skip
    obtain ⟨e1, e2⟩ := xso2 h
    subst e1
    subst e2
    exact xFr_rf
  · skip
    rcases xite_or h with ⟨-, h⟩ | ⟨-, h⟩
    · skip
      obtain ⟨e1, e2⟩ := xso2 h
      subst e1
      subst e2
      exact xFr_rf
    · skip
      rcases xite_or h with ⟨-, h⟩ | ⟨-, h⟩
      · skip
        rcases xite_or h with ⟨-, h⟩ | ⟨-, h⟩
        · skip
          obtain ⟨-, h⟩ := xgd_some h
          obtain ⟨-, h⟩ := xgd_some h
          exact xFr_tq (xFr_yI (xFr_yI xFr_rf rfl) rfl) (FB_X9_row_54 xFU a1 ((60 : Int32) * a1) (yI (yI σ 70 a1.toNatClampNeg ((-2 : Int32) - a2)) 71 a1.toNatClampNeg a3) h)
        · skip
          obtain ⟨e1, e2⟩ := xso2 h
          subst e1
          subst e2
          exact xFr_rf
      · skip
        obtain ⟨e1, e2⟩ := xso2 h
        subst e1
        subst e2
        exact xFr_rf
set_option maxRecDepth 100000 in
set_option maxHeartbeats 4000000 in
theorem FB_X9_run_67 {r : Int32} {τ : xS2} : ∀ (f : Nat) (l1 : Int32) (l2 : Int32) (l3 : Int32) (l4 : Int32) (σ : xS2), J_X9_run_67 f l1 l2 l3 l4 σ = some (r, τ) → xFr [(43, 10), (43, 11), (43, 34), (43, 35), (43, 36), (43, 37), (43, 8), (43, 9)] σ τ := by
  intro f
  induction f with
  | zero => intro l1 l2 l3 l4 σ h; cases h
  | succ f ih =>
    intro l1 l2 l3 l4 σ h
    rcases xite_or h with ⟨-, h⟩ | ⟨-, h⟩
    · skip
      obtain ⟨x13, h13, h⟩ := Option.bind_eq_some_iff.mp h
      obtain ⟨e1, e2⟩ := xso2 h
      subst e1
      subst e2
      exact (xFr_tr xFr_rf (F_X9_tellThought h13) (by simp))
    · skip
      obtain ⟨x14, h14, h⟩ := Option.bind_eq_some_iff.mp h
      obtain ⟨x15, h15, h⟩ := Option.bind_eq_some_iff.mp h
      exact xFr_tq (xFr_tr xFr_rf (F_X9_goOwn h15) (by simp)) (ih l1 l2 l3 (l4 + (1 : Int32)) x15.2 h)
set_option maxRecDepth 100000 in
set_option maxHeartbeats 4000000 in
theorem F_X9_run {a1 : Int32} {a2 : Int32} {a3 : Int32} {σ : xS2} {r : Int32} {τ : xS2} (h : J_X9_run a1 a2 a3 σ = some (r, τ)) : xFr [(43, 10), (43, 11), (43, 34), (43, 35), (43, 36), (43, 37), (43, 8), (43, 9)] σ τ := by
  rcases xite_or h with ⟨-, h⟩ | ⟨-, h⟩
  · skip
    obtain ⟨e1, e2⟩ := xso2 h
    subst e1
    subst e2
    exact xFr_rf
  · skip
    rcases xite_or h with ⟨-, h⟩ | ⟨-, h⟩
    · skip
      obtain ⟨e1, e2⟩ := xso2 h
      subst e1
      subst e2
      exact xFr_rf
    · skip
      rcases xite_ro h with ⟨-, h⟩ | ⟨-, h⟩
      · skip
        obtain ⟨x6, h6, h⟩ := Option.bind_eq_some_iff.mp h
        rcases xite_or h with ⟨-, h⟩ | ⟨-, h⟩
        · skip
          obtain ⟨-, h⟩ := xgd_some h
          rcases xite_or h with ⟨-, h⟩ | ⟨-, h⟩
          · skip
            obtain ⟨e1, e2⟩ := xso2 h
            subst e1
            subst e2
            exact xFr_rf
          · skip
            rcases xite_or h with ⟨-, h⟩ | ⟨-, h⟩
            · skip
              obtain ⟨x11, h11, h⟩ := Option.bind_eq_some_iff.mp h
              exact xFr_tq (xFr_tr xFr_rf (F_X9_think h11) (by simp)) (FB_X9_run_67 xFU a1 a2 a3 (0 : Int32) x11 h)
            · skip
              obtain ⟨e1, e2⟩ := xso2 h
              subst e1
              subst e2
              exact xFr_rf
        · skip
          obtain ⟨x16, h16, h⟩ := Option.bind_eq_some_iff.mp h
          obtain ⟨e1, e2⟩ := xso2 h
          subst e1
          subst e2
          exact xFr_rf
      · skip
        obtain ⟨e1, e2⟩ := xso2 h
        subst e1
        subst e2
        exact xFr_rf
set_option maxRecDepth 100000 in
set_option maxHeartbeats 4000000 in
theorem FB_X9_shift_150 {r : Int32} {τ : xS2} : ∀ (f : Nat) (l3 : Int32) (l4 : Int32) (l5 : Int32) (l6 : Int32) (σ : xS2), J_X9_shift_150 f l3 l4 l5 l6 σ = some (r, τ) → xFr [(72, 99), (73, 99)] σ τ := by
  intro f
  induction f with
  | zero => intro l3 l4 l5 l6 σ h; cases h
  | succ f ih =>
    intro l3 l4 l5 l6 σ h
    rcases xite_or h with ⟨-, h⟩ | ⟨-, h⟩
    · skip
      obtain ⟨e1, e2⟩ := xso2 h
      subst e1
      subst e2
      exact xFr_rf
    · skip
      obtain ⟨-, h⟩ := xgd_some h
      obtain ⟨-, h⟩ := xgd_some h
      exact xFr_tq (xFr_yL xFr_rf rfl) (ih l3 l4 l5 (l6 + (1 : Int32)) (yL σ 72 ((((60 : Int32) * l3) + l4) + l6).toNatClampNeg (σ.2 73 l6.toNatClampNeg)) h)
set_option maxRecDepth 100000 in
set_option maxHeartbeats 4000000 in
theorem FB_X9_shift_113 {r : Int32} {τ : xS2} : ∀ (f : Nat) (l1 : Int32) (l2 : Int32) (l3 : Int32) (l4 : Int32) (l5 : Int32) (l6 : Int32) (σ : xS2), J_X9_shift_113 f l1 l2 l3 l4 l5 l6 σ = some (r, τ) → xFr [(72, 99), (73, 99)] σ τ := by
  intro f
  induction f with
  | zero => intro l1 l2 l3 l4 l5 l6 σ h; cases h
  | succ f ih =>
    intro l1 l2 l3 l4 l5 l6 σ h
    rcases xite_or h with ⟨-, h⟩ | ⟨-, h⟩
    · skip
      exact xFr_tq xFr_rf (FB_X9_shift_150 xFU l3 l4 l5 (0 : Int32) σ h)
    · skip
      obtain ⟨-, h⟩ := xgd_some h
      obtain ⟨-, h⟩ := xgd_some h
      exact xFr_tq (xFr_yL xFr_rf rfl) (ih l1 l2 l3 l4 l5 (l6 + (1 : Int32)) (yL σ 73 l6.toNatClampNeg (σ.2 72 ((((60 : Int32) * l1) + l2) + l6).toNatClampNeg)) h)
set_option maxRecDepth 100000 in
set_option maxHeartbeats 4000000 in
theorem F_X9_shift {a1 : Int32} {a2 : Int32} {a3 : Int32} {a4 : Int32} {a5 : Int32} {σ : xS2} {r : Int32} {τ : xS2} (h : J_X9_shift a1 a2 a3 a4 a5 σ = some (r, τ)) : xFr [(72, 99), (73, 99)] σ τ := by
  rcases xite_or h with ⟨-, h⟩ | ⟨-, h⟩
  · skip
    obtain ⟨e1, e2⟩ := xso2 h
    subst e1
    subst e2
    exact xFr_rf
  · skip
    rcases xite_ro h with ⟨-, h⟩ | ⟨-, h⟩
    · skip
      obtain ⟨-, h⟩ := xgd_some h
      rcases xite_or h with ⟨-, h⟩ | ⟨-, h⟩
      · skip
        obtain ⟨e1, e2⟩ := xso2 h
        subst e1
        subst e2
        exact xFr_rf
      · skip
        obtain ⟨-, h⟩ := xgd_some h
        rcases xite_ro h with ⟨-, h⟩ | ⟨-, h⟩
        · skip
          obtain ⟨-, h⟩ := xgd_some h
          rcases xite_or h with ⟨-, h⟩ | ⟨-, h⟩
          · skip
            obtain ⟨e1, e2⟩ := xso2 h
            subst e1
            subst e2
            exact xFr_rf
          · skip
            obtain ⟨-, h⟩ := xgd_some h
            obtain ⟨-, h⟩ := xgd_some h
            rcases xite_or h with ⟨-, h⟩ | ⟨-, h⟩
            · skip
              rcases xite_or h with ⟨-, h⟩ | ⟨-, h⟩
              · skip
                obtain ⟨e1, e2⟩ := xso2 h
                subst e1
                subst e2
                exact xFr_rf
              · skip
                rcases xite_or h with ⟨-, h⟩ | ⟨-, h⟩
                · skip
                  obtain ⟨e1, e2⟩ := xso2 h
                  subst e1
                  subst e2
                  exact xFr_rf
                · skip
                  rcases xite_or h with ⟨-, h⟩ | ⟨-, h⟩
                  · skip
                    obtain ⟨e1, e2⟩ := xso2 h
                    subst e1
                    subst e2
                    exact xFr_rf
                  · skip
                    obtain ⟨-, h⟩ := xgd_some h
                    rcases xite_or h with ⟨-, h⟩ | ⟨-, h⟩
                    · skip
                      obtain ⟨e1, e2⟩ := xso2 h
                      subst e1
                      subst e2
                      exact xFr_rf
                    · skip
                      obtain ⟨-, h⟩ := xgd_some h
                      rcases xite_or h with ⟨-, h⟩ | ⟨-, h⟩
                      · skip
                        exact xFr_tq xFr_rf (FB_X9_shift_113 xFU a1 a2 a3 a4 a5 (0 : Int32) σ h)
                      · skip
                        obtain ⟨e1, e2⟩ := xso2 h
                        subst e1
                        subst e2
                        exact xFr_rf
            · skip
              obtain ⟨e1, e2⟩ := xso2 h
              subst e1
              subst e2
              exact xFr_rf
        · skip
          obtain ⟨e1, e2⟩ := xso2 h
          subst e1
          subst e2
          exact xFr_rf
    · skip
      obtain ⟨e1, e2⟩ := xso2 h
      subst e1
      subst e2
      exact xFr_rf
set_option maxRecDepth 100000 in
set_option maxHeartbeats 4000000 in
theorem FB_X9_soonest_63 {r : Int32} {τ : xS2} : ∀ (f : Nat) (l1 : Int32) (l2 : Int32) (l3 : Int32) (σ : xS2), J_X9_soonest_63 f l1 l2 l3 σ = some (r, τ) → xFr [(63, 99), (64, 99)] σ τ := by
  intro f
  induction f with
  | zero => intro l1 l2 l3 σ h; cases h
  | succ f ih =>
    intro l1 l2 l3 σ h
    rcases xite_or h with ⟨-, h⟩ | ⟨-, h⟩
    · skip
      obtain ⟨e1, e2⟩ := xso2 h
      subst e1
      subst e2
      exact xFr_rf
    · skip
      obtain ⟨x8, h8, h⟩ := Option.bind_eq_some_iff.mp h
      rcases xite_or h with ⟨-, h⟩ | ⟨-, h⟩
      · skip
        rcases xite_or h with ⟨-, h⟩ | ⟨-, h⟩
        · skip
          obtain ⟨x11, h11, h⟩ := Option.bind_eq_some_iff.mp h
          exact xFr_tq (xFr_tr xFr_rf (F_X9_goOn h11) (by simp)) (ih l1 l2 (l3 + (1 : Int32)) x11 h)
        · skip
          obtain ⟨e1, e2⟩ := xso2 h
          subst e1
          subst e2
          exact xFr_rf
      · skip
        rcases xite_ro h with ⟨-, h⟩ | ⟨-, h⟩
        · skip
          obtain ⟨x13, h13, h⟩ := Option.bind_eq_some_iff.mp h
          obtain ⟨e1, e2⟩ := xso2 h
          subst e1
          subst e2
          exact xFr_rf
        · skip
          obtain ⟨e1, e2⟩ := xso2 h
          subst e1
          subst e2
          exact xFr_rf
set_option maxRecDepth 100000 in
set_option maxHeartbeats 4000000 in
theorem FB_X9_soonest_20 {r : Int32} {τ : xS2} : ∀ (f : Nat) (l1 : Int32) (l2 : Int32) (l3 : Int32) (σ : xS2), J_X9_soonest_20 f l1 l2 l3 σ = some (r, τ) → xFr [(63, 99), (64, 99)] σ τ := by
  intro f
  induction f with
  | zero => intro l1 l2 l3 σ h; cases h
  | succ f ih =>
    intro l1 l2 l3 σ h
    rcases xite_or h with ⟨-, h⟩ | ⟨-, h⟩
    · skip
      obtain ⟨-, h⟩ := xgd_some h
      exact xFr_tq (xFr_yI xFr_rf rfl) (FB_X9_soonest_63 xFU l1 l2 (0 : Int32) (yI σ 63 (((10 : Int32) * (σ.1 43 8)) + (σ.1 43 10)).toNatClampNeg (σ.1 43 9)) h)
    · skip
      obtain ⟨-, h⟩ := xgd_some h
      exact xFr_tq (xFr_yI xFr_rf rfl) (ih l1 l2 (l3 + (1 : Int32)) (yI σ 63 l3.toNatClampNeg (-1 : Int32)) h)
set_option maxRecDepth 100000 in
set_option maxHeartbeats 4000000 in
theorem F_X9_soonest {a1 : Int32} {a2 : Int32} {σ : xS2} {r : Int32} {τ : xS2} (h : J_X9_soonest a1 a2 σ = some (r, τ)) : xFr [(63, 99), (64, 99)] σ τ := by
  rcases xite_or h with ⟨-, h⟩ | ⟨-, h⟩
  · skip
    obtain ⟨e1, e2⟩ := xso2 h
    subst e1
    subst e2
    exact xFr_rf
  · skip
    rcases xite_ro h with ⟨-, h⟩ | ⟨-, h⟩
    · skip
      exact xFr_tq xFr_rf (FB_X9_soonest_20 xFU a1 a2 (0 : Int32) σ h)
    · skip
      obtain ⟨e1, e2⟩ := xso2 h
      subst e1
      subst e2
      exact xFr_rf
set_option maxRecDepth 100000 in
set_option maxHeartbeats 4000000 in
theorem F_X9_undo {σ : xS2} {r : Int32} {τ : xS2} (h : J_X9_undo σ = some (r, τ)) : xFr [(43, 14), (43, 15), (43, 5), (43, 6), (44, 99), (45, 99), (46, 99), (47, 99)] σ τ := by
  rcases xite_ro h with ⟨-, h⟩ | ⟨-, h⟩
  · skip
    obtain ⟨-, h⟩ := xgd_some h
    obtain ⟨-, h⟩ := xgd_some h
    obtain ⟨-, h⟩ := xgd_some h
    obtain ⟨x5, h5, h⟩ := Option.bind_eq_some_iff.mp h
    obtain ⟨e1, e2⟩ := xso2 h
    subst e1
    subst e2
    exact (xFr_tr (xFr_yI (xFr_yI xFr_rf rfl) rfl) (F_X9_lays h5) (by simp))
  · skip
    obtain ⟨e1, e2⟩ := xso2 h
    subst e1
    subst e2
    exact xFr_rf
