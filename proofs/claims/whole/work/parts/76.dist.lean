/-! The cheapest ways: what both work out is one. -/
/-- what is left to pay to the cells of G -/
def xDist (G : Nat → Prop) (pr : Nat → Nat → Nat) (L : Nat → Nat) : Prop := (∀ c, c < 36 → G c → L c = 0) ∧ (∀ c, c < 36 → ∀ k, 0 < k → k < 5 → xNb c k < 36 → L c ≤ L (xNb c k) + pr c (xNb c k)) ∧ (∀ c, c < 36 → ¬ G c → ∃ k, 0 < k ∧ k < 5 ∧ xNb c k < 36 ∧ L c = L (xNb c k) + pr c (xNb c k))
def xPp (pr : Nat → Nat → Nat) : Prop := ∀ a b, a < 36 → b < 36 → 3 ≤ pr a b ∧ pr a b ≤ 26
theorem dist_le {G : Nat → Prop} {pr : Nat → Nat → Nat} {L d : Nat → Nat} (hp : xPp pr) (h1 : ∀ c, c < 36 → G c → L c = 0) (h2 : ∀ c, c < 36 → ∀ k, 0 < k → k < 5 → xNb c k < 36 → L c ≤ L (xNb c k) + pr c (xNb c k)) (hd : xDist G pr d) : ∀ c, c < 36 → L c ≤ d c := by
  have key : ∀ n c, c < 36 → d c < n → L c ≤ d c := by
    intro n
    induction n with
    | zero => intro c _ h; omega
    | succ n ih =>
      intro c hc hn
      by_cases g : G c
      · rw [h1 c hc g]; omega
      · obtain ⟨k, k0, k5, kb, e⟩ := hd.2.2 c hc g
        have hw := (hp c (xNb c k) hc kb).1
        have := ih (xNb c k) kb (by omega)
        have := h2 c hc k k0 k5 kb
        omega
  exact fun c hc => key (d c + 1) c hc (by omega)
theorem dist_eq {G : Nat → Prop} {pr : Nat → Nat → Nat} {L d : Nat → Nat} (hp : xPp pr) (hL : xDist G pr L) (hd : xDist G pr d) {c : Nat} (hc : c < 36) : L c = d c := by
  have a := dist_le hp hL.1 hL.2.1 hd c hc
  have b := dist_le hp hd.1 hd.2.1 hL c hc
  omega
def xHop (c g : Nat) : Nat := (c / 6 - g / 6) + (g / 6 - c / 6) + (c % 6 - g % 6) + (g % 6 - c % 6)
theorem hop_facts : ∀ c, c < 36 → ∀ g, g < 36 → (c = g ∨ ∃ k, k < 5 ∧ 0 < k ∧ xNb c k < 36 ∧ xHop (xNb c k) g + 1 = xHop c g) ∧ xHop c g ≤ 10 := by decide +kernel
theorem dist_bound {pr : Nat → Nat → Nat} {L : Nat → Nat} {g : Nat} (hp : xPp pr) (hg : g < 36) (h1 : L g = 0) (h2 : ∀ c, c < 36 → ∀ k, 0 < k → k < 5 → xNb c k < 36 → L c ≤ L (xNb c k) + pr c (xNb c k)) : ∀ c, c < 36 → L c ≤ 260 := by
  have key : ∀ n c, c < 36 → xHop c g ≤ n → L c ≤ 26 * n := by
    intro n
    induction n with
    | zero =>
      intro c hc hn
      rcases (hop_facts c hc g hg).1 with rfl | ⟨k, k5, k0, kb, e⟩
      · omega
      · omega
    | succ n ih =>
      intro c hc hn
      rcases (hop_facts c hc g hg).1 with rfl | ⟨k, k5, k0, kb, e⟩
      · omega
      · have := ih (xNb c k) kb (by omega)
        have := h2 c hc k k0 k5 kb
        have := (hp c (xNb c k) hc kb).2
        omega
  intro c hc
  have := key 10 c hc (hop_facts c hc g hg).2
  omega
def xOp (k : Nat) : Nat := if k = 1 then 3 else if k = 2 then 4 else if k = 3 then 1 else 2
theorem nb_ne : ∀ c, c < 36 → ∀ k, k < 5 → 0 < k → xNb c k < 36 → xNb c k ≠ c := by decide +kernel
theorem nb_back : ∀ c, c < 36 → ∀ k, k < 5 → 0 < k → xNb c k < 36 → xNb (xNb c k) (xOp k) = c := by decide +kernel
theorem op_rg : ∀ k, 0 < xOp k ∧ xOp k < 5 := by
  intro k
  unfold xOp
  split
  · decide
  · split
    · decide
    · split <;> decide
/-- the prices of a plain -/
def xPrs (σ : xS2) (pr : Nat → Nat → Nat) : Prop := xPp pr ∧ ∀ a b, a < 36 → b < 36 → xPrice (σ.1 2 192) (σ.1 2 a) (σ.1 2 b) = nI (pr a b)
theorem price_rg2 : ∀ W, W < 7 → 0 < W → ∀ a, a < 10 → ∀ b, b < 10 → 3 ≤ (xPrice (nI W) (nI a) (nI b)).toInt ∧ (xPrice (nI W) (nI a) (nI b)).toInt ≤ 26 := by decide +kernel
theorem xPrs_of {σ : xS2} (h : xIP σ) : ∃ pr, xPrs σ pr := by
  have key : ∀ a b, a < 36 → b < 36 → ∃ n : Nat, 3 ≤ n ∧ n ≤ 26 ∧ xPrice (σ.1 2 192) (σ.1 2 a) (σ.1 2 b) = nI n := by
    intro a b ha hb
    obtain ⟨W, hW, eW⟩ := xRg_at (l := 6) (xRg_w h.2.2.2.2.1.2 (by decide) (by decide))
    have hW1 : 0 < W := by
      have := h.2.2.2.2.1.2.1
      rw [eW, nI_toInt (by omega)] at this
      omega
    obtain ⟨x, hx, ex⟩ := xRg_at (l := 9) (h.1 a ha).2
    obtain ⟨y, hy, ey⟩ := xRg_at (l := 9) (h.1 b hb).2
    obtain ⟨p1, p2⟩ := price_rg2 W (by omega) hW1 x (by omega) y (by omega)
    obtain ⟨n, hn, en, -⟩ := i_nat (i := xPrice (nI W) (nI x) (nI y)) (l := 26) (by omega) p2
    rw [en, nI_toInt (by omega)] at p1
    exact ⟨n, by omega, hn, by rw [eW, ex, ey, en]⟩
  refine ⟨fun a b => (xPrice (σ.1 2 192) (σ.1 2 a) (σ.1 2 b)).toNatClampNeg, fun a b ha hb => ?_, fun a b ha hb => ?_⟩
  · obtain ⟨n, h1, h2, h3⟩ := key a b ha hb
    show 3 ≤ (xPrice (σ.1 2 192) (σ.1 2 a) (σ.1 2 b)).toNatClampNeg ∧ (xPrice (σ.1 2 192) (σ.1 2 a) (σ.1 2 b)).toNatClampNeg ≤ 26
    rw [h3, nI_c (by omega)]
    exact ⟨h1, h2⟩
  · obtain ⟨n, h1, h2, h3⟩ := key a b ha hb
    show _ = nI ((xPrice (σ.1 2 192) (σ.1 2 a) (σ.1 2 b)).toNatClampNeg)
    rw [h3, nI_c (by omega)]
theorem xPrs_fr {σ τ : xS2} {pr : Nat → Nat → Nat} (h : xPrs σ pr) (e : ∀ k, τ.1 2 k = σ.1 2 k) : xPrs τ pr := ⟨h.1, fun a b ha hb => by rw [e, e, e]; exact h.2 a b ha hb⟩
-- bits
theorem bit_set1 : ∀ x, x < 36 → ∀ c, c < 36 → (xls 1 (nI x)).toBitVec.getLsbD c = decide (c = x) := by decide +kernel
theorem bit_set {Z : Int64} {x c : Nat} (hx : x < 36) (hc : c < 36) : (Z ||| xls 1 (nI x)).toBitVec.getLsbD c = (Z.toBitVec.getLsbD c || decide (c = x)) := by
  rw [Int64.toBitVec_or, BitVec.getLsbD_or, bit_set1 x hx c hc]
/-- how many cells are not in a set -/
def xOpn (Z : Int64) : Nat := ((List.range 36).filter fun c => !Z.toBitVec.getLsbD c).length
theorem opn_set {Z : Int64} {x : Nat} (hx : x < 36) (h : Z.toBitVec.getLsbD x = false) : xOpn (Z ||| xls 1 (nI x)) < xOpn Z := by
  unfold xOpn
  have e : ((List.range 36).filter fun c => !(Z ||| xls 1 (nI x)).toBitVec.getLsbD c) = ((List.range 36).filter fun c => !Z.toBitVec.getLsbD c).filter fun c => !decide (c = x) := by
    rw [List.filter_filter]
    refine List.filter_congr fun c hc => ?_
    rw [bit_set hx (List.mem_range.mp hc), Bool.not_or, Bool.and_comm]
  rw [e, List.length_filter_lt_length_iff_exists]
  exact ⟨x, List.mem_filter.mpr ⟨List.mem_range.mpr hx, by rw [h]; rfl⟩, by simp⟩
theorem opn_0 {Z : Int64} (h : xOpn Z = 0) {c : Nat} (hc : c < 36) : Z.toBitVec.getLsbD c = true := by
  cases q : Z.toBitVec.getLsbD c with
  | true => rfl
  | false =>
    have : c ∈ (List.range 36).filter fun c => !Z.toBitVec.getLsbD c := List.mem_filter.mpr ⟨List.mem_range.mpr hc, by rw [q]; rfl⟩
    have e : (List.range 36).filter (fun c => !Z.toBitVec.getLsbD c) = [] := List.length_eq_zero_iff.mp h
    rw [e] at this
    cases this
theorem opn_le (Z : Int64) : xOpn Z ≤ 36 := by
  have := List.length_filter_le (fun c => !Z.toBitVec.getLsbD c) (List.range 36)
  rw [List.length_range] at this
  exact this
