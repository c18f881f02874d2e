def mM_L_law : xMI := (yL_law, cL_law, 4, (some .boolean), RL)
theorem x_sld {G : xG} {l : Launch} {M : xMI} {K : xK} {pc : Nat} {lv : List (Nat × Value)} {rest : List Value} {σ : xMem} {b L : Nat} {xs : Nat → Int32} {i : Int32} (hC : xCX G M K) (hX : va_X b L xs (xKs K) (xKs K).heap) (hbl : b < (xKs K).heap.size) (hbA : ¬ xA G b) (hdg : decode M.2.1 pc = .ok (.iaload, 1)) (hin : vp_in i L) (kk : xV G l M K (pc + 1) lv (.int (xs i.toNatClampNeg) :: rest) σ) : xV G l M K pc lv (.int i :: .ref b :: rest) σ :=
  fun H locs ls cells slots hi hl => va_sld hC.1 hC.2.1 hX hbl hbA hi.2.2.2.2.2.2 hin hdg (kk H locs ls cells slots hi hl)
theorem x_slen {G : xG} {l : Launch} {M : xMI} {K : xK} {pc : Nat} {lv : List (Nat × Value)} {rest : List Value} {σ : xMem} {b L : Nat} {xs : Nat → Int32} (hC : xCX G M K) (hX : va_X b L xs (xKs K) (xKs K).heap) (hbl : b < (xKs K).heap.size) (hbA : ¬ xA G b) (hdg : decode M.2.1 pc = .ok (.arraylength, 1)) (kk : xV G l M K (pc + 1) lv (.int (Int32.ofNat L) :: rest) σ) : xV G l M K pc lv (.ref b :: rest) σ :=
  fun H locs ls cells slots hi hl => va_slen hC.1 hC.2.1 hX hbl hbA hi.2.2.2.2.2.2 hdg (kk H locs ls cells slots hi hl)
theorem x_cmp_same (r : Int64) : lg_cmp r r = 0 := by simp [lg_cmp]
theorem x_law_le {k L : Nat} (hk : k ≤ L) (hL : L ≤ 3072) (h : ¬ (Int32.ofNat L - (6 : Int32)) < nI k) : k + 6 ≤ L := by
  rw [Int32.lt_iff_toInt_lt, Int32.toInt_sub, nI_toInt (by omega), show (Int32.ofNat L).toInt = (L : Int) from nI_toInt (by omega), show (6 : Int32).toInt = 6 from rfl] at h
  rw [Int.bmod_eq_of_le (by omega) (by omega)] at h
  omega
theorem wml_L_13 : Cond.methodLink RL 13 yX8_mend ∈ xTbl := xmt_2 41 (by decide +kernel) (by decide +kernel)
theorem wml_L_17 : Cond.methodLink RL 17 yX9_mend ∈ xTbl := xmt_5 112 (by decide +kernel) (by decide +kernel)
theorem wml_L_18 : Cond.methodLink RL 18 yX8_of ∈ xTbl := xmt_2 78 (by decide +kernel) (by decide +kernel)
theorem wml_L_22 : Cond.methodLink RL 22 yX9_of ∈ xTbl := xmt_5 140 (by decide +kernel) (by decide +kernel)
theorem wml_L_23 : Cond.methodLink RL 23 yX8_heights ∈ xTbl := xmt_2 114 (by decide +kernel) (by decide +kernel)
theorem wml_L_26 : Cond.methodLink RL 26 yX9_heights ∈ xTbl := xmt_5 158 (by decide +kernel) (by decide +kernel)
theorem wml_L_27 : Cond.methodLink RL 27 yX8_feed ∈ xTbl := xmt_2 141 (by decide +kernel) (by decide +kernel)
theorem wml_L_31 : Cond.methodLink RL 31 yX9_feed ∈ xTbl := xmt_5 165 (by decide +kernel) (by decide +kernel)
theorem wml_L_32 : Cond.methodLink RL 32 yX8_law ∈ xTbl := xmt_2 149 (by decide +kernel) (by decide +kernel)
theorem wml_L_36 : Cond.methodLink RL 36 yX9_law ∈ xTbl := xmt_5 169 (by decide +kernel) (by decide +kernel)
theorem wml_L_37 : Cond.methodLink RL 37 yX8_cost ∈ xTbl := xmt_2 216 (by decide +kernel) (by decide +kernel)
theorem wml_L_40 : Cond.methodLink RL 40 yX9_cost ∈ xTbl := xmt_5 228 (by decide +kernel) (by decide +kernel)
theorem wml_L_41 : Cond.methodLink RL 41 yX8_order ∈ xTbl := xmt_2 228 (by decide +kernel) (by decide +kernel)
theorem wml_L_44 : Cond.methodLink RL 44 yX9_order ∈ xTbl := xmt_5 236 (by decide +kernel) (by decide +kernel)
theorem wml_L_45 : Cond.methodLink RL 45 yX8_day ∈ xTbl := xmt_3 32 (by decide +kernel) (by decide +kernel)
theorem wml_L_48 : Cond.methodLink RL 48 yX9_day ∈ xTbl := xmt_6 15 (by decide +kernel) (by decide +kernel)
theorem wml_L_49 : Cond.methodLink RL 49 yX8_days ∈ xTbl := xmt_3 69 (by decide +kernel) (by decide +kernel)
theorem wml_L_52 : Cond.methodLink RL 52 yX9_days ∈ xTbl := xmt_6 41 (by decide +kernel) (by decide +kernel)
theorem wml_L_53 : Cond.methodLink RL 53 yX8_led ∈ xTbl := xmt_3 73 (by decide +kernel) (by decide +kernel)
theorem wml_L_56 : Cond.methodLink RL 56 yX9_led ∈ xTbl := xmt_6 45 (by decide +kernel) (by decide +kernel)
theorem wml_L_57 : Cond.methodLink RL 57 yX8_run ∈ xTbl := xmt_3 80 (by decide +kernel) (by decide +kernel)
theorem wml_L_60 : Cond.methodLink RL 60 yX9_run ∈ xTbl := xmt_6 49 (by decide +kernel) (by decide +kernel)
theorem wml_L_61 : Cond.methodLink RL 61 yX8_first ∈ xTbl := xmt_3 103 (by decide +kernel) (by decide +kernel)
theorem wml_L_64 : Cond.methodLink RL 64 yX9_first ∈ xTbl := xmt_6 77 (by decide +kernel) (by decide +kernel)
theorem wml_L_65 : Cond.methodLink RL 65 yX8_lawful ∈ xTbl := xmt_3 108 (by decide +kernel) (by decide +kernel)
theorem wml_L_68 : Cond.methodLink RL 68 yX9_lawful ∈ xTbl := xmt_6 81 (by decide +kernel) (by decide +kernel)
theorem wml_L_69 : Cond.methodLink RL 69 yX8_cheapest ∈ xTbl := xmt_3 112 (by decide +kernel) (by decide +kernel)
theorem wml_L_72 : Cond.methodLink RL 72 yX9_cheapest ∈ xTbl := xmt_6 85 (by decide +kernel) (by decide +kernel)
theorem wml_L_73 : Cond.methodLink RL 73 yX8_soonest ∈ xTbl := xmt_3 142 (by decide +kernel) (by decide +kernel)
theorem wml_L_76 : Cond.methodLink RL 76 yX9_soonest ∈ xTbl := xmt_6 94 (by decide +kernel) (by decide +kernel)
theorem wml_L_77 : Cond.methodLink RL 77 yX8_round ∈ xTbl := xmt_3 171 (by decide +kernel) (by decide +kernel)
theorem wml_L_80 : Cond.methodLink RL 80 yX9_round ∈ xTbl := xmt_6 110 (by decide +kernel) (by decide +kernel)
theorem wml_L_81 : Cond.methodLink RL 81 yX8_lasts ∈ xTbl := xmt_3 194 (by decide +kernel) (by decide +kernel)
theorem wml_L_84 : Cond.methodLink RL 84 yX9_lasts ∈ xTbl := xmt_6 122 (by decide +kernel) (by decide +kernel)
theorem wml_L_85 : Cond.methodLink RL 85 yX8_clean ∈ xTbl := xmt_3 202 (by decide +kernel) (by decide +kernel)
theorem wml_L_89 : Cond.methodLink RL 89 yX9_clean ∈ xTbl := xmt_6 126 (by decide +kernel) (by decide +kernel)
theorem wml_L_90 : Cond.methodLink RL 90 yX8_line ∈ xTbl := xmt_3 218 (by decide +kernel) (by decide +kernel)
theorem wml_L_94 : Cond.methodLink RL 94 yX9_line ∈ xTbl := xmt_6 137 (by decide +kernel) (by decide +kernel)
theorem wml_L_95 : Cond.methodLink RL 95 yX8_drawn ∈ xTbl := xmt_3 225 (by decide +kernel) (by decide +kernel)
theorem wml_L_98 : Cond.methodLink RL 98 yX9_drawn ∈ xTbl := xmt_6 145 (by decide +kernel) (by decide +kernel)
theorem wml_L_99 : Cond.methodLink RL 99 yX8_judge ∈ xTbl := xmt_3 230 (by decide +kernel) (by decide +kernel)
theorem wml_L_102 : Cond.methodLink RL 102 yX9_judge ∈ xTbl := xmt_6 150 (by decide +kernel) (by decide +kernel)
theorem wml_L_103 : Cond.methodLink RL 103 yX8_image ∈ xTbl := xmt_3 234 (by decide +kernel) (by decide +kernel)
theorem wml_L_106 : Cond.methodLink RL 106 yX9_image ∈ xTbl := xmt_6 154 (by decide +kernel) (by decide +kernel)
theorem wml_L_107 : Cond.methodLink RL 107 yX8_back ∈ xTbl := xmt_3 238 (by decide +kernel) (by decide +kernel)
theorem wml_L_110 : Cond.methodLink RL 110 yX9_back ∈ xTbl := xmt_6 158 (by decide +kernel) (by decide +kernel)
theorem wml_L_111 : Cond.methodLink RL 111 yX8_undo ∈ xTbl := xmt_4 2 (by decide +kernel) (by decide +kernel)
theorem wml_L_114 : Cond.methodLink RL 114 yX9_undo ∈ xTbl := xmt_5 100 (by decide +kernel) (by decide +kernel)
theorem wml_L_115 : Cond.methodLink RL 115 yX8_redo ∈ xTbl := xmt_4 11 (by decide +kernel) (by decide +kernel)
theorem wml_L_118 : Cond.methodLink RL 118 yX9_redo ∈ xTbl := xmt_5 108 (by decide +kernel) (by decide +kernel)
theorem wml_L_119 : Cond.methodLink RL 119 yX8_body ∈ xTbl := xmt_4 19 (by decide +kernel) (by decide +kernel)
theorem wml_L_122 : Cond.methodLink RL 122 yX9_body ∈ xTbl := xmt_6 166 (by decide +kernel) (by decide +kernel)
theorem wml_L_123 : Cond.methodLink RL 123 yX8_act ∈ xTbl := xmt_4 30 (by decide +kernel) (by decide +kernel)
theorem wml_L_126 : Cond.methodLink RL 126 yX9_act ∈ xTbl := xmt_6 170 (by decide +kernel) (by decide +kernel)
theorem wml_L_127 : Cond.methodLink RL 127 yX8_trace ∈ xTbl := xmt_4 67 (by decide +kernel) (by decide +kernel)
theorem wml_L_130 : Cond.methodLink RL 130 yX9_trace ∈ xTbl := xmt_6 162 (by decide +kernel) (by decide +kernel)
theorem wml_L_131 : Cond.methodLink RL 131 yX8_keep ∈ xTbl := xmt_4 75 (by decide +kernel) (by decide +kernel)
theorem wml_L_134 : Cond.methodLink RL 134 yX9_keep ∈ xTbl := xmt_7 1 (by decide +kernel) (by decide +kernel)
theorem wml_L_135 : Cond.methodLink RL 135 yX8_row ∈ xTbl := xmt_4 88 (by decide +kernel) (by decide +kernel)
theorem wml_L_138 : Cond.methodLink RL 138 yX9_row ∈ xTbl := xmt_7 5 (by decide +kernel) (by decide +kernel)
theorem wconstL_L_139 : Cond.constantLong RL 139 (4294967295) ∈ xTbl := xmt_7 29 (by decide +kernel) (by decide +kernel)
theorem wml_L_141 : Cond.methodLink RL 141 yX8_put ∈ xTbl := xmt_4 101 (by decide +kernel) (by decide +kernel)
theorem wml_L_145 : Cond.methodLink RL 145 yX9_put ∈ xTbl := xmt_7 9 (by decide +kernel) (by decide +kernel)
theorem wml_L_146 : Cond.methodLink RL 146 yX8_element ∈ xTbl := xmt_4 121 (by decide +kernel) (by decide +kernel)
theorem wml_L_149 : Cond.methodLink RL 149 yX9_element ∈ xTbl := xmt_7 17 (by decide +kernel) (by decide +kernel)
theorem wml_L_150 : Cond.methodLink RL 150 yX8_shift ∈ xTbl := xmt_4 125 (by decide +kernel) (by decide +kernel)
theorem wml_L_154 : Cond.methodLink RL 154 yX9_shift ∈ xTbl := xmt_7 21 (by decide +kernel) (by decide +kernel)
theorem wml_L_155 : Cond.methodLink RL 155 yX8_taken ∈ xTbl := xmt_4 130 (by decide +kernel) (by decide +kernel)
theorem wml_L_158 : Cond.methodLink RL 158 yX9_taken ∈ xTbl := xmt_7 25 (by decide +kernel) (by decide +kernel)
theorem wml_L_159 : Cond.methodLink RL 159 yX8_count ∈ xTbl := xmt_4 138 (by decide +kernel) (by decide +kernel)
theorem wml_L_162 : Cond.methodLink RL 162 yX9_count ∈ xTbl := xmt_6 229 (by decide +kernel) (by decide +kernel)
def xStep_mend (Inv : xS2 → Prop) : Prop := ∀ (a1 : Int32) (a2 : Int32) (a3 : Int32) (σ : xS2), Inv σ → ∃ (r : Int32) (τ : xS2) (ρ : xS2), J_X8_mend a1 a2 a3 σ = some (r, τ) ∧ J_X9_mend a1 a2 a3 τ = some (r, ρ) ∧ Inv ρ
def xStep_of (Inv : xS2 → Prop) : Prop := ∀ (a1 : Int32) (a2 : Int32) (σ : xS2), Inv σ → ∃ (r : Int32), J_X8_of a1 a2 σ = some r ∧ J_X9_of a1 a2 σ = some r ∧ Inv σ
def xStep_heights (Inv : xS2 → Prop) : Prop := ∀ (a1 : Int32) (a2 : Int32) (a3 : Int32) (σ : xS2), Inv σ → ∃ (r : Int32) (τ : xS2) (ρ : xS2), J_X8_heights a1 a2 a3 σ = some (r, τ) ∧ J_X9_heights a1 a2 a3 τ = some (r, ρ) ∧ Inv ρ
def xStep_feed (Inv : xS2 → Prop) : Prop := ∀ (a1 : Int32) (σ : xS2), Inv σ → ∃ (r : Int32) (τ : xS2) (ρ : xS2), J_X8_feed a1 σ = some (r, τ) ∧ J_X9_feed a1 τ = some (r, ρ) ∧ Inv ρ
def xStep_law (Inv : xS2 → Prop) : Prop := ∀ (σ : xS2), Inv σ → ∃ (r : Int32) (τ : xS2) (ρ : xS2), J_X8_law σ = some (r, τ) ∧ J_X9_law τ = some (r, ρ) ∧ Inv ρ
def xStep_cost (Inv : xS2 → Prop) : Prop := ∀ (a1 : Int32) (a2 : Int32) (σ : xS2), Inv σ → ∃ (r : Int32), J_X8_cost a1 a2 σ = some r ∧ J_X9_cost a1 a2 σ = some r ∧ Inv σ
def xStep_order (Inv : xS2 → Prop) : Prop := ∀ (σ : xS2), Inv σ → ∃ (r : Int32) (τ : xS2) (ρ : xS2), J_X8_order σ = some (r, τ) ∧ J_X9_order τ = some (r, ρ) ∧ Inv ρ
def xStep_day (Inv : xS2 → Prop) : Prop := ∀ (a1 : Int32) (σ : xS2), Inv σ → ∃ (r : Int32) (τ : xS2) (ρ : xS2), J_X8_day a1 σ = some (r, τ) ∧ J_X9_day a1 τ = some (r, ρ) ∧ Inv ρ
def xStep_days (Inv : xS2 → Prop) : Prop := ∀ (a1 : Int32) (σ : xS2), Inv σ → ∃ (r : Int32) (τ : xS2) (ρ : xS2), J_X8_days a1 σ = some (r, τ) ∧ J_X9_days a1 τ = some (r, ρ) ∧ Inv ρ
def xStep_led (Inv : xS2 → Prop) : Prop := ∀ (a1 : Int32) (a2 : Int32) (σ : xS2), Inv σ → ∃ (r : Int32), J_X8_led a1 a2 σ = some r ∧ J_X9_led a1 a2 σ = some r ∧ Inv σ
def xStep_run (Inv : xS2 → Prop) : Prop := ∀ (a1 : Int32) (a2 : Int32) (a3 : Int32) (σ : xS2), Inv σ → ∃ (r : Int32) (τ : xS2) (ρ : xS2), J_X8_run a1 a2 a3 σ = some (r, τ) ∧ J_X9_run a1 a2 a3 τ = some (r, ρ) ∧ Inv ρ
def xStep_first (Inv : xS2 → Prop) : Prop := ∀ (a1 : Int32) (σ : xS2), Inv σ → ∃ (r : Int32) (τ : xS2) (ρ : xS2), J_X8_first a1 σ = some (r, τ) ∧ J_X9_first a1 τ = some (r, ρ) ∧ Inv ρ
def xStep_lawful (Inv : xS2 → Prop) : Prop := ∀ (a1 : Int32) (a2 : Int32) (σ : xS2), Inv σ → ∃ (r : Int32) (τ : xS2) (ρ : xS2), J_X8_lawful a1 a2 σ = some (r, τ) ∧ J_X9_lawful a1 a2 τ = some (r, ρ) ∧ Inv ρ
def xStep_cheapest (Inv : xS2 → Prop) : Prop := ∀ (a1 : Int32) (a2 : Int32) (σ : xS2), Inv σ → ∃ (r : Int32) (τ : xS2) (ρ : xS2), J_X8_cheapest a1 a2 σ = some (r, τ) ∧ J_X9_cheapest a1 a2 τ = some (r, ρ) ∧ Inv ρ
def xStep_soonest (Inv : xS2 → Prop) : Prop := ∀ (a1 : Int32) (a2 : Int32) (σ : xS2), Inv σ → ∃ (r : Int32) (τ : xS2) (ρ : xS2), J_X8_soonest a1 a2 σ = some (r, τ) ∧ J_X9_soonest a1 a2 τ = some (r, ρ) ∧ Inv ρ
def xStep_round (Inv : xS2 → Prop) : Prop := ∀ (a1 : Int32) (σ : xS2), Inv σ → ∃ (r : Int32) (τ : xS2) (ρ : xS2), J_X8_round a1 σ = some (r, τ) ∧ J_X9_round a1 τ = some (r, ρ) ∧ Inv ρ
def xStep_lasts (Inv : xS2 → Prop) : Prop := ∀ (a1 : Int32) (σ : xS2), Inv σ → ∃ (r : Int32) (τ : xS2) (ρ : xS2), J_X8_lasts a1 σ = some (r, τ) ∧ J_X9_lasts a1 τ = some (r, ρ) ∧ Inv ρ
def xStep_clean (Inv : xS2 → Prop) : Prop := ∀ (a1 : Int32) (a2 : Int32) (a3 : Int32) (σ : xS2), Inv σ → ∃ (r : Int64), J_X8_clean a1 a2 a3 σ = some r ∧ J_X9_clean a1 a2 a3 σ = some r ∧ Inv σ
def xStep_line (Inv : xS2 → Prop) : Prop := ∀ (a1 : Int32) (a2 : Int32) (σ : xS2), Inv σ → ∃ (r : Int64), J_X8_line a1 a2 σ = some r ∧ J_X9_line a1 a2 σ = some r ∧ Inv σ
def xStep_drawn (Inv : xS2 → Prop) : Prop := ∀ (a1 : Int32) (a2 : Int32) (a3 : Int32) (σ : xS2), Inv σ → ∃ (r : Int32) (τ : xS2) (ρ : xS2), J_X8_drawn a1 a2 a3 σ = some (r, τ) ∧ J_X9_drawn a1 a2 a3 τ = some (r, ρ) ∧ Inv ρ
def xStep_judge (Inv : xS2 → Prop) : Prop := ∀ (a1 : Int32) (σ : xS2), Inv σ → ∃ (r : Int32) (τ : xS2) (ρ : xS2), J_X8_judge a1 σ = some (r, τ) ∧ J_X9_judge a1 τ = some (r, ρ) ∧ Inv ρ
def xStep_image (Inv : xS2 → Prop) : Prop := ∀ (σ : xS2), Inv σ → ∃ (r : Int32) (τ : xS2) (ρ : xS2), J_X8_image σ = some (r, τ) ∧ J_X9_image τ = some (r, ρ) ∧ Inv ρ
def xStep_back (Inv : xS2 → Prop) : Prop := ∀ (σ : xS2), Inv σ → ∃ (r : Int32) (τ : xS2) (ρ : xS2), J_X8_back σ = some (r, τ) ∧ J_X9_back τ = some (r, ρ) ∧ Inv ρ
def xStep_undo (Inv : xS2 → Prop) : Prop := ∀ (σ : xS2), Inv σ → ∃ (r : Int32) (τ : xS2) (ρ : xS2), J_X8_undo σ = some (r, τ) ∧ J_X9_undo τ = some (r, ρ) ∧ Inv ρ
def xStep_redo (Inv : xS2 → Prop) : Prop := ∀ (σ : xS2), Inv σ → ∃ (r : Int32) (τ : xS2) (ρ : xS2), J_X8_redo σ = some (r, τ) ∧ J_X9_redo τ = some (r, ρ) ∧ Inv ρ
def xStep_body (Inv : xS2 → Prop) : Prop := ∀ (a1 : Int32) (σ : xS2), Inv σ → ∃ (r : Int32) (τ : xS2) (ρ : xS2), J_X8_body a1 σ = some (r, τ) ∧ J_X9_body a1 τ = some (r, ρ) ∧ Inv ρ
def xStep_act (Inv : xS2 → Prop) : Prop := ∀ (a1 : Int32) (a2 : Int32) (a3 : Int32) (σ : xS2), Inv σ → ∃ (r : Int32) (τ : xS2) (ρ : xS2), J_X8_act a1 a2 a3 σ = some (r, τ) ∧ J_X9_act a1 a2 a3 τ = some (r, ρ) ∧ Inv ρ
def xStep_trace (Inv : xS2 → Prop) : Prop := ∀ (a1 : Int32) (σ : xS2), Inv σ → ∃ (r : Int32), J_X8_trace a1 σ = some r ∧ J_X9_trace a1 σ = some r ∧ Inv σ
def xStep_keep (Inv : xS2 → Prop) : Prop := ∀ (a1 : Int32) (a2 : Int32) (σ : xS2), Inv σ → ∃ (r : Int32) (τ : xS2) (ρ : xS2), J_X8_keep a1 a2 σ = some (r, τ) ∧ J_X9_keep a1 a2 τ = some (r, ρ) ∧ Inv ρ
def xStep_row (Inv : xS2 → Prop) : Prop := ∀ (a1 : Int32) (a2 : Int32) (a3 : Int32) (σ : xS2), Inv σ → ∃ (r : Int32) (τ : xS2) (ρ : xS2), J_X8_row a1 a2 a3 σ = some (r, τ) ∧ J_X9_row a1 a2 a3 τ = some (r, ρ) ∧ Inv ρ
def xStep_put (Inv : xS2 → Prop) : Prop := ∀ (a1 : Int32) (a2 : Int32) (a3 : Int64) (σ : xS2), Inv σ → ∃ (r : Int32) (τ : xS2) (ρ : xS2), J_X8_put a1 a2 a3 σ = some (r, τ) ∧ J_X9_put a1 a2 a3 τ = some (r, ρ) ∧ Inv ρ
def xStep_element (Inv : xS2 → Prop) : Prop := ∀ (a1 : Int32) (a2 : Int32) (σ : xS2), Inv σ → ∃ (r : Int64), J_X8_element a1 a2 σ = some r ∧ J_X9_element a1 a2 σ = some r ∧ Inv σ
def xStep_shift (Inv : xS2 → Prop) : Prop := ∀ (a1 : Int32) (a2 : Int32) (a3 : Int32) (a4 : Int32) (a5 : Int32) (σ : xS2), Inv σ → ∃ (r : Int32) (τ : xS2) (ρ : xS2), J_X8_shift a1 a2 a3 a4 a5 σ = some (r, τ) ∧ J_X9_shift a1 a2 a3 a4 a5 τ = some (r, ρ) ∧ Inv ρ
def xStep_taken (Inv : xS2 → Prop) : Prop := ∀ (a1 : Int32) (a2 : Int32) (σ : xS2), Inv σ → ∃ (r : Int32), J_X8_taken a1 a2 σ = some r ∧ J_X9_taken a1 a2 σ = some r ∧ Inv σ
def xStep_count (Inv : xS2 → Prop) : Prop := ∀ (a1 : Int32) (σ : xS2), Inv σ → ∃ (r : Int32), J_X8_count a1 σ = some r ∧ J_X9_count a1 σ = some r ∧ Inv σ
set_option maxRecDepth 100000 in
set_option maxHeartbeats 4000000 in
theorem xcase_mend {Inv : xS2 → Prop} {G : xG} {l : Launch} {K : xK} {b L : Nat} {xs : Nat → Int32} {x3 : Int32} (hC : xCX G mM_L_law K) (hR : xRd K 200) (hX : va_X b L xs (xKs K) (xKs K).heap) (hbl : b < (xKs K).heap.size) (hbA : ¬ xA G b) (hin0 : vp_in x3 L) (hin1 : vp_in (x3 + (1 : Int32)) L) (hin2 : vp_in (x3 + (2 : Int32)) L) (hin3 : vp_in (x3 + (3 : Int32)) L) (hin4 : vp_in (x3 + (4 : Int32)) L) (hin5 : vp_in (x3 + (5 : Int32)) L) (hs : xStep_mend Inv) (ht : ∀ σ : xS2, Inv σ → xV G l mM_L_law K 1266 [(3, .int x3), (2, .ref (xad G 43)), (1, .ref (xad G 0)), (0, .ref b)] [] (xM σ)) (σ : xS2) (hI : Inv σ) : xV G l mM_L_law K 188 [(3, .int x3), (2, .ref (xad G 43)), (1, .ref (xad G 0)), (0, .ref b)] [] (xM σ) := by
  obtain ⟨r, τ, ρ, e1, e2, hI2⟩ := hs (xs (x3 + (1 : Int32)).toNatClampNeg) (xs (x3 + (2 : Int32)).toNatClampNeg) (xs (x3 + (3 : Int32)).toNatClampNeg) σ hI
  refine x_aload_n hC dL_law_188 rfl (j := 2) rfl <| x_aload_n hC dL_law_189 rfl (j := 3) rfl <| x_iload_n hC dL_law_190 rfl (j := 0) rfl <| x_iconst (v := (1 : Int32)) hC dL_law_191 (by decide) <| x_iadd hC dL_law_192 <| x_sld hC hX hbl hbA dL_law_193 hin1 <| ?_
  refine x_aload_n hC dL_law_194 rfl (j := 3) rfl <| x_iload_n hC dL_law_195 rfl (j := 0) rfl <| x_iconst (v := (2 : Int32)) hC dL_law_196 (by decide) <| x_iadd hC dL_law_197 <| x_sld hC hX hbl hbA dL_law_198 hin2 <| x_aload_n hC dL_law_199 rfl (j := 3) rfl <| ?_
  refine x_iload_n hC dL_law_200 rfl (j := 0) rfl <| x_iconst (v := (3 : Int32)) hC dL_law_201 (by decide) <| x_iadd hC dL_law_202 <| x_sld hC hX hbl hbA dL_law_203 hin3 <| ?_
  refine x_callV hC hR dL_law_204 mK_X8_mend wml_L_13 (C_X8_mend (a1 := (xs (x3 + (1 : Int32)).toNatClampNeg)) (a2 := (xs (x3 + (2 : Int32)).toNatClampNeg)) (a3 := (xs (x3 + (3 : Int32)).toNatClampNeg)) (σ := σ) e1) (by omega) rfl (by decide) rfl rfl (xlt (by decide)) rfl (Nat.le_of_ble_eq_true rfl) rfl rfl rfl <| x_aload_n hC dL_law_207 rfl (j := 1) rfl <| x_aload_n hC dL_law_208 rfl (j := 3) rfl <| x_iload_n hC dL_law_209 rfl (j := 0) rfl <| x_iconst (v := (1 : Int32)) hC dL_law_210 (by decide) <| x_iadd hC dL_law_211 <| ?_
  refine x_sld hC hX hbl hbA dL_law_212 hin1 <| x_aload_n hC dL_law_213 rfl (j := 3) rfl <| x_iload_n hC dL_law_214 rfl (j := 0) rfl <| x_iconst (v := (2 : Int32)) hC dL_law_215 (by decide) <| x_iadd hC dL_law_216 <| x_sld hC hX hbl hbA dL_law_217 hin2 <| ?_
  refine x_aload_n hC dL_law_218 rfl (j := 3) rfl <| x_iload_n hC dL_law_219 rfl (j := 0) rfl <| x_iconst (v := (3 : Int32)) hC dL_law_220 (by decide) <| x_iadd hC dL_law_221 <| x_sld hC hX hbl hbA dL_law_222 hin3 <| x_callV hC hR dL_law_223 mK_X9_mend wml_L_17 (C_X9_mend (a1 := (xs (x3 + (1 : Int32)).toNatClampNeg)) (a2 := (xs (x3 + (2 : Int32)).toNatClampNeg)) (a3 := (xs (x3 + (3 : Int32)).toNatClampNeg)) (σ := τ) e2) (by omega) rfl (by decide) rfl rfl (xlt (by decide)) rfl (Nat.le_of_ble_eq_true rfl) rfl rfl rfl <| ?_
  refine x_icmp_eq (tgt := 1266) hC dL_law_226 (by decide) (fun _ => ?_) (fun z => absurd rfl z)
  exact ht ρ hI2
set_option maxRecDepth 100000 in
set_option maxHeartbeats 4000000 in
theorem xcase_of {Inv : xS2 → Prop} {G : xG} {l : Launch} {K : xK} {b L : Nat} {xs : Nat → Int32} {x3 : Int32} (hC : xCX G mM_L_law K) (hR : xRd K 200) (hX : va_X b L xs (xKs K) (xKs K).heap) (hbl : b < (xKs K).heap.size) (hbA : ¬ xA G b) (hin0 : vp_in x3 L) (hin1 : vp_in (x3 + (1 : Int32)) L) (hin2 : vp_in (x3 + (2 : Int32)) L) (hin3 : vp_in (x3 + (3 : Int32)) L) (hin4 : vp_in (x3 + (4 : Int32)) L) (hin5 : vp_in (x3 + (5 : Int32)) L) (hs : xStep_of Inv) (ht : ∀ σ : xS2, Inv σ → xV G l mM_L_law K 1266 [(3, .int x3), (2, .ref (xad G 43)), (1, .ref (xad G 0)), (0, .ref b)] [] (xM σ)) (σ : xS2) (hI : Inv σ) : xV G l mM_L_law K 231 [(3, .int x3), (2, .ref (xad G 43)), (1, .ref (xad G 0)), (0, .ref b)] [] (xM σ) := by
  obtain ⟨r, e1, e2, hI2⟩ := hs (xs (x3 + (1 : Int32)).toNatClampNeg) (xs (x3 + (2 : Int32)).toNatClampNeg) σ hI
  refine x_aload_n hC dL_law_231 rfl (j := 2) rfl <| x_aload_n hC dL_law_232 rfl (j := 3) rfl <| x_iload_n hC dL_law_233 rfl (j := 0) rfl <| x_iconst (v := (1 : Int32)) hC dL_law_234 (by decide) <| x_iadd hC dL_law_235 <| x_sld hC hX hbl hbA dL_law_236 hin1 <| ?_
  refine x_aload_n hC dL_law_237 rfl (j := 3) rfl <| x_iload_n hC dL_law_238 rfl (j := 0) rfl <| x_iconst (v := (2 : Int32)) hC dL_law_239 (by decide) <| x_iadd hC dL_law_240 <| x_sld hC hX hbl hbA dL_law_241 hin2 <| ?_
  refine x_callV hC hR dL_law_242 mK_X8_of wml_L_18 (C_X8_of (a1 := (xs (x3 + (1 : Int32)).toNatClampNeg)) (a2 := (xs (x3 + (2 : Int32)).toNatClampNeg)) (σ := σ) e1) (by omega) rfl (by decide) rfl rfl (xlt (by decide)) rfl (Nat.le_of_ble_eq_true rfl) rfl rfl rfl <| x_aload_n hC dL_law_245 rfl (j := 1) rfl <| x_aload_n hC dL_law_246 rfl (j := 3) rfl <| x_iload_n hC dL_law_247 rfl (j := 0) rfl <| x_iconst (v := (1 : Int32)) hC dL_law_248 (by decide) <| x_iadd hC dL_law_249 <| ?_
  refine x_sld hC hX hbl hbA dL_law_250 hin1 <| x_aload_n hC dL_law_251 rfl (j := 3) rfl <| x_iload_n hC dL_law_252 rfl (j := 0) rfl <| x_iconst (v := (2 : Int32)) hC dL_law_253 (by decide) <| x_iadd hC dL_law_254 <| x_sld hC hX hbl hbA dL_law_255 hin2 <| ?_
  refine x_callV hC hR dL_law_256 mK_X9_of wml_L_22 (C_X9_of (a1 := (xs (x3 + (1 : Int32)).toNatClampNeg)) (a2 := (xs (x3 + (2 : Int32)).toNatClampNeg)) (σ := σ) e2) (by omega) rfl (by decide) rfl rfl (xlt (by decide)) rfl (Nat.le_of_ble_eq_true rfl) rfl rfl rfl <| ?_
  refine x_icmp_eq (tgt := 1266) hC dL_law_259 (by decide) (fun _ => ?_) (fun z => absurd rfl z)
  exact ht σ hI2
set_option maxRecDepth 100000 in
set_option maxHeartbeats 4000000 in
theorem xcase_heights {Inv : xS2 → Prop} {G : xG} {l : Launch} {K : xK} {b L : Nat} {xs : Nat → Int32} {x3 : Int32} (hC : xCX G mM_L_law K) (hR : xRd K 200) (hX : va_X b L xs (xKs K) (xKs K).heap) (hbl : b < (xKs K).heap.size) (hbA : ¬ xA G b) (hin0 : vp_in x3 L) (hin1 : vp_in (x3 + (1 : Int32)) L) (hin2 : vp_in (x3 + (2 : Int32)) L) (hin3 : vp_in (x3 + (3 : Int32)) L) (hin4 : vp_in (x3 + (4 : Int32)) L) (hin5 : vp_in (x3 + (5 : Int32)) L) (hs : xStep_heights Inv) (ht : ∀ σ : xS2, Inv σ → xV G l mM_L_law K 1266 [(3, .int x3), (2, .ref (xad G 43)), (1, .ref (xad G 0)), (0, .ref b)] [] (xM σ)) (σ : xS2) (hI : Inv σ) : xV G l mM_L_law K 264 [(3, .int x3), (2, .ref (xad G 43)), (1, .ref (xad G 0)), (0, .ref b)] [] (xM σ) := by
  obtain ⟨r, τ, ρ, e1, e2, hI2⟩ := hs (xs (x3 + (1 : Int32)).toNatClampNeg) (xs (x3 + (2 : Int32)).toNatClampNeg) (xs (x3 + (3 : Int32)).toNatClampNeg) σ hI
  refine x_aload_n hC dL_law_264 rfl (j := 2) rfl <| x_aload_n hC dL_law_265 rfl (j := 3) rfl <| x_iload_n hC dL_law_266 rfl (j := 0) rfl <| x_iconst (v := (1 : Int32)) hC dL_law_267 (by decide) <| x_iadd hC dL_law_268 <| x_sld hC hX hbl hbA dL_law_269 hin1 <| ?_
  refine x_aload_n hC dL_law_270 rfl (j := 3) rfl <| x_iload_n hC dL_law_271 rfl (j := 0) rfl <| x_iconst (v := (2 : Int32)) hC dL_law_272 (by decide) <| x_iadd hC dL_law_273 <| x_sld hC hX hbl hbA dL_law_274 hin2 <| x_aload_n hC dL_law_275 rfl (j := 3) rfl <| ?_
  refine x_iload_n hC dL_law_276 rfl (j := 0) rfl <| x_iconst (v := (3 : Int32)) hC dL_law_277 (by decide) <| x_iadd hC dL_law_278 <| x_sld hC hX hbl hbA dL_law_279 hin3 <| ?_
  refine x_callV hC hR dL_law_280 mK_X8_heights wml_L_23 (C_X8_heights (a1 := (xs (x3 + (1 : Int32)).toNatClampNeg)) (a2 := (xs (x3 + (2 : Int32)).toNatClampNeg)) (a3 := (xs (x3 + (3 : Int32)).toNatClampNeg)) (σ := σ) e1) (by omega) rfl (by decide) rfl rfl (xlt (by decide)) rfl (Nat.le_of_ble_eq_true rfl) rfl rfl rfl <| x_aload_n hC dL_law_283 rfl (j := 1) rfl <| x_aload_n hC dL_law_284 rfl (j := 3) rfl <| x_iload_n hC dL_law_285 rfl (j := 0) rfl <| x_iconst (v := (1 : Int32)) hC dL_law_286 (by decide) <| x_iadd hC dL_law_287 <| ?_
  refine x_sld hC hX hbl hbA dL_law_288 hin1 <| x_aload_n hC dL_law_289 rfl (j := 3) rfl <| x_iload_n hC dL_law_290 rfl (j := 0) rfl <| x_iconst (v := (2 : Int32)) hC dL_law_291 (by decide) <| x_iadd hC dL_law_292 <| x_sld hC hX hbl hbA dL_law_293 hin2 <| ?_
  refine x_aload_n hC dL_law_294 rfl (j := 3) rfl <| x_iload_n hC dL_law_295 rfl (j := 0) rfl <| x_iconst (v := (3 : Int32)) hC dL_law_296 (by decide) <| x_iadd hC dL_law_297 <| x_sld hC hX hbl hbA dL_law_298 hin3 <| x_callV hC hR dL_law_299 mK_X9_heights wml_L_26 (C_X9_heights (a1 := (xs (x3 + (1 : Int32)).toNatClampNeg)) (a2 := (xs (x3 + (2 : Int32)).toNatClampNeg)) (a3 := (xs (x3 + (3 : Int32)).toNatClampNeg)) (σ := τ) e2) (by omega) rfl (by decide) rfl rfl (xlt (by decide)) rfl (Nat.le_of_ble_eq_true rfl) rfl rfl rfl <| ?_
  refine x_icmp_eq (tgt := 1266) hC dL_law_302 (by decide) (fun _ => ?_) (fun z => absurd rfl z)
  exact ht ρ hI2
set_option maxRecDepth 100000 in
set_option maxHeartbeats 4000000 in
theorem xcase_feed {Inv : xS2 → Prop} {G : xG} {l : Launch} {K : xK} {b L : Nat} {xs : Nat → Int32} {x3 : Int32} (hC : xCX G mM_L_law K) (hR : xRd K 200) (hX : va_X b L xs (xKs K) (xKs K).heap) (hbl : b < (xKs K).heap.size) (hbA : ¬ xA G b) (hin0 : vp_in x3 L) (hin1 : vp_in (x3 + (1 : Int32)) L) (hin2 : vp_in (x3 + (2 : Int32)) L) (hin3 : vp_in (x3 + (3 : Int32)) L) (hin4 : vp_in (x3 + (4 : Int32)) L) (hin5 : vp_in (x3 + (5 : Int32)) L) (hs : xStep_feed Inv) (ht : ∀ σ : xS2, Inv σ → xV G l mM_L_law K 1266 [(3, .int x3), (2, .ref (xad G 43)), (1, .ref (xad G 0)), (0, .ref b)] [] (xM σ)) (σ : xS2) (hI : Inv σ) : xV G l mM_L_law K 307 [(3, .int x3), (2, .ref (xad G 43)), (1, .ref (xad G 0)), (0, .ref b)] [] (xM σ) := by
  obtain ⟨r, τ, ρ, e1, e2, hI2⟩ := hs (xs (x3 + (1 : Int32)).toNatClampNeg) σ hI
  refine x_aload_n hC dL_law_307 rfl (j := 2) rfl <| x_aload_n hC dL_law_308 rfl (j := 3) rfl <| x_iload_n hC dL_law_309 rfl (j := 0) rfl <| x_iconst (v := (1 : Int32)) hC dL_law_310 (by decide) <| x_iadd hC dL_law_311 <| x_sld hC hX hbl hbA dL_law_312 hin1 <| ?_
  refine x_callV hC hR dL_law_313 mK_X8_feed wml_L_27 (C_X8_feed (a1 := (xs (x3 + (1 : Int32)).toNatClampNeg)) (σ := σ) e1) (by omega) rfl (by decide) rfl rfl (xlt (by decide)) rfl (Nat.le_of_ble_eq_true rfl) rfl rfl rfl <| x_aload_n hC dL_law_316 rfl (j := 1) rfl <| x_aload_n hC dL_law_317 rfl (j := 3) rfl <| x_iload_n hC dL_law_318 rfl (j := 0) rfl <| x_iconst (v := (1 : Int32)) hC dL_law_319 (by decide) <| x_iadd hC dL_law_320 <| ?_
  refine x_sld hC hX hbl hbA dL_law_321 hin1 <| x_callV hC hR dL_law_322 mK_X9_feed wml_L_31 (C_X9_feed (a1 := (xs (x3 + (1 : Int32)).toNatClampNeg)) (σ := τ) e2) (by omega) rfl (by decide) rfl rfl (xlt (by decide)) rfl (Nat.le_of_ble_eq_true rfl) rfl rfl rfl <| ?_
  refine x_icmp_eq (tgt := 1266) hC dL_law_325 (by decide) (fun _ => ?_) (fun z => absurd rfl z)
  exact ht ρ hI2
set_option maxRecDepth 100000 in
set_option maxHeartbeats 4000000 in
theorem xcase_law {Inv : xS2 → Prop} {G : xG} {l : Launch} {K : xK} {b L : Nat} {xs : Nat → Int32} {x3 : Int32} (hC : xCX G mM_L_law K) (hR : xRd K 200) (hX : va_X b L xs (xKs K) (xKs K).heap) (hbl : b < (xKs K).heap.size) (hbA : ¬ xA G b) (hin0 : vp_in x3 L) (hin1 : vp_in (x3 + (1 : Int32)) L) (hin2 : vp_in (x3 + (2 : Int32)) L) (hin3 : vp_in (x3 + (3 : Int32)) L) (hin4 : vp_in (x3 + (4 : Int32)) L) (hin5 : vp_in (x3 + (5 : Int32)) L) (hs : xStep_law Inv) (ht : ∀ σ : xS2, Inv σ → xV G l mM_L_law K 1266 [(3, .int x3), (2, .ref (xad G 43)), (1, .ref (xad G 0)), (0, .ref b)] [] (xM σ)) (σ : xS2) (hI : Inv σ) : xV G l mM_L_law K 330 [(3, .int x3), (2, .ref (xad G 43)), (1, .ref (xad G 0)), (0, .ref b)] [] (xM σ) := by
  obtain ⟨r, τ, ρ, e1, e2, hI2⟩ := hs  σ hI
  refine x_aload_n hC dL_law_330 rfl (j := 2) rfl <| ?_
  refine x_callV hC hR dL_law_331 mK_X8_law wml_L_32 (C_X8_law  (σ := σ) e1) (by omega) rfl (by decide) rfl rfl (xlt (by decide)) rfl (Nat.le_of_ble_eq_true rfl) rfl rfl rfl <| x_aload_n hC dL_law_334 rfl (j := 1) rfl <| x_callV hC hR dL_law_335 mK_X9_law wml_L_36 (C_X9_law  (σ := τ) e2) (by omega) rfl (by decide) rfl rfl (xlt (by decide)) rfl (Nat.le_of_ble_eq_true rfl) rfl rfl rfl <| ?_
  refine x_icmp_eq (tgt := 1266) hC dL_law_338 (by decide) (fun _ => ?_) (fun z => absurd rfl z)
  exact ht ρ hI2
set_option maxRecDepth 100000 in
set_option maxHeartbeats 4000000 in
theorem xcase_cost {Inv : xS2 → Prop} {G : xG} {l : Launch} {K : xK} {b L : Nat} {xs : Nat → Int32} {x3 : Int32} (hC : xCX G mM_L_law K) (hR : xRd K 200) (hX : va_X b L xs (xKs K) (xKs K).heap) (hbl : b < (xKs K).heap.size) (hbA : ¬ xA G b) (hin0 : vp_in x3 L) (hin1 : vp_in (x3 + (1 : Int32)) L) (hin2 : vp_in (x3 + (2 : Int32)) L) (hin3 : vp_in (x3 + (3 : Int32)) L) (hin4 : vp_in (x3 + (4 : Int32)) L) (hin5 : vp_in (x3 + (5 : Int32)) L) (hs : xStep_cost Inv) (ht : ∀ σ : xS2, Inv σ → xV G l mM_L_law K 1266 [(3, .int x3), (2, .ref (xad G 43)), (1, .ref (xad G 0)), (0, .ref b)] [] (xM σ)) (σ : xS2) (hI : Inv σ) : xV G l mM_L_law K 343 [(3, .int x3), (2, .ref (xad G 43)), (1, .ref (xad G 0)), (0, .ref b)] [] (xM σ) := by
  obtain ⟨r, e1, e2, hI2⟩ := hs (xs (x3 + (1 : Int32)).toNatClampNeg) (xs (x3 + (2 : Int32)).toNatClampNeg) σ hI
  refine x_aload_n hC dL_law_343 rfl (j := 2) rfl <| x_aload_n hC dL_law_344 rfl (j := 3) rfl <| x_iload_n hC dL_law_345 rfl (j := 0) rfl <| x_iconst (v := (1 : Int32)) hC dL_law_346 (by decide) <| x_iadd hC dL_law_347 <| x_sld hC hX hbl hbA dL_law_348 hin1 <| ?_
  refine x_aload_n hC dL_law_349 rfl (j := 3) rfl <| x_iload_n hC dL_law_350 rfl (j := 0) rfl <| x_iconst (v := (2 : Int32)) hC dL_law_351 (by decide) <| x_iadd hC dL_law_352 <| x_sld hC hX hbl hbA dL_law_353 hin2 <| ?_
  refine x_callV hC hR dL_law_354 mK_X8_cost wml_L_37 (C_X8_cost (a1 := (xs (x3 + (1 : Int32)).toNatClampNeg)) (a2 := (xs (x3 + (2 : Int32)).toNatClampNeg)) (σ := σ) e1) (by omega) rfl (by decide) rfl rfl (xlt (by decide)) rfl (Nat.le_of_ble_eq_true rfl) rfl rfl rfl <| x_aload_n hC dL_law_357 rfl (j := 1) rfl <| x_aload_n hC dL_law_358 rfl (j := 3) rfl <| x_iload_n hC dL_law_359 rfl (j := 0) rfl <| x_iconst (v := (1 : Int32)) hC dL_law_360 (by decide) <| x_iadd hC dL_law_361 <| ?_
  refine x_sld hC hX hbl hbA dL_law_362 hin1 <| x_aload_n hC dL_law_363 rfl (j := 3) rfl <| x_iload_n hC dL_law_364 rfl (j := 0) rfl <| x_iconst (v := (2 : Int32)) hC dL_law_365 (by decide) <| x_iadd hC dL_law_366 <| x_sld hC hX hbl hbA dL_law_367 hin2 <| ?_
  refine x_callV hC hR dL_law_368 mK_X9_cost wml_L_40 (C_X9_cost (a1 := (xs (x3 + (1 : Int32)).toNatClampNeg)) (a2 := (xs (x3 + (2 : Int32)).toNatClampNeg)) (σ := σ) e2) (by omega) rfl (by decide) rfl rfl (xlt (by decide)) rfl (Nat.le_of_ble_eq_true rfl) rfl rfl rfl <| ?_
  refine x_icmp_eq (tgt := 1266) hC dL_law_371 (by decide) (fun _ => ?_) (fun z => absurd rfl z)
  exact ht σ hI2
set_option maxRecDepth 100000 in
set_option maxHeartbeats 4000000 in
theorem xcase_order {Inv : xS2 → Prop} {G : xG} {l : Launch} {K : xK} {b L : Nat} {xs : Nat → Int32} {x3 : Int32} (hC : xCX G mM_L_law K) (hR : xRd K 200) (hX : va_X b L xs (xKs K) (xKs K).heap) (hbl : b < (xKs K).heap.size) (hbA : ¬ xA G b) (hin0 : vp_in x3 L) (hin1 : vp_in (x3 + (1 : Int32)) L) (hin2 : vp_in (x3 + (2 : Int32)) L) (hin3 : vp_in (x3 + (3 : Int32)) L) (hin4 : vp_in (x3 + (4 : Int32)) L) (hin5 : vp_in (x3 + (5 : Int32)) L) (hs : xStep_order Inv) (ht : ∀ σ : xS2, Inv σ → xV G l mM_L_law K 1266 [(3, .int x3), (2, .ref (xad G 43)), (1, .ref (xad G 0)), (0, .ref b)] [] (xM σ)) (σ : xS2) (hI : Inv σ) : xV G l mM_L_law K 376 [(3, .int x3), (2, .ref (xad G 43)), (1, .ref (xad G 0)), (0, .ref b)] [] (xM σ) := by
  obtain ⟨r, τ, ρ, e1, e2, hI2⟩ := hs  σ hI
  refine x_aload_n hC dL_law_376 rfl (j := 2) rfl <| ?_
  refine x_callV hC hR dL_law_377 mK_X8_order wml_L_41 (C_X8_order  (σ := σ) e1) (by omega) rfl (by decide) rfl rfl (xlt (by decide)) rfl (Nat.le_of_ble_eq_true rfl) rfl rfl rfl <| x_aload_n hC dL_law_380 rfl (j := 1) rfl <| x_callV hC hR dL_law_381 mK_X9_order wml_L_44 (C_X9_order  (σ := τ) e2) (by omega) rfl (by decide) rfl rfl (xlt (by decide)) rfl (Nat.le_of_ble_eq_true rfl) rfl rfl rfl <| ?_
  refine x_icmp_eq (tgt := 1266) hC dL_law_384 (by decide) (fun _ => ?_) (fun z => absurd rfl z)
  exact ht ρ hI2
set_option maxRecDepth 100000 in
set_option maxHeartbeats 4000000 in
theorem xcase_day {Inv : xS2 → Prop} {G : xG} {l : Launch} {K : xK} {b L : Nat} {xs : Nat → Int32} {x3 : Int32} (hC : xCX G mM_L_law K) (hR : xRd K 200) (hX : va_X b L xs (xKs K) (xKs K).heap) (hbl : b < (xKs K).heap.size) (hbA : ¬ xA G b) (hin0 : vp_in x3 L) (hin1 : vp_in (x3 + (1 : Int32)) L) (hin2 : vp_in (x3 + (2 : Int32)) L) (hin3 : vp_in (x3 + (3 : Int32)) L) (hin4 : vp_in (x3 + (4 : Int32)) L) (hin5 : vp_in (x3 + (5 : Int32)) L) (hs : xStep_day Inv) (ht : ∀ σ : xS2, Inv σ → xV G l mM_L_law K 1266 [(3, .int x3), (2, .ref (xad G 43)), (1, .ref (xad G 0)), (0, .ref b)] [] (xM σ)) (σ : xS2) (hI : Inv σ) : xV G l mM_L_law K 389 [(3, .int x3), (2, .ref (xad G 43)), (1, .ref (xad G 0)), (0, .ref b)] [] (xM σ) := by
  obtain ⟨r, τ, ρ, e1, e2, hI2⟩ := hs (xs (x3 + (1 : Int32)).toNatClampNeg) σ hI
  refine x_aload_n hC dL_law_389 rfl (j := 2) rfl <| x_aload_n hC dL_law_390 rfl (j := 3) rfl <| x_iload_n hC dL_law_391 rfl (j := 0) rfl <| x_iconst (v := (1 : Int32)) hC dL_law_392 (by decide) <| x_iadd hC dL_law_393 <| x_sld hC hX hbl hbA dL_law_394 hin1 <| ?_
  refine x_callV hC hR dL_law_395 mK_X8_day wml_L_45 (C_X8_day (a1 := (xs (x3 + (1 : Int32)).toNatClampNeg)) (σ := σ) e1) (by omega) rfl (by decide) rfl rfl (xlt (by decide)) rfl (Nat.le_of_ble_eq_true rfl) rfl rfl rfl <| x_aload_n hC dL_law_398 rfl (j := 1) rfl <| x_aload_n hC dL_law_399 rfl (j := 3) rfl <| x_iload_n hC dL_law_400 rfl (j := 0) rfl <| x_iconst (v := (1 : Int32)) hC dL_law_401 (by decide) <| x_iadd hC dL_law_402 <| ?_
  refine x_sld hC hX hbl hbA dL_law_403 hin1 <| x_callV hC hR dL_law_404 mK_X9_day wml_L_48 (C_X9_day (a1 := (xs (x3 + (1 : Int32)).toNatClampNeg)) (σ := τ) e2) (by omega) rfl (by decide) rfl rfl (xlt (by decide)) rfl (Nat.le_of_ble_eq_true rfl) rfl rfl rfl <| ?_
  refine x_icmp_eq (tgt := 1266) hC dL_law_407 (by decide) (fun _ => ?_) (fun z => absurd rfl z)
  exact ht ρ hI2
set_option maxRecDepth 100000 in
set_option maxHeartbeats 4000000 in
theorem xcase_days {Inv : xS2 → Prop} {G : xG} {l : Launch} {K : xK} {b L : Nat} {xs : Nat → Int32} {x3 : Int32} (hC : xCX G mM_L_law K) (hR : xRd K 200) (hX : va_X b L xs (xKs K) (xKs K).heap) (hbl : b < (xKs K).heap.size) (hbA : ¬ xA G b) (hin0 : vp_in x3 L) (hin1 : vp_in (x3 + (1 : Int32)) L) (hin2 : vp_in (x3 + (2 : Int32)) L) (hin3 : vp_in (x3 + (3 : Int32)) L) (hin4 : vp_in (x3 + (4 : Int32)) L) (hin5 : vp_in (x3 + (5 : Int32)) L) (hs : xStep_days Inv) (ht : ∀ σ : xS2, Inv σ → xV G l mM_L_law K 1266 [(3, .int x3), (2, .ref (xad G 43)), (1, .ref (xad G 0)), (0, .ref b)] [] (xM σ)) (σ : xS2) (hI : Inv σ) : xV G l mM_L_law K 412 [(3, .int x3), (2, .ref (xad G 43)), (1, .ref (xad G 0)), (0, .ref b)] [] (xM σ) := by
  obtain ⟨r, τ, ρ, e1, e2, hI2⟩ := hs (xs (x3 + (1 : Int32)).toNatClampNeg) σ hI
  refine x_aload_n hC dL_law_412 rfl (j := 2) rfl <| x_aload_n hC dL_law_413 rfl (j := 3) rfl <| x_iload_n hC dL_law_414 rfl (j := 0) rfl <| x_iconst (v := (1 : Int32)) hC dL_law_415 (by decide) <| x_iadd hC dL_law_416 <| x_sld hC hX hbl hbA dL_law_417 hin1 <| ?_
  refine x_callV hC hR dL_law_418 mK_X8_days wml_L_49 (C_X8_days (a1 := (xs (x3 + (1 : Int32)).toNatClampNeg)) (σ := σ) e1) (by omega) rfl (by decide) rfl rfl (xlt (by decide)) rfl (Nat.le_of_ble_eq_true rfl) rfl rfl rfl <| x_aload_n hC dL_law_421 rfl (j := 1) rfl <| x_aload_n hC dL_law_422 rfl (j := 3) rfl <| x_iload_n hC dL_law_423 rfl (j := 0) rfl <| x_iconst (v := (1 : Int32)) hC dL_law_424 (by decide) <| x_iadd hC dL_law_425 <| ?_
  refine x_sld hC hX hbl hbA dL_law_426 hin1 <| x_callV hC hR dL_law_427 mK_X9_days wml_L_52 (C_X9_days (a1 := (xs (x3 + (1 : Int32)).toNatClampNeg)) (σ := τ) e2) (by omega) rfl (by decide) rfl rfl (xlt (by decide)) rfl (Nat.le_of_ble_eq_true rfl) rfl rfl rfl <| ?_
  refine x_icmp_eq (tgt := 1266) hC dL_law_430 (by decide) (fun _ => ?_) (fun z => absurd rfl z)
  exact ht ρ hI2
set_option maxRecDepth 100000 in
set_option maxHeartbeats 4000000 in
theorem xcase_led {Inv : xS2 → Prop} {G : xG} {l : Launch} {K : xK} {b L : Nat} {xs : Nat → Int32} {x3 : Int32} (hC : xCX G mM_L_law K) (hR : xRd K 200) (hX : va_X b L xs (xKs K) (xKs K).heap) (hbl : b < (xKs K).heap.size) (hbA : ¬ xA G b) (hin0 : vp_in x3 L) (hin1 : vp_in (x3 + (1 : Int32)) L) (hin2 : vp_in (x3 + (2 : Int32)) L) (hin3 : vp_in (x3 + (3 : Int32)) L) (hin4 : vp_in (x3 + (4 : Int32)) L) (hin5 : vp_in (x3 + (5 : Int32)) L) (hs : xStep_led Inv) (ht : ∀ σ : xS2, Inv σ → xV G l mM_L_law K 1266 [(3, .int x3), (2, .ref (xad G 43)), (1, .ref (xad G 0)), (0, .ref b)] [] (xM σ)) (σ : xS2) (hI : Inv σ) : xV G l mM_L_law K 435 [(3, .int x3), (2, .ref (xad G 43)), (1, .ref (xad G 0)), (0, .ref b)] [] (xM σ) := by
  obtain ⟨r, e1, e2, hI2⟩ := hs (xs (x3 + (1 : Int32)).toNatClampNeg) (xs (x3 + (2 : Int32)).toNatClampNeg) σ hI
  refine x_aload_n hC dL_law_435 rfl (j := 2) rfl <| x_aload_n hC dL_law_436 rfl (j := 3) rfl <| x_iload_n hC dL_law_437 rfl (j := 0) rfl <| x_iconst (v := (1 : Int32)) hC dL_law_438 (by decide) <| x_iadd hC dL_law_439 <| x_sld hC hX hbl hbA dL_law_440 hin1 <| ?_
  refine x_aload_n hC dL_law_441 rfl (j := 3) rfl <| x_iload_n hC dL_law_442 rfl (j := 0) rfl <| x_iconst (v := (2 : Int32)) hC dL_law_443 (by decide) <| x_iadd hC dL_law_444 <| x_sld hC hX hbl hbA dL_law_445 hin2 <| ?_
  refine x_callV hC hR dL_law_446 mK_X8_led wml_L_53 (C_X8_led (a1 := (xs (x3 + (1 : Int32)).toNatClampNeg)) (a2 := (xs (x3 + (2 : Int32)).toNatClampNeg)) (σ := σ) e1) (by omega) rfl (by decide) rfl rfl (xlt (by decide)) rfl (Nat.le_of_ble_eq_true rfl) rfl rfl rfl <| x_aload_n hC dL_law_449 rfl (j := 1) rfl <| x_aload_n hC dL_law_450 rfl (j := 3) rfl <| x_iload_n hC dL_law_451 rfl (j := 0) rfl <| x_iconst (v := (1 : Int32)) hC dL_law_452 (by decide) <| x_iadd hC dL_law_453 <| ?_
  refine x_sld hC hX hbl hbA dL_law_454 hin1 <| x_aload_n hC dL_law_455 rfl (j := 3) rfl <| x_iload_n hC dL_law_456 rfl (j := 0) rfl <| x_iconst (v := (2 : Int32)) hC dL_law_457 (by decide) <| x_iadd hC dL_law_458 <| x_sld hC hX hbl hbA dL_law_459 hin2 <| ?_
  refine x_callV hC hR dL_law_460 mK_X9_led wml_L_56 (C_X9_led (a1 := (xs (x3 + (1 : Int32)).toNatClampNeg)) (a2 := (xs (x3 + (2 : Int32)).toNatClampNeg)) (σ := σ) e2) (by omega) rfl (by decide) rfl rfl (xlt (by decide)) rfl (Nat.le_of_ble_eq_true rfl) rfl rfl rfl <| ?_
  refine x_icmp_eq (tgt := 1266) hC dL_law_463 (by decide) (fun _ => ?_) (fun z => absurd rfl z)
  exact ht σ hI2
set_option maxRecDepth 100000 in
set_option maxHeartbeats 4000000 in
theorem xcase_run {Inv : xS2 → Prop} {G : xG} {l : Launch} {K : xK} {b L : Nat} {xs : Nat → Int32} {x3 : Int32} (hC : xCX G mM_L_law K) (hR : xRd K 200) (hX : va_X b L xs (xKs K) (xKs K).heap) (hbl : b < (xKs K).heap.size) (hbA : ¬ xA G b) (hin0 : vp_in x3 L) (hin1 : vp_in (x3 + (1 : Int32)) L) (hin2 : vp_in (x3 + (2 : Int32)) L) (hin3 : vp_in (x3 + (3 : Int32)) L) (hin4 : vp_in (x3 + (4 : Int32)) L) (hin5 : vp_in (x3 + (5 : Int32)) L) (hs : xStep_run Inv) (ht : ∀ σ : xS2, Inv σ → xV G l mM_L_law K 1266 [(3, .int x3), (2, .ref (xad G 43)), (1, .ref (xad G 0)), (0, .ref b)] [] (xM σ)) (σ : xS2) (hI : Inv σ) : xV G l mM_L_law K 468 [(3, .int x3), (2, .ref (xad G 43)), (1, .ref (xad G 0)), (0, .ref b)] [] (xM σ) := by
  obtain ⟨r, τ, ρ, e1, e2, hI2⟩ := hs (xs (x3 + (1 : Int32)).toNatClampNeg) (xs (x3 + (2 : Int32)).toNatClampNeg) (xs (x3 + (3 : Int32)).toNatClampNeg) σ hI
  refine x_aload_n hC dL_law_468 rfl (j := 2) rfl <| x_aload_n hC dL_law_469 rfl (j := 3) rfl <| x_iload_n hC dL_law_470 rfl (j := 0) rfl <| x_iconst (v := (1 : Int32)) hC dL_law_471 (by decide) <| x_iadd hC dL_law_472 <| x_sld hC hX hbl hbA dL_law_473 hin1 <| ?_
  refine x_aload_n hC dL_law_474 rfl (j := 3) rfl <| x_iload_n hC dL_law_475 rfl (j := 0) rfl <| x_iconst (v := (2 : Int32)) hC dL_law_476 (by decide) <| x_iadd hC dL_law_477 <| x_sld hC hX hbl hbA dL_law_478 hin2 <| x_aload_n hC dL_law_479 rfl (j := 3) rfl <| ?_
  refine x_iload_n hC dL_law_480 rfl (j := 0) rfl <| x_iconst (v := (3 : Int32)) hC dL_law_481 (by decide) <| x_iadd hC dL_law_482 <| x_sld hC hX hbl hbA dL_law_483 hin3 <| ?_
  refine x_callV hC hR dL_law_484 mK_X8_run wml_L_57 (C_X8_run (a1 := (xs (x3 + (1 : Int32)).toNatClampNeg)) (a2 := (xs (x3 + (2 : Int32)).toNatClampNeg)) (a3 := (xs (x3 + (3 : Int32)).toNatClampNeg)) (σ := σ) e1) (by omega) rfl (by decide) rfl rfl (xlt (by decide)) rfl (Nat.le_of_ble_eq_true rfl) rfl rfl rfl <| x_aload_n hC dL_law_487 rfl (j := 1) rfl <| x_aload_n hC dL_law_488 rfl (j := 3) rfl <| x_iload_n hC dL_law_489 rfl (j := 0) rfl <| x_iconst (v := (1 : Int32)) hC dL_law_490 (by decide) <| x_iadd hC dL_law_491 <| ?_
  refine x_sld hC hX hbl hbA dL_law_492 hin1 <| x_aload_n hC dL_law_493 rfl (j := 3) rfl <| x_iload_n hC dL_law_494 rfl (j := 0) rfl <| x_iconst (v := (2 : Int32)) hC dL_law_495 (by decide) <| x_iadd hC dL_law_496 <| x_sld hC hX hbl hbA dL_law_497 hin2 <| ?_
  refine x_aload_n hC dL_law_498 rfl (j := 3) rfl <| x_iload_n hC dL_law_499 rfl (j := 0) rfl <| x_iconst (v := (3 : Int32)) hC dL_law_500 (by decide) <| x_iadd hC dL_law_501 <| x_sld hC hX hbl hbA dL_law_502 hin3 <| x_callV hC hR dL_law_503 mK_X9_run wml_L_60 (C_X9_run (a1 := (xs (x3 + (1 : Int32)).toNatClampNeg)) (a2 := (xs (x3 + (2 : Int32)).toNatClampNeg)) (a3 := (xs (x3 + (3 : Int32)).toNatClampNeg)) (σ := τ) e2) (by omega) rfl (by decide) rfl rfl (xlt (by decide)) rfl (Nat.le_of_ble_eq_true rfl) rfl rfl rfl <| ?_
  refine x_icmp_eq (tgt := 1266) hC dL_law_506 (by decide) (fun _ => ?_) (fun z => absurd rfl z)
  exact ht ρ hI2
set_option maxRecDepth 100000 in
set_option maxHeartbeats 4000000 in
theorem xcase_first {Inv : xS2 → Prop} {G : xG} {l : Launch} {K : xK} {b L : Nat} {xs : Nat → Int32} {x3 : Int32} (hC : xCX G mM_L_law K) (hR : xRd K 200) (hX : va_X b L xs (xKs K) (xKs K).heap) (hbl : b < (xKs K).heap.size) (hbA : ¬ xA G b) (hin0 : vp_in x3 L) (hin1 : vp_in (x3 + (1 : Int32)) L) (hin2 : vp_in (x3 + (2 : Int32)) L) (hin3 : vp_in (x3 + (3 : Int32)) L) (hin4 : vp_in (x3 + (4 : Int32)) L) (hin5 : vp_in (x3 + (5 : Int32)) L) (hs : xStep_first Inv) (ht : ∀ σ : xS2, Inv σ → xV G l mM_L_law K 1266 [(3, .int x3), (2, .ref (xad G 43)), (1, .ref (xad G 0)), (0, .ref b)] [] (xM σ)) (σ : xS2) (hI : Inv σ) : xV G l mM_L_law K 511 [(3, .int x3), (2, .ref (xad G 43)), (1, .ref (xad G 0)), (0, .ref b)] [] (xM σ) := by
  obtain ⟨r, τ, ρ, e1, e2, hI2⟩ := hs (xs (x3 + (1 : Int32)).toNatClampNeg) σ hI
  refine x_aload_n hC dL_law_511 rfl (j := 2) rfl <| x_aload_n hC dL_law_512 rfl (j := 3) rfl <| x_iload_n hC dL_law_513 rfl (j := 0) rfl <| x_iconst (v := (1 : Int32)) hC dL_law_514 (by decide) <| x_iadd hC dL_law_515 <| x_sld hC hX hbl hbA dL_law_516 hin1 <| ?_
  refine x_callV hC hR dL_law_517 mK_X8_first wml_L_61 (C_X8_first (a1 := (xs (x3 + (1 : Int32)).toNatClampNeg)) (σ := σ) e1) (by omega) rfl (by decide) rfl rfl (xlt (by decide)) rfl (Nat.le_of_ble_eq_true rfl) rfl rfl rfl <| x_aload_n hC dL_law_520 rfl (j := 1) rfl <| x_aload_n hC dL_law_521 rfl (j := 3) rfl <| x_iload_n hC dL_law_522 rfl (j := 0) rfl <| x_iconst (v := (1 : Int32)) hC dL_law_523 (by decide) <| x_iadd hC dL_law_524 <| ?_
  refine x_sld hC hX hbl hbA dL_law_525 hin1 <| x_callV hC hR dL_law_526 mK_X9_first wml_L_64 (C_X9_first (a1 := (xs (x3 + (1 : Int32)).toNatClampNeg)) (σ := τ) e2) (by omega) rfl (by decide) rfl rfl (xlt (by decide)) rfl (Nat.le_of_ble_eq_true rfl) rfl rfl rfl <| ?_
  refine x_icmp_eq (tgt := 1266) hC dL_law_529 (by decide) (fun _ => ?_) (fun z => absurd rfl z)
  exact ht ρ hI2
set_option maxRecDepth 100000 in
set_option maxHeartbeats 4000000 in
theorem xcase_lawful {Inv : xS2 → Prop} {G : xG} {l : Launch} {K : xK} {b L : Nat} {xs : Nat → Int32} {x3 : Int32} (hC : xCX G mM_L_law K) (hR : xRd K 200) (hX : va_X b L xs (xKs K) (xKs K).heap) (hbl : b < (xKs K).heap.size) (hbA : ¬ xA G b) (hin0 : vp_in x3 L) (hin1 : vp_in (x3 + (1 : Int32)) L) (hin2 : vp_in (x3 + (2 : Int32)) L) (hin3 : vp_in (x3 + (3 : Int32)) L) (hin4 : vp_in (x3 + (4 : Int32)) L) (hin5 : vp_in (x3 + (5 : Int32)) L) (hs : xStep_lawful Inv) (ht : ∀ σ : xS2, Inv σ → xV G l mM_L_law K 1266 [(3, .int x3), (2, .ref (xad G 43)), (1, .ref (xad G 0)), (0, .ref b)] [] (xM σ)) (σ : xS2) (hI : Inv σ) : xV G l mM_L_law K 534 [(3, .int x3), (2, .ref (xad G 43)), (1, .ref (xad G 0)), (0, .ref b)] [] (xM σ) := by
  obtain ⟨r, τ, ρ, e1, e2, hI2⟩ := hs (xs (x3 + (1 : Int32)).toNatClampNeg) (xs (x3 + (2 : Int32)).toNatClampNeg) σ hI
  refine x_aload_n hC dL_law_534 rfl (j := 2) rfl <| x_aload_n hC dL_law_535 rfl (j := 3) rfl <| x_iload_n hC dL_law_536 rfl (j := 0) rfl <| x_iconst (v := (1 : Int32)) hC dL_law_537 (by decide) <| x_iadd hC dL_law_538 <| x_sld hC hX hbl hbA dL_law_539 hin1 <| ?_
  refine x_aload_n hC dL_law_540 rfl (j := 3) rfl <| x_iload_n hC dL_law_541 rfl (j := 0) rfl <| x_iconst (v := (2 : Int32)) hC dL_law_542 (by decide) <| x_iadd hC dL_law_543 <| x_sld hC hX hbl hbA dL_law_544 hin2 <| ?_
  refine x_callV hC hR dL_law_545 mK_X8_lawful wml_L_65 (C_X8_lawful (a1 := (xs (x3 + (1 : Int32)).toNatClampNeg)) (a2 := (xs (x3 + (2 : Int32)).toNatClampNeg)) (σ := σ) e1) (by omega) rfl (by decide) rfl rfl (xlt (by decide)) rfl (Nat.le_of_ble_eq_true rfl) rfl rfl rfl <| x_aload_n hC dL_law_548 rfl (j := 1) rfl <| x_aload_n hC dL_law_549 rfl (j := 3) rfl <| x_iload_n hC dL_law_550 rfl (j := 0) rfl <| x_iconst (v := (1 : Int32)) hC dL_law_551 (by decide) <| x_iadd hC dL_law_552 <| ?_
  refine x_sld hC hX hbl hbA dL_law_553 hin1 <| x_aload_n hC dL_law_554 rfl (j := 3) rfl <| x_iload_n hC dL_law_555 rfl (j := 0) rfl <| x_iconst (v := (2 : Int32)) hC dL_law_556 (by decide) <| x_iadd hC dL_law_557 <| x_sld hC hX hbl hbA dL_law_558 hin2 <| ?_
  refine x_callV hC hR dL_law_559 mK_X9_lawful wml_L_68 (C_X9_lawful (a1 := (xs (x3 + (1 : Int32)).toNatClampNeg)) (a2 := (xs (x3 + (2 : Int32)).toNatClampNeg)) (σ := τ) e2) (by omega) rfl (by decide) rfl rfl (xlt (by decide)) rfl (Nat.le_of_ble_eq_true rfl) rfl rfl rfl <| ?_
  refine x_icmp_eq (tgt := 1266) hC dL_law_562 (by decide) (fun _ => ?_) (fun z => absurd rfl z)
  exact ht ρ hI2
set_option maxRecDepth 100000 in
set_option maxHeartbeats 4000000 in
theorem xcase_cheapest {Inv : xS2 → Prop} {G : xG} {l : Launch} {K : xK} {b L : Nat} {xs : Nat → Int32} {x3 : Int32} (hC : xCX G mM_L_law K) (hR : xRd K 200) (hX : va_X b L xs (xKs K) (xKs K).heap) (hbl : b < (xKs K).heap.size) (hbA : ¬ xA G b) (hin0 : vp_in x3 L) (hin1 : vp_in (x3 + (1 : Int32)) L) (hin2 : vp_in (x3 + (2 : Int32)) L) (hin3 : vp_in (x3 + (3 : Int32)) L) (hin4 : vp_in (x3 + (4 : Int32)) L) (hin5 : vp_in (x3 + (5 : Int32)) L) (hs : xStep_cheapest Inv) (ht : ∀ σ : xS2, Inv σ → xV G l mM_L_law K 1266 [(3, .int x3), (2, .ref (xad G 43)), (1, .ref (xad G 0)), (0, .ref b)] [] (xM σ)) (σ : xS2) (hI : Inv σ) : xV G l mM_L_law K 567 [(3, .int x3), (2, .ref (xad G 43)), (1, .ref (xad G 0)), (0, .ref b)] [] (xM σ) := by
  obtain ⟨r, τ, ρ, e1, e2, hI2⟩ := hs (xs (x3 + (1 : Int32)).toNatClampNeg) (xs (x3 + (2 : Int32)).toNatClampNeg) σ hI
  refine x_aload_n hC dL_law_567 rfl (j := 2) rfl <| x_aload_n hC dL_law_568 rfl (j := 3) rfl <| x_iload_n hC dL_law_569 rfl (j := 0) rfl <| x_iconst (v := (1 : Int32)) hC dL_law_570 (by decide) <| x_iadd hC dL_law_571 <| x_sld hC hX hbl hbA dL_law_572 hin1 <| ?_
  refine x_aload_n hC dL_law_573 rfl (j := 3) rfl <| x_iload_n hC dL_law_574 rfl (j := 0) rfl <| x_iconst (v := (2 : Int32)) hC dL_law_575 (by decide) <| x_iadd hC dL_law_576 <| x_sld hC hX hbl hbA dL_law_577 hin2 <| ?_
  refine x_callV hC hR dL_law_578 mK_X8_cheapest wml_L_69 (C_X8_cheapest (a1 := (xs (x3 + (1 : Int32)).toNatClampNeg)) (a2 := (xs (x3 + (2 : Int32)).toNatClampNeg)) (σ := σ) e1) (by omega) rfl (by decide) rfl rfl (xlt (by decide)) rfl (Nat.le_of_ble_eq_true rfl) rfl rfl rfl <| x_aload_n hC dL_law_581 rfl (j := 1) rfl <| x_aload_n hC dL_law_582 rfl (j := 3) rfl <| x_iload_n hC dL_law_583 rfl (j := 0) rfl <| x_iconst (v := (1 : Int32)) hC dL_law_584 (by decide) <| x_iadd hC dL_law_585 <| ?_
  refine x_sld hC hX hbl hbA dL_law_586 hin1 <| x_aload_n hC dL_law_587 rfl (j := 3) rfl <| x_iload_n hC dL_law_588 rfl (j := 0) rfl <| x_iconst (v := (2 : Int32)) hC dL_law_589 (by decide) <| x_iadd hC dL_law_590 <| x_sld hC hX hbl hbA dL_law_591 hin2 <| ?_
  refine x_callV hC hR dL_law_592 mK_X9_cheapest wml_L_72 (C_X9_cheapest (a1 := (xs (x3 + (1 : Int32)).toNatClampNeg)) (a2 := (xs (x3 + (2 : Int32)).toNatClampNeg)) (σ := τ) e2) (by omega) rfl (by decide) rfl rfl (xlt (by decide)) rfl (Nat.le_of_ble_eq_true rfl) rfl rfl rfl <| ?_
  refine x_icmp_eq (tgt := 1266) hC dL_law_595 (by decide) (fun _ => ?_) (fun z => absurd rfl z)
  exact ht ρ hI2
set_option maxRecDepth 100000 in
set_option maxHeartbeats 4000000 in
theorem xcase_soonest {Inv : xS2 → Prop} {G : xG} {l : Launch} {K : xK} {b L : Nat} {xs : Nat → Int32} {x3 : Int32} (hC : xCX G mM_L_law K) (hR : xRd K 200) (hX : va_X b L xs (xKs K) (xKs K).heap) (hbl : b < (xKs K).heap.size) (hbA : ¬ xA G b) (hin0 : vp_in x3 L) (hin1 : vp_in (x3 + (1 : Int32)) L) (hin2 : vp_in (x3 + (2 : Int32)) L) (hin3 : vp_in (x3 + (3 : Int32)) L) (hin4 : vp_in (x3 + (4 : Int32)) L) (hin5 : vp_in (x3 + (5 : Int32)) L) (hs : xStep_soonest Inv) (ht : ∀ σ : xS2, Inv σ → xV G l mM_L_law K 1266 [(3, .int x3), (2, .ref (xad G 43)), (1, .ref (xad G 0)), (0, .ref b)] [] (xM σ)) (σ : xS2) (hI : Inv σ) : xV G l mM_L_law K 600 [(3, .int x3), (2, .ref (xad G 43)), (1, .ref (xad G 0)), (0, .ref b)] [] (xM σ) := by
  obtain ⟨r, τ, ρ, e1, e2, hI2⟩ := hs (xs (x3 + (1 : Int32)).toNatClampNeg) (xs (x3 + (2 : Int32)).toNatClampNeg) σ hI
  refine x_aload_n hC dL_law_600 rfl (j := 2) rfl <| x_aload_n hC dL_law_601 rfl (j := 3) rfl <| x_iload_n hC dL_law_602 rfl (j := 0) rfl <| x_iconst (v := (1 : Int32)) hC dL_law_603 (by decide) <| x_iadd hC dL_law_604 <| x_sld hC hX hbl hbA dL_law_605 hin1 <| ?_
  refine x_aload_n hC dL_law_606 rfl (j := 3) rfl <| x_iload_n hC dL_law_607 rfl (j := 0) rfl <| x_iconst (v := (2 : Int32)) hC dL_law_608 (by decide) <| x_iadd hC dL_law_609 <| x_sld hC hX hbl hbA dL_law_610 hin2 <| ?_
  refine x_callV hC hR dL_law_611 mK_X8_soonest wml_L_73 (C_X8_soonest (a1 := (xs (x3 + (1 : Int32)).toNatClampNeg)) (a2 := (xs (x3 + (2 : Int32)).toNatClampNeg)) (σ := σ) e1) (by omega) rfl (by decide) rfl rfl (xlt (by decide)) rfl (Nat.le_of_ble_eq_true rfl) rfl rfl rfl <| x_aload_n hC dL_law_614 rfl (j := 1) rfl <| x_aload_n hC dL_law_615 rfl (j := 3) rfl <| x_iload_n hC dL_law_616 rfl (j := 0) rfl <| x_iconst (v := (1 : Int32)) hC dL_law_617 (by decide) <| x_iadd hC dL_law_618 <| ?_
  refine x_sld hC hX hbl hbA dL_law_619 hin1 <| x_aload_n hC dL_law_620 rfl (j := 3) rfl <| x_iload_n hC dL_law_621 rfl (j := 0) rfl <| x_iconst (v := (2 : Int32)) hC dL_law_622 (by decide) <| x_iadd hC dL_law_623 <| x_sld hC hX hbl hbA dL_law_624 hin2 <| ?_
  refine x_callV hC hR dL_law_625 mK_X9_soonest wml_L_76 (C_X9_soonest (a1 := (xs (x3 + (1 : Int32)).toNatClampNeg)) (a2 := (xs (x3 + (2 : Int32)).toNatClampNeg)) (σ := τ) e2) (by omega) rfl (by decide) rfl rfl (xlt (by decide)) rfl (Nat.le_of_ble_eq_true rfl) rfl rfl rfl <| ?_
  refine x_icmp_eq (tgt := 1266) hC dL_law_628 (by decide) (fun _ => ?_) (fun z => absurd rfl z)
  exact ht ρ hI2
set_option maxRecDepth 100000 in
set_option maxHeartbeats 4000000 in
theorem xcase_round {Inv : xS2 → Prop} {G : xG} {l : Launch} {K : xK} {b L : Nat} {xs : Nat → Int32} {x3 : Int32} (hC : xCX G mM_L_law K) (hR : xRd K 200) (hX : va_X b L xs (xKs K) (xKs K).heap) (hbl : b < (xKs K).heap.size) (hbA : ¬ xA G b) (hin0 : vp_in x3 L) (hin1 : vp_in (x3 + (1 : Int32)) L) (hin2 : vp_in (x3 + (2 : Int32)) L) (hin3 : vp_in (x3 + (3 : Int32)) L) (hin4 : vp_in (x3 + (4 : Int32)) L) (hin5 : vp_in (x3 + (5 : Int32)) L) (hs : xStep_round Inv) (ht : ∀ σ : xS2, Inv σ → xV G l mM_L_law K 1266 [(3, .int x3), (2, .ref (xad G 43)), (1, .ref (xad G 0)), (0, .ref b)] [] (xM σ)) (σ : xS2) (hI : Inv σ) : xV G l mM_L_law K 633 [(3, .int x3), (2, .ref (xad G 43)), (1, .ref (xad G 0)), (0, .ref b)] [] (xM σ) := by
  obtain ⟨r, τ, ρ, e1, e2, hI2⟩ := hs (xs (x3 + (1 : Int32)).toNatClampNeg) σ hI
  refine x_aload_n hC dL_law_633 rfl (j := 2) rfl <| x_aload_n hC dL_law_634 rfl (j := 3) rfl <| x_iload_n hC dL_law_635 rfl (j := 0) rfl <| x_iconst (v := (1 : Int32)) hC dL_law_636 (by decide) <| x_iadd hC dL_law_637 <| x_sld hC hX hbl hbA dL_law_638 hin1 <| ?_
  refine x_callV hC hR dL_law_639 mK_X8_round wml_L_77 (C_X8_round (a1 := (xs (x3 + (1 : Int32)).toNatClampNeg)) (σ := σ) e1) (by omega) rfl (by decide) rfl rfl (xlt (by decide)) rfl (Nat.le_of_ble_eq_true rfl) rfl rfl rfl <| x_aload_n hC dL_law_642 rfl (j := 1) rfl <| x_aload_n hC dL_law_643 rfl (j := 3) rfl <| x_iload_n hC dL_law_644 rfl (j := 0) rfl <| x_iconst (v := (1 : Int32)) hC dL_law_645 (by decide) <| x_iadd hC dL_law_646 <| ?_
  refine x_sld hC hX hbl hbA dL_law_647 hin1 <| x_callV hC hR dL_law_648 mK_X9_round wml_L_80 (C_X9_round (a1 := (xs (x3 + (1 : Int32)).toNatClampNeg)) (σ := τ) e2) (by omega) rfl (by decide) rfl rfl (xlt (by decide)) rfl (Nat.le_of_ble_eq_true rfl) rfl rfl rfl <| ?_
  refine x_icmp_eq (tgt := 1266) hC dL_law_651 (by decide) (fun _ => ?_) (fun z => absurd rfl z)
  exact ht ρ hI2
set_option maxRecDepth 100000 in
set_option maxHeartbeats 4000000 in
theorem xcase_lasts {Inv : xS2 → Prop} {G : xG} {l : Launch} {K : xK} {b L : Nat} {xs : Nat → Int32} {x3 : Int32} (hC : xCX G mM_L_law K) (hR : xRd K 200) (hX : va_X b L xs (xKs K) (xKs K).heap) (hbl : b < (xKs K).heap.size) (hbA : ¬ xA G b) (hin0 : vp_in x3 L) (hin1 : vp_in (x3 + (1 : Int32)) L) (hin2 : vp_in (x3 + (2 : Int32)) L) (hin3 : vp_in (x3 + (3 : Int32)) L) (hin4 : vp_in (x3 + (4 : Int32)) L) (hin5 : vp_in (x3 + (5 : Int32)) L) (hs : xStep_lasts Inv) (ht : ∀ σ : xS2, Inv σ → xV G l mM_L_law K 1266 [(3, .int x3), (2, .ref (xad G 43)), (1, .ref (xad G 0)), (0, .ref b)] [] (xM σ)) (σ : xS2) (hI : Inv σ) : xV G l mM_L_law K 656 [(3, .int x3), (2, .ref (xad G 43)), (1, .ref (xad G 0)), (0, .ref b)] [] (xM σ) := by
  obtain ⟨r, τ, ρ, e1, e2, hI2⟩ := hs (xs (x3 + (1 : Int32)).toNatClampNeg) σ hI
  refine x_aload_n hC dL_law_656 rfl (j := 2) rfl <| x_aload_n hC dL_law_657 rfl (j := 3) rfl <| x_iload_n hC dL_law_658 rfl (j := 0) rfl <| x_iconst (v := (1 : Int32)) hC dL_law_659 (by decide) <| x_iadd hC dL_law_660 <| x_sld hC hX hbl hbA dL_law_661 hin1 <| ?_
  refine x_callV hC hR dL_law_662 mK_X8_lasts wml_L_81 (C_X8_lasts (a1 := (xs (x3 + (1 : Int32)).toNatClampNeg)) (σ := σ) e1) (by omega) rfl (by decide) rfl rfl (xlt (by decide)) rfl (Nat.le_of_ble_eq_true rfl) rfl rfl rfl <| x_aload_n hC dL_law_665 rfl (j := 1) rfl <| x_aload_n hC dL_law_666 rfl (j := 3) rfl <| x_iload_n hC dL_law_667 rfl (j := 0) rfl <| x_iconst (v := (1 : Int32)) hC dL_law_668 (by decide) <| x_iadd hC dL_law_669 <| ?_
  refine x_sld hC hX hbl hbA dL_law_670 hin1 <| x_callV hC hR dL_law_671 mK_X9_lasts wml_L_84 (C_X9_lasts (a1 := (xs (x3 + (1 : Int32)).toNatClampNeg)) (σ := τ) e2) (by omega) rfl (by decide) rfl rfl (xlt (by decide)) rfl (Nat.le_of_ble_eq_true rfl) rfl rfl rfl <| ?_
  refine x_icmp_eq (tgt := 1266) hC dL_law_674 (by decide) (fun _ => ?_) (fun z => absurd rfl z)
  exact ht ρ hI2
set_option maxRecDepth 100000 in
set_option maxHeartbeats 4000000 in
theorem xcase_clean {Inv : xS2 → Prop} {G : xG} {l : Launch} {K : xK} {b L : Nat} {xs : Nat → Int32} {x3 : Int32} (hC : xCX G mM_L_law K) (hR : xRd K 200) (hX : va_X b L xs (xKs K) (xKs K).heap) (hbl : b < (xKs K).heap.size) (hbA : ¬ xA G b) (hin0 : vp_in x3 L) (hin1 : vp_in (x3 + (1 : Int32)) L) (hin2 : vp_in (x3 + (2 : Int32)) L) (hin3 : vp_in (x3 + (3 : Int32)) L) (hin4 : vp_in (x3 + (4 : Int32)) L) (hin5 : vp_in (x3 + (5 : Int32)) L) (hs : xStep_clean Inv) (ht : ∀ σ : xS2, Inv σ → xV G l mM_L_law K 1266 [(3, .int x3), (2, .ref (xad G 43)), (1, .ref (xad G 0)), (0, .ref b)] [] (xM σ)) (σ : xS2) (hI : Inv σ) : xV G l mM_L_law K 679 [(3, .int x3), (2, .ref (xad G 43)), (1, .ref (xad G 0)), (0, .ref b)] [] (xM σ) := by
  obtain ⟨r, e1, e2, hI2⟩ := hs (xs (x3 + (1 : Int32)).toNatClampNeg) (xs (x3 + (2 : Int32)).toNatClampNeg) (xs (x3 + (3 : Int32)).toNatClampNeg) σ hI
  refine x_aload_n hC dL_law_679 rfl (j := 2) rfl <| x_aload_n hC dL_law_680 rfl (j := 3) rfl <| x_iload_n hC dL_law_681 rfl (j := 0) rfl <| x_iconst (v := (1 : Int32)) hC dL_law_682 (by decide) <| x_iadd hC dL_law_683 <| x_sld hC hX hbl hbA dL_law_684 hin1 <| ?_
  refine x_aload_n hC dL_law_685 rfl (j := 3) rfl <| x_iload_n hC dL_law_686 rfl (j := 0) rfl <| x_iconst (v := (2 : Int32)) hC dL_law_687 (by decide) <| x_iadd hC dL_law_688 <| x_sld hC hX hbl hbA dL_law_689 hin2 <| x_aload_n hC dL_law_690 rfl (j := 3) rfl <| ?_
  refine x_iload_n hC dL_law_691 rfl (j := 0) rfl <| x_iconst (v := (3 : Int32)) hC dL_law_692 (by decide) <| x_iadd hC dL_law_693 <| x_sld hC hX hbl hbA dL_law_694 hin3 <| ?_
  refine x_callV hC hR dL_law_695 mK_X8_clean wml_L_85 (C_X8_clean (a1 := (xs (x3 + (1 : Int32)).toNatClampNeg)) (a2 := (xs (x3 + (2 : Int32)).toNatClampNeg)) (a3 := (xs (x3 + (3 : Int32)).toNatClampNeg)) (σ := σ) e1) (by omega) rfl (by decide) rfl rfl (xlt (by decide)) rfl (Nat.le_of_ble_eq_true rfl) rfl rfl rfl <| x_aload_n hC dL_law_698 rfl (j := 1) rfl <| x_aload_n hC dL_law_699 rfl (j := 3) rfl <| x_iload_n hC dL_law_700 rfl (j := 0) rfl <| x_iconst (v := (1 : Int32)) hC dL_law_701 (by decide) <| x_iadd hC dL_law_702 <| ?_
  refine x_sld hC hX hbl hbA dL_law_703 hin1 <| x_aload_n hC dL_law_704 rfl (j := 3) rfl <| x_iload_n hC dL_law_705 rfl (j := 0) rfl <| x_iconst (v := (2 : Int32)) hC dL_law_706 (by decide) <| x_iadd hC dL_law_707 <| x_sld hC hX hbl hbA dL_law_708 hin2 <| ?_
  refine x_aload_n hC dL_law_709 rfl (j := 3) rfl <| x_iload_n hC dL_law_710 rfl (j := 0) rfl <| x_iconst (v := (3 : Int32)) hC dL_law_711 (by decide) <| x_iadd hC dL_law_712 <| x_sld hC hX hbl hbA dL_law_713 hin3 <| x_callV hC hR dL_law_714 mK_X9_clean wml_L_89 (C_X9_clean (a1 := (xs (x3 + (1 : Int32)).toNatClampNeg)) (a2 := (xs (x3 + (2 : Int32)).toNatClampNeg)) (a3 := (xs (x3 + (3 : Int32)).toNatClampNeg)) (σ := σ) e2) (by omega) rfl (by decide) rfl rfl (xlt (by decide)) rfl (Nat.le_of_ble_eq_true rfl) rfl rfl rfl <| ?_
  refine x_lcmp hC dL_law_717 <| ?_
  refine x_if_eq (tgt := 1266) hC dL_law_718 (by decide) (fun _ => ?_) (fun z => absurd (x_cmp_same r) z)
  exact ht σ hI2
set_option maxRecDepth 100000 in
set_option maxHeartbeats 4000000 in
theorem xcase_line {Inv : xS2 → Prop} {G : xG} {l : Launch} {K : xK} {b L : Nat} {xs : Nat → Int32} {x3 : Int32} (hC : xCX G mM_L_law K) (hR : xRd K 200) (hX : va_X b L xs (xKs K) (xKs K).heap) (hbl : b < (xKs K).heap.size) (hbA : ¬ xA G b) (hin0 : vp_in x3 L) (hin1 : vp_in (x3 + (1 : Int32)) L) (hin2 : vp_in (x3 + (2 : Int32)) L) (hin3 : vp_in (x3 + (3 : Int32)) L) (hin4 : vp_in (x3 + (4 : Int32)) L) (hin5 : vp_in (x3 + (5 : Int32)) L) (hs : xStep_line Inv) (ht : ∀ σ : xS2, Inv σ → xV G l mM_L_law K 1266 [(3, .int x3), (2, .ref (xad G 43)), (1, .ref (xad G 0)), (0, .ref b)] [] (xM σ)) (σ : xS2) (hI : Inv σ) : xV G l mM_L_law K 723 [(3, .int x3), (2, .ref (xad G 43)), (1, .ref (xad G 0)), (0, .ref b)] [] (xM σ) := by
  obtain ⟨r, e1, e2, hI2⟩ := hs (xs (x3 + (1 : Int32)).toNatClampNeg) (xs (x3 + (2 : Int32)).toNatClampNeg) σ hI
  refine x_aload_n hC dL_law_723 rfl (j := 2) rfl <| x_aload_n hC dL_law_724 rfl (j := 3) rfl <| x_iload_n hC dL_law_725 rfl (j := 0) rfl <| x_iconst (v := (1 : Int32)) hC dL_law_726 (by decide) <| x_iadd hC dL_law_727 <| x_sld hC hX hbl hbA dL_law_728 hin1 <| ?_
  refine x_aload_n hC dL_law_729 rfl (j := 3) rfl <| x_iload_n hC dL_law_730 rfl (j := 0) rfl <| x_iconst (v := (2 : Int32)) hC dL_law_731 (by decide) <| x_iadd hC dL_law_732 <| x_sld hC hX hbl hbA dL_law_733 hin2 <| ?_
  refine x_callV hC hR dL_law_734 mK_X8_line wml_L_90 (C_X8_line (a1 := (xs (x3 + (1 : Int32)).toNatClampNeg)) (a2 := (xs (x3 + (2 : Int32)).toNatClampNeg)) (σ := σ) e1) (by omega) rfl (by decide) rfl rfl (xlt (by decide)) rfl (Nat.le_of_ble_eq_true rfl) rfl rfl rfl <| x_aload_n hC dL_law_737 rfl (j := 1) rfl <| x_aload_n hC dL_law_738 rfl (j := 3) rfl <| x_iload_n hC dL_law_739 rfl (j := 0) rfl <| x_iconst (v := (1 : Int32)) hC dL_law_740 (by decide) <| x_iadd hC dL_law_741 <| ?_
  refine x_sld hC hX hbl hbA dL_law_742 hin1 <| x_aload_n hC dL_law_743 rfl (j := 3) rfl <| x_iload_n hC dL_law_744 rfl (j := 0) rfl <| x_iconst (v := (2 : Int32)) hC dL_law_745 (by decide) <| x_iadd hC dL_law_746 <| x_sld hC hX hbl hbA dL_law_747 hin2 <| ?_
  refine x_callV hC hR dL_law_748 mK_X9_line wml_L_94 (C_X9_line (a1 := (xs (x3 + (1 : Int32)).toNatClampNeg)) (a2 := (xs (x3 + (2 : Int32)).toNatClampNeg)) (σ := σ) e2) (by omega) rfl (by decide) rfl rfl (xlt (by decide)) rfl (Nat.le_of_ble_eq_true rfl) rfl rfl rfl <| x_lcmp hC dL_law_751 <| ?_
  refine x_if_eq (tgt := 1266) hC dL_law_752 (by decide) (fun _ => ?_) (fun z => absurd (x_cmp_same r) z)
  exact ht σ hI2
set_option maxRecDepth 100000 in
set_option maxHeartbeats 4000000 in
theorem xcase_drawn {Inv : xS2 → Prop} {G : xG} {l : Launch} {K : xK} {b L : Nat} {xs : Nat → Int32} {x3 : Int32} (hC : xCX G mM_L_law K) (hR : xRd K 200) (hX : va_X b L xs (xKs K) (xKs K).heap) (hbl : b < (xKs K).heap.size) (hbA : ¬ xA G b) (hin0 : vp_in x3 L) (hin1 : vp_in (x3 + (1 : Int32)) L) (hin2 : vp_in (x3 + (2 : Int32)) L) (hin3 : vp_in (x3 + (3 : Int32)) L) (hin4 : vp_in (x3 + (4 : Int32)) L) (hin5 : vp_in (x3 + (5 : Int32)) L) (hs : xStep_drawn Inv) (ht : ∀ σ : xS2, Inv σ → xV G l mM_L_law K 1266 [(3, .int x3), (2, .ref (xad G 43)), (1, .ref (xad G 0)), (0, .ref b)] [] (xM σ)) (σ : xS2) (hI : Inv σ) : xV G l mM_L_law K 757 [(3, .int x3), (2, .ref (xad G 43)), (1, .ref (xad G 0)), (0, .ref b)] [] (xM σ) := by
  obtain ⟨r, τ, ρ, e1, e2, hI2⟩ := hs (xs (x3 + (1 : Int32)).toNatClampNeg) (xs (x3 + (2 : Int32)).toNatClampNeg) (xs (x3 + (3 : Int32)).toNatClampNeg) σ hI
  refine x_aload_n hC dL_law_757 rfl (j := 2) rfl <| x_aload_n hC dL_law_758 rfl (j := 3) rfl <| x_iload_n hC dL_law_759 rfl (j := 0) rfl <| x_iconst (v := (1 : Int32)) hC dL_law_760 (by decide) <| x_iadd hC dL_law_761 <| x_sld hC hX hbl hbA dL_law_762 hin1 <| ?_
  refine x_aload_n hC dL_law_763 rfl (j := 3) rfl <| x_iload_n hC dL_law_764 rfl (j := 0) rfl <| x_iconst (v := (2 : Int32)) hC dL_law_765 (by decide) <| x_iadd hC dL_law_766 <| x_sld hC hX hbl hbA dL_law_767 hin2 <| x_aload_n hC dL_law_768 rfl (j := 3) rfl <| ?_
  refine x_iload_n hC dL_law_769 rfl (j := 0) rfl <| x_iconst (v := (3 : Int32)) hC dL_law_770 (by decide) <| x_iadd hC dL_law_771 <| x_sld hC hX hbl hbA dL_law_772 hin3 <| ?_
  refine x_callV hC hR dL_law_773 mK_X8_drawn wml_L_95 (C_X8_drawn (a1 := (xs (x3 + (1 : Int32)).toNatClampNeg)) (a2 := (xs (x3 + (2 : Int32)).toNatClampNeg)) (a3 := (xs (x3 + (3 : Int32)).toNatClampNeg)) (σ := σ) e1) (by omega) rfl (by decide) rfl rfl (xlt (by decide)) rfl (Nat.le_of_ble_eq_true rfl) rfl rfl rfl <| x_aload_n hC dL_law_776 rfl (j := 1) rfl <| x_aload_n hC dL_law_777 rfl (j := 3) rfl <| x_iload_n hC dL_law_778 rfl (j := 0) rfl <| x_iconst (v := (1 : Int32)) hC dL_law_779 (by decide) <| x_iadd hC dL_law_780 <| ?_
  refine x_sld hC hX hbl hbA dL_law_781 hin1 <| x_aload_n hC dL_law_782 rfl (j := 3) rfl <| x_iload_n hC dL_law_783 rfl (j := 0) rfl <| x_iconst (v := (2 : Int32)) hC dL_law_784 (by decide) <| x_iadd hC dL_law_785 <| x_sld hC hX hbl hbA dL_law_786 hin2 <| ?_
  refine x_aload_n hC dL_law_787 rfl (j := 3) rfl <| x_iload_n hC dL_law_788 rfl (j := 0) rfl <| x_iconst (v := (3 : Int32)) hC dL_law_789 (by decide) <| x_iadd hC dL_law_790 <| x_sld hC hX hbl hbA dL_law_791 hin3 <| x_callV hC hR dL_law_792 mK_X9_drawn wml_L_98 (C_X9_drawn (a1 := (xs (x3 + (1 : Int32)).toNatClampNeg)) (a2 := (xs (x3 + (2 : Int32)).toNatClampNeg)) (a3 := (xs (x3 + (3 : Int32)).toNatClampNeg)) (σ := τ) e2) (by omega) rfl (by decide) rfl rfl (xlt (by decide)) rfl (Nat.le_of_ble_eq_true rfl) rfl rfl rfl <| ?_
  refine x_icmp_eq (tgt := 1266) hC dL_law_795 (by decide) (fun _ => ?_) (fun z => absurd rfl z)
  exact ht ρ hI2
set_option maxRecDepth 100000 in
set_option maxHeartbeats 4000000 in
theorem xcase_judge {Inv : xS2 → Prop} {G : xG} {l : Launch} {K : xK} {b L : Nat} {xs : Nat → Int32} {x3 : Int32} (hC : xCX G mM_L_law K) (hR : xRd K 200) (hX : va_X b L xs (xKs K) (xKs K).heap) (hbl : b < (xKs K).heap.size) (hbA : ¬ xA G b) (hin0 : vp_in x3 L) (hin1 : vp_in (x3 + (1 : Int32)) L) (hin2 : vp_in (x3 + (2 : Int32)) L) (hin3 : vp_in (x3 + (3 : Int32)) L) (hin4 : vp_in (x3 + (4 : Int32)) L) (hin5 : vp_in (x3 + (5 : Int32)) L) (hs : xStep_judge Inv) (ht : ∀ σ : xS2, Inv σ → xV G l mM_L_law K 1266 [(3, .int x3), (2, .ref (xad G 43)), (1, .ref (xad G 0)), (0, .ref b)] [] (xM σ)) (σ : xS2) (hI : Inv σ) : xV G l mM_L_law K 800 [(3, .int x3), (2, .ref (xad G 43)), (1, .ref (xad G 0)), (0, .ref b)] [] (xM σ) := by
  obtain ⟨r, τ, ρ, e1, e2, hI2⟩ := hs (xs (x3 + (1 : Int32)).toNatClampNeg) σ hI
  refine x_aload_n hC dL_law_800 rfl (j := 2) rfl <| x_aload_n hC dL_law_801 rfl (j := 3) rfl <| x_iload_n hC dL_law_802 rfl (j := 0) rfl <| x_iconst (v := (1 : Int32)) hC dL_law_803 (by decide) <| x_iadd hC dL_law_804 <| x_sld hC hX hbl hbA dL_law_805 hin1 <| ?_
  refine x_callV hC hR dL_law_806 mK_X8_judge wml_L_99 (C_X8_judge (a1 := (xs (x3 + (1 : Int32)).toNatClampNeg)) (σ := σ) e1) (by omega) rfl (by decide) rfl rfl (xlt (by decide)) rfl (Nat.le_of_ble_eq_true rfl) rfl rfl rfl <| x_aload_n hC dL_law_809 rfl (j := 1) rfl <| x_aload_n hC dL_law_810 rfl (j := 3) rfl <| x_iload_n hC dL_law_811 rfl (j := 0) rfl <| x_iconst (v := (1 : Int32)) hC dL_law_812 (by decide) <| x_iadd hC dL_law_813 <| ?_
  refine x_sld hC hX hbl hbA dL_law_814 hin1 <| x_callV hC hR dL_law_815 mK_X9_judge wml_L_102 (C_X9_judge (a1 := (xs (x3 + (1 : Int32)).toNatClampNeg)) (σ := τ) e2) (by omega) rfl (by decide) rfl rfl (xlt (by decide)) rfl (Nat.le_of_ble_eq_true rfl) rfl rfl rfl <| ?_
  refine x_icmp_eq (tgt := 1266) hC dL_law_818 (by decide) (fun _ => ?_) (fun z => absurd rfl z)
  exact ht ρ hI2
set_option maxRecDepth 100000 in
set_option maxHeartbeats 4000000 in
theorem xcase_image {Inv : xS2 → Prop} {G : xG} {l : Launch} {K : xK} {b L : Nat} {xs : Nat → Int32} {x3 : Int32} (hC : xCX G mM_L_law K) (hR : xRd K 200) (hX : va_X b L xs (xKs K) (xKs K).heap) (hbl : b < (xKs K).heap.size) (hbA : ¬ xA G b) (hin0 : vp_in x3 L) (hin1 : vp_in (x3 + (1 : Int32)) L) (hin2 : vp_in (x3 + (2 : Int32)) L) (hin3 : vp_in (x3 + (3 : Int32)) L) (hin4 : vp_in (x3 + (4 : Int32)) L) (hin5 : vp_in (x3 + (5 : Int32)) L) (hs : xStep_image Inv) (ht : ∀ σ : xS2, Inv σ → xV G l mM_L_law K 1266 [(3, .int x3), (2, .ref (xad G 43)), (1, .ref (xad G 0)), (0, .ref b)] [] (xM σ)) (σ : xS2) (hI : Inv σ) : xV G l mM_L_law K 823 [(3, .int x3), (2, .ref (xad G 43)), (1, .ref (xad G 0)), (0, .ref b)] [] (xM σ) := by
  obtain ⟨r, τ, ρ, e1, e2, hI2⟩ := hs  σ hI
  refine x_aload_n hC dL_law_823 rfl (j := 2) rfl <| ?_
  refine x_callV hC hR dL_law_824 mK_X8_image wml_L_103 (C_X8_image  (σ := σ) e1) (by omega) rfl (by decide) rfl rfl (xlt (by decide)) rfl (Nat.le_of_ble_eq_true rfl) rfl rfl rfl <| x_aload_n hC dL_law_827 rfl (j := 1) rfl <| x_callV hC hR dL_law_828 mK_X9_image wml_L_106 (C_X9_image  (σ := τ) e2) (by omega) rfl (by decide) rfl rfl (xlt (by decide)) rfl (Nat.le_of_ble_eq_true rfl) rfl rfl rfl <| ?_
  refine x_icmp_eq (tgt := 1266) hC dL_law_831 (by decide) (fun _ => ?_) (fun z => absurd rfl z)
  exact ht ρ hI2
set_option maxRecDepth 100000 in
set_option maxHeartbeats 4000000 in
theorem xcase_back {Inv : xS2 → Prop} {G : xG} {l : Launch} {K : xK} {b L : Nat} {xs : Nat → Int32} {x3 : Int32} (hC : xCX G mM_L_law K) (hR : xRd K 200) (hX : va_X b L xs (xKs K) (xKs K).heap) (hbl : b < (xKs K).heap.size) (hbA : ¬ xA G b) (hin0 : vp_in x3 L) (hin1 : vp_in (x3 + (1 : Int32)) L) (hin2 : vp_in (x3 + (2 : Int32)) L) (hin3 : vp_in (x3 + (3 : Int32)) L) (hin4 : vp_in (x3 + (4 : Int32)) L) (hin5 : vp_in (x3 + (5 : Int32)) L) (hs : xStep_back Inv) (ht : ∀ σ : xS2, Inv σ → xV G l mM_L_law K 1266 [(3, .int x3), (2, .ref (xad G 43)), (1, .ref (xad G 0)), (0, .ref b)] [] (xM σ)) (σ : xS2) (hI : Inv σ) : xV G l mM_L_law K 836 [(3, .int x3), (2, .ref (xad G 43)), (1, .ref (xad G 0)), (0, .ref b)] [] (xM σ) := by
  obtain ⟨r, τ, ρ, e1, e2, hI2⟩ := hs  σ hI
  refine x_aload_n hC dL_law_836 rfl (j := 2) rfl <| ?_
  refine x_callV hC hR dL_law_837 mK_X8_back wml_L_107 (C_X8_back  (σ := σ) e1) (by omega) rfl (by decide) rfl rfl (xlt (by decide)) rfl (Nat.le_of_ble_eq_true rfl) rfl rfl rfl <| x_aload_n hC dL_law_840 rfl (j := 1) rfl <| x_callV hC hR dL_law_841 mK_X9_back wml_L_110 (C_X9_back  (σ := τ) e2) (by omega) rfl (by decide) rfl rfl (xlt (by decide)) rfl (Nat.le_of_ble_eq_true rfl) rfl rfl rfl <| ?_
  refine x_icmp_eq (tgt := 1266) hC dL_law_844 (by decide) (fun _ => ?_) (fun z => absurd rfl z)
  exact ht ρ hI2
set_option maxRecDepth 100000 in
set_option maxHeartbeats 4000000 in
theorem xcase_undo {Inv : xS2 → Prop} {G : xG} {l : Launch} {K : xK} {b L : Nat} {xs : Nat → Int32} {x3 : Int32} (hC : xCX G mM_L_law K) (hR : xRd K 200) (hX : va_X b L xs (xKs K) (xKs K).heap) (hbl : b < (xKs K).heap.size) (hbA : ¬ xA G b) (hin0 : vp_in x3 L) (hin1 : vp_in (x3 + (1 : Int32)) L) (hin2 : vp_in (x3 + (2 : Int32)) L) (hin3 : vp_in (x3 + (3 : Int32)) L) (hin4 : vp_in (x3 + (4 : Int32)) L) (hin5 : vp_in (x3 + (5 : Int32)) L) (hs : xStep_undo Inv) (ht : ∀ σ : xS2, Inv σ → xV G l mM_L_law K 1266 [(3, .int x3), (2, .ref (xad G 43)), (1, .ref (xad G 0)), (0, .ref b)] [] (xM σ)) (σ : xS2) (hI : Inv σ) : xV G l mM_L_law K 849 [(3, .int x3), (2, .ref (xad G 43)), (1, .ref (xad G 0)), (0, .ref b)] [] (xM σ) := by
  obtain ⟨r, τ, ρ, e1, e2, hI2⟩ := hs  σ hI
  refine x_aload_n hC dL_law_849 rfl (j := 2) rfl <| ?_
  refine x_callV hC hR dL_law_850 mK_X8_undo wml_L_111 (C_X8_undo  (σ := σ) e1) (by omega) rfl (by decide) rfl rfl (xlt (by decide)) rfl (Nat.le_of_ble_eq_true rfl) rfl rfl rfl <| x_aload_n hC dL_law_853 rfl (j := 1) rfl <| x_callV hC hR dL_law_854 mK_X9_undo wml_L_114 (C_X9_undo  (σ := τ) e2) (by omega) rfl (by decide) rfl rfl (xlt (by decide)) rfl (Nat.le_of_ble_eq_true rfl) rfl rfl rfl <| ?_
  refine x_icmp_eq (tgt := 1266) hC dL_law_857 (by decide) (fun _ => ?_) (fun z => absurd rfl z)
  exact ht ρ hI2
set_option maxRecDepth 100000 in
set_option maxHeartbeats 4000000 in
theorem xcase_redo {Inv : xS2 → Prop} {G : xG} {l : Launch} {K : xK} {b L : Nat} {xs : Nat → Int32} {x3 : Int32} (hC : xCX G mM_L_law K) (hR : xRd K 200) (hX : va_X b L xs (xKs K) (xKs K).heap) (hbl : b < (xKs K).heap.size) (hbA : ¬ xA G b) (hin0 : vp_in x3 L) (hin1 : vp_in (x3 + (1 : Int32)) L) (hin2 : vp_in (x3 + (2 : Int32)) L) (hin3 : vp_in (x3 + (3 : Int32)) L) (hin4 : vp_in (x3 + (4 : Int32)) L) (hin5 : vp_in (x3 + (5 : Int32)) L) (hs : xStep_redo Inv) (ht : ∀ σ : xS2, Inv σ → xV G l mM_L_law K 1266 [(3, .int x3), (2, .ref (xad G 43)), (1, .ref (xad G 0)), (0, .ref b)] [] (xM σ)) (σ : xS2) (hI : Inv σ) : xV G l mM_L_law K 862 [(3, .int x3), (2, .ref (xad G 43)), (1, .ref (xad G 0)), (0, .ref b)] [] (xM σ) := by
  obtain ⟨r, τ, ρ, e1, e2, hI2⟩ := hs  σ hI
  refine x_aload_n hC dL_law_862 rfl (j := 2) rfl <| ?_
  refine x_callV hC hR dL_law_863 mK_X8_redo wml_L_115 (C_X8_redo  (σ := σ) e1) (by omega) rfl (by decide) rfl rfl (xlt (by decide)) rfl (Nat.le_of_ble_eq_true rfl) rfl rfl rfl <| x_aload_n hC dL_law_866 rfl (j := 1) rfl <| x_callV hC hR dL_law_867 mK_X9_redo wml_L_118 (C_X9_redo  (σ := τ) e2) (by omega) rfl (by decide) rfl rfl (xlt (by decide)) rfl (Nat.le_of_ble_eq_true rfl) rfl rfl rfl <| ?_
  refine x_icmp_eq (tgt := 1266) hC dL_law_870 (by decide) (fun _ => ?_) (fun z => absurd rfl z)
  exact ht ρ hI2
set_option maxRecDepth 100000 in
set_option maxHeartbeats 4000000 in
theorem xcase_body {Inv : xS2 → Prop} {G : xG} {l : Launch} {K : xK} {b L : Nat} {xs : Nat → Int32} {x3 : Int32} (hC : xCX G mM_L_law K) (hR : xRd K 200) (hX : va_X b L xs (xKs K) (xKs K).heap) (hbl : b < (xKs K).heap.size) (hbA : ¬ xA G b) (hin0 : vp_in x3 L) (hin1 : vp_in (x3 + (1 : Int32)) L) (hin2 : vp_in (x3 + (2 : Int32)) L) (hin3 : vp_in (x3 + (3 : Int32)) L) (hin4 : vp_in (x3 + (4 : Int32)) L) (hin5 : vp_in (x3 + (5 : Int32)) L) (hs : xStep_body Inv) (ht : ∀ σ : xS2, Inv σ → xV G l mM_L_law K 1266 [(3, .int x3), (2, .ref (xad G 43)), (1, .ref (xad G 0)), (0, .ref b)] [] (xM σ)) (σ : xS2) (hI : Inv σ) : xV G l mM_L_law K 875 [(3, .int x3), (2, .ref (xad G 43)), (1, .ref (xad G 0)), (0, .ref b)] [] (xM σ) := by
  obtain ⟨r, τ, ρ, e1, e2, hI2⟩ := hs (xs (x3 + (1 : Int32)).toNatClampNeg) σ hI
  refine x_aload_n hC dL_law_875 rfl (j := 2) rfl <| x_aload_n hC dL_law_876 rfl (j := 3) rfl <| x_iload_n hC dL_law_877 rfl (j := 0) rfl <| x_iconst (v := (1 : Int32)) hC dL_law_878 (by decide) <| x_iadd hC dL_law_879 <| x_sld hC hX hbl hbA dL_law_880 hin1 <| ?_
  refine x_callV hC hR dL_law_881 mK_X8_body wml_L_119 (C_X8_body (a1 := (xs (x3 + (1 : Int32)).toNatClampNeg)) (σ := σ) e1) (by omega) rfl (by decide) rfl rfl (xlt (by decide)) rfl (Nat.le_of_ble_eq_true rfl) rfl rfl rfl <| x_aload_n hC dL_law_884 rfl (j := 1) rfl <| x_aload_n hC dL_law_885 rfl (j := 3) rfl <| x_iload_n hC dL_law_886 rfl (j := 0) rfl <| x_iconst (v := (1 : Int32)) hC dL_law_887 (by decide) <| x_iadd hC dL_law_888 <| ?_
  refine x_sld hC hX hbl hbA dL_law_889 hin1 <| x_callV hC hR dL_law_890 mK_X9_body wml_L_122 (C_X9_body (a1 := (xs (x3 + (1 : Int32)).toNatClampNeg)) (σ := τ) e2) (by omega) rfl (by decide) rfl rfl (xlt (by decide)) rfl (Nat.le_of_ble_eq_true rfl) rfl rfl rfl <| ?_
  refine x_icmp_eq (tgt := 1266) hC dL_law_893 (by decide) (fun _ => ?_) (fun z => absurd rfl z)
  exact ht ρ hI2
set_option maxRecDepth 100000 in
set_option maxHeartbeats 4000000 in
theorem xcase_act {Inv : xS2 → Prop} {G : xG} {l : Launch} {K : xK} {b L : Nat} {xs : Nat → Int32} {x3 : Int32} (hC : xCX G mM_L_law K) (hR : xRd K 200) (hX : va_X b L xs (xKs K) (xKs K).heap) (hbl : b < (xKs K).heap.size) (hbA : ¬ xA G b) (hin0 : vp_in x3 L) (hin1 : vp_in (x3 + (1 : Int32)) L) (hin2 : vp_in (x3 + (2 : Int32)) L) (hin3 : vp_in (x3 + (3 : Int32)) L) (hin4 : vp_in (x3 + (4 : Int32)) L) (hin5 : vp_in (x3 + (5 : Int32)) L) (hs : xStep_act Inv) (ht : ∀ σ : xS2, Inv σ → xV G l mM_L_law K 1266 [(3, .int x3), (2, .ref (xad G 43)), (1, .ref (xad G 0)), (0, .ref b)] [] (xM σ)) (σ : xS2) (hI : Inv σ) : xV G l mM_L_law K 898 [(3, .int x3), (2, .ref (xad G 43)), (1, .ref (xad G 0)), (0, .ref b)] [] (xM σ) := by
  obtain ⟨r, τ, ρ, e1, e2, hI2⟩ := hs (xs (x3 + (1 : Int32)).toNatClampNeg) (xs (x3 + (2 : Int32)).toNatClampNeg) (xs (x3 + (3 : Int32)).toNatClampNeg) σ hI
  refine x_aload_n hC dL_law_898 rfl (j := 2) rfl <| x_aload_n hC dL_law_899 rfl (j := 3) rfl <| x_iload_n hC dL_law_900 rfl (j := 0) rfl <| x_iconst (v := (1 : Int32)) hC dL_law_901 (by decide) <| x_iadd hC dL_law_902 <| x_sld hC hX hbl hbA dL_law_903 hin1 <| ?_
  refine x_aload_n hC dL_law_904 rfl (j := 3) rfl <| x_iload_n hC dL_law_905 rfl (j := 0) rfl <| x_iconst (v := (2 : Int32)) hC dL_law_906 (by decide) <| x_iadd hC dL_law_907 <| x_sld hC hX hbl hbA dL_law_908 hin2 <| x_aload_n hC dL_law_909 rfl (j := 3) rfl <| ?_
  refine x_iload_n hC dL_law_910 rfl (j := 0) rfl <| x_iconst (v := (3 : Int32)) hC dL_law_911 (by decide) <| x_iadd hC dL_law_912 <| x_sld hC hX hbl hbA dL_law_913 hin3 <| ?_
  refine x_callV hC hR dL_law_914 mK_X8_act wml_L_123 (C_X8_act (a1 := (xs (x3 + (1 : Int32)).toNatClampNeg)) (a2 := (xs (x3 + (2 : Int32)).toNatClampNeg)) (a3 := (xs (x3 + (3 : Int32)).toNatClampNeg)) (σ := σ) e1) (by omega) rfl (by decide) rfl rfl (xlt (by decide)) rfl (Nat.le_of_ble_eq_true rfl) rfl rfl rfl <| x_aload_n hC dL_law_917 rfl (j := 1) rfl <| x_aload_n hC dL_law_918 rfl (j := 3) rfl <| x_iload_n hC dL_law_919 rfl (j := 0) rfl <| x_iconst (v := (1 : Int32)) hC dL_law_920 (by decide) <| x_iadd hC dL_law_921 <| ?_
  refine x_sld hC hX hbl hbA dL_law_922 hin1 <| x_aload_n hC dL_law_923 rfl (j := 3) rfl <| x_iload_n hC dL_law_924 rfl (j := 0) rfl <| x_iconst (v := (2 : Int32)) hC dL_law_925 (by decide) <| x_iadd hC dL_law_926 <| x_sld hC hX hbl hbA dL_law_927 hin2 <| ?_
  refine x_aload_n hC dL_law_928 rfl (j := 3) rfl <| x_iload_n hC dL_law_929 rfl (j := 0) rfl <| x_iconst (v := (3 : Int32)) hC dL_law_930 (by decide) <| x_iadd hC dL_law_931 <| x_sld hC hX hbl hbA dL_law_932 hin3 <| x_callV hC hR dL_law_933 mK_X9_act wml_L_126 (C_X9_act (a1 := (xs (x3 + (1 : Int32)).toNatClampNeg)) (a2 := (xs (x3 + (2 : Int32)).toNatClampNeg)) (a3 := (xs (x3 + (3 : Int32)).toNatClampNeg)) (σ := τ) e2) (by omega) rfl (by decide) rfl rfl (xlt (by decide)) rfl (Nat.le_of_ble_eq_true rfl) rfl rfl rfl <| ?_
  refine x_icmp_eq (tgt := 1266) hC dL_law_936 (by decide) (fun _ => ?_) (fun z => absurd rfl z)
  exact ht ρ hI2
set_option maxRecDepth 100000 in
set_option maxHeartbeats 4000000 in
theorem xcase_trace {Inv : xS2 → Prop} {G : xG} {l : Launch} {K : xK} {b L : Nat} {xs : Nat → Int32} {x3 : Int32} (hC : xCX G mM_L_law K) (hR : xRd K 200) (hX : va_X b L xs (xKs K) (xKs K).heap) (hbl : b < (xKs K).heap.size) (hbA : ¬ xA G b) (hin0 : vp_in x3 L) (hin1 : vp_in (x3 + (1 : Int32)) L) (hin2 : vp_in (x3 + (2 : Int32)) L) (hin3 : vp_in (x3 + (3 : Int32)) L) (hin4 : vp_in (x3 + (4 : Int32)) L) (hin5 : vp_in (x3 + (5 : Int32)) L) (hs : xStep_trace Inv) (ht : ∀ σ : xS2, Inv σ → xV G l mM_L_law K 1266 [(3, .int x3), (2, .ref (xad G 43)), (1, .ref (xad G 0)), (0, .ref b)] [] (xM σ)) (σ : xS2) (hI : Inv σ) : xV G l mM_L_law K 941 [(3, .int x3), (2, .ref (xad G 43)), (1, .ref (xad G 0)), (0, .ref b)] [] (xM σ) := by
  obtain ⟨r, e1, e2, hI2⟩ := hs (xs (x3 + (1 : Int32)).toNatClampNeg) σ hI
  refine x_aload_n hC dL_law_941 rfl (j := 2) rfl <| x_aload_n hC dL_law_942 rfl (j := 3) rfl <| x_iload_n hC dL_law_943 rfl (j := 0) rfl <| x_iconst (v := (1 : Int32)) hC dL_law_944 (by decide) <| x_iadd hC dL_law_945 <| x_sld hC hX hbl hbA dL_law_946 hin1 <| ?_
  refine x_callV hC hR dL_law_947 mK_X8_trace wml_L_127 (C_X8_trace (a1 := (xs (x3 + (1 : Int32)).toNatClampNeg)) (σ := σ) e1) (by omega) rfl (by decide) rfl rfl (xlt (by decide)) rfl (Nat.le_of_ble_eq_true rfl) rfl rfl rfl <| x_aload_n hC dL_law_950 rfl (j := 1) rfl <| x_aload_n hC dL_law_951 rfl (j := 3) rfl <| x_iload_n hC dL_law_952 rfl (j := 0) rfl <| x_iconst (v := (1 : Int32)) hC dL_law_953 (by decide) <| x_iadd hC dL_law_954 <| ?_
  refine x_sld hC hX hbl hbA dL_law_955 hin1 <| x_callV hC hR dL_law_956 mK_X9_trace wml_L_130 (C_X9_trace (a1 := (xs (x3 + (1 : Int32)).toNatClampNeg)) (σ := σ) e2) (by omega) rfl (by decide) rfl rfl (xlt (by decide)) rfl (Nat.le_of_ble_eq_true rfl) rfl rfl rfl <| ?_
  refine x_icmp_eq (tgt := 1266) hC dL_law_959 (by decide) (fun _ => ?_) (fun z => absurd rfl z)
  exact ht σ hI2
set_option maxRecDepth 100000 in
set_option maxHeartbeats 4000000 in
theorem xcase_keep {Inv : xS2 → Prop} {G : xG} {l : Launch} {K : xK} {b L : Nat} {xs : Nat → Int32} {x3 : Int32} (hC : xCX G mM_L_law K) (hR : xRd K 200) (hX : va_X b L xs (xKs K) (xKs K).heap) (hbl : b < (xKs K).heap.size) (hbA : ¬ xA G b) (hin0 : vp_in x3 L) (hin1 : vp_in (x3 + (1 : Int32)) L) (hin2 : vp_in (x3 + (2 : Int32)) L) (hin3 : vp_in (x3 + (3 : Int32)) L) (hin4 : vp_in (x3 + (4 : Int32)) L) (hin5 : vp_in (x3 + (5 : Int32)) L) (hs : xStep_keep Inv) (ht : ∀ σ : xS2, Inv σ → xV G l mM_L_law K 1266 [(3, .int x3), (2, .ref (xad G 43)), (1, .ref (xad G 0)), (0, .ref b)] [] (xM σ)) (σ : xS2) (hI : Inv σ) : xV G l mM_L_law K 964 [(3, .int x3), (2, .ref (xad G 43)), (1, .ref (xad G 0)), (0, .ref b)] [] (xM σ) := by
  obtain ⟨r, τ, ρ, e1, e2, hI2⟩ := hs (xs (x3 + (1 : Int32)).toNatClampNeg) (xs (x3 + (2 : Int32)).toNatClampNeg) σ hI
  refine x_aload_n hC dL_law_964 rfl (j := 2) rfl <| x_aload_n hC dL_law_965 rfl (j := 3) rfl <| x_iload_n hC dL_law_966 rfl (j := 0) rfl <| x_iconst (v := (1 : Int32)) hC dL_law_967 (by decide) <| x_iadd hC dL_law_968 <| x_sld hC hX hbl hbA dL_law_969 hin1 <| ?_
  refine x_aload_n hC dL_law_970 rfl (j := 3) rfl <| x_iload_n hC dL_law_971 rfl (j := 0) rfl <| x_iconst (v := (2 : Int32)) hC dL_law_972 (by decide) <| x_iadd hC dL_law_973 <| x_sld hC hX hbl hbA dL_law_974 hin2 <| ?_
  refine x_callV hC hR dL_law_975 mK_X8_keep wml_L_131 (C_X8_keep (a1 := (xs (x3 + (1 : Int32)).toNatClampNeg)) (a2 := (xs (x3 + (2 : Int32)).toNatClampNeg)) (σ := σ) e1) (by omega) rfl (by decide) rfl rfl (xlt (by decide)) rfl (Nat.le_of_ble_eq_true rfl) rfl rfl rfl <| x_aload_n hC dL_law_978 rfl (j := 1) rfl <| x_aload_n hC dL_law_979 rfl (j := 3) rfl <| x_iload_n hC dL_law_980 rfl (j := 0) rfl <| x_iconst (v := (1 : Int32)) hC dL_law_981 (by decide) <| x_iadd hC dL_law_982 <| ?_
  refine x_sld hC hX hbl hbA dL_law_983 hin1 <| x_aload_n hC dL_law_984 rfl (j := 3) rfl <| x_iload_n hC dL_law_985 rfl (j := 0) rfl <| x_iconst (v := (2 : Int32)) hC dL_law_986 (by decide) <| x_iadd hC dL_law_987 <| x_sld hC hX hbl hbA dL_law_988 hin2 <| ?_
  refine x_callV hC hR dL_law_989 mK_X9_keep wml_L_134 (C_X9_keep (a1 := (xs (x3 + (1 : Int32)).toNatClampNeg)) (a2 := (xs (x3 + (2 : Int32)).toNatClampNeg)) (σ := τ) e2) (by omega) rfl (by decide) rfl rfl (xlt (by decide)) rfl (Nat.le_of_ble_eq_true rfl) rfl rfl rfl <| ?_
  refine x_icmp_eq (tgt := 1266) hC dL_law_992 (by decide) (fun _ => ?_) (fun z => absurd rfl z)
  exact ht ρ hI2
set_option maxRecDepth 100000 in
set_option maxHeartbeats 4000000 in
theorem xcase_row {Inv : xS2 → Prop} {G : xG} {l : Launch} {K : xK} {b L : Nat} {xs : Nat → Int32} {x3 : Int32} (hC : xCX G mM_L_law K) (hR : xRd K 200) (hX : va_X b L xs (xKs K) (xKs K).heap) (hbl : b < (xKs K).heap.size) (hbA : ¬ xA G b) (hin0 : vp_in x3 L) (hin1 : vp_in (x3 + (1 : Int32)) L) (hin2 : vp_in (x3 + (2 : Int32)) L) (hin3 : vp_in (x3 + (3 : Int32)) L) (hin4 : vp_in (x3 + (4 : Int32)) L) (hin5 : vp_in (x3 + (5 : Int32)) L) (hs : xStep_row Inv) (ht : ∀ σ : xS2, Inv σ → xV G l mM_L_law K 1266 [(3, .int x3), (2, .ref (xad G 43)), (1, .ref (xad G 0)), (0, .ref b)] [] (xM σ)) (σ : xS2) (hI : Inv σ) : xV G l mM_L_law K 997 [(3, .int x3), (2, .ref (xad G 43)), (1, .ref (xad G 0)), (0, .ref b)] [] (xM σ) := by
  obtain ⟨r, τ, ρ, e1, e2, hI2⟩ := hs (xs (x3 + (1 : Int32)).toNatClampNeg) (xs (x3 + (2 : Int32)).toNatClampNeg) (xs (x3 + (3 : Int32)).toNatClampNeg) σ hI
  refine x_aload_n hC dL_law_997 rfl (j := 2) rfl <| x_aload_n hC dL_law_998 rfl (j := 3) rfl <| x_iload_n hC dL_law_999 rfl (j := 0) rfl <| x_iconst (v := (1 : Int32)) hC dL_law_1000 (by decide) <| x_iadd hC dL_law_1001 <| x_sld hC hX hbl hbA dL_law_1002 hin1 <| ?_
  refine x_aload_n hC dL_law_1003 rfl (j := 3) rfl <| x_iload_n hC dL_law_1004 rfl (j := 0) rfl <| x_iconst (v := (2 : Int32)) hC dL_law_1005 (by decide) <| x_iadd hC dL_law_1006 <| x_sld hC hX hbl hbA dL_law_1007 hin2 <| x_aload_n hC dL_law_1008 rfl (j := 3) rfl <| ?_
  refine x_iload_n hC dL_law_1009 rfl (j := 0) rfl <| x_iconst (v := (3 : Int32)) hC dL_law_1010 (by decide) <| x_iadd hC dL_law_1011 <| x_sld hC hX hbl hbA dL_law_1012 hin3 <| ?_
  refine x_callV hC hR dL_law_1013 mK_X8_row wml_L_135 (C_X8_row (a1 := (xs (x3 + (1 : Int32)).toNatClampNeg)) (a2 := (xs (x3 + (2 : Int32)).toNatClampNeg)) (a3 := (xs (x3 + (3 : Int32)).toNatClampNeg)) (σ := σ) e1) (by omega) rfl (by decide) rfl rfl (xlt (by decide)) rfl (Nat.le_of_ble_eq_true rfl) rfl rfl rfl <| x_aload_n hC dL_law_1016 rfl (j := 1) rfl <| x_aload_n hC dL_law_1017 rfl (j := 3) rfl <| x_iload_n hC dL_law_1018 rfl (j := 0) rfl <| x_iconst (v := (1 : Int32)) hC dL_law_1019 (by decide) <| x_iadd hC dL_law_1020 <| ?_
  refine x_sld hC hX hbl hbA dL_law_1021 hin1 <| x_aload_n hC dL_law_1022 rfl (j := 3) rfl <| x_iload_n hC dL_law_1023 rfl (j := 0) rfl <| x_iconst (v := (2 : Int32)) hC dL_law_1024 (by decide) <| x_iadd hC dL_law_1025 <| x_sld hC hX hbl hbA dL_law_1026 hin2 <| ?_
  refine x_aload_n hC dL_law_1027 rfl (j := 3) rfl <| x_iload_n hC dL_law_1028 rfl (j := 0) rfl <| x_iconst (v := (3 : Int32)) hC dL_law_1029 (by decide) <| x_iadd hC dL_law_1030 <| x_sld hC hX hbl hbA dL_law_1031 hin3 <| x_callV hC hR dL_law_1032 mK_X9_row wml_L_138 (C_X9_row (a1 := (xs (x3 + (1 : Int32)).toNatClampNeg)) (a2 := (xs (x3 + (2 : Int32)).toNatClampNeg)) (a3 := (xs (x3 + (3 : Int32)).toNatClampNeg)) (σ := τ) e2) (by omega) rfl (by decide) rfl rfl (xlt (by decide)) rfl (Nat.le_of_ble_eq_true rfl) rfl rfl rfl <| ?_
  refine x_icmp_eq (tgt := 1266) hC dL_law_1035 (by decide) (fun _ => ?_) (fun z => absurd rfl z)
  exact ht ρ hI2
set_option maxRecDepth 100000 in
set_option maxHeartbeats 4000000 in
theorem xcase_put {Inv : xS2 → Prop} {G : xG} {l : Launch} {K : xK} {b L : Nat} {xs : Nat → Int32} {x3 : Int32} (hC : xCX G mM_L_law K) (hR : xRd K 200) (hX : va_X b L xs (xKs K) (xKs K).heap) (hbl : b < (xKs K).heap.size) (hbA : ¬ xA G b) (hin0 : vp_in x3 L) (hin1 : vp_in (x3 + (1 : Int32)) L) (hin2 : vp_in (x3 + (2 : Int32)) L) (hin3 : vp_in (x3 + (3 : Int32)) L) (hin4 : vp_in (x3 + (4 : Int32)) L) (hin5 : vp_in (x3 + (5 : Int32)) L) (hs : xStep_put Inv) (ht : ∀ σ : xS2, Inv σ → xV G l mM_L_law K 1266 [(3, .int x3), (2, .ref (xad G 43)), (1, .ref (xad G 0)), (0, .ref b)] [] (xM σ)) (σ : xS2) (hI : Inv σ) : xV G l mM_L_law K 1040 [(3, .int x3), (2, .ref (xad G 43)), (1, .ref (xad G 0)), (0, .ref b)] [] (xM σ) := by
  obtain ⟨r, τ, ρ, e1, e2, hI2⟩ := hs (xs (x3 + (1 : Int32)).toNatClampNeg) (xs (x3 + (2 : Int32)).toNatClampNeg) ((xls ((xs (x3 + (3 : Int32)).toNatClampNeg).toInt64) (32 : Int32)) ||| (((xs (x3 + (4 : Int32)).toNatClampNeg).toInt64) &&& (4294967295 : Int64))) σ hI
  refine x_aload_n hC dL_law_1040 rfl (j := 2) rfl <| x_aload_n hC dL_law_1041 rfl (j := 3) rfl <| x_iload_n hC dL_law_1042 rfl (j := 0) rfl <| x_iconst (v := (1 : Int32)) hC dL_law_1043 (by decide) <| x_iadd hC dL_law_1044 <| x_sld hC hX hbl hbA dL_law_1045 hin1 <| ?_
  refine x_aload_n hC dL_law_1046 rfl (j := 3) rfl <| x_iload_n hC dL_law_1047 rfl (j := 0) rfl <| x_iconst (v := (2 : Int32)) hC dL_law_1048 (by decide) <| x_iadd hC dL_law_1049 <| x_sld hC hX hbl hbA dL_law_1050 hin2 <| x_aload_n hC dL_law_1051 rfl (j := 3) rfl <| ?_
  refine x_iload_n hC dL_law_1052 rfl (j := 0) rfl <| x_iconst (v := (3 : Int32)) hC dL_law_1053 (by decide) <| x_iadd hC dL_law_1054 <| x_sld hC hX hbl hbA dL_law_1055 hin3 <| x_i2l (v := ((xs (x3 + (3 : Int32)).toNatClampNeg).toInt64)) hC dL_law_1056 rfl <| x_bipush (v := (32 : Int32)) hC dL_law_1057 (by decide) <| ?_
  refine x_lshl (v := (xls ((xs (x3 + (3 : Int32)).toNatClampNeg).toInt64) (32 : Int32))) hC dL_law_1059 rfl <| x_aload_n hC dL_law_1060 rfl (j := 3) rfl <| x_iload_n hC dL_law_1061 rfl (j := 0) rfl <| x_iconst (v := (4 : Int32)) hC dL_law_1062 (by decide) <| x_iadd hC dL_law_1063 <| x_sld hC hX hbl hbA dL_law_1064 hin4 <| ?_
  refine x_i2l (v := ((xs (x3 + (4 : Int32)).toNatClampNeg).toInt64)) hC dL_law_1065 rfl <| x_ldc2 hC dL_law_1066 wconstL_L_139 <| x_land hC dL_law_1069 <| x_lor hC dL_law_1070 <| ?_
  refine x_callV hC hR dL_law_1071 mK_X8_put wml_L_141 (C_X8_put (a1 := (xs (x3 + (1 : Int32)).toNatClampNeg)) (a2 := (xs (x3 + (2 : Int32)).toNatClampNeg)) (a3 := ((xls ((xs (x3 + (3 : Int32)).toNatClampNeg).toInt64) (32 : Int32)) ||| (((xs (x3 + (4 : Int32)).toNatClampNeg).toInt64) &&& (4294967295 : Int64)))) (σ := σ) e1) (by omega) rfl (by decide) rfl rfl (xlt (by decide)) rfl (Nat.le_of_ble_eq_true rfl) rfl rfl rfl <| x_aload_n hC dL_law_1074 rfl (j := 1) rfl <| x_aload_n hC dL_law_1075 rfl (j := 3) rfl <| x_iload_n hC dL_law_1076 rfl (j := 0) rfl <| x_iconst (v := (1 : Int32)) hC dL_law_1077 (by decide) <| x_iadd hC dL_law_1078 <| ?_
  refine x_sld hC hX hbl hbA dL_law_1079 hin1 <| x_aload_n hC dL_law_1080 rfl (j := 3) rfl <| x_iload_n hC dL_law_1081 rfl (j := 0) rfl <| x_iconst (v := (2 : Int32)) hC dL_law_1082 (by decide) <| x_iadd hC dL_law_1083 <| x_sld hC hX hbl hbA dL_law_1084 hin2 <| ?_
  refine x_aload_n hC dL_law_1085 rfl (j := 3) rfl <| x_iload_n hC dL_law_1086 rfl (j := 0) rfl <| x_iconst (v := (3 : Int32)) hC dL_law_1087 (by decide) <| x_iadd hC dL_law_1088 <| x_sld hC hX hbl hbA dL_law_1089 hin3 <| x_i2l (v := ((xs (x3 + (3 : Int32)).toNatClampNeg).toInt64)) hC dL_law_1090 rfl <| ?_
  refine x_bipush (v := (32 : Int32)) hC dL_law_1091 (by decide) <| x_lshl (v := (xls ((xs (x3 + (3 : Int32)).toNatClampNeg).toInt64) (32 : Int32))) hC dL_law_1093 rfl <| x_aload_n hC dL_law_1094 rfl (j := 3) rfl <| x_iload_n hC dL_law_1095 rfl (j := 0) rfl <| x_iconst (v := (4 : Int32)) hC dL_law_1096 (by decide) <| x_iadd hC dL_law_1097 <| ?_
  refine x_sld hC hX hbl hbA dL_law_1098 hin4 <| x_i2l (v := ((xs (x3 + (4 : Int32)).toNatClampNeg).toInt64)) hC dL_law_1099 rfl <| x_ldc2 hC dL_law_1100 wconstL_L_139 <| x_land hC dL_law_1103 <| x_lor hC dL_law_1104 <| x_callV hC hR dL_law_1105 mK_X9_put wml_L_145 (C_X9_put (a1 := (xs (x3 + (1 : Int32)).toNatClampNeg)) (a2 := (xs (x3 + (2 : Int32)).toNatClampNeg)) (a3 := ((xls ((xs (x3 + (3 : Int32)).toNatClampNeg).toInt64) (32 : Int32)) ||| (((xs (x3 + (4 : Int32)).toNatClampNeg).toInt64) &&& (4294967295 : Int64)))) (σ := τ) e2) (by omega) rfl (by decide) rfl rfl (xlt (by decide)) rfl (Nat.le_of_ble_eq_true rfl) rfl rfl rfl <| ?_
  refine x_icmp_eq (tgt := 1266) hC dL_law_1108 (by decide) (fun _ => ?_) (fun z => absurd rfl z)
  exact ht ρ hI2
set_option maxRecDepth 100000 in
set_option maxHeartbeats 4000000 in
theorem xcase_element {Inv : xS2 → Prop} {G : xG} {l : Launch} {K : xK} {b L : Nat} {xs : Nat → Int32} {x3 : Int32} (hC : xCX G mM_L_law K) (hR : xRd K 200) (hX : va_X b L xs (xKs K) (xKs K).heap) (hbl : b < (xKs K).heap.size) (hbA : ¬ xA G b) (hin0 : vp_in x3 L) (hin1 : vp_in (x3 + (1 : Int32)) L) (hin2 : vp_in (x3 + (2 : Int32)) L) (hin3 : vp_in (x3 + (3 : Int32)) L) (hin4 : vp_in (x3 + (4 : Int32)) L) (hin5 : vp_in (x3 + (5 : Int32)) L) (hs : xStep_element Inv) (ht : ∀ σ : xS2, Inv σ → xV G l mM_L_law K 1266 [(3, .int x3), (2, .ref (xad G 43)), (1, .ref (xad G 0)), (0, .ref b)] [] (xM σ)) (σ : xS2) (hI : Inv σ) : xV G l mM_L_law K 1113 [(3, .int x3), (2, .ref (xad G 43)), (1, .ref (xad G 0)), (0, .ref b)] [] (xM σ) := by
  obtain ⟨r, e1, e2, hI2⟩ := hs (xs (x3 + (1 : Int32)).toNatClampNeg) (xs (x3 + (2 : Int32)).toNatClampNeg) σ hI
  refine x_aload_n hC dL_law_1113 rfl (j := 2) rfl <| x_aload_n hC dL_law_1114 rfl (j := 3) rfl <| x_iload_n hC dL_law_1115 rfl (j := 0) rfl <| x_iconst (v := (1 : Int32)) hC dL_law_1116 (by decide) <| x_iadd hC dL_law_1117 <| x_sld hC hX hbl hbA dL_law_1118 hin1 <| ?_
  refine x_aload_n hC dL_law_1119 rfl (j := 3) rfl <| x_iload_n hC dL_law_1120 rfl (j := 0) rfl <| x_iconst (v := (2 : Int32)) hC dL_law_1121 (by decide) <| x_iadd hC dL_law_1122 <| x_sld hC hX hbl hbA dL_law_1123 hin2 <| ?_
  refine x_callV hC hR dL_law_1124 mK_X8_element wml_L_146 (C_X8_element (a1 := (xs (x3 + (1 : Int32)).toNatClampNeg)) (a2 := (xs (x3 + (2 : Int32)).toNatClampNeg)) (σ := σ) e1) (by omega) rfl (by decide) rfl rfl (xlt (by decide)) rfl (Nat.le_of_ble_eq_true rfl) rfl rfl rfl <| x_aload_n hC dL_law_1127 rfl (j := 1) rfl <| x_aload_n hC dL_law_1128 rfl (j := 3) rfl <| x_iload_n hC dL_law_1129 rfl (j := 0) rfl <| x_iconst (v := (1 : Int32)) hC dL_law_1130 (by decide) <| x_iadd hC dL_law_1131 <| ?_
  refine x_sld hC hX hbl hbA dL_law_1132 hin1 <| x_aload_n hC dL_law_1133 rfl (j := 3) rfl <| x_iload_n hC dL_law_1134 rfl (j := 0) rfl <| x_iconst (v := (2 : Int32)) hC dL_law_1135 (by decide) <| x_iadd hC dL_law_1136 <| x_sld hC hX hbl hbA dL_law_1137 hin2 <| ?_
  refine x_callV hC hR dL_law_1138 mK_X9_element wml_L_149 (C_X9_element (a1 := (xs (x3 + (1 : Int32)).toNatClampNeg)) (a2 := (xs (x3 + (2 : Int32)).toNatClampNeg)) (σ := σ) e2) (by omega) rfl (by decide) rfl rfl (xlt (by decide)) rfl (Nat.le_of_ble_eq_true rfl) rfl rfl rfl <| x_lcmp hC dL_law_1141 <| ?_
  refine x_if_eq (tgt := 1266) hC dL_law_1142 (by decide) (fun _ => ?_) (fun z => absurd (x_cmp_same r) z)
  exact ht σ hI2
set_option maxRecDepth 100000 in
set_option maxHeartbeats 4000000 in
theorem xcase_shift {Inv : xS2 → Prop} {G : xG} {l : Launch} {K : xK} {b L : Nat} {xs : Nat → Int32} {x3 : Int32} (hC : xCX G mM_L_law K) (hR : xRd K 200) (hX : va_X b L xs (xKs K) (xKs K).heap) (hbl : b < (xKs K).heap.size) (hbA : ¬ xA G b) (hin0 : vp_in x3 L) (hin1 : vp_in (x3 + (1 : Int32)) L) (hin2 : vp_in (x3 + (2 : Int32)) L) (hin3 : vp_in (x3 + (3 : Int32)) L) (hin4 : vp_in (x3 + (4 : Int32)) L) (hin5 : vp_in (x3 + (5 : Int32)) L) (hs : xStep_shift Inv) (ht : ∀ σ : xS2, Inv σ → xV G l mM_L_law K 1266 [(3, .int x3), (2, .ref (xad G 43)), (1, .ref (xad G 0)), (0, .ref b)] [] (xM σ)) (σ : xS2) (hI : Inv σ) : xV G l mM_L_law K 1147 [(3, .int x3), (2, .ref (xad G 43)), (1, .ref (xad G 0)), (0, .ref b)] [] (xM σ) := by
  obtain ⟨r, τ, ρ, e1, e2, hI2⟩ := hs (xs (x3 + (1 : Int32)).toNatClampNeg) (xs (x3 + (2 : Int32)).toNatClampNeg) (xs (x3 + (3 : Int32)).toNatClampNeg) (xs (x3 + (4 : Int32)).toNatClampNeg) (xs (x3 + (5 : Int32)).toNatClampNeg) σ hI
  refine x_aload_n hC dL_law_1147 rfl (j := 2) rfl <| x_aload_n hC dL_law_1148 rfl (j := 3) rfl <| x_iload_n hC dL_law_1149 rfl (j := 0) rfl <| x_iconst (v := (1 : Int32)) hC dL_law_1150 (by decide) <| x_iadd hC dL_law_1151 <| x_sld hC hX hbl hbA dL_law_1152 hin1 <| ?_
  refine x_aload_n hC dL_law_1153 rfl (j := 3) rfl <| x_iload_n hC dL_law_1154 rfl (j := 0) rfl <| x_iconst (v := (2 : Int32)) hC dL_law_1155 (by decide) <| x_iadd hC dL_law_1156 <| x_sld hC hX hbl hbA dL_law_1157 hin2 <| x_aload_n hC dL_law_1158 rfl (j := 3) rfl <| ?_
  refine x_iload_n hC dL_law_1159 rfl (j := 0) rfl <| x_iconst (v := (3 : Int32)) hC dL_law_1160 (by decide) <| x_iadd hC dL_law_1161 <| x_sld hC hX hbl hbA dL_law_1162 hin3 <| x_aload_n hC dL_law_1163 rfl (j := 3) rfl <| x_iload_n hC dL_law_1164 rfl (j := 0) rfl <| ?_
  refine x_iconst (v := (4 : Int32)) hC dL_law_1165 (by decide) <| x_iadd hC dL_law_1166 <| x_sld hC hX hbl hbA dL_law_1167 hin4 <| x_aload_n hC dL_law_1168 rfl (j := 3) rfl <| x_iload_n hC dL_law_1169 rfl (j := 0) rfl <| x_iconst (v := (5 : Int32)) hC dL_law_1170 (by decide) <| ?_
  refine x_iadd hC dL_law_1171 <| x_sld hC hX hbl hbA dL_law_1172 hin5 <| ?_
  refine x_callV hC hR dL_law_1173 mK_X8_shift wml_L_150 (C_X8_shift (a1 := (xs (x3 + (1 : Int32)).toNatClampNeg)) (a2 := (xs (x3 + (2 : Int32)).toNatClampNeg)) (a3 := (xs (x3 + (3 : Int32)).toNatClampNeg)) (a4 := (xs (x3 + (4 : Int32)).toNatClampNeg)) (a5 := (xs (x3 + (5 : Int32)).toNatClampNeg)) (σ := σ) e1) (by omega) rfl (by decide) rfl rfl (xlt (by decide)) rfl (Nat.le_of_ble_eq_true rfl) rfl rfl rfl <| x_aload_n hC dL_law_1176 rfl (j := 1) rfl <| x_aload_n hC dL_law_1177 rfl (j := 3) rfl <| x_iload_n hC dL_law_1178 rfl (j := 0) rfl <| x_iconst (v := (1 : Int32)) hC dL_law_1179 (by decide) <| x_iadd hC dL_law_1180 <| ?_
  refine x_sld hC hX hbl hbA dL_law_1181 hin1 <| x_aload_n hC dL_law_1182 rfl (j := 3) rfl <| x_iload_n hC dL_law_1183 rfl (j := 0) rfl <| x_iconst (v := (2 : Int32)) hC dL_law_1184 (by decide) <| x_iadd hC dL_law_1185 <| x_sld hC hX hbl hbA dL_law_1186 hin2 <| ?_
  refine x_aload_n hC dL_law_1187 rfl (j := 3) rfl <| x_iload_n hC dL_law_1188 rfl (j := 0) rfl <| x_iconst (v := (3 : Int32)) hC dL_law_1189 (by decide) <| x_iadd hC dL_law_1190 <| x_sld hC hX hbl hbA dL_law_1191 hin3 <| x_aload_n hC dL_law_1192 rfl (j := 3) rfl <| ?_
  refine x_iload_n hC dL_law_1193 rfl (j := 0) rfl <| x_iconst (v := (4 : Int32)) hC dL_law_1194 (by decide) <| x_iadd hC dL_law_1195 <| x_sld hC hX hbl hbA dL_law_1196 hin4 <| x_aload_n hC dL_law_1197 rfl (j := 3) rfl <| x_iload_n hC dL_law_1198 rfl (j := 0) rfl <| ?_
  refine x_iconst (v := (5 : Int32)) hC dL_law_1199 (by decide) <| x_iadd hC dL_law_1200 <| x_sld hC hX hbl hbA dL_law_1201 hin5 <| x_callV hC hR dL_law_1202 mK_X9_shift wml_L_154 (C_X9_shift (a1 := (xs (x3 + (1 : Int32)).toNatClampNeg)) (a2 := (xs (x3 + (2 : Int32)).toNatClampNeg)) (a3 := (xs (x3 + (3 : Int32)).toNatClampNeg)) (a4 := (xs (x3 + (4 : Int32)).toNatClampNeg)) (a5 := (xs (x3 + (5 : Int32)).toNatClampNeg)) (σ := τ) e2) (by omega) rfl (by decide) rfl rfl (xlt (by decide)) rfl (Nat.le_of_ble_eq_true rfl) rfl rfl rfl <| ?_
  refine x_icmp_eq (tgt := 1266) hC dL_law_1205 (by decide) (fun _ => ?_) (fun z => absurd rfl z)
  exact ht ρ hI2
set_option maxRecDepth 100000 in
set_option maxHeartbeats 4000000 in
theorem xcase_taken {Inv : xS2 → Prop} {G : xG} {l : Launch} {K : xK} {b L : Nat} {xs : Nat → Int32} {x3 : Int32} (hC : xCX G mM_L_law K) (hR : xRd K 200) (hX : va_X b L xs (xKs K) (xKs K).heap) (hbl : b < (xKs K).heap.size) (hbA : ¬ xA G b) (hin0 : vp_in x3 L) (hin1 : vp_in (x3 + (1 : Int32)) L) (hin2 : vp_in (x3 + (2 : Int32)) L) (hin3 : vp_in (x3 + (3 : Int32)) L) (hin4 : vp_in (x3 + (4 : Int32)) L) (hin5 : vp_in (x3 + (5 : Int32)) L) (hs : xStep_taken Inv) (ht : ∀ σ : xS2, Inv σ → xV G l mM_L_law K 1266 [(3, .int x3), (2, .ref (xad G 43)), (1, .ref (xad G 0)), (0, .ref b)] [] (xM σ)) (σ : xS2) (hI : Inv σ) : xV G l mM_L_law K 1210 [(3, .int x3), (2, .ref (xad G 43)), (1, .ref (xad G 0)), (0, .ref b)] [] (xM σ) := by
  obtain ⟨r, e1, e2, hI2⟩ := hs (xs (x3 + (1 : Int32)).toNatClampNeg) (xs (x3 + (2 : Int32)).toNatClampNeg) σ hI
  refine x_aload_n hC dL_law_1210 rfl (j := 2) rfl <| x_aload_n hC dL_law_1211 rfl (j := 3) rfl <| x_iload_n hC dL_law_1212 rfl (j := 0) rfl <| x_iconst (v := (1 : Int32)) hC dL_law_1213 (by decide) <| x_iadd hC dL_law_1214 <| x_sld hC hX hbl hbA dL_law_1215 hin1 <| ?_
  refine x_aload_n hC dL_law_1216 rfl (j := 3) rfl <| x_iload_n hC dL_law_1217 rfl (j := 0) rfl <| x_iconst (v := (2 : Int32)) hC dL_law_1218 (by decide) <| x_iadd hC dL_law_1219 <| x_sld hC hX hbl hbA dL_law_1220 hin2 <| ?_
  refine x_callV hC hR dL_law_1221 mK_X8_taken wml_L_155 (C_X8_taken (a1 := (xs (x3 + (1 : Int32)).toNatClampNeg)) (a2 := (xs (x3 + (2 : Int32)).toNatClampNeg)) (σ := σ) e1) (by omega) rfl (by decide) rfl rfl (xlt (by decide)) rfl (Nat.le_of_ble_eq_true rfl) rfl rfl rfl <| x_aload_n hC dL_law_1224 rfl (j := 1) rfl <| x_aload_n hC dL_law_1225 rfl (j := 3) rfl <| x_iload_n hC dL_law_1226 rfl (j := 0) rfl <| x_iconst (v := (1 : Int32)) hC dL_law_1227 (by decide) <| x_iadd hC dL_law_1228 <| ?_
  refine x_sld hC hX hbl hbA dL_law_1229 hin1 <| x_aload_n hC dL_law_1230 rfl (j := 3) rfl <| x_iload_n hC dL_law_1231 rfl (j := 0) rfl <| x_iconst (v := (2 : Int32)) hC dL_law_1232 (by decide) <| x_iadd hC dL_law_1233 <| x_sld hC hX hbl hbA dL_law_1234 hin2 <| ?_
  refine x_callV hC hR dL_law_1235 mK_X9_taken wml_L_158 (C_X9_taken (a1 := (xs (x3 + (1 : Int32)).toNatClampNeg)) (a2 := (xs (x3 + (2 : Int32)).toNatClampNeg)) (σ := σ) e2) (by omega) rfl (by decide) rfl rfl (xlt (by decide)) rfl (Nat.le_of_ble_eq_true rfl) rfl rfl rfl <| ?_
  refine x_icmp_eq (tgt := 1266) hC dL_law_1238 (by decide) (fun _ => ?_) (fun z => absurd rfl z)
  exact ht σ hI2
set_option maxRecDepth 100000 in
set_option maxHeartbeats 4000000 in
theorem xcase_count {Inv : xS2 → Prop} {G : xG} {l : Launch} {K : xK} {b L : Nat} {xs : Nat → Int32} {x3 : Int32} (hC : xCX G mM_L_law K) (hR : xRd K 200) (hX : va_X b L xs (xKs K) (xKs K).heap) (hbl : b < (xKs K).heap.size) (hbA : ¬ xA G b) (hin0 : vp_in x3 L) (hin1 : vp_in (x3 + (1 : Int32)) L) (hin2 : vp_in (x3 + (2 : Int32)) L) (hin3 : vp_in (x3 + (3 : Int32)) L) (hin4 : vp_in (x3 + (4 : Int32)) L) (hin5 : vp_in (x3 + (5 : Int32)) L) (hs : xStep_count Inv) (ht : ∀ σ : xS2, Inv σ → xV G l mM_L_law K 1266 [(3, .int x3), (2, .ref (xad G 43)), (1, .ref (xad G 0)), (0, .ref b)] [] (xM σ)) (σ : xS2) (hI : Inv σ) : xV G l mM_L_law K 1243 [(3, .int x3), (2, .ref (xad G 43)), (1, .ref (xad G 0)), (0, .ref b)] [] (xM σ) := by
  obtain ⟨r, e1, e2, hI2⟩ := hs (xs (x3 + (1 : Int32)).toNatClampNeg) σ hI
  refine x_aload_n hC dL_law_1243 rfl (j := 2) rfl <| x_aload_n hC dL_law_1244 rfl (j := 3) rfl <| x_iload_n hC dL_law_1245 rfl (j := 0) rfl <| x_iconst (v := (1 : Int32)) hC dL_law_1246 (by decide) <| x_iadd hC dL_law_1247 <| x_sld hC hX hbl hbA dL_law_1248 hin1 <| ?_
  refine x_callV hC hR dL_law_1249 mK_X8_count wml_L_159 (C_X8_count (a1 := (xs (x3 + (1 : Int32)).toNatClampNeg)) (σ := σ) e1) (by omega) rfl (by decide) rfl rfl (xlt (by decide)) rfl (Nat.le_of_ble_eq_true rfl) rfl rfl rfl <| x_aload_n hC dL_law_1252 rfl (j := 1) rfl <| x_aload_n hC dL_law_1253 rfl (j := 3) rfl <| x_iload_n hC dL_law_1254 rfl (j := 0) rfl <| x_iconst (v := (1 : Int32)) hC dL_law_1255 (by decide) <| x_iadd hC dL_law_1256 <| ?_
  refine x_sld hC hX hbl hbA dL_law_1257 hin1 <| x_callV hC hR dL_law_1258 mK_X9_count wml_L_162 (C_X9_count (a1 := (xs (x3 + (1 : Int32)).toNatClampNeg)) (σ := σ) e2) (by omega) rfl (by decide) rfl rfl (xlt (by decide)) rfl (Nat.le_of_ble_eq_true rfl) rfl rfl rfl <| ?_
  refine x_icmp_eq (tgt := 1266) hC dL_law_1261 (by decide) (fun _ => ?_) (fun z => absurd rfl z)
  exact ht σ hI2
set_option maxRecDepth 100000 in
set_option maxHeartbeats 4000000 in
theorem xlaw_loop {Inv : xS2 → Prop} {G : xG} {l : Launch} {K : xK} {b L : Nat} {xs : Nat → Int32} (hC : xCX G mM_L_law K) (hR : xRd K 200) (hX : va_X b L xs (xKs K) (xKs K).heap) (hbl : b < (xKs K).heap.size) (hbA : ¬ xA G b) (hL : L ≤ 3072) (h_mend : xStep_mend Inv) (h_of : xStep_of Inv) (h_heights : xStep_heights Inv) (h_feed : xStep_feed Inv) (h_law : xStep_law Inv) (h_cost : xStep_cost Inv) (h_order : xStep_order Inv) (h_day : xStep_day Inv) (h_days : xStep_days Inv) (h_led : xStep_led Inv) (h_run : xStep_run Inv) (h_first : xStep_first Inv) (h_lawful : xStep_lawful Inv) (h_cheapest : xStep_cheapest Inv) (h_soonest : xStep_soonest Inv) (h_round : xStep_round Inv) (h_lasts : xStep_lasts Inv) (h_clean : xStep_clean Inv) (h_line : xStep_line Inv) (h_drawn : xStep_drawn Inv) (h_judge : xStep_judge Inv) (h_image : xStep_image Inv) (h_back : xStep_back Inv) (h_undo : xStep_undo Inv) (h_redo : xStep_redo Inv) (h_body : xStep_body Inv) (h_act : xStep_act Inv) (h_trace : xStep_trace Inv) (h_keep : xStep_keep Inv) (h_row : xStep_row Inv) (h_put : xStep_put Inv) (h_element : xStep_element Inv) (h_shift : xStep_shift Inv) (h_taken : xStep_taken Inv) (h_count : xStep_count Inv) (hend : ∀ (σ : xS2) (lv : List (Nat × Value)), xV G l mM_L_law K 1273 lv [.int 1] (xM σ)) : ∀ (n k : Nat) (x3 : Int32), x3 = nI k → k ≤ L → L + 1 ≤ k + n → ∀ σ : xS2, Inv σ → xV G l mM_L_law K 18 [(3, .int x3), (2, .ref (xad G 43)), (1, .ref (xad G 0)), (0, .ref b)] [] (xM σ) := by
  intro n
  induction n with
  | zero => intro k x3 _ hk hn; omega
  | succ n ih =>
    intro k x3 hx3 hk hn σ hI
    refine x_iload_n hC dL_law_18 rfl (j := 0) rfl <| x_aload_n hC dL_law_19 rfl (j := 3) rfl <| x_slen hC hX hbl hbA dL_law_20 <| x_bipush (v := (6 : Int32)) hC dL_law_21 (by decide) <| x_isub hC dL_law_23 <| ?_
    refine x_icmp_gt (tgt := 1272) hC dL_law_24 (by decide) (fun _ => ?_) (fun c => ?_)
    · refine x_iconst (v := (1 : Int32)) hC dL_law_1272 (by decide) ?_
      exact hend σ _
    · have hlt : k + 6 ≤ L := x_law_le hk hL (by rw [← hx3]; exact c)
      have hin0 : vp_in x3 L := by rw [hx3]; exact vp_in_nI (by omega) (by omega)
      have hin1 : vp_in (x3 + (1 : Int32)) L := by rw [hx3]; exact (show vp_in (nI k + nI 1) L by rw [nI_add]; exact vp_in_nI (by omega) (by omega))
      have hin2 : vp_in (x3 + (2 : Int32)) L := by rw [hx3]; exact (show vp_in (nI k + nI 2) L by rw [nI_add]; exact vp_in_nI (by omega) (by omega))
      have hin3 : vp_in (x3 + (3 : Int32)) L := by rw [hx3]; exact (show vp_in (nI k + nI 3) L by rw [nI_add]; exact vp_in_nI (by omega) (by omega))
      have hin4 : vp_in (x3 + (4 : Int32)) L := by rw [hx3]; exact (show vp_in (nI k + nI 4) L by rw [nI_add]; exact vp_in_nI (by omega) (by omega))
      have hin5 : vp_in (x3 + (5 : Int32)) L := by rw [hx3]; exact (show vp_in (nI k + nI 5) L by rw [nI_add]; exact vp_in_nI (by omega) (by omega))
      have ht : ∀ σ : xS2, Inv σ → xV G l mM_L_law K 1266 [(3, .int x3), (2, .ref (xad G 43)), (1, .ref (xad G 0)), (0, .ref b)] [] (xM σ) := by
        intro σ hI
        refine x_iinc hC dL_law_1266 (j := 0) (v := (x3 + (6 : Int32))) rfl rfl (by decide) rfl <| x_goto (tgt := 18) hC dL_law_1269 (by decide) ?_
        exact ih (k + 6) (x3 + (6 : Int32)) (by rw [hx3]; exact nI_add k 6) (by omega) (by omega) σ hI
      refine x_aload_n hC dL_law_27 rfl (j := 3) rfl <| x_iload_n hC dL_law_28 rfl (j := 0) rfl <| x_sld hC hX hbl hbA dL_law_29 hin0 <| x_bipush (v := (63 : Int32)) hC dL_law_30 (by decide) <| x_iand hC dL_law_32 <| ?_
      generalize (xs x3.toNatClampNeg &&& (63 : Int32)) = q
      by_cases c0 : q = (0 : Int32)
      · refine x_tsw (tgt := 188) hC dL_law_33 (by decide) (by rw [c0]; decide) ?_
        exact xcase_mend hC hR hX hbl hbA hin0 hin1 hin2 hin3 hin4 hin5 h_mend ht σ hI
      by_cases c1 : q = (1 : Int32)
      · refine x_tsw (tgt := 231) hC dL_law_33 (by decide) (by rw [c1]; decide) ?_
        exact xcase_of hC hR hX hbl hbA hin0 hin1 hin2 hin3 hin4 hin5 h_of ht σ hI
      by_cases c2 : q = (2 : Int32)
      · refine x_tsw (tgt := 264) hC dL_law_33 (by decide) (by rw [c2]; decide) ?_
        exact xcase_heights hC hR hX hbl hbA hin0 hin1 hin2 hin3 hin4 hin5 h_heights ht σ hI
      by_cases c3 : q = (3 : Int32)
      · refine x_tsw (tgt := 307) hC dL_law_33 (by decide) (by rw [c3]; decide) ?_
        exact xcase_feed hC hR hX hbl hbA hin0 hin1 hin2 hin3 hin4 hin5 h_feed ht σ hI
      by_cases c4 : q = (4 : Int32)
      · refine x_tsw (tgt := 330) hC dL_law_33 (by decide) (by rw [c4]; decide) ?_
        exact xcase_law hC hR hX hbl hbA hin0 hin1 hin2 hin3 hin4 hin5 h_law ht σ hI
      by_cases c5 : q = (5 : Int32)
      · refine x_tsw (tgt := 343) hC dL_law_33 (by decide) (by rw [c5]; decide) ?_
        exact xcase_cost hC hR hX hbl hbA hin0 hin1 hin2 hin3 hin4 hin5 h_cost ht σ hI
      by_cases c6 : q = (6 : Int32)
      · refine x_tsw (tgt := 376) hC dL_law_33 (by decide) (by rw [c6]; decide) ?_
        exact xcase_order hC hR hX hbl hbA hin0 hin1 hin2 hin3 hin4 hin5 h_order ht σ hI
      by_cases c7 : q = (7 : Int32)
      · refine x_tsw (tgt := 389) hC dL_law_33 (by decide) (by rw [c7]; decide) ?_
        exact xcase_day hC hR hX hbl hbA hin0 hin1 hin2 hin3 hin4 hin5 h_day ht σ hI
      by_cases c8 : q = (8 : Int32)
      · refine x_tsw (tgt := 412) hC dL_law_33 (by decide) (by rw [c8]; decide) ?_
        exact xcase_days hC hR hX hbl hbA hin0 hin1 hin2 hin3 hin4 hin5 h_days ht σ hI
      by_cases c9 : q = (9 : Int32)
      · refine x_tsw (tgt := 435) hC dL_law_33 (by decide) (by rw [c9]; decide) ?_
        exact xcase_led hC hR hX hbl hbA hin0 hin1 hin2 hin3 hin4 hin5 h_led ht σ hI
      by_cases c10 : q = (10 : Int32)
      · refine x_tsw (tgt := 468) hC dL_law_33 (by decide) (by rw [c10]; decide) ?_
        exact xcase_run hC hR hX hbl hbA hin0 hin1 hin2 hin3 hin4 hin5 h_run ht σ hI
      by_cases c11 : q = (11 : Int32)
      · refine x_tsw (tgt := 511) hC dL_law_33 (by decide) (by rw [c11]; decide) ?_
        exact xcase_first hC hR hX hbl hbA hin0 hin1 hin2 hin3 hin4 hin5 h_first ht σ hI
      by_cases c12 : q = (12 : Int32)
      · refine x_tsw (tgt := 534) hC dL_law_33 (by decide) (by rw [c12]; decide) ?_
        exact xcase_lawful hC hR hX hbl hbA hin0 hin1 hin2 hin3 hin4 hin5 h_lawful ht σ hI
      by_cases c13 : q = (13 : Int32)
      · refine x_tsw (tgt := 567) hC dL_law_33 (by decide) (by rw [c13]; decide) ?_
        exact xcase_cheapest hC hR hX hbl hbA hin0 hin1 hin2 hin3 hin4 hin5 h_cheapest ht σ hI
      by_cases c14 : q = (14 : Int32)
      · refine x_tsw (tgt := 600) hC dL_law_33 (by decide) (by rw [c14]; decide) ?_
        exact xcase_soonest hC hR hX hbl hbA hin0 hin1 hin2 hin3 hin4 hin5 h_soonest ht σ hI
      by_cases c15 : q = (15 : Int32)
      · refine x_tsw (tgt := 633) hC dL_law_33 (by decide) (by rw [c15]; decide) ?_
        exact xcase_round hC hR hX hbl hbA hin0 hin1 hin2 hin3 hin4 hin5 h_round ht σ hI
      by_cases c16 : q = (16 : Int32)
      · refine x_tsw (tgt := 656) hC dL_law_33 (by decide) (by rw [c16]; decide) ?_
        exact xcase_lasts hC hR hX hbl hbA hin0 hin1 hin2 hin3 hin4 hin5 h_lasts ht σ hI
      by_cases c17 : q = (17 : Int32)
      · refine x_tsw (tgt := 679) hC dL_law_33 (by decide) (by rw [c17]; decide) ?_
        exact xcase_clean hC hR hX hbl hbA hin0 hin1 hin2 hin3 hin4 hin5 h_clean ht σ hI
      by_cases c18 : q = (18 : Int32)
      · refine x_tsw (tgt := 723) hC dL_law_33 (by decide) (by rw [c18]; decide) ?_
        exact xcase_line hC hR hX hbl hbA hin0 hin1 hin2 hin3 hin4 hin5 h_line ht σ hI
      by_cases c19 : q = (19 : Int32)
      · refine x_tsw (tgt := 757) hC dL_law_33 (by decide) (by rw [c19]; decide) ?_
        exact xcase_drawn hC hR hX hbl hbA hin0 hin1 hin2 hin3 hin4 hin5 h_drawn ht σ hI
      by_cases c20 : q = (20 : Int32)
      · refine x_tsw (tgt := 800) hC dL_law_33 (by decide) (by rw [c20]; decide) ?_
        exact xcase_judge hC hR hX hbl hbA hin0 hin1 hin2 hin3 hin4 hin5 h_judge ht σ hI
      by_cases c21 : q = (21 : Int32)
      · refine x_tsw (tgt := 823) hC dL_law_33 (by decide) (by rw [c21]; decide) ?_
        exact xcase_image hC hR hX hbl hbA hin0 hin1 hin2 hin3 hin4 hin5 h_image ht σ hI
      by_cases c22 : q = (22 : Int32)
      · refine x_tsw (tgt := 836) hC dL_law_33 (by decide) (by rw [c22]; decide) ?_
        exact xcase_back hC hR hX hbl hbA hin0 hin1 hin2 hin3 hin4 hin5 h_back ht σ hI
      by_cases c23 : q = (23 : Int32)
      · refine x_tsw (tgt := 849) hC dL_law_33 (by decide) (by rw [c23]; decide) ?_
        exact xcase_undo hC hR hX hbl hbA hin0 hin1 hin2 hin3 hin4 hin5 h_undo ht σ hI
      by_cases c24 : q = (24 : Int32)
      · refine x_tsw (tgt := 862) hC dL_law_33 (by decide) (by rw [c24]; decide) ?_
        exact xcase_redo hC hR hX hbl hbA hin0 hin1 hin2 hin3 hin4 hin5 h_redo ht σ hI
      by_cases c25 : q = (25 : Int32)
      · refine x_tsw (tgt := 875) hC dL_law_33 (by decide) (by rw [c25]; decide) ?_
        exact xcase_body hC hR hX hbl hbA hin0 hin1 hin2 hin3 hin4 hin5 h_body ht σ hI
      by_cases c26 : q = (26 : Int32)
      · refine x_tsw (tgt := 898) hC dL_law_33 (by decide) (by rw [c26]; decide) ?_
        exact xcase_act hC hR hX hbl hbA hin0 hin1 hin2 hin3 hin4 hin5 h_act ht σ hI
      by_cases c27 : q = (27 : Int32)
      · refine x_tsw (tgt := 941) hC dL_law_33 (by decide) (by rw [c27]; decide) ?_
        exact xcase_trace hC hR hX hbl hbA hin0 hin1 hin2 hin3 hin4 hin5 h_trace ht σ hI
      by_cases c28 : q = (28 : Int32)
      · refine x_tsw (tgt := 964) hC dL_law_33 (by decide) (by rw [c28]; decide) ?_
        exact xcase_keep hC hR hX hbl hbA hin0 hin1 hin2 hin3 hin4 hin5 h_keep ht σ hI
      by_cases c29 : q = (29 : Int32)
      · refine x_tsw (tgt := 997) hC dL_law_33 (by decide) (by rw [c29]; decide) ?_
        exact xcase_row hC hR hX hbl hbA hin0 hin1 hin2 hin3 hin4 hin5 h_row ht σ hI
      by_cases c30 : q = (30 : Int32)
      · refine x_tsw (tgt := 1040) hC dL_law_33 (by decide) (by rw [c30]; decide) ?_
        exact xcase_put hC hR hX hbl hbA hin0 hin1 hin2 hin3 hin4 hin5 h_put ht σ hI
      by_cases c31 : q = (31 : Int32)
      · refine x_tsw (tgt := 1113) hC dL_law_33 (by decide) (by rw [c31]; decide) ?_
        exact xcase_element hC hR hX hbl hbA hin0 hin1 hin2 hin3 hin4 hin5 h_element ht σ hI
      by_cases c32 : q = (32 : Int32)
      · refine x_tsw (tgt := 1147) hC dL_law_33 (by decide) (by rw [c32]; decide) ?_
        exact xcase_shift hC hR hX hbl hbA hin0 hin1 hin2 hin3 hin4 hin5 h_shift ht σ hI
      by_cases c33 : q = (33 : Int32)
      · refine x_tsw (tgt := 1210) hC dL_law_33 (by decide) (by rw [c33]; decide) ?_
        exact xcase_taken hC hR hX hbl hbA hin0 hin1 hin2 hin3 hin4 hin5 h_taken ht σ hI
      by_cases c34 : q = (34 : Int32)
      · refine x_tsw (tgt := 1243) hC dL_law_33 (by decide) (by rw [c34]; decide) ?_
        exact xcase_count hC hR hX hbl hbA hin0 hin1 hin2 hin3 hin4 hin5 h_count ht σ hI
      refine x_tsw (tgt := 1266) hC dL_law_33 (by decide) ((xTs_else [0, 1, 2, 3, 4, 5, 6, 7, 8, 9, 10, 11, 12, 13, 14, 15, 16, 17, 18, 19, 20, 21, 22, 23, 24, 25, 26, 27, 28, 29, 30, 31, 32, 33, 34] (by decide) (by decide +kernel) (List.forall_mem_cons.mpr ⟨lv_neT c0 (by decide), (List.forall_mem_cons.mpr ⟨lv_neT c1 (by decide), (List.forall_mem_cons.mpr ⟨lv_neT c2 (by decide), (List.forall_mem_cons.mpr ⟨lv_neT c3 (by decide), (List.forall_mem_cons.mpr ⟨lv_neT c4 (by decide), (List.forall_mem_cons.mpr ⟨lv_neT c5 (by decide), (List.forall_mem_cons.mpr ⟨lv_neT c6 (by decide), (List.forall_mem_cons.mpr ⟨lv_neT c7 (by decide), (List.forall_mem_cons.mpr ⟨lv_neT c8 (by decide), (List.forall_mem_cons.mpr ⟨lv_neT c9 (by decide), (List.forall_mem_cons.mpr ⟨lv_neT c10 (by decide), (List.forall_mem_cons.mpr ⟨lv_neT c11 (by decide), (List.forall_mem_cons.mpr ⟨lv_neT c12 (by decide), (List.forall_mem_cons.mpr ⟨lv_neT c13 (by decide), (List.forall_mem_cons.mpr ⟨lv_neT c14 (by decide), (List.forall_mem_cons.mpr ⟨lv_neT c15 (by decide), (List.forall_mem_cons.mpr ⟨lv_neT c16 (by decide), (List.forall_mem_cons.mpr ⟨lv_neT c17 (by decide), (List.forall_mem_cons.mpr ⟨lv_neT c18 (by decide), (List.forall_mem_cons.mpr ⟨lv_neT c19 (by decide), (List.forall_mem_cons.mpr ⟨lv_neT c20 (by decide), (List.forall_mem_cons.mpr ⟨lv_neT c21 (by decide), (List.forall_mem_cons.mpr ⟨lv_neT c22 (by decide), (List.forall_mem_cons.mpr ⟨lv_neT c23 (by decide), (List.forall_mem_cons.mpr ⟨lv_neT c24 (by decide), (List.forall_mem_cons.mpr ⟨lv_neT c25 (by decide), (List.forall_mem_cons.mpr ⟨lv_neT c26 (by decide), (List.forall_mem_cons.mpr ⟨lv_neT c27 (by decide), (List.forall_mem_cons.mpr ⟨lv_neT c28 (by decide), (List.forall_mem_cons.mpr ⟨lv_neT c29 (by decide), (List.forall_mem_cons.mpr ⟨lv_neT c30 (by decide), (List.forall_mem_cons.mpr ⟨lv_neT c31 (by decide), (List.forall_mem_cons.mpr ⟨lv_neT c32 (by decide), (List.forall_mem_cons.mpr ⟨lv_neT c33 (by decide), (List.forall_mem_cons.mpr ⟨lv_neT c34 (by decide), (fun _ z => absurd z List.not_mem_nil)⟩)⟩)⟩)⟩)⟩)⟩)⟩)⟩)⟩)⟩)⟩)⟩)⟩)⟩)⟩)⟩)⟩)⟩)⟩)⟩)⟩)⟩)⟩)⟩)⟩)⟩)⟩)⟩)⟩)⟩)⟩)⟩)⟩)⟩)⟩)).trans (by decide)) ?_
      exact ht σ hI
