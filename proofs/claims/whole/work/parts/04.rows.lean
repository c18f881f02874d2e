theorem x_iadd {G : xG} {l : Launch} {M : xMI} {K : xK} {pc : Nat} {lv : List (Nat × Value)} {rest : List Value} {σ : xMem} (hC : xCX G M K) {x y : Int32} (hdg : decode M.2.1 pc = .ok (.iadd, 1))  (k : xV G l M K (pc + 1) lv (.int (x + y) :: rest) σ) : xV G l M K pc lv (.int y :: .int x :: rest) σ :=
  fun H locs ls cells slots hi hl => lv_iadd hC.1 hC.2.1 hdg (k H locs ls cells slots hi hl)
theorem x_isub {G : xG} {l : Launch} {M : xMI} {K : xK} {pc : Nat} {lv : List (Nat × Value)} {rest : List Value} {σ : xMem} (hC : xCX G M K) {x y : Int32} (hdg : decode M.2.1 pc = .ok (.isub, 1))  (k : xV G l M K (pc + 1) lv (.int (x - y) :: rest) σ) : xV G l M K pc lv (.int y :: .int x :: rest) σ :=
  fun H locs ls cells slots hi hl => lv_isub hC.1 hC.2.1 hdg (k H locs ls cells slots hi hl)
theorem x_imul {G : xG} {l : Launch} {M : xMI} {K : xK} {pc : Nat} {lv : List (Nat × Value)} {rest : List Value} {σ : xMem} (hC : xCX G M K) {x y : Int32} (hdg : decode M.2.1 pc = .ok (.imul, 1))  (k : xV G l M K (pc + 1) lv (.int (x * y) :: rest) σ) : xV G l M K pc lv (.int y :: .int x :: rest) σ :=
  fun H locs ls cells slots hi hl => lv_imul hC.1 hC.2.1 hdg (k H locs ls cells slots hi hl)
theorem x_iand {G : xG} {l : Launch} {M : xMI} {K : xK} {pc : Nat} {lv : List (Nat × Value)} {rest : List Value} {σ : xMem} (hC : xCX G M K) {x y : Int32} (hdg : decode M.2.1 pc = .ok (.iand, 1))  (k : xV G l M K (pc + 1) lv (.int (x &&& y) :: rest) σ) : xV G l M K pc lv (.int y :: .int x :: rest) σ :=
  fun H locs ls cells slots hi hl => lv_iand hC.1 hC.2.1 hdg (k H locs ls cells slots hi hl)
theorem x_ior {G : xG} {l : Launch} {M : xMI} {K : xK} {pc : Nat} {lv : List (Nat × Value)} {rest : List Value} {σ : xMem} (hC : xCX G M K) {x y : Int32} (hdg : decode M.2.1 pc = .ok (.ior, 1))  (k : xV G l M K (pc + 1) lv (.int (x ||| y) :: rest) σ) : xV G l M K pc lv (.int y :: .int x :: rest) σ :=
  fun H locs ls cells slots hi hl => lv_ior hC.1 hC.2.1 hdg (k H locs ls cells slots hi hl)
theorem x_ixor {G : xG} {l : Launch} {M : xMI} {K : xK} {pc : Nat} {lv : List (Nat × Value)} {rest : List Value} {σ : xMem} (hC : xCX G M K) {x y : Int32} (hdg : decode M.2.1 pc = .ok (.ixor, 1))  (k : xV G l M K (pc + 1) lv (.int (x ^^^ y) :: rest) σ) : xV G l M K pc lv (.int y :: .int x :: rest) σ :=
  fun H locs ls cells slots hi hl => lv_ixor hC.1 hC.2.1 hdg (k H locs ls cells slots hi hl)
theorem x_ineg {G : xG} {l : Launch} {M : xMI} {K : xK} {pc : Nat} {lv : List (Nat × Value)} {rest : List Value} {σ : xMem} (hC : xCX G M K) {x : Int32} (hdg : decode M.2.1 pc = .ok (.ineg, 1))  (k : xV G l M K (pc + 1) lv (.int (-x) :: rest) σ) : xV G l M K pc lv (.int x :: rest) σ :=
  fun H locs ls cells slots hi hl => lv_ineg hC.1 hC.2.1 hdg (k H locs ls cells slots hi hl)
theorem x_ladd {G : xG} {l : Launch} {M : xMI} {K : xK} {pc : Nat} {lv : List (Nat × Value)} {rest : List Value} {σ : xMem} (hC : xCX G M K) {x y : Int64} (hdg : decode M.2.1 pc = .ok (.ladd, 1))  (k : xV G l M K (pc + 1) lv (.long (x + y) :: rest) σ) : xV G l M K pc lv (.long y :: .long x :: rest) σ :=
  fun H locs ls cells slots hi hl => lv_ladd hC.1 hC.2.1 hdg (k H locs ls cells slots hi hl)
theorem x_lsub {G : xG} {l : Launch} {M : xMI} {K : xK} {pc : Nat} {lv : List (Nat × Value)} {rest : List Value} {σ : xMem} (hC : xCX G M K) {x y : Int64} (hdg : decode M.2.1 pc = .ok (.lsub, 1))  (k : xV G l M K (pc + 1) lv (.long (x - y) :: rest) σ) : xV G l M K pc lv (.long y :: .long x :: rest) σ :=
  fun H locs ls cells slots hi hl => lv_lsub hC.1 hC.2.1 hdg (k H locs ls cells slots hi hl)
theorem x_lmul {G : xG} {l : Launch} {M : xMI} {K : xK} {pc : Nat} {lv : List (Nat × Value)} {rest : List Value} {σ : xMem} (hC : xCX G M K) {x y : Int64} (hdg : decode M.2.1 pc = .ok (.lmul, 1))  (k : xV G l M K (pc + 1) lv (.long (x * y) :: rest) σ) : xV G l M K pc lv (.long y :: .long x :: rest) σ :=
  fun H locs ls cells slots hi hl => lv_lmul hC.1 hC.2.1 hdg (k H locs ls cells slots hi hl)
theorem x_land {G : xG} {l : Launch} {M : xMI} {K : xK} {pc : Nat} {lv : List (Nat × Value)} {rest : List Value} {σ : xMem} (hC : xCX G M K) {x y : Int64} (hdg : decode M.2.1 pc = .ok (.land, 1))  (k : xV G l M K (pc + 1) lv (.long (x &&& y) :: rest) σ) : xV G l M K pc lv (.long y :: .long x :: rest) σ :=
  fun H locs ls cells slots hi hl => lv_land hC.1 hC.2.1 hdg (k H locs ls cells slots hi hl)
theorem x_lor {G : xG} {l : Launch} {M : xMI} {K : xK} {pc : Nat} {lv : List (Nat × Value)} {rest : List Value} {σ : xMem} (hC : xCX G M K) {x y : Int64} (hdg : decode M.2.1 pc = .ok (.lor, 1))  (k : xV G l M K (pc + 1) lv (.long (x ||| y) :: rest) σ) : xV G l M K pc lv (.long y :: .long x :: rest) σ :=
  fun H locs ls cells slots hi hl => lv_lor hC.1 hC.2.1 hdg (k H locs ls cells slots hi hl)
theorem x_ishl {G : xG} {l : Launch} {M : xMI} {K : xK} {pc : Nat} {lv : List (Nat × Value)} {rest : List Value} {σ : xMem} (hC : xCX G M K) {x y : Int32} (hdg : decode M.2.1 pc = .ok (.ishl, 1))  (k : xV G l M K (pc + 1) lv (.int (x <<< (y &&& 31)) :: rest) σ) : xV G l M K pc lv (.int y :: .int x :: rest) σ :=
  fun H locs ls cells slots hi hl => lv_ishl hC.1 hC.2.1 hdg (k H locs ls cells slots hi hl)
theorem x_ishr {G : xG} {l : Launch} {M : xMI} {K : xK} {pc : Nat} {lv : List (Nat × Value)} {rest : List Value} {σ : xMem} (hC : xCX G M K) {x y : Int32} (hdg : decode M.2.1 pc = .ok (.ishr, 1))  (k : xV G l M K (pc + 1) lv (.int (x >>> (y &&& 31)) :: rest) σ) : xV G l M K pc lv (.int y :: .int x :: rest) σ :=
  fun H locs ls cells slots hi hl => lv_ishr hC.1 hC.2.1 hdg (k H locs ls cells slots hi hl)
theorem x_dup {G : xG} {l : Launch} {M : xMI} {K : xK} {pc : Nat} {lv : List (Nat × Value)} {rest : List Value} {σ : xMem} (hC : xCX G M K) {va : Value} (hdg : decode M.2.1 pc = .ok (.dup, 1)) (hva : va.category = 1) (k : xV G l M K (pc + 1) lv (va :: va :: rest) σ) : xV G l M K pc lv (va :: rest) σ :=
  fun H locs ls cells slots hi hl => lv_dup hC.1 hC.2.1 hdg hva (k H locs ls cells slots hi hl)
theorem x_pop {G : xG} {l : Launch} {M : xMI} {K : xK} {pc : Nat} {lv : List (Nat × Value)} {rest : List Value} {σ : xMem} (hC : xCX G M K) {va : Value} (hdg : decode M.2.1 pc = .ok (.pop, 1)) (hva : va.category = 1) (k : xV G l M K (pc + 1) lv (rest) σ) : xV G l M K pc lv (va :: rest) σ :=
  fun H locs ls cells slots hi hl => lv_pop hC.1 hC.2.1 hdg hva (k H locs ls cells slots hi hl)
theorem x_dup2_11 {G : xG} {l : Launch} {M : xMI} {K : xK} {pc : Nat} {lv : List (Nat × Value)} {rest : List Value} {σ : xMem} (hC : xCX G M K) {va vb : Value} (hdg : decode M.2.1 pc = .ok (.dup2, 1)) (hva : va.category = 1) (hvb : vb.category = 1) (k : xV G l M K (pc + 1) lv (va :: vb :: va :: vb :: rest) σ) : xV G l M K pc lv (va :: vb :: rest) σ :=
  fun H locs ls cells slots hi hl => lv_dup2_11 hC.1 hC.2.1 hdg hva hvb (k H locs ls cells slots hi hl)
theorem x_iconst {G : xG} {l : Launch} {M : xMI} {K : xK} {pc : Nat} {lv : List (Nat × Value)} {rest : List Value} {σ : xMem} (hC : xCX G M K) {n : Int} {v : Int32} (hdg : decode M.2.1 pc = .ok (.iconst n, 1)) (hv : Int32.ofInt n = v) (k : xV G l M K (pc + 1) lv (.int v :: rest) σ) : xV G l M K pc lv (rest) σ :=
  fun H locs ls cells slots hi hl => lv_iconst hC.1 hC.2.1 hdg hv (k H locs ls cells slots hi hl)
theorem x_bipush {G : xG} {l : Launch} {M : xMI} {K : xK} {pc : Nat} {lv : List (Nat × Value)} {rest : List Value} {σ : xMem} (hC : xCX G M K) {n : Int} {v : Int32} (hdg : decode M.2.1 pc = .ok (.bipush n, 2)) (hv : (Int8.ofInt n).toInt32 = v) (k : xV G l M K (pc + 2) lv (.int v :: rest) σ) : xV G l M K pc lv (rest) σ :=
  fun H locs ls cells slots hi hl => lv_bipush hC.1 hC.2.1 hdg hv (k H locs ls cells slots hi hl)
theorem x_sipush {G : xG} {l : Launch} {M : xMI} {K : xK} {pc : Nat} {lv : List (Nat × Value)} {rest : List Value} {σ : xMem} (hC : xCX G M K) {n : Int} {v : Int32} (hdg : decode M.2.1 pc = .ok (.sipush n, 3)) (hv : (Int16.ofInt n).toInt32 = v) (k : xV G l M K (pc + 3) lv (.int v :: rest) σ) : xV G l M K pc lv (rest) σ :=
  fun H locs ls cells slots hi hl => lv_sipush hC.1 hC.2.1 hdg hv (k H locs ls cells slots hi hl)
theorem x_lconst {G : xG} {l : Launch} {M : xMI} {K : xK} {pc : Nat} {lv : List (Nat × Value)} {rest : List Value} {σ : xMem} (hC : xCX G M K) {n : Fin 2} {v : Int64} (hdg : decode M.2.1 pc = .ok (.lconst n, 1)) (hv : Int64.ofNat (n : Nat) = v) (k : xV G l M K (pc + 1) lv (.long v :: rest) σ) : xV G l M K pc lv (rest) σ :=
  fun H locs ls cells slots hi hl => lv_lconst hC.1 hC.2.1 hdg hv (k H locs ls cells slots hi hl)
theorem x_i2l {G : xG} {l : Launch} {M : xMI} {K : xK} {pc : Nat} {lv : List (Nat × Value)} {rest : List Value} {σ : xMem} (hC : xCX G M K) {x : Int32} {v : Int64} (hdg : decode M.2.1 pc = .ok (.i2l, 1)) (hv : x.toInt64 = v) (k : xV G l M K (pc + 1) lv (.long v :: rest) σ) : xV G l M K pc lv (.int x :: rest) σ :=
  fun H locs ls cells slots hi hl => lv_i2l hC.1 hC.2.1 hdg hv (k H locs ls cells slots hi hl)
theorem x_l2i {G : xG} {l : Launch} {M : xMI} {K : xK} {pc : Nat} {lv : List (Nat × Value)} {rest : List Value} {σ : xMem} (hC : xCX G M K) {x : Int64} {v : Int32} (hdg : decode M.2.1 pc = .ok (.l2i, 1)) (hv : x.toInt32 = v) (k : xV G l M K (pc + 1) lv (.int v :: rest) σ) : xV G l M K pc lv (.long x :: rest) σ :=
  fun H locs ls cells slots hi hl => lv_l2i hC.1 hC.2.1 hdg hv (k H locs ls cells slots hi hl)
theorem x_i2b {G : xG} {l : Launch} {M : xMI} {K : xK} {pc : Nat} {lv : List (Nat × Value)} {rest : List Value} {σ : xMem} (hC : xCX G M K) {x : Int32} {v : Int32} (hdg : decode M.2.1 pc = .ok (.i2b, 1)) (hv : x.toInt8.toInt32 = v) (k : xV G l M K (pc + 1) lv (.int v :: rest) σ) : xV G l M K pc lv (.int x :: rest) σ :=
  fun H locs ls cells slots hi hl => lv_i2b hC.1 hC.2.1 hdg hv (k H locs ls cells slots hi hl)
theorem x_i2s {G : xG} {l : Launch} {M : xMI} {K : xK} {pc : Nat} {lv : List (Nat × Value)} {rest : List Value} {σ : xMem} (hC : xCX G M K) {x : Int32} {v : Int32} (hdg : decode M.2.1 pc = .ok (.i2s, 1)) (hv : x.toInt16.toInt32 = v) (k : xV G l M K (pc + 1) lv (.int v :: rest) σ) : xV G l M K pc lv (.int x :: rest) σ :=
  fun H locs ls cells slots hi hl => lv_i2s hC.1 hC.2.1 hdg hv (k H locs ls cells slots hi hl)
theorem x_iushr {G : xG} {l : Launch} {M : xMI} {K : xK} {pc : Nat} {lv : List (Nat × Value)} {rest : List Value} {σ : xMem} (hC : xCX G M K) {x y v : Int32} (hdg : decode M.2.1 pc = .ok (.iushr, 1)) (hv : (x.toUInt32 >>> (y.toUInt32 &&& Int32.toUInt32 31)).toInt32 = v) (k : xV G l M K (pc + 1) lv (.int v :: rest) σ) : xV G l M K pc lv (.int y :: .int x :: rest) σ :=
  fun H locs ls cells slots hi hl => lv_iushr hC.1 hC.2.1 hdg hv (k H locs ls cells slots hi hl)
theorem x_lushr {G : xG} {l : Launch} {M : xMI} {K : xK} {pc : Nat} {lv : List (Nat × Value)} {rest : List Value} {σ : xMem} (hC : xCX G M K) {x v : Int64} {y : Int32} (hdg : decode M.2.1 pc = .ok (.lushr, 1)) (hv : (x.toUInt64 >>> (y.toInt64.toUInt64 &&& Int64.toUInt64 63)).toInt64 = v) (k : xV G l M K (pc + 1) lv (.long v :: rest) σ) : xV G l M K pc lv (.int y :: .long x :: rest) σ :=
  fun H locs ls cells slots hi hl => lv_lushr hC.1 hC.2.1 hdg hv (k H locs ls cells slots hi hl)
theorem x_lshl {G : xG} {l : Launch} {M : xMI} {K : xK} {pc : Nat} {lv : List (Nat × Value)} {rest : List Value} {σ : xMem} (hC : xCX G M K) {x v : Int64} {y : Int32} (hdg : decode M.2.1 pc = .ok (.lshl, 1)) (hv : x <<< (y.toInt64 &&& 63) = v) (k : xV G l M K (pc + 1) lv (.long v :: rest) σ) : xV G l M K pc lv (.int y :: .long x :: rest) σ :=
  fun H locs ls cells slots hi hl => lv_lshl hC.1 hC.2.1 hdg hv (k H locs ls cells slots hi hl)
theorem x_lshr {G : xG} {l : Launch} {M : xMI} {K : xK} {pc : Nat} {lv : List (Nat × Value)} {rest : List Value} {σ : xMem} (hC : xCX G M K) {x v : Int64} {y : Int32} (hdg : decode M.2.1 pc = .ok (.lshr, 1)) (hv : x >>> (y.toInt64 &&& 63) = v) (k : xV G l M K (pc + 1) lv (.long v :: rest) σ) : xV G l M K pc lv (.int y :: .long x :: rest) σ :=
  fun H locs ls cells slots hi hl => lv_lshr hC.1 hC.2.1 hdg hv (k H locs ls cells slots hi hl)
theorem x_idiv {G : xG} {l : Launch} {M : xMI} {K : xK} {pc : Nat} {lv : List (Nat × Value)} {rest : List Value} {σ : xMem} (hC : xCX G M K) {x y : Int32} (hdg : decode M.2.1 pc = .ok (.idiv, 1)) (hne : ¬ y = 0) (k : xV G l M K (pc + 1) lv (.int (x / y) :: rest) σ) : xV G l M K pc lv (.int y :: .int x :: rest) σ :=
  fun H locs ls cells slots hi hl => lv_idiv hC.1 hC.2.1 hdg hne (k H locs ls cells slots hi hl)
theorem x_irem {G : xG} {l : Launch} {M : xMI} {K : xK} {pc : Nat} {lv : List (Nat × Value)} {rest : List Value} {σ : xMem} (hC : xCX G M K) {x y : Int32} (hdg : decode M.2.1 pc = .ok (.irem, 1)) (hne : ¬ y = 0) (k : xV G l M K (pc + 1) lv (.int (x - x / y * y) :: rest) σ) : xV G l M K pc lv (.int y :: .int x :: rest) σ :=
  fun H locs ls cells slots hi hl => lv_irem hC.1 hC.2.1 hdg hne (k H locs ls cells slots hi hl)
theorem x_ldiv {G : xG} {l : Launch} {M : xMI} {K : xK} {pc : Nat} {lv : List (Nat × Value)} {rest : List Value} {σ : xMem} (hC : xCX G M K) {x y : Int64} (hdg : decode M.2.1 pc = .ok (.ldiv, 1)) (hne : ¬ y = 0) (k : xV G l M K (pc + 1) lv (.long (x / y) :: rest) σ) : xV G l M K pc lv (.long y :: .long x :: rest) σ :=
  fun H locs ls cells slots hi hl => lv_ldiv hC.1 hC.2.1 hdg hne (k H locs ls cells slots hi hl)
theorem x_lrem {G : xG} {l : Launch} {M : xMI} {K : xK} {pc : Nat} {lv : List (Nat × Value)} {rest : List Value} {σ : xMem} (hC : xCX G M K) {x y : Int64} (hdg : decode M.2.1 pc = .ok (.lrem, 1)) (hne : ¬ y = 0) (k : xV G l M K (pc + 1) lv (.long (x - x / y * y) :: rest) σ) : xV G l M K pc lv (.long y :: .long x :: rest) σ :=
  fun H locs ls cells slots hi hl => lv_lrem hC.1 hC.2.1 hdg hne (k H locs ls cells slots hi hl)
theorem x_goto {G : xG} {l : Launch} {M : xMI} {K : xK} {pc : Nat} {lv : List (Nat × Value)} {rest : List Value} {σ : xMem} (hC : xCX G M K) {off : Int} {tgt : Nat} (hdg : decode M.2.1 pc = .ok (.goto off, 3)) (ht : (pc : Int) + off = (tgt : Int)) (k : xV G l M K tgt lv rest σ) : xV G l M K pc lv rest σ :=
  fun H locs ls cells slots hi hl => lv_goto hC.1 hC.2.1 hdg ht (k H locs ls cells slots hi hl)
theorem x_if_eq {G : xG} {l : Launch} {M : xMI} {K : xK} {pc : Nat} {lv : List (Nat × Value)} {rest : List Value} {σ : xMem} (hC : xCX G M K) {x : Int32} {off : Int} {tgt : Nat} (hdg : decode M.2.1 pc = .ok (.ifCond .eq off, 3)) (ht : (pc : Int) + off = (tgt : Int)) (kt : x = 0 → xV G l M K tgt lv rest σ) (kf : ¬ x = 0 → xV G l M K (pc + 3) lv rest σ) : xV G l M K pc lv (.int x :: rest) σ :=
  fun H locs ls cells slots hi hl => lv_if_eq hC.1 hC.2.1 hdg ht (fun z => kt z H locs ls cells slots hi hl) (fun z => kf z H locs ls cells slots hi hl)
theorem x_icmp_eq {G : xG} {l : Launch} {M : xMI} {K : xK} {pc : Nat} {lv : List (Nat × Value)} {rest : List Value} {σ : xMem} (hC : xCX G M K) {x y : Int32} {off : Int} {tgt : Nat} (hdg : decode M.2.1 pc = .ok (.if_icmp .eq off, 3)) (ht : (pc : Int) + off = (tgt : Int)) (kt : x = y → xV G l M K tgt lv rest σ) (kf : ¬ x = y → xV G l M K (pc + 3) lv rest σ) : xV G l M K pc lv (.int y :: .int x :: rest) σ :=
  fun H locs ls cells slots hi hl => lv_icmp_eq hC.1 hC.2.1 hdg ht (fun z => kt z H locs ls cells slots hi hl) (fun z => kf z H locs ls cells slots hi hl)
theorem x_if_ne {G : xG} {l : Launch} {M : xMI} {K : xK} {pc : Nat} {lv : List (Nat × Value)} {rest : List Value} {σ : xMem} (hC : xCX G M K) {x : Int32} {off : Int} {tgt : Nat} (hdg : decode M.2.1 pc = .ok (.ifCond .ne off, 3)) (ht : (pc : Int) + off = (tgt : Int)) (kt : ¬ x = 0 → xV G l M K tgt lv rest σ) (kf : x = 0 → xV G l M K (pc + 3) lv rest σ) : xV G l M K pc lv (.int x :: rest) σ :=
  fun H locs ls cells slots hi hl => lv_if_ne hC.1 hC.2.1 hdg ht (fun z => kt z H locs ls cells slots hi hl) (fun z => kf z H locs ls cells slots hi hl)
theorem x_icmp_ne {G : xG} {l : Launch} {M : xMI} {K : xK} {pc : Nat} {lv : List (Nat × Value)} {rest : List Value} {σ : xMem} (hC : xCX G M K) {x y : Int32} {off : Int} {tgt : Nat} (hdg : decode M.2.1 pc = .ok (.if_icmp .ne off, 3)) (ht : (pc : Int) + off = (tgt : Int)) (kt : ¬ x = y → xV G l M K tgt lv rest σ) (kf : x = y → xV G l M K (pc + 3) lv rest σ) : xV G l M K pc lv (.int y :: .int x :: rest) σ :=
  fun H locs ls cells slots hi hl => lv_icmp_ne hC.1 hC.2.1 hdg ht (fun z => kt z H locs ls cells slots hi hl) (fun z => kf z H locs ls cells slots hi hl)
theorem x_if_lt {G : xG} {l : Launch} {M : xMI} {K : xK} {pc : Nat} {lv : List (Nat × Value)} {rest : List Value} {σ : xMem} (hC : xCX G M K) {x : Int32} {off : Int} {tgt : Nat} (hdg : decode M.2.1 pc = .ok (.ifCond .lt off, 3)) (ht : (pc : Int) + off = (tgt : Int)) (kt : x < 0 → xV G l M K tgt lv rest σ) (kf : ¬ x < 0 → xV G l M K (pc + 3) lv rest σ) : xV G l M K pc lv (.int x :: rest) σ :=
  fun H locs ls cells slots hi hl => lv_if_lt hC.1 hC.2.1 hdg ht (fun z => kt z H locs ls cells slots hi hl) (fun z => kf z H locs ls cells slots hi hl)
theorem x_icmp_lt {G : xG} {l : Launch} {M : xMI} {K : xK} {pc : Nat} {lv : List (Nat × Value)} {rest : List Value} {σ : xMem} (hC : xCX G M K) {x y : Int32} {off : Int} {tgt : Nat} (hdg : decode M.2.1 pc = .ok (.if_icmp .lt off, 3)) (ht : (pc : Int) + off = (tgt : Int)) (kt : x < y → xV G l M K tgt lv rest σ) (kf : ¬ x < y → xV G l M K (pc + 3) lv rest σ) : xV G l M K pc lv (.int y :: .int x :: rest) σ :=
  fun H locs ls cells slots hi hl => lv_icmp_lt hC.1 hC.2.1 hdg ht (fun z => kt z H locs ls cells slots hi hl) (fun z => kf z H locs ls cells slots hi hl)
theorem x_if_ge {G : xG} {l : Launch} {M : xMI} {K : xK} {pc : Nat} {lv : List (Nat × Value)} {rest : List Value} {σ : xMem} (hC : xCX G M K) {x : Int32} {off : Int} {tgt : Nat} (hdg : decode M.2.1 pc = .ok (.ifCond .ge off, 3)) (ht : (pc : Int) + off = (tgt : Int)) (kt : 0 ≤ x → xV G l M K tgt lv rest σ) (kf : ¬ 0 ≤ x → xV G l M K (pc + 3) lv rest σ) : xV G l M K pc lv (.int x :: rest) σ :=
  fun H locs ls cells slots hi hl => lv_if_ge hC.1 hC.2.1 hdg ht (fun z => kt z H locs ls cells slots hi hl) (fun z => kf z H locs ls cells slots hi hl)
theorem x_icmp_ge {G : xG} {l : Launch} {M : xMI} {K : xK} {pc : Nat} {lv : List (Nat × Value)} {rest : List Value} {σ : xMem} (hC : xCX G M K) {x y : Int32} {off : Int} {tgt : Nat} (hdg : decode M.2.1 pc = .ok (.if_icmp .ge off, 3)) (ht : (pc : Int) + off = (tgt : Int)) (kt : y ≤ x → xV G l M K tgt lv rest σ) (kf : ¬ y ≤ x → xV G l M K (pc + 3) lv rest σ) : xV G l M K pc lv (.int y :: .int x :: rest) σ :=
  fun H locs ls cells slots hi hl => lv_icmp_ge hC.1 hC.2.1 hdg ht (fun z => kt z H locs ls cells slots hi hl) (fun z => kf z H locs ls cells slots hi hl)
theorem x_if_gt {G : xG} {l : Launch} {M : xMI} {K : xK} {pc : Nat} {lv : List (Nat × Value)} {rest : List Value} {σ : xMem} (hC : xCX G M K) {x : Int32} {off : Int} {tgt : Nat} (hdg : decode M.2.1 pc = .ok (.ifCond .gt off, 3)) (ht : (pc : Int) + off = (tgt : Int)) (kt : 0 < x → xV G l M K tgt lv rest σ) (kf : ¬ 0 < x → xV G l M K (pc + 3) lv rest σ) : xV G l M K pc lv (.int x :: rest) σ :=
  fun H locs ls cells slots hi hl => lv_if_gt hC.1 hC.2.1 hdg ht (fun z => kt z H locs ls cells slots hi hl) (fun z => kf z H locs ls cells slots hi hl)
theorem x_icmp_gt {G : xG} {l : Launch} {M : xMI} {K : xK} {pc : Nat} {lv : List (Nat × Value)} {rest : List Value} {σ : xMem} (hC : xCX G M K) {x y : Int32} {off : Int} {tgt : Nat} (hdg : decode M.2.1 pc = .ok (.if_icmp .gt off, 3)) (ht : (pc : Int) + off = (tgt : Int)) (kt : y < x → xV G l M K tgt lv rest σ) (kf : ¬ y < x → xV G l M K (pc + 3) lv rest σ) : xV G l M K pc lv (.int y :: .int x :: rest) σ :=
  fun H locs ls cells slots hi hl => lv_icmp_gt hC.1 hC.2.1 hdg ht (fun z => kt z H locs ls cells slots hi hl) (fun z => kf z H locs ls cells slots hi hl)
theorem x_if_le {G : xG} {l : Launch} {M : xMI} {K : xK} {pc : Nat} {lv : List (Nat × Value)} {rest : List Value} {σ : xMem} (hC : xCX G M K) {x : Int32} {off : Int} {tgt : Nat} (hdg : decode M.2.1 pc = .ok (.ifCond .le off, 3)) (ht : (pc : Int) + off = (tgt : Int)) (kt : x ≤ 0 → xV G l M K tgt lv rest σ) (kf : ¬ x ≤ 0 → xV G l M K (pc + 3) lv rest σ) : xV G l M K pc lv (.int x :: rest) σ :=
  fun H locs ls cells slots hi hl => lv_if_le hC.1 hC.2.1 hdg ht (fun z => kt z H locs ls cells slots hi hl) (fun z => kf z H locs ls cells slots hi hl)
theorem x_icmp_le {G : xG} {l : Launch} {M : xMI} {K : xK} {pc : Nat} {lv : List (Nat × Value)} {rest : List Value} {σ : xMem} (hC : xCX G M K) {x y : Int32} {off : Int} {tgt : Nat} (hdg : decode M.2.1 pc = .ok (.if_icmp .le off, 3)) (ht : (pc : Int) + off = (tgt : Int)) (kt : x ≤ y → xV G l M K tgt lv rest σ) (kf : ¬ x ≤ y → xV G l M K (pc + 3) lv rest σ) : xV G l M K pc lv (.int y :: .int x :: rest) σ :=
  fun H locs ls cells slots hi hl => lv_icmp_le hC.1 hC.2.1 hdg ht (fun z => kt z H locs ls cells slots hi hl) (fun z => kf z H locs ls cells slots hi hl)
theorem x_ldc {G : xG} {l : Launch} {M : xMI} {K : xK} {pc : Nat} {lv : List (Nat × Value)} {rest : List Value} {σ : xMem} {index : Nat} {v : Int32} (hC : xCX G M K) (hdg : decode M.2.1 pc = .ok (.ldc index, 2)) (hw : Cond.constant M.2.2.2.2 index v ∈ xTbl) (k : xV G l M K (pc + 2) lv (.int v :: rest) σ) : xV G l M K pc lv rest σ :=
  fun H locs ls cells slots hi hl => lv_ldc hC.1 hC.2.1 hC.2.2.2.1 (hC.2.2.2.2.1 _ hw) hdg (k H locs ls cells slots hi hl)
theorem x_ldcw {G : xG} {l : Launch} {M : xMI} {K : xK} {pc : Nat} {lv : List (Nat × Value)} {rest : List Value} {σ : xMem} {index : Nat} {v : Int32} (hC : xCX G M K) (hdg : decode M.2.1 pc = .ok (.ldc_w index, 3)) (hw : Cond.constant M.2.2.2.2 index v ∈ xTbl) (k : xV G l M K (pc + 3) lv (.int v :: rest) σ) : xV G l M K pc lv rest σ :=
  fun H locs ls cells slots hi hl => lv_ldcw hC.1 hC.2.1 hC.2.2.2.1 (hC.2.2.2.2.1 _ hw) hdg (k H locs ls cells slots hi hl)
theorem x_ldc2 {G : xG} {l : Launch} {M : xMI} {K : xK} {pc : Nat} {lv : List (Nat × Value)} {rest : List Value} {σ : xMem} {index : Nat} {v : Int64} (hC : xCX G M K) (hdg : decode M.2.1 pc = .ok (.ldc2_w index, 3)) (hw : Cond.constantLong M.2.2.2.2 index v ∈ xTbl) (k : xV G l M K (pc + 3) lv (.long v :: rest) σ) : xV G l M K pc lv rest σ :=
  fun H locs ls cells slots hi hl => lv_ldc2 hC.1 hC.2.1 hC.2.2.2.1 (hC.2.2.2.2.1 _ hw) hdg (k H locs ls cells slots hi hl)
theorem x_lcmp {G : xG} {l : Launch} {M : xMI} {K : xK} {pc : Nat} {lv : List (Nat × Value)} {rest : List Value} {σ : xMem} {x y : Int64} (hC : xCX G M K) (hdg : decode M.2.1 pc = .ok (.lcmp, 1)) (k : xV G l M K (pc + 1) lv (.int (lg_cmp x y) :: rest) σ) : xV G l M K pc lv (.long y :: .long x :: rest) σ :=
  fun H locs ls cells slots hi hl => W.lcmp hC.1 hC.2.1 hdg (k H locs ls cells slots hi hl)
theorem x_iload_n {G : xG} {l : Launch} {M : xMI} {K : xK} {pc : Nat} {lv : List (Nat × Value)} {rest : List Value} {σ : xMem} {k : Fin 4} {i j : Nat} {x : Int32} (hC : xCX G M K) (hdg : decode M.2.1 pc = .ok (.iload_n k, 1)) (hi0 : (k : Nat) = i) (hk : lv[j]? = some (i, .int x)) (kk : xV G l M K (pc + 1) lv (.int x :: rest) σ) : xV G l M K pc lv rest σ :=
  fun H locs ls cells slots hi hl => lv_iload_n hC.1 hC.2.1 hdg hi0 (lv_at hl j hk) (kk H locs ls cells slots hi hl)
theorem x_istore_n {G : xG} {l : Launch} {M : xMI} {K : xK} {pc : Nat} {lv : List (Nat × Value)} {rest : List Value} {σ : xMem} {k : Fin 4} {i : Nat} {x : Int32} {lv2 : List (Nat × Value)} (hC : xCX G M K) (hdg : decode M.2.1 pc = .ok (.istore_n k, 1)) (hi0 : (k : Nat) = i) (hn : i < M.2.2.1) (h2 : (i, Value.int x) :: lv.filter (fun q => !(q.1 == i) && !(q.1 + 1 == i && q.2.category == 2)) = lv2) (kk : xV G l M K (pc + 1) lv2 rest σ) : xV G l M K pc lv (.int x :: rest) σ :=
  fun H locs ls cells slots hi hl => lv_istore_n hC.1 hC.2.1 hdg hi0 hl hn h2 (fun ls2 hl2 => kk H locs ls2 cells slots hi hl2)
theorem x_iload {G : xG} {l : Launch} {M : xMI} {K : xK} {pc : Nat} {lv : List (Nat × Value)} {rest : List Value} {σ : xMem} {i j : Nat} {x : Int32} (hC : xCX G M K) (hdg : decode M.2.1 pc = .ok (.iload i, 2)) (hk : lv[j]? = some (i, .int x)) (kk : xV G l M K (pc + 2) lv (.int x :: rest) σ) : xV G l M K pc lv rest σ :=
  fun H locs ls cells slots hi hl => lv_iload hC.1 hC.2.1 hdg (lv_at hl j hk) (kk H locs ls cells slots hi hl)
theorem x_istore {G : xG} {l : Launch} {M : xMI} {K : xK} {pc : Nat} {lv : List (Nat × Value)} {rest : List Value} {σ : xMem} {i : Nat} {x : Int32} {lv2 : List (Nat × Value)} (hC : xCX G M K) (hdg : decode M.2.1 pc = .ok (.istore i, 2)) (hn : i < M.2.2.1) (h2 : (i, Value.int x) :: lv.filter (fun q => !(q.1 == i) && !(q.1 + 1 == i && q.2.category == 2)) = lv2) (kk : xV G l M K (pc + 2) lv2 rest σ) : xV G l M K pc lv (.int x :: rest) σ :=
  fun H locs ls cells slots hi hl => lv_istore hC.1 hC.2.1 hdg hl hn h2 (fun ls2 hl2 => kk H locs ls2 cells slots hi hl2)
theorem x_lload_n {G : xG} {l : Launch} {M : xMI} {K : xK} {pc : Nat} {lv : List (Nat × Value)} {rest : List Value} {σ : xMem} {k : Fin 4} {i j : Nat} {x : Int64} (hC : xCX G M K) (hdg : decode M.2.1 pc = .ok (.lload_n k, 1)) (hi0 : (k : Nat) = i) (hk : lv[j]? = some (i, .long x)) (kk : xV G l M K (pc + 1) lv (.long x :: rest) σ) : xV G l M K pc lv rest σ :=
  fun H locs ls cells slots hi hl => lv_lload_n hC.1 hC.2.1 hdg hi0 (lv_at hl j hk) (kk H locs ls cells slots hi hl)
theorem x_lstore_n {G : xG} {l : Launch} {M : xMI} {K : xK} {pc : Nat} {lv : List (Nat × Value)} {rest : List Value} {σ : xMem} {k : Fin 4} {i : Nat} {x : Int64} {lv2 : List (Nat × Value)} (hC : xCX G M K) (hdg : decode M.2.1 pc = .ok (.lstore_n k, 1)) (hi0 : (k : Nat) = i) (hn : i + 1 < M.2.2.1) (h2 : (i, Value.long x) :: lv.filter (fun q => !(q.1 == i) && (!(q.1 == i + 1) && !(q.1 + 1 == i && q.2.category == 2))) = lv2) (kk : xV G l M K (pc + 1) lv2 rest σ) : xV G l M K pc lv (.long x :: rest) σ :=
  fun H locs ls cells slots hi hl => lv_lstore_n hC.1 hC.2.1 hdg hi0 hl hn h2 (fun ls2 hl2 => kk H locs ls2 cells slots hi hl2)
theorem x_lload {G : xG} {l : Launch} {M : xMI} {K : xK} {pc : Nat} {lv : List (Nat × Value)} {rest : List Value} {σ : xMem} {i j : Nat} {x : Int64} (hC : xCX G M K) (hdg : decode M.2.1 pc = .ok (.lload i, 2)) (hk : lv[j]? = some (i, .long x)) (kk : xV G l M K (pc + 2) lv (.long x :: rest) σ) : xV G l M K pc lv rest σ :=
  fun H locs ls cells slots hi hl => lv_lload hC.1 hC.2.1 hdg (lv_at hl j hk) (kk H locs ls cells slots hi hl)
theorem x_lstore {G : xG} {l : Launch} {M : xMI} {K : xK} {pc : Nat} {lv : List (Nat × Value)} {rest : List Value} {σ : xMem} {i : Nat} {x : Int64} {lv2 : List (Nat × Value)} (hC : xCX G M K) (hdg : decode M.2.1 pc = .ok (.lstore i, 2)) (hn : i + 1 < M.2.2.1) (h2 : (i, Value.long x) :: lv.filter (fun q => !(q.1 == i) && (!(q.1 == i + 1) && !(q.1 + 1 == i && q.2.category == 2))) = lv2) (kk : xV G l M K (pc + 2) lv2 rest σ) : xV G l M K pc lv (.long x :: rest) σ :=
  fun H locs ls cells slots hi hl => lv_lstore hC.1 hC.2.1 hdg hl hn h2 (fun ls2 hl2 => kk H locs ls2 cells slots hi hl2)
theorem x_aload_n {G : xG} {l : Launch} {M : xMI} {K : xK} {pc : Nat} {lv : List (Nat × Value)} {rest : List Value} {σ : xMem} {k : Fin 4} {i j : Nat} {x : Nat} (hC : xCX G M K) (hdg : decode M.2.1 pc = .ok (.aload_n k, 1)) (hi0 : (k : Nat) = i) (hk : lv[j]? = some (i, .ref x)) (kk : xV G l M K (pc + 1) lv (.ref x :: rest) σ) : xV G l M K pc lv rest σ :=
  fun H locs ls cells slots hi hl => lv_aload_n hC.1 hC.2.1 hdg hi0 (lv_at hl j hk) (kk H locs ls cells slots hi hl)
theorem x_astore_n {G : xG} {l : Launch} {M : xMI} {K : xK} {pc : Nat} {lv : List (Nat × Value)} {rest : List Value} {σ : xMem} {k : Fin 4} {i : Nat} {x : Nat} {lv2 : List (Nat × Value)} (hC : xCX G M K) (hdg : decode M.2.1 pc = .ok (.astore_n k, 1)) (hi0 : (k : Nat) = i) (hn : i < M.2.2.1) (h2 : (i, Value.ref x) :: lv.filter (fun q => !(q.1 == i) && !(q.1 + 1 == i && q.2.category == 2)) = lv2) (kk : xV G l M K (pc + 1) lv2 rest σ) : xV G l M K pc lv (.ref x :: rest) σ :=
  fun H locs ls cells slots hi hl => lv_astore_n hC.1 hC.2.1 hdg hi0 hl hn h2 (fun ls2 hl2 => kk H locs ls2 cells slots hi hl2)
theorem x_aload {G : xG} {l : Launch} {M : xMI} {K : xK} {pc : Nat} {lv : List (Nat × Value)} {rest : List Value} {σ : xMem} {i j : Nat} {x : Nat} (hC : xCX G M K) (hdg : decode M.2.1 pc = .ok (.aload i, 2)) (hk : lv[j]? = some (i, .ref x)) (kk : xV G l M K (pc + 2) lv (.ref x :: rest) σ) : xV G l M K pc lv rest σ :=
  fun H locs ls cells slots hi hl => lv_aload hC.1 hC.2.1 hdg (lv_at hl j hk) (kk H locs ls cells slots hi hl)
theorem x_astore {G : xG} {l : Launch} {M : xMI} {K : xK} {pc : Nat} {lv : List (Nat × Value)} {rest : List Value} {σ : xMem} {i : Nat} {x : Nat} {lv2 : List (Nat × Value)} (hC : xCX G M K) (hdg : decode M.2.1 pc = .ok (.astore i, 2)) (hn : i < M.2.2.1) (h2 : (i, Value.ref x) :: lv.filter (fun q => !(q.1 == i) && !(q.1 + 1 == i && q.2.category == 2)) = lv2) (kk : xV G l M K (pc + 2) lv2 rest σ) : xV G l M K pc lv (.ref x :: rest) σ :=
  fun H locs ls cells slots hi hl => lv_astore hC.1 hC.2.1 hdg hl hn h2 (fun ls2 hl2 => kk H locs ls2 cells slots hi hl2)
theorem x_iinc {G : xG} {l : Launch} {M : xMI} {K : xK} {pc : Nat} {lv : List (Nat × Value)} {rest : List Value} {σ : xMem} {i j : Nat} {n : Int} {x v : Int32} {lv2 : List (Nat × Value)} (hC : xCX G M K) (hdg : decode M.2.1 pc = .ok (.iinc i n, 3)) (hk : lv[j]? = some (i, .int x)) (hv : x + Int32.ofInt n = v) (hn : i < M.2.2.1) (h2 : (i, Value.int v) :: lv.filter (fun q => !(q.1 == i) && !(q.1 + 1 == i && q.2.category == 2)) = lv2) (kk : xV G l M K (pc + 3) lv2 rest σ) : xV G l M K pc lv rest σ :=
  fun H locs ls cells slots hi hl => lv_iinc hC.1 hC.2.1 hdg hl hk hv hn h2 (fun ls2 hl2 => kk H locs ls2 cells slots hi hl2)
theorem x_getV {G : xG} {l : Launch} {M : xMI} {K : xK} {pc : Nat} {lv : List (Nat × Value)} {rest : List Value} {σ : xMem} {idx ci k N o : Nat} {v : Value} (hC : xCX G M K) (hdg : decode M.2.1 pc = .ok (.getfield idx, 3)) (hf : xFl M.2.2.2.2 idx ci k) (hsh : xSH o = (ci, N)) (hci : ci < 10) (hk : k < N) (ho : o < σ.1)
    (hv : xfv G σ ci o k = v) (kk : xV G l M K (pc + 3) lv (v :: rest) σ) : xV G l M K pc lv (.ref (xad G o) :: rest) σ := by
  intro H locs ls cells slots hi hl
  obtain ⟨q, hq, hkq, hw⟩ := hf
  obtain ⟨hin, -, -⟩ := xcls_ok ci q hq
  have hP := hi.2.2.2.2.2.1.1
  obtain ⟨hx, hb, hml, hown, hts, hlk, hr, hK, hF, hnm⟩ := hC
  refine va_get (D := G.1) (ci := ci) (v := v) (C := q.1) (T := q.2.1) (N := q.2.2) hx hb hts hin hown hK hP o (by rw [xws_get ho, xent_obj hsh hci]) hq k hkq (hts _ hw) (fun _ h => h) ?_ hdg (kk H locs ls cells slots hi hl)
  simp [hk, hv]
theorem x_getI {G : xG} {l : Launch} {M : xMI} {K : xK} {pc : Nat} {lv : List (Nat × Value)} {rest : List Value} {σ : xMem} {idx ci k N o : Nat} (hC : xCX G M K) (hdg : decode M.2.1 pc = .ok (.getfield idx, 3)) (hf : xFl M.2.2.2.2 idx ci k) (hsh : xSH o = (ci, N)) (hci : ci < 10) (hk : k < N) (ho : o < σ.1)
    (ht : xft ci k = 0 ∨ xft ci k = 3) (kk : xV G l M K (pc + 3) lv (.int (σ.2.1 o k) :: rest) σ) : xV G l M K pc lv (.ref (xad G o) :: rest) σ :=
  x_getV hC hdg hf hsh hci hk ho (by rcases ht with h | h <;> simp [xfv, h]) kk
theorem x_getL {G : xG} {l : Launch} {M : xMI} {K : xK} {pc : Nat} {lv : List (Nat × Value)} {rest : List Value} {σ : xMem} {idx ci k N o : Nat} (hC : xCX G M K) (hdg : decode M.2.1 pc = .ok (.getfield idx, 3)) (hf : xFl M.2.2.2.2 idx ci k) (hsh : xSH o = (ci, N)) (hci : ci < 10) (hk : k < N) (ho : o < σ.1)
    (ht : xft ci k = 1) (kk : xV G l M K (pc + 3) lv (.long (σ.2.2.1 o k) :: rest) σ) : xV G l M K pc lv (.ref (xad G o) :: rest) σ :=
  x_getV hC hdg hf hsh hci hk ho (by simp [xfv, ht]) kk
theorem x_getR {G : xG} {l : Launch} {M : xMI} {K : xK} {pc : Nat} {lv : List (Nat × Value)} {rest : List Value} {σ : xMem} {idx ci k N o q : Nat} (hC : xCX G M K) (hdg : decode M.2.1 pc = .ok (.getfield idx, 3)) (hf : xFl M.2.2.2.2 idx ci k) (hsh : xSH o = (ci, N)) (hci : ci < 10) (hk : k < N) (ho : o < σ.1)
    (ht : xft ci k = 2) (hq : σ.2.2.2 o k = some q) (kk : xV G l M K (pc + 3) lv (.ref (xad G q) :: rest) σ) : xV G l M K pc lv (.ref (xad G o) :: rest) σ :=
  x_getV hC hdg hf hsh hci hk ho (by simp [xfv, ht, hq, va_rf]) kk
theorem x_putV {G : xG} {l : Launch} {M : xMI} {K : xK} {pc : Nat} {lv : List (Nat × Value)} {rest : List Value} {σ τ : xMem} {idx ci k N o : Nat} {v : Value} (hC : xCX G M K) (hdg : decode M.2.1 pc = .ok (.putfield idx, 3)) (hf : xFl M.2.2.2.2 idx ci k) (hsh : xSH o = (ci, N)) (hci : ci < 10) (hk : k < N) (ho : o < σ.1)
    (hfin : xFn ci k = false) (hn : τ.1 = σ.1) (hne : ∀ j, j ≠ o → xent G τ j = xent G σ j) (hv : xfv G τ ci o k = v) (hoth : ∀ j, j ≠ k → xfv G τ ci o j = xfv G σ ci o j)
    (hty : ∀ t : FieldType, xTyB (xft ci k) t = true → narrow t v = v ∧ fits t v = true) (kk : xV G l M K (pc + 3) lv rest τ) : xV G l M K pc lv (v :: .ref (xad G o) :: rest) σ := by
  intro H locs ls cells slots hi hl
  obtain ⟨q, hq, hkq, hw⟩ := hf
  obtain ⟨hin, hnm, ty, hpd, htb⟩ := xcls_ok ci q hq
  obtain ⟨h1, h2, h3, h4, h5, hWF, hS⟩ := hi
  obtain ⟨hx, hb, hml, hown, hts, hlk, hr, hK, hF, hini⟩ := hC
  have hat : va_at G.1 vwCl (xad G o, .inr (ci, (List.range N).map (xfv G σ ci o))) H := by
    have := hWF.1 o _ (xws_get ho)
    rw [xent_obj hsh hci] at this
    exact this
  have hap := va_apart (own := M.2.2.2.2) hts hin ty hpd hnm hK hq
  obtain ⟨r, hr1, cell, q1, q2, q3, q4⟩ := hat
  have hrq : r = q := Option.some.inj (hr1.symm.trans hq)
  subst hrq
  obtain ⟨hSl, hfc, kC, hkC, hkind⟩ := hK.1 ci _ hq
  obtain ⟨cf, kf, fi, f, hfi, hsl⟩ := hSl k hkq
  obtain ⟨hna, hfit⟩ := hty (ty k) (htb k hkq)
  have hlay := hts _ (hin _ (u_in_lay hkq))
  unfold u_lay at hlay
  have hfin2 : (r.2.1 k).2.2.2 = false := by
    have := hfin
    simp only [xFn, hq] at this
    exact this
  rw [if_neg (by rw [hfin2]; decide)] at hlay
  have hst := (u_facts hfc hkC (u_lays hts hin hkq) hfi).1
  have h6 := u_store hfc hkC hkind hlay hfi (hpd k hkq) hna hfit
  refine W.putK hx hb (f := f) ⟨hown, hts _ hw, ⟨_, _, _, hfi⟩, hst⟩ (by rw [q2]; exact h6) q1 q3 (by rw [hsl]; exact k2_hasslot (q4 k hkq)) rfl rfl hdg fun H' e1 e2 e3 => ?_
  rw [hsl] at e1 ⊢
  refine kk H' _ ls cells slots ⟨by omega, by omega, by rw [hn]; exact h3, by omega, by rw [hn]; exact h5, xWF_put hWF hn ho hne ?_ e2 e3, hS.put e2 e3 (by show G.2.2.1 ≤ xad G o; unfold xad; omega)⟩ hl
  rw [xent_obj hsh hci]
  refine ⟨_, hq, t_OB.to (V := updV (vp_V ((List.range N).map (xfv G σ ci o))) k v) ⟨_, e1, q2, q3, t_set q4 hap hkq v⟩ (fun j _ => ?_)⟩
  rw [vp_updV_set (by simpa using hk) v j, xset_map hv hoth]
theorem x_putF {G : xG} {l : Launch} {M : xMI} {K : xK} {pc : Nat} {lv : List (Nat × Value)} {rest : List Value} {σ τ : xMem} {idx ci k N o : Nat} {v : Value} (hC : xCX G M K) (hdg : decode M.2.1 pc = .ok (.putfield idx, 3)) (hf : xFl M.2.2.2.2 idx ci k) (hsh : xSH o = (ci, N)) (hci : ci < 10) (hk : k < N) (ho : o < σ.1)
    (hfin : xFn ci k = true) (hini0 : M.1.name = "<init>") (hown0 : xFo ci k = M.2.2.2.2) (hn : τ.1 = σ.1) (hne : ∀ j, j ≠ o → xent G τ j = xent G σ j) (hv : xfv G τ ci o k = v) (hoth : ∀ j, j ≠ k → xfv G τ ci o j = xfv G σ ci o j)
    (hty : ∀ t : FieldType, xTyB (xft ci k) t = true → narrow t v = v ∧ fits t v = true) (kk : xV G l M K (pc + 3) lv rest τ) : xV G l M K pc lv (v :: .ref (xad G o) :: rest) σ := by
  intro H locs ls cells slots hi hl
  obtain ⟨q, hq, hkq, hw⟩ := hf
  obtain ⟨hin, hnm, ty, hpd, htb⟩ := xcls_ok ci q hq
  obtain ⟨h1, h2, h3, h4, h5, hWF, hS⟩ := hi
  obtain ⟨hx, hb, hml, hown, hts, hlk, hr, hK, hF, hini⟩ := hC
  have hat : va_at G.1 vwCl (xad G o, .inr (ci, (List.range N).map (xfv G σ ci o))) H := by
    have := hWF.1 o _ (xws_get ho)
    rw [xent_obj hsh hci] at this
    exact this
  have hap := va_apart (own := M.2.2.2.2) hts hin ty hpd hnm hK hq
  obtain ⟨r, hr1, cell, q1, q2, q3, q4⟩ := hat
  have hrq : r = q := Option.some.inj (hr1.symm.trans hq)
  subst hrq
  obtain ⟨hSl, hfc, kC, hkC, hkind⟩ := hK.1 ci _ hq
  obtain ⟨cf, kf, fi, f, hfi, hsl⟩ := hSl k hkq
  obtain ⟨hna, hfit⟩ := hty (ty k) (htb k hkq)
  have hlay := hts _ (hin _ (u_in_lay hkq))
  unfold u_lay at hlay
  have hfin2 : (r.2.1 k).2.2.2 = true := by
    have := hfin
    simp only [xFn, hq] at this
    exact this
  have hdecl : (r.2.1 k).1 = M.2.2.2.2 := by
    have := hown0
    simp only [xFo, hq] at this
    exact this
  rw [if_pos hfin2] at hlay
  have hst := (u_facts hfc hkC (u_lays hts hin hkq) hfi).1
  have hcf : (xKm K).cls = cf := by
    obtain ⟨_, _, c', _, _, _, -, -, hf', -, -, -, hown2, -⟩ := Cond.laysFinal_spec hlay
    have e1 : c' = cf := by have := hfi.symm.trans hf'; simp at this; exact this.1.symm
    rw [hdecl] at hown2
    rw [← e1]; exact Option.some.inj (hown.symm.trans hown2)
  have h6 := u_fits hfc hkC hkind (Or.inr hlay) hfi (hpd k hkq) hna hfit
  refine W.putFinK hx hb hown (hts _ hw) hfi hst hcf (hini hini0) (by rw [q2]; exact h6) q1 q3 (by rw [hsl]; exact k2_hasslot (q4 k hkq)) rfl rfl hdg fun H' e1 e2 e3 => ?_
  rw [hsl] at e1 ⊢
  refine kk H' _ ls cells slots ⟨by omega, by omega, by rw [hn]; exact h3, by omega, by rw [hn]; exact h5, xWF_put hWF hn ho hne ?_ e2 e3, hS.put e2 e3 (by show G.2.2.1 ≤ xad G o; unfold xad; omega)⟩ hl
  rw [xent_obj hsh hci]
  refine ⟨_, hq, t_OB.to (V := updV (vp_V ((List.range N).map (xfv G σ ci o))) k v) ⟨_, e1, q2, q3, t_set q4 hap hkq v⟩ (fun j _ => ?_)⟩
  rw [vp_updV_set (by simpa using hk) v j, xset_map hv hoth]
theorem x_putI {G : xG} {l : Launch} {M : xMI} {K : xK} {pc : Nat} {lv : List (Nat × Value)} {rest : List Value} {σ : xMem} {idx ci k N o : Nat} {v : Int32} (hC : xCX G M K) (hdg : decode M.2.1 pc = .ok (.putfield idx, 3)) (hf : xFl M.2.2.2.2 idx ci k) (hsh : xSH o = (ci, N)) (hci : ci < 10) (hk : k < N) (ho : o < σ.1)
    (hfin : xFn ci k = false) (ht : xft ci k = 0) (kk : xV G l M K (pc + 3) lv rest (xsI σ o k v)) : xV G l M K pc lv (.int v :: .ref (xad G o) :: rest) σ :=
  x_putV (τ := xsI σ o k v) hC hdg hf hsh hci hk ho hfin rfl (fun j hj => xsI_ne j hj) (by simp [xfv, ht, xsI, xup]) (fun j hj => by simp [xfv, xsI, xup, hj]) (fun t h => by rw [ht] at h; rw [xTyB_0 h]; exact ⟨rfl, rfl⟩) kk
/-- a boolean field: 0 or 1 comes -/
theorem x_putZ {G : xG} {l : Launch} {M : xMI} {K : xK} {pc : Nat} {lv : List (Nat × Value)} {rest : List Value} {σ : xMem} {idx ci k N o : Nat} {v : Int32} (hC : xCX G M K) (hdg : decode M.2.1 pc = .ok (.putfield idx, 3)) (hf : xFl M.2.2.2.2 idx ci k) (hsh : xSH o = (ci, N)) (hci : ci < 10) (hk : k < N) (ho : o < σ.1)
    (hfin : xFn ci k = false) (ht : xft ci k = 3) (hz : v = 0 ∨ v = 1) (kk : xV G l M K (pc + 3) lv rest (xsI σ o k v)) : xV G l M K pc lv (.int v :: .ref (xad G o) :: rest) σ :=
  x_putV (τ := xsI σ o k v) hC hdg hf hsh hci hk ho hfin rfl (fun j hj => xsI_ne j hj) (by simp [xfv, ht, xsI, xup]) (fun j hj => by simp [xfv, xsI, xup, hj]) (fun t h => by rw [ht] at h; rw [xTyB_3 h]; rcases hz with rfl | rfl <;> exact ⟨rfl, rfl⟩) kk
theorem x_putL {G : xG} {l : Launch} {M : xMI} {K : xK} {pc : Nat} {lv : List (Nat × Value)} {rest : List Value} {σ : xMem} {idx ci k N o : Nat} {v : Int64} (hC : xCX G M K) (hdg : decode M.2.1 pc = .ok (.putfield idx, 3)) (hf : xFl M.2.2.2.2 idx ci k) (hsh : xSH o = (ci, N)) (hci : ci < 10) (hk : k < N) (ho : o < σ.1)
    (hfin : xFn ci k = false) (ht : xft ci k = 1) (kk : xV G l M K (pc + 3) lv rest (xsL σ o k v)) : xV G l M K pc lv (.long v :: .ref (xad G o) :: rest) σ :=
  x_putV (τ := xsL σ o k v) hC hdg hf hsh hci hk ho hfin rfl (fun j hj => xsL_ne j hj) (by simp [xfv, ht, xsL, xup]) (fun j hj => by simp [xfv, xsL, xup, hj]) (fun t h => by rw [ht] at h; rw [xTyB_1 h]; exact ⟨rfl, rfl⟩) kk
theorem x_putFR {G : xG} {l : Launch} {M : xMI} {K : xK} {pc : Nat} {lv : List (Nat × Value)} {rest : List Value} {σ : xMem} {idx ci k N o q : Nat} (hC : xCX G M K) (hdg : decode M.2.1 pc = .ok (.putfield idx, 3)) (hf : xFl M.2.2.2.2 idx ci k) (hsh : xSH o = (ci, N)) (hci : ci < 10) (hk : k < N) (ho : o < σ.1)
    (hfin : xFn ci k = true) (hini0 : M.1.name = "<init>") (hown0 : xFo ci k = M.2.2.2.2) (ht : xft ci k = 2) (kk : xV G l M K (pc + 3) lv rest (xsR σ o k (some q))) : xV G l M K pc lv (.ref (xad G q) :: .ref (xad G o) :: rest) σ :=
  x_putF (τ := xsR σ o k (some q)) hC hdg hf hsh hci hk ho hfin hini0 hown0 rfl (fun j hj => xsR_ne j hj) (by simp [xfv, ht, xsR, xup, va_rf]) (fun j hj => by simp [xfv, xsR, xup, hj]) (fun t h => by rw [ht] at h; exact xTyB_2 h _) kk
theorem x_iald {G : xG} {l : Launch} {M : xMI} {K : xK} {pc : Nat} {lv : List (Nat × Value)} {rest : List Value} {σ : xMem} {o N : Nat} {i : Int32} (hC : xCX G M K) (hdg : decode M.2.1 pc = .ok (.iaload, 1)) (hsh : xSH o = (10, N)) (ho : o < σ.1) (hin : xin i N = true)
    (kk : xV G l M K (pc + 1) lv (.int (σ.2.1 o i.toNatClampNeg) :: rest) σ) : xV G l M K pc lv (.int i :: .ref (xad G o) :: rest) σ := by
  intro H locs ls cells slots hi hl
  exact va_iald (D := G.1) (f := σ.2.1 o) hC.1 hC.2.1 hC.2.2.2.2.2.2.2.1 hi.2.2.2.2.2.1.1 o 0 (by rw [xws_get ho, xent_arrI (t := 0) hsh (by decide) (by decide)]) rfl (xin_vp hin) hdg (kk H locs ls cells slots hi hl)
theorem x_bald {G : xG} {l : Launch} {M : xMI} {K : xK} {pc : Nat} {lv : List (Nat × Value)} {rest : List Value} {σ : xMem} {o N : Nat} {i : Int32} (hC : xCX G M K) (hdg : decode M.2.1 pc = .ok (.baload, 1)) (hsh : xSH o = (11, N)) (ho : o < σ.1) (hin : xin i N = true)
    (kk : xV G l M K (pc + 1) lv (.int (σ.2.1 o i.toNatClampNeg) :: rest) σ) : xV G l M K pc lv (.int i :: .ref (xad G o) :: rest) σ := by
  intro H locs ls cells slots hi hl
  exact va_bald (D := G.1) (f := σ.2.1 o) hC.1 hC.2.1 hC.2.2.2.2.2.2.2.1 hi.2.2.2.2.2.1.1 o 1 (by rw [xws_get ho, xent_arrI (t := 1) hsh (by decide) (by decide)]) rfl (xin_vp hin) hdg (kk H locs ls cells slots hi hl)
theorem x_sald {G : xG} {l : Launch} {M : xMI} {K : xK} {pc : Nat} {lv : List (Nat × Value)} {rest : List Value} {σ : xMem} {o N : Nat} {i : Int32} (hC : xCX G M K) (hdg : decode M.2.1 pc = .ok (.saload, 1)) (hsh : xSH o = (12, N)) (ho : o < σ.1) (hin : xin i N = true)
    (kk : xV G l M K (pc + 1) lv (.int (σ.2.1 o i.toNatClampNeg) :: rest) σ) : xV G l M K pc lv (.int i :: .ref (xad G o) :: rest) σ := by
  intro H locs ls cells slots hi hl
  exact va_sald (D := G.1) (f := σ.2.1 o) hC.1 hC.2.1 hC.2.2.2.2.2.2.2.1 hi.2.2.2.2.2.1.1 o 2 (by rw [xws_get ho, xent_arrI (t := 2) hsh (by decide) (by decide)]) rfl (xin_vp hin) hdg (kk H locs ls cells slots hi hl)
theorem x_zald {G : xG} {l : Launch} {M : xMI} {K : xK} {pc : Nat} {lv : List (Nat × Value)} {rest : List Value} {σ : xMem} {o N : Nat} {i : Int32} (hC : xCX G M K) (hdg : decode M.2.1 pc = .ok (.baload, 1)) (hsh : xSH o = (14, N)) (ho : o < σ.1) (hin : xin i N = true)
    (kk : xV G l M K (pc + 1) lv (.int (σ.2.1 o i.toNatClampNeg) :: rest) σ) : xV G l M K pc lv (.int i :: .ref (xad G o) :: rest) σ := by
  intro H locs ls cells slots hi hl
  exact va_zald (D := G.1) (f := σ.2.1 o) hC.1 hC.2.1 hC.2.2.2.2.2.2.2.1 hi.2.2.2.2.2.1.1 o 4 (by rw [xws_get ho, xent_arrI (t := 4) hsh (by decide) (by decide)]) rfl (xin_vp hin) hdg (kk H locs ls cells slots hi hl)
theorem x_lald {G : xG} {l : Launch} {M : xMI} {K : xK} {pc : Nat} {lv : List (Nat × Value)} {rest : List Value} {σ : xMem} {o N : Nat} {i : Int32} (hC : xCX G M K) (hdg : decode M.2.1 pc = .ok (.laload, 1)) (hsh : xSH o = (13, N)) (ho : o < σ.1) (hin : xin i N = true)
    (kk : xV G l M K (pc + 1) lv (.long (σ.2.2.1 o i.toNatClampNeg) :: rest) σ) : xV G l M K pc lv (.int i :: .ref (xad G o) :: rest) σ := by
  intro H locs ls cells slots hi hl
  exact va_lald (D := G.1) (f := σ.2.2.1 o) hC.1 hC.2.1 hC.2.2.2.2.2.2.2.1 hi.2.2.2.2.2.1.1 o 3 (by rw [xws_get ho, xent_arrL hsh]) rfl (xin_vp hin) hdg (kk H locs ls cells slots hi hl)
theorem x_aldq {G : xG} {l : Launch} {M : xMI} {K : xK} {pc : Nat} {lv : List (Nat × Value)} {rest : List Value} {σ : xMem} {o N q : Nat} {i : Int32} (hC : xCX G M K) (hdg : decode M.2.1 pc = .ok (.aaload, 1)) (hsh : xSH o = (15, N)) (ho : o < σ.1) (hin : xin i N = true) (hq : σ.2.2.2 o i.toNatClampNeg = some q)
    (kk : xV G l M K (pc + 1) lv (.ref (xad G q) :: rest) σ) : xV G l M K pc lv (.int i :: .ref (xad G o) :: rest) σ := by
  intro H locs ls cells slots hi hl
  refine va_aldq (D := G.1) (f := fun j => (σ.2.2.2 o j).map (xad G)) hC.1 hC.2.1 hC.2.2.2.2.2.2.2.1 hi.2.2.2.2.2.1.1 o 5 (by rw [xws_get ho, xent_arrR hsh]) rfl (xin_vp hin) hdg ?_
  rw [hq]
  exact kk H locs ls cells slots hi hl
theorem x_alen {G : xG} {l : Launch} {M : xMI} {K : xK} {pc : Nat} {lv : List (Nat × Value)} {rest : List Value} {σ : xMem} {o t N : Nat} {v : Int32} (hC : xCX G M K) (hdg : decode M.2.1 pc = .ok (.arraylength, 1)) (hsh : xSH o = (10 + t, N)) (ht : t < 5) (ht3 : t ≠ 3) (ho : o < σ.1) (hv : Int32.ofNat N = v)
    (kk : xV G l M K (pc + 1) lv (.int v :: rest) σ) : xV G l M K pc lv (.ref (xad G o) :: rest) σ := by
  intro H locs ls cells slots hi hl
  obtain ⟨ty, hty⟩ : ∃ ty, (xTy G)[t]? = some (G.2.1 t, ty) := by
    match t, ht with
    | 0, _ => exact ⟨_, rfl⟩
    | 1, _ => exact ⟨_, rfl⟩
    | 2, _ => exact ⟨_, rfl⟩
    | 3, _ => exact ⟨_, rfl⟩
    | 4, _ => exact ⟨_, rfl⟩
    | n + 5, h => omega
  exact va_alen (D := G.1) (x := (N, .inl (σ.2.1 o))) hC.1 hC.2.1 hC.2.2.2.2.2.2.2.1 hi.2.2.2.2.2.1.1 o t (by rw [xws_get ho, xent_arrI hsh ht3 (by omega)]) hty hv hdg (kk H locs ls cells slots hi hl)
theorem x_alenL {G : xG} {l : Launch} {M : xMI} {K : xK} {pc : Nat} {lv : List (Nat × Value)} {rest : List Value} {σ : xMem} {o N : Nat} {v : Int32} (hC : xCX G M K) (hdg : decode M.2.1 pc = .ok (.arraylength, 1)) (hsh : xSH o = (13, N)) (ho : o < σ.1) (hv : Int32.ofNat N = v)
    (kk : xV G l M K (pc + 1) lv (.int v :: rest) σ) : xV G l M K pc lv (.ref (xad G o) :: rest) σ := by
  intro H locs ls cells slots hi hl
  exact va_alen (D := G.1) (x := (N, .inr (.inl (σ.2.2.1 o)))) hC.1 hC.2.1 hC.2.2.2.2.2.2.2.1 hi.2.2.2.2.2.1.1 o 3 (by rw [xws_get ho, xent_arrL hsh]) rfl hv hdg (kk H locs ls cells slots hi hl)
theorem x_iast {G : xG} {l : Launch} {M : xMI} {K : xK} {pc : Nat} {lv : List (Nat × Value)} {rest : List Value} {σ : xMem} {o N : Nat} {i x : Int32} (hC : xCX G M K) (hdg : decode M.2.1 pc = .ok (.iastore, 1)) (hsh : xSH o = (10, N)) (ho : o < σ.1) (hin : xin i N = true)
    (kk : xV G l M K (pc + 1) lv rest (xsI σ o i.toNatClampNeg x)) : xV G l M K pc lv (.int x :: .int i :: .ref (xad G o) :: rest) σ := by
  intro H locs ls cells slots hi hl
  obtain ⟨h1, h2, h3, h4, h5, hWF, hS⟩ := hi
  obtain ⟨hx, hb, hml, hown, hts, hlk, hr, hK, hF, hini⟩ := hC
  have hat : va_at G.1 vwCl (xad G o, .inl (G.2.1 0, N, .inl (σ.2.1 o))) H := by
    have := hWF.1 o _ (xws_get ho)
    rw [xent_arrI (t := 0) hsh (by decide) (by decide)] at this
    exact this
  refine W.iast hx hb hat ((hK.2 0 _ rfl).1 N (fun j => .int (σ.2.1 o j))) (fun q => by cases q) (by show ¬ (i < 0 ∨ (arrV _ _ _).slots.size ≤ _); rw [arrV_size]; exact xin_vp hin) rfl rfl hdg fun H1 e z oq => ?_
  refine kk H1 _ ls cells slots ⟨h1, h2, h3, h4, h5, xWF_put hWF rfl ho (fun j hj => xsI_ne j hj) ?_ z oq, hS.put z oq (by show G.2.2.1 ≤ xad G o; unfold xad; omega)⟩ hl
  rw [xent_arrI (t := 0) hsh (by decide) (by decide)]
  show H1[xad G o]? = some (vp_cell _ _)
  rw [e, vp_cell_i, vp_cell_i, arrV_store]
  congr 2
  funext q
  by_cases hq : q = i.toNatClampNeg
  · subst hq
    first | (simp [updV, xsI, xup, vp_nar]; done) | (simp [updV, xsI, xup, vp_nar]; rfl)
  · simp [updV, xsI, xup, hq]
theorem x_bast {G : xG} {l : Launch} {M : xMI} {K : xK} {pc : Nat} {lv : List (Nat × Value)} {rest : List Value} {σ : xMem} {o N : Nat} {i x : Int32} (hC : xCX G M K) (hdg : decode M.2.1 pc = .ok (.bastore, 1)) (hsh : xSH o = (11, N)) (ho : o < σ.1) (hin : xin i N = true)
    (kk : xV G l M K (pc + 1) lv rest (xsI σ o i.toNatClampNeg (vp_nar .byte x))) : xV G l M K pc lv (.int x :: .int i :: .ref (xad G o) :: rest) σ := by
  intro H locs ls cells slots hi hl
  obtain ⟨h1, h2, h3, h4, h5, hWF, hS⟩ := hi
  obtain ⟨hx, hb, hml, hown, hts, hlk, hr, hK, hF, hini⟩ := hC
  have hat : va_at G.1 vwCl (xad G o, .inl (G.2.1 1, N, .inl (σ.2.1 o))) H := by
    have := hWF.1 o _ (xws_get ho)
    rw [xent_arrI (t := 1) hsh (by decide) (by decide)] at this
    exact this
  refine W.bast hx hb hat ((hK.2 1 _ rfl).1 N (fun j => .int (σ.2.1 o j))) (fun q => by cases q) (by show ¬ (i < 0 ∨ (arrV _ _ _).slots.size ≤ _); rw [arrV_size]; exact xin_vp hin) rfl rfl hdg fun H1 e z oq => ?_
  refine kk H1 _ ls cells slots ⟨h1, h2, h3, h4, h5, xWF_put hWF rfl ho (fun j hj => xsI_ne j hj) ?_ z oq, hS.put z oq (by show G.2.2.1 ≤ xad G o; unfold xad; omega)⟩ hl
  rw [xent_arrI (t := 1) hsh (by decide) (by decide)]
  show H1[xad G o]? = some (vp_cell _ _)
  rw [e, vp_cell_i, vp_cell_i, arrV_store]
  congr 2
  funext q
  by_cases hq : q = i.toNatClampNeg
  · subst hq
    first | (simp [updV, xsI, xup, vp_nar]; done) | (simp [updV, xsI, xup, vp_nar]; rfl)
  · simp [updV, xsI, xup, hq]
theorem x_sast {G : xG} {l : Launch} {M : xMI} {K : xK} {pc : Nat} {lv : List (Nat × Value)} {rest : List Value} {σ : xMem} {o N : Nat} {i x : Int32} (hC : xCX G M K) (hdg : decode M.2.1 pc = .ok (.sastore, 1)) (hsh : xSH o = (12, N)) (ho : o < σ.1) (hin : xin i N = true)
    (kk : xV G l M K (pc + 1) lv rest (xsI σ o i.toNatClampNeg (vp_nar .short x))) : xV G l M K pc lv (.int x :: .int i :: .ref (xad G o) :: rest) σ := by
  intro H locs ls cells slots hi hl
  obtain ⟨h1, h2, h3, h4, h5, hWF, hS⟩ := hi
  obtain ⟨hx, hb, hml, hown, hts, hlk, hr, hK, hF, hini⟩ := hC
  have hat : va_at G.1 vwCl (xad G o, .inl (G.2.1 2, N, .inl (σ.2.1 o))) H := by
    have := hWF.1 o _ (xws_get ho)
    rw [xent_arrI (t := 2) hsh (by decide) (by decide)] at this
    exact this
  refine W.sast hx hb hat ((hK.2 2 _ rfl).1 N (fun j => .int (σ.2.1 o j))) (fun q => by cases q) (by show ¬ (i < 0 ∨ (arrV _ _ _).slots.size ≤ _); rw [arrV_size]; exact xin_vp hin) rfl rfl hdg fun H1 e z oq => ?_
  refine kk H1 _ ls cells slots ⟨h1, h2, h3, h4, h5, xWF_put hWF rfl ho (fun j hj => xsI_ne j hj) ?_ z oq, hS.put z oq (by show G.2.2.1 ≤ xad G o; unfold xad; omega)⟩ hl
  rw [xent_arrI (t := 2) hsh (by decide) (by decide)]
  show H1[xad G o]? = some (vp_cell _ _)
  rw [e, vp_cell_i, vp_cell_i, arrV_store]
  congr 2
  funext q
  by_cases hq : q = i.toNatClampNeg
  · subst hq
    first | (simp [updV, xsI, xup, vp_nar]; done) | (simp [updV, xsI, xup, vp_nar]; rfl)
  · simp [updV, xsI, xup, hq]
theorem x_zast {G : xG} {l : Launch} {M : xMI} {K : xK} {pc : Nat} {lv : List (Nat × Value)} {rest : List Value} {σ : xMem} {o N : Nat} {i x : Int32} (hC : xCX G M K) (hdg : decode M.2.1 pc = .ok (.bastore, 1)) (hsh : xSH o = (14, N)) (ho : o < σ.1) (hin : xin i N = true)
    (kk : xV G l M K (pc + 1) lv rest (xsI σ o i.toNatClampNeg (vp_nar .boolean x))) : xV G l M K pc lv (.int x :: .int i :: .ref (xad G o) :: rest) σ := by
  intro H locs ls cells slots hi hl
  obtain ⟨h1, h2, h3, h4, h5, hWF, hS⟩ := hi
  obtain ⟨hx, hb, hml, hown, hts, hlk, hr, hK, hF, hini⟩ := hC
  have hat : va_at G.1 vwCl (xad G o, .inl (G.2.1 4, N, .inl (σ.2.1 o))) H := by
    have := hWF.1 o _ (xws_get ho)
    rw [xent_arrI (t := 4) hsh (by decide) (by decide)] at this
    exact this
  refine W.zast hx hb hat ((hK.2 4 _ rfl).1 N (fun j => .int (σ.2.1 o j))) (fun q => by cases q) (by show ¬ (i < 0 ∨ (arrV _ _ _).slots.size ≤ _); rw [arrV_size]; exact xin_vp hin) rfl rfl hdg fun H1 e z oq => ?_
  refine kk H1 _ ls cells slots ⟨h1, h2, h3, h4, h5, xWF_put hWF rfl ho (fun j hj => xsI_ne j hj) ?_ z oq, hS.put z oq (by show G.2.2.1 ≤ xad G o; unfold xad; omega)⟩ hl
  rw [xent_arrI (t := 4) hsh (by decide) (by decide)]
  show H1[xad G o]? = some (vp_cell _ _)
  rw [e, vp_cell_i, vp_cell_i, arrV_store]
  congr 2
  funext q
  by_cases hq : q = i.toNatClampNeg
  · subst hq
    first | (simp [updV, xsI, xup, vp_nar]; done) | (simp [updV, xsI, xup, vp_nar]; rfl)
  · simp [updV, xsI, xup, hq]
theorem x_last {G : xG} {l : Launch} {M : xMI} {K : xK} {pc : Nat} {lv : List (Nat × Value)} {rest : List Value} {σ : xMem} {o N : Nat} {i : Int32} {x : Int64} (hC : xCX G M K) (hdg : decode M.2.1 pc = .ok (.lastore, 1)) (hsh : xSH o = (13, N)) (ho : o < σ.1) (hin : xin i N = true)
    (kk : xV G l M K (pc + 1) lv rest (xsL σ o i.toNatClampNeg x)) : xV G l M K pc lv (.long x :: .int i :: .ref (xad G o) :: rest) σ := by
  intro H locs ls cells slots hi hl
  obtain ⟨h1, h2, h3, h4, h5, hWF, hS⟩ := hi
  obtain ⟨hx, hb, hml, hown, hts, hlk, hr, hK, hF, hini⟩ := hC
  have hat : va_at G.1 vwCl (xad G o, .inl (G.2.1 3, N, .inr (.inl (σ.2.2.1 o)))) H := by
    have := hWF.1 o _ (xws_get ho)
    rw [xent_arrL hsh] at this
    exact this
  refine W.last hx hb hat ((hK.2 3 _ rfl).1 N (fun j => .long (σ.2.2.1 o j))) (fun q => by cases q) (by show ¬ (i < 0 ∨ (arrV _ _ _).slots.size ≤ _); rw [arrV_size]; exact xin_vp hin) rfl rfl hdg fun H1 e z oq => ?_
  refine kk H1 _ ls cells slots ⟨h1, h2, h3, h4, h5, xWF_put hWF rfl ho (fun j hj => xsL_ne j hj) ?_ z oq, hS.put z oq (by show G.2.2.1 ≤ xad G o; unfold xad; omega)⟩ hl
  rw [xent_arrL hsh]
  show H1[xad G o]? = some (vp_cell _ _)
  rw [e, vp_cell_l, vp_cell_l, arrV_store]
  congr 2
  funext q
  by_cases hq : q = i.toNatClampNeg
  · subst hq
    simp [updV, xsL, xup]
  · simp [updV, xsL, xup, hq]
theorem x_astq {G : xG} {l : Launch} {M : xMI} {K : xK} {pc : Nat} {lv : List (Nat × Value)} {rest : List Value} {σ : xMem} {o N q ci Nq : Nat} {i : Int32} (hC : xCX G M K) (hdg : decode M.2.1 pc = .ok (.aastore, 1)) (hsh : xSH o = (15, N)) (ho : o < σ.1) (hin : xin i N = true) (hshq : xSH q = (5, Nq)) (hq0 : q < σ.1)
    (kk : xV G l M K (pc + 1) lv rest (xsR σ o i.toNatClampNeg (some q))) : xV G l M K pc lv (.ref (xad G q) :: .int i :: .ref (xad G o) :: rest) σ := by
  intro H locs ls cells slots hi hl
  obtain ⟨h1, h2, h3, h4, h5, hWF, hS⟩ := hi
  obtain ⟨hx, hb, hml, hown, hts, hlk, hr, hK, hF, hini⟩ := hC
  have hat : va_at G.1 vwCl (xad G o, .inl (G.2.1 5, N, .inr (.inr (.inr (.inr (fun j => (σ.2.2.2 o j).map (xad G))))))) H := by
    have := hWF.1 o _ (xws_get ho)
    rw [xent_arrR hsh] at this
    exact this
  have hatq : va_at G.1 vwCl (xad G q, .inr (5, (List.range Nq).map (xfv G σ 5 q))) H := by
    have := hWF.1 q _ (xws_get hq0)
    rw [xent_obj hshq (by decide)] at this
    exact this
  have hlt : i.toNatClampNeg < N := Nat.not_le.mp fun z => (xin_vp hin) (Or.inr z)
  have h0 : ¬ i < 0 := fun z => (xin_vp hin) (Or.inl z)
  obtain ⟨r', hr', cellV, g1, g2, g3, -⟩ := hatq
  have hcls := (hK.1 5 (RX5, TX5, 5) rfl).2
  obtain ⟨kA, comp, k1, k2, k3, -⟩ := (hK.2 5 _ rfl).2
  have hcomp : comp = G.1.1 5 := Option.some.inj (k3.symm.trans hcls.1)
  subst hcomp
  obtain ⟨kC, hkC, -⟩ := hcls.2
  refine W.aast hx hb hat (fun q h => by cases h) (fun h => by cases h) k1 k2 rfl hkC ⟨h0, by show _ < (arrV _ _ _).slots.size; rw [arrV_size]; exact hlt⟩ g1 (fun q h => by rw [g3] at h; cases h) (by rw [g2]; exact hkC) (by rw [g2]; exact va_assign hcls) rfl rfl hdg fun H1 e z oq => ?_
  refine kk H1 _ ls cells slots ⟨h1, h2, h3, h4, h5, xWF_put hWF rfl ho (fun j hj => xsR_ne j hj) ?_ z oq, hS.put z oq (by show G.2.2.1 ≤ xad G o; unfold xad; omega)⟩ hl
  rw [xent_arrR hsh]
  show H1[xad G o]? = some (vp_cell _ _)
  rw [e, vp_cell_q, vp_cell_q, arrV_store]
  congr 2
  funext k
  by_cases hk : k = i.toNatClampNeg
  · subst hk
    simp [updV, xsR, xup, va_rf]
  · simp [updV, xsR, xup, hk]
theorem x_gets {G : xG} {l : Launch} {M : xMI} {K : xK} {pc : Nat} {lv : List (Nat × Value)} {rest : List Value} {σ : xMem} {idx j : Nat} {q : String × String × List Int32} (hC : xCX G M K) (hdg : decode M.2.1 pc = .ok (.getstatic idx, 3)) (hq : xST[j]? = some q) (hw : Cond.fieldLink M.2.2.2.2 idx q.1 q.2.1 "[I" ∈ xTbl)
    (kk : xV G l M K (pc + 3) lv (.ref (G.2.2.2 j) :: rest) σ) : xV G l M K pc lv rest σ := by
  intro H locs ls cells slots hi hl
  obtain ⟨hx, hb, hml, hown, hts, hlk, hr, hK, hF, hini⟩ := hC
  exact va_gets hx hb (hF.1 j q hq).1 hi.2.2.2.2.2.2 hown (hts _ hw) (fun _ h => h) hdg (kk H locs ls cells slots hi hl)
theorem x_tald {G : xG} {l : Launch} {M : xMI} {K : xK} {pc : Nat} {lv : List (Nat × Value)} {rest : List Value} {σ : xMem} {j N : Nat} {q : String × String × List Int32} {i v : Int32} (hC : xCX G M K) (hdg : decode M.2.1 pc = .ok (.iaload, 1)) (hq : xST[j]? = some q) (hN : q.2.2.length = N) (hin : xin i N = true) (hv : q.2.2.getD i.toNatClampNeg 0 = v)
    (kk : xV G l M K (pc + 1) lv (.int v :: rest) σ) : xV G l M K pc lv (.int i :: .ref (G.2.2.2 j) :: rest) σ := by
  intro H locs ls cells slots hi hl
  subst hN
  obtain ⟨hx, hb, hml, hown, hts, hlk, hr, hK, hF, hini⟩ := hC
  exact va_ti hx hb (hF.1 j q hq).2 hi.2.2.2.2.2.2 (xin_vp hin) (by rw [hv]) hdg (kk H locs ls cells slots hi hl)
theorem x_talen {G : xG} {l : Launch} {M : xMI} {K : xK} {pc : Nat} {lv : List (Nat × Value)} {rest : List Value} {σ : xMem} {j : Nat} {q : String × String × List Int32} {v : Int32} (hC : xCX G M K) (hdg : decode M.2.1 pc = .ok (.arraylength, 1)) (hq : xST[j]? = some q) (hv : Int32.ofNat q.2.2.length = v)
    (kk : xV G l M K (pc + 1) lv (.int v :: rest) σ) : xV G l M K pc lv (.ref (G.2.2.2 j) :: rest) σ := by
  intro H locs ls cells slots hi hl
  subst hv
  obtain ⟨hx, hb, hml, hown, hts, hlk, hr, hK, hF, hini⟩ := hC
  obtain ⟨cell, g1, g2, g3, g4, g5, g6, g7⟩ := (hF.1 j q hq).2
  have hS := hi.2.2.2.2.2.2
  have hc : H[G.2.2.2 j]? = some cell := by rw [hS.2.1 _ (Array.getElem?_eq_some_iff.mp g1).1 g7]; exact g1
  exact W.alen hx hb hc g2 g5 rfl rfl hdg (kk H locs ls cells slots hi hl)
theorem x_copyi {G : xG} {l : Launch} {M : xMI} {K : xK} {pc : Nat} {lv : List (Nat × Value)} {rest : List Value} {σ : xMem} {o o2 N N2 idx : Nat} {sp dp n : Int32} {d : Nat} (hC : xCX G M K) (hd : xRd K d) (hd1 : 1 ≤ d) (hdg : decode M.2.1 pc = .ok (.invokestatic idx, 3)) (hw : Cond.methodLink M.2.2.2.2 idx arraycopyName ∈ xTbl) (hsh : xSH o = (10, N)) (hsh2 : xSH o2 = (10, N2)) (ho : o < σ.1) (ho2 : o2 < σ.1) (hN : xNT ≤ σ.1)
    (h1 : ¬ sp < 0) (h2 : ¬ dp < 0) (h3 : ¬ n < 0) (h4 : sp.toNatClampNeg + n.toNatClampNeg ≤ N) (h5 : dp.toNatClampNeg + n.toNatClampNeg ≤ N2) (hst : (rest.map fun v => v.category).sum ≤ 8)
    (kk : xV G l M K (pc + 3) lv rest (xcI σ o sp.toNatClampNeg o2 dp.toNatClampNeg n.toNatClampNeg)) : xV G l M K pc lv (.int n :: .int dp :: .ref (xad G o2) :: .int sp :: .ref (xad G o) :: rest) σ := by
  intro H locs ls cells slots hi hl
  obtain ⟨g1, g2, g3, g4, g5, hWF, hS⟩ := hi
  obtain ⟨hx, hb, hml, hown, hts, hlk, hr, hK, hF, hini⟩ := hC
  have hrm : (rest.map fun v => v.category).sum + (nativeFrameWords "java/lang/System" "arraycopy" 5 + 11) ≤ (xKR K).locals := by
    have e := hd.2
    have e2 : nativeFrameWords "java/lang/System" "arraycopy" 5 + 11 ≤ 40 := by decide
    omega
  refine va_copyi (D := G.1) (ty := .int) hx hb (hml.trans hl.1.symm) hown (hts _ hw) (hts _ xw_native) (hts _ xw_static) (hts _ xw_system) hK hWF.1 xD hS o o2 0 0 (f := (σ.2.1 o)) (g := (σ.2.1 o2)) (by rw [xws_get ho, xent_arrI (t := 0) hsh (by decide) (by decide)]) (by rw [xws_get ho2, xent_arrI (t := 0) hsh2 (by decide) (by decide)]) rfl rfl rfl h1 h2 h3 h4 h5 (fun _ _ => rfl) (by have := hd.1; omega) hrm hdg (fun H1 locs1 hP1 hD1 hS1 => ?_)
  refine kk H1 locs1 ls cells slots ⟨g1, g2, g3, g4, g5, ⟨?_, fun z => absurd hN (Nat.not_le.mpr z)⟩, hS1⟩ hl
  rw [← xws_set (σ := σ) (τ := xcI σ o sp.toNatClampNeg o2 dp.toNatClampNeg n.toNatClampNeg) rfl ho2 (fun j hj => xcI_ne j hj), xent_arrI (t := 0) hsh2 (by decide) (by decide)]
  have e : (xcI σ o sp.toNatClampNeg o2 dp.toNatClampNeg n.toNatClampNeg).2.1 o2 = va_cpy (σ.2.1 o) (σ.2.1 o2) sp.toNatClampNeg dp.toNatClampNeg n.toNatClampNeg := by
    funext k
    simp [xcI, xcp]
  rw [e]
  exact hP1
theorem x_copyl {G : xG} {l : Launch} {M : xMI} {K : xK} {pc : Nat} {lv : List (Nat × Value)} {rest : List Value} {σ : xMem} {o o2 N N2 idx : Nat} {sp dp n : Int32} {d : Nat} (hC : xCX G M K) (hd : xRd K d) (hd1 : 1 ≤ d) (hdg : decode M.2.1 pc = .ok (.invokestatic idx, 3)) (hw : Cond.methodLink M.2.2.2.2 idx arraycopyName ∈ xTbl) (hsh : xSH o = (13, N)) (hsh2 : xSH o2 = (13, N2)) (ho : o < σ.1) (ho2 : o2 < σ.1) (hN : xNT ≤ σ.1)
    (h1 : ¬ sp < 0) (h2 : ¬ dp < 0) (h3 : ¬ n < 0) (h4 : sp.toNatClampNeg + n.toNatClampNeg ≤ N) (h5 : dp.toNatClampNeg + n.toNatClampNeg ≤ N2) (hst : (rest.map fun v => v.category).sum ≤ 8)
    (kk : xV G l M K (pc + 3) lv rest (xcL σ o sp.toNatClampNeg o2 dp.toNatClampNeg n.toNatClampNeg)) : xV G l M K pc lv (.int n :: .int dp :: .ref (xad G o2) :: .int sp :: .ref (xad G o) :: rest) σ := by
  intro H locs ls cells slots hi hl
  obtain ⟨g1, g2, g3, g4, g5, hWF, hS⟩ := hi
  obtain ⟨hx, hb, hml, hown, hts, hlk, hr, hK, hF, hini⟩ := hC
  have hrm : (rest.map fun v => v.category).sum + (nativeFrameWords "java/lang/System" "arraycopy" 5 + 11) ≤ (xKR K).locals := by
    have e := hd.2
    have e2 : nativeFrameWords "java/lang/System" "arraycopy" 5 + 11 ≤ 40 := by decide
    omega
  refine va_copyl (D := G.1) (ty := .long) hx hb (hml.trans hl.1.symm) hown (hts _ hw) (hts _ xw_native) (hts _ xw_static) (hts _ xw_system) hK hWF.1 xD hS o o2 3 3 (f := (σ.2.2.1 o)) (g := (σ.2.2.1 o2)) (by rw [xws_get ho, xent_arrL hsh]) (by rw [xws_get ho2, xent_arrL hsh2]) rfl rfl rfl h1 h2 h3 h4 h5 (fun _ _ => rfl) (by have := hd.1; omega) hrm hdg (fun H1 locs1 hP1 hD1 hS1 => ?_)
  refine kk H1 locs1 ls cells slots ⟨g1, g2, g3, g4, g5, ⟨?_, fun z => absurd hN (Nat.not_le.mpr z)⟩, hS1⟩ hl
  rw [← xws_set (σ := σ) (τ := xcL σ o sp.toNatClampNeg o2 dp.toNatClampNeg n.toNatClampNeg) rfl ho2 (fun j hj => xcL_ne j hj), xent_arrL hsh2]
  have e : (xcL σ o sp.toNatClampNeg o2 dp.toNatClampNeg n.toNatClampNeg).2.2.1 o2 = va_cpy (σ.2.2.1 o) (σ.2.2.1 o2) sp.toNatClampNeg dp.toNatClampNeg n.toNatClampNeg := by
    funext k
    simp [xcL, xcp]
  rw [e]
  exact hP1
/-- what a callee must be: its code, its class initialised, its kind -/
def xMc (M : xMI) (n : Nat) : Prop := Cond.code M.1 M.2.1 M.2.2.1 M.2.2.2.1 ∈ xTbl ∧ Cond.initialized M.1.cls ∈ xTbl ∧ (M.1.cls ≠ "java/lang/invoke/MethodHandle" ∧ M.1.cls ≠ "java/lang/invoke/VarHandle") ∧ (parseMethodDescriptor M.1.desc).map (fun d => d.parameters.length) = some n ∧ M.2.2.1 ≤ 29
def xMv (M : xMI) (n : Nat) : Prop := xMc M n ∧ Cond.instanceMethod M.1 ∈ xTbl ∧ Cond.selects M.1.cls M.1 M.1 ∈ xTbl
def xMs (M : xMI) (n : Nat) : Prop := xMc M n ∧ Cond.static M.1 ∈ xTbl
def xMi (M : xMI) (n : Nat) : Prop := xMc M n ∧ M.1.name = "<init>" ∧ Cond.instanceMethod M.1 ∈ xTbl ∧ M.2.2.2.1 = none
theorem xWs_good {M : xMI} {n : Nat} (h : xMc M n) : GoodIn xTbl (xWs M) := by
  intro w hw
  rcases List.mem_cons.mp hw with rfl | hw
  · exact xGood _ h.1
  · exact xGood _ hw
theorem xcallB {G : xG} {M M2 : xMI} {K : xK} {d d2 mc ms n idx : Nat} (hC : xCX G M K) (hd : xRd K d) (hm : xMc M2 n) (hlk : Cond.methodLink M.2.2.2.2 idx M2.1 ∈ xTbl) (hd2 : d2 + 1 ≤ d) : CallB (xKR K) (xKs K) (xKa K) M.2.2.2.2 idx M2.1 M2.2.1 M2.2.2.1 M2.2.2.2.1 (xWs M2) (xRm d2 mc ms) mc ms n := by
  have hts := hC.2.2.2.2.1
  obtain ⟨m1, m2, m3, m4, m5⟩ := hm
  refine ⟨rfl, rfl, ?_, ?_, pay_in hts (xWs_good ⟨m1, m2, m3, m4, m5⟩), List.mem_cons_self, hts _ m1, hts _ m2, m3, fun sig h => ?_, hts _ hlk⟩
  · show d2 + 1 ≤ (xKR K).frames
    have := hd.1
    omega
  · show 8 + (M2.2.2.1 + 11) + 48 * d2 ≤ (xKR K).locals
    have := hd.2
    omega
  · rw [h] at m4
    exact (Option.some.inj m4).symm
theorem xblind {G : xG} {av : List Value} {σ : xMem} : FrameBlind (va_Pc av (fun U => xWF G σ U.heap ∧ va_K G.1 vwCl (xTy G) U ∧ xSF G U U.heap)) := by
  intro a U g mk h
  obtain ⟨q0, q1, q2, q3⟩ := h
  exact ⟨q0, q1, va_K.moved (u := U) (U := U.calling g mk a) (Vm.Alike.refl U.vm) q2, xSF_same (u := U) (U := U.calling g mk a) rfl q3⟩
theorem xpre {G : xG} {M : xMI} {K : xK} {av : List Value} {σ : xMem} {H : Heap} {locs : List Loc} (hC : xCX G M K) (hWF : xWF G σ H) (hS : va_S (xA G) (xKs K).heap H locs) : ∀ U : State, U.heap = H → (xKs K).WarmedH U.vm → va_Pc av (fun U => xWF G σ U.heap ∧ va_K G.1 vwCl (xTy G) U ∧ xSF G U U.heap) av.toArray U := by
  intro U hU hW
  refine ⟨rfl, by rw [hU]; exact hWF, va_K.moved hW.alike hC.2.2.2.2.2.2.2.1, ?_⟩
  rw [hU]
  exact xSF_to hW hC.2.2.2.2.2.2.2.2.1 hS
theorem xafter {G : xG} {l : Launch} {M : xMI} {K : xK} {pc : Nat} {lv : List (Nat × Value)} {st rest : List Value} {σ τ : xMem} {r : Option Value} {av : Array Value} {H : Heap} {locs : List Loc} {ls : Array Slot} {cells slots : Nat} (hi : xI G K σ H locs cells slots) (hl : lv_has ls M.2.2.1 lv) (hle : σ.1 ≤ τ.1) (hsz : xSz σ.1 ≤ xSz τ.1) (hr1 : τ.1 ≤ xKn K + (xKR K).cells) (hr2 : xSz τ.1 ≤ xSz (xKn K) + (xKR K).slots)
    (run : va_Run (xKp K) l (xKe K) (xKR K) (xKs K) (xKm K) (xKa K) (xKb K) (xKme K) (xKc K) H locs cells slots (τ.1 - σ.1) (xSz τ.1 - xSz σ.1) (F0 (xKm K) pc ls st) rest (xQ G r τ av) (xA G))
    (kk : xV G l M K (pc + 3) lv (r.toList ++ rest) τ) : W (xKp K) l (xKe K) (xKR K) (xKs K) (xKm K) (xKa K) (xKb K) (xKme K) (xKc K) H locs cells slots (xKQ K) (F0 (xKm K) pc ls st) := by
  intro T hT X
  obtain ⟨v, st₀, t, T', L, h0, X', hL, e1, e2, ⟨hv, hwf, hF⟩, stp⟩ := run T hT X
  cases hv
  obtain ⟨g1, g2, g3, g4, g5, hWF, hS⟩ := hi
  have hS2 : va_S (xA G) (xKs K).heap T'.heap (locs ++ L) := by
    obtain ⟨f1, f2⟩ := hF
    rw [h0] at f1 f2
    refine ⟨Nat.le_trans hS.1 (by rw [e1]; exact f1), fun q z1 z2 => ?_, fun q hq => ?_⟩
    · rw [e1, f2 q (Nat.lt_of_lt_of_le z1 hS.1) z2]
      exact hS.2.1 q z1 z2
    · rcases List.mem_append.mp hq with h | h
      · exact hS.2.2 q h
      · exact hL q h
  obtain ⟨t2, a1, b1⟩ := kk T'.heap (locs ++ L) ls (cells + (τ.1 - σ.1)) (slots + (xSz τ.1 - xSz σ.1)) ⟨by omega, by omega, by omega, hr1, hr2, by rw [e1]; exact hwf, hS2⟩ hl T' rfl X'
  exact ⟨t2, stp t2 a1, b1⟩
theorem x_callVg {G : xG} {l : Launch} {M : xMI} {K : xK} {pc : Nat} {lv : List (Nat × Value)} {rest : List Value} {σ : xMem} {τ : xMem} {M2 : xMI} {d d2 n idx o ci N : Nat} {r : Option Value} {As : List Value} {q : vw_C} (hC : xCX G M K) (hd : xRd K d) (hdg : decode M.2.1 pc = .ok (.invokevirtual idx, 3)) (hm : xMv M2 n) (hlk : Cond.methodLink M.2.2.2.2 idx M2.1 ∈ xTbl) (hcon : xC G l M2 d2 (.ref (xad G o) :: As) σ r τ) (hd2 : d2 + 1 ≤ d)
    (hsh : xSH o = (ci, N)) (hci : ci < 10) (hq : vwCl[ci]? = some q) (hcl : M2.1.cls = q.1) (ho : o < σ.1) (hn : As.length = n) (hst : (rest.map fun v => v.category).sum ≤ 8) (hr1 : τ.1 ≤ xKn K + (xKR K).cells) (hr2 : xSz τ.1 ≤ xSz (xKn K) + (xKR K).slots)
    (kk : xV G l M K (pc + 3) lv (r.toList ++ rest) τ) : xV G l M K pc lv (As.reverse ++ .ref (xad G o) :: rest) σ := by
  intro H locs ls cells slots hi hl
  obtain ⟨hle, hsz, hMet⟩ := hcon
  have hts := hC.2.2.2.2.1
  have hWF := hi.2.2.2.2.2.1
  have hS := hi.2.2.2.2.2.2
  have hrecv := va_recv hC.2.2.2.2.2.2.2.1 hWF.1 hq (by rw [xws_get ho, xent_obj hsh hci])
  refine xafter hi hl hle hsz hr1 hr2 (va_runV (C := M2.1.cls) (As := As) (rest := rest) (Ts := xTbl) ⟨hC.1, hC.2.1, hC.2.2.1, hC.2.2.2.1, hts⟩ hMet ⟨xcallB hC hd hm.1 hlk hd2, hts _ hm.2.1, hts _ hm.2.2⟩ ⟨xblind, by rw [hcl]; exact hrecv, xpre hC hWF hS⟩ rfl hn hl.1 rfl (lv_room hst) hdg ⟨?_, ?_⟩) kk
  · have := hi.2.1; omega
  · have := hi.2.2.1; omega
theorem x_callSg {G : xG} {l : Launch} {M : xMI} {K : xK} {pc : Nat} {lv : List (Nat × Value)} {rest : List Value} {σ : xMem} {τ : xMem} {M2 : xMI} {d d2 n idx : Nat} {r : Option Value} {As : List Value} (hC : xCX G M K) (hd : xRd K d) (hdg : decode M.2.1 pc = .ok (.invokestatic idx, 3)) (hm : xMs M2 n) (hlk : Cond.methodLink M.2.2.2.2 idx M2.1 ∈ xTbl) (hcon : xC G l M2 d2 As σ r τ) (hd2 : d2 + 1 ≤ d)
    (hn : As.length = n) (hst : (rest.map fun v => v.category).sum ≤ 8) (hr1 : τ.1 ≤ xKn K + (xKR K).cells) (hr2 : xSz τ.1 ≤ xSz (xKn K) + (xKR K).slots)
    (kk : xV G l M K (pc + 3) lv (r.toList ++ rest) τ) : xV G l M K pc lv (As.reverse ++ rest) σ := by
  intro H locs ls cells slots hi hl
  obtain ⟨hle, hsz, hMet⟩ := hcon
  have hts := hC.2.2.2.2.1
  have hWF := hi.2.2.2.2.2.1
  have hS := hi.2.2.2.2.2.2
  refine xafter hi hl hle hsz hr1 hr2 (va_runS (As := As) (rest := rest) (Ts := xTbl) ⟨hC.1, hC.2.1, hC.2.2.1, hC.2.2.2.1, hts⟩ hMet ⟨xcallB hC hd hm.1 hlk hd2, hts _ hm.2⟩ ⟨xblind, xpre hC hWF hS⟩ rfl hn hl.1 rfl (lv_room hst) hdg ⟨?_, ?_⟩) kk
  · have := hi.2.1; omega
  · have := hi.2.2.1; omega
theorem x_callIg {G : xG} {l : Launch} {M : xMI} {K : xK} {pc : Nat} {lv : List (Nat × Value)} {rest : List Value} {σ : xMem} {τ : xMem} {M2 : xMI} {d d2 n idx o : Nat} {r : Option Value} {As : List Value} (hC : xCX G M K) (hd : xRd K d) (hdg : decode M.2.1 pc = .ok (.invokespecial idx, 3)) (hm : xMi M2 n) (hlk : Cond.methodLink M.2.2.2.2 idx M2.1 ∈ xTbl) (hcon : xC G l M2 d2 (.ref (xad G o) :: As) σ r τ) (hd2 : d2 + 1 ≤ d)
    (hn : As.length = n) (hst : (rest.map fun v => v.category).sum ≤ 8) (hr1 : τ.1 ≤ xKn K + (xKR K).cells) (hr2 : xSz τ.1 ≤ xSz (xKn K) + (xKR K).slots)
    (kk : xV G l M K (pc + 3) lv (r.toList ++ rest) τ) : xV G l M K pc lv (As.reverse ++ .ref (xad G o) :: rest) σ := by
  intro H locs ls cells slots hi hl
  obtain ⟨hle, hsz, hMet⟩ := hcon
  have hts := hC.2.2.2.2.1
  have hWF := hi.2.2.2.2.2.1
  have hS := hi.2.2.2.2.2.2
  have hB := xcallB (mc := τ.1 - σ.1) (ms := xSz τ.1 - xSz σ.1) hC hd hm.1 hlk hd2
  rw [hm.2.2.2] at hB
  refine xafter hi hl hle hsz hr1 hr2 (va_runI (As := As) (rest := rest) (Ts := xTbl) ⟨hC.1, hC.2.1, hC.2.2.1, hC.2.2.2.1, hts⟩ hMet ⟨hB, hm.2.1, hts _ hm.2.2.1⟩ ⟨xblind, xpre hC hWF hS⟩ rfl hn hl.1 rfl (lv_room hst) hdg ⟨?_, ?_⟩) kk
  · have := hi.2.1; omega
  · have := hi.2.2.1; omega
/-- a private constructor of a nest mate -/
theorem x_callIN {G : xG} {l : Launch} {M : xMI} {K : xK} {pc : Nat} {lv : List (Nat × Value)} {rest : List Value} {σ : xMem} {τ : xMem} {M2 : xMI} {d d2 n idx o : Nat} {r : Option Value} {As : List Value} (hC : xCX G M K) (hd : xRd K d) (hdg : decode M.2.1 pc = .ok (.invokespecial idx, 3)) (hm : xMi M2 n) (hown : M.2.2.2.2 = "DustCart") (hlk : (idx, M2.1) ∈ xNL) (hcon : xC G l M2 d2 (.ref (xad G o) :: As) σ r τ) (hd2 : d2 + 1 ≤ d)
    (hn : As.length = n) (hst : (rest.map fun v => v.category).sum ≤ 8) (hr1 : τ.1 ≤ xKn K + (xKR K).cells) (hr2 : xSz τ.1 ≤ xSz (xKn K) + (xKR K).slots)
    (kk : xV G l M K (pc + 3) lv (r.toList ++ rest) τ) : xV G l M K pc lv (As.reverse ++ .ref (xad G o) :: rest) σ := by
  intro H locs ls cells slots hi hl
  obtain ⟨hle, hsz, hMet⟩ := hcon
  have hts := hC.2.2.2.2.1
  have hWF := hi.2.2.2.2.2.1
  have hS := hi.2.2.2.2.2.2
  obtain ⟨⟨m1, m2, m3, m4, m5⟩, i1, i2, i3⟩ := hm
  have hcode := hts _ m1
  have hgood : GoodIn xTbl (xWs M2) := xWs_good ⟨m1, m2, m3, m4, m5⟩
  have hB : va_CN (xKR K) (xKs K) (xKa K) M.2.2.2.2 idx M2.1 "DustCart" M2.2.1 M2.2.2.1 M2.2.2.2.1 (xWs M2) (xRm d2 (τ.1 - σ.1) (xSz τ.1 - xSz σ.1)) (τ.1 - σ.1) (xSz τ.1 - xSz σ.1) n := by
    refine ⟨⟨rfl, rfl, ?_, ?_, pay_in hts hgood, List.mem_cons_self⟩, hcode, hts _ m2, m3, fun sig h => ?_, by rw [hown]; exact va_Nw.use rfl (hC.2.2.2.2.2.2.2.2.1.2.2 _ hlk)⟩
    · show d2 + 1 ≤ (xKR K).frames
      have := hd.1
      omega
    · show 8 + (M2.2.2.1 + 11) + 48 * d2 ≤ (xKR K).locals
      have := hd.2
      omega
    · rw [h] at m4
      exact (Option.some.inj m4).symm
  rw [i3] at hB
  refine xafter hi hl hle hsz hr1 hr2 (va_runIN (As := As) (rest := rest) (Ts := xTbl) ⟨hC.1, hC.2.1, hC.2.2.1, hC.2.2.2.1, hts⟩ hMet ⟨hB, i1, hts _ i2⟩ ⟨xblind, xpre hC hWF hS⟩ rfl hn hl.1 rfl (lv_room hst) hdg ⟨?_, ?_⟩) kk
  · have := hi.2.1; omega
  · have := hi.2.2.1; omega
theorem x_room {G : xG} {l : Launch} {M : xMI} {K : xK} {pc : Nat} {lv : List (Nat × Value)} {st : List Value} {σ : xMem} (k : σ.1 ≤ xKn K + (xKR K).cells → xSz σ.1 ≤ xSz (xKn K) + (xKR K).slots → xV G l M K pc lv st σ) : xV G l M K pc lv st σ :=
  fun H locs ls cells slots hi hl => k hi.2.2.2.1 hi.2.2.2.2.1 H locs ls cells slots hi hl
/-- calls that make nothing -/
theorem x_callV {G : xG} {l : Launch} {M : xMI} {K : xK} {pc : Nat} {lv : List (Nat × Value)} {rest : List Value} {σ : xMem} {τ : xMem} {M2 : xMI} {d d2 n idx o ci N : Nat} {r : Option Value} {As st rest2 : List Value} {q : vw_C} (hC : xCX G M K) (hd : xRd K d) (hdg : decode M.2.1 pc = .ok (.invokevirtual idx, 3)) (hm : xMv M2 n) (hlk : Cond.methodLink M.2.2.2.2 idx M2.1 ∈ xTbl) (hcon : xC G l M2 d2 (.ref (xad G o) :: As) σ r τ) (hd2 : d2 + 1 ≤ d)
    (hsh : xSH o = (ci, N)) (hci : ci < 10) (hq : vwCl[ci]? = some q) (hcl : M2.1.cls = q.1) (ho : o < σ.1) (hn : As.length = n) (hst : (rest.map fun v => v.category).sum ≤ 8) (hτ : τ.1 = σ.1) (e1 : As.reverse ++ .ref (xad G o) :: rest = st) (e2 : r.toList ++ rest = rest2)
    (kk : xV G l M K (pc + 3) lv rest2 τ) : xV G l M K pc lv st σ := by
  subst e1; subst e2
  exact x_room fun h1 h2 => x_callVg hC hd hdg hm hlk hcon hd2 hsh hci hq hcl ho hn hst (by rw [hτ]; exact h1) (by rw [hτ]; exact h2) kk
theorem x_callS {G : xG} {l : Launch} {M : xMI} {K : xK} {pc : Nat} {lv : List (Nat × Value)} {rest : List Value} {σ : xMem} {τ : xMem} {M2 : xMI} {d d2 n idx : Nat} {r : Option Value} {As st rest2 : List Value} (hC : xCX G M K) (hd : xRd K d) (hdg : decode M.2.1 pc = .ok (.invokestatic idx, 3)) (hm : xMs M2 n) (hlk : Cond.methodLink M.2.2.2.2 idx M2.1 ∈ xTbl) (hcon : xC G l M2 d2 As σ r τ) (hd2 : d2 + 1 ≤ d)
    (hn : As.length = n) (hst : (rest.map fun v => v.category).sum ≤ 8) (hτ : τ.1 = σ.1) (e1 : As.reverse ++ rest = st) (e2 : r.toList ++ rest = rest2)
    (kk : xV G l M K (pc + 3) lv rest2 τ) : xV G l M K pc lv st σ := by
  subst e1; subst e2
  exact x_room fun h1 h2 => x_callSg hC hd hdg hm hlk hcon hd2 hn hst (by rw [hτ]; exact h1) (by rw [hτ]; exact h2) kk
theorem x_objInit {G : xG} {l : Launch} {M : xMI} {K : xK} {pc : Nat} {lv : List (Nat × Value)} {rest : List Value} {σ : xMem} {idx o d : Nat} (hC : xCX G M K) (hd : xRd K d) (hd1 : 1 ≤ d) (hdg : decode M.2.1 pc = .ok (.invokespecial idx, 3)) (hlk : Cond.methodLink M.2.2.2.2 idx Lib.objectInit ∈ xTbl) (h2 : Cond.instanceMethod Lib.objectInit ∈ xTbl) (h3 : Cond.code Lib.objectInit ⟨#[0xb1]⟩ 1 none ∈ xTbl) (hst : (rest.map fun v => v.category).sum ≤ 8)
    (kk : xV G l M K (pc + 3) lv rest σ) : xV G l M K pc lv (.ref (xad G o) :: rest) σ := by
  intro H locs ls cells slots hi hl
  have hts := hC.2.2.2.2.1
  exact W.objInit hC.1 hC.2.1 hC.2.2.2.1 (hts _ hlk) (hts _ h2) (hts _ h3) rfl (by rw [hC.2.2.1]; exact hl.1) rfl hdg (by have := hd.1; omega) (by have := hd.2; show 2 * 0 + _ + 12 ≤ _; omega) (kk H locs ls cells slots hi hl)
theorem x_iret {G : xG} {l : Launch} {M : xMI} {K : xK} {pc : Nat} {lv : List (Nat × Value)} {rest : List Value} {σ : xMem} {v : Int32} (hC : xCX G M K) (hE : xE G K (some (.int v)) σ) (hr : M.2.2.2.1 = some .int) (hdg : decode M.2.1 pc = .ok (.ireturn, 1)) : xV G l M K pc lv [.int v] σ := by
  intro H locs ls cells slots hi hl
  obtain ⟨e1, e2, e3⟩ := hE
  obtain ⟨h1, h2, h3, h4, h5, hWF, hS⟩ := hi
  have hc : cells = (xKR K).cells := by omega
  have hs : slots = (xKR K).slots := by omega
  rw [e1, ← hc, ← hs]
  exact W.iret hC.1 hC.2.1 (hC.2.2.2.2.2.2.1.trans hr) (fun t ht hW => ⟨rfl, by rw [ht]; exact hWF, hS.F ht⟩) hS.2.2 hdg hC.2.2.2.2.2.1
theorem x_lret {G : xG} {l : Launch} {M : xMI} {K : xK} {pc : Nat} {lv : List (Nat × Value)} {rest : List Value} {σ : xMem} {v : Int64} (hC : xCX G M K) (hE : xE G K (some (.long v)) σ) (hr : M.2.2.2.1 = some .long) (hdg : decode M.2.1 pc = .ok (.lreturn, 1)) : xV G l M K pc lv [.long v] σ := by
  intro H locs ls cells slots hi hl
  obtain ⟨e1, e2, e3⟩ := hE
  obtain ⟨h1, h2, h3, h4, h5, hWF, hS⟩ := hi
  have hc : cells = (xKR K).cells := by omega
  have hs : slots = (xKR K).slots := by omega
  rw [e1, ← hc, ← hs]
  exact W.lret hC.1 hC.2.1 (hC.2.2.2.2.2.2.1.trans hr) (fun t ht hW => ⟨rfl, by rw [ht]; exact hWF, hS.F ht⟩) hS.2.2 hdg hC.2.2.2.2.2.1
def xb (b : Bool) : Int32 := if b then 1 else 0
theorem x_zret {G : xG} {l : Launch} {M : xMI} {K : xK} {pc : Nat} {lv : List (Nat × Value)} {rest : List Value} {σ : xMem} {b : Bool} {v : Int32} (hC : xCX G M K) (hE : xE G K (some (.int (xb b))) σ) (hr : M.2.2.2.1 = some .boolean) (hv : v = xb b) (hdg : decode M.2.1 pc = .ok (.ireturn, 1)) : xV G l M K pc lv [.int v] σ := by
  subst hv
  intro H locs ls cells slots hi hl
  obtain ⟨e1, e2, e3⟩ := hE
  obtain ⟨h1, h2, h3, h4, h5, hWF, hS⟩ := hi
  have hc : cells = (xKR K).cells := by omega
  have hs : slots = (xKR K).slots := by omega
  rw [e1, ← hc, ← hs]
  exact W.zret hC.1 hC.2.1 (hC.2.2.2.2.2.2.1.trans hr) (by cases b <;> rfl) (fun t ht hW => ⟨rfl, by rw [ht]; exact hWF, hS.F ht⟩) hS.2.2 hdg hC.2.2.2.2.2.1
theorem x_vret {G : xG} {l : Launch} {M : xMI} {K : xK} {pc : Nat} {lv : List (Nat × Value)} {rest : List Value} {σ : xMem} (hC : xCX G M K) (hE : xE G K none σ) (hr : M.2.2.2.1 = none) (hdg : decode M.2.1 pc = .ok (.return_, 1)) : xV G l M K pc lv [] σ := by
  intro H locs ls cells slots hi hl
  obtain ⟨e1, e2, e3⟩ := hE
  obtain ⟨h1, h2, h3, h4, h5, hWF, hS⟩ := hi
  have hc : cells = (xKR K).cells := by omega
  have hs : slots = (xKR K).slots := by omega
  rw [e1, ← hc, ← hs]
  exact W.vret hC.1 hC.2.1 (hC.2.2.2.2.2.2.1.trans hr) (fun t ht hW => ⟨rfl, by rw [ht]; exact hWF, hS.F ht⟩) hS.2.2 hdg hC.2.2.2.2.2.1
-- switches
def xTs (pc : Nat) (dflt lo hi : Int) (offs : Array Int) (x : Int) : Int := if x < lo ∨ hi < x then (pc : Int) + dflt else (pc : Int) + offs.getD (x - lo).toNat 0
theorem x_tsw {G : xG} {l : Launch} {M : xMI} {K : xK} {pc : Nat} {lv : List (Nat × Value)} {rest : List Value} {σ : xMem} {dflt lo hi : Int} {offs : Array Int} {len : Nat} {x : Int32} {tgt : Nat} (hC : xCX G M K) (hdg : decode M.2.1 pc = .ok (.tableswitch dflt lo hi offs, len)) (hs : (offs.size : Int) = hi - lo + 1) (ht : xTs pc dflt lo hi offs x.toInt = (tgt : Int))
    (kk : xV G l M K tgt lv rest σ) : xV G l M K pc lv (.int x :: rest) σ := by
  intro H locs ls cells slots hi' hl
  unfold xTs at ht
  by_cases hx : x.toInt < lo ∨ hi < x.toInt
  · rw [if_pos hx] at ht
    exact lv_tableOut hC.1 hC.2.1 hdg hx ht (kk H locs ls cells slots hi' hl)
  · rw [if_neg hx] at ht
    have h1 : ¬ x.toInt < lo := fun z => hx (Or.inl z)
    have h2 : ¬ hi < x.toInt := fun z => hx (Or.inr z)
    have hlt : (x.toInt - lo).toNat < offs.size := by omega
    have ho : offs[(x.toInt - lo).toNat]? = some (offs.getD (x.toInt - lo).toNat 0) := by
      rw [Array.getD_eq_getD_getElem?, Array.getElem?_eq_getElem hlt]
      rfl
    exact lv_tableIn hC.1 hC.2.1 hdg h1 h2 ho ht (kk H locs ls cells slots hi' hl)
theorem xTs_else {pc : Nat} {dflt lo hi : Int} {offs : Array Int} {x : Int} (cs : List Int) (hs : (offs.size : Int) = hi - lo + 1) (hall : ∀ i, i < offs.size → offs.getD i 0 = dflt ∨ (lo + i) ∈ cs) (hx : ∀ c ∈ cs, x ≠ c) : xTs pc dflt lo hi offs x = (pc : Int) + dflt := by
  unfold xTs
  by_cases h : x < lo ∨ hi < x
  · rw [if_pos h]
  · rw [if_neg h]
    have hlt : (x - lo).toNat < offs.size := by omega
    rcases hall _ hlt with h1 | h1
    · rw [h1]
    · exact absurd rfl (hx x (by have e : lo + ((x - lo).toNat : Int) = x := by omega
                                 rw [e] at h1; exact h1))
theorem x_lsw {G : xG} {l : Launch} {M : xMI} {K : xK} {pc : Nat} {lv : List (Nat × Value)} {rest : List Value} {σ : xMem} {dflt off : Int} {ps : Array (Int × Int)} {len : Nat} {x : Int32} {tgt : Nat} (hC : xCX G M K) (hdg : decode M.2.1 pc = .ok (.lookupswitch dflt ps, len)) (hp : (ps.toList.zip (ps.toList.drop 1)).all (fun (a, next) => a.1 < next.1) = true) (ho : Op.lookupswitch.offset ps.toList dflt x.toInt = off) (ht : (pc : Int) + off = (tgt : Int))
    (kk : xV G l M K tgt lv rest σ) : xV G l M K pc lv (.int x :: rest) σ := by
  intro H locs ls cells slots hi' hl
  exact lv_lookup hC.1 hC.2.1 hdg hp ho ht (kk H locs ls cells slots hi' hl)
theorem xls_else {d x : Int} : ∀ (ps : List (Int × Int)), (∀ q ∈ ps, x ≠ q.1) → Op.lookupswitch.offset ps d x = d
  | [], _ => rfl
  | (a, o) :: r, h => by
    rw [Op.lookupswitch.offset_cons, if_neg (fun z => h (a, o) List.mem_cons_self z.symm)]
    exact xls_else r (fun q hq => h q (List.mem_cons_of_mem _ hq))
-- what is made
theorem xnw_ne {G : xG} {σ : xMem} {k : Nat} (h : k < σ.1) : xent G (xnw σ) k = xent G σ k := by
  have hk : k ≠ σ.1 := by omega
  have h1 : (xnw σ).2.1 k = σ.2.1 k := by funext j; simp [xnw, xbl, hk]
  have h2 : (xnw σ).2.2.1 k = σ.2.2.1 k := by funext j; simp [xnw, xbl, hk]
  have h3 : (xnw σ).2.2.2 k = σ.2.2.2 k := by funext j; simp [xnw, xbl, hk]
  have h4 : xfv G (xnw σ) (xSH k).1 k = xfv G σ (xSH k).1 k := by
    funext j
    simp [xfv, h1, h2, h3]
  simp [xent, h1, h2, h3, h4]
theorem xS_app {G : xG} {K : xK} {H H1 : Heap} {locs : List Loc} (hS : va_S (xA G) (xKs K).heap H locs) (z : H1.size = H.size + 1) (o1 : ∀ q, q < H.size → H1[q]? = H[q]?) : va_S (xA G) (xKs K).heap H1 locs :=
  ⟨Nat.le_trans hS.1 (by omega), fun x h1 h2 => (o1 x (Nat.lt_of_lt_of_le h1 hS.1)).trans (hS.2.1 x h1 h2), hS.2.2⟩
theorem xWF_app {G : xG} {σ : xMem} {H H1 : Heap} (hWF : xWF G σ H) (hz : H.size = xad G σ.1) (z : H1.size = H.size + 1) (o1 : ∀ q, q < H.size → H1[q]? = H[q]?) (hat : va_at G.1 vwCl (xad G σ.1, xent G (xnw σ) σ.1) H1) : xWF G (xnw σ) H1 := by
  refine ⟨?_, fun _ => by show H1.size = G.2.2.1 + (σ.1 + 1); rw [z, hz]; unfold xad; omega⟩
  rw [← xws_app (σ := σ) rfl (fun k hk => xnw_ne hk)]
  refine va_P.app (hWF.1.kept fun k x hx => o1 x.1 ((hWF.1 k x hx).lt)) (fun k x hx => ?_)
  have hk : k < 1 := (List.getElem?_eq_some_iff.mp hx).1
  rw [show k = 0 by omega] at hx
  cases hx
  exact hat
theorem x_new {G : xG} {l : Launch} {M : xMI} {K : xK} {pc : Nat} {lv : List (Nat × Value)} {rest : List Value} {σ : xMem} {idx ci : Nat} {q : vw_C} (hC : xCX G M K) (hdg : decode M.2.1 pc = .ok (.new idx, 3)) (hci : ci < 10) (hq : vwCl[ci]? = some q) (hsh : xSH σ.1 = (ci, q.2.2)) (hcl : Cond.classLink M.2.2.2.2 idx q.1 ∈ xTbl) (hins : Cond.instantiable q.1 q.2.2 ∈ xTbl) (hin : Cond.initialized q.1 ∈ xTbl)
    (hnt : σ.1 < xNT) (hr1 : σ.1 + 1 ≤ xKn K + (xKR K).cells) (hr2 : xSz (σ.1 + 1) ≤ xSz (xKn K) + (xKR K).slots) (kk : xV G l M K (pc + 3) lv (.ref (xad G σ.1) :: rest) (xnw σ)) : xV G l M K pc lv rest σ := by
  intro H locs ls cells slots hi hl
  obtain ⟨h1, h2, h3, h4, h5, hWF, hS⟩ := hi
  obtain ⟨hx, hb, hml, hown, hts, hlk, hr, hK, hF, hini⟩ := hC
  have hz : H.size = xad G σ.1 := hWF.2 hnt
  obtain ⟨hcin, hnm, ty, hpd, htb⟩ := xcls_ok ci q hq
  have hKn := hK.1 ci q hq
  have hsz : xSz (σ.1 + 1) = xSz σ.1 + q.2.2 := by show xSz σ.1 + (xSH σ.1).2 = _; rw [hsh]
  refine W.newcK hx hb hown (hts _ hcl) (hts _ hins) (hts _ hin) rfl hdg (by omega) (by omega) hKn.2.1 hz fun H1 kC hkC e1 z1 o1 => ?_
  refine kk H1 locs ls (cells + 1) (slots + q.2.2) ⟨by show _ ≤ σ.1 + 1; omega, by show _ = σ.1 + 1; omega, by show _ = xSz (σ.1 + 1); omega, hr1, hr2, xWF_app hWF hz (by omega) (by rw [hz]; exact o1) ?_, xS_app hS (by omega) (by rw [hz]; exact o1)⟩ hl
  rw [xent_obj hsh hci]
  refine ⟨q, hq, (u_born ty hts hcin hKn hkC e1 hpd).to fun j hj => ?_⟩
  have hb := htb j hj
  show defaultValue (ty j) = ((List.range q.2.2).map (xfv G (xnw σ) ci σ.1)).getD j .null
  rw [List.getD_eq_getElem?_getD, List.getElem?_map, List.getElem?_range hj]
  show defaultValue (ty j) = xfv G (xnw σ) ci σ.1 j
  have z1 : (xnw σ).2.1 σ.1 j = 0 := by simp [xnw, xbl]
  have z2 : (xnw σ).2.2.1 σ.1 j = 0 := by simp [xnw, xbl]
  have z3 : (xnw σ).2.2.2 σ.1 j = none := by simp [xnw, xbl]
  have hc : xft ci j = 0 ∨ xft ci j = 1 ∨ xft ci j = 2 ∨ xft ci j = 3 := by
    generalize xft ci j = c at hb
    match c, hb with
    | 0, _ => simp
    | 1, _ => simp
    | 2, _ => simp
    | 3, _ => simp
    | c + 4, hb => cases ty j <;> cases hb
  rcases hc with hc | hc | hc | hc <;> rw [hc] at hb
  · rw [xTyB_0 hb]; simp [xfv, hc, z1, defaultValue]
  · rw [xTyB_1 hb]; simp [xfv, hc, z2, defaultValue]
  · have hd : defaultValue (ty j) = .null := by cases h : ty j <;> rw [h] at hb <;> first | rfl | cases hb
    rw [hd]; simp [xfv, hc, z3, va_rf]
  · rw [xTyB_3 hb]; simp [xfv, hc, z1, defaultValue]
theorem x_newa {G : xG} {l : Launch} {M : xMI} {K : xK} {pc : Nat} {lv : List (Nat × Value)} {rest : List Value} {σ : xMem} {t N : Nat} {atype : ArrayType} {ty : FieldType} {n : Int32} (hC : xCX G M K) (hdg : decode M.2.1 pc = .ok (.newarray atype, 2)) (hty : newarray.typeOf atype = ty) (htt : (xTy G)[t]? = some (G.2.1 t, ty)) (hRA : va_RA (xKs K) (G.2.1 t) ty → (xKs K).vm.findClass ("[" ++ ty.toString) = some (G.2.1 t)) (hsh : xSH σ.1 = (10 + t, N)) (harr : Cond.arrayClass ty ∈ xTbl)
    (hn : n = Int32.ofNat N) (hN : N < 1000) (hb8 : componentBytes ty ≤ 8) (hent : ∀ cA, vp_cell cA (N, if t = 3 then .inr (.inl (fun _ => 0)) else .inl (fun _ => 0)) = arrV cA N (fun _ => defaultValue ty)) (ht5 : t < 5)
    (hnt : σ.1 < xNT) (hr1 : σ.1 + 1 ≤ xKn K + (xKR K).cells) (hr2 : xSz (σ.1 + 1) ≤ xSz (xKn K) + (xKR K).slots) (kk : xV G l M K (pc + 2) lv (.ref (xad G σ.1) :: rest) (xnw σ)) : xV G l M K pc lv (.int n :: rest) σ := by
  intro H locs ls cells slots hi hl
  obtain ⟨h1, h2, h3, h4, h5, hWF, hS⟩ := hi
  obtain ⟨hx, hb, hml, hown, hts, hlk, hr, hK, hF, hini⟩ := hC
  have hz : H.size = xad G σ.1 := hWF.2 hnt
  have hsz : xSz (σ.1 + 1) = xSz σ.1 + N := by show xSz σ.1 + (xSH σ.1).2 = _; rw [hsh]
  have hNI : n.toNatClampNeg = N := by rw [hn]; exact nI_clamp (by omega)
  subst hty
  refine va_newaK hx hb (hts _ harr) rfl hdg rfl (by rw [hn]; exact nI_pos (by omega)) hNI (by have := Nat.mul_le_mul (Nat.le_of_lt hN) hb8; omega) (by omega) (by omega) hz fun H1 cA e1 z1 o1 hAr hNm => ?_
  have hcA : cA = G.2.1 t := by
    have := hRA (hK.2 t _ htt).2
    rw [hNm] at this
    exact Option.some.inj this
  subst hcA
  refine kk H1 locs ls (cells + 1) (slots + N) ⟨by show _ ≤ σ.1 + 1; omega, by show _ = σ.1 + 1; omega, by show _ = xSz (σ.1 + 1); omega, hr1, hr2, xWF_app hWF hz (by omega) (by rw [hz]; exact o1) ?_, xS_app hS (by omega) (by rw [hz]; exact o1)⟩ hl
  by_cases h3 : t = 3
  · subst h3
    rw [xent_arrL hsh]
    show H1[xad G σ.1]? = some (vp_cell _ _)
    have := hent (G.2.1 3)
    rw [if_pos rfl] at this
    rw [e1, ← this]
    have e : (xnw σ).2.2.1 σ.1 = fun _ => 0 := by funext j; simp [xnw, xbl]
    rw [e]
  · rw [xent_arrI (t := t) hsh h3 (by omega)]
    show H1[xad G σ.1]? = some (vp_cell _ _)
    have := hent (G.2.1 t)
    rw [if_neg h3] at this
    rw [e1, ← this]
    have e : (xnw σ).2.1 σ.1 = fun _ => 0 := by funext j; simp [xnw, xbl]
    rw [e]
theorem x_newq {G : xG} {l : Launch} {M : xMI} {K : xK} {pc : Nat} {lv : List (Nat × Value)} {rest : List Value} {σ : xMem} {N idx : Nat} {n : Int32} (hC : xCX G M K) (hdg : decode M.2.1 pc = .ok (.anewarray idx, 3)) (hcl : Cond.classLink M.2.2.2.2 idx "DustCart$Shelf" ∈ xTbl) (hsh : xSH σ.1 = (15, N)) (hn : n = Int32.ofNat N) (hN : N < 1000)
    (hnt : σ.1 < xNT) (hr1 : σ.1 + 1 ≤ xKn K + (xKR K).cells) (hr2 : xSz (σ.1 + 1) ≤ xSz (xKn K) + (xKR K).slots) (kk : xV G l M K (pc + 3) lv (.ref (xad G σ.1) :: rest) (xnw σ)) : xV G l M K pc lv (.int n :: rest) σ := by
  intro H locs ls cells slots hi hl
  obtain ⟨h1, h2, h3, h4, h5, hWF, hS⟩ := hi
  obtain ⟨hx, hb, hml, hown, hts, hlk, hr, hK, hF, hini⟩ := hC
  have hz : H.size = xad G σ.1 := hWF.2 hnt
  have hsz : xSz (σ.1 + 1) = xSz σ.1 + N := by show xSz σ.1 + (xSH σ.1).2 = _; rw [hsh]
  have hNI : n.toNatClampNeg = N := by rw [hn]; exact nI_clamp (by omega)
  refine W.anew hx hb hown (hts _ hcl) (va_AO.use hF.2.1) rfl hdg rfl (by rw [hn]; exact nI_pos (by omega)) (by rw [hNI]; omega) (by omega) (by rw [hNI]; omega) fun cA kA comp f1 f2 f3 f4 => ?_
  rw [hNI]
  generalize hH1 : H.push ({ cls := cA, slots := Array.replicate N .null, vm := .none } : Cell) = H1
  have z1 : H1.size = H.size + 1 := by rw [← hH1, Array.size_push]
  have e1 : H1[H.size]? = some (arrV cA N (fun _ => .null)) := by rw [← hH1, Array.getElem?_push_size, ← arrV_new]
  have o1 : ∀ q : Nat, q < H.size → H1[q]? = H[q]? := fun q hq => by rw [← hH1, Array.getElem?_push, if_neg (Nat.ne_of_lt hq)]
  obtain ⟨kA2, comp2, k1, k2, k3, k4⟩ := (hK.2 5 _ rfl).2
  have hcA : cA = G.2.1 5 := Option.some.inj (f1.symm.trans k4)
  subst hcA
  rw [show H.size = xad G σ.1 from hz]
  refine kk H1 locs ls (cells + 1) (slots + N) ⟨by show _ ≤ σ.1 + 1; omega, by show _ = σ.1 + 1; omega, by show _ = xSz (σ.1 + 1); omega, hr1, hr2, xWF_app hWF hz z1 o1 ?_, xS_app hS z1 o1⟩ hl
  rw [xent_arrR hsh]
  show H1[xad G σ.1]? = some (vp_cell _ _)
  rw [← hz, e1, vp_cell_q]
  congr 2
  funext j
  simp [xnw, xbl, va_rf]
