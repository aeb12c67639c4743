/-! rows: constants, locals, arithmetic, branches, returns -/
section JR2
variable {α : Type} {X : jx} {M : jm} {b0 : Nat × Nat} {en : α → jr} {pc : Nat} {L : List (Option Value)} {S : List Value} {h : jh} {o o1 o2 : Option (α × jh)}
theorem jv_bipush {n : Int} {v : Int32} (hd : decode M.2.1 pc = .ok (.bipush n, 2)) (hv : (Int8.ofInt n).toInt32 = v) (k : jv_O X M b0 en (pc + 2) L (.int v :: S) h o) : jv_O X M b0 en pc L S h o :=
  jv_go (fun _ _ _ _ _ _ _ _ _ _ _ _ _ _ ls hC hL hn _ kk => lv_bipush hC.1 hC.2.1 hd hv (kk ls hL hn)) k
theorem jv_sipush {n : Int} {v : Int32} (hd : decode M.2.1 pc = .ok (.sipush n, 3)) (hv : (Int16.ofInt n).toInt32 = v) (k : jv_O X M b0 en (pc + 3) L (.int v :: S) h o) : jv_O X M b0 en pc L S h o :=
  jv_go (fun _ _ _ _ _ _ _ _ _ _ _ _ _ _ ls hC hL hn _ kk => lv_sipush hC.1 hC.2.1 hd hv (kk ls hL hn)) k
theorem jv_iload {i : Nat} {x : Int32} (hd : decode M.2.1 pc = .ok (.iload i, 2)) (hl : L[i]? = some (some (.int x))) (k : jv_O X M b0 en (pc + 2) L (.int x :: S) h o) : jv_O X M b0 en pc L S h o :=
  jv_go (fun _ _ _ _ _ _ _ _ _ _ _ _ _ _ ls hC hL hn _ kk => lv_iload hC.1 hC.2.1 hd (hL.2.2 _ _ hl).2 (kk ls hL hn)) k
theorem jv_aload_n {q : Fin 4} {i : Nat} {v : Value} (hd : decode M.2.1 pc = .ok (.aload_n q, 1)) (hi : (q : Nat) = i) (hl : L[i]? = some (some v)) (hv : v = .null ∨ ∃ a, v = .ref a) (k : jv_O X M b0 en (pc + 1) L (v :: S) h o) : jv_O X M b0 en pc L S h o := by
  rcases hv with rfl | ⟨a, rfl⟩
  · exact jv_go (fun _ _ _ _ _ _ _ _ _ _ _ _ _ _ ls hC hL hn _ kk => lv_aload_nN hC.1 hC.2.1 hd hi (hL.2.2 _ _ hl).2 (kk ls hL hn)) k
  · exact jv_go (fun _ _ _ _ _ _ _ _ _ _ _ _ _ _ ls hC hL hn _ kk => lv_aload_n hC.1 hC.2.1 hd hi (hL.2.2 _ _ hl).2 (kk ls hL hn)) k
theorem jv_aload {i : Nat} {v : Value} (hd : decode M.2.1 pc = .ok (.aload i, 2)) (hl : L[i]? = some (some v)) (hv : v = .null ∨ ∃ a, v = .ref a) (k : jv_O X M b0 en (pc + 2) L (v :: S) h o) : jv_O X M b0 en pc L S h o := by
  rcases hv with rfl | ⟨a, rfl⟩
  · exact jv_go (fun _ _ _ _ _ _ _ _ _ _ _ _ _ _ ls hC hL hn _ kk => lv_aloadN hC.1 hC.2.1 hd (hL.2.2 _ _ hl).2 (kk ls hL hn)) k
  · exact jv_go (fun _ _ _ _ _ _ _ _ _ _ _ _ _ _ ls hC hL hn _ kk => lv_aload hC.1 hC.2.1 hd (hL.2.2 _ _ hl).2 (kk ls hL hn)) k
theorem jv_istore_n {q : Fin 4} {i : Nat} {x : Int32} {L' : List (Option Value)} (hd : decode M.2.1 pc = .ok (.istore_n q, 1)) (hi : (q : Nat) = i) (hi2 : i < L.length) (hl : L.set i (some (.int x)) = L') (k : jv_O X M b0 en (pc + 1) L' S h o) : jv_O X M b0 en pc L (.int x :: S) h o := by
  subst hl
  exact jv_go (fun _ _ _ _ _ _ _ _ _ _ _ _ _ _ ls hC hL hn _ kk => lv_istore_n hC.1 hC.2.1 hd hi hL.has hi2 rfl (fun ls' hq => kk ls' (hL.st hi2 rfl hq) (by rw [List.length_set]; exact hn))) k
theorem jv_istore {i : Nat} {x : Int32} {L' : List (Option Value)} (hd : decode M.2.1 pc = .ok (.istore i, 2)) (hi2 : i < L.length) (hl : L.set i (some (.int x)) = L') (k : jv_O X M b0 en (pc + 2) L' S h o) : jv_O X M b0 en pc L (.int x :: S) h o := by
  subst hl
  exact jv_go (fun _ _ _ _ _ _ _ _ _ _ _ _ _ _ ls hC hL hn _ kk => lv_istore hC.1 hC.2.1 hd hL.has hi2 rfl (fun ls' hq => kk ls' (hL.st hi2 rfl hq) (by rw [List.length_set]; exact hn))) k
theorem jv_astore_n {q : Fin 4} {i : Nat} {v : Value} {L' : List (Option Value)} (hd : decode M.2.1 pc = .ok (.astore_n q, 1)) (hi : (q : Nat) = i) (hi2 : i < L.length) (hv : v = .null ∨ ∃ a, v = .ref a) (hl : L.set i (some v) = L') (k : jv_O X M b0 en (pc + 1) L' S h o) : jv_O X M b0 en pc L (v :: S) h o := by
  subst hl
  rcases hv with rfl | ⟨a, rfl⟩
  · exact jv_go (fun _ _ _ _ _ _ _ _ _ _ _ _ _ _ ls hC hL hn _ kk => lv_astore_nN hC.1 hC.2.1 hd hi hL.has hi2 rfl (fun ls' hq => kk ls' (hL.st hi2 rfl hq) (by rw [List.length_set]; exact hn))) k
  · exact jv_go (fun _ _ _ _ _ _ _ _ _ _ _ _ _ _ ls hC hL hn _ kk => lv_astore_n hC.1 hC.2.1 hd hi hL.has hi2 rfl (fun ls' hq => kk ls' (hL.st hi2 rfl hq) (by rw [List.length_set]; exact hn))) k
theorem jv_astore {i : Nat} {v : Value} {L' : List (Option Value)} (hd : decode M.2.1 pc = .ok (.astore i, 2)) (hi2 : i < L.length) (hv : v = .null ∨ ∃ a, v = .ref a) (hl : L.set i (some v) = L') (k : jv_O X M b0 en (pc + 2) L' S h o) : jv_O X M b0 en pc L (v :: S) h o := by
  subst hl
  rcases hv with rfl | ⟨a, rfl⟩
  · exact jv_go (fun _ _ _ _ _ _ _ _ _ _ _ _ _ _ ls hC hL hn _ kk => lv_astoreN hC.1 hC.2.1 hd hL.has hi2 rfl (fun ls' hq => kk ls' (hL.st hi2 rfl hq) (by rw [List.length_set]; exact hn))) k
  · exact jv_go (fun _ _ _ _ _ _ _ _ _ _ _ _ _ _ ls hC hL hn _ kk => lv_astore hC.1 hC.2.1 hd hL.has hi2 rfl (fun ls' hq => kk ls' (hL.st hi2 rfl hq) (by rw [List.length_set]; exact hn))) k
theorem jv_iinc {i : Nat} {n : Int} {x v : Int32} {L' : List (Option Value)} (hd : decode M.2.1 pc = .ok (.iinc i n, 3)) (hx : L[i]? = some (some (.int x))) (hv : Int32.ofInt n = v) (hl : L.set i (some (.int (x + v))) = L') (k : jv_O X M b0 en (pc + 3) L' S h o) : jv_O X M b0 en pc L S h o := by
  subst hl; subst hv
  have hi2 : i < L.length := (List.getElem?_eq_some_iff.mp hx).1
  obtain ⟨j, hj⟩ := List.getElem?_of_mem ((jv_ps_mem (q := (i, .int x))).mpr hx)
  exact jv_go (fun _ _ _ _ _ _ _ _ _ _ _ _ _ _ ls hC hL hn _ kk => lv_iinc hC.1 hC.2.1 hd hL.has hj rfl hi2 rfl (fun ls' hq => kk ls' (hL.st hi2 rfl hq) (by rw [List.length_set]; exact hn))) k
theorem jv_iadd {x y : Int32} (hd : decode M.2.1 pc = .ok (.iadd, 1)) (k : jv_O X M b0 en (pc + 1) L (.int (x + y) :: S) h o) : jv_O X M b0 en pc L (.int y :: .int x :: S) h o :=
  jv_go (fun _ _ _ _ _ _ _ _ _ _ _ _ _ _ ls hC hL hn _ kk => lv_iadd hC.1 hC.2.1 hd (kk ls hL hn)) k
theorem jv_isub {x y : Int32} (hd : decode M.2.1 pc = .ok (.isub, 1)) (k : jv_O X M b0 en (pc + 1) L (.int (x - y) :: S) h o) : jv_O X M b0 en pc L (.int y :: .int x :: S) h o :=
  jv_go (fun _ _ _ _ _ _ _ _ _ _ _ _ _ _ ls hC hL hn _ kk => lv_isub hC.1 hC.2.1 hd (kk ls hL hn)) k
theorem jv_imul {x y : Int32} (hd : decode M.2.1 pc = .ok (.imul, 1)) (k : jv_O X M b0 en (pc + 1) L (.int (x * y) :: S) h o) : jv_O X M b0 en pc L (.int y :: .int x :: S) h o :=
  jv_go (fun _ _ _ _ _ _ _ _ _ _ _ _ _ _ ls hC hL hn _ kk => lv_imul hC.1 hC.2.1 hd (kk ls hL hn)) k
theorem jv_iand {x y : Int32} (hd : decode M.2.1 pc = .ok (.iand, 1)) (k : jv_O X M b0 en (pc + 1) L (.int (x &&& y) :: S) h o) : jv_O X M b0 en pc L (.int y :: .int x :: S) h o :=
  jv_go (fun _ _ _ _ _ _ _ _ _ _ _ _ _ _ ls hC hL hn _ kk => lv_iand hC.1 hC.2.1 hd (kk ls hL hn)) k
theorem jv_ior {x y : Int32} (hd : decode M.2.1 pc = .ok (.ior, 1)) (k : jv_O X M b0 en (pc + 1) L (.int (x ||| y) :: S) h o) : jv_O X M b0 en pc L (.int y :: .int x :: S) h o :=
  jv_go (fun _ _ _ _ _ _ _ _ _ _ _ _ _ _ ls hC hL hn _ kk => lv_ior hC.1 hC.2.1 hd (kk ls hL hn)) k
theorem jv_ixor {x y : Int32} (hd : decode M.2.1 pc = .ok (.ixor, 1)) (k : jv_O X M b0 en (pc + 1) L (.int (x ^^^ y) :: S) h o) : jv_O X M b0 en pc L (.int y :: .int x :: S) h o :=
  jv_go (fun _ _ _ _ _ _ _ _ _ _ _ _ _ _ ls hC hL hn _ kk => lv_ixor hC.1 hC.2.1 hd (kk ls hL hn)) k
theorem jv_ishl {x y : Int32} (hd : decode M.2.1 pc = .ok (.ishl, 1)) (k : jv_O X M b0 en (pc + 1) L (.int (x <<< (y &&& 31)) :: S) h o) : jv_O X M b0 en pc L (.int y :: .int x :: S) h o :=
  jv_go (fun _ _ _ _ _ _ _ _ _ _ _ _ _ _ ls hC hL hn _ kk => lv_ishl hC.1 hC.2.1 hd (kk ls hL hn)) k
theorem jv_ishr {x y : Int32} (hd : decode M.2.1 pc = .ok (.ishr, 1)) (k : jv_O X M b0 en (pc + 1) L (.int (x >>> (y &&& 31)) :: S) h o) : jv_O X M b0 en pc L (.int y :: .int x :: S) h o :=
  jv_go (fun _ _ _ _ _ _ _ _ _ _ _ _ _ _ ls hC hL hn _ kk => lv_ishr hC.1 hC.2.1 hd (kk ls hL hn)) k
theorem jv_iushr {x y : Int32} (hd : decode M.2.1 pc = .ok (.iushr, 1)) (k : jv_O X M b0 en (pc + 1) L (.int ((x.toUInt32 >>> (y.toUInt32 &&& Int32.toUInt32 31)).toInt32) :: S) h o) : jv_O X M b0 en pc L (.int y :: .int x :: S) h o :=
  jv_go (fun _ _ _ _ _ _ _ _ _ _ _ _ _ _ ls hC hL hn _ kk => lv_iushr hC.1 hC.2.1 hd rfl (kk ls hL hn)) k
theorem jv_idiv {x y : Int32} (hd : decode M.2.1 pc = .ok (.idiv, 1)) (hne : ¬ y = 0) (k : jv_O X M b0 en (pc + 1) L (.int (x / y) :: S) h o) : jv_O X M b0 en pc L (.int y :: .int x :: S) h o :=
  jv_go (fun _ _ _ _ _ _ _ _ _ _ _ _ _ _ ls hC hL hn _ kk => lv_idiv hC.1 hC.2.1 hd hne (kk ls hL hn)) k
theorem jv_irem {x y : Int32} (hd : decode M.2.1 pc = .ok (.irem, 1)) (hne : ¬ y = 0) (k : jv_O X M b0 en (pc + 1) L (.int (x - x / y * y) :: S) h o) : jv_O X M b0 en pc L (.int y :: .int x :: S) h o :=
  jv_go (fun _ _ _ _ _ _ _ _ _ _ _ _ _ _ ls hC hL hn _ kk => lv_irem hC.1 hC.2.1 hd hne (kk ls hL hn)) k
theorem jv_i2l {x : Int32} (hd : decode M.2.1 pc = .ok (.i2l, 1)) (k : jv_O X M b0 en (pc + 1) L (.long x.toInt64 :: S) h o) : jv_O X M b0 en pc L (.int x :: S) h o :=
  jv_go (fun _ _ _ _ _ _ _ _ _ _ _ _ _ _ ls hC hL hn _ kk => lv_i2l hC.1 hC.2.1 hd rfl (kk ls hL hn)) k
theorem jv_lcmp {x y : Int64} (hd : decode M.2.1 pc = .ok (.lcmp, 1)) (k : jv_O X M b0 en (pc + 1) L (.int (lg_cmp x y) :: S) h o) : jv_O X M b0 en pc L (.long y :: .long x :: S) h o :=
  jv_go (fun _ _ _ _ _ _ _ _ _ _ _ _ _ _ ls hC hL hn _ kk => W.lcmp hC.1 hC.2.1 hd (kk ls hL hn)) k
theorem jv_dup {v : Value} (hd : decode M.2.1 pc = .ok (.dup, 1)) (hv : v.category = 1) (k : jv_O X M b0 en (pc + 1) L (v :: v :: S) h o) : jv_O X M b0 en pc L (v :: S) h o :=
  jv_go (fun _ _ _ _ _ _ _ _ _ _ _ _ _ _ ls hC hL hn _ kk => lv_dup hC.1 hC.2.1 hd hv (kk ls hL hn)) k
theorem jv_dup2 {v w : Value} (hd : decode M.2.1 pc = .ok (.dup2, 1)) (hv : v.category = 1) (hw : w.category = 1) (k : jv_O X M b0 en (pc + 1) L (v :: w :: v :: w :: S) h o) : jv_O X M b0 en pc L (v :: w :: S) h o :=
  jv_go (fun _ _ _ _ _ _ _ _ _ _ _ _ _ _ ls hC hL hn _ kk => lv_dup2_11 hC.1 hC.2.1 hd hv hw (kk ls hL hn)) k
theorem jv_pop {v : Value} (hd : decode M.2.1 pc = .ok (.pop, 1)) (hv : v.category = 1) (k : jv_O X M b0 en (pc + 1) L S h o) : jv_O X M b0 en pc L (v :: S) h o :=
  jv_go (fun _ _ _ _ _ _ _ _ _ _ _ _ _ _ ls hC hL hn _ kk => lv_pop hC.1 hC.2.1 hd hv (kk ls hL hn)) k
theorem jv_null (hd : decode M.2.1 pc = .ok (.aconst_null, 1)) (k : jv_O X M b0 en (pc + 1) L (.null :: S) h o) : jv_O X M b0 en pc L S h o :=
  jv_go (fun _ _ _ _ _ _ _ _ _ _ _ _ _ _ ls hC hL hn _ kk => lv_null hC.1 hC.2.1 hd (kk ls hL hn)) k
theorem jv_ldc {i : Nat} {v : Int32} (hd : decode M.2.1 pc = .ok (.ldc i, 2)) (hw : Cond.constant M.1.cls i v ∈ lw_tbl) (k : jv_O X M b0 en (pc + 2) L (.int v :: S) h o) : jv_O X M b0 en pc L S h o :=
  jv_go (fun _ _ _ _ _ args _ _ _ _ _ _ _ _ ls hC hL hn _ kk => lv_ldc hC.1 hC.2.1 hC.2.2.2.2.1 (hC.2.2.2.2.2.1.1.use hw rfl args) hd (kk ls hL hn)) k
theorem jv_ldcw {i : Nat} {v : Int32} (hd : decode M.2.1 pc = .ok (.ldc_w i, 3)) (hw : Cond.constant M.1.cls i v ∈ lw_tbl) (k : jv_O X M b0 en (pc + 3) L (.int v :: S) h o) : jv_O X M b0 en pc L S h o :=
  jv_go (fun _ _ _ _ _ args _ _ _ _ _ _ _ _ ls hC hL hn _ kk => lv_ldcw hC.1 hC.2.1 hC.2.2.2.2.1 (hC.2.2.2.2.2.1.1.use hw rfl args) hd (kk ls hL hn)) k
theorem jv_goto {off : Int} {tgt : Nat} (hd : decode M.2.1 pc = .ok (.goto off, 3)) (ht : (pc : Int) + off = (tgt : Int)) (k : jv_O X M b0 en tgt L S h o) : jv_O X M b0 en pc L S h o :=
  jv_go (fun _ _ _ _ _ _ _ _ _ _ _ _ _ _ ls hC hL hn _ kk => lv_goto hC.1 hC.2.1 hd ht (kk ls hL hn)) k
theorem jv_br {c : Prop} [Decidable c] {tgt nxt : Nat} {S' : List Value}
    (st : ∀ (p : Program) (e : Env) (R : Room) (s : State) (m : MethodId) (args : Array Value) (below : List Frame) (meth : Method) (cd : Code) (H : Heap) (locs : List Loc) (cells slots : Nat) (Q : State → Prop) (ls : Array Slot), jv_C X M p R s m meth cd → 
      (c → W p X.1 e R s m args below meth cd H locs cells slots Q (F0 m tgt ls S')) → (¬ c → W p X.1 e R s m args below meth cd H locs cells slots Q (F0 m nxt ls S')) → W p X.1 e R s m args below meth cd H locs cells slots Q (F0 m pc ls S))
    (kt : c → jv_O X M b0 en tgt L S' h o1) (kf : ¬ c → jv_O X M b0 en nxt L S' h o2) : jv_O X M b0 en pc L S h (if c then o1 else o2) := by
  by_cases hc : c
  · rw [if_pos hc]
    exact jv_go (fun p e R s m args below meth cd H locs cells slots Q ls hC hL hn _ kk => st p e R s m args below meth cd H locs cells slots Q ls hC (fun _ => kk ls hL hn) (fun h => absurd hc h)) (kt hc)
  · rw [if_neg hc]
    exact jv_go (fun p e R s m args below meth cd H locs cells slots Q ls hC hL hn _ kk => st p e R s m args below meth cd H locs cells slots Q ls hC (fun h => absurd h hc) (fun _ => kk ls hL hn)) (kf hc)
theorem jv_if_eq {x : Int32} {off : Int} {tgt : Nat} (hd : decode M.2.1 pc = .ok (.ifCond .eq off, 3)) (ht : (pc : Int) + off = (tgt : Int)) (kt : x = 0 → jv_O X M b0 en tgt L S h o1) (kf : ¬ x = 0 → jv_O X M b0 en (pc + 3) L S h o2) : jv_O X M b0 en pc L (.int x :: S) h (if x = 0 then o1 else o2) :=
  jv_br (fun _ _ _ _ _ _ _ _ _ _ _ _ _ _ _ hC a b => lv_if_eq hC.1 hC.2.1 hd ht a b) kt kf
theorem jv_if_ne {x : Int32} {off : Int} {tgt : Nat} (hd : decode M.2.1 pc = .ok (.ifCond .ne off, 3)) (ht : (pc : Int) + off = (tgt : Int)) (kt : ¬ x = 0 → jv_O X M b0 en tgt L S h o1) (kf : ¬ (¬ x = 0) → jv_O X M b0 en (pc + 3) L S h o2) : jv_O X M b0 en pc L (.int x :: S) h (if ¬ x = 0 then o1 else o2) :=
  jv_br (fun _ _ _ _ _ _ _ _ _ _ _ _ _ _ _ hC a b => lv_if_ne hC.1 hC.2.1 hd ht a (fun h => b (fun g => g h))) kt kf
theorem jv_if_lt {x : Int32} {off : Int} {tgt : Nat} (hd : decode M.2.1 pc = .ok (.ifCond .lt off, 3)) (ht : (pc : Int) + off = (tgt : Int)) (kt : x < 0 → jv_O X M b0 en tgt L S h o1) (kf : ¬ x < 0 → jv_O X M b0 en (pc + 3) L S h o2) : jv_O X M b0 en pc L (.int x :: S) h (if x < 0 then o1 else o2) :=
  jv_br (fun _ _ _ _ _ _ _ _ _ _ _ _ _ _ _ hC a b => lv_if_lt hC.1 hC.2.1 hd ht a b) kt kf
theorem jv_if_ge {x : Int32} {off : Int} {tgt : Nat} (hd : decode M.2.1 pc = .ok (.ifCond .ge off, 3)) (ht : (pc : Int) + off = (tgt : Int)) (kt : 0 ≤ x → jv_O X M b0 en tgt L S h o1) (kf : ¬ 0 ≤ x → jv_O X M b0 en (pc + 3) L S h o2) : jv_O X M b0 en pc L (.int x :: S) h (if 0 ≤ x then o1 else o2) :=
  jv_br (fun _ _ _ _ _ _ _ _ _ _ _ _ _ _ _ hC a b => lv_if_ge hC.1 hC.2.1 hd ht a b) kt kf
theorem jv_if_gt {x : Int32} {off : Int} {tgt : Nat} (hd : decode M.2.1 pc = .ok (.ifCond .gt off, 3)) (ht : (pc : Int) + off = (tgt : Int)) (kt : 0 < x → jv_O X M b0 en tgt L S h o1) (kf : ¬ 0 < x → jv_O X M b0 en (pc + 3) L S h o2) : jv_O X M b0 en pc L (.int x :: S) h (if 0 < x then o1 else o2) :=
  jv_br (fun _ _ _ _ _ _ _ _ _ _ _ _ _ _ _ hC a b => lv_if_gt hC.1 hC.2.1 hd ht a b) kt kf
theorem jv_if_le {x : Int32} {off : Int} {tgt : Nat} (hd : decode M.2.1 pc = .ok (.ifCond .le off, 3)) (ht : (pc : Int) + off = (tgt : Int)) (kt : x ≤ 0 → jv_O X M b0 en tgt L S h o1) (kf : ¬ x ≤ 0 → jv_O X M b0 en (pc + 3) L S h o2) : jv_O X M b0 en pc L (.int x :: S) h (if x ≤ 0 then o1 else o2) :=
  jv_br (fun _ _ _ _ _ _ _ _ _ _ _ _ _ _ _ hC a b => lv_if_le hC.1 hC.2.1 hd ht a b) kt kf
theorem jv_icmp_eq {x y : Int32} {off : Int} {tgt : Nat} (hd : decode M.2.1 pc = .ok (.if_icmp .eq off, 3)) (ht : (pc : Int) + off = (tgt : Int)) (kt : x = y → jv_O X M b0 en tgt L S h o1) (kf : ¬ x = y → jv_O X M b0 en (pc + 3) L S h o2) : jv_O X M b0 en pc L (.int y :: .int x :: S) h (if x = y then o1 else o2) :=
  jv_br (fun _ _ _ _ _ _ _ _ _ _ _ _ _ _ _ hC a b => lv_icmp_eq hC.1 hC.2.1 hd ht a b) kt kf
theorem jv_icmp_ne {x y : Int32} {off : Int} {tgt : Nat} (hd : decode M.2.1 pc = .ok (.if_icmp .ne off, 3)) (ht : (pc : Int) + off = (tgt : Int)) (kt : ¬ x = y → jv_O X M b0 en tgt L S h o1) (kf : ¬ (¬ x = y) → jv_O X M b0 en (pc + 3) L S h o2) : jv_O X M b0 en pc L (.int y :: .int x :: S) h (if ¬ x = y then o1 else o2) :=
  jv_br (fun _ _ _ _ _ _ _ _ _ _ _ _ _ _ _ hC a b => lv_icmp_ne hC.1 hC.2.1 hd ht a (fun h => b (fun g => g h))) kt kf
theorem jv_icmp_lt {x y : Int32} {off : Int} {tgt : Nat} (hd : decode M.2.1 pc = .ok (.if_icmp .lt off, 3)) (ht : (pc : Int) + off = (tgt : Int)) (kt : x < y → jv_O X M b0 en tgt L S h o1) (kf : ¬ x < y → jv_O X M b0 en (pc + 3) L S h o2) : jv_O X M b0 en pc L (.int y :: .int x :: S) h (if x < y then o1 else o2) :=
  jv_br (fun _ _ _ _ _ _ _ _ _ _ _ _ _ _ _ hC a b => lv_icmp_lt hC.1 hC.2.1 hd ht a b) kt kf
theorem jv_icmp_ge {x y : Int32} {off : Int} {tgt : Nat} (hd : decode M.2.1 pc = .ok (.if_icmp .ge off, 3)) (ht : (pc : Int) + off = (tgt : Int)) (kt : y ≤ x → jv_O X M b0 en tgt L S h o1) (kf : ¬ y ≤ x → jv_O X M b0 en (pc + 3) L S h o2) : jv_O X M b0 en pc L (.int y :: .int x :: S) h (if y ≤ x then o1 else o2) :=
  jv_br (fun _ _ _ _ _ _ _ _ _ _ _ _ _ _ _ hC a b => lv_icmp_ge hC.1 hC.2.1 hd ht a b) kt kf
theorem jv_icmp_gt {x y : Int32} {off : Int} {tgt : Nat} (hd : decode M.2.1 pc = .ok (.if_icmp .gt off, 3)) (ht : (pc : Int) + off = (tgt : Int)) (kt : y < x → jv_O X M b0 en tgt L S h o1) (kf : ¬ y < x → jv_O X M b0 en (pc + 3) L S h o2) : jv_O X M b0 en pc L (.int y :: .int x :: S) h (if y < x then o1 else o2) :=
  jv_br (fun _ _ _ _ _ _ _ _ _ _ _ _ _ _ _ hC a b => lv_icmp_gt hC.1 hC.2.1 hd ht a b) kt kf
theorem jv_icmp_le {x y : Int32} {off : Int} {tgt : Nat} (hd : decode M.2.1 pc = .ok (.if_icmp .le off, 3)) (ht : (pc : Int) + off = (tgt : Int)) (kt : x ≤ y → jv_O X M b0 en tgt L S h o1) (kf : ¬ x ≤ y → jv_O X M b0 en (pc + 3) L S h o2) : jv_O X M b0 en pc L (.int y :: .int x :: S) h (if x ≤ y then o1 else o2) :=
  jv_br (fun _ _ _ _ _ _ _ _ _ _ _ _ _ _ _ hC a b => lv_icmp_le hC.1 hC.2.1 hd ht a b) kt kf
theorem jv_ifnull_s {a : Nat} {off : Int} (hd : decode M.2.1 pc = .ok (.ifnull off, 3)) (k : jv_O X M b0 en (pc + 3) L S h o) : jv_O X M b0 en pc L (.ref a :: S) h o :=
  jv_go (fun _ _ _ _ _ _ _ _ _ _ _ _ _ _ ls hC hL hn _ kk => lv_ifnull hC.1 hC.2.1 hd (kk ls hL hn)) k
theorem jv_ifnull_n {off : Int} {tgt : Nat} (hd : decode M.2.1 pc = .ok (.ifnull off, 3)) (ht : (pc : Int) + off = (tgt : Int)) (k : jv_O X M b0 en tgt L S h o) : jv_O X M b0 en pc L (.null :: S) h o :=
  jv_go (fun _ _ _ _ _ _ _ _ _ _ _ _ _ _ ls hC hL hn _ kk => lv_ifnullN hC.1 hC.2.1 hd ht (kk ls hL hn)) k
theorem jv_ifnonnull_s {a : Nat} {off : Int} {tgt : Nat} (hd : decode M.2.1 pc = .ok (.ifnonnull off, 3)) (ht : (pc : Int) + off = (tgt : Int)) (k : jv_O X M b0 en tgt L S h o) : jv_O X M b0 en pc L (.ref a :: S) h o :=
  jv_go (fun _ _ _ _ _ _ _ _ _ _ _ _ _ _ ls hC hL hn _ kk => lv_ifnonnull hC.1 hC.2.1 hd ht (kk ls hL hn)) k
theorem jv_ifnonnull_n {off : Int} (hd : decode M.2.1 pc = .ok (.ifnonnull off, 3)) (k : jv_O X M b0 en (pc + 3) L S h o) : jv_O X M b0 en pc L (.null :: S) h o :=
  jv_go (fun _ _ _ _ _ _ _ _ _ _ _ _ _ _ ls hC hL hn _ kk => lv_ifnonnullN hC.1 hC.2.1 hd (kk ls hL hn)) k
/-- a switch, its jump told -/
theorem jv_tbl {x : Int32} {dflt lo hi : Int} {offs : Array Int} {len tgt : Nat} (hd : decode M.2.1 pc = .ok (.tableswitch dflt lo hi offs, len)) (h1 : ¬ x.toInt < lo) (h2 : ¬ hi < x.toInt) {off : Int} (ho : offs[(x.toInt - lo).toNat]? = some off) (ht : (pc : Int) + off = (tgt : Int)) (k : jv_O X M b0 en tgt L S h o) : jv_O X M b0 en pc L (.int x :: S) h o :=
  jv_go (fun _ _ _ _ _ _ _ _ _ _ _ _ _ _ ls hC hL hn _ kk => lv_tableIn hC.1 hC.2.1 hd h1 h2 ho ht (kk ls hL hn)) k
theorem jv_tblOut {x : Int32} {dflt lo hi : Int} {offs : Array Int} {len tgt : Nat} (hd : decode M.2.1 pc = .ok (.tableswitch dflt lo hi offs, len)) (h1 : x.toInt < lo ∨ hi < x.toInt) (ht : (pc : Int) + dflt = (tgt : Int)) (k : jv_O X M b0 en tgt L S h o) : jv_O X M b0 en pc L (.int x :: S) h o :=
  jv_go (fun _ _ _ _ _ _ _ _ _ _ _ _ _ _ ls hC hL hn _ kk => lv_tableOut hC.1 hC.2.1 hd h1 ht (kk ls hL hn)) k
theorem jv_lkp {x : Int32} {dflt : Int} {ps : Array (Int × Int)} {len tgt : Nat} {off : Int} (hd : decode M.2.1 pc = .ok (.lookupswitch dflt ps, len)) (hp : (ps.toList.zip (ps.toList.drop 1)).all (fun (a, next) => a.1 < next.1) = true) (ho : Op.lookupswitch.offset ps.toList dflt x.toInt = off) (ht : (pc : Int) + off = (tgt : Int)) (k : jv_O X M b0 en tgt L S h o) : jv_O X M b0 en pc L (.int x :: S) h o :=
  jv_go (fun _ _ _ _ _ _ _ _ _ _ _ _ _ _ ls hC hL hn _ kk => lv_lookup hC.1 hC.2.1 hd hp ho ht (kk ls hL hn)) k
end JR2
section JRet
variable {X : jx} {M : jm} {b0 : Nat × Nat} {pc : Nat} {L : List (Option Value)} {h : jh} {α : Type} {en : α → jr} {a : α}
theorem jv_iret {v : Int32} {ty : FieldType} (hd : decode M.2.1 pc = .ok (.ireturn, 1)) (hr : M.2.2.2.1 = some ty) (hn : narrow ty (.int v) = .int v) (he : en a = .inl (some (.int v))) : jv_O X M b0 en pc L [.int v] h (some (a, h)) := by
  intro a' h' e0
  cases e0
  refine ⟨⟨Nat.le_refl _, Nat.le_refl _⟩, fun b1 b2 p e R s m args below meth c H locs ls hC hc hs hlo hL hn' hH => ?_⟩
  have hlocks := hC.2.2.2.2.2.2.1
  exact vx_ret (W.zret hC.1 hC.2.1 (hC.2.2.1.trans hr) hn (fun t ht hW => ⟨some (.int v), he, rfl, by rw [ht]; exact hH⟩) hlo hd)
theorem jv_vret (hd : decode M.2.1 pc = .ok (.return_, 1)) (hr : M.2.2.2.1 = none) (he : en a = .inl none) : jv_O X M b0 en pc L [] h (some (a, h)) := by
  intro a' h' e0
  cases e0
  refine ⟨⟨Nat.le_refl _, Nat.le_refl _⟩, fun b1 b2 p e R s m args below meth c H locs ls hC hc hs hlo hL hn' hH => ?_⟩
  have hlocks := hC.2.2.2.2.2.2.1
  exact vx_ret (W.vret hC.1 hC.2.1 (hC.2.2.1.trans hr) (fun t ht hW => ⟨none, he, rfl, by rw [ht]; exact hH⟩) hlo hd)
theorem jv_aret {v : Value} {n : String} (hd : decode M.2.1 pc = .ok (.areturn, 1)) (hr : M.2.2.2.1 = some (.object n)) (hv : v = .null ∨ ∃ a, v = .ref a) (he : en a = .inl (some v)) : jv_O X M b0 en pc L [v] h (some (a, h)) := by
  intro a' h' e0
  cases e0
  refine ⟨⟨Nat.le_refl _, Nat.le_refl _⟩, fun b1 b2 p e R s m args below meth c H locs ls hC hc hs hlo hL hn' hH => ?_⟩
  have hlocks := hC.2.2.2.2.2.2.1
  exact vx_ret (W.aret hC.1 hC.2.1 (hC.2.2.1.trans hr) (Or.inl ⟨_, rfl⟩) hv (fun t ht hW => ⟨some v, he, rfl, by rw [ht]; exact hH⟩) hlo hd)
end JRet
