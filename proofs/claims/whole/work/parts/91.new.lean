/-! what the constructors make -/
theorem bd_eq {γ β : Type} {o : Option (γ × jh)} {a : γ} {h : jh} {K : γ → jh → Option β} (e : o = some (a, h)) : bd o K = K a h := by rw [e]; rfl
def W0 : ms := fun f => match f with
  | 6 => upd (fun _ => 0) 0 1
  | 7 => fun _ => 1
  | 8 => fun _ => 1
  | 9 => upd (fun _ => 0) 0 (-1)
  | 10 => fun _ => 1
  | 12 => fun q => if 0 ≤ q ∧ q < 8 then 1 else 0
  | 13 => upd (fun q => if 0 ≤ q ∧ q < 8 then -1 else 0) 0 0
  | 14 => upd (fun _ => 0) 0 (-1)
  | 15 => fun _ => 1
  | 21 => upd (fun _ => 0) 0 (-1)
  | 22 => fun _ => 1
  | _ => fun _ => 0
def wls (w : Nat) : List jc := [wc w W0 0, wc w W0 1, wc w W0 2, wc w W0 3, wc w W0 4, wc w W0 5, wc w W0 6, wc w W0 7, wc w W0 8, wc w W0 9, wc w W0 10, wc w W0 11, wc w W0 12, wc w W0 13, wc w W0 14, wc w W0 15, wc w W0 16, wc w W0 17, wc w W0 18, wc w W0 19, wc w W0 20, wc w W0 21, wc w W0 22, wc w W0 23, wc w W0 24, wc w W0 25, wc w W0 26, wc w W0 27]
theorem i_X9 (H : jh) : f_X9_init H.1 (ext H [jO 7 [.null, .int 0]] 2) = some ((), ext H [jO 7 [.ref (H.1 + 1), .int 1], jI 8 (upd (fun _ => 0) 0 (-1))] 10) := by
  unfold f_X9_init
  refine (nI4_x (H := H) 8 (by decide) _).trans ?_
  refine (pV_x (H := H) (d := 0) (by rfl) (Nat.le_of_ble_eq_true (by rfl)) _).trans ?_
  refine (pV_x (H := H) (d := 0) (by rfl) (Nat.le_of_ble_eq_true (by rfl)) _).trans ?_
  refine (gR_x (H := H) (d := 0) (by rfl) (by rfl) _).trans ?_
  refine (sI_x (H := H) (d := 1) (j := 0) (by rfl) (by decide) (by decide) _).trans ?_
  rfl
theorem i_X2 (H : jh) : f_X2_init H.1 (ext H [jO 0 [.null, .null, .null, .int 0]] 4) = some ((), ext H [jO 0 [.ref (H.1 + 1), .ref (H.1 + 3), .ref (H.1 + 4), .int 0], jO 7 [.ref (H.1 + 2), .int 1], jI 8 (upd (fun _ => 0) 0 (-1)), jI 8 (fun _ => 0), jI 64 (fun _ => 0)] 86) := by
  unfold f_X2_init
  refine (nO_0 (ext H _ _) _ _ _ _).trans ?_
  refine (bd_eq (i_X9 _)).trans ?_
  rw [ext_ext]
  refine (pV_x (H := H) (d := 0) (by rfl) (Nat.le_of_ble_eq_true (by rfl)) _).trans ?_
  refine (nI4_x (H := H) 8 (by decide) _).trans ?_
  refine (pV_x (H := H) (d := 0) (by rfl) (Nat.le_of_ble_eq_true (by rfl)) _).trans ?_
  refine (nI4_x (H := H) 64 (by decide) _).trans ?_
  refine (pV_x (H := H) (d := 0) (by rfl) (Nat.le_of_ble_eq_true (by rfl)) _).trans ?_
  refine (pV_x (H := H) (d := 0) (by rfl) (Nat.le_of_ble_eq_true (by rfl)) _).trans ?_
  rfl
theorem i_X3 (H : jh) : f_X3_init H.1 (ext H [jO 1 [.null, .null, .null, .int 0]] 4) = some ((), ext H [jO 1 [.ref (H.1 + 1), .ref (H.1 + 2), .ref (H.1 + 3), .int 0], jI 8 (fun _ => 0), jI 8 (fun _ => 0), jI 8 (fun _ => 0)] 28) := by
  unfold f_X3_init
  refine (nI4_x (H := H) 8 (by decide) _).trans ?_
  refine (pV_x (H := H) (d := 0) (by rfl) (Nat.le_of_ble_eq_true (by rfl)) _).trans ?_
  refine (nI4_x (H := H) 8 (by decide) _).trans ?_
  refine (pV_x (H := H) (d := 0) (by rfl) (Nat.le_of_ble_eq_true (by rfl)) _).trans ?_
  refine (nI4_x (H := H) 8 (by decide) _).trans ?_
  refine (pV_x (H := H) (d := 0) (by rfl) (Nat.le_of_ble_eq_true (by rfl)) _).trans ?_
  refine (pV_x (H := H) (d := 0) (by rfl) (Nat.le_of_ble_eq_true (by rfl)) _).trans ?_
  rfl
theorem i_X10 (H : jh) : f_X10_init H.1 (ext H [jO 8 [.null, .null, .null, .null, .null, .null]] 6) = some ((), ext H [jO 8 [.ref (H.1 + 1), .ref (H.1 + 3), .ref (H.1 + 4), .ref (H.1 + 5), .ref (H.1 + 6), .ref (H.1 + 7)], jO 7 [.ref (H.1 + 2), .int 1], jI 8 (upd (fun _ => 0) 0 (-1)), jI 8 (fun _ => 0), jI 8 (fun _ => 0), jI 24 (fun _ => 0), jI 24 (fun _ => 0), jI 24 (fun _ => 0)] 104) := by
  unfold f_X10_init
  refine (nO_0 (ext H _ _) _ _ _ _).trans ?_
  refine (bd_eq (i_X9 _)).trans ?_
  rw [ext_ext]
  refine (pV_x (H := H) (d := 0) (by rfl) (Nat.le_of_ble_eq_true (by rfl)) _).trans ?_
  refine (nI4_x (H := H) 8 (by decide) _).trans ?_
  refine (pV_x (H := H) (d := 0) (by rfl) (Nat.le_of_ble_eq_true (by rfl)) _).trans ?_
  refine (nI4_x (H := H) 8 (by decide) _).trans ?_
  refine (pV_x (H := H) (d := 0) (by rfl) (Nat.le_of_ble_eq_true (by rfl)) _).trans ?_
  refine (nI4_x (H := H) 24 (by decide) _).trans ?_
  refine (pV_x (H := H) (d := 0) (by rfl) (Nat.le_of_ble_eq_true (by rfl)) _).trans ?_
  refine (nI4_x (H := H) 24 (by decide) _).trans ?_
  refine (pV_x (H := H) (d := 0) (by rfl) (Nat.le_of_ble_eq_true (by rfl)) _).trans ?_
  refine (nI4_x (H := H) 24 (by decide) _).trans ?_
  refine (pV_x (H := H) (d := 0) (by rfl) (Nat.le_of_ble_eq_true (by rfl)) _).trans ?_
  rfl
theorem i_X5 (H : jh) : f_X5_init H.1 (ext H [jO 3 [.null, .null, .null, .null, .null, .null, .null, .int 0, .int 0]] 9) = some ((), ext H [jO 3 [.ref (H.1 + 1), .ref (H.1 + 2), .ref (H.1 + 3), .ref (H.1 + 4), .ref (H.1 + 5), .ref (H.1 + 6), .ref (H.1 + 7), .int 1, .int 1], jI 16 (fun _ => 0), jI 16 (fun _ => 0), jI 16 (fun _ => 0), jI 16 (fun _ => 0), jI 16 (fun _ => 0), jI 16 (fun _ => 0), jI 128 (upd (fun _ => 0) 0 1)] 233) := by
  unfold f_X5_init
  refine (nI4_x (H := H) 16 (by decide) _).trans ?_
  refine (pV_x (H := H) (d := 0) (by rfl) (Nat.le_of_ble_eq_true (by rfl)) _).trans ?_
  refine (nI4_x (H := H) 16 (by decide) _).trans ?_
  refine (pV_x (H := H) (d := 0) (by rfl) (Nat.le_of_ble_eq_true (by rfl)) _).trans ?_
  refine (nI4_x (H := H) 16 (by decide) _).trans ?_
  refine (pV_x (H := H) (d := 0) (by rfl) (Nat.le_of_ble_eq_true (by rfl)) _).trans ?_
  refine (nI4_x (H := H) 16 (by decide) _).trans ?_
  refine (pV_x (H := H) (d := 0) (by rfl) (Nat.le_of_ble_eq_true (by rfl)) _).trans ?_
  refine (nI4_x (H := H) 16 (by decide) _).trans ?_
  refine (pV_x (H := H) (d := 0) (by rfl) (Nat.le_of_ble_eq_true (by rfl)) _).trans ?_
  refine (nI4_x (H := H) 16 (by decide) _).trans ?_
  refine (pV_x (H := H) (d := 0) (by rfl) (Nat.le_of_ble_eq_true (by rfl)) _).trans ?_
  refine (nI4_x (H := H) 128 (by decide) _).trans ?_
  refine (pV_x (H := H) (d := 0) (by rfl) (Nat.le_of_ble_eq_true (by rfl)) _).trans ?_
  refine (pV_x (H := H) (d := 0) (by rfl) (Nat.le_of_ble_eq_true (by rfl)) _).trans ?_
  refine (pV_x (H := H) (d := 0) (by rfl) (Nat.le_of_ble_eq_true (by rfl)) _).trans ?_
  refine (gR_x (H := H) (d := 0) (by rfl) (by rfl) _).trans ?_
  refine (sI_x (H := H) (d := 7) (j := 0) (by rfl) (by decide) (by decide) _).trans ?_
  rfl
def fil (f : Nat → Int32) (j : Nat) (x : Int32) : Nat → Int32 := fun q => if j ≤ q ∧ q < 8 then x else f q
theorem fil_s (f : Nat → Int32) (j : Nat) (x : Int32) (hj : j < 8) : fil (upd f j x) (j + 1) x = fil f j x := by
  funext q
  unfold fil upd
  by_cases h1 : j + 1 ≤ q ∧ q < 8
  · rw [if_pos h1, if_pos (by omega)]
  · rw [if_neg h1]
    by_cases h2 : q = j
    · rw [if_pos h2, if_pos (by omega)]
    · rw [if_neg h2, if_neg (by omega)]
theorem fil_e (f : Nat → Int32) (x : Int32) : fil f 8 x = f := by
  funext q; unfold fil; rw [if_neg (by omega)]
def x4l (a : Nat) (f g : Nat → Int32) : List jc := [jO 2 [.ref (a + 1), .ref (a + 3), .ref (a + 4), .ref (a + 5)], jO 7 [.ref (a + 2), .int 1], jI 8 (upd (fun _ => 0) 0 (-1)), jI 8 (fun _ => 0), jI 8 f, jI 8 g]
theorem x4_l (H : jh) (n : Nat) (K : Nat → jh → Option (Unit × jh)) (L : Nat → Nat → Int32 → jh → Option (Unit × jh)) (hL : ∀ f, L (f + 1) = f_X4_init_h41 K (L f)) : ∀ k j f f1 f2, j + k = 8 → k + 1 ≤ f → L f H.1 (nI j) (ext H (x4l H.1 f1 f2) n) = K H.1 (ext H (x4l H.1 (fil f1 j 1) (fil f2 j (-1))) n) := by
  intro k
  induction k with
  | zero =>
    intro j f f1 f2 hj hf
    obtain ⟨f, rfl⟩ : ∃ g, f = g + 1 := ⟨f - 1, by omega⟩
    rw [hL]
    unfold f_X4_init_h41
    rw [if_pos (show (8 : Int32) ≤ nI j from (al_le (a := 8) (by omega) (by omega)).mpr (by omega)), show j = 8 by omega, fil_e, fil_e]
  | succ k ih =>
    intro j f f1 f2 hj hf
    obtain ⟨f, rfl⟩ : ∃ g, f = g + 1 := ⟨f - 1, by omega⟩
    rw [hL]
    unfold f_X4_init_h41
    rw [if_neg (show ¬ (8 : Int32) ≤ nI j from mt (al_le (a := 8) (by omega) (by omega)).mp (by omega))]
    refine (gR_x (H := H) (d := 0) (by rfl) (by rfl) _).trans ?_
    refine (sI_x (H := H) (d := 4) (j := j) (by rfl) (by omega) (by decide) _).trans ?_
    refine (gR_x (H := H) (d := 0) (by rfl) (by rfl) _).trans ?_
    refine (sI_x (H := H) (d := 5) (j := j) (by rfl) (by omega) (by decide) _).trans ?_
    have := ih (j + 1) f (upd f1 j 1) (upd f2 j (-1)) (by omega) (by omega)
    rw [fil_s _ _ _ (by omega), fil_s _ _ _ (by omega)] at this
    rw [show nI j + 1 = nI (j + 1) from al_add j 1]
    exact this
theorem i_X4 (H : jh) : f_X4_init H.1 (ext H [jO 2 [.null, .null, .null, .null]] 4) = some ((), ext H (x4l H.1 (fun q => if 0 ≤ q ∧ q < 8 then 1 else 0) (upd (fun q => if 0 ≤ q ∧ q < 8 then -1 else 0) 0 0)) 38) := by
  unfold f_X4_init
  refine (nO_0 (ext H _ _) _ _ _ _).trans ?_
  refine (bd_eq (i_X9 _)).trans ?_
  rw [ext_ext]
  refine (pV_x (H := H) (d := 0) (by rfl) (Nat.le_of_ble_eq_true (by rfl)) _).trans ?_
  refine (nI4_x (H := H) 8 (by decide) _).trans ?_
  refine (pV_x (H := H) (d := 0) (by rfl) (Nat.le_of_ble_eq_true (by rfl)) _).trans ?_
  refine (nI4_x (H := H) 8 (by decide) _).trans ?_
  refine (pV_x (H := H) (d := 0) (by rfl) (Nat.le_of_ble_eq_true (by rfl)) _).trans ?_
  refine (nI4_x (H := H) 8 (by decide) _).trans ?_
  refine (pV_x (H := H) (d := 0) (by rfl) (Nat.le_of_ble_eq_true (by rfl)) _).trans ?_
  obtain ⟨f, hf⟩ := jfu_s
  refine (x4_l H 38 _ (jlp2 (f_X4_init_h41 _)) (fun _ => rfl) 8 0 jfu (fun _ => 0) (fun _ => 0) (by omega) (by omega)).trans ?_
  refine (gR_x (H := H) (d := 0) (by rfl) (by rfl) _).trans ?_
  refine (sI_x (H := H) (d := 5) (j := 0) (by rfl) (by decide) (by decide) _).trans ?_
  rfl
theorem i_X11 (H : jh) : f_X11_init H.1 (ext H [jO 9 [.null, .null, .null, .null]] 4) = some ((), ext H (wls H.1) 465) := by
  unfold f_X11_init
  refine (nO_0 (ext H _ _) _ _ _ _).trans ?_
  refine (bd_eq (i_X5 _)).trans ?_
  rw [ext_ext]
  refine (pV_x (H := H) (d := 0) (by rfl) (Nat.le_of_ble_eq_true (by rfl)) _).trans ?_
  refine (nO_0 (ext H _ _) _ _ _ _).trans ?_
  refine (bd_eq (i_X4 _)).trans ?_
  rw [ext_ext]
  refine (pV_x (H := H) (d := 0) (by rfl) (Nat.le_of_ble_eq_true (by rfl)) _).trans ?_
  refine (nO_0 (ext H _ _) _ _ _ _).trans ?_
  refine (bd_eq (i_X10 _)).trans ?_
  rw [ext_ext]
  refine (pV_x (H := H) (d := 0) (by rfl) (Nat.le_of_ble_eq_true (by rfl)) _).trans ?_
  refine (nO_0 (ext H _ _) _ _ _ _).trans ?_
  refine (bd_eq (i_X2 _)).trans ?_
  rw [ext_ext]
  refine (pV_x (H := H) (d := 0) (by rfl) (Nat.le_of_ble_eq_true (by rfl)) _).trans ?_
  rfl
theorem wls_len (w : Nat) : (wls w).length = 28 := rfl
theorem wls_at (w d : Nat) (hd : d < 28) : (wls w)[d]? = some (wc w W0 d) := by
  have : d = 0 ∨ d = 1 ∨ d = 2 ∨ d = 3 ∨ d = 4 ∨ d = 5 ∨ d = 6 ∨ d = 7 ∨ d = 8 ∨ d = 9 ∨ d = 10 ∨ d = 11 ∨ d = 12 ∨ d = 13 ∨ d = 14 ∨ d = 15 ∨ d = 16 ∨ d = 17 ∨ d = 18 ∨ d = 19 ∨ d = 20 ∨ d = 21 ∨ d = 22 ∨ d = 23 ∨ d = 24 ∨ d = 25 ∨ d = 26 ∨ d = 27 := by omega
  rcases this with rfl | rfl | rfl | rfl | rfl | rfl | rfl | rfl | rfl | rfl | rfl | rfl | rfl | rfl | rfl | rfl | rfl | rfl | rfl | rfl | rfl | rfl | rfl | rfl | rfl | rfl | rfl | rfl <;> rfl
/-- a State's cells -/
def stl (a : Nat) : List jc := jO 6 [.ref (a + 1), .ref (a + 29), .ref (a + 30), .ref (a + 34), .int 0, .int 0] :: (wls (a + 1) ++ [jQ 2 41 (fun _ => none), jO 1 [.ref (a + 31), .ref (a + 32), .ref (a + 33), .int 0], jI 8 (fun _ => 0), jI 8 (fun _ => 0), jI 8 (fun _ => 0), jI 3 (fun _ => 0)])
theorem i_X8 (H : jh) : f_X8_init H.1 (ext H [jO 6 [.null, .null, .null, .null, .int 0, .int 0]] 6) = some ((), ext H (stl H.1) 543) := by
  unfold f_X8_init
  refine (nO_0 (ext H _ _) _ _ _ _).trans ?_
  refine (bd_eq (i_X11 _)).trans ?_
  rw [ext_ext]
  refine (pV_x (H := H) (d := 0) (by rfl) (Nat.le_of_ble_eq_true (by rfl)) _).trans ?_
  refine (nQ_x (H := H) 2 41 (by decide) _).trans ?_
  refine (pV_x (H := H) (d := 0) (by rfl) (Nat.le_of_ble_eq_true (by rfl)) _).trans ?_
  refine (nO_0 (ext H _ _) _ _ _ _).trans ?_
  refine (bd_eq (i_X3 _)).trans ?_
  rw [ext_ext]
  refine (pV_x (H := H) (d := 0) (by rfl) (Nat.le_of_ble_eq_true (by rfl)) _).trans ?_
  refine (nI4_x (H := H) 3 (by decide) _).trans ?_
  refine (pV_x (H := H) (d := 0) (by rfl) (Nat.le_of_ble_eq_true (by rfl)) _).trans ?_
  refine (pV_x (H := H) (d := 0) (by rfl) (Nat.le_of_ble_eq_true (by rfl)) _).trans ?_
  refine (pV_x (H := H) (d := 0) (by rfl) (Nat.le_of_ble_eq_true (by rfl)) _).trans ?_
  rfl
theorem i_X7 (H : jh) : f_X7_init H.1 (ext H [jO 5 [.null, .null, .null, .int 0]] 4) = some ((), ext H [jO 5 [.ref (H.1 + 1), .ref (H.1 + 2), .ref (H.1 + 3), .int 0], jI 9 (fun _ => 0), jI 9 (fun _ => 0), jI 8 (fun _ => 0)] 30) := by
  unfold f_X7_init
  refine (nI4_x (H := H) 9 (by decide) _).trans ?_
  refine (pV_x (H := H) (d := 0) (by rfl) (Nat.le_of_ble_eq_true (by rfl)) _).trans ?_
  refine (nI4_x (H := H) 9 (by decide) _).trans ?_
  refine (pV_x (H := H) (d := 0) (by rfl) (Nat.le_of_ble_eq_true (by rfl)) _).trans ?_
  refine (nI4_x (H := H) 8 (by decide) _).trans ?_
  refine (pV_x (H := H) (d := 0) (by rfl) (Nat.le_of_ble_eq_true (by rfl)) _).trans ?_
  refine (pV_x (H := H) (d := 0) (by rfl) (Nat.le_of_ble_eq_true (by rfl)) _).trans ?_
  rfl
theorem i_X6 (H : jh) : f_X6_init H.1 (ext H [jO 4 [.null, .null, .int 0, .int 0, .int 0, .int 0, .int 0]] 7) = some ((), ext H [jO 4 [.ref (H.1 + 1), .ref (H.1 + 2), .int 0, .int 0, .int 0, .int 0, .int 0], jI 900 (fun _ => 0), jI 5 (fun _ => 0)] 912) := by
  unfold f_X6_init
  refine (nI4_x (H := H) 900 (by decide) _).trans ?_
  refine (pV_x (H := H) (d := 0) (by rfl) (Nat.le_of_ble_eq_true (by rfl)) _).trans ?_
  refine (nI4_x (H := H) 5 (by decide) _).trans ?_
  refine (pV_x (H := H) (d := 0) (by rfl) (Nat.le_of_ble_eq_true (by rfl)) _).trans ?_
  refine (pV_x (H := H) (d := 0) (by rfl) (Nat.le_of_ble_eq_true (by rfl)) _).trans ?_
  refine (pV_x (H := H) (d := 0) (by rfl) (Nat.le_of_ble_eq_true (by rfl)) _).trans ?_
  refine (pV_x (H := H) (d := 0) (by rfl) (Nat.le_of_ble_eq_true (by rfl)) _).trans ?_
  refine (pV_x (H := H) (d := 0) (by rfl) (Nat.le_of_ble_eq_true (by rfl)) _).trans ?_
  refine (pV_x (H := H) (d := 0) (by rfl) (Nat.le_of_ble_eq_true (by rfl)) _).trans ?_
  rfl
/-- the object's cells -/
def wdl (z : Nat) : List jc := jO 10 [.ref (z + 1), .ref (z + 36), .ref (z + 64), .ref (z + 92), .ref (z + 96), .ref (z + 99), .int (-1), .int 0, .null, .int 0] :: (stl (z + 1) ++ wls (z + 36) ++ wls (z + 64) ++ [jO 5 [.ref (z + 93), .ref (z + 94), .ref (z + 95), .int 0], jI 9 (fun _ => 0), jI 9 (fun _ => 0), jI 8 (fun _ => 0), jO 4 [.ref (z + 97), .ref (z + 98), .int 0, .int 0, .int 0, .int 0, .int 0], jI 900 (fun _ => 0), jI 5 (fun _ => 0), jI 5 (fun _ => 0)])
theorem i_X12 (H : jh) : f_X12_init H.1 (ext H [jO 10 [.null, .null, .null, .null, .null, .null, .int 0, .int 0, .null, .int 0]] 10) = some ((), ext H (wdl H.1) 2430) := by
  unfold f_X12_init
  refine (nO_0 (ext H _ _) _ _ _ _).trans ?_
  refine (bd_eq (i_X8 _)).trans ?_
  rw [ext_ext]
  refine (pV_x (H := H) (d := 0) (by rfl) (Nat.le_of_ble_eq_true (by rfl)) _).trans ?_
  refine (nO_0 (ext H _ _) _ _ _ _).trans ?_
  refine (bd_eq (i_X11 _)).trans ?_
  rw [ext_ext]
  refine (pV_x (H := H) (d := 0) (by rfl) (Nat.le_of_ble_eq_true (by rfl)) _).trans ?_
  refine (nO_0 (ext H _ _) _ _ _ _).trans ?_
  refine (bd_eq (i_X11 _)).trans ?_
  rw [ext_ext]
  refine (pV_x (H := H) (d := 0) (by rfl) (Nat.le_of_ble_eq_true (by rfl)) _).trans ?_
  refine (nO_0 (ext H _ _) _ _ _ _).trans ?_
  refine (bd_eq (i_X7 _)).trans ?_
  rw [ext_ext]
  refine (pV_x (H := H) (d := 0) (by rfl) (Nat.le_of_ble_eq_true (by rfl)) _).trans ?_
  refine (nO_0 (ext H _ _) _ _ _ _).trans ?_
  refine (bd_eq (i_X6 _)).trans ?_
  rw [ext_ext]
  refine (pV_x (H := H) (d := 0) (by rfl) (Nat.le_of_ble_eq_true (by rfl)) _).trans ?_
  refine (nI4_x (H := H) 5 (by decide) _).trans ?_
  refine (pV_x (H := H) (d := 0) (by rfl) (Nat.le_of_ble_eq_true (by rfl)) _).trans ?_
  refine (pV_x (H := H) (d := 0) (by rfl) (Nat.le_of_ble_eq_true (by rfl)) _).trans ?_
  refine (pV_x (H := H) (d := 0) (by rfl) (Nat.le_of_ble_eq_true (by rfl)) _).trans ?_
  refine (pV_x (H := H) (d := 0) (by rfl) (Nat.le_of_ble_eq_true (by rfl)) _).trans ?_
  refine (pV_x (H := H) (d := 0) (by rfl) (Nat.le_of_ble_eq_true (by rfl)) _).trans ?_
  rfl
