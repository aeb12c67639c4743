/-! the start -/
theorem sS_x {β : Type} {H : jh} {L : List jc} {n d k j v : Nat} {f : Nat → Option Nat} (e : L[d]? = some (jQ 3 k f)) (hj : j < k) (hk : k < 2147483648) (hv : v < 17) (K : jh → Option β) : sS (ext H L n) (H.1 + d) (nI j) v K = K (ext H (L.set d (jQ 3 k (va_up f j (some v)))) n) := by
  unfold sS
  rw [ext_at e]
  show (if 3 = 3 ∧ v < 17 then (if nI j < 0 ∨ k ≤ (nI j).toNatClampNeg then none else K _) else none) = _
  rw [if_pos ⟨rfl, hv⟩, if_neg (al_in hj hk), al_cl (by omega), ext_wr (List.getElem?_eq_some_iff.mp e).1]
def s00 : ms := fun a _ => if a = 14 then -1 else 0
def mw0 : Nat → Option Nat := va_up (va_up (va_up (va_up (va_up (va_up (va_up (va_up (va_up (va_up (va_up (fun _ => none) 0 (some 0)) 1 (some 1)) 2 (some 2)) 3 (some 3)) 4 (some 4)) 5 (some 5)) 6 (some 6)) 7 (some 7)) 8 (some 8)) 9 (some 9)) 10 (some 10)
theorem mw0_e : mw0 = mw := by
  funext j
  unfold mw0 mw va_up
  by_cases h : j < 11
  · have : j = 0 ∨ j = 1 ∨ j = 2 ∨ j = 3 ∨ j = 4 ∨ j = 5 ∨ j = 6 ∨ j = 7 ∨ j = 8 ∨ j = 9 ∨ j = 10 := by omega
    rcases this with rfl | rfl | rfl | rfl | rfl | rfl | rfl | rfl | rfl | rfl | rfl <;> rfl
  · rw [if_neg h, if_neg (by omega), if_neg (by omega), if_neg (by omega), if_neg (by omega), if_neg (by omega), if_neg (by omega), if_neg (by omega), if_neg (by omega), if_neg (by omega), if_neg (by omega), if_neg (by omega)]
def mls (m : Nat) : List jc := [jO 11 (mo m s00), jQ 3 11 mw0, jI 595 (fun _ => 0), jI 3 (fun _ => 0), jI 900 (fun _ => 0), jI 360 (fun _ => 0), jI 5 (fun _ => 0), jI 23800 (fun _ => 0), jI 595 (fun _ => 0), jI 128 (fun _ => 0), jI 8 (fun _ => 0), jI 8 (fun _ => 0), jI 8 (fun _ => 0), jI 595 (fun _ => 0), jI 23800 (fun _ => 0), jI 8 (fun _ => 0), jI 8 (fun _ => 0), jI 8 (fun _ => 0), jI 3 (fun _ => 0)]
theorem mls_at (m d : Nat) (hd : d < 19) : (mls m)[d]? = some (mc m s00 d) := by
  have : d = 0 ∨ d = 1 ∨ d = 2 ∨ d = 3 ∨ d = 4 ∨ d = 5 ∨ d = 6 ∨ d = 7 ∨ d = 8 ∨ d = 9 ∨ d = 10 ∨ d = 11 ∨ d = 12 ∨ d = 13 ∨ d = 14 ∨ d = 15 ∨ d = 16 ∨ d = 17 ∨ d = 18 := by omega
  rcases this with rfl | rfl | rfl | rfl | rfl | rfl | rfl | rfl | rfl | rfl | rfl | rfl | rfl | rfl | rfl | rfl | rfl | rfl | rfl
  · rfl
  · exact congrArg (fun f => some (jQ 3 11 f)) mw0_e
  all_goals rfl
theorem pm_id {H : jh} {m : Nat} {s : ms} (h : ∀ d, d < 19 → H.2.2 (m + d) = mc m s d) : pm H m s = H := by
  refine Prod.ext rfl (Prod.ext rfl (funext fun q => ?_))
  show (if m ≤ q ∧ q < m + 19 then mc m s (q - m) else H.2.2 q) = _
  by_cases e : m ≤ q ∧ q < m + 19
  · rw [if_pos e, ← h (q - m) (by omega), show m + (q - m) = q by omega]
  · rw [if_neg e]
theorem i_X13 (H : jh) : ∃ n', f_X13_init H.1 (ext H [jO 11 [.null, .int 0, .null, .null, .null, .int 0, .int 0, .int 0, .int 0, .int 0, .int 0, .int 0, .int 0, .int 0, .int 0, .null, .int 0, .null, .int 0, .null, .null, .null, .int 0, .null, .null, .null, .int 0, .int 0, .int 0, .int 0, .null, .null, .null, .null, .null, .null]] 36) = some ((), pm (ext H (mls H.1) 50879) H.1 (sw s00 2 n')) ∧ RowV n' v0 := by
  obtain ⟨n', l1, l2⟩ := d_lay (h := ext H (mls H.1) 50879) (m := H.1) (s := s00)
  refine ⟨n', ?_, l2⟩
  have ei := pm_id (H := ext H (mls H.1) 50879) (m := H.1) (s := s00) (fun d hd => ext_at (mls_at H.1 d hd))
  unfold f_X13_init
  refine (nQ_x (H := H) 3 11 (by decide) _).trans ?_
  refine (sS_x (H := H) (d := 1) (j := 0) (by rfl) (by decide) (by decide) (by decide) _).trans ?_
  refine (sS_x (H := H) (d := 1) (j := 1) (by rfl) (by decide) (by decide) (by decide) _).trans ?_
  refine (sS_x (H := H) (d := 1) (j := 2) (by rfl) (by decide) (by decide) (by decide) _).trans ?_
  refine (sS_x (H := H) (d := 1) (j := 3) (by rfl) (by decide) (by decide) (by decide) _).trans ?_
  refine (sS_x (H := H) (d := 1) (j := 4) (by rfl) (by decide) (by decide) (by decide) _).trans ?_
  refine (sS_x (H := H) (d := 1) (j := 5) (by rfl) (by decide) (by decide) (by decide) _).trans ?_
  refine (sS_x (H := H) (d := 1) (j := 6) (by rfl) (by decide) (by decide) (by decide) _).trans ?_
  refine (sS_x (H := H) (d := 1) (j := 7) (by rfl) (by decide) (by decide) (by decide) _).trans ?_
  refine (sS_x (H := H) (d := 1) (j := 8) (by rfl) (by decide) (by decide) (by decide) _).trans ?_
  refine (sS_x (H := H) (d := 1) (j := 9) (by rfl) (by decide) (by decide) (by decide) _).trans ?_
  refine (sS_x (H := H) (d := 1) (j := 10) (by rfl) (by decide) (by decide) (by decide) _).trans ?_
  show pV (ext H [jO 11 [.null, .int 0, .null, .null, .null, .int 0, .int 0, .int 0, .int 0, .int 0, .int 0, .int 0, .int 0, .int 0, .int 0, .null, .int 0, .null, .int 0, .null, .null, .null, .int 0, .null, .null, .null, .int 0, .int 0, .int 0, .int 0, .null, .null, .null, .null, .null, .null], jQ 3 11 mw0] 47) H.1 11 0 (.ref (H.1 + 1)) _ = _
  refine (pV_x (H := H) (d := 0) (by rfl) (Nat.le_of_ble_eq_true (by rfl)) _).trans ?_
  show nI4 (ext H [jO 11 [.ref (H.1 + 1), .int 0, .null, .null, .null, .int 0, .int 0, .int 0, .int 0, .int 0, .int 0, .int 0, .int 0, .int 0, .int 0, .null, .int 0, .null, .int 0, .null, .null, .null, .int 0, .null, .null, .null, .int 0, .int 0, .int 0, .int 0, .null, .null, .null, .null, .null, .null], jQ 3 11 mw0] 47) (nI 595) _ = _
  refine (nI4_x (H := H) 595 (by decide) _).trans ?_
  refine (pV_x (H := H) (d := 0) (by rfl) (Nat.le_of_ble_eq_true (by rfl)) _).trans ?_
  show nI4 (ext H [jO 11 [.ref (H.1 + 1), .int 0, .ref (H.1 + 2), .null, .null, .int 0, .int 0, .int 0, .int 0, .int 0, .int 0, .int 0, .int 0, .int 0, .int 0, .null, .int 0, .null, .int 0, .null, .null, .null, .int 0, .null, .null, .null, .int 0, .int 0, .int 0, .int 0, .null, .null, .null, .null, .null, .null], jQ 3 11 mw0, jI 595 (fun _ => 0)] 642) (nI 3) _ = _
  refine (nI4_x (H := H) 3 (by decide) _).trans ?_
  refine (pV_x (H := H) (d := 0) (by rfl) (Nat.le_of_ble_eq_true (by rfl)) _).trans ?_
  show nI4 (ext H [jO 11 [.ref (H.1 + 1), .int 0, .ref (H.1 + 2), .ref (H.1 + 3), .null, .int 0, .int 0, .int 0, .int 0, .int 0, .int 0, .int 0, .int 0, .int 0, .int 0, .null, .int 0, .null, .int 0, .null, .null, .null, .int 0, .null, .null, .null, .int 0, .int 0, .int 0, .int 0, .null, .null, .null, .null, .null, .null], jQ 3 11 mw0, jI 595 (fun _ => 0), jI 3 (fun _ => 0)] 645) (nI 900) _ = _
  refine (nI4_x (H := H) 900 (by decide) _).trans ?_
  refine (pV_x (H := H) (d := 0) (by rfl) (Nat.le_of_ble_eq_true (by rfl)) _).trans ?_
  show pV (ext H [jO 11 [.ref (H.1 + 1), .int 0, .ref (H.1 + 2), .ref (H.1 + 3), .ref (H.1 + 4), .int 0, .int 0, .int 0, .int 0, .int 0, .int 0, .int 0, .int 0, .int 0, .int 0, .null, .int 0, .null, .int 0, .null, .null, .null, .int 0, .null, .null, .null, .int 0, .int 0, .int 0, .int 0, .null, .null, .null, .null, .null, .null], jQ 3 11 mw0, jI 595 (fun _ => 0), jI 3 (fun _ => 0), jI 900 (fun _ => 0)] 1545) H.1 11 14 (.int (-1)) _ = _
  refine (pV_x (H := H) (d := 0) (by rfl) (Nat.le_of_ble_eq_true (by rfl)) _).trans ?_
  show nI4 (ext H [jO 11 [.ref (H.1 + 1), .int 0, .ref (H.1 + 2), .ref (H.1 + 3), .ref (H.1 + 4), .int 0, .int 0, .int 0, .int 0, .int 0, .int 0, .int 0, .int 0, .int 0, .int (-1), .null, .int 0, .null, .int 0, .null, .null, .null, .int 0, .null, .null, .null, .int 0, .int 0, .int 0, .int 0, .null, .null, .null, .null, .null, .null], jQ 3 11 mw0, jI 595 (fun _ => 0), jI 3 (fun _ => 0), jI 900 (fun _ => 0)] 1545) (nI 360) _ = _
  refine (nI4_x (H := H) 360 (by decide) _).trans ?_
  refine (pV_x (H := H) (d := 0) (by rfl) (Nat.le_of_ble_eq_true (by rfl)) _).trans ?_
  show nI4 (ext H [jO 11 [.ref (H.1 + 1), .int 0, .ref (H.1 + 2), .ref (H.1 + 3), .ref (H.1 + 4), .int 0, .int 0, .int 0, .int 0, .int 0, .int 0, .int 0, .int 0, .int 0, .int (-1), .ref (H.1 + 5), .int 0, .null, .int 0, .null, .null, .null, .int 0, .null, .null, .null, .int 0, .int 0, .int 0, .int 0, .null, .null, .null, .null, .null, .null], jQ 3 11 mw0, jI 595 (fun _ => 0), jI 3 (fun _ => 0), jI 900 (fun _ => 0), jI 360 (fun _ => 0)] 1905) (nI 5) _ = _
  refine (nI4_x (H := H) 5 (by decide) _).trans ?_
  refine (pV_x (H := H) (d := 0) (by rfl) (Nat.le_of_ble_eq_true (by rfl)) _).trans ?_
  show nI4 (ext H [jO 11 [.ref (H.1 + 1), .int 0, .ref (H.1 + 2), .ref (H.1 + 3), .ref (H.1 + 4), .int 0, .int 0, .int 0, .int 0, .int 0, .int 0, .int 0, .int 0, .int 0, .int (-1), .ref (H.1 + 5), .int 0, .ref (H.1 + 6), .int 0, .null, .null, .null, .int 0, .null, .null, .null, .int 0, .int 0, .int 0, .int 0, .null, .null, .null, .null, .null, .null], jQ 3 11 mw0, jI 595 (fun _ => 0), jI 3 (fun _ => 0), jI 900 (fun _ => 0), jI 360 (fun _ => 0), jI 5 (fun _ => 0)] 1910) (nI 23800) _ = _
  refine (nI4_x (H := H) 23800 (by decide) _).trans ?_
  refine (pV_x (H := H) (d := 0) (by rfl) (Nat.le_of_ble_eq_true (by rfl)) _).trans ?_
  show nI4 (ext H [jO 11 [.ref (H.1 + 1), .int 0, .ref (H.1 + 2), .ref (H.1 + 3), .ref (H.1 + 4), .int 0, .int 0, .int 0, .int 0, .int 0, .int 0, .int 0, .int 0, .int 0, .int (-1), .ref (H.1 + 5), .int 0, .ref (H.1 + 6), .int 0, .ref (H.1 + 7), .null, .null, .int 0, .null, .null, .null, .int 0, .int 0, .int 0, .int 0, .null, .null, .null, .null, .null, .null], jQ 3 11 mw0, jI 595 (fun _ => 0), jI 3 (fun _ => 0), jI 900 (fun _ => 0), jI 360 (fun _ => 0), jI 5 (fun _ => 0), jI 23800 (fun _ => 0)] 25710) (nI 595) _ = _
  refine (nI4_x (H := H) 595 (by decide) _).trans ?_
  refine (pV_x (H := H) (d := 0) (by rfl) (Nat.le_of_ble_eq_true (by rfl)) _).trans ?_
  show nI4 (ext H [jO 11 [.ref (H.1 + 1), .int 0, .ref (H.1 + 2), .ref (H.1 + 3), .ref (H.1 + 4), .int 0, .int 0, .int 0, .int 0, .int 0, .int 0, .int 0, .int 0, .int 0, .int (-1), .ref (H.1 + 5), .int 0, .ref (H.1 + 6), .int 0, .ref (H.1 + 7), .ref (H.1 + 8), .null, .int 0, .null, .null, .null, .int 0, .int 0, .int 0, .int 0, .null, .null, .null, .null, .null, .null], jQ 3 11 mw0, jI 595 (fun _ => 0), jI 3 (fun _ => 0), jI 900 (fun _ => 0), jI 360 (fun _ => 0), jI 5 (fun _ => 0), jI 23800 (fun _ => 0), jI 595 (fun _ => 0)] 26305) (nI 128) _ = _
  refine (nI4_x (H := H) 128 (by decide) _).trans ?_
  refine (pV_x (H := H) (d := 0) (by rfl) (Nat.le_of_ble_eq_true (by rfl)) _).trans ?_
  show nI4 (ext H [jO 11 [.ref (H.1 + 1), .int 0, .ref (H.1 + 2), .ref (H.1 + 3), .ref (H.1 + 4), .int 0, .int 0, .int 0, .int 0, .int 0, .int 0, .int 0, .int 0, .int 0, .int (-1), .ref (H.1 + 5), .int 0, .ref (H.1 + 6), .int 0, .ref (H.1 + 7), .ref (H.1 + 8), .ref (H.1 + 9), .int 0, .null, .null, .null, .int 0, .int 0, .int 0, .int 0, .null, .null, .null, .null, .null, .null], jQ 3 11 mw0, jI 595 (fun _ => 0), jI 3 (fun _ => 0), jI 900 (fun _ => 0), jI 360 (fun _ => 0), jI 5 (fun _ => 0), jI 23800 (fun _ => 0), jI 595 (fun _ => 0), jI 128 (fun _ => 0)] 26433) (nI 8) _ = _
  refine (nI4_x (H := H) 8 (by decide) _).trans ?_
  refine (pV_x (H := H) (d := 0) (by rfl) (Nat.le_of_ble_eq_true (by rfl)) _).trans ?_
  show nI4 (ext H [jO 11 [.ref (H.1 + 1), .int 0, .ref (H.1 + 2), .ref (H.1 + 3), .ref (H.1 + 4), .int 0, .int 0, .int 0, .int 0, .int 0, .int 0, .int 0, .int 0, .int 0, .int (-1), .ref (H.1 + 5), .int 0, .ref (H.1 + 6), .int 0, .ref (H.1 + 7), .ref (H.1 + 8), .ref (H.1 + 9), .int 0, .ref (H.1 + 10), .null, .null, .int 0, .int 0, .int 0, .int 0, .null, .null, .null, .null, .null, .null], jQ 3 11 mw0, jI 595 (fun _ => 0), jI 3 (fun _ => 0), jI 900 (fun _ => 0), jI 360 (fun _ => 0), jI 5 (fun _ => 0), jI 23800 (fun _ => 0), jI 595 (fun _ => 0), jI 128 (fun _ => 0), jI 8 (fun _ => 0)] 26441) (nI 8) _ = _
  refine (nI4_x (H := H) 8 (by decide) _).trans ?_
  refine (pV_x (H := H) (d := 0) (by rfl) (Nat.le_of_ble_eq_true (by rfl)) _).trans ?_
  show nI4 (ext H [jO 11 [.ref (H.1 + 1), .int 0, .ref (H.1 + 2), .ref (H.1 + 3), .ref (H.1 + 4), .int 0, .int 0, .int 0, .int 0, .int 0, .int 0, .int 0, .int 0, .int 0, .int (-1), .ref (H.1 + 5), .int 0, .ref (H.1 + 6), .int 0, .ref (H.1 + 7), .ref (H.1 + 8), .ref (H.1 + 9), .int 0, .ref (H.1 + 10), .ref (H.1 + 11), .null, .int 0, .int 0, .int 0, .int 0, .null, .null, .null, .null, .null, .null], jQ 3 11 mw0, jI 595 (fun _ => 0), jI 3 (fun _ => 0), jI 900 (fun _ => 0), jI 360 (fun _ => 0), jI 5 (fun _ => 0), jI 23800 (fun _ => 0), jI 595 (fun _ => 0), jI 128 (fun _ => 0), jI 8 (fun _ => 0), jI 8 (fun _ => 0)] 26449) (nI 8) _ = _
  refine (nI4_x (H := H) 8 (by decide) _).trans ?_
  refine (pV_x (H := H) (d := 0) (by rfl) (Nat.le_of_ble_eq_true (by rfl)) _).trans ?_
  show nI4 (ext H [jO 11 [.ref (H.1 + 1), .int 0, .ref (H.1 + 2), .ref (H.1 + 3), .ref (H.1 + 4), .int 0, .int 0, .int 0, .int 0, .int 0, .int 0, .int 0, .int 0, .int 0, .int (-1), .ref (H.1 + 5), .int 0, .ref (H.1 + 6), .int 0, .ref (H.1 + 7), .ref (H.1 + 8), .ref (H.1 + 9), .int 0, .ref (H.1 + 10), .ref (H.1 + 11), .ref (H.1 + 12), .int 0, .int 0, .int 0, .int 0, .null, .null, .null, .null, .null, .null], jQ 3 11 mw0, jI 595 (fun _ => 0), jI 3 (fun _ => 0), jI 900 (fun _ => 0), jI 360 (fun _ => 0), jI 5 (fun _ => 0), jI 23800 (fun _ => 0), jI 595 (fun _ => 0), jI 128 (fun _ => 0), jI 8 (fun _ => 0), jI 8 (fun _ => 0), jI 8 (fun _ => 0)] 26457) (nI 595) _ = _
  refine (nI4_x (H := H) 595 (by decide) _).trans ?_
  refine (pV_x (H := H) (d := 0) (by rfl) (Nat.le_of_ble_eq_true (by rfl)) _).trans ?_
  show nI4 (ext H [jO 11 [.ref (H.1 + 1), .int 0, .ref (H.1 + 2), .ref (H.1 + 3), .ref (H.1 + 4), .int 0, .int 0, .int 0, .int 0, .int 0, .int 0, .int 0, .int 0, .int 0, .int (-1), .ref (H.1 + 5), .int 0, .ref (H.1 + 6), .int 0, .ref (H.1 + 7), .ref (H.1 + 8), .ref (H.1 + 9), .int 0, .ref (H.1 + 10), .ref (H.1 + 11), .ref (H.1 + 12), .int 0, .int 0, .int 0, .int 0, .ref (H.1 + 13), .null, .null, .null, .null, .null], jQ 3 11 mw0, jI 595 (fun _ => 0), jI 3 (fun _ => 0), jI 900 (fun _ => 0), jI 360 (fun _ => 0), jI 5 (fun _ => 0), jI 23800 (fun _ => 0), jI 595 (fun _ => 0), jI 128 (fun _ => 0), jI 8 (fun _ => 0), jI 8 (fun _ => 0), jI 8 (fun _ => 0), jI 595 (fun _ => 0)] 27052) (nI 23800) _ = _
  refine (nI4_x (H := H) 23800 (by decide) _).trans ?_
  refine (pV_x (H := H) (d := 0) (by rfl) (Nat.le_of_ble_eq_true (by rfl)) _).trans ?_
  show nI4 (ext H [jO 11 [.ref (H.1 + 1), .int 0, .ref (H.1 + 2), .ref (H.1 + 3), .ref (H.1 + 4), .int 0, .int 0, .int 0, .int 0, .int 0, .int 0, .int 0, .int 0, .int 0, .int (-1), .ref (H.1 + 5), .int 0, .ref (H.1 + 6), .int 0, .ref (H.1 + 7), .ref (H.1 + 8), .ref (H.1 + 9), .int 0, .ref (H.1 + 10), .ref (H.1 + 11), .ref (H.1 + 12), .int 0, .int 0, .int 0, .int 0, .ref (H.1 + 13), .ref (H.1 + 14), .null, .null, .null, .null], jQ 3 11 mw0, jI 595 (fun _ => 0), jI 3 (fun _ => 0), jI 900 (fun _ => 0), jI 360 (fun _ => 0), jI 5 (fun _ => 0), jI 23800 (fun _ => 0), jI 595 (fun _ => 0), jI 128 (fun _ => 0), jI 8 (fun _ => 0), jI 8 (fun _ => 0), jI 8 (fun _ => 0), jI 595 (fun _ => 0), jI 23800 (fun _ => 0)] 50852) (nI 8) _ = _
  refine (nI4_x (H := H) 8 (by decide) _).trans ?_
  refine (pV_x (H := H) (d := 0) (by rfl) (Nat.le_of_ble_eq_true (by rfl)) _).trans ?_
  show nI4 (ext H [jO 11 [.ref (H.1 + 1), .int 0, .ref (H.1 + 2), .ref (H.1 + 3), .ref (H.1 + 4), .int 0, .int 0, .int 0, .int 0, .int 0, .int 0, .int 0, .int 0, .int 0, .int (-1), .ref (H.1 + 5), .int 0, .ref (H.1 + 6), .int 0, .ref (H.1 + 7), .ref (H.1 + 8), .ref (H.1 + 9), .int 0, .ref (H.1 + 10), .ref (H.1 + 11), .ref (H.1 + 12), .int 0, .int 0, .int 0, .int 0, .ref (H.1 + 13), .ref (H.1 + 14), .ref (H.1 + 15), .null, .null, .null], jQ 3 11 mw0, jI 595 (fun _ => 0), jI 3 (fun _ => 0), jI 900 (fun _ => 0), jI 360 (fun _ => 0), jI 5 (fun _ => 0), jI 23800 (fun _ => 0), jI 595 (fun _ => 0), jI 128 (fun _ => 0), jI 8 (fun _ => 0), jI 8 (fun _ => 0), jI 8 (fun _ => 0), jI 595 (fun _ => 0), jI 23800 (fun _ => 0), jI 8 (fun _ => 0)] 50860) (nI 8) _ = _
  refine (nI4_x (H := H) 8 (by decide) _).trans ?_
  refine (pV_x (H := H) (d := 0) (by rfl) (Nat.le_of_ble_eq_true (by rfl)) _).trans ?_
  show nI4 (ext H [jO 11 [.ref (H.1 + 1), .int 0, .ref (H.1 + 2), .ref (H.1 + 3), .ref (H.1 + 4), .int 0, .int 0, .int 0, .int 0, .int 0, .int 0, .int 0, .int 0, .int 0, .int (-1), .ref (H.1 + 5), .int 0, .ref (H.1 + 6), .int 0, .ref (H.1 + 7), .ref (H.1 + 8), .ref (H.1 + 9), .int 0, .ref (H.1 + 10), .ref (H.1 + 11), .ref (H.1 + 12), .int 0, .int 0, .int 0, .int 0, .ref (H.1 + 13), .ref (H.1 + 14), .ref (H.1 + 15), .ref (H.1 + 16), .null, .null], jQ 3 11 mw0, jI 595 (fun _ => 0), jI 3 (fun _ => 0), jI 900 (fun _ => 0), jI 360 (fun _ => 0), jI 5 (fun _ => 0), jI 23800 (fun _ => 0), jI 595 (fun _ => 0), jI 128 (fun _ => 0), jI 8 (fun _ => 0), jI 8 (fun _ => 0), jI 8 (fun _ => 0), jI 595 (fun _ => 0), jI 23800 (fun _ => 0), jI 8 (fun _ => 0), jI 8 (fun _ => 0)] 50868) (nI 8) _ = _
  refine (nI4_x (H := H) 8 (by decide) _).trans ?_
  refine (pV_x (H := H) (d := 0) (by rfl) (Nat.le_of_ble_eq_true (by rfl)) _).trans ?_
  show nI4 (ext H [jO 11 [.ref (H.1 + 1), .int 0, .ref (H.1 + 2), .ref (H.1 + 3), .ref (H.1 + 4), .int 0, .int 0, .int 0, .int 0, .int 0, .int 0, .int 0, .int 0, .int 0, .int (-1), .ref (H.1 + 5), .int 0, .ref (H.1 + 6), .int 0, .ref (H.1 + 7), .ref (H.1 + 8), .ref (H.1 + 9), .int 0, .ref (H.1 + 10), .ref (H.1 + 11), .ref (H.1 + 12), .int 0, .int 0, .int 0, .int 0, .ref (H.1 + 13), .ref (H.1 + 14), .ref (H.1 + 15), .ref (H.1 + 16), .ref (H.1 + 17), .null], jQ 3 11 mw0, jI 595 (fun _ => 0), jI 3 (fun _ => 0), jI 900 (fun _ => 0), jI 360 (fun _ => 0), jI 5 (fun _ => 0), jI 23800 (fun _ => 0), jI 595 (fun _ => 0), jI 128 (fun _ => 0), jI 8 (fun _ => 0), jI 8 (fun _ => 0), jI 8 (fun _ => 0), jI 595 (fun _ => 0), jI 23800 (fun _ => 0), jI 8 (fun _ => 0), jI 8 (fun _ => 0), jI 8 (fun _ => 0)] 50876) (nI 3) _ = _
  refine (nI4_x (H := H) 3 (by decide) _).trans ?_
  refine (pV_x (H := H) (d := 0) (by rfl) (Nat.le_of_ble_eq_true (by rfl)) _).trans ?_
  show (cV (ext H (mls H.1) 50879) H.1 11 (f_X13_layFirst H.1 (ext H (mls H.1) 50879)) fun _ h67 => some ((), h67)) = _
  rw [ei] at l1
  refine (cV_of (show (ext H (mls H.1) 50879).2.2 H.1 = jO 11 (mo H.1 s00) from ext_at (d := 0) (mls_at H.1 0 (by decide))) _ _).trans ?_
  rw [l1, bd_some]
theorem nfr_0 : nfr (dd (fun _ => none) (fun _ => none)) = 82 := by decide
theorem wdl_w (z k d : Nat) (hd : d < 28) (hk : k = 2 ∨ k = 36 ∨ k = 64) : (wdl z)[k + d]? = some (wc (z + k) W0 d) := by
  rw [← wls_at (z + k) d hd]
  have : d = 0 ∨ d = 1 ∨ d = 2 ∨ d = 3 ∨ d = 4 ∨ d = 5 ∨ d = 6 ∨ d = 7 ∨ d = 8 ∨ d = 9 ∨ d = 10 ∨ d = 11 ∨ d = 12 ∨ d = 13 ∨ d = 14 ∨ d = 15 ∨ d = 16 ∨ d = 17 ∨ d = 18 ∨ d = 19 ∨ d = 20 ∨ d = 21 ∨ d = 22 ∨ d = 23 ∨ d = 24 ∨ d = 25 ∨ d = 26 ∨ d = 27 := by omega
  rcases hk with rfl | rfl | rfl <;> rcases this with rfl | rfl | rfl | rfl | rfl | rfl | rfl | rfl | rfl | rfl | rfl | rfl | rfl | rfl | rfl | rfl | rfl | rfl | rfl | rfl | rfl | rfl | rfl | rfl | rfl | rfl | rfl | rfl <;> rfl
def T0 : ta := (v0, 0, (fun _ => v0), 0, (fun _ _ => 0))
theorem law_start (L : Nat) (xs : Nat → Int32) (z : Nat) : ∃ H, f_L_law L xs (z, 0, fun _ => jv_abs) = jlp4 (f_L_law_h23 L xs (fun h422 => some (1, h422))) jfu z (z + 100) (z + 119) 0 H ∧ IV z H (z + 120 + 28 * 82 + 35) (2430 + 50879 + 1 + 465 * 82 + 543) := by
  obtain ⟨n', e3, R0⟩ := i_X13 (ext (z, 0, fun _ => jv_abs) (wdl z) 2430)
  have len : (wdl z).length = 100 := rfl
  refine ⟨jv_al (pm (ext (ext (z, 0, fun _ => jv_abs) (wdl z) 2430) (mls (z + 100)) 50879) (z + 100) (sw s00 2 n')) (jL 1 (fun _ => 0)) 1, ?_, ?_⟩
  · unfold f_L_law
    refine (nO_0 (z, 0, fun _ => jv_abs) _ _ _ _).trans ?_
    refine (bd_eq (i_X12 (z, 0, fun _ => jv_abs))).trans ?_
    refine (nO_0 (ext (z, 0, fun _ => jv_abs) (wdl z) 2430) _ _ _ _).trans ?_
    refine (bd_eq e3).trans ?_
    rfl
  · have at1 : ∀ d, d < 100 → ∀ c, (wdl z)[d]? = some c → (jv_al (pm (ext (ext (z, 0, fun _ => jv_abs) (wdl z) 2430) (mls (z + 100)) 50879) (z + 100) (sw s00 2 n')) (jL 1 (fun _ => 0)) 1).2.2 (z + d) = c := by
      intro d hd c hc
      show (if z + d = z + 100 + 19 then _ else _) = c
      rw [if_neg (by omega)]
      show (if z + 100 ≤ z + d ∧ z + d < z + 100 + 19 then _ else _) = c
      rw [if_neg (by omega)]
      refine (ext_out (H := ext (z, 0, fun _ => jv_abs) (wdl z) 2430) (L := mls (z + 100)) (show ¬ (z + 100 ≤ z + d ∧ _) by omega)).trans ?_
      exact ext_at (H := (z, 0, fun _ => jv_abs)) hc
    have hw : ∀ k, (k = 2 ∨ k = 36 ∨ k = 64) → HV (jv_al (pm (ext (ext (z, 0, fun _ => jv_abs) (wdl z) 2430) (mls (z + 100)) 50879) (z + 100) (sw s00 2 n')) (jL 1 (fun _ => 0)) 1) (z + k) v0 := fun k hk => ⟨W0, fun d hd => by rw [Nat.add_assoc]; exact at1 (k + d) (by omega) _ (wdl_w z k d hd hk), ClsV_0⟩
    refine ⟨fun _ => none, fun _ => none, none, T0, false, T0, nm1, 0, (fun _ => 0), sw s00 2 n', (fun _ => 0), ?_, ?_, ?_, ?_, ?_, ?_, ?_⟩
    · refine ⟨Nat.le_refl _, ⟨0, at1 0 (by decide) _ rfl⟩, ?_, hw 36 (by omega), (hw 64 (by omega)).b, ⟨fun _ => 0, fun _ => 0, fun _ => 0, 0, at1 92 (by decide) _ rfl, at1 93 (by decide) _ rfl, at1 94 (by decide) _ rfl, at1 95 (by decide) _ rfl⟩, ⟨fun _ => 0, fun _ => 0, 0, 0, 0, 0, at1 96 (by decide) _ rfl, at1 97 (by decide) _ rfl, at1 98 (by decide) _ rfl, fun j hj => absurd hj (Nat.not_lt_zero j)⟩, ⟨fun _ => 0, at1 99 (by decide) _ rfl⟩, (fun i hi => by cases hi), (fun h => by cases h), (fun _ k _ => rfl), ?_, ?_, ?_, ?_⟩
      · refine ⟨0, fun _ => 0, fun _ => 0, fun _ => 0, fun _ => 0, ?_, hw 2 (by omega), by decide, fun i hi => absurd hi (Nat.not_lt_zero i), fun j hj => absurd hj (Nat.not_lt_zero j), fun j hj => rfl⟩
        exact ⟨at1 1 (by decide) _ rfl, at1 30 (by decide) _ rfl, at1 31 (by decide) _ rfl, at1 32 (by decide) _ rfl, at1 33 (by decide) _ rfl, at1 34 (by decide) _ rfl, at1 35 (by decide) _ rfl⟩
      · have no : ∀ k, dd (fun _ => none) (fun _ => none) k = none := fun k => by unfold dd; split <;> rfl
        exact ⟨(fun k b _ h => by rw [no] at h; cases h), (fun k l b c _ _ _ h => by rw [no] at h; cases h), (fun i hi => by cases hi), (fun i k b hi => by cases hi)⟩
      · have no : ∀ k, dd (fun _ => none) (fun _ => none) k = none := fun k => by unfold dd; split <;> rfl
        intro k b _ h
        rw [no] at h; cases h
      · rw [nfr_0, if_pos rfl]
        show z + 100 + 19 + 1 + 28 * 82 + 35 ≤ _
        omega
      · rw [nfr_0, if_pos rfl]
        show 0 + 2430 + 50879 + 1 + 465 * 82 + 543 ≤ _
        omega
    · intro d hd
      show (if z + 100 + d = z + 100 + 19 then _ else _) = _
      rw [if_neg (by omega)]
      exact pm_at _ (z + 100) _ d hd
    · show (if z + 119 = z + 100 + 19 then _ else _) = _
      rw [if_pos (by omega)]
    · refine ⟨by rw [sw_eq]; exact R0, ?_, fun i hi => absurd hi (Nat.not_lt_zero i), ?_, fun i hi => absurd hi (Nat.not_lt_zero i), ?_, ?_, (fun h => by cases h), ?_, ?_, fun i hi => absurd hi (Nat.not_lt_zero i)⟩
      · rw [sw_ne _ _ _ _ (by decide)]; rfl
      · rw [sw_ne _ _ _ _ (by decide)]; rfl
      · intro j hj; rw [sw_ne _ _ _ _ (by decide)]; rfl
      · rw [sw_ne _ _ _ _ (by decide)]; rfl
      · rw [sw_ne _ _ _ _ (by decide)]; rfl
      · rw [sw_ne _ _ _ _ (by decide)]; rfl
    · exact ⟨OK_0, Nat.zero_le _, fun i hi => absurd hi (Nat.not_lt_zero i), Nat.zero_le _, fun i hi => absurd hi (Nat.not_lt_zero i)⟩
    · intro h; cases h
    · exact ⟨Nat.zero_le _, fun j hj => absurd hj (Nat.not_lt_zero j)⟩
theorem law_l (N : Nat) (xs : Nat → Int32) (z : Nat) (hN : N ≤ 3072) (L : Nat → Nat → Nat → Nat → Int32 → jh → Option (Int32 × jh)) (hL : ∀ f, L (f + 1) = f_L_law_h23 N xs (fun h422 => some (1, h422)) (L f)) : ∀ k t f H b1 b2, t + k = 513 → k + 1 ≤ f → IV z H b1 b2 → ∃ h', L f z (z + 100) (z + 119) (nI (6 * t)) H = some (1, h') ∧ h'.1 ≤ b1 + k ∧ h'.2.1 ≤ b2 + 6 * k := by
  have en : ∀ {H : jh} {b1 b2 : Nat}, IV z H b1 b2 → H.1 ≤ b1 ∧ H.2.1 ≤ b2 := by
    rintro H b1 b2 ⟨Q, Q2, I, T, hi, TI, fl, n, tp, s, fo, C, -⟩
    have p1 := C.p1
    have p2 := C.p2
    exact ⟨by omega, by omega⟩
  have cond : ∀ t, t ≤ 513 → ((Int32.ofNat N) - 6 < nI (6 * t)) = (N < 6 * t + 6) := by
    intro t ht
    by_cases h6 : 6 ≤ N
    · rw [show (Int32.ofNat N) - 6 = nI (N - 6) from al_sub h6, al_lt (by omega) (by omega)]
      exact propext ⟨fun g => by omega, fun g => by omega⟩
    · have h5 : N = 0 ∨ N = 1 ∨ N = 2 ∨ N = 3 ∨ N = 4 ∨ N = 5 := by omega
      refine propext ⟨fun _ => by omega, fun _ => ?_⟩
      have a1 : (Int32.ofNat N) - 6 < 0 := by rcases h5 with rfl | rfl | rfl | rfl | rfl | rfl <;> decide
      have a2 : ¬ nI (6 * t) < 0 := by rw [al_neg (by omega)]; exact id
      exact Int32.lt_of_lt_of_le a1 (Int32.not_lt.mp a2)
  intro k
  induction k with
  | zero =>
    intro t f H b1 b2 ht hf V
    obtain ⟨f, rfl⟩ : ∃ g, f = g + 1 := ⟨f - 1, by omega⟩
    refine ⟨H, ?_, (en V).1, (en V).2⟩
    rw [hL]
    unfold f_L_law_h23
    rw [if_pos (by rw [cond t (by omega)]; omega)]
  | succ k ih =>
    intro t f H b1 b2 ht hf V
    obtain ⟨f, rfl⟩ : ∃ g, f = g + 1 := ⟨f - 1, by omega⟩
    by_cases h0 : N < 6 * t + 6
    · refine ⟨H, ?_, by have := (en V).1; omega, by have := (en V).2; omega⟩
      rw [hL]
      unfold f_L_law_h23
      rw [if_pos (by rw [cond t (by omega)]; exact h0)]
    · have X : ∀ j, j < 6 → ∀ (K : Int32 → Option (Int32 × jh)), xI N xs (nI (6 * t + j)) K = K (xs (6 * t + j)) := by
        intro j hj K
        unfold xI
        rw [if_neg (al_in (by omega) (by omega)), al_cl (by omega)]
      obtain ⟨H', e1, V1⟩ := law_b (K23 := fun h422 => some (1, h422)) (R23 := L f) (x4 := nI (6 * t)) V (X 0 (by decide)) (fun K => by rw [show nI (6 * t) + (1 : Int32) = nI (6 * t + 1) from al_add _ 1]; exact X 1 (by decide) K) (fun K => by rw [show nI (6 * t) + (2 : Int32) = nI (6 * t + 2) from al_add _ 2]; exact X 2 (by decide) K) (fun K => by rw [show nI (6 * t) + (3 : Int32) = nI (6 * t + 3) from al_add _ 3]; exact X 3 (by decide) K) (fun K => by rw [show nI (6 * t) + (4 : Int32) = nI (6 * t + 4) from al_add _ 4]; exact X 4 (by decide) K) (fun K => by rw [show nI (6 * t) + (5 : Int32) = nI (6 * t + 5) from al_add _ 5]; exact X 5 (by decide) K) (by rw [cond t (by omega)]; exact h0)
      obtain ⟨h', e2, q1, q2⟩ := ih (t + 1) f H' (b1 + 1) (b2 + 6) (by omega) (by omega) V1
      refine ⟨h', ?_, by omega, by omega⟩
      rw [hL]
      refine Eq.trans e1 ?_
      rw [show nI (6 * t) + (6 : Int32) = nI (6 * (t + 1)) from al_add _ 6]
      exact e2
theorem pure_law : jv_pure := by
  intro L xs z hL
  obtain ⟨f0, hf0⟩ := jfu_s
  obtain ⟨H, e1, V⟩ := law_start L xs z
  obtain ⟨h', e2, q1, q2⟩ := law_l L xs z hL (jlp4 (f_L_law_h23 L xs (fun h422 => some (1, h422)))) (fun _ => rfl) 513 0 jfu H _ _ (by omega) (by omega) V
  exact ⟨h', e1.trans e2, by omega, by omega⟩
