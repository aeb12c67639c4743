/-! what the printed functions are made of: decoded rows by their place, loops, nullable references, small rows -/
def jv_dec (c : ByteArray) (l : List (Nat × Instr × Nat)) : Bool := l.all fun q => decide (decode c q.1 = .ok (q.2.1, q.2.2))
theorem jv_dk {c : ByteArray} {l : List (Nat × Instr × Nat)} (h : jv_dec c l = true) {k pc n : Nat} {i : Instr} (e : l[k]? = some (pc, i, n)) : decode c pc = .ok (i, n) := by
  have h1 := List.all_eq_true.mp h (pc, i, n) (List.mem_of_getElem? e)
  simpa using h1
def jfu : Nat := 100000
/-- in the tables, by its place -/
theorem jv_at {w : Cond} (i : Nat) (e : lw_tbl[i]? = some w) : w ∈ lw_tbl := List.mem_of_getElem? e
def jlp0 {ρ : Type} (F : (jh → Option ρ) → jh → Option ρ) : Nat → jh → Option ρ
  | 0 => fun _ => none
  | n + 1 => F (jlp0 F n)
theorem jlp0_ok {ρ : Type} {F : (jh → Option ρ) → jh → Option ρ} {P : jh → Option ρ → Prop} (hF : ∀ R, (∀  h, P  h (R  h)) → ∀  h, P  h (F R  h)) (h0 : ∀  h, P  h none) : ∀ n  h, P  h (jlp0 F n  h)
  | 0 => h0
  | n + 1 => hF _ (jlp0_ok hF h0 n)
def jlp1 {A1 : Type} {ρ : Type} (F : (A1 → jh → Option ρ) → A1 → jh → Option ρ) : Nat → A1 → jh → Option ρ
  | 0 => fun _ _ => none
  | n + 1 => F (jlp1 F n)
theorem jlp1_ok {A1 : Type} {ρ : Type} {F : (A1 → jh → Option ρ) → A1 → jh → Option ρ} {P : A1 → jh → Option ρ → Prop} (hF : ∀ R, (∀ a1 h, P a1 h (R a1 h)) → ∀ a1 h, P a1 h (F R a1 h)) (h0 : ∀ a1 h, P a1 h none) : ∀ n a1 h, P a1 h (jlp1 F n a1 h)
  | 0 => h0
  | n + 1 => hF _ (jlp1_ok hF h0 n)
def jlp2 {A1 A2 : Type} {ρ : Type} (F : (A1 → A2 → jh → Option ρ) → A1 → A2 → jh → Option ρ) : Nat → A1 → A2 → jh → Option ρ
  | 0 => fun _ _ _ => none
  | n + 1 => F (jlp2 F n)
theorem jlp2_ok {A1 A2 : Type} {ρ : Type} {F : (A1 → A2 → jh → Option ρ) → A1 → A2 → jh → Option ρ} {P : A1 → A2 → jh → Option ρ → Prop} (hF : ∀ R, (∀ a1 a2 h, P a1 a2 h (R a1 a2 h)) → ∀ a1 a2 h, P a1 a2 h (F R a1 a2 h)) (h0 : ∀ a1 a2 h, P a1 a2 h none) : ∀ n a1 a2 h, P a1 a2 h (jlp2 F n a1 a2 h)
  | 0 => h0
  | n + 1 => hF _ (jlp2_ok hF h0 n)
def jlp3 {A1 A2 A3 : Type} {ρ : Type} (F : (A1 → A2 → A3 → jh → Option ρ) → A1 → A2 → A3 → jh → Option ρ) : Nat → A1 → A2 → A3 → jh → Option ρ
  | 0 => fun _ _ _ _ => none
  | n + 1 => F (jlp3 F n)
theorem jlp3_ok {A1 A2 A3 : Type} {ρ : Type} {F : (A1 → A2 → A3 → jh → Option ρ) → A1 → A2 → A3 → jh → Option ρ} {P : A1 → A2 → A3 → jh → Option ρ → Prop} (hF : ∀ R, (∀ a1 a2 a3 h, P a1 a2 a3 h (R a1 a2 a3 h)) → ∀ a1 a2 a3 h, P a1 a2 a3 h (F R a1 a2 a3 h)) (h0 : ∀ a1 a2 a3 h, P a1 a2 a3 h none) : ∀ n a1 a2 a3 h, P a1 a2 a3 h (jlp3 F n a1 a2 a3 h)
  | 0 => h0
  | n + 1 => hF _ (jlp3_ok hF h0 n)
def jlp4 {A1 A2 A3 A4 : Type} {ρ : Type} (F : (A1 → A2 → A3 → A4 → jh → Option ρ) → A1 → A2 → A3 → A4 → jh → Option ρ) : Nat → A1 → A2 → A3 → A4 → jh → Option ρ
  | 0 => fun _ _ _ _ _ => none
  | n + 1 => F (jlp4 F n)
theorem jlp4_ok {A1 A2 A3 A4 : Type} {ρ : Type} {F : (A1 → A2 → A3 → A4 → jh → Option ρ) → A1 → A2 → A3 → A4 → jh → Option ρ} {P : A1 → A2 → A3 → A4 → jh → Option ρ → Prop} (hF : ∀ R, (∀ a1 a2 a3 a4 h, P a1 a2 a3 a4 h (R a1 a2 a3 a4 h)) → ∀ a1 a2 a3 a4 h, P a1 a2 a3 a4 h (F R a1 a2 a3 a4 h)) (h0 : ∀ a1 a2 a3 a4 h, P a1 a2 a3 a4 h none) : ∀ n a1 a2 a3 a4 h, P a1 a2 a3 a4 h (jlp4 F n a1 a2 a3 a4 h)
  | 0 => h0
  | n + 1 => hF _ (jlp4_ok hF h0 n)
def jlp5 {A1 A2 A3 A4 A5 : Type} {ρ : Type} (F : (A1 → A2 → A3 → A4 → A5 → jh → Option ρ) → A1 → A2 → A3 → A4 → A5 → jh → Option ρ) : Nat → A1 → A2 → A3 → A4 → A5 → jh → Option ρ
  | 0 => fun _ _ _ _ _ _ => none
  | n + 1 => F (jlp5 F n)
theorem jlp5_ok {A1 A2 A3 A4 A5 : Type} {ρ : Type} {F : (A1 → A2 → A3 → A4 → A5 → jh → Option ρ) → A1 → A2 → A3 → A4 → A5 → jh → Option ρ} {P : A1 → A2 → A3 → A4 → A5 → jh → Option ρ → Prop} (hF : ∀ R, (∀ a1 a2 a3 a4 a5 h, P a1 a2 a3 a4 a5 h (R a1 a2 a3 a4 a5 h)) → ∀ a1 a2 a3 a4 a5 h, P a1 a2 a3 a4 a5 h (F R a1 a2 a3 a4 a5 h)) (h0 : ∀ a1 a2 a3 a4 a5 h, P a1 a2 a3 a4 a5 h none) : ∀ n a1 a2 a3 a4 a5 h, P a1 a2 a3 a4 a5 h (jlp5 F n a1 a2 a3 a4 a5 h)
  | 0 => h0
  | n + 1 => hF _ (jlp5_ok hF h0 n)
def jlp6 {A1 A2 A3 A4 A5 A6 : Type} {ρ : Type} (F : (A1 → A2 → A3 → A4 → A5 → A6 → jh → Option ρ) → A1 → A2 → A3 → A4 → A5 → A6 → jh → Option ρ) : Nat → A1 → A2 → A3 → A4 → A5 → A6 → jh → Option ρ
  | 0 => fun _ _ _ _ _ _ _ => none
  | n + 1 => F (jlp6 F n)
theorem jlp6_ok {A1 A2 A3 A4 A5 A6 : Type} {ρ : Type} {F : (A1 → A2 → A3 → A4 → A5 → A6 → jh → Option ρ) → A1 → A2 → A3 → A4 → A5 → A6 → jh → Option ρ} {P : A1 → A2 → A3 → A4 → A5 → A6 → jh → Option ρ → Prop} (hF : ∀ R, (∀ a1 a2 a3 a4 a5 a6 h, P a1 a2 a3 a4 a5 a6 h (R a1 a2 a3 a4 a5 a6 h)) → ∀ a1 a2 a3 a4 a5 a6 h, P a1 a2 a3 a4 a5 a6 h (F R a1 a2 a3 a4 a5 a6 h)) (h0 : ∀ a1 a2 a3 a4 a5 a6 h, P a1 a2 a3 a4 a5 a6 h none) : ∀ n a1 a2 a3 a4 a5 a6 h, P a1 a2 a3 a4 a5 a6 h (jlp6 F n a1 a2 a3 a4 a5 a6 h)
  | 0 => h0
  | n + 1 => hF _ (jlp6_ok hF h0 n)
def jlp7 {A1 A2 A3 A4 A5 A6 A7 : Type} {ρ : Type} (F : (A1 → A2 → A3 → A4 → A5 → A6 → A7 → jh → Option ρ) → A1 → A2 → A3 → A4 → A5 → A6 → A7 → jh → Option ρ) : Nat → A1 → A2 → A3 → A4 → A5 → A6 → A7 → jh → Option ρ
  | 0 => fun _ _ _ _ _ _ _ _ => none
  | n + 1 => F (jlp7 F n)
theorem jlp7_ok {A1 A2 A3 A4 A5 A6 A7 : Type} {ρ : Type} {F : (A1 → A2 → A3 → A4 → A5 → A6 → A7 → jh → Option ρ) → A1 → A2 → A3 → A4 → A5 → A6 → A7 → jh → Option ρ} {P : A1 → A2 → A3 → A4 → A5 → A6 → A7 → jh → Option ρ → Prop} (hF : ∀ R, (∀ a1 a2 a3 a4 a5 a6 a7 h, P a1 a2 a3 a4 a5 a6 a7 h (R a1 a2 a3 a4 a5 a6 a7 h)) → ∀ a1 a2 a3 a4 a5 a6 a7 h, P a1 a2 a3 a4 a5 a6 a7 h (F R a1 a2 a3 a4 a5 a6 a7 h)) (h0 : ∀ a1 a2 a3 a4 a5 a6 a7 h, P a1 a2 a3 a4 a5 a6 a7 h none) : ∀ n a1 a2 a3 a4 a5 a6 a7 h, P a1 a2 a3 a4 a5 a6 a7 h (jlp7 F n a1 a2 a3 a4 a5 a6 a7 h)
  | 0 => h0
  | n + 1 => hF _ (jlp7_ok hF h0 n)
def jlp8 {A1 A2 A3 A4 A5 A6 A7 A8 : Type} {ρ : Type} (F : (A1 → A2 → A3 → A4 → A5 → A6 → A7 → A8 → jh → Option ρ) → A1 → A2 → A3 → A4 → A5 → A6 → A7 → A8 → jh → Option ρ) : Nat → A1 → A2 → A3 → A4 → A5 → A6 → A7 → A8 → jh → Option ρ
  | 0 => fun _ _ _ _ _ _ _ _ _ => none
  | n + 1 => F (jlp8 F n)
theorem jlp8_ok {A1 A2 A3 A4 A5 A6 A7 A8 : Type} {ρ : Type} {F : (A1 → A2 → A3 → A4 → A5 → A6 → A7 → A8 → jh → Option ρ) → A1 → A2 → A3 → A4 → A5 → A6 → A7 → A8 → jh → Option ρ} {P : A1 → A2 → A3 → A4 → A5 → A6 → A7 → A8 → jh → Option ρ → Prop} (hF : ∀ R, (∀ a1 a2 a3 a4 a5 a6 a7 a8 h, P a1 a2 a3 a4 a5 a6 a7 a8 h (R a1 a2 a3 a4 a5 a6 a7 a8 h)) → ∀ a1 a2 a3 a4 a5 a6 a7 a8 h, P a1 a2 a3 a4 a5 a6 a7 a8 h (F R a1 a2 a3 a4 a5 a6 a7 a8 h)) (h0 : ∀ a1 a2 a3 a4 a5 a6 a7 a8 h, P a1 a2 a3 a4 a5 a6 a7 a8 h none) : ∀ n a1 a2 a3 a4 a5 a6 a7 a8 h, P a1 a2 a3 a4 a5 a6 a7 a8 h (jlp8 F n a1 a2 a3 a4 a5 a6 a7 a8 h)
  | 0 => h0
  | n + 1 => hF _ (jlp8_ok hF h0 n)
def jlp9 {A1 A2 A3 A4 A5 A6 A7 A8 A9 : Type} {ρ : Type} (F : (A1 → A2 → A3 → A4 → A5 → A6 → A7 → A8 → A9 → jh → Option ρ) → A1 → A2 → A3 → A4 → A5 → A6 → A7 → A8 → A9 → jh → Option ρ) : Nat → A1 → A2 → A3 → A4 → A5 → A6 → A7 → A8 → A9 → jh → Option ρ
  | 0 => fun _ _ _ _ _ _ _ _ _ _ => none
  | n + 1 => F (jlp9 F n)
theorem jlp9_ok {A1 A2 A3 A4 A5 A6 A7 A8 A9 : Type} {ρ : Type} {F : (A1 → A2 → A3 → A4 → A5 → A6 → A7 → A8 → A9 → jh → Option ρ) → A1 → A2 → A3 → A4 → A5 → A6 → A7 → A8 → A9 → jh → Option ρ} {P : A1 → A2 → A3 → A4 → A5 → A6 → A7 → A8 → A9 → jh → Option ρ → Prop} (hF : ∀ R, (∀ a1 a2 a3 a4 a5 a6 a7 a8 a9 h, P a1 a2 a3 a4 a5 a6 a7 a8 a9 h (R a1 a2 a3 a4 a5 a6 a7 a8 a9 h)) → ∀ a1 a2 a3 a4 a5 a6 a7 a8 a9 h, P a1 a2 a3 a4 a5 a6 a7 a8 a9 h (F R a1 a2 a3 a4 a5 a6 a7 a8 a9 h)) (h0 : ∀ a1 a2 a3 a4 a5 a6 a7 a8 a9 h, P a1 a2 a3 a4 a5 a6 a7 a8 a9 h none) : ∀ n a1 a2 a3 a4 a5 a6 a7 a8 a9 h, P a1 a2 a3 a4 a5 a6 a7 a8 a9 h (jlp9 F n a1 a2 a3 a4 a5 a6 a7 a8 a9 h)
  | 0 => h0
  | n + 1 => hF _ (jlp9_ok hF h0 n)
/-- an answer of a boolean method -/
def jz (v : Int32) (h : jh) : Option (Int32 × jh) := if v &&& 1 = v then some (v, h) else none
def jzX (v : Int32) (h : jh) : Option ((Int32 ⊕ String) × jh) := if v &&& 1 = v then some (.inl v, h) else none
def nq {β : Type} (r : Option Nat) (A : Option β) (B : Nat → Option β) : Option β := match r with
  | none => A
  | some a => B a
/-- two acts compared -/
def acm {β : Type} (t : Option Nat) (k : Nat) (A B : Option β) : Option β := match t with
  | none => B
  | some e => if e < 11 then (if e = k then A else B) else none
def cpI {β : Type} (h : jh) (a0 : Nat) (sp : Int32) (a : Nat) (dp n : Int32) (K : jh → Option β) : Option β := match h.2.2 a0, h.2.2 a with
  | .inl (n0, f), .inl (n1, g) => if sp < 0 ∨ dp < 0 ∨ n < 0 ∨ n0 < sp.toNatClampNeg + n.toNatClampNeg ∨ n1 < dp.toNatClampNeg + n.toNatClampNeg then none else K (jv_wr h a (jI n1 (va_cpy f g sp.toNatClampNeg dp.toNatClampNeg n.toNatClampNeg)))
  | _, _ => none
def eO {β : Type} (e : Nat) (K : Int32 → Option β) : Option β := if e < 11 then K (Int32.ofNat e) else none
def tL {β : Type} (t : Nat) (K : Int32 → Option β) : Option β := if t < 17 then K (Int32.ofNat (jv_tx.getD t []).length) else none
def tC {β : Type} (t : Nat) (i : Int32) (K : Int32 → Option β) : Option β := if t < 17 ∧ ¬ (i < 0 ∨ (jv_tx.getD t []).length ≤ i.toNatClampNeg) then K (Int32.ofNat ((jv_tx.getD t []).getD i.toNatClampNeg 0)) else none
abbrev jeE (X : jx) : Option Nat → jr := fun r => .inl (some (va_rf (r.map (jv_ad X))))
section JTools
variable {α : Type} {X : jx} {M : jm} {b0 : Nat × Nat} {en : α → jr} {pc : Nat} {L : List (Option Value)} {S : List Value} {h : jh} {o o1 o2 : Option (α × jh)}
theorem jv_nn {r : Option Nat} {K : Nat → Option (α × jh)} (k : ∀ a, r = some a → jv_O X M b0 en pc L S h (K a)) : jv_O X M b0 en pc L S h (nn r K) := by
  cases r with
  | none => exact jv_none rfl
  | some a => exact k a rfl
theorem jv_nq {r : Option Nat} {B : Nat → Option (α × jh)} (k1 : r = none → jv_O X M b0 en pc L S h o1) (k : ∀ a, r = some a → jv_O X M b0 en pc L S h (B a)) : jv_O X M b0 en pc L S h (nq r o1 B) := by
  cases r with
  | none => exact k1 rfl
  | some a => exact k a rfl
theorem jv_acm_ne {t : Option Nat} {k : Nat} {off : Int} {tgt : Nat} (hd : decode M.2.1 pc = .ok (.if_acmp .ne off, 3)) (ht : (pc : Int) + off = (tgt : Int)) (hk : k < 11) (kt : jv_O X M b0 en tgt L S h o2) (kf : jv_O X M b0 en (pc + 3) L S h o1) : jv_O X M b0 en pc L (.ref (jv_ad X k) :: va_rf (t.map (jv_ad X)) :: S) h (acm t k o1 o2) := by
  unfold acm
  split
  · exact jv_go (fun p e R s m args below meth c H locs cells slots Q ls hC hL hn hH k9 => lv_acmp_ne (rx := none) (ry := some (jv_ad X k)) hC.1 hC.2.1 hd ht (fun _ => k9 ls hL hn) (fun h => by cases h)) kt
  · next e0 =>
    split
    · next he =>
      split
      · next hek =>
        subst hek
        exact jv_go (fun p e R s m args below meth c H locs cells slots Q ls hC hL hn hH k9 => lv_acmp_ne (rx := some (jv_ad X e0)) (ry := some (jv_ad X e0)) hC.1 hC.2.1 hd ht (fun h => absurd rfl h) (fun _ => k9 ls hL hn)) kf
      · next hek =>
        exact jv_go (fun p e R s m args below meth c H locs cells slots Q ls hC hL hn hH k9 => lv_acmp_ne (rx := some (jv_ad X e0)) (ry := some (jv_ad X k)) hC.1 hC.2.1 hd ht (fun _ => k9 ls hL hn) (fun h => absurd (hC.2.2.2.2.2.1.2.2.1.2.2.2.2.1 e0 k he hk (Option.some.inj h)) hek)) kt
    · exact jv_none rfl
theorem jv_acm_eq {t : Option Nat} {k : Nat} {off : Int} {tgt : Nat} (hd : decode M.2.1 pc = .ok (.if_acmp .eq off, 3)) (ht : (pc : Int) + off = (tgt : Int)) (hk : k < 11) (kt : jv_O X M b0 en tgt L S h o1) (kf : jv_O X M b0 en (pc + 3) L S h o2) : jv_O X M b0 en pc L (.ref (jv_ad X k) :: va_rf (t.map (jv_ad X)) :: S) h (acm t k o1 o2) := by
  unfold acm
  split
  · exact jv_go (fun p e R s m args below meth c H locs cells slots Q ls hC hL hn hH k9 => lv_acmp_eq (rx := none) (ry := some (jv_ad X k)) hC.1 hC.2.1 hd ht (fun h => by cases h) (fun _ => k9 ls hL hn)) kf
  · next e0 =>
    split
    · next he =>
      split
      · next hek =>
        subst hek
        exact jv_go (fun p e R s m args below meth c H locs cells slots Q ls hC hL hn hH k9 => lv_acmp_eq (rx := some (jv_ad X e0)) (ry := some (jv_ad X e0)) hC.1 hC.2.1 hd ht (fun _ => k9 ls hL hn) (fun h => absurd rfl h)) kt
      · next hek =>
        exact jv_go (fun p e R s m args below meth c H locs cells slots Q ls hC hL hn hH k9 => lv_acmp_eq (rx := some (jv_ad X e0)) (ry := some (jv_ad X k)) hC.1 hC.2.1 hd ht (fun h => absurd (hC.2.2.2.2.2.1.2.2.1.2.2.2.2.1 e0 k he hk (Option.some.inj h)) hek) (fun _ => k9 ls hL hn)) kf
    · exact jv_none rfl
/-- a switch's way out: no case's number -/
theorem jv_ne {x : Int32} {k : Int} (h1 : -2147483648 ≤ k) (h2 : k ≤ 2147483647) (h : ¬ x = Int32.ofInt k) : x.toInt ≠ k := by
  intro e
  apply h
  rw [← e, Int32.ofInt_toInt]
theorem jv_arraycopy {a0 a i : Nat} {sp dp n : Int32} {K : jh → Option (α × jh)} (hd : decode M.2.1 pc = .ok (.invokestatic i, 3)) (w1 : Cond.methodLink M.1.cls i arraycopyName ∈ lw_tbl) (w2 : Cond.native arraycopyName ∈ lw_tbl) (w3 : Cond.static arraycopyName ∈ lw_tbl) (w4 : Cond.initialized "java/lang/System" ∈ lw_tbl) (hS : (S.map fun v => v.category).sum ≤ 8) (hf : 1 ≤ M.2.2.2.2.1 ∧ 8 + (nativeFrameWords "java/lang/System" "arraycopy" 5 + 11) ≤ M.2.2.2.2.2.1)
    (kk : ∀ h1, jv_O X M b0 en (pc + 3) L S h1 (K h1)) : jv_O X M b0 en pc L (.int n :: .int dp :: .ref a :: .int sp :: .ref a0 :: S) h (cpI h a0 sp a dp n K) := by
  unfold cpI
  split
  · next n0 f n1 g hc0 hc1 =>
    split
    · exact jv_none rfl
    · next hin =>
      have h1 : ¬ sp < 0 := fun q => hin (Or.inl q)
      have h2 : ¬ dp < 0 := fun q => hin (Or.inr (Or.inl q))
      have h3 : ¬ n < 0 := fun q => hin (Or.inr (Or.inr (Or.inl q)))
      have h4 : sp.toNatClampNeg + n.toNatClampNeg ≤ n0 := Nat.not_lt.mp fun q => hin (Or.inr (Or.inr (Or.inr (Or.inl q))))
      have h5 : dp.toNatClampNeg + n.toNatClampNeg ≤ n1 := Nat.not_lt.mp fun q => hin (Or.inr (Or.inr (Or.inr (Or.inr q))))
      intro a9 h' e0
      obtain ⟨k1, k2⟩ := kk (jv_wr h a (jI n1 (va_cpy f g sp.toNatClampNeg dp.toNatClampNeg n.toNatClampNeg))) a9 h' e0
      refine ⟨k1, fun b1 b2 p e R s m args below meth c H locs ls hC hc hs hlo hL hn hH => ?_⟩
      obtain ⟨g1, g2, hat1⟩ := hH.at hc1 (by intro e; cases e)
      obtain ⟨-, -, hat0⟩ := hH.at hc0 (by intro e; cases e)
      have hU := hC.2.2.2.2.2.1
      have hT9 := hU.1
      have hK := hU.2.1
      have hfr := hC.2.2.2.2.2.2.2.2.2.1
      have hlc := hC.2.2.2.2.2.2.2.2.2.2
      have nn : ∀ z : Int32, ¬ z < 0 → z.toInt = (z.toNatClampNeg : Int) := by
        intro z hz
        have hz0 : (0 : Int) ≤ z.toInt := by
          have := Int32.not_lt.mp hz
          simpa using Int32.le_iff_toInt_le.mp this
        show z.toInt = ((z.toInt.toNat : Nat) : Int)
        omega
      intro T hT X0
      have hx0 : H[a0]? = some (vp_cell (X.2.2.2.1 0) (n0, .inl f)) := hat0
      have hx1 : H[a]? = some (vp_cell (X.2.2.2.1 0) (n1, .inl g)) := hat1
      obtain ⟨-, y0, hk0, cm0, hkk0⟩ := (hK.2 0 _ rfl).1 n0 (fun j => .int (f j))
      obtain ⟨-, y1, hk1, cm1, hkk1⟩ := (hK.2 0 _ rfl).1 n1 (fun j => .int (g j))
      obtain ⟨vm', X', step⟩ := X0.arraycopy hC.1 hC.2.2.2.2.1 (hT9.use w1 rfl args) (hT9.use w2 rfl args) (hT9.use w3 rfl args) (hT9.use w4 rfl args) (src := a0) (dst := a) (cs := vp_cell (X.2.2.2.1 0) (n0, .inl f)) (cd := vp_cell (X.2.2.2.1 0) (n1, .inl g)) (srcPos := sp) (destPos := dp) (n := n) (by rw [hT]; exact hx0) (by rw [hT]; exact hx1)
        (fun _ h => by cases h) (fun _ h => by cases h) (fun h => by cases h) (fun h => by cases h) hk0 hk1 hkk0 hkk1 (by simp [show refKind .int = false from rfl]) h1 h2 h3
        (by rw [nn sp h1, nn n h3]; show ¬ _ > ((arrV (X.2.2.2.1 0) n0 (fun j => .int (f j))).slots.size : Int); rw [arrV_size]; omega)
        (by rw [nn dp h2, nn n h3]; show ¬ _ > ((arrV (X.2.2.2.1 0) n1 (fun j => .int (g j))).slots.size : Int); rw [arrV_size]; omega)
        (fun vm₁ _ i hi => by
          have e : (vp_cell (X.2.2.2.1 0) (n0, .inl f)).slots.getD (sp.toNatClampNeg + i) .null = .int (f (sp.toNatClampNeg + i)) := by
            show (arrV (X.2.2.2.1 0) n0 (fun j => .int (f j))).slots.getD _ _ = _
            rw [Array.getD_eq_getD_getElem?, arrV_read _ _ (by omega)]
            rfl
          refine ⟨?_, ?_⟩
          · rw [e]; rfl
          · rw [e]; exact trivial)
        (g := F0 m pc ls (.int n :: .int dp :: .ref a :: .int sp :: .ref a0 :: S)) rfl (by show ls.size = _; rw [hL.1, hn, hC.2.2.2.1]) (rest := S) rfl (by rw [hC.2.1]; exact hd) (by omega) (by show 2 * 0 + _ + _ ≤ _; omega)
      have e1 : copied (vp_cell (X.2.2.2.1 0) (n0, .inl f)) (vp_cell (X.2.2.2.1 0) (n1, .inl g)) sp dp n = vp_cell (X.2.2.2.1 0) (n1, .inl (va_cpy f g sp.toNatClampNeg dp.toNatClampNeg n.toNatClampNeg)) := va_copied (fun z => .int z) _ _ f g h4
      rw [e1] at X' step
      have hl : a < H.size := (Array.getElem?_eq_some_iff.mp hx1).1
      have hheap : ((T.setVm vm').setCell a (vp_cell (X.2.2.2.1 0) (n1, .inl (va_cpy f g sp.toNatClampNeg dp.toNatClampNeg n.toNatClampNeg)))).heap = H.setIfInBounds a (vp_cell (X.2.2.2.1 0) (n1, .inl (va_cpy f g sp.toNatClampNeg dp.toNatClampNeg n.toNatClampNeg))) := by rw [← hT]; rfl
      have hH1 : jv_H X (jv_wr h a (jI n1 (va_cpy f g sp.toNatClampNeg dp.toNatClampNeg n.toNatClampNeg))) (H.setIfInBounds a (vp_cell (X.2.2.2.1 0) (n1, .inl (va_cpy f g sp.toNatClampNeg dp.toNatClampNeg n.toNatClampNeg)))) := by
        refine hH.wr g1 g2 (by simp) (fun q hq => by simp [Array.getElem?_setIfInBounds, Ne.symm hq]) ?_
        show (H.setIfInBounds a _)[a]? = some _
        simp [Array.getElem?_setIfInBounds, hl]
      obtain ⟨t, a1, b1'⟩ := k2 b1 b2 p e R s m args below meth c _ _ ls hC hc hs (fun q hq => by
        rcases List.mem_append.mp hq with h9 | h9
        · exact hlo q h9
        · obtain ⟨z, -, hz⟩ := List.mem_map.mp h9
          rw [← hz]
          exact g1) hL hn hH1 _ hheap X'
      exact ⟨t, step t a1, b1'⟩
  · exact jv_none rfl
end JTools
theorem jv_le_nil : jv_le [] [] := trivial
theorem jv_le_s {a : Option Value} {l l' : List (Option Value)} (h : jv_le l l') : jv_le (a :: l) (a :: l') := ⟨Or.inr rfl, h⟩
theorem jv_le_n {b : Option Value} {l l' : List (Option Value)} (h : jv_le l l') : jv_le (none :: l) (b :: l') := ⟨Or.inl rfl, h⟩
abbrev jpI : Int32 → Option Value := fun r => some (.int r)
abbrev jpV : Unit → Option Value := fun _ => none
abbrev jpQ : Option Nat → Option Value := fun r => some (va_rf r)
abbrev jpE (X : jx) : Option Nat → Option Value := fun r => some (va_rf (r.map (jv_ad X)))
theorem jv_nb {v : Int32} (h : v &&& 1 = v) : narrow .boolean (.int v) = .int v := by
  rw [← h]
  simp [narrow, h]
theorem jv_in1 {w : Cond} (h : w ∈ tables_1_1) : w ∈ lw_tbl := List.mem_append_right _ (show w ∈ tables_1 from List.mem_append_left _ h)
theorem jv_in2 {w : Cond} (h : w ∈ tables_1_2) : w ∈ lw_tbl := List.mem_append_right _ (show w ∈ tables_1 from List.mem_append_right _ (List.mem_append_left _ h))
theorem jv_in3 {w : Cond} (h : w ∈ tables_1_3) : w ∈ lw_tbl := List.mem_append_right _ (show w ∈ tables_1 from List.mem_append_right _ (List.mem_append_right _ (List.mem_append_left _ h)))
theorem jv_in4 {w : Cond} (h : w ∈ tables_1_4) : w ∈ lw_tbl := List.mem_append_right _ (show w ∈ tables_1 from List.mem_append_right _ (List.mem_append_right _ (List.mem_append_right _ (List.mem_append_left _ h))))
theorem jv_in5 {w : Cond} (h : w ∈ tables_1_5) : w ∈ lw_tbl := List.mem_append_right _ (show w ∈ tables_1 from List.mem_append_right _ (List.mem_append_right _ (List.mem_append_right _ (List.mem_append_right _ (List.mem_append_left _ h)))))
theorem jv_in6 {w : Cond} (h : w ∈ tables_1_6) : w ∈ lw_tbl := List.mem_append_right _ (show w ∈ tables_1 from List.mem_append_right _ (List.mem_append_right _ (List.mem_append_right _ (List.mem_append_right _ (List.mem_append_right _ (List.mem_append_left _ h))))))
theorem jv_in7 {w : Cond} (h : w ∈ tables_1_7) : w ∈ lw_tbl := List.mem_append_right _ (show w ∈ tables_1 from List.mem_append_right _ (List.mem_append_right _ (List.mem_append_right _ (List.mem_append_right _ (List.mem_append_right _ (List.mem_append_right _ (List.mem_append_left _ h)))))))
theorem jv_in8 {w : Cond} (h : w ∈ tables_1_8) : w ∈ lw_tbl := List.mem_append_right _ (show w ∈ tables_1 from List.mem_append_right _ (List.mem_append_right _ (List.mem_append_right _ (List.mem_append_right _ (List.mem_append_right _ (List.mem_append_right _ (List.mem_append_right _ (h))))))))
