/-! What is left is arithmetic over the store: loops by their trajectories, small numbers, and the relation between class and reference. -/
theorem fuel_gt {N : Nat} (h : N < 1000000) : N < fuel := h
section LOOPS
variable {A B C D E G R : Type}
theorem lp_1 {bot : A → R} {body : (A → R) → A → R} (x : Nat → A) (N : Nat) (r : R) (hs : ∀ i, i < N → ∀ rec, body rec (x i) = rec (x (i + 1))) (he : ∀ rec, body rec (x N) = r) : ∀ n, N < n → lp bot body n (x 0) = r := by
  have key : ∀ d i n, i + d = N → d < n → lp bot body n (x i) = r := by
    intro d
    induction d with
    | zero =>
      intro i n hi hn
      have : i = N := by omega
      subst this
      cases n with
      | zero => omega
      | succ n => exact he _
    | succ d ih =>
      intro i n hi hn
      cases n with
      | zero => omega
      | succ n => exact (hs i (by omega) _).trans (ih (i + 1) n (by omega) (by omega))
  exact fun n hn => key N 0 n (by omega) hn
theorem lp_2 {bot : A → B → R} {body : (A → B → R) → A → B → R} (x : Nat → A) (y : Nat → B) (N : Nat) (r : R) (hs : ∀ i, i < N → ∀ rec, body rec (x i) (y i) = rec (x (i + 1)) (y (i + 1))) (he : ∀ rec, body rec (x N) (y N) = r) : ∀ n, N < n → lp bot body n (x 0) (y 0) = r := by
  have key : ∀ d i n, i + d = N → d < n → lp bot body n (x i) (y i) = r := by
    intro d
    induction d with
    | zero =>
      intro i n hi hn
      have : i = N := by omega
      subst this
      cases n with
      | zero => omega
      | succ n => exact he _
    | succ d ih =>
      intro i n hi hn
      cases n with
      | zero => omega
      | succ n => exact (hs i (by omega) _).trans (ih (i + 1) n (by omega) (by omega))
  exact fun n hn => key N 0 n (by omega) hn
theorem lp_3 {bot : A → B → C → R} {body : (A → B → C → R) → A → B → C → R} (x : Nat → A) (y : Nat → B) (z : Nat → C) (N : Nat) (r : R) (hs : ∀ i, i < N → ∀ rec, body rec (x i) (y i) (z i) = rec (x (i + 1)) (y (i + 1)) (z (i + 1))) (he : ∀ rec, body rec (x N) (y N) (z N) = r) : ∀ n, N < n → lp bot body n (x 0) (y 0) (z 0) = r := by
  have key : ∀ d i n, i + d = N → d < n → lp bot body n (x i) (y i) (z i) = r := by
    intro d
    induction d with
    | zero =>
      intro i n hi hn
      have : i = N := by omega
      subst this
      cases n with
      | zero => omega
      | succ n => exact he _
    | succ d ih =>
      intro i n hi hn
      cases n with
      | zero => omega
      | succ n => exact (hs i (by omega) _).trans (ih (i + 1) n (by omega) (by omega))
  exact fun n hn => key N 0 n (by omega) hn
theorem lp_4 {bot : A → B → C → D → R} {body : (A → B → C → D → R) → A → B → C → D → R} (x : Nat → A) (y : Nat → B) (z : Nat → C) (w : Nat → D) (N : Nat) (r : R) (hs : ∀ i, i < N → ∀ rec, body rec (x i) (y i) (z i) (w i) = rec (x (i + 1)) (y (i + 1)) (z (i + 1)) (w (i + 1))) (he : ∀ rec, body rec (x N) (y N) (z N) (w N) = r) : ∀ n, N < n → lp bot body n (x 0) (y 0) (z 0) (w 0) = r := by
  have key : ∀ d i n, i + d = N → d < n → lp bot body n (x i) (y i) (z i) (w i) = r := by
    intro d
    induction d with
    | zero =>
      intro i n hi hn
      have : i = N := by omega
      subst this
      cases n with
      | zero => omega
      | succ n => exact he _
    | succ d ih =>
      intro i n hi hn
      cases n with
      | zero => omega
      | succ n => exact (hs i (by omega) _).trans (ih (i + 1) n (by omega) (by omega))
  exact fun n hn => key N 0 n (by omega) hn
/-- a fold over 0 .. n-1 -/
def itr {S : Type} (f : Nat → S → S) (s : S) : Nat → S
  | 0 => s
  | n + 1 => f n (itr f s n)
theorem itr_congr {S : Type} {f g : Nat → S → S} {s : S} {N : Nat} (h : ∀ i, i < N → ∀ s, f i s = g i s) : itr f s N = itr g s N := by
  induction N with
  | zero => rfl
  | succ n ih => show f n (itr f s n) = g n (itr g s n); rw [ih fun i hi => h i (by omega), h n (by omega)]
end LOOPS
/-! small numbers -/
theorem nI_mul (a b : Nat) : nI a * nI b = nI (a * b) := (Int32.ofNat_mul a b).symm
theorem nI_sub {a b : Nat} (h : b ≤ a) : nI a - nI b = nI (a - b) := by
  have e : nI a = nI (a - b) + nI b := by rw [nI_add]; congr 1; omega
  rw [e]; exact Int32.add_sub_cancel _ _
theorem of_nonneg {x : Int32} (h : 0 ≤ x) : ∃ n : Nat, n < 2 ^ 31 ∧ x = nI n := by
  have h0 : (0 : Int) ≤ x.toInt := by simpa using Int32.le_iff_toInt_le.mp h
  have h1 : x.toInt < 2 ^ 31 := x.toInt_lt
  refine ⟨x.toInt.toNat, by omega, ?_⟩
  have e : (nI x.toInt.toNat).toInt = x.toInt := by rw [nI_toInt (by omega)]; omega
  exact (Int32.toInt_inj.mp e).symm
theorem of_range {x : Int32} {N : Nat} (hN : N < 2 ^ 31) (h0 : 0 ≤ x) (h : x < nI N) : ∃ n : Nat, n < N ∧ x = nI n := by
  obtain ⟨n, h1, rfl⟩ := of_nonneg h0
  exact ⟨n, (nI_ltI h1 hN).mp h, rfl⟩
theorem vthen_eq {α β : Type} (x : α) (f : α → β) : vthen x f = f x := rfl
theorem grd_eq {α : Type} {b : Bool} (x : Option α) (h : b = true) : grd b x = x := if_pos h
theorem bnd_of {α β γ : Type} {x : Option (α × β)} {a : α} {b : β} (f : α → β → Option γ) (h : x = some (a, b)) : bnd x f = f a b := by rw [h]; rfl
theorem bnd1_of {α γ : Type} {x : Option α} {a : α} (f : α → Option γ) (h : x = some a) : bnd1 x f = f a := by rw [h]; rfl
theorem gI_ne {σ : SS} {c c' k : Nat} {v : Int32} (h : c' ≠ c) : gI (sI σ c k v) c' = gI σ c' := by funext j; rw [gI_sI, if_neg (fun q => h q.1)]
theorem gI_nk {σ : SS} {c c' k j : Nat} {v : Int32} (h : ¬ (c' = c ∧ j = k)) : gI (sI σ c k v) c' j = gI σ c' j := by rw [gI_sI, if_neg h]
theorem gI_eq (σ : SS) (c k : Nat) (v : Int32) : gI (sI σ c k v) c k = v := by rw [gI_sI, if_pos ⟨rfl, rfl⟩]
theorem gI_fl_ne {σ : SS} {c c' n : Nat} {v : Int32} (h : c' ≠ c) : gI (flI σ c n v) c' = gI σ c' := by funext j; unfold flI; rw [gI_sA, if_neg h]
theorem gI_fl {σ : SS} {c n j : Nat} {v : Int32} (h : j < n) : gI (flI σ c n v) c j = v := by unfold flI; rw [gI_sA, if_pos rfl, if_pos h]
theorem gR_fl {σ : SS} {c c' n : Nat} {v : Int32} : gR (flI σ c n v) c' = gR σ c' := rfl
/-- a small whole number's range -/
abbrev inR (x : Int32) (a b : Int) : Prop := a ≤ x.toInt ∧ x.toInt ≤ b
/-! THE RELATION: what class and reference have in common -/
def RTape (σ : SS) : Prop := ∃ n : Nat, n ≤ 480 ∧ gI σ 1 1 = nI n ∧ gI σ 73 1 = nI n ∧ ∀ j, j < n → gI σ 2 j = gI σ 74 j &&& 255 ∧ inR (gI σ 74 j) (-128) 127
def RPic (s d : Nat) (w h : Nat) (σ : SS) : Prop := ∀ k, k < w * h → gI σ (s + 1) k = gI σ 83 (d + k) ∧ inR (gI σ 83 (d + k)) 0 9
def RScan (s : Nat) (σ : SS) : Prop := ∃ w h : Nat, (8 ≤ w ∧ w ≤ 40) ∧ (8 ≤ h ∧ h ≤ 40) ∧ gI σ s 0 = nI w ∧ gI σ s 1 = nI h ∧ gI σ 73 29 = nI w ∧ gI σ 73 30 = nI h ∧ ∀ k, k < w * h → gI σ (s + 1) k = gI σ 83 k ∧ inR (gI σ 83 k) 0 9
def RDrw (i : Nat) (σ : SS) : Prop := (gI σ (64 + 3 * i) 0 = 0 ∧ gI σ 86 i = 0) ∨ ∃ w h : Nat, (8 ≤ w ∧ w ≤ 40) ∧ (8 ≤ h ∧ h ≤ 40) ∧ gI σ (64 + 3 * i) 0 = nI w ∧ gI σ (64 + 3 * i) 1 = nI h ∧ gI σ 86 i = nI w ∧ gI σ 87 i = nI h ∧ ∀ k, k < w * h → gI σ (65 + 3 * i) k = gI σ 85 (1600 * i + k) ∧ inR (gI σ 85 (1600 * i + k)) 0 9
def RSet (σ : SS) : Prop := ∀ k, k < 7 → gI σ 32 k = gI σ 88 k ∧ inR (gI σ 88 k) (roV 1001 k).toInt (roV 1002 k).toInt
def RCor (σ : SS) : Prop := ∀ k, k < 4 → gI σ 28 k = gI σ 89 k ∧ gI σ 29 k = gI σ 90 k ∧ inR (gI σ 89 k) 0 39 ∧ inR (gI σ 90 k) 0 39
def RSeed (σ : SS) : Prop := gI σ 1 8 = gI σ 73 31 ∧ inR (gI σ 73 31) 0 65535
def psum (N : Nat → Nat) : Nat → Nat
  | 0 => 0
  | q + 1 => psum N q + N q
/-- the form's contents: wide, high, box's wide and high, how many questions, and of each how many boxes; f: the class's form, b: the reference's bank -/
def RQ (f b : Nat) (W H A B Q : Nat) (N : Nat → Nat) (σ : SS) : Prop :=
  (4 ≤ W ∧ W ≤ 40) ∧ (4 ≤ H ∧ H ≤ 40) ∧ (1 ≤ A ∧ A ≤ 6) ∧ (1 ≤ B ∧ B ≤ 6) ∧ Q ≤ 12 ∧
  (gI σ f 1 = nI W ∧ gI σ f 2 = nI H ∧ gI σ f 3 = nI A ∧ gI σ f 4 = nI B ∧ gI σ f 5 = nI Q ∧ gI σ f 6 = nI (psum N Q)) ∧
  (gI σ 75 (5 * b) = nI W ∧ gI σ 75 (5 * b + 1) = nI H ∧ gI σ 75 (5 * b + 2) = nI A ∧ gI σ 75 (5 * b + 3) = nI B ∧ gI σ 75 (5 * b + 4) = nI Q) ∧
  ∀ q, q < Q → (1 ≤ N q ∧ N q ≤ 6) ∧ gI σ (f + 2) q = nI (psum N q) ∧ gI σ (f + 3) q = nI (N q) ∧ gI σ 77 (12 * b + q) = nI (N q) ∧
    (gI σ (f + 4) q = gI σ 78 (12 * b + q) ∧ inR (gI σ 78 (12 * b + q)) 0 63) ∧ (gI σ (f + 5) q = gI σ 79 (12 * b + q) ∧ inR (gI σ 79 (12 * b + q)) 0 99) ∧
    ((gI σ (f + 1) q = 0 ∧ gI σ 76 (12 * b + q) = 1) ∨ (gI σ (f + 1) q = 1 ∧ gI σ 76 (12 * b + q) = 2)) ∧
    ∀ i, i < N q → (gI σ (f + 6) (psum N q + i) = gI σ 80 (6 * (12 * b + q) + i) ∧ inR (gI σ 80 (6 * (12 * b + q) + i)) 0 (W - A)) ∧ (gI σ (f + 7) (psum N q + i) = gI σ 81 (6 * (12 * b + q) + i) ∧ inR (gI σ 81 (6 * (12 * b + q) + i)) 0 (H - B))
def RForm (f : Nat) (σ : SS) : Prop := ∃ b : Nat, b < 2 ∧ gI σ 73 11 = nI b ∧
  ((gI σ f 0 = 0 ∧ gI σ 73 12 = 0 ∧ gI σ f 1 = 0 ∧ gI σ f 2 = 0 ∧ gI σ f 5 = 0 ∧ gI σ f 6 = 0) ∨
   (gI σ f 0 = 1 ∧ gI σ 73 12 = 1 ∧ ∃ (W H A B Q : Nat) (N : Nat → Nat), RQ f b W H A B Q N σ))
def RTold (σ : SS) : Prop := ∀ q, q < 12 → gI σ 30 q = gI σ 82 q ∧ inR (gI σ 82 q) 0 63
def RPile (f : Nat) (σ : SS) : Prop := ∃ S : Nat, S ≤ 16 ∧ gI σ 58 0 = nI S ∧ gI σ 73 65 = nI S ∧ ∀ t, t < S → gI σ 59 t = gI σ 109 t ∧ gI σ 60 t = gI σ 110 t ∧ gI σ 61 t = gI σ 111 t ∧ ∀ q : Nat, nI q < gI σ f 5 → q < 12 → gI σ 62 (12 * t + q) = gI σ 112 (12 * t + q)
def RRef (s f : Nat) (σ : SS) : Prop := (s = 3 ∨ s = 6) ∧ (f = 10 ∨ f = 18) ∧ gR σ 1 2 = s ∧ gR σ 1 3 = 9 - s ∧ gR σ 1 5 = f ∧ gR σ 1 6 = 28 - f ∧ gR σ 9 0 = 64 ∧ gR σ 9 1 = 67 ∧ gR σ 9 2 = 70
def RAll (s f : Nat) (σ : SS) : Prop := RRef s f σ ∧ RTape σ ∧ RScan s σ ∧ (∀ i, i < 3 → RDrw i σ) ∧ RSet σ ∧ RCor σ ∧ RSeed σ ∧ RForm f σ ∧ RTold σ ∧ RPile f σ
def Rel (σ : SS) : Prop := ∃ s f, RAll s f σ
/-! frames of the relation's parts -/
theorem RTape.fr {σ σ' : SS} (h : RTape σ) (h1 : gI σ' 1 1 = gI σ 1 1) (h2 : gI σ' 73 1 = gI σ 73 1) (h3 : gI σ' 2 = gI σ 2) (h4 : gI σ' 74 = gI σ 74) : RTape σ' := by
  unfold RTape at *; rw [h1, h2, h3, h4]; exact h
theorem RScan.fr {s : Nat} {σ σ' : SS} (h : RScan s σ) (h1 : gI σ' s 0 = gI σ s 0) (h2 : gI σ' s 1 = gI σ s 1) (h3 : gI σ' 73 29 = gI σ 73 29) (h4 : gI σ' 73 30 = gI σ 73 30) (h5 : gI σ' (s + 1) = gI σ (s + 1)) (h6 : gI σ' 83 = gI σ 83) : RScan s σ' := by
  unfold RScan at *; rw [h1, h2, h3, h4, h5, h6]; exact h
theorem RDrw.fr {i : Nat} {σ σ' : SS} (h : RDrw i σ) (h1 : gI σ' (64 + 3 * i) = gI σ (64 + 3 * i)) (h2 : gI σ' (65 + 3 * i) = gI σ (65 + 3 * i)) (h3 : gI σ' 85 = gI σ 85) (h4 : gI σ' 86 = gI σ 86) (h5 : gI σ' 87 = gI σ 87) : RDrw i σ' := by
  unfold RDrw at *; rw [h1, h2, h3, h4, h5]; exact h
theorem RSet.fr {σ σ' : SS} (h : RSet σ) (h1 : gI σ' 32 = gI σ 32) (h2 : gI σ' 88 = gI σ 88) : RSet σ' := by
  unfold RSet at *; rw [h1, h2]; exact h
theorem RCor.fr {σ σ' : SS} (h : RCor σ) (h1 : gI σ' 28 = gI σ 28) (h2 : gI σ' 29 = gI σ 29) (h3 : gI σ' 89 = gI σ 89) (h4 : gI σ' 90 = gI σ 90) : RCor σ' := by
  unfold RCor at *; rw [h1, h2, h3, h4]; exact h
theorem RSeed.fr {σ σ' : SS} (h : RSeed σ) (h1 : gI σ' 1 8 = gI σ 1 8) (h2 : gI σ' 73 31 = gI σ 73 31) : RSeed σ' := by
  unfold RSeed at *; rw [h1, h2]; exact h
theorem RTold.fr {σ σ' : SS} (h : RTold σ) (h1 : gI σ' 30 = gI σ 30) (h2 : gI σ' 82 = gI σ 82) : RTold σ' := by
  unfold RTold at *; rw [h1, h2]; exact h
theorem RForm.fr {f : Nat} {σ σ' : SS} (h : RForm f σ) (hf : ∀ j, j ≤ 7 → gI σ' (f + j) = gI σ (f + j)) (h1 : gI σ' 73 11 = gI σ 73 11) (h2 : gI σ' 73 12 = gI σ 73 12) (h3 : ∀ c, 75 ≤ c → c ≤ 81 → gI σ' c = gI σ c) : RForm f σ' := by
  have h0 : gI σ' f = gI σ f := hf 0 (by omega)
  unfold RForm RQ at *
  rw [h0, hf 1 (by omega), hf 2 (by omega), hf 3 (by omega), hf 4 (by omega), hf 5 (by omega), hf 6 (by omega), hf 7 (by omega), h1, h2, h3 75 (by omega) (by omega), h3 76 (by omega) (by omega), h3 77 (by omega) (by omega), h3 78 (by omega) (by omega), h3 79 (by omega) (by omega), h3 80 (by omega) (by omega), h3 81 (by omega) (by omega)]
  exact h
theorem RPile.fr {f : Nat} {σ σ' : SS} (h : RPile f σ) (hf : gI σ' f 5 = gI σ f 5) (h0 : gI σ' 58 0 = gI σ 58 0) (h1 : gI σ' 73 65 = gI σ 73 65) (h2 : ∀ c, 59 ≤ c → c ≤ 62 → gI σ' c = gI σ c) (h3 : ∀ c, 109 ≤ c → c ≤ 112 → gI σ' c = gI σ c) : RPile f σ' := by
  unfold RPile at *
  rw [hf, h0, h1, h2 59 (by omega) (by omega), h2 60 (by omega) (by omega), h2 61 (by omega) (by omega), h2 62 (by omega) (by omega), h3 109 (by omega) (by omega), h3 110 (by omega) (by omega), h3 111 (by omega) (by omega), h3 112 (by omega) (by omega)]
  exact h
theorem RRef.fr {s f : Nat} {σ σ' : SS} (h : RRef s f σ) (h1 : gR σ' = gR σ) : RRef s f σ' := by
  unfold RRef at *; rw [h1]; exact h
/-- what nobody needs afterwards: scratch of both sides, and the spare scan's -/
def scr (s f c k : Nat) : Bool :=
  c = 5 || c = 8 || c = 66 || c = 69 || c = 72 || c = 26 || c = 27 || c = 31 || (decide (33 ≤ c) && decide (c ≤ 57)) || c = 63 || c = 84 || (decide (91 ≤ c) && decide (c ≤ 108)) || c = 113 || c = 9 - s || c = 10 - s || (decide (28 - f ≤ c) && decide (c ≤ 35 - f)) ||
  (c = 73 && !(k = 1 || k = 11 || k = 12 || k = 29 || k = 30 || k = 31 || k = 65))
/-- nothing but scratch has changed -/
def Scr (s f : Nat) (σ σ' : SS) : Prop := (∀ c k, scr s f c k = false → gI σ' c k = gI σ c k) ∧ gR σ' = gR σ
theorem Scr.rf (s f : Nat) (σ : SS) : Scr s f σ σ := ⟨fun _ _ _ => rfl, rfl⟩
theorem Scr.tr {s f : Nat} {a b c : SS} (h : Scr s f a b) (h' : Scr s f b c) : Scr s f a c := ⟨fun q k hk => (h'.1 q k hk).trans (h.1 q k hk), h'.2.trans h.2⟩
theorem scr_c {s f c : Nat} (hs : s = 3 ∨ s = 6) (hf : f = 10 ∨ f = 18) (h : c = 2 ∨ c = s ∨ c = s + 1 ∨ c = 30 ∨ c = 28 ∨ c = 29 ∨ c = 32 ∨ (58 ≤ c ∧ c ≤ 62) ∨ (64 ≤ c ∧ c ≤ 65) ∨ (67 ≤ c ∧ c ≤ 68) ∨ (70 ≤ c ∧ c ≤ 71) ∨ (74 ≤ c ∧ c ≤ 83) ∨ (85 ≤ c ∧ c ≤ 90) ∨ (109 ≤ c ∧ c ≤ 112) ∨ (f ≤ c ∧ c ≤ f + 7) ∨ c = 1) (k : Nat) : scr s f c k = false := by
  unfold scr
  simp only [Bool.or_eq_false_iff, Bool.and_eq_false_iff, decide_eq_false_iff_not, Bool.not_eq_false', Bool.or_eq_true, decide_eq_true_eq]
  omega
theorem scr_73 {s f k : Nat} (hs : s = 3 ∨ s = 6) (hf : f = 10 ∨ f = 18) (h : k = 1 ∨ k = 11 ∨ k = 12 ∨ k = 29 ∨ k = 30 ∨ k = 31 ∨ k = 65) : scr s f 73 k = false := by
  unfold scr
  simp only [Bool.or_eq_false_iff, Bool.and_eq_false_iff, decide_eq_false_iff_not, Bool.not_eq_false', Bool.or_eq_true, decide_eq_true_eq]
  omega
theorem Scr.c {s f : Nat} {σ σ' : SS} (hS : Scr s f σ σ') (hs : s = 3 ∨ s = 6) (hf : f = 10 ∨ f = 18) {c : Nat} (h : c = 2 ∨ c = s ∨ c = s + 1 ∨ c = 30 ∨ c = 28 ∨ c = 29 ∨ c = 32 ∨ (58 ≤ c ∧ c ≤ 62) ∨ (64 ≤ c ∧ c ≤ 65) ∨ (67 ≤ c ∧ c ≤ 68) ∨ (70 ≤ c ∧ c ≤ 71) ∨ (74 ≤ c ∧ c ≤ 83) ∨ (85 ≤ c ∧ c ≤ 90) ∨ (109 ≤ c ∧ c ≤ 112) ∨ (f ≤ c ∧ c ≤ f + 7) ∨ c = 1) : gI σ' c = gI σ c := funext fun k => hS.1 c k (scr_c hs hf h k)
theorem Scr.m {s f : Nat} {σ σ' : SS} (hS : Scr s f σ σ') (hs : s = 3 ∨ s = 6) (hf : f = 10 ∨ f = 18) {k : Nat} (h : k = 1 ∨ k = 11 ∨ k = 12 ∨ k = 29 ∨ k = 30 ∨ k = 31 ∨ k = 65) : gI σ' 73 k = gI σ 73 k := hS.1 73 k (scr_73 hs hf h)
theorem RAll.scr {s f : Nat} {σ σ' : SS} (h : RAll s f σ) (hS : Scr s f σ σ') : RAll s f σ' := by
  obtain ⟨h1, h2, h3, h4, h5, h6, h7, h8, h9, h10⟩ := h
  obtain ⟨hs, hf, -⟩ := id h1
  refine ⟨h1.fr hS.2, h2.fr ?_ ?_ ?_ ?_, h3.fr ?_ ?_ ?_ ?_ ?_ ?_, fun i hi => (h4 i hi).fr ?_ ?_ ?_ ?_ ?_, h5.fr ?_ ?_, h6.fr ?_ ?_ ?_ ?_, h7.fr ?_ ?_, h8.fr (fun j hj => ?_) ?_ ?_ (fun c h1 h2 => ?_), h9.fr ?_ ?_, h10.fr ?_ ?_ ?_ (fun c h1 h2 => ?_) (fun c h1 h2 => ?_)⟩ <;>
    first
      | exact hS.c hs hf (by omega)
      | exact hS.m hs hf (by omega)
      | exact congrFun (hS.c hs hf (by omega)) _
/-- the start -/
theorem rel0 : Rel s0 := by
  refine ⟨3, 10, ⟨Or.inl rfl, Or.inl rfl, by decide +kernel, by decide +kernel, by decide +kernel, by decide +kernel, by decide +kernel, by decide +kernel, by decide +kernel⟩, ⟨0, by decide, by decide +kernel, by decide +kernel, fun j hj => absurd hj (by omega)⟩, ⟨24, 24, by decide, by decide, by decide +kernel, by decide +kernel, by decide +kernel, by decide +kernel, fun k hk => ?_⟩, fun i hi => Or.inl ?_, ?_, ?_, ⟨by decide +kernel, by decide +kernel⟩, ⟨0, by decide, by decide +kernel, Or.inl ⟨by decide +kernel, by decide +kernel, by decide +kernel, by decide +kernel, by decide +kernel, by decide +kernel⟩⟩, fun q hq => ?_, ⟨0, by decide, by decide +kernel, by decide +kernel, fun t ht => absurd ht (by omega)⟩⟩
  · have e1 : gI s0 83 k = 0 := rfl
    have e2 : gI s0 4 k = if k < 1600 then 0 else 0 := rfl
    refine ⟨by rw [e1]; show gI s0 4 k = 0; rw [e2]; split <;> rfl, by rw [e1]; exact ⟨by decide, by decide⟩⟩
  · rcases (show i = 0 ∨ i = 1 ∨ i = 2 by omega) with rfl | rfl | rfl <;> exact ⟨by decide +kernel, by decide +kernel⟩
  · intro k hk
    rcases (show k = 0 ∨ k = 1 ∨ k = 2 ∨ k = 3 ∨ k = 4 ∨ k = 5 ∨ k = 6 by omega) with rfl | rfl | rfl | rfl | rfl | rfl | rfl <;> exact ⟨by decide +kernel, by decide +kernel, by decide +kernel⟩
  · intro k hk
    rcases (show k = 0 ∨ k = 1 ∨ k = 2 ∨ k = 3 by omega) with rfl | rfl | rfl | rfl <;> exact ⟨by decide +kernel, by decide +kernel, ⟨by decide +kernel, by decide +kernel⟩, ⟨by decide +kernel, by decide +kernel⟩⟩
  · have e1 : gI s0 30 q = 0 := rfl
    have e2 : gI s0 82 q = 0 := rfl
    exact ⟨e1.trans e2.symm, by rw [e2]; exact ⟨by decide, by decide⟩⟩
