/-! from 12.rel of the class-and-reference proof: what speaks of the class alone -/
/-! What is left is arithmetic over the store: loops by their trajectories, small numbers, and the relation between class and reference. -/
theorem fuel_gt {N : Nat} (h : N < 1000000) : N < fuel := h
section LOOPS
variable {A B C D E G R : Type}
theorem lp_1 {bot : A → R} {body : (A → R) → A → R} (x : Nat → A) (N : Nat) (r : R) (hs : ∀ i, i < N → ∀ rec, body rec (x i) = rec (x (i + 1))) (he : ∀ rec, body rec (x N) = r) : ∀ n, N < n → lp bot body n (x 0) = r := by
  have key : ∀ d i n, i + d = N → d < n → lp bot body n (x i) = r := by
    intro d
    induction d with
    | zero =>
      intro i n hi hn
      have : i = N := by omega
      subst this
      cases n with
      | zero => omega
      | succ n => exact he _
    | succ d ih =>
      intro i n hi hn
      cases n with
      | zero => omega
      | succ n => exact (hs i (by omega) _).trans (ih (i + 1) n (by omega) (by omega))
  exact fun n hn => key N 0 n (by omega) hn
theorem lp_2 {bot : A → B → R} {body : (A → B → R) → A → B → R} (x : Nat → A) (y : Nat → B) (N : Nat) (r : R) (hs : ∀ i, i < N → ∀ rec, body rec (x i) (y i) = rec (x (i + 1)) (y (i + 1))) (he : ∀ rec, body rec (x N) (y N) = r) : ∀ n, N < n → lp bot body n (x 0) (y 0) = r := by
  have key : ∀ d i n, i + d = N → d < n → lp bot body n (x i) (y i) = r := by
    intro d
    induction d with
    | zero =>
      intro i n hi hn
      have : i = N := by omega
      subst this
      cases n with
      | zero => omega
      | succ n => exact he _
    | succ d ih =>
      intro i n hi hn
      cases n with
      | zero => omega
      | succ n => exact (hs i (by omega) _).trans (ih (i + 1) n (by omega) (by omega))
  exact fun n hn => key N 0 n (by omega) hn
theorem lp_3 {bot : A → B → C → R} {body : (A → B → C → R) → A → B → C → R} (x : Nat → A) (y : Nat → B) (z : Nat → C) (N : Nat) (r : R) (hs : ∀ i, i < N → ∀ rec, body rec (x i) (y i) (z i) = rec (x (i + 1)) (y (i + 1)) (z (i + 1))) (he : ∀ rec, body rec (x N) (y N) (z N) = r) : ∀ n, N < n → lp bot body n (x 0) (y 0) (z 0) = r := by
  have key : ∀ d i n, i + d = N → d < n → lp bot body n (x i) (y i) (z i) = r := by
    intro d
    induction d with
    | zero =>
      intro i n hi hn
      have : i = N := by omega
      subst this
      cases n with
      | zero => omega
      | succ n => exact he _
    | succ d ih =>
      intro i n hi hn
      cases n with
      | zero => omega
      | succ n => exact (hs i (by omega) _).trans (ih (i + 1) n (by omega) (by omega))
  exact fun n hn => key N 0 n (by omega) hn
theorem lp_4 {bot : A → B → C → D → R} {body : (A → B → C → D → R) → A → B → C → D → R} (x : Nat → A) (y : Nat → B) (z : Nat → C) (w : Nat → D) (N : Nat) (r : R) (hs : ∀ i, i < N → ∀ rec, body rec (x i) (y i) (z i) (w i) = rec (x (i + 1)) (y (i + 1)) (z (i + 1)) (w (i + 1))) (he : ∀ rec, body rec (x N) (y N) (z N) (w N) = r) : ∀ n, N < n → lp bot body n (x 0) (y 0) (z 0) (w 0) = r := by
  have key : ∀ d i n, i + d = N → d < n → lp bot body n (x i) (y i) (z i) (w i) = r := by
    intro d
    induction d with
    | zero =>
      intro i n hi hn
      have : i = N := by omega
      subst this
      cases n with
      | zero => omega
      | succ n => exact he _
    | succ d ih =>
      intro i n hi hn
      cases n with
      | zero => omega
      | succ n => exact (hs i (by omega) _).trans (ih (i + 1) n (by omega) (by omega))
  exact fun n hn => key N 0 n (by omega) hn
def itr {S : Type} (f : Nat → S → S) (s : S) : Nat → S
  | 0 => s
  | n + 1 => f n (itr f s n)
theorem itr_congr {S : Type} {f g : Nat → S → S} {s : S} {N : Nat} (h : ∀ i, i < N → ∀ s, f i s = g i s) : itr f s N = itr g s N := by
  induction N with
  | zero => rfl
  | succ n ih => show f n (itr f s n) = g n (itr g s n); rw [ih fun i hi => h i (by omega), h n (by omega)]
end LOOPS
/-! small numbers -/
theorem nI_mul (a b : Nat) : nI a * nI b = nI (a * b) := (Int32.ofNat_mul a b).symm
theorem nI_sub {a b : Nat} (h : b ≤ a) : nI a - nI b = nI (a - b) := by
  have e : nI a = nI (a - b) + nI b := by rw [nI_add]; congr 1; omega
  rw [e]; exact Int32.add_sub_cancel _ _
theorem of_nonneg {x : Int32} (h : 0 ≤ x) : ∃ n : Nat, n < 2 ^ 31 ∧ x = nI n := by
  have h0 : (0 : Int) ≤ x.toInt := by simpa using Int32.le_iff_toInt_le.mp h
  have h1 : x.toInt < 2 ^ 31 := x.toInt_lt
  refine ⟨x.toInt.toNat, by omega, ?_⟩
  have e : (nI x.toInt.toNat).toInt = x.toInt := by rw [nI_toInt (by omega)]; omega
  exact (Int32.toInt_inj.mp e).symm
theorem of_range {x : Int32} {N : Nat} (hN : N < 2 ^ 31) (h0 : 0 ≤ x) (h : x < nI N) : ∃ n : Nat, n < N ∧ x = nI n := by
  obtain ⟨n, h1, rfl⟩ := of_nonneg h0
  exact ⟨n, (nI_ltI h1 hN).mp h, rfl⟩
theorem vthen_eq {α β : Type} (x : α) (f : α → β) : vthen x f = f x := rfl
theorem grd_eq {α : Type} {b : Bool} (x : Option α) (h : b = true) : grd b x = x := if_pos h
theorem bnd_of {α β γ : Type} {x : Option (α × β)} {a : α} {b : β} (f : α → β → Option γ) (h : x = some (a, b)) : bnd x f = f a b := by rw [h]; rfl
theorem bnd1_of {α γ : Type} {x : Option α} {a : α} (f : α → Option γ) (h : x = some a) : bnd1 x f = f a := by rw [h]; rfl
theorem gI_ne {σ : SS} {c c' k : Nat} {v : Int32} (h : c' ≠ c) : gI (sI σ c k v) c' = gI σ c' := by funext j; rw [gI_sI, if_neg (fun q => h q.1)]
theorem gI_nk {σ : SS} {c c' k j : Nat} {v : Int32} (h : ¬ (c' = c ∧ j = k)) : gI (sI σ c k v) c' j = gI σ c' j := by rw [gI_sI, if_neg h]
theorem gI_eq (σ : SS) (c k : Nat) (v : Int32) : gI (sI σ c k v) c k = v := by rw [gI_sI, if_pos ⟨rfl, rfl⟩]
theorem gI_fl_ne {σ : SS} {c c' n : Nat} {v : Int32} (h : c' ≠ c) : gI (flI σ c n v) c' = gI σ c' := by funext j; unfold flI; rw [gI_sA, if_neg h]
theorem gI_fl {σ : SS} {c n j : Nat} {v : Int32} (h : j < n) : gI (flI σ c n v) c j = v := by unfold flI; rw [gI_sA, if_pos rfl, if_pos h]
theorem gR_fl {σ : SS} {c c' n : Nat} {v : Int32} : gR (flI σ c n v) c' = gR σ c' := rfl
abbrev inR (x : Int32) (a b : Int) : Prop := a ≤ x.toInt ∧ x.toInt ≤ b
/-! THE RELATION: what class and reference have in common -/
def psum (N : Nat → Nat) : Nat → Nat
  | 0 => 0
  | q + 1 => psum N q + N q
/-! frames of the relation's parts -/
/-! from 13.small of the class-and-reference proof: what speaks of the class alone -/
/-! Small operations. -/
theorem lt_i (x y : Int32) : (x < y) = (x.toInt < y.toInt) := propext Int32.lt_iff_toInt_lt
theorem le_i (x y : Int32) : (x ≤ y) = (x.toInt ≤ y.toInt) := propext Int32.le_iff_toInt_le
theorem clamp_lt {x : Int32} {n : Nat} (h0 : 0 ≤ x.toInt) (h : x.toInt < n) : inb x n = true ∧ x.toNatClampNeg < n := by
  have e : x.toNatClampNeg = x.toInt.toNat := rfl
  refine ⟨decide_eq_true fun q => ?_, by omega⟩
  rcases q with q | q
  · rw [lt_i] at q; have : (0 : Int32).toInt = 0 := rfl; omega
  · omega
theorem set7 (σ' : SS) (x v : Int32) : fX7_set σ' x v = if 0 ≤ x.toInt ∧ x.toInt ≤ 6 then (if (roV 1001 x.toNatClampNeg).toInt ≤ v.toInt ∧ v.toInt ≤ (roV 1002 x.toNatClampNeg).toInt then some (gI σ' 32 x.toNatClampNeg, sI σ' 32 x.toNatClampNeg v) else some (-1, σ')) else some (-1, σ') := by
  unfold fX7_set
  simp only [lt_i, le_i, Int32.reduceToInt, vthen_eq]
  by_cases hc : 0 ≤ x.toInt ∧ x.toInt ≤ 6
  · rw [if_neg (by omega), if_neg (by omega), grd_eq _ (clamp_lt hc.1 (by omega)).1, if_pos hc]
    repeat' split
    all_goals first | omega | rfl
  · rw [if_neg hc]
    repeat' split
    all_goals first | omega | rfl
/-! from 14.scan of the class-and-reference proof: what speaks of the class alone -/
/-! The scan: places, blank, dot. -/
theorem has_eq {σ : SS} {s w h : Nat} (hw : gI σ s 0 = nI w) (hh : gI σ s 1 = nI h) (hw2 : w ≤ 40) (hh2 : h ≤ 40) (x y : Int32) : (fX6_has σ s x y = true) = ((0 ≤ x.toInt ∧ x.toInt < w) ∧ 0 ≤ y.toInt ∧ y.toInt < h) := by
  unfold fX6_has
  rw [hw, hh]
  simp only [vthen_eq, lt_i, le_i, nI_toInt (show w < 2 ^ 31 by omega), nI_toInt (show h < 2 ^ 31 by omega), Int32.reduceToInt]
  by_cases c1 : x.toInt < 0
  · rw [if_pos c1]; simp; omega
  rw [if_neg c1]
  by_cases c2 : (w : Int) ≤ x.toInt
  · rw [if_pos c2]; simp; omega
  rw [if_neg c2]
  by_cases c3 : y.toInt < 0
  · rw [if_pos c3]; simp; omega
  rw [if_neg c3]
  by_cases c4 : (h : Int) ≤ y.toInt
  · rw [if_pos c4]; simp; omega
  rw [if_neg c4]; simp; omega
theorem sub1 {w : Nat} (h1 : 1 ≤ w) (h2 : w ≤ 1000000) : (nI w - 1).toInt = (w : Int) - 1 := by
  have e : nI w - 1 = nI (w - 1) := nI_sub (a := w) (b := 1) h1
  rw [e, nI_toInt (by omega)]; omega
theorem in_of {x : Int32} {w : Nat} (hw : w ≤ 1000000) (h : 0 ≤ x.toInt ∧ x.toInt < w) : ∃ X : Nat, X < w ∧ x = nI X :=
  of_range (by omega) (by rw [le_i]; exact h.1) (by rw [lt_i, nI_toInt (by omega)]; exact h.2)
theorem cell_lt {X Y w h : Nat} (hx : X < w) (hy : Y < h) : Y * w + X < w * h := by
  have h1 : Y * w + X < Y * w + w := by omega
  have h2 : (Y + 1) * w ≤ h * w := Nat.mul_le_mul_right w hy
  rw [Nat.add_mul, Nat.one_mul] at h2
  rw [Nat.mul_comm w h]; omega
theorem area_le {w h : Nat} (hw : w ≤ 40) (hh : h ≤ 40) : w * h ≤ 1600 := Nat.mul_le_mul hw hh
theorem ix_c (X Y w : Nat) : nI Y * nI w + nI X = nI (Y * w + X) := by rw [nI_mul, nI_add]
theorem ix_m (X Y w : Nat) : nI w * nI Y + nI X = nI (Y * w + X) := by rw [nI_mul, nI_add, Nat.mul_comm]
/-! from 15.draw of the class-and-reference proof: what speaks of the class alone -/
/-! Pictures drawn in place: put, fill, row, keep, back. -/
theorem gI_A (σ : SS) (c : Nat) (d : Nat → Int32) : gI (sA σ c d) c = d := by funext k; rw [gI_sA, if_pos rfl]
theorem gI_A_ne {σ : SS} {c c' : Nat} {d : Nat → Int32} (h : c' ≠ c) : gI (sA σ c d) c' = gI σ c' := by funext k; rw [gI_sA, if_neg h]
theorem sI_A (σ : SS) (c k : Nat) (d : Nat → Int32) (v : Int32) : sI (sA σ c d) c k v = sA σ c (upd d k v) := SS_ext (fun c' j => by
  rw [gI_sI, gI_sA, gI_sA]
  by_cases h : c' = c
  · subst h; by_cases h2 : j = k <;> simp [upd, h2]
  · simp [h]) rfl
theorem sA_self (σ : SS) (c : Nat) : sA σ c (gI σ c) = σ := SS_ext (fun c' j => by rw [gI_sA]; by_cases h : c' = c <;> simp [h]) rfl
theorem sA_sA (σ : SS) (c : Nat) (d d' : Nat → Int32) : sA (sA σ c d) c d' = sA σ c d' := SS_ext (fun c' j => by rw [gI_sA, gI_sA, gI_sA]; by_cases h : c' = c <;> simp [h]) rfl
theorem flI_A (σ : SS) (c n : Nat) (v : Int32) : flI σ c n v = sA σ c (fun j => if j < n then v else gI σ c j) := rfl
theorem put_in {σ : SS} {s w h X Y : Nat} (hw : gI σ s 0 = nI w) (hh : gI σ s 1 = nI h) (hw2 : w ≤ 40) (hh2 : h ≤ 40) (hX : X < w) (hY : Y < h) (v : Int32) : ∃ b, fX6_put σ s (nI X) (nI Y) v = some (b, sI σ (s + 1) (Y * w + X) v) ∧ b = decide (¬ gI σ (s + 1) (Y * w + X) = v) := by
  have hk := cell_lt hX hY
  have ha := area_le hw2 hh2
  unfold fX6_put
  rw [if_pos (by rw [has_eq hw hh hw2 hh2, nI_toInt (by omega), nI_toInt (by omega)]; omega)]
  simp only [vthen_eq]
  rw [hw, ix_c, grd_eq _ (inb_nI (by omega) (by omega)), nI_clamp (by omega)]
  by_cases hv : gI σ (s + 1) (Y * w + X) = v
  · rw [if_pos hv, grd_eq _ (show isb 0 = true from rfl)]
    exact ⟨_, rfl, by rw [decide_eq_false (fun h => h hv)]; rfl⟩
  · rw [if_neg hv, grd_eq _ (show isb 1 = true from rfl)]
    exact ⟨_, rfl, by rw [decide_eq_true hv]; rfl⟩
theorem put_out {σ : SS} {s w h : Nat} (hw : gI σ s 0 = nI w) (hh : gI σ s 1 = nI h) (hw2 : w ≤ 40) (hh2 : h ≤ 40) {x y : Int32} (hc : ¬ ((0 ≤ x.toInt ∧ x.toInt < w) ∧ 0 ≤ y.toInt ∧ y.toInt < h)) (v : Int32) : fX6_put σ s x y v = some (false, σ) := by
  unfold fX6_put
  rw [if_neg (by rw [has_eq hw hh hw2 hh2]; exact hc)]
theorem min_nI {a b : Nat} (ha : a < 2 ^ 31) (hb : b < 2 ^ 31) (σ : SS) : fJ9_min_7cf53 σ (nI a) (nI b) = nI (min a b) := by
  unfold fJ9_min_7cf53
  by_cases h : b < a
  · rw [if_pos ((nI_ltI hb ha).mpr h)]; congr 1; omega
  · rw [if_neg (fun q => h ((nI_ltI hb ha).mp q))]; congr 1; omega
theorem max_nI {a b : Nat} (ha : a < 2 ^ 31) (hb : b < 2 ^ 31) (σ : SS) : fJ9_max_7cf53 σ (nI a) (nI b) = nI (max a b) := by
  unfold fJ9_max_7cf53
  by_cases h : a < b
  · rw [if_pos ((nI_ltI ha hb).mpr h)]; congr 1; omega
  · rw [if_neg (fun q => h ((nI_ltI ha hb).mp q))]; congr 1; omega
def alk (n : Nat) (d d' : Nat → Int32) : Prop := ∀ k, k < n → d k = d' k ∧ inR (d' k) 0 9
theorem alk_upd {n : Nat} {d d' : Nat → Int32} (h : alk n d d') (k : Nat) {v : Int32} (hv : inR v 0 9) : alk n (upd d k v) (upd d' k v) := fun j hj => by
  show (if j = k then v else d j) = (if j = k then v else d' j) ∧ inR (if j = k then v else d' j) 0 9
  by_cases e : j = k
  · rw [if_pos e, if_pos e]; exact ⟨rfl, hv⟩
  · rw [if_neg e, if_neg e]; exact h j hj
theorem alk_itr {n : Nat} {f g : Nat → (Nat → Int32) → Nat → Int32} {d d' : Nat → Int32} (h : alk n d d') (N : Nat) (hs : ∀ i, i < N → ∀ a b, alk n a b → alk n (f i a) (g i b)) : alk n (itr f d N) (itr g d' N) := by
  induction N with
  | zero => exact h
  | succ N ih => exact hs N (by omega) _ _ (ih fun i hi => hs i (by omega))
theorem itr_id {S : Type} {f : Nat → S → S} {s : S} {M N : Nat} (hMN : M ≤ N) (h : ∀ i, M ≤ i → i < N → ∀ s, f i s = s) : itr f s N = itr f s M := by
  obtain ⟨d, rfl⟩ : ∃ d, N = M + d := ⟨N - M, by omega⟩
  clear hMN
  induction d with
  | zero => rfl
  | succ d ih =>
    show f (M + d) (itr f s (M + d)) = _
    rw [h (M + d) (by omega) (by omega)]
    exact ih fun i h1 h2 => h i h1 (by omega)
section FILL
variable {σ : SS} {s w q X : Nat} {v : Int32}
end FILL
section FILL2
variable {σ : SS} {s w q X Y : Nat} {v : Int32}
end FILL2
/-! from 16.row of the class-and-reference proof: what speaks of the class alone -/
/-! A row of the tape. -/
theorem least_of {D : Nat → Prop} : ∀ n, ¬ (∀ i, i < n → D i) → ∃ i, i < n ∧ ¬ D i ∧ ∀ j, j < i → D j := by
  intro n
  induction n with
  | zero => exact fun h => absurd (fun i hi => absurd hi (by omega)) h
  | succ n ih =>
    intro h
    by_cases h1 : ∀ i, i < n → D i
    · refine ⟨n, by omega, fun q => h fun i hi => ?_, h1⟩
      by_cases e : i = n
      · subst e; exact q
      · exact h1 i (by omega)
    · obtain ⟨i, a, b, c⟩ := ih h1
      exact ⟨i, by omega, b, c⟩
theorem sI_A_ne {σ : SS} {c c' k : Nat} {v : Int32} {d : Nat → Int32} (h : c' ≠ c) : sI (sA σ c d) c' k v = sA (sI σ c' k v) c d := SS_ext (fun q j => by
  rw [gI_sI, gI_sA, gI_sA, gI_sI]
  by_cases h1 : q = c
  · subst h1; rw [if_neg (fun z => h z.1.symm), if_pos rfl, if_pos rfl]
  · rw [if_neg h1, if_neg h1]) rfl
theorem byte_of {x : Int32} (h : inR x (-128) 127) : (∃ n : Nat, n < 128 ∧ x = nI n) ∨ ∃ n : Nat, n < 128 ∧ x = nI (n + 1) * (-1) := by
  by_cases h0 : 0 ≤ x.toInt
  · obtain ⟨n, hn, e⟩ := in_of (x := x) (w := 128) (by decide) ⟨h0, by have := h.2; omega⟩
    exact Or.inl ⟨n, hn, e⟩
  · have h1 : (-x).toInt = - x.toInt := by
      rw [Int32.toInt_neg]
      apply Int.bmod_eq_of_le <;> have := h.1 <;> omega
    obtain ⟨n, hn, e⟩ := in_of (x := -x) (w := 129) (by decide) (by rw [h1]; have := h.1; omega)
    refine Or.inr ⟨n - 1, ?_, ?_⟩
    · have : n ≠ 0 := fun z => by subst z; rw [e] at h1; have h9 : (nI 0).toInt = 0 := rfl; rw [h9] at h1; omega
      omega
    · have hn0 : n ≠ 0 := fun z => by subst z; rw [e] at h1; have h9 : (nI 0).toInt = 0 := rfl; rw [h9] at h1; omega
      rw [show n - 1 + 1 = n by omega, ← e, Int32.mul_neg, Int32.mul_one, Int32.neg_neg]
theorem byte_p : ∀ n, n < 128 → nI n &&& 255 = nI n := by decide +kernel
theorem byte_n : ∀ n, n < 128 → ¬ (48 ≤ (nI (n + 1) * (-1) &&& 255).toInt ∧ (nI (n + 1) * (-1) &&& 255).toInt ≤ 57) ∧ ¬ (48 ≤ (nI (n + 1) * (-1)).toInt ∧ (nI (n + 1) * (-1)).toInt ≤ 57) := by decide +kernel
theorem digit {x : Int32} (h : inR x (-128) 127) : ((48 ≤ (x &&& 255).toInt ∧ (x &&& 255).toInt ≤ 57) ↔ (48 ≤ x.toInt ∧ x.toInt ≤ 57)) ∧ ((48 ≤ x.toInt ∧ x.toInt ≤ 57) → x &&& 255 = x) := by
  rcases byte_of h with ⟨n, hn, rfl⟩ | ⟨n, hn, rfl⟩
  · rw [byte_p n hn]; exact ⟨Iff.rfl, fun _ => rfl⟩
  · obtain ⟨a, b⟩ := byte_n n hn
    exact ⟨⟨fun q => absurd q a, fun q => absurd q b⟩, fun q => absurd q b⟩
theorem sub48 {x : Int32} (h : 48 ≤ x.toInt ∧ x.toInt ≤ 57) : inR (x - 48) 0 9 := by
  obtain ⟨n, hn, rfl⟩ := in_of (x := x) (w := 58) (by decide) (by omega)
  rw [nI_toInt (by omega)] at h
  have e : nI n - 48 = nI (n - 48) := nI_sub (a := n) (b := 48) (by omega)
  rw [e]; unfold inR; rw [nI_toInt (by omega)]; omega
/-! from 17.drawer of the class-and-reference proof: what speaks of the class alone -/
/-! Drawers: keep and back. -/
theorem takeAll_eq {σ : SS} {t s : Nat} (h : s ≠ t ∧ s ≠ t + 1 ∧ s + 1 ≠ t) : fX6_takeAll σ t s = some (sA (sI (sI σ t 0 (gI σ s 0)) t 1 (gI σ s 1)) (t + 1) (fun k => if k < 1600 then gI σ (s + 1) k else gI σ (t + 1) k)) := by
  unfold fX6_takeAll
  simp only [vthen_eq]
  rw [grd_eq _ (by decide +kernel), gI_ne (c' := s) (by omega)]
  unfold cpA
  rw [gI_ne (c' := s + 1) (by omega), gI_ne (c' := s + 1) (by omega), gI_ne (c' := t + 1) (by omega), gI_ne (c' := t + 1) (by omega)]
  congr 2
  funext k
  show (if 0 ≤ k ∧ k < 0 + 1600 then gI σ (s + 1) (0 + (k - 0)) else gI σ (t + 1) k) = _
  by_cases hk : k < 1600
  · rw [if_pos (by omega), if_pos hk]; congr 1; omega
  · rw [if_neg (by omega), if_neg hk]
/-! from 18.feed of the class-and-reference proof: what speaks of the class alone -/
/-! Feeding the tape. -/
theorem bp_b (x : Int32) : x.toInt8.toInt32 &&& 255 = x &&& 255 := by
  apply Int32.toBitVec_inj.mp
  rw [Int32.toBitVec_and, Int32.toBitVec_and, Int8.toBitVec_toInt32, Int32.toBitVec_toInt8]
  apply BitVec.eq_of_getLsbD_eq
  intro i hi
  rw [BitVec.getLsbD_and, BitVec.getLsbD_and]
  have hm : ∀ i < 32, 8 ≤ i → (255 : Int32).toBitVec.getLsbD i = false := by decide
  rcases Nat.lt_or_ge i 8 with z | z
  · rw [BitVec.getLsbD_signExtend, BitVec.getLsbD_signExtend, if_pos z, if_pos hi]
    simp only [z, hi, decide_true, Bool.true_and]
  · rw [hm i hi z]; simp
def x7 (i : Nat) : Int32 := [24, 16, 8, 0, -8].getD i 0
def x8 (i : Nat) : Int32 := [3, 2, 1, 0, -1].getD i 0
theorem x7_pos : ∀ i, i < 4 → ¬ x7 i < 0 := by decide +kernel
theorem x8_pos : ∀ i, i < 4 → ¬ x8 i < 0 := by decide +kernel
theorem x7_s : ∀ i, i < 4 → x7 i + -8 = x7 (i + 1) := by decide +kernel
theorem x8_s : ∀ i, i < 4 → x8 i + -1 = x8 (i + 1) := by decide +kernel
theorem x78 : ∀ i, i < 4 → 8 * x8 i = x7 i := by decide +kernel
def b7 (v : Int32) (i : Nat) : Int32 := (v >>> (x7 i &&& 31)) &&& 255
def b8 (v : Int32) (i : Nat) : Int32 := Int8.toInt32 (Int32.toInt8 (Int8.toInt32 (Int32.toInt8 (v >>> ((8 * x8 i) &&& 31)))))
theorem b78 (v : Int32) (i : Nat) (hi : i < 4) : b7 v i = b8 v i &&& 255 ∧ inR (b8 v i) (-128) 127 := by
  unfold b7 b8
  rw [x78 i hi, Int8.toInt8_toInt32, bp_b]
  refine ⟨rfl, ?_⟩
  unfold inR
  rw [Int8.toInt_toInt32]
  have h1 := Int8.toInt_lt (Int32.toInt8 (v >>> (x7 i &&& 31)))
  have h2 := Int8.le_toInt (Int32.toInt8 (v >>> (x7 i &&& 31)))
  omega
def y7 (n : Nat) (v : Int32) (σ : SS) (i : Nat) : SS := itr (fun i σ => sI (sI σ 2 (n + i) (b7 v i)) 1 1 (nI (n + i + 1))) σ i
def y8 (n : Nat) (v : Int32) (σ : SS) (i : Nat) : SS := itr (fun i σ => sI (sI σ 74 (n + i) (b8 v i)) 73 1 (nI (n + i + 1))) σ i
section FEED
variable {σ : SS} {n : Nat} {v : Int32}
theorem y7_1 (h : gI σ 1 1 = nI n) : ∀ i, gI (y7 n v σ i) 1 1 = nI (n + i)
  | 0 => h
  | i + 1 => gI_eq _ _ _ _
theorem y8_1 (h : gI σ 73 1 = nI n) : ∀ i, gI (y8 n v σ i) 73 1 = nI (n + i)
  | 0 => h
  | i + 1 => gI_eq _ _ _ _
theorem y7_o {c k : Nat} (hc : ¬ (c = 1 ∧ k = 1)) (hc2 : c ≠ 2) : ∀ i, gI (y7 n v σ i) c k = gI σ c k
  | 0 => rfl
  | i + 1 => by
    show gI (sI (sI (y7 n v σ i) 2 (n + i) (b7 v i)) 1 1 (nI (n + i + 1))) c k = _
    rw [gI_nk hc, gI_ne hc2]; exact y7_o hc hc2 i
theorem y8_o {c k : Nat} (hc : ¬ (c = 73 ∧ k = 1)) (hc2 : c ≠ 74) : ∀ i, gI (y8 n v σ i) c k = gI σ c k
  | 0 => rfl
  | i + 1 => by
    show gI (sI (sI (y8 n v σ i) 74 (n + i) (b8 v i)) 73 1 (nI (n + i + 1))) c k = _
    rw [gI_nk hc, gI_ne hc2]; exact y8_o hc hc2 i
theorem y7_c {j : Nat} : ∀ i, gI (y7 n v σ i) 2 j = if n ≤ j ∧ j < n + i then b7 v (j - n) else gI σ 2 j
  | 0 => (if_neg (by omega)).symm
  | i + 1 => by
    show gI (sI (sI (y7 n v σ i) 2 (n + i) (b7 v i)) 1 1 (nI (n + i + 1))) 2 j = _
    rw [gI_ne (by omega)]
    by_cases h : j = n + i
    · subst h; rw [gI_eq, if_pos (by omega), show n + i - n = i by omega]
    · rw [gI_nk (by omega), y7_c i]
      by_cases h2 : n ≤ j ∧ j < n + i
      · rw [if_pos h2, if_pos (by omega)]
      · rw [if_neg h2, if_neg (by omega)]
theorem y8_c {j : Nat} : ∀ i, gI (y8 n v σ i) 74 j = if n ≤ j ∧ j < n + i then b8 v (j - n) else gI σ 74 j
  | 0 => (if_neg (by omega)).symm
  | i + 1 => by
    show gI (sI (sI (y8 n v σ i) 74 (n + i) (b8 v i)) 73 1 (nI (n + i + 1))) 74 j = _
    rw [gI_ne (by omega)]
    by_cases h : j = n + i
    · subst h; rw [gI_eq, if_pos (by omega), show n + i - n = i by omega]
    · rw [gI_nk (by omega), y8_c i]
      by_cases h2 : n ≤ j ∧ j < n + i
      · rw [if_pos h2, if_pos (by omega)]
      · rw [if_neg h2, if_neg (by omega)]
theorem put4 (h : gI σ 1 1 = nI n) (hn : n + 4 ≤ 480) : fX7_putOnTape σ v = some (y7 n v σ 4) := by
  unfold fX7_putOnTape X7_putOnTape_L3
  refine lp_2 x7 (y7 n v σ) 4 _ (fun i hi rec => ?_) (fun rec => ?_) fuel (fuel_gt (by decide))
  · rw [if_neg (x7_pos i hi), y7_1 h, if_neg (by show ¬ nI 480 ≤ nI (n + i); exact nI_ge (by omega) (by decide)), grd_eq _ (inb_nI (by omega) (by decide)), vthen_eq, vthen_eq, nI_clamp (by omega), gI_ne (c' := 1) (by omega), y7_1 h, nI_1, x7_s i hi]
    rfl
  · rw [if_pos (by decide +kernel)]
end FEED
theorem y7_R (n : Nat) (v : Int32) (σ : SS) : ∀ i, gR (y7 n v σ i) = gR σ
  | 0 => rfl
  | i + 1 => y7_R n v σ i
theorem y8_R (n : Nat) (v : Int32) (σ : SS) : ∀ i, gR (y8 n v σ i) = gR σ
  | 0 => rfl
  | i + 1 => y8_R n v σ i
def z7 (n : Nat) (a : Nat → Int32) (σ : SS) : SS := y7 (n + 16) (a 5) (y7 (n + 12) (a 4) (y7 (n + 8) (a 3) (y7 (n + 4) (a 2) (y7 n (a 1) σ 4) 4) 4) 4) 4
def z8 (n : Nat) (a : Nat → Int32) (σ : SS) : SS := y8 (n + 16) (a 5) (y8 (n + 12) (a 4) (y8 (n + 8) (a 3) (y8 (n + 4) (a 2) (y8 n (a 1) σ 4) 4) 4) 4) 4
/-! from 19.form of the class-and-reference proof: what speaks of the class alone -/
/-! The form, asked. -/
theorem sub1z {w : Nat} (h2 : w ≤ 1000000) : (nI w - 1).toInt = (w : Int) - 1 := by
  rcases Nat.eq_zero_or_pos w with rfl | h
  · rfl
  · exact sub1 h h2
theorem hasQ_eq {σ : SS} {f Q : Nat} (hQ : Q ≤ 12) (e : gI σ f 5 = nI Q) (q : Int32) : (fX1_hasQuestion σ f q = true) = (0 ≤ q.toInt ∧ q.toInt < Q) := by
  unfold fX1_hasQuestion
  rw [e]
  simp only [vthen_eq, lt_i, le_i, nI_toInt (show Q < 2 ^ 31 by omega), Int32.reduceToInt]
  by_cases c1 : q.toInt < 0
  · rw [if_pos c1]; simp; omega
  rw [if_neg c1]
  by_cases c2 : (Q : Int) ≤ q.toInt
  · rw [if_pos c2]; simp; omega
  rw [if_neg c2]; simp; omega
theorem shl_n : ∀ n, n ≤ 6 → ((1 : Int32) <<< (nI n &&& 31)).toInt = (2 ^ n : Nat) ∧ ((1 : Int32) <<< (nI n &&& 31) - 1).toInt = (2 ^ n : Nat) - 1 ∧ 2 ^ n ≤ 64 := by decide +kernel
/-! from 20.ask of the class-and-reference proof: what speaks of the class alone -/
/-! A question, asked. -/
theorem psum_le {N : Nat → Nat} : ∀ q, (∀ p, p < q → N p ≤ 6) → psum N q ≤ 6 * q
  | 0, _ => Nat.le_refl _
  | q + 1, h => by
    have := psum_le q (fun p hp => h p (by omega))
    have := h q (by omega)
    show psum N q + N q ≤ _
    omega
theorem hasBox_eq {σ : SS} {f Q q n : Nat} (hQ : Q ≤ 12) (e : gI σ f 5 = nI Q) (hq : q < Q) (hn : n ≤ 6) (g3 : gI σ (f + 3) q = nI n) (x : Int32) : ∃ bb, fX1_hasBox σ f (nI q) x = some bb ∧ (bb = true) = (0 ≤ x.toInt ∧ x.toInt < n) := by
  unfold fX1_hasBox
  simp only [vthen_eq, lt_i, le_i, Int32.reduceToInt]
  rw [if_pos (by rw [hasQ_eq hQ e, nI_toInt (by omega)]; omega), grd_eq _ (inb_nI (by omega) (by decide)), nI_clamp (by omega), g3, nI_toInt (by omega)]
  by_cases c1 : x.toInt < 0
  · rw [if_pos c1]; exact ⟨_, rfl, by simp; omega⟩
  rw [if_neg c1]
  by_cases c2 : (n : Int) ≤ x.toInt
  · rw [if_pos c2]; exact ⟨_, rfl, by simp; omega⟩
  rw [if_neg c2]; exact ⟨_, rfl, by simp; omega⟩
theorem subc {x : Int32} {c m : Nat} (h : x = nI m) (hc : c ≤ m) (hm : m ≤ 1000) : (x - nI c).toInt = (m : Int) - c := by
  rw [h, nI_sub hc, nI_toInt (by omega)]; omega
/-! from 21.count of the class-and-reference proof: what speaks of the class alone -/
/-! What is counted. -/
theorem itr_eq {S : Type} {f g : Nat → S → S} (s : S) (N : Nat) (h : ∀ i, i < N → ∀ s, f i s = g i s) : itr f s N = itr g s N := itr_congr h
section COUNT
variable {σ : SS} {s w q : Nat}
theorem notBelow_eq (hw : w ≤ 40) (hq : q ≤ 40) (e1 : gI σ s 0 = nI w) (e2 : gI σ s 1 = nI q) (l : Int32) : fX6_notBelow σ s l = some (itr (fun i n => if gI σ (s + 1) i < l then n else n + 1) 0 (w * q)) := by
  have ha := area_le hw hq
  unfold fX6_notBelow X6_notBelow_L4
  refine lp_2 (fun i => itr (fun i n => if gI σ (s + 1) i < l then n else n + 1) 0 i) (fun i => nI i) (w * q) _ (fun i hi rec => ?_) (fun rec => ?_) fuel (fuel_gt (by omega))
  · rw [e1, e2, nI_mul, if_neg (nI_ge hi (by omega)), grd_eq _ (inb_nI (by omega) (by omega)), nI_clamp (by omega), nI_1]
    show _ = rec (if gI σ (s + 1) i < l then _ else _) _
    by_cases c : gI σ (s + 1) i < l
    · rw [if_pos c, if_pos c]
    · rw [if_neg c, if_neg c]
  · rw [e1, e2, nI_mul, if_pos (nI_le (Nat.le_refl _) (by omega))]
theorem sumNotBelow_eq (hw : w ≤ 40) (hq : q ≤ 40) (e1 : gI σ s 0 = nI w) (e2 : gI σ s 1 = nI q) (l : Int32) : fX6_sumNotBelow σ s l = some (itr (fun i n => if gI σ (s + 1) i < l then n else n + gI σ (s + 1) i) 0 (w * q)) := by
  have ha := area_le hw hq
  unfold fX6_sumNotBelow X6_sumNotBelow_L4
  refine lp_2 (fun i => itr (fun i n => if gI σ (s + 1) i < l then n else n + gI σ (s + 1) i) 0 i) (fun i => nI i) (w * q) _ (fun i hi rec => ?_) (fun rec => ?_) fuel (fuel_gt (by omega))
  · rw [e1, e2, nI_mul, if_neg (nI_ge hi (by omega)), grd_eq _ (inb_nI (by omega) (by omega)), nI_clamp (by omega), nI_1]
    show _ = rec (if gI σ (s + 1) i < l then _ else _) _
    by_cases c : gI σ (s + 1) i < l
    · rw [if_pos c, if_pos c]
    · rw [if_neg c, if_neg c]
      rfl
  · rw [e1, e2, nI_mul, if_pos (nI_le (Nat.le_refl _) (by omega))]
end COUNT
theorem ite_ex {c : Prop} [Decidable c] {x : Int32} {Y : Option Int32} (h : ∃ v, Y = some v) : ∃ v, (if c then some x else Y) = some v := by
  by_cases hc : c
  · rw [if_pos hc]; exact ⟨_, rfl⟩
  · rw [if_neg hc]; exact h
