/-! 31: a new scan under a form; settings, corners, ticks. -/
section WPM
variable {A B C D E F G R : Type} {P : R → Prop}
theorem wl_7 {bot : A → B → C → D → E → F → G → Option R} {body : (A → B → C → D → E → F → G → Option R) → A → B → C → D → E → F → G → Option R} (I : Nat → A → B → C → D → E → F → G → Prop) (hs : ∀ m a b c d e f g, I m a b c d e f g → ∀ rec : A → B → C → D → E → F → G → Option R, (∀ m' a' b' c' d' e' f' g', m' < m → I m' a' b' c' d' e' f' g' → WP (rec a' b' c' d' e' f' g') P) → WP (body rec a b c d e f g) P) : ∀ n m a b c d e f g, m < n → I m a b c d e f g → WP (lp bot body n a b c d e f g) P := by
  intro n
  induction n with
  | zero => intro m a b c d e f g h; omega
  | succ n ih => exact fun m a b c d e f g h hI => hs m a b c d e f g hI _ fun m' a' b' c' d' e' f' g' h' hI' => ih m' a' b' c' d' e' f' g' (by omega) hI'
theorem wf_5 {bot : A → B → C → D → E → Option R} {body : (A → B → C → D → E → Option R) → A → B → C → D → E → Option R} (N : Nat) (I : Nat → A → B → C → D → E → Prop) {a : A} {b : B} {c : C} {d : D} {e : E} (h0 : I 0 a b c d e) (hN : N < 1000000) (hs : ∀ i a b c d e (rec : A → B → C → D → E → Option R), i < N → I i a b c d e → (∀ a' b' c' d' e', I (i + 1) a' b' c' d' e' → WP (rec a' b' c' d' e') P) → WP (body rec a b c d e) P) (he : ∀ a b c d e (rec : A → B → C → D → E → Option R), I N a b c d e → WP (body rec a b c d e) P) : WP (lp bot body fuel a b c d e) P :=
  wl_5 (fun m a b c d e => ∃ i, i + m = N ∧ I i a b c d e) (fun m a b c d e hI rec hr => by
    obtain ⟨i, hi, hI⟩ := hI
    rcases Nat.eq_zero_or_pos m with h | h
    · have : i = N := by omega
      subst this; exact he a b c d e rec hI
    · exact hs i a b c d e rec (by omega) hI fun a' b' c' d' e' h' => hr (m - 1) a' b' c' d' e' (by omega) ⟨i + 1, by omega, h'⟩) fuel N a b c d e hN ⟨0, by omega, h0⟩
theorem wf_7 {bot : A → B → C → D → E → F → G → Option R} {body : (A → B → C → D → E → F → G → Option R) → A → B → C → D → E → F → G → Option R} (N : Nat) (I : Nat → A → B → C → D → E → F → G → Prop) {a : A} {b : B} {c : C} {d : D} {e : E} {f : F} {g : G} (h0 : I 0 a b c d e f g) (hN : N < 1000000) (hs : ∀ i a b c d e f g (rec : A → B → C → D → E → F → G → Option R), i < N → I i a b c d e f g → (∀ a' b' c' d' e' f' g', I (i + 1) a' b' c' d' e' f' g' → WP (rec a' b' c' d' e' f' g') P) → WP (body rec a b c d e f g) P) (he : ∀ a b c d e f g (rec : A → B → C → D → E → F → G → Option R), I N a b c d e f g → WP (body rec a b c d e f g) P) : WP (lp bot body fuel a b c d e f g) P :=
  wl_7 (fun m a b c d e f g => ∃ i, i + m = N ∧ I i a b c d e f g) (fun m a b c d e f g hI rec hr => by
    obtain ⟨i, hi, hI⟩ := hI
    rcases Nat.eq_zero_or_pos m with h | h
    · have : i = N := by omega
      subst this; exact he a b c d e f g rec hI
    · exact hs i a b c d e f g rec (by omega) hI fun a' b' c' d' e' f' g' h' => hr (m - 1) a' b' c' d' e' f' g' (by omega) ⟨i + 1, by omega, h'⟩) fuel N a b c d e f g hN ⟨0, by omega, h0⟩
end WPM
section ANEW
variable {σ σ' : SS} {W H sp m : Nat} {F : Nat → Nat → Int32}
/-- what is the same of two forms -/
def Fq (σ σ' : SS) : Prop := fO σ' = fO σ ∧ uO σ' = uO σ ∧ vO σ' = vO σ ∧ aO σ' = aO σ ∧ bO σ' = bO σ ∧ qO σ' = qO σ ∧ nO σ' = nO σ ∧ xO σ' = xO σ ∧ yO σ' = yO σ
theorem Sd.fq (h : Sd σ) (h5 : gR σ' 1 5 = gR σ 1 5) (hc : ∀ c k, 10 ≤ c → c ≤ 25 → gI σ' c k = gI σ c k) : Fq σ σ' := by
  have hf := h.f
  have ef : fO σ' = fO σ := h5
  exact ⟨ef, by unfold uO; rw [ef, hc _ _ (by omega) (by omega)], by unfold vO; rw [ef, hc _ _ (by omega) (by omega)], by unfold aO; rw [ef, hc _ _ (by omega) (by omega)], by unfold bO; rw [ef, hc _ _ (by omega) (by omega)], by unfold qO; rw [ef, hc _ _ (by omega) (by omega)], funext fun p => by unfold nO; rw [ef, hc _ _ (by omega) (by omega)], funext fun p => by unfold xO; rw [ef, hc _ _ (by omega) (by omega)], funext fun p => by unfold yO; rw [ef, hc _ _ (by omega) (by omega)]⟩
theorem Sd.anew (h : Sd σ) (hR : ∀ k, gR σ' 1 k = gR σ 1 k) (hP : Pc W H F σ') (hW : 8 ≤ W ∧ W ≤ 40) (hH : 8 ≤ H ∧ H ≤ 40) (hF : ∀ x y, x < W → y < H → inR (F x y) 0 9) (hc : ∀ c k, 10 ≤ c → c ≤ 25 → gI σ' c k = gI σ c k) (esp : gI σ' 32 1 = nI sp) (hsp : 1 ≤ sp ∧ sp ≤ 20) (em : gI σ' 32 3 = nI m) (hm : 1 ≤ m ∧ m ≤ 200) : Sd σ' ∧ (wO σ' = W ∧ hO σ' = H ∧ pO σ' = cW W H F) ∧ kO σ' = sp ∧ Fq σ σ' := by
  have hf := h.f
  have hs := h.s
  obtain ⟨ew, eh, ep⟩ := hP.eq (by omega) (by omega)
  have fq := h.fq (hR 5) hc
  have ek : kO σ' = sp := by unfold kO; rw [esp, tn_nI (by omega)]
  have es : sO σ' = sO σ := hR 2
  refine ⟨?_, ⟨ew, eh, ep⟩, ek, fq⟩
  obtain ⟨ef, eu, ev, ea, eb, eq, en, ex, ey⟩ := fq
  obtain ⟨a, b, c, d, -⟩ := h
  refine ⟨?_, ?_, ⟨by rw [hR, es]; exact c.1, by rw [hR, ef]; exact c.2⟩, by rw [ef, hc _ _ (by omega) (by omega)]; exact d, m, hm, em⟩
  · unfold Cd C7 at *
    rw [ef, ew, eh, ek, eu, ev, ea, eb, eq, en, ex, ey, ep]
    obtain ⟨a1, a2, a3, a4, a5, a6, a7, a8, a9, a10, a11, a12, a13, a14, a15, a16, a17, a18, a19, a20, a21, a22⟩ := a
    refine ⟨by rw [es]; exact hs, a2, hW, hH, hsp, hP.1, hP.2.1, fun k hk => ?_, rfl, esp, rfl, a12, a13, a14, a15, a16, (hc _ _ (by omega) (by omega)).trans a17, (hc _ _ (by omega) (by omega)).trans a18, (hc _ _ (by omega) (by omega)).trans a19, (hc _ _ (by omega) (by omega)).trans a20, (hc _ _ (by omega) (by omega)).trans a21, fun k hk => ⟨⟨(hc _ _ (by omega) (by omega)).trans (a22 k hk).1.1, (a22 k hk).1.2⟩, (hc _ _ (by omega) (by omega)).trans (a22 k hk).2.1, (a22 k hk).2.2⟩⟩
    have m1 : k % W < W := Nat.mod_lt _ (by omega)
    have m2 : k / W < H := Nat.div_lt_of_lt_mul hk
    have e := hP.2.2 _ _ m1 m2
    rw [Nat.mul_comm, Nat.div_add_mod] at e
    unfold cW
    rw [if_pos hk]
    exact ⟨e, hF _ _ m1 m2⟩
  · rw [ef, eq, en]
    obtain ⟨b1, b2, b3, b4⟩ := b
    exact ⟨b1, (hc _ _ (by omega) (by omega)).trans b2, b3, fun p hp => ⟨(b4 p hp).1, (hc _ _ (by omega) (by omega)).trans (b4 p hp).2.1, (hc _ _ (by omega) (by omega)).trans (b4 p hp).2.2⟩⟩
end ANEW
/-! settings -/
def sLo (k : Nat) : Nat := if k < 4 then 1 else 0
def sHi (k : Nat) : Nat := if k = 0 then 9 else if k = 1 then 20 else if k = 2 then 60 else if k = 6 then 20 else 200
def Stg (σ : SS) : Prop := ∀ k, k < 7 → ∃ n, (sLo k ≤ n ∧ n ≤ sHi k) ∧ gI σ 32 k = nI n
/-- one setting is told -/
def Se (τ : SS) (k n : Nat) (τ' : SS) : Prop := gR τ' = gR τ ∧ gI τ' 32 k = nI n ∧ ∀ c j, ¬ (c = 32 ∧ j = k) → gI τ' c j = gI τ c j
theorem set_s (τ : SS) {k n : Nat} (hk : k < 7) (hn : sLo k ≤ n ∧ n ≤ sHi k) : WP (fX7_set τ (nI k) (nI n)) (fun r => r.1 = gI τ 32 k ∧ Se τ k n r.2) := by
  have hn2 : n ≤ 200 := by unfold sHi at hn; (repeat' split at hn) <;> omega
  have e1 : (roV 1001 (nI k).toNatClampNeg).toInt = sLo k ∧ (roV 1002 (nI k).toNatClampNeg).toInt = sHi k := by
    rcases (show k = 0 ∨ k = 1 ∨ k = 2 ∨ k = 3 ∨ k = 4 ∨ k = 5 ∨ k = 6 by omega) with rfl | rfl | rfl | rfl | rfl | rfl | rfl <;> exact ⟨rfl, rfl⟩
  rw [set7, nI_toInt (by omega), nI_toInt (by omega), e1.1, e1.2, if_pos (by omega), if_pos (by omega), nI_clamp (by omega)]
  exact ⟨_, rfl, rfl, rfl, gI_eq _ _ _ _, fun c j h => gI_nk h⟩
theorem Stg.get {σ : SS} (h : Stg σ) {k : Nat} (hk : k < 7) : ∃ n, (sLo k ≤ n ∧ n ≤ 200) ∧ gI σ 32 k = nI n := by
  obtain ⟨n, h1, h2⟩ := h k hk
  exact ⟨n, ⟨h1.1, by have := h1.2; unfold sHi at this; (repeat' split at this) <;> omega⟩, h2⟩
theorem Stg.pos {σ τ : SS} (h : Stg σ) {k : Nat} (hk : k < 4) (e : gI τ 32 k = gI σ 32 k) : ¬ gI τ 32 k ≤ 0 := by
  obtain ⟨n, h1, h2⟩ := h.get (k := k) (by omega)
  have : sLo k = 1 := if_pos hk
  rw [e, h2, show (0 : Int32) = nI 0 from rfl, lenN (by omega) (by omega)]; omega
theorem Stg.nn {σ τ : SS} (h : Stg σ) {k : Nat} (hk : k < 7) (e : gI τ 32 k = gI σ 32 k) : ¬ gI τ 32 k < 0 := by
  obtain ⟨n, h1, h2⟩ := h.get (k := k) (by omega)
  rw [e, h2, show (0 : Int32) = nI 0 from rfl, ltnN (by omega) (by omega)]; omega
/-- a new empty scan -/
theorem blank_s (τ : SS) {W H : Nat} (hW : 8 ≤ W ∧ W ≤ 40) (hH : 8 ≤ H ∧ H ≤ 40) : WP (fX7_blank τ (nI W) (nI H)) (fun r => r.1 = true ∧ gR r.2 = gR τ ∧ Pc W H (fun _ _ => 0) r.2 ∧ ∀ c k, ¬ (c = sO τ ∨ c = sO τ + 1) → gI r.2 c k = gI τ c k) := by
  have em : fX6_empty τ (gR τ 1 2) (nI W) (nI H) = some (flI (sI (sI τ (sO τ) 0 (nI W)) (sO τ) 1 (nI H)) (sO τ + 1) 1600 0) := by
    unfold fX6_empty; rw [vthen_q, vthen_q, vthen_q]; rfl
  unfold fX7_blank
  simp only [lt_i, le_i, Int32.reduceToInt, nI_toInt (show W < 2 ^ 31 by omega), nI_toInt (show H < 2 ^ 31 by omega)]
  rw [if_neg (by omega), if_neg (by omega), if_neg (by omega), if_pos (by omega), bnd1_of _ em]
  have har := area_le hW.2 hH.2
  refine ⟨_, rfl, rfl, rfl, ⟨?_, ?_, fun x y hx hy => ?_⟩, fun c k hc => ?_⟩
  · show gI (flI (sI (sI τ (sO τ) 0 (nI W)) (sO τ) 1 (nI H)) (sO τ + 1) 1600 0) (sO τ) 0 = _
    rw [gI_fl_ne (by omega), gI_nk (by omega), gI_eq]
  · show gI (flI (sI (sI τ (sO τ) 0 (nI W)) (sO τ) 1 (nI H)) (sO τ + 1) 1600 0) (sO τ) 1 = _
    rw [gI_fl_ne (by omega), gI_eq]
  · show gI (flI (sI (sI τ (sO τ) 0 (nI W)) (sO τ) 1 (nI H)) (sO τ + 1) 1600 0) (sO τ + 1) (y * W + x) = _
    have hl := cell_lt hx hy
    rw [gI_fl (by omega)]
  · dsimp only
    rw [gI_fl_ne (by omega), gI_ne (by omega), gI_ne (by omega)]
theorem corner_s (τ : SS) {k x y : Nat} (hk : k < 4) (hx : x < 40) (hy : y < 40) : fX7_corner τ (nI k) (nI x) (nI y) = some (true, sI (sI τ 28 k (nI x)) 29 k (nI y)) := by
  unfold fX7_corner
  simp only [lt_i, le_i, Int32.reduceToInt, nI_toInt (show k < 2 ^ 31 by omega), nI_toInt (show x < 2 ^ 31 by omega), nI_toInt (show y < 2 ^ 31 by omega)]
  rw [if_neg (by omega), if_neg (by omega), if_neg (by omega), if_neg (by omega), if_neg (by omega), if_pos (by omega), grd_eq _ (inb_nI hk (by decide)), nI_clamp (by omega), vthen_q, vthen_q]
theorem sh_at : ∀ n, n ≤ 6 → ((1 : Int32) <<< (nI n &&& 31)) = nI (2 ^ n) := by decide +kernel
theorem tick_s (τ : SS) {Q p n T : Nat} (hQ : Q ≤ 12) (hp : p < Q) (e5 : gI τ (gR τ 1 5) 5 = nI Q) (e3 : gI τ (gR τ 1 5 + 3) p = nI n) (hn : n ≤ 6) (hT : T < 2 ^ n) : fX7_tick τ (nI p) (nI T) = some (gI τ 30 p, sI τ 30 p (nI T)) := by
  have h6 : 2 ^ n ≤ 2 ^ 6 := Nat.pow_le_pow_right (by decide) hn
  have e6 : (2 : Nat) ^ 6 = 64 := rfl
  unfold fX7_tick
  rw [if_pos (by rw [hasQ_eq hQ e5, nI_toInt (by omega)]; omega), if_neg (by rw [show (0 : Int32) = nI 0 from rfl, ltnN (by omega) (by omega)]; omega), grd_eq _ (inb_nI (by omega) (by decide)), nI_clamp (by omega), e3, sh_at n hn, if_pos (by rw [ltnN (by omega) (by omega)]; exact hT), vthen_q, vthen_q]
