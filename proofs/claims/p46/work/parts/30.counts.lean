/-! 30: what is counted of a printed sheet. -/
def bcN (T : Nat) : Nat → Nat
  | 0 => 0
  | n + 1 => bcN T n + if T.testBit n = true then 1 else 0
theorem pop_bc : ∀ n, n ≤ 6 → ∀ T, T < 2 ^ n → pop12 (nI T) = nI (bcN T n) ∧ bcN T n ≤ n := by decide +kernel
def tkC (N Tn : Nat → Nat) : Nat → Nat
  | 0 => 0
  | p + 1 => tkC N Tn p + bcN (Tn p) (N p)
theorem gs_tk1 {Q : Nat} {N Tn : Nat → Nat} (hN : ∀ p, p < Q → N p ≤ 6) {p : Nat} (hp : p < Q) : ∀ n, n ≤ N p → gs (tkK Q N Tn) (fun _ => 1) (psum N p + n) = gs (tkK Q N Tn) (fun _ => 1) (psum N p) + bcN (Tn p) n
  | 0, _ => rfl
  | n + 1, h => by
    have ih := gs_tk1 (Tn := Tn) hN hp n (by omega)
    have ht := tkK_at (Tn := Tn) hN hp (show n < N p by omega)
    show gs (tkK Q N Tn) (fun _ => 1) (psum N p + n + 1) = _ + (bcN (Tn p) n + if (Tn p).testBit n = true then 1 else 0)
    by_cases c : (Tn p).testBit n = true
    · rw [gs_t (ht.mpr c), ih, if_pos c]; omega
    · rw [gs_f (fun q => c (ht.mp q)), ih, if_neg c]; omega
theorem gs_tk {Q : Nat} {N Tn : Nat → Nat} (hN : ∀ p, p < Q → N p ≤ 6) : ∀ p, p ≤ Q → gs (tkK Q N Tn) (fun _ => 1) (psum N p) = tkC N Tn p
  | 0, _ => rfl
  | p + 1, h => by
    have ih := gs_tk (Tn := Tn) hN p (by omega)
    show gs (tkK Q N Tn) (fun _ => 1) (psum N p + N p) = tkC N Tn p + bcN (Tn p) (N p)
    rw [gs_tk1 hN (by omega) _ (Nat.le_refl _), ih]
section AREAS
variable {w q A B T U V : Nat} {cx cy : Nat → Nat} {tk : Nat → Prop}
theorem gs_bx (hA : 1 ≤ A) (hb : ∀ k, k < T → 4 + cx k + A ≤ w ∧ 4 + cy k + B ≤ q) (hd : ∀ k k' x y, k < T → k' < T → inBx A B cx cy k x y → inBx A B cx cy k' x y → k = k') : ∀ K, K ≤ T → gs (fun j => ∃ k, k < K ∧ tk k ∧ inBx A B cx cy k (j % w) (j / w)) (fun _ => 1) (w * q) = gs tk (fun _ => 1) K * (A * B)
  | 0, _ => by
    rw [gs_none _ fun k _ ⟨j, hj, _⟩ => absurd hj (Nat.not_lt_zero _), show gs tk (fun _ => 1) 0 = 0 from rfl, Nat.zero_mul]
  | K + 1, h => by
    have ih := gs_bx hA hb hd K (by omega)
    by_cases c : tk K
    · have e := gs_both (m := fun j => ∃ k, k < K ∧ tk k ∧ inBx A B cx cy k (j % w) (j / w)) (m' := fun j => inBx A B cx cy K (j % w) (j / w)) (m2 := fun j => ∃ k, k < K + 1 ∧ tk k ∧ inBx A B cx cy k (j % w) (j / w)) (f := fun _ => 1) (fun j => ?_) (fun j ⟨k, h1, _, h3⟩ h4 => ?_) (w * q)
      · rw [e, ih, gs_t c, rec_gs (X0 := 4 + cx K) (Y0 := 4 + cy K) (a := A) (b := B) hA (hb K (by omega)).1 (hb K (by omega)).2 (fun j _ => Iff.rfl), ls_1, Nat.add_mul, Nat.one_mul]
      · constructor
        · rintro ⟨k, h1, h2, h3⟩
          by_cases ek : k = K
          · subst ek; exact Or.inr h3
          · exact Or.inl ⟨k, by omega, h2, h3⟩
        · rintro (⟨k, h1, h2, h3⟩ | h3)
          · exact ⟨k, by omega, h2, h3⟩
          · exact ⟨K, by omega, c, h3⟩
      · have := hd k K _ _ (by omega) (by omega) h3 h4
        omega
    · rw [gs_f c, ← ih]
      refine gs_congr _ fun j _ => ⟨fun ⟨k, h1, h2, h3⟩ => ?_, fun ⟨k, h1, h2, h3⟩ => ⟨k, by omega, h2, h3⟩⟩
      by_cases ek : k = K
      · subst ek; exact absurd h2 c
      · exact ⟨k, by omega, h2, h3⟩
theorem gs_sq (hU : 4 ≤ U) (hV : 4 ≤ V) (hw : w = U + 7) (hq : q = V + 7) : ∀ K, K ≤ 4 → gs (fun j => ∃ k, k < K ∧ inSq (cX U) (cY V) k (j % w) (j / w)) (fun _ => 1) (w * q) = 9 * K
  | 0, _ => gs_none _ fun k _ ⟨j, hj, _⟩ => absurd hj (Nat.not_lt_zero _)
  | K + 1, h => by
    have ih := gs_sq hU hV hw hq K (by omega)
    have c1 := cc U V (show K < 4 by omega)
    have e := gs_both (m := fun j => ∃ k, k < K ∧ inSq (cX U) (cY V) k (j % w) (j / w)) (m' := fun j => inSq (cX U) (cY V) K (j % w) (j / w)) (m2 := fun j => ∃ k, k < K + 1 ∧ inSq (cX U) (cY V) k (j % w) (j / w)) (f := fun _ => 1) (fun j => ?_) (fun j ⟨k, h1, h3⟩ h4 => ?_) (w * q)
    · rw [e, ih, rec_gs (X0 := cX U K - 1) (Y0 := cY V K - 1) (a := 3) (b := 3) (m := fun j => inSq (cX U) (cY V) K (j % w) (j / w)) (by decide) (by omega) (by omega) (fun j _ => by unfold inSq; omega), ls_1, Nat.mul_add]
    · constructor
      · rintro ⟨k, h1, h3⟩
        by_cases ek : k = K
        · subst ek; exact Or.inr h3
        · exact Or.inl ⟨k, by omega, h3⟩
      · rintro (⟨k, h1, h3⟩ | h3)
        · exact ⟨k, by omega, h3⟩
        · exact ⟨K, by omega, h3⟩
    · have c2 := cc U V (show k < 4 by omega)
      unfold inSq at h3 h4
      omega
end AREAS
theorem two_kinds {a b : Nat → Prop} {d : Nat → Int32} {v : Nat} (hv : 1 ≤ v ∧ v ≤ 9) (hd : ∀ j, ¬ (a j ∧ b j)) : ∀ n, n ≤ 100000 → (∀ j, j < n → (b j → d j = nI v) ∧ (a j → d j = 9) ∧ (¬ b j → ¬ a j → d j = 0)) →
    itr (fun i n => if d i < 1 then n else n + 1) (0 : Int32) n = nI (gs a (fun _ => 1) n + gs b (fun _ => 1) n) ∧ itr (fun i n => if d i < 0 then n else n + d i) (0 : Int32) n = nI (9 * gs a (fun _ => 1) n + v * gs b (fun _ => 1) n)
  | 0, _, _ => ⟨rfl, rfl⟩
  | n + 1, hn, h => by
    obtain ⟨i1, i2⟩ := two_kinds hv hd n (by omega) fun j hj => h j (by omega)
    obtain ⟨h1, h2, h3⟩ := h n (by omega)
    show (if d n < 1 then itr (fun i n => if d i < 1 then n else n + 1) (0 : Int32) n else itr (fun i n => if d i < 1 then n else n + 1) (0 : Int32) n + 1) = _ ∧ (if d n < 0 then itr (fun i n => if d i < 0 then n else n + d i) (0 : Int32) n else itr (fun i n => if d i < 0 then n else n + d i) (0 : Int32) n + d n) = _
    rw [i1, i2]
    by_cases cb : b n
    · have ca : ¬ a n := fun q => hd n ⟨q, cb⟩
      rw [h1 cb, gs_t cb, gs_f ca, if_neg (by rw [show (1 : Int32) = nI 1 from rfl, ltnN (by omega) (by omega)]; omega), if_neg (by rw [show (0 : Int32) = nI 0 from rfl, ltnN (by omega) (by omega)]; omega), nI_1, nI_add, Nat.mul_add, Nat.mul_one]
      exact ⟨by rw [Nat.add_assoc], by rw [Nat.add_assoc]⟩
    · by_cases ca : a n
      · rw [h2 ca, gs_t ca, gs_f cb, if_neg (by decide), if_neg (by decide), nI_1, show (9 : Int32) = nI 9 from rfl, nI_add, Nat.mul_add, Nat.mul_one]
        exact ⟨congrArg nI (by omega), congrArg nI (by omega)⟩
      · rw [h3 cb ca, gs_f ca, gs_f cb, if_pos (by decide), if_neg (by decide)]
        exact ⟨rfl, Int32.add_zero _⟩
section COUNTED
variable {β : SS} {Tn : Nat → Nat} {l v : Nat}
/-- how many are ticked -/
abbrev tC (β : SS) (Tn : Nat → Nat) : Nat := tkC (nO β) Tn (qO β)
theorem Prd.gC (h : Prd β Tn l v) : gs (tkK (qO β) (nO β) Tn) (fun _ => 1) (psum (nO β) (qO β)) = tC β Tn := gs_tk h.N6 _ (Nat.le_refl _)
theorem Prd.sums (h : Prd β Tn l v) : itr (fun i n => if pO β i < 1 then n else n + 1) (0 : Int32) (wO β * hO β) = nI (36 + tC β Tn * (aO β * bO β)) ∧ itr (fun i n => if pO β i < 0 then n else n + pO β i) (0 : Int32) (wO β * hO β) = nI (324 + v * (tC β Tn * (aO β * bO β))) := by
  obtain ⟨-, ⟨hU, hV, hw, hq⟩, ⟨hl, hv, e0, e9, hk9⟩, -, hB, hpic⟩ := id h
  have hA : 1 ≤ aO β ∧ aO β ≤ 6 := h.1.1.2.2.2.2.2.2.2.2.2.2.2.2.2.1
  have har := area_le h.1.w.1.2 h.1.w.2.2
  have g1 := gs_sq (w := wO β) (q := hO β) hU.1 hV.1 hw hq 4 (Nat.le_refl _)
  have g2 := gs_bx (w := wO β) (q := hO β) (A := aO β) (B := bO β) (cx := xO β) (cy := yO β) (T := psum (nO β) (qO β)) (tk := tkK (qO β) (nO β) Tn) hA.1 (fun k hk => by have := hB.1 k hk; omega) hB.2 _ (Nat.le_refl _)
  rw [h.gC] at g2
  have key := two_kinds (a := fun j => ∃ k, k < 4 ∧ inSq (cX (uO β)) (cY (vO β)) k (j % wO β) (j / wO β)) (b := fun j => ∃ k, k < psum (nO β) (qO β) ∧ tkK (qO β) (nO β) Tn k ∧ inBx (aO β) (bO β) (xO β) (yO β) k (j % wO β) (j / wO β)) (d := pO β) hv (fun j ⟨⟨k, hk, hs⟩, hb⟩ => sq_nmid hU.1 hV.1 hk hs (h.mid hb)) (wO β * hO β) (by omega) (fun j hj => by
    obtain ⟨x, y, hx, hy, e1, e2, e3⟩ := xy_of hj
    obtain ⟨p1, p2, p3⟩ := hpic x y hx hy
    rw [e2, e3, e1]
    refine ⟨p1, fun hs => p2 (fun q => ?_) hs, p3⟩
    obtain ⟨k, hk, hs⟩ := hs
    exact sq_nmid hU.1 hV.1 hk hs (h.mid q))
  rw [g1, g2] at key
  exact key
/-- its ranks -/
theorem Prd.rank (h : Prd β Tn l v) {k0 : Nat} (hk : k0 < psum (nO β) (qO β)) : (tkK (qO β) (nO β) Tn k0 → itr (rkW (dO β) k0) 1 (psum (nO β) (qO β)) = 1) ∧ (¬ tkK (qO β) (nO β) Tn k0 → itr (rkW (dO β) k0) 1 (psum (nO β) (qO β)) = nI (1 + tC β Tn)) := by
  have hd := h.dk
  refine ⟨fun ht => ?_, fun ht => ?_⟩
  · have e0 : dO β k0 = dK β v := (h.D hk).1 ht
    have key : ∀ n, n ≤ psum (nO β) (qO β) → itr (rkW (dO β) k0) 1 n = 1 := by
      intro n
      induction n with
      | zero => intro _; rfl
      | succ n ih =>
        intro hn
        show rkW (dO β) k0 n (itr (rkW (dO β) k0) 1 n) = 1
        rw [ih (by omega)]
        unfold rkW
        rw [e0, if_pos]
        by_cases c : tkK (qO β) (nO β) Tn n
        · rw [show dO β n = dK β v from (h.D hn).1 c, lenN (by omega) (by omega)]; omega
        · rw [show dO β n = 0 from (h.D hn).2 c, lenN (by omega) (by omega)]; omega
    exact key _ (Nat.le_refl _)
  · have e0 : dO β k0 = 0 := (h.D hk).2 ht
    have key : ∀ n, n ≤ psum (nO β) (qO β) → itr (rkW (dO β) k0) 1 n = nI (1 + gs (tkK (qO β) (nO β) Tn) (fun _ => 1) n) := by
      intro n
      induction n with
      | zero => intro _; rfl
      | succ n ih =>
        intro hn
        show rkW (dO β) k0 n (itr (rkW (dO β) k0) 1 n) = _
        rw [ih (by omega)]
        unfold rkW
        rw [e0]
        by_cases c : tkK (qO β) (nO β) Tn n
        · rw [show dO β n = dK β v from (h.D hn).1 c, gs_t c, if_neg (by rw [lenN (by omega) (by omega)]; omega), nI_1]
          rfl
        · rw [show dO β n = 0 from (h.D hn).2 c, gs_f c, if_pos (by rw [lenN (by omega) (by omega)]; omega)]
    rw [key _ (Nat.le_refl _), h.gC]
end COUNTED
