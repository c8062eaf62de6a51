/-! 19: scans as pictures; turned; which way is up. -/
def cW (W H : Nat) (F : Nat → Nat → Int32) (j : Nat) : Int32 := if j < W * H then F (j % W) (j / W) else 0
def Pc (W H : Nat) (F : Nat → Nat → Int32) (σ : SS) : Prop := gI σ (sO σ) 0 = nI W ∧ gI σ (sO σ) 1 = nI H ∧ ∀ x y, x < W → y < H → gI σ (sO σ + 1) (y * W + x) = F x y
def tG (F : Nat → Nat → Int32) (W H : Nat) : Nat → Nat → Nat → Int32
  | 0, x, y => F x y
  | 1, x, y => F y (H - 1 - x)
  | 2, x, y => F (W - 1 - x) (H - 1 - y)
  | 3, x, y => F (W - 1 - y) x
  | _, x, y => F x y
section PICS
variable {W H : Nat} {F F' : Nat → Nat → Int32} {σ σ' : SS}
theorem cW_congr (h : ∀ x y, x < W → y < H → F x y = F' x y) : cW W H F = cW W H F' := by
  funext j
  unfold cW
  split
  · next hj =>
    rcases Nat.eq_zero_or_pos W with e | e
    · subst e; rw [Nat.zero_mul] at hj; omega
    · exact h _ _ (Nat.mod_lt _ e) (Nat.div_lt_of_lt_mul hj)
  · rfl
theorem cW_at {x y : Nat} (hx : x < W) (hy : y < H) : cW W H F (y * W + x) = F x y := by
  unfold cW
  rw [if_pos (cell_lt hx hy), show (y * W + x) % W = x by rw [Nat.mul_comm, Nat.mul_add_mod, Nat.mod_eq_of_lt hx], show (y * W + x) / W = y by rw [Nat.mul_comm, Nat.mul_add_div (by omega), Nat.div_eq_of_lt hx, Nat.add_zero]]
theorem Pc.eq (h : Pc W H F σ) (hW : W < 2 ^ 31) (hH : H < 2 ^ 31) : wO σ = W ∧ hO σ = H ∧ pO σ = cW W H F := by
  have ew : wO σ = W := by unfold wO; rw [h.1, tn_nI hW]
  have eh : hO σ = H := by unfold hO; rw [h.2.1, tn_nI hH]
  refine ⟨ew, eh, ?_⟩
  funext j
  unfold pO cW
  rw [ew, eh]
  split
  · next hj =>
    rcases Nat.eq_zero_or_pos W with e | e
    · subst e; rw [Nat.zero_mul] at hj; omega
    · have := h.2.2 (j % W) (j / W) (Nat.mod_lt _ e) (Nat.div_lt_of_lt_mul hj)
      rw [Nat.mul_comm, Nat.div_add_mod] at this
      exact this
  · rfl
theorem Pc.congr (h : Pc W H F σ) (he : ∀ x y, x < W → y < H → F x y = F' x y) : Pc W H F' σ := ⟨h.1, h.2.1, fun x y hx hy => (h.2.2 x y hx hy).trans (he x y hx hy)⟩
/-- the scan as it stands -/
def fP (σ : SS) (x y : Nat) : Int32 := gI σ (sO σ + 1) (y * wO σ + x)
theorem Sd.pc (h : Sd σ) : Pc (wO σ) (hO σ) (fP σ) σ := ⟨h.1.2.2.2.2.2.1, h.1.2.2.2.2.2.2.1, fun _ _ _ _ => rfl⟩
theorem Sd.pr (h : Sd σ) : ∀ x y, x < wO σ → y < hO σ → inR (fP σ x y) 0 9 := fun x y hx hy => by
  have := h.1.2.2.2.2.2.2.2.1 _ (cell_lt hx hy)
  unfold fP
  rw [this.1]; exact this.2
theorem tF_tG {src : Nat → Int32} (h : ∀ x y, x < W → y < H → src (y * W + x) = F x y) {k X Y : Nat} (hk : k < 4) (hX : X < tW W H k) (hY : Y < tW H W k) : tF src W H k X Y = tG F W H k X Y := by
  rcases (show k = 0 ∨ k = 1 ∨ k = 2 ∨ k = 3 by omega) with rfl | rfl | rfl | rfl
  · exact h _ _ hX hY
  · have hX : X < H := hX
    have hY : Y < W := hY
    exact h Y (H - 1 - X) hY (by omega)
  · have hX : X < W := hX
    have hY : Y < H := hY
    exact h (W - 1 - X) (H - 1 - Y) (by omega) (by omega)
  · have hX : X < H := hX
    have hY : Y < W := hY
    exact h (W - 1 - Y) X (by omega) hX
theorem tG_rng (h : ∀ x y, x < W → y < H → inR (F x y) 0 9) {k X Y : Nat} (hk : k < 4) (hX : X < tW W H k) (hY : Y < tW H W k) : inR (tG F W H k X Y) 0 9 := by
  rcases (show k = 0 ∨ k = 1 ∨ k = 2 ∨ k = 3 by omega) with rfl | rfl | rfl | rfl
  · exact h _ _ hX hY
  · have hX : X < H := hX
    have hY : Y < W := hY
    exact h Y (H - 1 - X) hY (by omega)
  · have hX : X < W := hX
    have hY : Y < H := hY
    exact h (W - 1 - X) (H - 1 - Y) (by omega) (by omega)
  · have hX : X < H := hX
    have hY : Y < W := hY
    exact h (W - 1 - Y) X (by omega) hX
/-- once more by a quarter -/
theorem tG_s {k X Y : Nat} (hk : k < 4) (hX : X < tW W H (k + 1)) (hY : Y < tW H W (k + 1)) : tG (tG F W H k) (tW W H k) (tW H W k) 1 X Y = tG F W H (k + 1) X Y := by
  rcases (show k = 0 ∨ k = 1 ∨ k = 2 ∨ k = 3 by omega) with rfl | rfl | rfl | rfl
  · rfl
  · have hX : X < W := hX
    have hY : Y < H := hY
    rfl
  · have hX : X < H := hX
    have hY : Y < W := hY
    show F (W - 1 - Y) (H - 1 - (H - 1 - X)) = F (W - 1 - Y) X
    rw [show H - 1 - (H - 1 - X) = X by omega]
  · have hX : X < W := hX
    have hY : Y < H := hY
    show F (W - 1 - (W - 1 - X)) Y = F X Y
    rw [show W - 1 - (W - 1 - X) = X by omega]
/-- there and back -/
theorem tG_back {k X Y : Nat} (hk : k < 4) (hX : X < W) (hY : Y < H) : tG (tG F W H k) (tW W H k) (tW H W k) ((4 - k) % 4) X Y = F X Y := by
  rcases (show k = 0 ∨ k = 1 ∨ k = 2 ∨ k = 3 by omega) with rfl | rfl | rfl | rfl
  · rfl
  · show F X (H - 1 - (H - 1 - Y)) = F X Y
    rw [show H - 1 - (H - 1 - Y) = Y by omega]
  · show F (W - 1 - (W - 1 - X)) (H - 1 - (H - 1 - Y)) = F X Y
    rw [show W - 1 - (W - 1 - X) = X by omega, show H - 1 - (H - 1 - Y) = Y by omega]
  · show F (W - 1 - (W - 1 - X)) Y = F X Y
    rw [show W - 1 - (W - 1 - X) = X by omega]
theorem tW_back {W H k : Nat} (hk : k < 4) : tW (tW W H k) (tW H W k) ((4 - k) % 4) = W := by
  rcases (show k = 0 ∨ k = 1 ∨ k = 2 ∨ k = 3 by omega) with rfl | rfl | rfl | rfl <;> rfl
theorem turn_s (hs : sO σ = 3 ∨ sO σ = 6) (h3 : gR σ 1 3 = 9 - sO σ) (hP : Pc W H F σ) (hW : 8 ≤ W ∧ W ≤ 40) (hH : 8 ≤ H ∧ H ≤ 40) {k : Nat} (hk : k < 4) :
    WP (fX7_turn σ (nI k)) (fun r => r.1 = nI (tW W H k) ∧ Pc (tW W H k) (tW H W k) (tG F W H k) r.2 ∧ sO r.2 = 9 - sO σ ∧ gR r.2 1 3 = sO σ ∧ (∀ c k, ¬ (c = 1 ∧ (k = 2 ∨ k = 3)) → gR r.2 c k = gR σ c k) ∧ ∀ c k, ¬ (3 ≤ c ∧ c ≤ 8) → gI r.2 c k = gI σ c k) := by
  unfold fX7_turn
  simp only [lt_i, le_i, Int32.reduceToInt, nI_toInt (show k < 2 ^ 31 by omega)]
  rw [if_neg (by omega), if_pos (by omega), h3, show gR σ 1 2 = sO σ from rfl]
  refine wp_bnd1 (turned7 (σ := σ) (s := sO σ) (t := 9 - sO σ) (w := W) (q := H) (by omega) (by omega) (by omega) hP.1 hP.2.1 hk) ?_
  rintro τ ⟨y1, y2, y3, y4, y5⟩
  have r2 : gR τ 1 2 = sO σ := by rw [y1]; rfl
  have r3 : gR τ 1 3 = 9 - sO σ := by rw [y1]; exact h3
  rw [bnd1_of _ (swap_eq r2 r3)]
  have e2 : gR (swp (sO σ) (9 - sO σ) τ) 1 2 = 9 - sO σ := by unfold swp; rw [gR_sR, if_neg (by decide), gR_sR, if_pos ⟨rfl, rfl⟩]
  have e3 : gR (swp (sO σ) (9 - sO σ) τ) 1 3 = sO σ := by unfold swp; rw [gR_sR, if_pos ⟨rfl, rfl⟩]
  refine ⟨_, rfl, ?_, ⟨?_, ?_, fun x y hx hy => ?_⟩, e2, e3, fun c k hc => ?_, fun c k hc => ?_⟩
  · dsimp only; rw [e2, swp_I]; exact y2
  · show gI _ (gR _ 1 2) 0 = _; rw [e2, swp_I]; exact y2
  · show gI _ (gR _ 1 2) 1 = _; rw [e2, swp_I]; exact y3
  · show gI _ (gR _ 1 2 + 1) _ = _
    rw [e2, swp_I, y4 x y hx hy trivial]
    exact tF_tG hP.2.2 hk hx hy
  · show gR (sR (sR τ 1 2 (9 - sO σ)) 1 3 (sO σ)) c k = _
    rw [gR_sR, if_neg (by omega), gR_sR, if_neg (by omega), y1]
  · show gI (swp (sO σ) (9 - sO σ) τ) c k = _
    rw [swp_I]
    exact y5 c k (by omega) (by omega) (by omega)
end PICS
/-! another scan under the same form and settings -/
section OTHER
variable {W H : Nat} {F : Nat → Nat → Int32} {σ σ' : SS}
theorem Sd.turn (h : Sd σ) (hs : sO σ' = 3 ∨ sO σ' = 6) (h3 : gR σ' 1 3 = 9 - sO σ') (h5 : gR σ' 1 5 = gR σ 1 5) (h6 : gR σ' 1 6 = gR σ 1 6) (hP : Pc W H F σ') (hW : 8 ≤ W ∧ W ≤ 40) (hH : 8 ≤ H ∧ H ≤ 40) (hF : ∀ x y, x < W → y < H → inR (F x y) 0 9)
    (hc : ∀ c k, (10 ≤ c ∧ c ≤ 25) ∨ c = 32 → gI σ' c k = gI σ c k) : Sd σ' ∧ (wO σ' = W ∧ hO σ' = H ∧ pO σ' = cW W H F) ∧ fO σ' = fO σ ∧ kO σ' = kO σ ∧ uO σ' = uO σ ∧ vO σ' = vO σ ∧ aO σ' = aO σ ∧ bO σ' = bO σ ∧ qO σ' = qO σ ∧ nO σ' = nO σ ∧ xO σ' = xO σ ∧ yO σ' = yO σ := by
  have hf := h.f
  obtain ⟨ew, eh, ep⟩ := hP.eq (by omega) (by omega)
  have ef : fO σ' = fO σ := h5
  have ek : kO σ' = kO σ := by unfold kO; rw [hc _ _ (by omega)]
  have eu : uO σ' = uO σ := by unfold uO; rw [ef, hc _ _ (by omega)]
  have ev : vO σ' = vO σ := by unfold vO; rw [ef, hc _ _ (by omega)]
  have ea : aO σ' = aO σ := by unfold aO; rw [ef, hc _ _ (by omega)]
  have eb : bO σ' = bO σ := by unfold bO; rw [ef, hc _ _ (by omega)]
  have eq : qO σ' = qO σ := by unfold qO; rw [ef, hc _ _ (by omega)]
  have en : nO σ' = nO σ := funext fun p => by unfold nO; rw [ef, hc _ _ (by omega)]
  have ex : xO σ' = xO σ := funext fun p => by unfold xO; rw [ef, hc _ _ (by omega)]
  have ey : yO σ' = yO σ := funext fun p => by unfold yO; rw [ef, hc _ _ (by omega)]
  refine ⟨?_, ⟨ew, eh, ep⟩, ef, ek, eu, ev, ea, eb, eq, en, ex, ey⟩
  obtain ⟨a, b, c, d, m, hm1, hm2⟩ := h
  refine ⟨?_, ?_, ⟨h3, by rw [h6, ef]; exact c.2⟩, by rw [ef, hc _ _ (by omega)]; exact d, m, hm1, by rw [hc _ _ (by omega)]; exact hm2⟩
  · unfold Cd C7 at *
    rw [ef, ew, eh, ek, eu, ev, ea, eb, eq, en, ex, ey, ep]
    obtain ⟨a1, a2, a3, a4, a5, a6, a7, a8, a9, a10, a11, a12, a13, a14, a15, a16, a17, a18, a19, a20, a21, a22⟩ := a
    refine ⟨hs, a2, hW, hH, a5, hP.1, hP.2.1, fun k hk => ?_, rfl, (hc _ _ (by omega)).trans a10, rfl, a12, a13, a14, a15, a16, (hc _ _ (by omega)).trans a17, (hc _ _ (by omega)).trans a18, (hc _ _ (by omega)).trans a19, (hc _ _ (by omega)).trans a20, (hc _ _ (by omega)).trans a21, fun k hk => ⟨⟨(hc _ _ (by omega)).trans (a22 k hk).1.1, (a22 k hk).1.2⟩, (hc _ _ (by omega)).trans (a22 k hk).2.1, (a22 k hk).2.2⟩⟩
    have m1 : k % W < W := Nat.mod_lt _ (by omega)
    have m2 : k / W < H := Nat.div_lt_of_lt_mul hk
    have e := hP.2.2 _ _ m1 m2
    rw [Nat.mul_comm, Nat.div_add_mod] at e
    unfold cW
    rw [if_pos hk]
    exact ⟨e, hF _ _ m1 m2⟩
  · rw [ef, eq, en]
    obtain ⟨b1, b2, b3, b4⟩ := b
    exact ⟨b1, (hc _ _ (by omega)).trans b2, b3, fun p hp => ⟨(b4 p hp).1, (hc _ _ (by omega)).trans (b4 p hp).2.1, (hc _ _ (by omega)).trans (b4 p hp).2.2⟩⟩
noncomputable def dG (σ : SS) (W H : Nat) (F : Nat → Nat → Int32) (k : Nat) : Nat := dkD W H (kO σ) (gI σ 32 0) (gI σ 32 2) (cW W H F) (uO σ) (vO σ) (aO σ) (bO σ) (xO σ) (yO σ) k
def mG (σ : SS) (W H : Nat) (F : Nat → Nat → Int32) : Prop := frU (mkB W H (kO σ) (gI σ 32 2) (inkP (gI σ 32 0) (cW W H F))) 4
def jG (σ : SS) (W H : Nat) (F : Nat → Nat → Int32) (p : Nat) (an se ru st gn : Int32) : Prop := JQ (fun i => dG σ W H F (psum (nO σ) p + i)) (pN (dG σ W H F) (psum (nO σ) (qO σ))) (nO σ p) (gI σ (fO σ + 1) p = 0) (gI σ 32 3) (gI σ 32 4) (gI σ 32 5) an se ru st ∧ gn = gnS (gI σ (fO σ + 4) p) an se (gI σ (fO σ + 5) p) (gI σ 32 6)
def gG (σ : SS) (W H : Nat) (F : Nat → Nat → Int32) (g : Int32) : Prop := ∃ an se ru st gn : Nat → Int32, (∀ p, p < qO σ → jG σ W H F p (an p) (se p) (ru p) (st p) (gn p)) ∧ g = itr (smQ 0 se gn) 0 (qO σ)
theorem gG_one {g g' : Int32} (h : gG σ W H F g) (h' : gG σ W H F g') : g = g' := by
  obtain ⟨an, se, ru, st, gn, h1, rfl⟩ := h
  obtain ⟨an', se', ru', st', gn', h2, rfl⟩ := h'
  refine itr_congr fun p hp v => ?_
  obtain ⟨j1, j2⟩ := h1 p hp
  obtain ⟨j3, j4⟩ := h2 p hp
  obtain ⟨z1, z2, -⟩ := j1.one j3
  unfold smQ
  rw [if_pos rfl, if_pos rfl, j2, j4, z1, z2]
/-- what the other scan gives -/
theorem Sd.turned (h : Sd σ) (hs : sO σ' = 3 ∨ sO σ' = 6) (h3 : gR σ' 1 3 = 9 - sO σ') (h5 : gR σ' 1 5 = gR σ 1 5) (h6 : gR σ' 1 6 = gR σ 1 6) (hP : Pc W H F σ') (hW : 8 ≤ W ∧ W ≤ 40) (hH : 8 ≤ H ∧ H ≤ 40) (hF : ∀ x y, x < W → y < H → inR (F x y) 0 9)
    (hc : ∀ c k, (10 ≤ c ∧ c ≤ 25) ∨ c = 32 → gI σ' c k = gI σ c k) : Sd σ' ∧ (Mkd σ' ↔ mG σ W H F) ∧ qO σ' = qO σ ∧ ∀ p an se ru st gn, JV σ' p an se ru st gn ↔ jG σ W H F p an se ru st gn := by
  have hf := h.f
  obtain ⟨hd, ⟨ew, eh, ep⟩, ef, ek, eu, ev, ea, eb, eq, en, ex, ey⟩ := h.turn hs h3 h5 h6 hP hW hH hF hc
  have d : dO σ' = dG σ W H F := funext fun k => by unfold dO dG; rw [ew, eh, ep, ek, eu, ev, ea, eb, ex, ey, hc 32 0 (by omega), hc 32 2 (by omega)]
  refine ⟨hd, ?_, eq, fun p an se ru st gn => ?_⟩
  · unfold Mkd mG mkO iO
    rw [ew, eh, ep, ek, hc 32 0 (by omega), hc 32 2 (by omega)]
  · unfold JV jG ppO
    rw [d, en, eq, ef, hc 32 3 (by omega), hc 32 4 (by omega), hc 32 5 (by omega), hc 32 6 (by omega), hc (fO σ + 1) p (by omega), hc (fO σ + 4) p (by omega), hc (fO σ + 5) p (by omega)]
end OTHER
section UP7
variable {σ : SS}
def mK7 (σ : SS) (k : Nat) : Prop := mG σ (tW (wO σ) (hO σ) k) (tW (hO σ) (wO σ) k) (tG (fP σ) (wO σ) (hO σ) k)
def GG7 (σ : SS) (k : Nat) (g : Int32) : Prop := gG σ (tW (wO σ) (hO σ) k) (tW (hO σ) (wO σ) k) (tG (fP σ) (wO σ) (hO σ) k) g
theorem upk_s (h : Sd σ) {k : Nat} (hk : k < 4) {τ : SS} (hR : gR τ = gR σ) (hK : Ku (sO σ) (9 - sO σ) σ τ) : WP (fX6_takeTurned τ (9 - sO σ) (sO σ) (nI k)) (fun τ' => gR τ' = gR σ ∧ WP (fX3_read τ' (9 - sO σ) (fO σ)) fun r => (r.1 = true ↔ mK7 σ k) ∧ gR r.2 = gR σ ∧ Ku (sO σ) (9 - sO σ) σ r.2 ∧ (mK7 σ k → ∀ p, p < qO σ → jG σ (tW (wO σ) (hO σ) k) (tW (hO σ) (wO σ) k) (tG (fP σ) (wO σ) (hO σ) k) p (gI r.2 53 p) (gI r.2 54 p) (gI r.2 55 p) (gI r.2 56 p) (gI r.2 57 p))) := by
  obtain ⟨hs, hf, hw, hh, hspk, e1, e2, hp, el, es, em, hU, hV, hA, hB, hT, g1, g2, g3, g4, g6, gx⟩ := id h.1
  obtain ⟨hQ, f5, -, hq7⟩ := id h.2.1
  have a1 := tW_le (k := k) hw hh
  have a2 := tW_le (k := k) hh hw
  refine wp_imp (turned7 (σ := τ) (s := sO σ) (t := 9 - sO σ) (w := wO σ) (q := hO σ) (by omega) ⟨by omega, hw.2⟩ ⟨by omega, hh.2⟩ (by rw [hK (sO σ) 0 (by omega)]; exact e1) (by rw [hK (sO σ) 1 (by omega)]; exact e2) hk) ?_
  rintro τ' ⟨y1, y2, y3, y4, y5⟩
  have fr : ∀ c k, ¬ (c = 9 - sO σ ∨ c = 9 - sO σ + 1 ∨ c = sO σ + 2 ∨ (33 ≤ c ∧ c ≤ 57) ∨ (c = 31 ∧ k = 6)) → gI τ' c k = gI σ c k := fun c k hc => (y5 c k (by omega) (by omega) (by omega)).trans (hK c k hc)
  have hpic : ∀ j, j < tW (wO σ) (hO σ) k * tW (hO σ) (wO σ) k → gI τ' (9 - sO σ + 1) j = cW (tW (wO σ) (hO σ) k) (tW (hO σ) (wO σ) k) (tG (fP σ) (wO σ) (hO σ) k) j ∧ inR (cW (tW (wO σ) (hO σ) k) (tW (hO σ) (wO σ) k) (tG (fP σ) (wO σ) (hO σ) k) j) 0 9 := fun j hj => by
    have m1 : j % tW (wO σ) (hO σ) k < tW (wO σ) (hO σ) k := Nat.mod_lt _ (by omega)
    have m2 : j / tW (wO σ) (hO σ) k < tW (hO σ) (wO σ) k := Nat.div_lt_of_lt_mul hj
    have e := vis_pic y4 (by omega) hj
    unfold cW
    rw [if_pos hj]
    refine ⟨e.trans (tF_tG (F := fP σ) (fun x y hx hy => ?_) hk m1 m2), tG_rng h.pr hk m1 m2⟩
    rw [hK (sO σ + 1) _ (by omega)]; rfl
  have h7' : C7 (9 - sO σ) (fO σ) (tW (wO σ) (hO σ) k) (tW (hO σ) (wO σ) k) (kO σ) (gI σ 32 0) (gI σ 32 2) (cW (tW (wO σ) (hO σ) k) (tW (hO σ) (wO σ) k) (tG (fP σ) (wO σ) (hO σ) k)) (uO σ) (vO σ) (aO σ) (bO σ) (psum (nO σ) (qO σ)) (xO σ) (yO σ) τ' :=
    ⟨by omega, hf, a1, a2, hspk, y2, y3, hpic, by rw [fr _ _ (by omega)], by rw [fr _ _ (by omega)]; exact es, by rw [fr _ _ (by omega)], hU, hV, hA, hB, hT, by rw [fr _ _ (by omega)]; exact g1, by rw [fr _ _ (by omega)]; exact g2, by rw [fr _ _ (by omega)]; exact g3, by rw [fr _ _ (by omega)]; exact g4, by rw [fr _ _ (by omega)]; exact g6, fun k hk => by rw [fr _ _ (by omega), fr _ _ (by omega)]; exact gx k hk⟩
  have hF' : F7 (fO σ) (qO σ) (nO σ) τ' := ⟨hQ, by rw [fr _ _ (by omega)]; exact f5, hT, fun p hp => by rw [fr _ _ (by omega), fr _ _ (by omega)]; exact hq7 p hp⟩
  refine ⟨y1.trans hR, wp_imp (read7 h7' hF') ?_⟩
  rintro ⟨mb, r⟩ ⟨m1, m2, m3, m4⟩
  dsimp only at m1 m2 m3 m4 ⊢
  refine ⟨m1, m2.trans (y1.trans hR), fun c k hc => by rw [m3 c k (by omega) (by omega)]; exact fr c k hc, fun hm p hp => ?_⟩
  obtain ⟨j1, j2⟩ := (m4 hm).2 p hp
  rw [fr 32 3 (by omega), fr 32 4 (by omega), fr 32 5 (by omega), fr (fO σ + 1) p (by omega)] at j1
  rw [fr 32 6 (by omega), fr (fO σ + 4) p (by omega), fr (fO σ + 5) p (by omega)] at j2
  exact ⟨j1, j2⟩
theorem up_s (h : Sd σ) : WP (fX7_up σ) (fun r => (∃ v2, UV (mK7 σ) (GG7 σ) 4 r.1 v2) ∧ gR r.2 = gR σ ∧ Ku (sO σ) (9 - sO σ) σ r.2) := by
  have hs := h.s
  have hf := h.f
  unfold fX7_up
  rw [show gR σ 1 5 = fO σ from rfl, h.2.2.2.1, if_neg (by decide)]
  unfold X7_up_L19
  refine wf_4 4 (fun i v1 v2 v3 τ => v3 = nI i ∧ UV (mK7 σ) (GG7 σ) i v1 v2 ∧ gR τ = gR σ ∧ Ku (sO σ) (9 - sO σ) σ τ) ⟨rfl, ⟨rfl, rfl⟩, rfl, fun c k hc => rfl⟩ (by omega) ?_ ?_
  · rintro i v1 v2 _ τ rec hi ⟨rfl, hu, hR, hK⟩ hr
    rw [if_neg (by show ¬ nI 4 ≤ nI i; exact nI_ge hi (by omega)), hR, h.2.2.1.1, show gR σ 1 2 = sO σ from rfl, nI_1]
    refine wp_bnd1 (upk_s h hi hR hK) ?_
    rintro τ' ⟨y1, ⟨mb, r⟩, x1, m1, m2, m3, m4⟩
    dsimp only at m1 m2 m3 m4
    rw [y1, h.2.2.1.1, show gR σ 1 5 = fO σ from rfl, bnd_of _ x1]
    have hQ : qO σ ≤ 12 := h.Q
    have e5 : gI r (fO σ) 5 = nI (qO σ) := by rw [m3 (fO σ) 5 (by omega)]; exact h.2.1.2.1
    refine wp_if (fun c => ?_) fun c => ?_
    · have hm := m1.mp c
      have hG : GG7 σ i (itr (shW r 0) (0 : Int32) (qO σ)) := ⟨gI r 53, gI r 54, gI r 55, gI r 56, gI r 57, m4 hm, itr_congr fun p hp v => rfl⟩
      rw [m2, show gR σ 1 5 = fO σ from rfl, bnd1_of _ (gains7 hQ e5)]
      refine wp_vk1 (fun _ : Unit => ¬ (¬ v1 < 0 ∧ itr (shW r 0) (0 : Int32) (qO σ) ≤ v2)) ?_ fun j hj => ?_
      · intro _ hc
        exact hr _ _ _ _ ⟨rfl, ⟨v1, v2, hu, Or.inl ⟨hm, _, hG, Or.inr ⟨hc, rfl, rfl⟩⟩⟩, m2, m3⟩
      · refine wp_if (fun c1 => hj _ fun q => q.1 c1) fun c1 => wp_if (fun c2 => hr _ _ _ _ ⟨rfl, ⟨v1, v2, hu, Or.inl ⟨hm, _, hG, Or.inl ⟨c1, c2, rfl, rfl⟩⟩⟩, m2, m3⟩) fun c2 => hj _ fun q => c2 q.2
    · have hm : ¬ mK7 σ i := fun q => c (m1.mpr q)
      exact hr _ _ _ _ ⟨rfl, ⟨v1, v2, hu, Or.inr ⟨hm, rfl, rfl⟩⟩, m2, m3⟩
  · rintro v1 v2 _ τ rec ⟨rfl, hu, hR, hK⟩
    rw [if_pos (show (4 : Int32) ≤ nI 4 by decide)]
    exact wp_some ⟨⟨v2, hu⟩, hR, hK⟩
end UP7
