/-! The class's blobs: described, found. -/
theorem wp_bndp {α β γ : Type} {P : γ → Prop} {x : Option (α × β)} {k : α → β → Option γ} {Q : α × β → Prop} (h : WP x Q) (hk : ∀ a b, Q (a, b) → WP (k a b) P) : WP (bnd x k) P := by
  obtain ⟨⟨a, b⟩, rfl, hq⟩ := h
  exact hk a b hq
theorem wp_vv {A R : Type} {P : R → Prop} {x : A} {f : A → Option R} (h : ∀ y, y = x → WP (f y) P) : WP (vthen x f) P := h x rfl
def mnL (L f : Nat → Nat) (i0 : Nat) (n : Nat) : Nat := itr (fun j s => min s (f (L j))) i0 n
def mxL (L f : Nat → Nat) (i0 : Nat) (n : Nat) : Nat := itr (fun j s => max s (f (L j))) i0 n
theorem mnL_p {L f : Nat → Nat} {i0 : Nat} : ∀ n, mnL L f i0 n ≤ i0 ∧ (∀ j, j < n → mnL L f i0 n ≤ f (L j)) ∧ (mnL L f i0 n = i0 ∨ ∃ j, j < n ∧ mnL L f i0 n = f (L j))
  | 0 => ⟨Nat.le_refl _, fun j hj => absurd hj (by omega), Or.inl rfl⟩
  | n + 1 => by
    obtain ⟨h1, h2, h3⟩ := mnL_p (L := L) (f := f) (i0 := i0) n
    have e : mnL L f i0 (n + 1) = min (mnL L f i0 n) (f (L n)) := rfl
    rw [e]
    refine ⟨by omega, fun j hj => ?_, ?_⟩
    · by_cases c : j = n
      · subst c; omega
      · have := h2 j (by omega); omega
    · by_cases c : f (L n) ≤ mnL L f i0 n
      · exact Or.inr ⟨n, by omega, by omega⟩
      · rcases h3 with h3 | ⟨j, k1, k2⟩
        · exact Or.inl (by omega)
        · exact Or.inr ⟨j, by omega, by omega⟩
theorem mxL_p {L f : Nat → Nat} {i0 : Nat} : ∀ n, i0 ≤ mxL L f i0 n ∧ (∀ j, j < n → f (L j) ≤ mxL L f i0 n) ∧ (mxL L f i0 n = i0 ∨ ∃ j, j < n ∧ mxL L f i0 n = f (L j))
  | 0 => ⟨Nat.le_refl _, fun j hj => absurd hj (by omega), Or.inl rfl⟩
  | n + 1 => by
    obtain ⟨h1, h2, h3⟩ := mxL_p (L := L) (f := f) (i0 := i0) n
    have e : mxL L f i0 (n + 1) = max (mxL L f i0 n) (f (L n)) := rfl
    rw [e]
    refine ⟨by omega, fun j hj => ?_, ?_⟩
    · by_cases c : j = n
      · subst c; omega
      · have := h2 j (by omega); omega
    · by_cases c : mxL L f i0 n ≤ f (L n)
      · exact Or.inr ⟨n, by omega, by omega⟩
      · rcases h3 with h3 | ⟨j, k1, k2⟩
        · exact Or.inl (by omega)
        · exact Or.inr ⟨j, by omega, by omega⟩
theorem mn_of {L f : Nat → Nat} {i0 n : Nat} {m : Nat → Prop} (hm : ∀ k, mem L n k ↔ m k) (h0 : (∃ k, m k ∧ f k = i0) ∨ (1 ≤ n ∧ ∀ k, m k → f k ≤ i0)) : mnL L f i0 n = mnV m f := by
  obtain ⟨h1, h2, h3⟩ := mnL_p (L := L) (f := f) (i0 := i0) n
  refine (mnV_eq ⟨?_, fun k hk => ?_⟩).symm
  · rcases h3 with h3 | ⟨j, k1, k2⟩
    · rcases h0 with ⟨k, a1, a2⟩ | ⟨a1, a2⟩
      · exact ⟨k, a1, by omega⟩
      · have m0 := (hm (L 0)).mp ⟨0, by omega, rfl⟩
        have := a2 _ m0
        have := h2 0 (by omega)
        exact ⟨L 0, m0, by omega⟩
    · exact ⟨L j, (hm _).mp ⟨j, k1, rfl⟩, k2.symm⟩
  · obtain ⟨j, k1, rfl⟩ := (hm k).mpr hk
    exact h2 j k1
theorem mx_of {L f : Nat → Nat} {i0 n : Nat} {m : Nat → Prop} (hm : ∀ k, mem L n k ↔ m k) (h0 : (∃ k, m k ∧ f k = i0) ∨ (1 ≤ n ∧ ∀ k, m k → i0 ≤ f k)) : mxL L f i0 n = mxV m f := by
  obtain ⟨h1, h2, h3⟩ := mxL_p (L := L) (f := f) (i0 := i0) n
  refine (mxV_eq ⟨?_, fun k hk => ?_⟩).symm
  · rcases h3 with h3 | ⟨j, k1, k2⟩
    · rcases h0 with ⟨k, a1, a2⟩ | ⟨a1, a2⟩
      · exact ⟨k, a1, by omega⟩
      · have m0 := (hm (L 0)).mp ⟨0, by omega, rfl⟩
        have := a2 _ m0
        have := h2 0 (by omega)
        exact ⟨L 0, m0, by omega⟩
    · exact ⟨L j, (hm _).mp ⟨j, k1, rfl⟩, k2.symm⟩
  · obtain ⟨j, k1, rfl⟩ := (hm k).mpr hk
    exact h2 j k1
theorem rem_nI {i w : Nat} (hi : i < 2 ^ 31) (h0 : 0 < w) (hw : w < 2 ^ 31) : irm (nI i) (nI w) = nI (i % w) := pk_rem hi h0 hw
section DESC
variable {σ : SS} {b n w : Nat} {L : Nat → Nat}
def Dc (σ : SS) (w b : Nat) (L : Nat → Nat) (n : Nat) (r : SS) : Prop :=
  gI r 34 b = nI n ∧ gI r 35 b = nI (ls L (fun k => k % w) n) ∧ gI r 36 b = nI (ls L (fun k => k / w) n) ∧ gI r 37 b = nI (L 0 % w) ∧ gI r 38 b = nI (L 0 / w) ∧ gI r 39 b = nI (mnL L (fun k => k % w) (L 0 % w) n) ∧ gI r 40 b = nI (mxL L (fun k => k % w) (L 0 % w) n) ∧ gI r 41 b = nI (mxL L (fun k => k / w) (L 0 / w) n)
theorem describe7 (hw : 1 ≤ w ∧ w ≤ 40) (hn : 1 ≤ n ∧ n ≤ 1600) (hb : b < 800) (h33 : gI σ 33 0 = nI b) (h42 : ∀ j, j < n → gI σ 42 j = nI (L j)) (hL : ∀ j, j < n → L j < 1600) : WP (fX0_describe σ (nI w) (nI n)) (fun r => gR r = gR σ ∧ gI r 33 0 = nI (b + 1) ∧ Dc σ w b L n r ∧ ∀ c k, ¬ (c = 33 ∧ k = 0) → ¬ (34 ≤ c ∧ c ≤ 41 ∧ k = b) → gI r c k = gI σ c k) := by
  have l0 := hL 0 (by omega)
  have d1 : L 0 % w < 1600 := Nat.lt_of_le_of_lt (Nat.mod_le _ _) l0
  have d2 : L 0 / w < 1600 := Nat.lt_of_le_of_lt (Nat.div_le_self _ _) l0
  unfold fX0_describe
  rw [if_neg (by show ¬ nI w < nI 1; exact nI_nlt hw.1 (by omega)), if_pos (by show nI 1 ≤ nI n; exact nI_le hn.1 (by omega)), h33, nI_1]
  refine wp_vv ?_; rintro _ rfl
  refine wp_vv ?_; intro σ2 h2
  rw [nI_clamp (by omega)]
  refine wp_grd (inb_nI hb (by decide)) ?_
  refine wp_vv ?_; intro σ4 h4
  refine wp_vv ?_; intro σ5 h5
  refine wp_vv ?_; intro σ6 h6
  refine wp_grd (nz_nI (by omega) (by omega)) ?_
  have k42 : gI σ6 42 0 = nI (L 0) := by rw [h6, gI_ne (by omega), h5, gI_ne (by omega), h4, gI_ne (by omega), h2, gI_ne (by omega)]; exact h42 0 (by omega)
  rw [k42, rem_nI (by omega) (by omega) (by omega)]
  refine wp_vv ?_; intro σ8 h8
  have k42b : gI σ8 42 0 = nI (L 0) := by rw [h8, gI_ne (by omega)]; exact k42
  rw [k42b, pk_div (by omega) (by omega) (by omega)]
  refine wp_vv ?_; intro σ9 h9
  rw [show gI σ9 37 b = nI (L 0 % w) by rw [h9, gI_ne (by omega), h8, gI_eq]]
  refine wp_vv ?_; intro σ10 h10
  rw [show gI σ10 37 b = nI (L 0 % w) by rw [h10, gI_ne (by omega), h9, gI_ne (by omega), h8, gI_eq]]
  refine wp_vv ?_; intro σ11 h11
  rw [show gI σ11 38 b = nI (L 0 / w) by rw [h11, gI_ne (by omega), h10, gI_ne (by omega), h9, gI_eq]]
  refine wp_vv ?_; intro σ12 h12
  have a33 : gI σ12 33 0 = nI (b + 1) := by rw [h12, gI_ne (by omega), h11, gI_ne (by omega), h10, gI_ne (by omega), h9, gI_ne (by omega), h8, gI_ne (by omega), h6, gI_ne (by omega), h5, gI_ne (by omega), h4, gI_ne (by omega), h2, gI_eq]
  have a34 : gI σ12 34 b = nI n := by rw [h12, gI_ne (by omega), h11, gI_ne (by omega), h10, gI_ne (by omega), h9, gI_ne (by omega), h8, gI_ne (by omega), h6, gI_ne (by omega), h5, gI_ne (by omega), h4, gI_eq]
  have a35 : gI σ12 35 b = nI 0 := by rw [h12, gI_ne (by omega), h11, gI_ne (by omega), h10, gI_ne (by omega), h9, gI_ne (by omega), h8, gI_ne (by omega), h6, gI_ne (by omega), h5, gI_eq]; rfl
  have a36 : gI σ12 36 b = nI 0 := by rw [h12, gI_ne (by omega), h11, gI_ne (by omega), h10, gI_ne (by omega), h9, gI_ne (by omega), h8, gI_ne (by omega), h6, gI_eq]; rfl
  have a37 : gI σ12 37 b = nI (L 0 % w) := by rw [h12, gI_ne (by omega), h11, gI_ne (by omega), h10, gI_ne (by omega), h9, gI_ne (by omega), h8, gI_eq]
  have a38 : gI σ12 38 b = nI (L 0 / w) := by rw [h12, gI_ne (by omega), h11, gI_ne (by omega), h10, gI_ne (by omega), h9, gI_eq]
  have a39 : gI σ12 39 b = nI (L 0 % w) := by rw [h12, gI_ne (by omega), h11, gI_ne (by omega), h10, gI_eq]
  have a40 : gI σ12 40 b = nI (L 0 % w) := by rw [h12, gI_ne (by omega), h11, gI_eq]
  have a41 : gI σ12 41 b = nI (L 0 / w) := by rw [h12, gI_eq]
  have aR : gR σ12 = gR σ := by rw [h12, h11, h10, h9, h8, h6, h5, h4, h2]; rfl
  have aF : ∀ c k, ¬ (c = 33 ∧ k = 0) → ¬ (34 ≤ c ∧ c ≤ 41 ∧ k = b) → gI σ12 c k = gI σ c k := fun c k c1 c2 => by
    rw [h12, gI_nk (by omega), h11, gI_nk (by omega), h10, gI_nk (by omega), h9, gI_nk (by omega), h8, gI_nk (by omega), h6, gI_nk (by omega), h5, gI_nk (by omega), h4, gI_nk (by omega), h2, gI_nk (by omega)]
  unfold X0_describe_L114
  refine wf_2 n (fun g v s' => v = nI g ∧ gR s' = gR σ ∧ gI s' 35 b = nI (ls L (fun k => k % w) g) ∧ gI s' 36 b = nI (ls L (fun k => k / w) g) ∧ gI s' 39 b = nI (mnL L (fun k => k % w) (L 0 % w) g) ∧ gI s' 40 b = nI (mxL L (fun k => k % w) (L 0 % w) g) ∧ gI s' 41 b = nI (mxL L (fun k => k / w) (L 0 / w) g) ∧ ∀ c k, ¬ ((c = 35 ∨ c = 36 ∨ c = 39 ∨ c = 40 ∨ c = 41) ∧ k = b) → gI s' c k = gI σ12 c k) ⟨rfl, aR, a35, a36, a39, a40, a41, fun _ _ _ => rfl⟩ (by omega) ?_ ?_
  · rintro g _ s' rec hg ⟨rfl, i1, i2, i3, i4, i5, i6, i7⟩ hr
    have lg := hL g hg
    have e1 : L g % w < 1600 := Nat.lt_of_le_of_lt (Nat.mod_le _ _) lg
    have e2 : L g / w < 1600 := Nat.lt_of_le_of_lt (Nat.div_le_self _ _) lg
    have m1 := (mnL_p (L := L) (f := fun k => k % w) (i0 := L 0 % w) g).1
    have bx : ∀ (f : Nat → Nat) i0, i0 < 1600 → (∀ j, j < g → f (L j) < 1600) → mxL L f i0 g < 1600 := fun f i0 h1 h2 => by
      rcases (mxL_p (L := L) (f := f) (i0 := i0) g).2.2 with h | ⟨j, k1, k2⟩
      · omega
      · have := h2 j k1; omega
    have m2 := bx (fun k => k % w) (L 0 % w) d1 fun j hj => Nat.lt_of_le_of_lt (Nat.mod_le _ _) (hL j (by omega))
    have m3 := bx (fun k => k / w) (L 0 / w) d2 fun j hj => Nat.lt_of_le_of_lt (Nat.div_le_self _ _) (hL j (by omega))
    rw [if_neg (nI_ge hg (by omega)), nI_clamp (by omega), show gI s' 42 g = nI (L g) by rw [i7 _ _ (by omega), aF _ _ (by omega) (by omega)]; exact h42 g hg, rem_nI (by omega) (by omega) (by omega), pk_div (by omega) (by omega) (by omega), nI_clamp (by omega), i2, nI_1]
    refine wp_grd (inb_nI (by omega) (by decide)) (wp_grd (nz_nI (by omega) (by omega)) ?_)
    refine wp_vv ?_; rintro _ rfl
    refine wp_vv ?_; rintro _ rfl
    refine wp_grd (inb_nI hb (by decide)) ?_
    rw [nI_add]
    refine wp_vv ?_; intro s1 g1
    rw [show gI s1 36 b = nI (ls L (fun k => k / w) g) by rw [g1, gI_ne (by omega)]; exact i3, nI_add]
    refine wp_vv ?_; intro s2 g2
    rw [show gI s2 39 b = nI (mnL L (fun k => k % w) (L 0 % w) g) by rw [g2, gI_ne (by omega), g1, gI_ne (by omega)]; exact i4, min_nI (by omega) (by omega)]
    refine wp_vv ?_; intro s3 g3
    rw [show gI s3 40 b = nI (mxL L (fun k => k % w) (L 0 % w) g) by rw [g3, gI_ne (by omega), g2, gI_ne (by omega), g1, gI_ne (by omega)]; exact i5, max_nI (by omega) (by omega)]
    refine wp_vv ?_; intro s4 g4
    rw [show gI s4 41 b = nI (mxL L (fun k => k / w) (L 0 / w) g) by rw [g4, gI_ne (by omega), g3, gI_ne (by omega), g2, gI_ne (by omega), g1, gI_ne (by omega)]; exact i6, max_nI (by omega) (by omega)]
    refine wp_vv ?_; intro s5 g5
    refine hr _ _ ⟨rfl, by rw [← i1, g5, g4, g3, g2, g1]; rfl, ?_, ?_, ?_, ?_, ?_, fun c k hc => ?_⟩
    · rw [g5, gI_ne (by omega), g4, gI_ne (by omega), g3, gI_ne (by omega), g2, gI_ne (by omega), g1, gI_eq]; rfl
    · rw [g5, gI_ne (by omega), g4, gI_ne (by omega), g3, gI_ne (by omega), g2, gI_eq]; rfl
    · rw [g5, gI_ne (by omega), g4, gI_ne (by omega), g3, gI_eq]; rfl
    · rw [g5, gI_ne (by omega), g4, gI_eq]; rfl
    · rw [g5, gI_eq]; rfl
    · rw [g5, gI_nk (by omega), g4, gI_nk (by omega), g3, gI_nk (by omega), g2, gI_nk (by omega), g1, gI_nk (by omega)]; exact i7 c k hc
  · rintro _ s' rec ⟨rfl, i1, i2, i3, i4, i5, i6, i7⟩
    rw [if_pos (nI_le (Nat.le_refl _) (by omega))]
    refine wp_some ⟨i1, by rw [i7 _ _ (by omega)]; exact a33, ⟨by rw [i7 _ _ (by omega)]; exact a34, i2, i3, by rw [i7 _ _ (by omega)]; exact a37, by rw [i7 _ _ (by omega)]; exact a38, i4, i5, i6⟩, fun c k c1 c2 => ?_⟩
    rw [i7 _ _ (by omega)]; exact aF c k c1 c2
end DESC
/-! what the blobs are -/
noncomputable def szS (w q : Nat) (ink : Nat → Prop) (st : Nat) : Nat := gs (Conn w q ink st) (fun _ => 1) (w * q)
def ql (w q spk : Nat) (ink : Nat → Prop) (k : Nat) : Prop := isSt w q ink k ∧ spk ≤ szS w q ink k
noncomputable def nB (w q spk : Nat) (ink : Nat → Prop) (i : Nat) : Nat := gs (ql w q spk ink) (fun _ => 1) i
/-- the numbers of a blob in rows from c on: size, sums -/
def Bd (c w q : Nat) (ink : Nat → Prop) (st b : Nat) (σ : SS) : Prop := gI σ c b = nI (szS w q ink st) ∧ gI σ (c + 1) b = nI (gs (Conn w q ink st) (fun k => k % w) (w * q)) ∧ gI σ (c + 2) b = nI (gs (Conn w q ink st) (fun k => k / w) (w * q))
def Be (w q : Nat) (ink : Nat → Prop) (st b : Nat) (σ : SS) : Prop := gI σ 37 b = nI (st % w) ∧ gI σ 38 b = nI (st / w) ∧ gI σ 39 b = nI (mnV (Conn w q ink st) fun k => k % w) ∧ gI σ 40 b = nI (mxV (Conn w q ink st) fun k => k % w) ∧ gI σ 41 b = nI (mxV (Conn w q ink st) fun k => k / w)
theorem Bd.fr {c w q st b : Nat} {ink : Nat → Prop} {σ σ' : SS} (h : Bd c w q ink st b σ) (hf : ∀ j, j < 3 → gI σ' (c + j) b = gI σ (c + j) b) : Bd c w q ink st b σ' := ⟨(hf 0 (by omega)).trans h.1, (hf 1 (by omega)).trans h.2.1, (hf 2 (by omega)).trans h.2.2⟩
section FIND
variable {σ : SS} {s w q spk : Nat} {lvl : Int32} {ink : Nat → Prop}
theorem list_sz {L : Nat → Nat} {n st : Nat} {S C : Nat → Prop} (hb : Bf w q ink S st L n C) (hm : ∀ k, mem L n k ↔ Conn w q ink st k) (f : Nat → Nat) : ls L f n = gs (Conn w q ink st) f (w * q) := by
  rw [ls_gs n hb.2.2.1 fun i hi => (hb.2.2.2.1 i hi).1]
  exact gs_congr _ fun k _ => hm k
theorem find7 (hs : s = 3 ∨ s = 6) (hw : 1 ≤ w ∧ w ≤ 40) (hq : 1 ≤ q ∧ q ≤ 40) (e1 : gI σ s 0 = nI w) (e2 : gI σ s 1 = nI q) (hink : ∀ k, k < w * q → (lvl ≤ gI σ (s + 1) k ↔ ink k)) (hspk : 1 ≤ spk ∧ spk ≤ 20) : WP (fX0_find σ s lvl (nI spk)) (fun r => gR r = gR σ ∧ (∀ c k, ¬ (33 ≤ c ∧ c ≤ 43) → gI r c k = gI σ c k) ∧ gI r 33 0 = nI (nB w q spk ink (w * q)) ∧ ∀ st, st < w * q → ql w q spk ink st → Bd 34 w q ink st (nB w q spk ink st) r ∧ Be w q ink st (nB w q spk ink st) r) := by
  have hN := area_le hw.2 hq.2
  unfold fX0_find
  refine wp_vv ?_; intro σ1 h1
  refine wp_vv ?_; intro σ2 h2
  have b43 : ∀ k, k < 1600 → gI σ2 43 k = 0 := fun k hk => by rw [h2]; unfold flB; exact gI_fl hk
  have bF : ∀ c k, ¬ (33 ≤ c ∧ c ≤ 43) → gI σ2 c k = gI σ c k := fun c k hc => by
    rw [h2]; unfold flB; rw [gI_fl_ne (by omega), h1, gI_ne (by omega)]
  have b33 : gI σ2 33 0 = nI 0 := by rw [h2]; unfold flB; rw [gI_fl_ne (by omega), h1, gI_eq]; rfl
  unfold X0_find_L16
  refine wf_2 (w * q) (fun i v s' => v = nI i ∧ gR s' = gR σ ∧ (∀ c k, ¬ (33 ≤ c ∧ c ≤ 43) → gI s' c k = gI σ c k) ∧ (∀ k, k < 1600 → (gI s' 43 k = 0 ↔ ¬ Sn w q ink i k)) ∧ gI s' 33 0 = nI (nB w q spk ink i) ∧ ∀ st, st < i → ql w q spk ink st → Bd 34 w q ink st (nB w q spk ink st) s' ∧ Be w q ink st (nB w q spk ink st) s') ⟨rfl, by rw [h2, h1]; rfl, bF, fun k hk => ⟨fun _ ⟨j, k1, _⟩ => by omega, fun _ => b43 k hk⟩, b33, fun st hst => absurd hst (by omega)⟩ (by omega) ?_ ?_
  · rintro i _ s' rec hi ⟨rfl, i1, i2, i3, i4, i5⟩ hr
    have q1 : gI s' s 0 = nI w := (i2 _ _ (by omega)).trans e1
    have q2 : gI s' s 1 = nI q := (i2 _ _ (by omega)).trans e2
    have hsz : fX6_size s' s = nI (w * q) := by unfold fX6_size; rw [q1, q2, nI_mul]
    rw [hsz, if_neg (nI_ge hi (by omega))]
    refine wp_bndp (gather7 (σg := s') (ink := ink) (S := Sn w q ink i) hs hw hq q1 q2 (fun k hk _ => by rw [i2 _ _ (by omega)]; exact hink k hk) i3 hi) ?_
    rintro v3 s3 ⟨L, n, hv3, hm, hcase⟩
    dsimp only at hv3 hm
    subst hv3
    rw [nI_1]
    have fr : ∀ c k, ¬ (33 ≤ c ∧ c ≤ 43) → gI s3 c k = gI σ c k := fun c k hc => by rw [hm.2.1 c k (by omega) (by omega)]; exact i2 c k hc
    have f33 : gI s3 33 0 = nI (nB w q spk ink i) := by rw [hm.2.1 _ _ (by omega) (by omega)]; exact i4
    have fst : ∀ st, st < i → ql w q spk ink st → Bd 34 w q ink st (nB w q spk ink st) s3 ∧ Be w q ink st (nB w q spk ink st) s3 := fun st k1 k2 => by
      obtain ⟨u1, u2⟩ := i5 st k1 k2
      refine ⟨u1.fr fun j hj => hm.2.1 _ _ (by omega) (by omega), ?_⟩
      unfold Be at *
      rw [hm.2.1 _ _ (by omega) (by omega), hm.2.1 _ _ (by omega) (by omega), hm.2.1 _ _ (by omega) (by omega), hm.2.1 _ _ (by omega) (by omega), hm.2.1 _ _ (by omega) (by omega)]
      exact u2
    rcases hcase with ⟨hnew, hbf⟩ | ⟨hnew, rfl⟩
    · have hst : isSt w q ink i := (Sn.st hi).mpr hnew
      have hmem := hbf.done hnew.1 fun a b ha hn hb => Sn.cl ha hn hb
      have hsz2 : n = szS w q ink i := by rw [← ls_1 L n, list_sz hbf hmem]; rfl
      have hle := hbf.le
      have hseen : ∀ k, k < 1600 → (gI s3 43 k = 0 ↔ ¬ Sn w q ink (i + 1) k) := fun k hk => by
        rw [hm.2.2.2 k hk, Sn.s hi, hmem]
        exact ⟨fun h h2 => h (h2.imp id fun x => x.2), fun h h2 => h (h2.imp id fun x => ⟨hnew.1, x⟩)⟩
      by_cases c : n < spk
      · rw [if_pos (nI_lt c (by omega))]
        have e : nB w q spk ink (i + 1) = nB w q spk ink i := gs_f fun h => by have := h.2; omega
        refine hr _ _ ⟨rfl, hm.1.trans i1, fr, hseen, by rw [e]; exact f33, fun st k1 k2 => ?_⟩
        by_cases e2 : st = i
        · subst e2; have := k2.2; omega
        · exact fst st (by omega) k2
      · have hql : ql w q spk ink i := ⟨hst, by omega⟩
        have hb8 : nB w q spk ink i < 800 := st_800 hw.2 hq.2 (fun k h => h.1) hst
        have e : nB w q spk ink (i + 1) = nB w q spk ink i + 1 := gs_t hql
        rw [if_neg (nI_nlt (by omega) (by omega)), f33, if_neg (by show ¬ nI 800 ≤ nI _; exact nI_ge hb8 (by decide)), show gI s3 s 0 = nI w from (fr _ _ (by omega)).trans e1]
        refine wp_bnd1 (describe7 (L := L) hw ⟨hbf.1, by omega⟩ hb8 f33 hm.2.2.1 fun j hj => by have := (hbf.2.2.2.1 j hj).1; omega) ?_
        rintro s4 ⟨r1, r2, ⟨d1, d2, d3, d4, d5, d6, d7, d8⟩, r4⟩
        have hL0 := hbf.2.1
        refine hr _ _ ⟨rfl, (r1.trans hm.1).trans i1, fun c k hc => by rw [r4 c k (by omega) (by omega)]; exact fr c k hc, fun k hk => by rw [r4 43 k (by omega) (by omega)]; exact hseen k hk, by rw [e]; exact r2, fun st k1 k2 => ?_⟩
        by_cases e2 : st = i
        · subst e2
          refine ⟨⟨by rw [d1, hsz2], ?_, ?_⟩, ?_, ?_, ?_, ?_, ?_⟩
          · exact d2.trans (by rw [list_sz hbf hmem])
          · exact d3.trans (by rw [list_sz hbf hmem])
          · rw [d4, hL0]
          · rw [d5, hL0]
          · rw [d6, mn_of hmem (Or.inl ⟨L 0, (hmem _).mp ⟨0, by have := hbf.1; omega, rfl⟩, rfl⟩)]
          · rw [d7, mx_of hmem (Or.inl ⟨L 0, (hmem _).mp ⟨0, by have := hbf.1; omega, rfl⟩, rfl⟩)]
          · rw [d8, mx_of hmem (Or.inl ⟨L 0, (hmem _).mp ⟨0, by have := hbf.1; omega, rfl⟩, rfl⟩)]
        · have hlt : nB w q spk ink st < nB w q spk ink i := by
            have h1 : nB w q spk ink (st + 1) = nB w q spk ink st + 1 := gs_t k2
            have h2 : nB w q spk ink (st + 1) ≤ nB w q spk ink i := gs_mono i (by omega)
            omega
          obtain ⟨u1, u2⟩ := fst st (by omega) k2
          refine ⟨u1.fr fun j hj => r4 _ _ (by omega) (by omega), ?_⟩
          unfold Be at *
          rw [r4 _ _ (by omega) (by omega), r4 _ _ (by omega) (by omega), r4 _ _ (by omega) (by omega), r4 _ _ (by omega) (by omega), r4 _ _ (by omega) (by omega)]
          exact u2
    · have hst : ¬ isSt w q ink i := fun h => hnew ((Sn.st hi).mp h)
      have e : nB w q spk ink (i + 1) = nB w q spk ink i := gs_f fun h => hst h.1
      rw [if_pos (nI_lt (by omega) (by omega))]
      refine hr _ _ ⟨rfl, hm.1.trans i1, fr, fun k hk => ?_, by rw [e]; exact f33, fun st k1 k2 => ?_⟩
      · rw [hm.2.2.2 k hk, Sn.same hi hst]
        exact ⟨fun h h2 => h (Or.inl h2), fun h h2 => h2.elim h fun ⟨j, k1, _⟩ => by omega⟩
      · by_cases e2 : st = i
        · subst e2; exact absurd k2.1 hst
        · exact fst st (by omega) k2
  · rintro _ s' rec ⟨rfl, i1, i2, i3, i4, i5⟩
    have hsz : fX6_size s' s = nI (w * q) := by unfold fX6_size; rw [i2 _ _ (by omega), i2 _ _ (by omega), e1, e2, nI_mul]
    rw [hsz, if_pos (nI_le (Nat.le_refl _) (by omega))]
    exact wp_some ⟨i1, i2, i4, i5⟩
end FIND
