/-! The judging: orders by darkness, as permutations; bits as sets. -/
theorem gs_full {m : Nat → Prop} : ∀ N, gs m (fun _ => 1) N = N → ∀ k, k < N → m k
  | 0, _, k, hk => absurd hk (by omega)
  | N + 1, h, k, hk => by
    have hle := gs_le (m := m) N
    by_cases c : m N
    · rw [gs_t c] at h
      by_cases e : k = N
      · subst e; exact c
      · exact gs_full N (by omega) k (by omega)
    · rw [gs_f c] at h; omega
theorem ins_inj {key : Nat → Int32} {i : Nat} : ∀ a o, a ≤ i → (∀ j k, j ≤ i → k ≤ i → j ≠ a → k ≠ a → o j = o k → j = k) → (∀ k, k ≤ i → k ≠ a → o k < i) → ∀ j k, j ≤ i → k ≤ i → ins key i a o j = ins key i a o k → j = k
  | 0, o, _, h, hlt, j, k, hj, hk, e => by
    have e' : (if j = 0 then i else o j) = if k = 0 then i else o k := e
    by_cases c1 : j = 0
    · by_cases c2 : k = 0
      · omega
      · rw [if_pos c1, if_neg c2] at e'
        have := hlt k hk c2; omega
    · by_cases c2 : k = 0
      · rw [if_neg c1, if_pos c2] at e'
        have := hlt j hj c1; omega
      · rw [if_neg c1, if_neg c2] at e'
        exact h j k hj hk c1 c2 e'
  | a + 1, o, ha, h, hlt, j, k, hj, hk, e => by
    rw [ins_s] at e
    by_cases c : key (o a) < key i
    · rw [if_pos c] at e
      refine ins_inj a _ (by omega) (fun j k hj hk hja hka e2 => ?_) (fun k hk hka => ?_) j k hj hk e
      · by_cases c1 : j = a + 1
        · by_cases c2 : k = a + 1
          · omega
          · rw [if_pos c1, if_neg c2] at e2
            have := h a k (by omega) hk (by omega) c2 e2; omega
        · by_cases c2 : k = a + 1
          · rw [if_neg c1, if_pos c2] at e2
            have := h j a hj (by omega) c1 (by omega) e2; omega
          · rw [if_neg c1, if_neg c2] at e2
            exact h j k hj hk c1 c2 e2
      · by_cases c1 : k = a + 1
        · rw [if_pos c1]; exact hlt a (by omega) (by omega)
        · rw [if_neg c1]; exact hlt k hk c1
    · rw [if_neg c] at e
      by_cases c1 : j = a + 1
      · by_cases c2 : k = a + 1
        · omega
        · rw [if_pos c1, if_neg c2] at e
          have := hlt k hk c2; omega
      · by_cases c2 : k = a + 1
        · rw [if_neg c1, if_pos c2] at e
          have := hlt j hj c1; omega
        · rw [if_neg c1, if_neg c2] at e
          exact h j k hj hk c1 c2 e
theorem srt_inj {key : Nat → Int32} : ∀ n j k, j < n → k < n → srt key n j = srt key n k → j = k
  | 0, j, _, hj, _, _ => absurd hj (by omega)
  | n + 1, j, k, hj, hk, e => ins_inj (key := key) (i := n) n (srt key n) (Nat.le_refl _) (fun j k hj hk hjn hkn e2 => srt_inj n j k (by omega) (by omega) e2) (fun k hk hkn => srt_lt n k (by omega)) j k (by omega) (by omega) e
theorem srt_sur {key : Nat → Int32} {n b : Nat} (hb : b < n) : ∃ i, i < n ∧ srt key n i = b := by
  have e := ls_gs (L := srt key n) (f := fun _ => 1) (N := n) n (fun i j hi hj => srt_inj n i j hi hj) fun i hi => srt_lt n i hi
  rw [ls_1] at e
  exact gs_full n e.symm b hb
/-- sorted: the greater ahead -/
theorem ins_sorted {key : Nat → Int32} {i : Nat} : ∀ a o, a ≤ i → (∀ k, k < a → ¬ k + 1 = a → k + 1 ≤ i → key (o (k + 1)) ≤ key (o k)) → (∀ k, a < k → k + 1 ≤ i → key (o (k + 1)) ≤ key (o k)) → (∀ j k, j < a → a < k → k ≤ i → key (o k) ≤ key (o j)) → (∀ k, a < k → k ≤ i → key (o k) ≤ key i) → ∀ k, k + 1 ≤ i → key (ins key i a o (k + 1)) ≤ key (ins key i a o k)
  | 0, o, _, h1, h2, h3, h4, k, hk => by
    show key (if k + 1 = 0 then i else o (k + 1)) ≤ key (if k = 0 then i else o k)
    rw [if_neg (by omega)]
    by_cases c : k = 0
    · rw [if_pos c]; exact h4 (k + 1) (by omega) hk
    · rw [if_neg c]; exact h2 k (by omega) hk
  | a + 1, o, ha, h1, h2, h3, h4, k, hk => by
    rw [ins_s]
    by_cases c : key (o a) < key i
    · rw [if_pos c]
      refine ins_sorted a _ (by omega) (fun j hj hja hji => ?_) (fun j hj hji => ?_) (fun j l hj hl hli => ?_) (fun j hj hji => ?_) k hk
      · rw [if_neg (by omega), if_neg (by omega)]
        exact h1 j (by omega) (by omega) hji
      · rw [if_neg (by omega)]
        by_cases e : j = a + 1
        · rw [if_pos e]; exact h3 a (j + 1) (by omega) (by omega) hji
        · rw [if_neg e]; exact h2 j (by omega) hji
      · rw [if_neg (show ¬ j = a + 1 by omega)]
        by_cases e : l = a + 1
        · rw [if_pos e]
          have mono : ∀ d, j + d ≤ a → key (o (j + d)) ≤ key (o j) := by
            intro d
            induction d with
            | zero => intro _; exact Int32.le_refl _
            | succ d ih => exact fun hd => Int32.le_trans (h1 (j + d) (by omega) (by omega) (by omega)) (ih (by omega))
          have := mono (a - j) (by omega)
          rw [show j + (a - j) = a by omega] at this
          exact this
        · rw [if_neg e]; exact h3 j l (by omega) (by omega) hli
      · by_cases e : j = a + 1
        · rw [if_pos e]; exact Int32.le_of_lt c
        · rw [if_neg e]; exact h4 j (by omega) hji
    · rw [if_neg c]
      by_cases e1 : k + 1 = a + 1
      · rw [if_pos e1, if_neg (by omega), show k = a by omega]; exact Int32.not_lt.mp c
      · by_cases e2 : k = a + 1
        · rw [if_neg e1, if_pos e2]; exact h4 (k + 1) (by omega) hk
        · rw [if_neg e1, if_neg e2]
          by_cases e3 : k < a + 1
          · exact h1 k e3 e1 hk
          · exact h2 k (by omega) hk
theorem srt_sorted {key : Nat → Int32} : ∀ n k, k + 1 < n → key (srt key n (k + 1)) ≤ key (srt key n k)
  | 0, k, hk => absurd hk (by omega)
  | n + 1, k, hk => ins_sorted (key := key) (i := n) n (srt key n) (Nat.le_refl _) (fun j hj hjn _ => srt_sorted n j (by omega)) (fun j hj hji => absurd hji (by omega)) (fun j l _ hl hli => absurd hli (by omega)) (fun j hj hji => absurd hji (by omega)) k (by omega)
/-! bits as sets -/
def Bs (v : Int32) (T : Nat → Prop) : Prop := ∃ m, m < 64 ∧ v = nI m ∧ ∀ b, b < 6 → (m.testBit b = true ↔ T b)
theorem bit_or : ∀ m, m < 64 → ∀ b, b < 6 → (nI m ||| ((1 : Int32) <<< (nI b &&& 31))) = nI (m ||| 2 ^ b) ∧ (m ||| 2 ^ b) < 64 := by decide +kernel
theorem bit_xor : ∀ m, m < 64 → ∀ b, b < 6 → (nI m &&& (((1 : Int32) <<< (nI b &&& 31)) ^^^ (-1 : Int32))) = nI (m &&& (63 ^^^ 2 ^ b)) ∧ (m &&& (63 ^^^ 2 ^ b)) < 64 := by decide +kernel
theorem bit_has : ∀ m, m < 64 → ∀ b, b < 6 → (((nI m >>> (nI b &&& 31)) &&& 1 = (1 : Int32)) ↔ m.testBit b = true) := by decide +kernel
theorem bit_one : ∀ b, b < 6 → ((1 : Int32) <<< (nI b &&& 31)) = nI (2 ^ b) ∧ 2 ^ b < 64 := by decide +kernel
theorem tb_or : ∀ m, m < 64 → ∀ b, b < 6 → ∀ c, c < 6 → ((m ||| 2 ^ b).testBit c = true ↔ (m.testBit c = true ∨ c = b)) := by decide +kernel
theorem tb_xor : ∀ m, m < 64 → ∀ b, b < 6 → ∀ c, c < 6 → ((m &&& (63 ^^^ 2 ^ b)).testBit c = true ↔ (m.testBit c = true ∧ ¬ c = b)) := by decide +kernel
theorem tb_one : ∀ b, b < 6 → ∀ c, c < 6 → ((2 ^ b).testBit c = true ↔ c = b) := by decide +kernel
theorem Bs.zero : Bs (0 : Int32) fun _ => False := ⟨0, by decide, rfl, fun b _ => by simp⟩
theorem Bs.or {v : Int32} {T T' : Nat → Prop} {b : Nat} (h : Bs v T) (hb : b < 6) (hT : ∀ c, c < 6 → (T' c ↔ T c ∨ c = b)) : Bs (v ||| ((1 : Int32) <<< (nI b &&& 31))) T' := by
  obtain ⟨m, h1, rfl, h3⟩ := h
  obtain ⟨e1, e2⟩ := bit_or m h1 b hb
  exact ⟨_, e2, e1, fun c hc => by rw [tb_or m h1 b hb c hc, h3 c hc, hT c hc]⟩
theorem Bs.sub {v : Int32} {T T' : Nat → Prop} {b : Nat} (h : Bs v T) (hb : b < 6) (hT : ∀ c, c < 6 → (T' c ↔ T c ∧ ¬ c = b)) : Bs (v &&& (((1 : Int32) <<< (nI b &&& 31)) ^^^ (-1 : Int32))) T' := by
  obtain ⟨m, h1, rfl, h3⟩ := h
  obtain ⟨e1, e2⟩ := bit_xor m h1 b hb
  exact ⟨_, e2, e1, fun c hc => by rw [tb_xor m h1 b hb c hc, h3 c hc, hT c hc]⟩
theorem Bs.one {T : Nat → Prop} {b : Nat} (hb : b < 6) (hT : ∀ c, c < 6 → (T c ↔ c = b)) : Bs ((1 : Int32) <<< (nI b &&& 31)) T := by
  obtain ⟨e1, e2⟩ := bit_one b hb
  exact ⟨_, e2, e1, fun c hc => by rw [tb_one b hb c hc, hT c hc]⟩
theorem Bs.has {v : Int32} {T : Nat → Prop} {b : Nat} (σ : SS) (h : Bs v T) (hb : b < 6) : fX8_has σ v (nI b) = true ↔ T b := by
  obtain ⟨m, h1, rfl, h3⟩ := h
  rw [has8, bit_has m h1 b hb, h3 b hb]
theorem Bs.one' {v w : Int32} {T T' : Nat → Prop} (h : Bs v T) (h' : Bs w T') (hT : ∀ b, b < 6 → (T b ↔ T' b)) : v = w := by
  obtain ⟨m, h1, rfl, h3⟩ := h
  obtain ⟨m', h1', rfl, h3'⟩ := h'
  congr 1
  apply Nat.eq_of_testBit_eq
  intro i
  by_cases hi : i < 6
  · have e := (h3 i hi).trans ((hT i hi).trans (h3' i hi).symm)
    cases h : m.testBit i <;> cases h' : m'.testBit i <;> simp_all
  · have p : 2 ^ 6 ≤ 2 ^ i := Nat.pow_le_pow_right (by omega) (by omega)
    rw [Nat.testBit_lt_two_pow (by omega), Nat.testBit_lt_two_pow (by omega)]
theorem Bs.imp {v : Int32} {T T' : Nat → Prop} (h : Bs v T) (hT : ∀ b, b < 6 → (T b ↔ T' b)) : Bs v T' := by
  obtain ⟨m, h1, h2, h3⟩ := h
  exact ⟨m, h1, h2, fun b hb => (h3 b hb).trans (hT b hb)⟩
section SORTD
variable {σ : SS} {i first : Nat}
theorem sortd_i (hi : first + i < 72) {k58 : Int32 → SS → Option SS} : ∀ a o d n, a < n → a ≤ i → (∀ k, k ≤ i → k ≠ a → d k = nI (first + o k)) → (∀ k, k ≤ i → k ≠ a → first + o k < 72) → ∃ a' d', X3_sortByDark_L15 (nI (first + i)) k58 n (nI a) (sA σ 52 d) = k58 (nI a') (sA σ 52 d') ∧ a' ≤ i ∧ ∀ k, k ≤ i → upd d' a' (nI (first + i)) k = nI (first + ins (fun j => gI σ 51 (first + j)) i a o k) := by
  intro a
  induction a with
  | zero =>
    intro o d n hn ha h ho
    obtain ⟨n, rfl⟩ : ∃ m, n = m + 1 := ⟨n - 1, by omega⟩
    refine ⟨0, d, ?_, by omega, fun k hk => ?_⟩
    · unfold X3_sortByDark_L15
      rw [lp_succ, if_pos (by decide)]
    · show (if k = 0 then nI (first + i) else d k) = nI (first + if k = 0 then i else o k)
      by_cases c : k = 0
      · rw [if_pos c, if_pos c]
      · rw [if_neg c, if_neg c]; exact h k hk c
  | succ a ih =>
    intro o d n hn ha h ho
    obtain ⟨n, rfl⟩ : ∃ m, n = m + 1 := ⟨n - 1, by omega⟩
    have oa := ho a (by omega) (by omega)
    have da := h a (by omega) (by omega)
    have e1 : nI (a + 1) - 1 = nI a := nI_pred a
    have e2 : nI (a + 1) + -1 = nI a := by rw [← e1]; exact (Int32.sub_eq_add_neg _ _).symm
    by_cases c : gI σ 51 (first + o a) < gI σ 51 (first + i)
    · obtain ⟨a', d', q1, q2, q3⟩ := ih (fun k => if k = a + 1 then o a else o k) (upd d (a + 1) (d a)) n (by omega) (by omega) (fun k hk hka => by
        show (if k = a + 1 then d a else d k) = nI (first + if k = a + 1 then o a else o k)
        by_cases c2 : k = a + 1
        · rw [if_pos c2, if_pos c2]; exact da
        · rw [if_neg c2, if_neg c2]; exact h k hk c2) (fun k hk hka => by
        show first + (if k = a + 1 then o a else o k) < 72
        by_cases c2 : k = a + 1
        · rw [if_pos c2]; exact oa
        · rw [if_neg c2]; exact ho k hk c2)
      refine ⟨a', d', ?_, q2, fun k hk => ?_⟩
      · rw [← q1]
        unfold X3_sortByDark_L15
        rw [lp_succ, if_neg (nI_nle (by omega) (by omega)), e1, e2, grd_eq _ (inb_nI (by omega) (by decide)), nI_clamp (by omega), gI_A, da, grd_eq _ (inb_nI oa (by decide)), grd_eq _ (inb_nI hi (by decide)), nI_clamp (by omega), nI_clamp (by omega), gI_A_ne (by omega), if_neg (Int32.not_le.mpr c), grd_eq _ (inb_nI (by omega) (by decide)), vthen_eq, nI_clamp (by omega), sI_A]
      · rw [q3 k hk, ins_s, if_pos c]
    · refine ⟨a + 1, d, ?_, ha, fun k hk => ?_⟩
      · unfold X3_sortByDark_L15
        rw [lp_succ, if_neg (nI_nle (by omega) (by omega)), e1, grd_eq _ (inb_nI (by omega) (by decide)), nI_clamp (by omega), gI_A, da, grd_eq _ (inb_nI oa (by decide)), grd_eq _ (inb_nI hi (by decide)), nI_clamp (by omega), nI_clamp (by omega), gI_A_ne (by omega), if_pos (Int32.not_lt.mp c)]
      · rw [ins_s, if_neg c]
        show (if k = a + 1 then nI (first + i) else d k) = nI (first + if k = a + 1 then i else o k)
        by_cases c : k = a + 1
        · rw [if_pos c, if_pos c]
        · rw [if_neg c, if_neg c]; exact h k hk c
theorem sortd {n : Nat} (hn : first + n ≤ 72) : ∃ d, fX3_sortByDark σ (nI first) (nI n) = some (sA σ 52 d) ∧ ∀ k, k < n → d k = nI (first + srt (fun j => gI σ 51 (first + j)) n k) := by
  suffices hh : WP (fX3_sortByDark (sA σ 52 (gI σ 52)) (nI first) (nI n)) (fun r => ∃ d, r = sA σ 52 d ∧ ∀ k, k < n → d k = nI (first + srt (fun j => gI σ 51 (first + j)) n k)) by
    rw [sA_self] at hh
    obtain ⟨r, h1, d, rfl, h2⟩ := hh
    exact ⟨d, h1, h2⟩
  unfold fX3_sortByDark X3_sortByDark_L2
  refine wf_2 n (fun i v s => v = nI i ∧ ∃ d, s = sA σ 52 d ∧ ∀ k, k < i → d k = nI (first + srt (fun j => gI σ 51 (first + j)) i k)) ⟨rfl, _, rfl, fun k hk => absurd hk (by omega)⟩ (by omega) ?_ ?_
  · rintro i _ _ rec hi ⟨rfl, d, rfl, hd⟩ hr
    rw [if_neg (nI_ge hi (by omega)), nI_add]
    refine wp_v ?_
    obtain ⟨a', d', q1, q2, q3⟩ := sortd_i (σ := σ) (i := i) (first := first) (by omega) (k58 := fun v7 σ8 =>
        grd (inb v7 72) <|
        vthen (sI σ8 52 (Int32.toNatClampNeg v7) (nI (first + i))) fun σ10 =>
        rec (nI i + (1 : Int32)) σ10) i (srt (fun j => gI σ 51 (first + j)) i) d fuel (fuel_gt (by omega)) (Nat.le_refl _) (fun k hk hka => hd k (by omega)) (fun k hk hka => by have := srt_lt (key := fun j => gI σ 51 (first + j)) i k (by omega); omega)
    rw [q1, nI_clamp (by omega), nI_1]
    refine wp_grd (inb_nI (by omega) (by decide)) (wp_v ?_)
    rw [sI_A]
    exact hr _ _ ⟨rfl, _, rfl, fun k hk => q3 k (by omega)⟩
  · rintro _ _ rec ⟨rfl, d, rfl, hd⟩
    rw [if_pos (nI_le (Nat.le_refl _) (by omega))]
    exact wp_some ⟨d, rfl, hd⟩
end SORTD
