/-! One question judged: what it comes to, and the class's half. -/
def ordQ (D : Nat → Nat) (n : Nat) : Nat → Nat := srt (fun i => nI (D i)) n
def atQ (D : Nat → Nat) (P n k : Nat) : Int32 := if k = n then nI P else nI (D (ordQ D n k))
def stQ (D : Nat → Nat) (P n : Nat) : Nat → Nat × Int32
  | 0 => (0, -1)
  | k + 1 => if atQ D P n k - atQ D P n (k + 1) ≤ (stQ D P n k).2 then stQ D P n k else (k + 1, atQ D P n k - atQ D P n (k + 1))
def ahQ (D : Nat → Nat) (P n : Nat) (m : Int32) : Nat := if (stQ D P n n).2 < m then 0 else (stQ D P n n).1
def dbQ (D : Nat → Nat) (P n : Nat) (one : Prop) (m cl : Int32) : Prop := one ∧ 1 < ahQ D P n m ∧ atQ D P n 0 - atQ D P n 1 < cl
def clQ (D : Nat → Nat) (P n : Nat) (one : Prop) (m cl : Int32) : Prop := one ∧ 1 < ahQ D P n m ∧ ¬ atQ D P n 0 - atQ D P n 1 < cl
/-- how many stay ticked -/
def syQ (D : Nat → Nat) (P n : Nat) (one : Prop) (m cl : Int32) (y : Nat) : Prop := (clQ D P n one m cl ∧ y = 1) ∨ (¬ clQ D P n one m cl ∧ y = ahQ D P n m)
/-- neither, doubtful, double -/
def seQ (D : Nat → Nat) (P n : Nat) (one : Prop) (m cl v : Int32) : Prop := (dbQ D P n one m cl ∧ v = 2) ∨ (¬ dbQ D P n one m cl ∧ v = if (stQ D P n n).2 < m ∧ ¬ (2 : Int32) * (stQ D P n n).2 < m then 1 else 0)
def anQ (D : Nat → Nat) (n y b : Nat) : Prop := ∃ k, k < n ∧ k < y ∧ ordQ D n k = b
def ruQ (D : Nat → Nat) (P n : Nat) (m rb : Int32) (y b : Nat) : Prop := ∃ k, k < n ∧ ¬ k < y ∧ (k < ahQ D P n m ∨ ¬ nI (D b) - nI P < rb) ∧ ordQ D n k = b
theorem stQ_le {D : Nat → Nat} {P n : Nat} : ∀ k, (stQ D P n k).1 ≤ k
  | 0 => Nat.le_refl _
  | k + 1 => by
    have ih := stQ_le (D := D) (P := P) (n := n) k
    show (if atQ D P n k - atQ D P n (k + 1) ≤ (stQ D P n k).2 then stQ D P n k else (k + 1, atQ D P n k - atQ D P n (k + 1))).1 ≤ k + 1
    split
    · omega
    · exact Nat.le_refl _
theorem syQ_ex (D : Nat → Nat) (P n : Nat) (one : Prop) (m cl : Int32) : ∃ y, syQ D P n one m cl y := by
  by_cases c : clQ D P n one m cl
  · exact ⟨1, Or.inl ⟨c, rfl⟩⟩
  · exact ⟨_, Or.inr ⟨c, rfl⟩⟩
theorem syQ_one {D : Nat → Nat} {P n : Nat} {one : Prop} {m cl : Int32} {y y' : Nat} (h : syQ D P n one m cl y) (h' : syQ D P n one m cl y') : y = y' := by
  rcases h with ⟨h1, h2⟩ | ⟨h1, h2⟩ <;> rcases h' with ⟨k1, k2⟩ | ⟨k1, k2⟩
  · rw [h2, k2]
  · exact absurd h1 k1
  · exact absurd k1 h1
  · rw [h2, k2]
theorem seQ_one {D : Nat → Nat} {P n : Nat} {one : Prop} {m cl v v' : Int32} (h : seQ D P n one m cl v) (h' : seQ D P n one m cl v') : v = v' := by
  rcases h with ⟨h1, h2⟩ | ⟨h1, h2⟩ <;> rcases h' with ⟨k1, k2⟩ | ⟨k1, k2⟩
  · rw [h2, k2]
  · exact absurd h1 k1
  · exact absurd k1 h1
  · rw [h2, k2]
/-- a question as it is judged, in four rows of cells: answer, state, rubbed out, step -/
def JQ (D : Nat → Nat) (P n : Nat) (one : Prop) (m cl rb : Int32) (an se ru st : Int32) : Prop := ∃ y, syQ D P n one m cl y ∧ Bs an (anQ D n y) ∧ Bs ru (ruQ D P n m rb y) ∧ seQ D P n one m cl se ∧ st = (stQ D P n n).2
theorem JQ.one {D : Nat → Nat} {P n : Nat} {one : Prop} {m cl rb an se ru st an' se' ru' st' : Int32} (h : JQ D P n one m cl rb an se ru st) (h' : JQ D P n one m cl rb an' se' ru' st') : an = an' ∧ se = se' ∧ ru = ru' ∧ st = st' := by
  obtain ⟨y, h1, h2, h3, h4, h5⟩ := h
  obtain ⟨y', k1, k2, k3, k4, k5⟩ := h'
  have := syQ_one h1 k1
  subst this
  exact ⟨h2.one' k2 fun _ _ => Iff.rfl, seQ_one h4 k4, h3.one' k3 fun _ _ => Iff.rfl, h5.trans k5.symm⟩
section JUDGE7
variable {σ : SS} {f p first n P : Nat} {D : Nat → Nat} {m cl rb : Int32}
theorem judge7 (hf : f = 10 ∨ f = 18) (hp : p < 12) (hn : 1 ≤ n ∧ n ≤ 6) (hfn : first + n ≤ 72) (g2 : gI σ (f + 2) p = nI first) (g3 : gI σ (f + 3) p = nI n) (hD : ∀ i, i < n → gI σ 51 (first + i) = nI (D i)) (hP : gI σ 31 6 = nI P) (e3 : gI σ 32 3 = m) (e4 : gI σ 32 4 = cl) (e5 : gI σ 32 5 = rb) : WP (fX3_judgeQuestion σ f (nI p)) (fun r => gR r = gR σ ∧ (∀ c k, ¬ (52 ≤ c ∧ c ≤ 56) → gI r c k = gI σ c k) ∧ (∀ c k, 53 ≤ c → c ≤ 56 → k ≠ p → gI r c k = gI σ c k) ∧ JQ D P n (gI σ (f + 1) p = 0) m cl rb (gI r 53 p) (gI r 54 p) (gI r 55 p) (gI r 56 p)) := by
  obtain ⟨d, x1, x2⟩ := sortd (σ := σ) hfn
  have hord : ∀ k, k < n → srt (fun j => gI σ 51 (first + j)) n k = ordQ D n k := fun k hk => srt_congr n (fun j hj => hD j hj) k hk
  have olt : ∀ k, k < n → ordQ D n k < n := fun k hk => srt_lt n k hk
  have x3 : ∀ k, k < n → d k = nI (first + ordQ D n k) := fun k hk => by rw [x2 k hk, hord k hk]
  unfold fX3_judgeQuestion
  rw [nI_clamp (by omega), g2, g3]
  refine wp_grd (inb_nI hp (by decide)) (wp_v (wp_v ?_))
  rw [bnd1_of _ x1]
  have q52 : ∀ k, k < n → gI (sA σ 52 d) 52 k = nI (first + ordQ D n k) := fun k hk => by rw [gI_A]; exact x3 k hk
  have q51 : ∀ k, k < n → gI (sA σ 52 d) 51 (first + ordQ D n k) = nI (D (ordQ D n k)) := fun k hk => by rw [gI_A_ne (by omega)]; exact hD _ (olt k hk)
  have qP : gI (sA σ 52 d) 31 6 = nI P := by rw [gI_A_ne (by omega)]; exact hP
  have fr0 : ∀ c k, ¬ (52 ≤ c ∧ c ≤ 56) → gI (sA σ 52 d) c k = gI σ c k := fun c k hc => by rw [gI_A_ne (by omega)]
  have fr1 : ∀ c k, 53 ≤ c → c ≤ 56 → gI (sA σ 52 d) c k = gI σ c k := fun c k c1 c2 => by rw [gI_A_ne (by omega)]
  have fR : gR (sA σ 52 d) = gR σ := rfl
  generalize sA σ 52 d = σ4 at *
  unfold X3_judgeQuestion_L31
  refine wf_3 n (fun i v5 v6 v7 => v5 = nI (stQ D P n i).1 ∧ v6 = (stQ D P n i).2 ∧ v7 = nI i) ⟨rfl, rfl, rfl⟩ (by omega) ?_ ?_
  · rintro i _ _ _ rec hi ⟨rfl, rfl, rfl⟩ hr
    rw [if_neg (nI_ge hi (by omega)), nI_1]
    refine wp_vk1 (fun s => s = atQ D P n (i + 1)) ?_ fun j hj => ?_
    · rintro _ rfl
      have ea : atQ D P n i = nI (D (ordQ D n i)) := if_neg (by omega)
      have oi := olt i hi
      rw [nI_clamp (by omega), q52 i hi, nI_clamp (by omega), q51 i hi, ← ea]
      refine wp_grd (inb_nI (by omega) (by decide)) (wp_grd (inb_nI (by omega) (by decide)) ?_)
      have es : stQ D P n (i + 1) = if atQ D P n i - atQ D P n (i + 1) ≤ (stQ D P n i).2 then stQ D P n i else (i + 1, atQ D P n i - atQ D P n (i + 1)) := rfl
      refine wp_if (fun h => hr _ _ _ ⟨by rw [es, if_pos h], by rw [es, if_pos h], rfl⟩) fun h => wp_v (wp_v (hr _ _ _ ⟨by rw [es, if_neg h], by rw [es, if_neg h], rfl⟩))
    · by_cases c : i + 1 = n
      · rw [if_pos (nI_le (by omega) (by omega)), qP]
        exact hj _ (if_pos c).symm
      · have oi := olt (i + 1) (by omega)
        rw [if_neg (nI_ge (by omega) (by omega)), nI_clamp (by omega), q52 (i + 1) (by omega), nI_clamp (by omega), q51 (i + 1) (by omega)]
        exact wp_grd (inb_nI (by omega) (by decide)) (wp_grd (inb_nI (by omega) (by decide)) (hj _ (if_neg c).symm))
  rintro _ _ _ rec0 ⟨rfl, rfl, rfl⟩
  rw [if_pos (nI_le (Nat.le_refl _) (by omega))]
  have hle := stQ_le (D := D) (P := P) (n := n) n
  generalize hst : (stQ D P n n).2 = step at *
  generalize hah : (stQ D P n n).1 = ah at *
  refine wp_vv ?_; intro σ14 h14
  refine wp_vv ?_; intro σ15 h15
  have base : ∀ c k, ¬ ((c = 54 ∨ c = 56) ∧ k = p) → gI σ15 c k = gI σ4 c k := fun c k hc => by rw [h15, gI_nk (by omega), h14, gI_nk (by omega)]
  have b56 : gI σ15 56 p = step := by rw [h15, gI_ne (by omega), h14, gI_eq]
  have b54 : gI σ15 54 p = 0 := by rw [h15, gI_eq]
  have bR : gR σ15 = gR σ4 := by rw [h15, h14]; rfl
  have c3 : gI σ15 32 3 = m := by rw [base _ _ (by omega), fr0 _ _ (by omega)]; exact e3
  have eah : ahQ D P n m = if step < m then 0 else ah := by unfold ahQ; rw [hst, hah]
  refine wp_vk (fun v16 s => v16 = nI (ahQ D P n m) ∧ gR s = gR σ4 ∧ (∀ c k, ¬ ((c = 54 ∨ c = 56) ∧ k = p) → gI s c k = gI σ4 c k) ∧ gI s 56 p = step ∧ gI s 54 p = if step < m ∧ ¬ (2 : Int32) * step < m then 1 else 0) ?_ fun j172 hj => ?_
  · rintro _ s17 ⟨rfl, r1, r2, r3, r4⟩
    have hah6 : ahQ D P n m ≤ n := by rw [eah]; split <;> omega
    have k52 : ∀ k, k < n → gI s17 52 k = nI (first + ordQ D n k) := fun k hk => by rw [r2 _ _ (by omega)]; exact q52 k hk
    have k51 : ∀ k, k < n → gI s17 51 (first + ordQ D n k) = nI (D (ordQ D n k)) := fun k hk => by rw [r2 _ _ (by omega)]; exact q51 k hk
    have k1 : gI s17 (f + 1) p = gI σ (f + 1) p := by rw [r2 _ _ (by omega), fr0 _ _ (by omega)]
    have k4 : gI s17 32 4 = cl := by rw [r2 _ _ (by omega), fr0 _ _ (by omega)]; exact e4
    refine wp_vk (fun v18 s => ∃ y, v18 = nI y ∧ syQ D P n (gI σ (f + 1) p = 0) m cl y ∧ gR s = gR σ4 ∧ (∀ c k, ¬ ((c = 54 ∨ c = 56) ∧ k = p) → gI s c k = gI σ4 c k) ∧ gI s 56 p = step ∧ seQ D P n (gI σ (f + 1) p = 0) m cl (gI s 54 p)) ?_ fun j236 hj2 => ?_
    · rintro _ s19 ⟨y, rfl, hy, t1, t2, t3, t4⟩
      have hy6 : y ≤ n := by rcases hy with ⟨_, h⟩ | ⟨_, h⟩ <;> omega
      refine wp_vv ?_; intro σ20 h20
      refine wp_vv ?_; intro σ21 h21
      have z : ∀ c k, ¬ (53 ≤ c ∧ c ≤ 56 ∧ k = p) → gI σ21 c k = gI σ4 c k := fun c k hc => by rw [h21, gI_nk (by omega), h20, gI_nk (by omega)]; exact t2 c k (by omega)
      unfold X3_judgeQuestion_L253
      refine wf_2 n (fun i v s => v = nI i ∧ gR s = gR σ4 ∧ (∀ c k, ¬ (53 ≤ c ∧ c ≤ 56 ∧ k = p) → gI s c k = gI σ4 c k) ∧ gI s 54 p = gI s19 54 p ∧ gI s 56 p = step ∧ Bs (gI s 53 p) (fun b => ∃ k, k < i ∧ k < y ∧ ordQ D n k = b) ∧ Bs (gI s 55 p) (fun b => ∃ k, k < i ∧ ¬ k < y ∧ (k < ahQ D P n m ∨ ¬ nI (D b) - nI P < rb) ∧ ordQ D n k = b)) ⟨rfl, by rw [h21, h20]; exact t1, z, by rw [h21, gI_ne (by omega), h20, gI_ne (by omega)], by rw [h21, gI_ne (by omega), h20, gI_ne (by omega)]; exact t3, ?_, ?_⟩ (by omega) ?_ ?_
      · rw [h21, gI_ne (by omega), h20, gI_eq]
        exact Bs.zero.imp fun b _ => ⟨fun h => h.elim, fun ⟨k, k1, _⟩ => by omega⟩
      · rw [h21, gI_eq]
        exact Bs.zero.imp fun b _ => ⟨fun h => h.elim, fun ⟨k, k1, _⟩ => by omega⟩
      · rintro i _ s rec hi ⟨rfl, l1, l2, l3, l4, l5, l6⟩ hr
        have oi := olt i hi
        have w52 : gI s 52 i = nI (first + ordQ D n i) := by rw [l2 _ _ (by omega)]; exact q52 i hi
        have w51 : gI s 51 (first + ordQ D n i) = nI (D (ordQ D n i)) := by rw [l2 _ _ (by omega)]; exact q51 i hi
        have wP : gI s 31 6 = nI P := by rw [l2 _ _ (by omega)]; exact qP
        have w5 : gI s 32 5 = rb := by rw [l2 _ _ (by omega), fr0 _ _ (by omega)]; exact e5
        rw [if_neg (nI_ge hi (by omega)), nI_clamp (by omega), w52, show nI (first + ordQ D n i) - nI first = nI (ordQ D n i) by rw [nI_sub (by omega)]; exact congrArg nI (by omega), nI_clamp (by omega), nI_clamp (by omega), w51, wP, w5, nI_1]
        refine wp_grd (inb_nI (by omega) (by decide)) (wp_v ?_)
        have fresh : ∀ k, k < i → ordQ D n k ≠ ordQ D n i := fun k hk e => by have := srt_inj n k i (by omega) hi e; omega
        refine wp_if (fun h => ?_) fun h => ?_
        · have hyi : ¬ i < y := by have := (nI_leI (by omega) (by omega)).mp h; omega
          have same53 : Bs (gI s 53 p) (fun b => ∃ k, k < i + 1 ∧ k < y ∧ ordQ D n k = b) := l5.imp fun b _ => ⟨fun ⟨k, a1, a2⟩ => ⟨k, by omega, a2⟩, fun ⟨k, a1, a2, a3⟩ => ⟨k, by omega, a2, a3⟩⟩
          refine wp_vk1 (fun _ : Unit => i < ahQ D P n m ∨ ¬ nI (D (ordQ D n i)) - nI P < rb) ?_ fun j327 hj3 => ?_
          · rintro _ hc
            refine wp_grd (inb_nI hp (by decide)) ?_
            refine wp_vv ?_; intro s25 h25
            refine hr _ _ ⟨rfl, by rw [h25]; exact l1, fun c k hc => by rw [h25, gI_nk (by omega)]; exact l2 c k hc, by rw [h25, gI_ne (by omega)]; exact l3, by rw [h25, gI_ne (by omega)]; exact l4, by rw [h25, gI_ne (by omega)]; exact same53, ?_⟩
            rw [h25, gI_eq]
            refine l6.or (by omega) fun b hb => ⟨fun ⟨k, a1, a2, a3, a4⟩ => ?_, fun h => ?_⟩
            · by_cases e : k = i
              · subst e; exact Or.inr a4.symm
              · exact Or.inl ⟨k, by omega, a2, a3, a4⟩
            · rcases h with ⟨k, a1, a2, a3, a4⟩ | rfl
              · exact ⟨k, by omega, a2, a3, a4⟩
              · exact ⟨i, by omega, hyi, hc, rfl⟩
          · refine wp_if (fun h2 => hj3 () (Or.inl ((nI_ltI (by omega) (by omega)).mp h2))) fun h2 => wp_grd (inb_nI (by omega) (by decide)) (wp_if (fun h3 => ?_) fun h3 => hj3 () (Or.inr h3))
            refine hr _ _ ⟨rfl, l1, l2, l3, l4, same53, l6.imp fun b _ => ⟨fun ⟨k, a1, a2⟩ => ⟨k, by omega, a2⟩, fun ⟨k, a1, a2, a3, a4⟩ => ?_⟩⟩
            by_cases e : k = i
            · subst e
              subst a4
              rcases a3 with a3 | a3
              · exact absurd (nI_lt a3 (by omega)) h2
              · exact absurd h3 a3
            · exact ⟨k, by omega, a2, a3, a4⟩
        · have hyi : i < y := Nat.lt_of_not_le fun z => h (nI_le z (by omega))
          refine wp_grd (inb_nI hp (by decide)) ?_
          refine wp_vv ?_; intro s28 h28
          refine hr _ _ ⟨rfl, by rw [h28]; exact l1, fun c k hc => by rw [h28, gI_nk (by omega)]; exact l2 c k hc, by rw [h28, gI_ne (by omega)]; exact l3, by rw [h28, gI_ne (by omega)]; exact l4, ?_, ?_⟩
          · rw [h28, gI_eq]
            refine l5.or (by omega) fun b hb => ⟨fun ⟨k, a1, a2, a4⟩ => ?_, fun h => ?_⟩
            · by_cases e : k = i
              · subst e; exact Or.inr a4.symm
              · exact Or.inl ⟨k, by omega, a2, a4⟩
            · rcases h with ⟨k, a1, a2, a4⟩ | rfl
              · exact ⟨k, by omega, a2, a4⟩
              · exact ⟨i, by omega, hyi, rfl⟩
          · rw [h28, gI_ne (by omega)]
            exact l6.imp fun b _ => ⟨fun ⟨k, a1, a2⟩ => ⟨k, by omega, a2⟩, fun ⟨k, a1, a2, a3⟩ => ⟨k, by omega, a2, a3⟩⟩
      · rintro _ s rec ⟨rfl, l1, l2, l3, l4, l5, l6⟩
        rw [if_pos (nI_le (Nat.le_refl _) (by omega))]
        refine wp_some ⟨l1.trans fR, fun c k hc => by rw [l2 c k (by omega)]; exact fr0 c k hc, fun c k c1 c2 hk => by rw [l2 c k (by omega)]; exact fr1 c k c1 c2, y, hy, l5, l6, by rw [l3]; exact t4, l4.trans hst.symm⟩
    · have se0 : ∀ h : ¬ dbQ D P n (gI σ (f + 1) p = 0) m cl, seQ D P n (gI σ (f + 1) p = 0) m cl (gI s17 54 p) := fun h => Or.inr ⟨h, by rw [hst]; exact r4⟩
      rw [k1]
      refine wp_if (fun h1 => ?_) fun h1 => hj2 _ _ ⟨ahQ D P n m, rfl, Or.inr ⟨fun h => h1 h.1, rfl⟩, r1, r2, r3, se0 fun h => h1 h.1⟩
      refine wp_if (fun h2 => ?_) fun h2 => ?_
      · have hle1 : ¬ 1 < ahQ D P n m := by have := (nI_leI (b := 1) (by omega) (by omega)).mp h2; omega
        exact hj2 _ _ ⟨ahQ D P n m, rfl, Or.inr ⟨fun h => hle1 h.2.1, rfl⟩, r1, r2, r3, se0 fun h => hle1 h.2.1⟩
      · have hgt1 : 1 < ahQ D P n m := Nat.lt_of_not_le fun z => h2 (nI_le (b := 1) z (by omega))
        have o0 := olt 0 (by omega)
        have o1 := olt 1 (by omega)
        have a0 : atQ D P n 0 = nI (D (ordQ D n 0)) := if_neg (by omega)
        have a1 : atQ D P n 1 = nI (D (ordQ D n 1)) := if_neg (by omega)
        rw [k52 0 (by omega), k52 1 (by omega), nI_clamp (by omega), nI_clamp (by omega), k51 0 (by omega), k51 1 (by omega), k4, ← a0, ← a1]
        refine wp_grd (inb_nI (by omega) (by decide)) (wp_grd (inb_nI (by omega) (by decide)) (wp_if (fun h3 => ?_) fun h3 => ?_))
        · refine wp_vv ?_; intro s31 h31
          refine hj2 _ _ ⟨ahQ D P n m, rfl, Or.inr ⟨fun h => h.2.2 h3, rfl⟩, by rw [h31]; exact r1, fun c k hc => by rw [h31, gI_nk (by omega)]; exact r2 c k hc, by rw [h31, gI_ne (by omega)]; exact r3, Or.inl ⟨⟨h1, hgt1, h3⟩, by rw [h31, gI_eq]⟩⟩
        · exact hj2 _ _ ⟨1, rfl, Or.inl ⟨⟨h1, hgt1, h3⟩, rfl⟩, r1, r2, r3, se0 fun h => h3 h.2.2⟩
  · rw [c3]
    refine wp_if (fun h1 => ?_) fun h1 => ?_
    · have h1' : ¬ step < m := Int32.not_lt.mpr h1
      exact hj _ _ ⟨by rw [eah, if_neg h1'], bR, base, b56, by rw [b54, if_neg fun h => h1' h.1]⟩
    · have h1' : step < m := Int32.not_le.mp h1
      refine wp_vk1 (fun v => v = if step < m ∧ ¬ (2 : Int32) * step < m then 1 else 0) ?_ fun j171 hj1 => ?_
      · rintro _ rfl
        refine wp_vv ?_; intro s33 h33
        exact hj _ _ ⟨by rw [eah, if_pos h1']; rfl, by rw [h33]; exact bR, fun c k hc => by rw [h33, gI_nk (by omega)]; exact base c k hc, by rw [h33, gI_ne (by omega)]; exact b56, by rw [h33, gI_eq]⟩
      · refine wp_if (fun h2 => hj1 _ (by rw [if_neg fun h => h.2 h2])) fun h2 => hj1 _ (by rw [if_pos ⟨h1', h2⟩])
end JUDGE7
