/-! The base: a store of numbered cells (ints, longs, references by two numbers), what a cell is by a fixed table, the world that the store pictures on the heap, and one row an instruction over it. -/
abbrev SS : Type := (Nat → Nat → Int32) × (Nat → Nat → Int64) × (Nat → Nat → Nat)
def gI (σ : SS) (c k : Nat) : Int32 := σ.1 c k
def gL (σ : SS) (c k : Nat) : Int64 := σ.2.1 c k
def gR (σ : SS) (c k : Nat) : Nat := σ.2.2 c k
def sA (σ : SS) (c : Nat) (f : Nat → Int32) : SS := (fun c' => if c' = c then f else σ.1 c', σ.2)
def sI (σ : SS) (c k : Nat) (v : Int32) : SS := sA σ c (upd (gI σ c) k v)
def sL (σ : SS) (c k : Nat) (v : Int64) : SS := (σ.1, fun c' => if c' = c then vp_updL (gL σ c) k v else σ.2.1 c', σ.2.2)
def sR (σ : SS) (c k r : Nat) : SS := (σ.1, σ.2.1, fun c' => if c' = c then (fun j => if j = k then r else gR σ c j) else σ.2.2 c')
theorem gI_sA (σ : SS) (c c' k : Nat) (f : Nat → Int32) : gI (sA σ c f) c' k = if c' = c then f k else gI σ c' k := by
  unfold gI sA; dsimp only; split <;> rfl
theorem gL_sA (σ : SS) (c c' k : Nat) (f : Nat → Int32) : gL (sA σ c f) c' k = gL σ c' k := rfl
theorem gR_sA (σ : SS) (c c' k : Nat) (f : Nat → Int32) : gR (sA σ c f) c' k = gR σ c' k := rfl
theorem gI_sI (σ : SS) (c k c' k' : Nat) (v : Int32) : gI (sI σ c k v) c' k' = if c' = c ∧ k' = k then v else gI σ c' k' := by
  unfold sI; rw [gI_sA]
  by_cases h : c' = c
  · subst h; by_cases h2 : k' = k <;> simp [upd, h2]
  · simp [h]
theorem gL_sI (σ : SS) (c k c' k' : Nat) (v : Int32) : gL (sI σ c k v) c' k' = gL σ c' k' := rfl
theorem gR_sI (σ : SS) (c k c' k' : Nat) (v : Int32) : gR (sI σ c k v) c' k' = gR σ c' k' := rfl
theorem gI_sL (σ : SS) (c k c' k' : Nat) (v : Int64) : gI (sL σ c k v) c' k' = gI σ c' k' := rfl
theorem gR_sL (σ : SS) (c k c' k' : Nat) (v : Int64) : gR (sL σ c k v) c' k' = gR σ c' k' := rfl
theorem gL_sL (σ : SS) (c k c' k' : Nat) (v : Int64) : gL (sL σ c k v) c' k' = if c' = c ∧ k' = k then v else gL σ c' k' := by
  unfold gL sL; dsimp only
  by_cases h : c' = c
  · subst h; by_cases h2 : k' = k <;> simp [vp_updL, h2, gL]
  · simp [h]
theorem gI_sR (σ : SS) (c k r c' k' : Nat) : gI (sR σ c k r) c' k' = gI σ c' k' := rfl
theorem gL_sR (σ : SS) (c k r c' k' : Nat) : gL (sR σ c k r) c' k' = gL σ c' k' := rfl
theorem gR_sR (σ : SS) (c k r c' k' : Nat) : gR (sR σ c k r) c' k' = if c' = c ∧ k' = k then r else gR σ c' k' := by
  unfold gR sR; dsimp only
  by_cases h : c' = c
  · subst h; by_cases h2 : k' = k <;> simp [h2, gR]
  · simp [h]
/-- what is done with a value, and with what may fail -/
def vthen {α β : Type} (x : α) (f : α → β) : β := f x
def bnd {α β γ : Type} (x : Option (α × β)) (f : α → β → Option γ) : Option γ := match x with
  | none => none
  | some (a, b) => f a b
def bnd1 {α γ : Type} (x : Option α) (f : α → Option γ) : Option γ := match x with
  | none => none
  | some a => f a
theorem bnd_some {α β γ : Type} (a : α) (b : β) (f : α → β → Option γ) : bnd (some (a, b)) f = f a b := rfl
theorem bnd1_some {α γ : Type} (a : α) (f : α → Option γ) : bnd1 (some a) f = f a := rfl
theorem bnd_inv {α β γ : Type} {x : Option (α × β)} {f : α → β → Option γ} {r : γ} (h : bnd x f = some r) : ∃ a b, x = some (a, b) ∧ f a b = some r := by
  cases x with
  | none => cases h
  | some q => obtain ⟨a, b⟩ := q; exact ⟨a, b, rfl, h⟩
theorem bnd1_inv {α γ : Type} {x : Option α} {f : α → Option γ} {r : γ} (h : bnd1 x f = some r) : ∃ a, x = some a ∧ f a = some r := by
  cases x with
  | none => cases h
  | some a => exact ⟨a, rfl, h⟩
def inb (i : Int32) (n : Nat) : Bool := decide (¬ (i < 0 ∨ n ≤ i.toNatClampNeg))
theorem inb_vp {i : Int32} {n : Nat} (h : inb i n = true) : vp_in i n := by unfold vp_in; exact of_decide_eq_true h
def b2i (b : Bool) : Int32 := if b then 1 else 0
def irm (x y : Int32) : Int32 := x - x / y * y
def lrm (x y : Int64) : Int64 := x - x / y * y

/-- what each cell is: below 9 an object of that class, 20 ints, 21 bytes, 22 booleans, 23 longs, 24 scans; its length -/
def shTab : List (Nat × Nat) := [(99, 0), (7, 0), (20, 480), (6, 0), (20, 1600), (20, 10), (6, 0), (20, 1600), (20, 10), (24, 3), (1, 0), (22, 12), (20, 12), (20, 12), (20, 12), (20, 12), (20, 72), (20, 72), (1, 0), (22, 12), (20, 12), (20, 12), (20, 12), (20, 12), (20, 72), (20, 72), (2, 0), (20, 400), (20, 4), (20, 4), (20, 12), (3, 0), (20, 7), (0, 0), (20, 800), (20, 800), (20, 800), (20, 800), (20, 800), (20, 800), (20, 800), (20, 800), (20, 1600), (21, 1600), (20, 4), (5, 0), (23, 4), (23, 4), (23, 4), (23, 4), (23, 4), (20, 72), (20, 72), (20, 12), (20, 12), (20, 12), (20, 12), (20, 12), (4, 0), (20, 16), (20, 16), (20, 16), (20, 192), (20, 16), (6, 0), (20, 1600), (20, 10), (6, 0), (20, 1600), (20, 10), (6, 0), (20, 1600), (20, 10)]
def shp (c : Nat) : Nat × Nat := shTab.getD c (99, 0)
abbrev NF : Nat := 73
/-- how many cells are made: 73 says that all 72 of the class are, and their references laid -/
def cnt (n : Nat) : Nat := if n = 73 then 72 else n
theorem cnt_le (n : Nat) : cnt n ≤ n := by unfold cnt; split <;> omega
theorem shp_big {c : Nat} (h : 73 ≤ c) : shp c = (99, 0) := by
  unfold shp; rw [List.getD_eq_getElem?_getD, List.getElem?_eq_none (by show 73 ≤ c; exact h)]; rfl
theorem shp_le {c : Nat} {q : Nat × Nat} (h : shp c = q) (hq : q.1 < 99) : 1 ≤ c ∧ c ≤ 72 := by
  rcases Nat.lt_or_ge c 73 with h1 | h1
  · rcases Nat.eq_zero_or_pos c with rfl | h2
    · subst h; exact absurd hq (by decide)
    · exact ⟨h2, by omega⟩
  · rw [shp_big h1] at h; subst h; exact absurd hq (by decide)
theorem shp_all {P : Nat → Prop} {q : Nat × Nat} (hd : ∀ c, c < 73 → shp c = q → P c) (hq : q.1 < 99) {c : Nat} (h : shp c = q) : P c := hd c (by have := (shp_le h hq).2; omega) h
def nfC : Nat → Nat := fun ci => [11, 14, 8, 12, 6, 8, 4, 14].getD ci 0
def tyC : Nat → Nat → FieldType := fun ci k => match ci with
  | 0 => tyX0 k
  | 1 => tyX1 k
  | 2 => tyX2 k
  | 3 => tyX3 k
  | 4 => tyX4 k
  | 5 => tyX5 k
  | 6 => tyX6 k
  | _ => tyX7 k
abbrev GG : Type := Launch × Nat × va_G × (Nat → ClassId) × (Nat → Nat) × Nat × (Nat → Int32)
def ad (g : GG) (c : Nat) : Nat := if c < 1000 then g.2.1 + c else if c < 2000 then g.2.2.2.2.1 c else g.2.1 + 73 + (c - 2000)
theorem ad_lt (g : GG) {c : Nat} (h : c < 1000) : ad g c = g.2.1 + c := if_pos h
def rv (g : GG) (c : Nat) : Value := if c = 0 then .null else .ref (ad g c)
theorem rv_pos (g : GG) {c : Nat} (h : 1 ≤ c) : rv g c = .ref (ad g c) := if_neg (by omega)
def rq (g : GG) (c : Nat) : Option Nat := if c = 0 then none else some (ad g c)
def fval (g : GG) (σ : SS) (c ci k : Nat) : Value := match tyC ci k with
  | .int => .int (gI σ c k)
  | .boolean => .int (gI σ c k)
  | .long => .long (gL σ c k)
  | _ => rv g (gR σ c k)
def fldsC (g : GG) (σ : SS) (c ci : Nat) : List Value := (List.range (nfC ci)).map (fval g σ c ci)
def cellE (g : GG) (σ : SS) (c : Nat) : va_E := match (shp c).1 with
  | 20 => .inl (g.2.2.2.1 20, (shp c).2, .inl (gI σ c))
  | 21 => .inl (g.2.2.2.1 21, (shp c).2, .inl (gI σ c))
  | 22 => .inl (g.2.2.2.1 22, (shp c).2, .inl (gI σ c))
  | 23 => .inl (g.2.2.2.1 23, (shp c).2, .inr (.inl (gL σ c)))
  | 24 => .inl (g.2.2.2.1 24, (shp c).2, .inr (.inr (.inr (.inr (fun j => rq g (gR σ c j))))))
  | ci => .inr (ci, fldsC g σ c ci)
theorem cellE_i {g : GG} {σ : SS} {c n : Nat} (h : shp c = (20, n)) : cellE g σ c = .inl (g.2.2.2.1 20, n, .inl (gI σ c)) := by unfold cellE; rw [h] <;> rfl
theorem cellE_b {g : GG} {σ : SS} {c n : Nat} (h : shp c = (21, n)) : cellE g σ c = .inl (g.2.2.2.1 21, n, .inl (gI σ c)) := by unfold cellE; rw [h] <;> rfl
theorem cellE_z {g : GG} {σ : SS} {c n : Nat} (h : shp c = (22, n)) : cellE g σ c = .inl (g.2.2.2.1 22, n, .inl (gI σ c)) := by unfold cellE; rw [h] <;> rfl
theorem cellE_l {g : GG} {σ : SS} {c n : Nat} (h : shp c = (23, n)) : cellE g σ c = .inl (g.2.2.2.1 23, n, .inr (.inl (gL σ c))) := by unfold cellE; rw [h] <;> rfl
theorem cellE_q {g : GG} {σ : SS} {c n : Nat} (h : shp c = (24, n)) : cellE g σ c = .inl (g.2.2.2.1 24, n, .inr (.inr (.inr (.inr (fun j => rq g (gR σ c j)))))) := by unfold cellE; rw [h] <;> rfl
theorem cellE_o {g : GG} {σ : SS} {c ci n : Nat} (h : shp c = (ci, n)) (hc : ci < 9) : cellE g σ c = .inr (ci, fldsC g σ c ci) := by
  unfold cellE; rw [h]
  rcases (show ci = 0 ∨ ci = 1 ∨ ci = 2 ∨ ci = 3 ∨ ci = 4 ∨ ci = 5 ∨ ci = 6 ∨ ci = 7 ∨ ci = 8 by omega) with rfl | rfl | rfl | rfl | rfl | rfl | rfl | rfl | rfl <;> rfl
/-- a cell's contents depend on the store at that cell alone -/
theorem cellE_congr {g : GG} {σ σ' : SS} {c : Nat} (h1 : gI σ' c = gI σ c) (h2 : gL σ' c = gL σ c) (h3 : gR σ' c = gR σ c) : cellE g σ' c = cellE g σ c := by
  have e : ∀ ci, fldsC g σ' c ci = fldsC g σ c ci := fun ci => by
    unfold fldsC
    refine List.map_congr_left fun k _ => ?_
    unfold fval
    rw [congrFun h1 k, congrFun h2 k, congrFun h3 k]
  unfold cellE
  rw [h1, h2, h3]
  split <;> first | rfl | rw [e]

/-- the references that stay as they were made: cell, field, what it is -/
def fxTab : List (Nat × Nat × Nat) := [(1, 0, 2), (1, 4, 9), (1, 7, 26), (1, 9, 28), (1, 10, 29), (1, 11, 30), (1, 12, 31), (1, 13, 58), (3, 2, 4), (3, 3, 5), (6, 2, 7), (6, 3, 8), (9, 0, 64), (9, 1, 67), (9, 2, 70), (10, 7, 11), (10, 8, 12), (10, 9, 13), (10, 10, 14), (10, 11, 15), (10, 12, 16), (10, 13, 17), (18, 7, 19), (18, 8, 20), (18, 9, 21), (18, 10, 22), (18, 11, 23), (18, 12, 24), (18, 13, 25), (26, 0, 27), (31, 0, 32), (31, 1, 33), (31, 2, 44), (31, 3, 45), (31, 4, 51), (31, 5, 52), (31, 7, 53), (31, 8, 54), (31, 9, 55), (31, 10, 56), (31, 11, 57), (33, 1, 34), (33, 2, 35), (33, 3, 36), (33, 4, 37), (33, 5, 38), (33, 6, 39), (33, 7, 40), (33, 8, 41), (33, 9, 42), (33, 10, 43), (45, 0, 46), (45, 1, 47), (45, 2, 48), (45, 3, 49), (45, 4, 50), (58, 1, 59), (58, 2, 60), (58, 3, 61), (58, 4, 62), (58, 5, 63), (64, 2, 65), (64, 3, 66), (67, 2, 68), (67, 3, 69), (70, 2, 71), (70, 3, 72)]
def WT (σ : SS) : Prop := (∀ q ∈ fxTab, gR σ q.1 q.2.1 = q.2.2) ∧ (gR σ 1 2 = 3 ∨ gR σ 1 2 = 6) ∧ (gR σ 1 3 = 3 ∨ gR σ 1 3 = 6) ∧ (gR σ 1 5 = 10 ∨ gR σ 1 5 = 18) ∧ (gR σ 1 6 = 10 ∨ gR σ 1 6 = 18)
theorem WT.sA {σ : SS} (h : WT σ) (c : Nat) (f : Nat → Int32) : WT (sA σ c f) := h
theorem WT.sI {σ : SS} (h : WT σ) (c k : Nat) (v : Int32) : WT (sI σ c k v) := h
theorem WT.sL {σ : SS} (h : WT σ) (c k : Nat) (v : Int64) : WT (sL σ c k v) := h
theorem WT.fx {σ : SS} (h : WT σ) (i : Nat) {c k r : Nat} (hi : fxTab[i]? = some (c, k, r)) : gR σ c k = r := h.1 _ (List.mem_of_getElem? hi)

def AA (g : GG) : Nat → Prop := fun q => g.2.1 < q
def stT : Nat → String := fun i => match i with
  | 0 => "size"
  | 1 => "box"
  | 2 => "many"
  | 3 => "one"
  | 4 => "key"
  | _ => "worth"
def stK : Nat → Nat := fun i => [56, 79, 90, 95, 130, 145].getD i 0
def stL : List Nat := [4, 3, 4, 3, 3, 5]
def stB : List (List Int32) := [[115, 105, 122, 101], [98, 111, 120], [109, 97, 110, 121], [111, 110, 101], [107, 101, 121], [119, 111, 114, 116, 104]]
def roV (i j : Nat) : Int32 := (match i with | 1001 => [1, 1, 1, 1, 0, 0, 0] | 1002 => [9, 20, 60, 200, 200, 200, 20] | _ => [0, 1, 3, 2] : List Int32).getD j 0
def nestT : List (String × Nat × MethodName × String) := [("SheetReader", 17, ⟨"SheetReader$Scan", "<init>", "()V"⟩, "SheetReader"), ("SheetReader", 31, ⟨"SheetReader$Form", "<init>", "()V"⟩, "SheetReader"), ("SheetReader", 41, ⟨"SheetReader$FormText", "<init>", "()V"⟩, "SheetReader"), ("SheetReader", 61, ⟨"SheetReader$Judge", "<init>", "()V"⟩, "SheetReader"), ("SheetReader$Judge", 17, ⟨"SheetReader$Blobs", "<init>", "()V"⟩, "SheetReader"), ("SheetReader$Judge", 27, ⟨"SheetReader$Places", "<init>", "()V"⟩, "SheetReader"), ("SheetReader", 68, ⟨"SheetReader$Pile", "<init>", "()V"⟩, "SheetReader")]
def Ro (g : GG) (s : State) : Prop :=
  (va_Z "SheetReader" "SETTING_LEAST" "[I" (.ref (ad g 1001)) (AA g) s s.heap ∧ va_T .int (ad g 1001) 7 (fun j => .int (roV 1001 j)) (AA g) s s.heap) ∧
  (va_Z "SheetReader" "SETTING_MOST" "[I" (.ref (ad g 1002)) (AA g) s s.heap ∧ va_T .int (ad g 1002) 7 (fun j => .int (roV 1002 j)) (AA g) s s.heap) ∧
  (True ∧ True) ∧
  vk_S 6 stL stB (fun i => ad g (1010 + i)) (fun i => ad g (1020 + i)) (AA g) s s.heap ∧ (∀ i, i < 6 → vk_R "SheetReader$FormText" (stK i) (stT i) (ad g (1010 + i)) s) ∧
  va_Z "java/lang/String" "COMPACT_STRINGS" "Z" (.int 1) (AA g) s s.heap ∧ va_Zq "jdk/internal/util/Preconditions" "SIOOBE_FORMATTER" "Ljava/util/function/BiFunction;" (AA g) s s.heap ∧
  (∀ q ∈ nestT, va_Nw (.methodLinkNest q.1 q.2.1 q.2.2.1 q.2.2.2) s) ∧ va_AO "SheetReader$Scan" s ∧ va_T .int (ad g 1030) g.2.2.2.2.2.1 (fun j => .int (g.2.2.2.2.2.2 j)) (AA g) s s.heap
theorem Ro.go {g : GG} {s U : State} (h : Ro g s) (hv : s.WarmedH U.vm) (hq : ∀ a : Nat, a < s.heap.size → ¬ AA g a → U.heap[a]? = s.heap[a]?) : Ro g U := by
  obtain ⟨⟨a1, a2⟩, ⟨b1, b2⟩, ⟨c1, c2⟩, d1, d2, e1, f1, g1, g2, s1⟩ := h
  have hvm := hv.alike
  exact ⟨⟨(a1.moved hvm).kept hq, (a2.moved hvm).kept hq⟩, ⟨(b1.moved hvm).kept hq, (b2.moved hvm).kept hq⟩, ⟨c1, c2⟩, (d1.moved hvm).kept hq, fun i hi => (d2 i hi).warm hv, (e1.moved hvm).kept hq, (f1.moved hvm).kept hq, fun q hq => (g1 q hq).warmM hv, g2.moved hvm, (s1.moved hvm).kept hq⟩
def tysG (g : GG) : List (ClassId × FieldType) := [(g.2.2.2.1 20, .int), (g.2.2.2.1 21, .byte), (g.2.2.2.1 22, .boolean), (g.2.2.2.1 23, .long), (g.2.2.2.1 24, .object "SheetReader$Scan")]
/-- what is known of the classes, and of what nobody writes -/
def Ko (g : GG) (s : State) : Prop := va_K g.2.2.1 vwCl (tysG g) s ∧ Ro g s
/-- a cell of the law's own: an array of ints, of the length that the store says -/
def lawE (g : GG) (σ : SS) (c : Nat) : va_E := .inl (g.2.2.2.1 20, gR σ c 0, .inl (gI σ c))
theorem lawE_congr {g : GG} {σ σ' : SS} {c : Nat} (h1 : gI σ' c = gI σ c) (h3 : gR σ' c = gR σ c) : lawE g σ' c = lawE g σ c := by unfold lawE; rw [h1, h3]
def ext (n : Nat) (σ : SS) : Nat := if n = 73 then gR σ 0 0 else 0
theorem ad_law (g : GG) (i : Nat) : ad g (2000 + i) = g.2.1 + 73 + i := by unfold ad; rw [if_neg (by omega), if_neg (by omega)]; omega
/-- the heap shows the first n cells of the store -/
def Wc (g : GG) (n : Nat) (σ : SS) (H : Heap) : Prop := H.size = g.2.1 + 1 + cnt n + ext n σ ∧ n < 1000 ∧ ((∀ c, 1 ≤ c → c ≤ cnt n → va_at g.2.2.1 vwCl (ad g c, cellE g σ c) H) ∧ ∀ i, i < ext n σ → va_at g.2.2.1 vwCl (ad g (2000 + i), lawE g σ (2000 + i)) H) ∧ (n = NF → WT σ)
theorem Wc.at {g : GG} {n : Nat} {σ : SS} {H : Heap} (h : Wc g n σ H) {c : Nat} (h1 : 1 ≤ c ∧ c ≤ cnt n) {e : va_E} (he : cellE g σ c = e) : va_at g.2.2.1 vwCl (ad g c, e) H := by
  rw [← he]; exact h.2.2.1.1 c h1.1 h1.2
theorem Wc.P {g : GG} {n : Nat} {σ : SS} {H : Heap} (h : Wc g n σ H) {c : Nat} (h1 : 1 ≤ c ∧ c ≤ cnt n) {e : va_E} (he : cellE g σ c = e) : va_P g.2.2.1 vwCl [(ad g c, e)] H := by
  intro k q hk
  cases k with
  | zero => cases hk; exact h.at h1 he
  | succ k => cases hk
theorem ad_AA (g : GG) {c : Nat} (h1 : 1 ≤ c) (h2 : c < 1000) : AA g (ad g c) := by
  show g.2.1 < ad g c
  rw [ad_lt g h2]; omega
theorem ad_ne (g : GG) {c c' : Nat} (h : c < 1000) (h' : c' < 1000) (hne : c' ≠ c) : ad g c' ≠ ad g c := by
  rw [ad_lt g h, ad_lt g h']; omega
/-- one cell is written -/
theorem Wc.set {g : GG} {n : Nat} {σ σ' : SS} {H H1 : Heap} (h : Wc g n σ H) {c : Nat} (h1 : 1 ≤ c ∧ c ≤ cnt n) {e : va_E} (he : cellE g σ' c = e) (hat : va_at g.2.2.1 vwCl (ad g c, e) H1) (hz : H1.size = H.size) (oq : ∀ q : Nat, q ≠ ad g c → H1[q]? = H[q]?)
    (ho : ∀ c', c' ≠ c → gI σ' c' = gI σ c' ∧ gL σ' c' = gL σ c' ∧ gR σ' c' = gR σ c') (hw : n = NF → WT σ') : Wc g n σ' H1 := by
  obtain ⟨a1, a2, ⟨a3, a5⟩, a4⟩ := h
  have hcl := cnt_le n
  have hx : ext n σ' = ext n σ := by unfold ext; rw [(ho 0 (by omega)).2.2]
  refine ⟨by rw [hz, hx]; exact a1, a2, ⟨fun c' g1 g2 => ?_, fun i hi => ?_⟩, hw⟩
  rotate_left
  · rw [hx] at hi
    obtain ⟨x1, x2, x3⟩ := ho (2000 + i) (by omega)
    rw [lawE_congr x1 x3]
    refine (a5 i hi).kept (oq _ ?_)
    unfold ext at hi
    split at hi
    · next hn =>
      subst hn
      have := h1.2
      rw [show cnt 73 = 72 from rfl] at this
      rw [ad_law, ad_lt g (by omega)]; omega
    · exact absurd hi (Nat.not_lt_zero _)
  by_cases hc : c' = c
  · subst hc; rw [he]; exact hat
  · obtain ⟨x1, x2, x3⟩ := ho c' hc
    rw [cellE_congr x1 x2 x3]
    exact (a3 c' g1 g2).kept (oq _ (ad_ne g (by omega) (by omega) hc))
abbrev MM : Type := MethodName × ByteArray × Nat × Option FieldType × Room
def Cx (M : MM) (p : Program) (s : State) (m : MethodId) (args : Array Value) (meth : Method) (c : Code) : Prop :=
  p.tables.exec = Jvm.exec ∧ c.code = M.2.1 ∧ c.maxLocals = M.2.2.1 ∧ s.vm.findClass M.1.cls = some m.cls ∧ (∀ w ∈ lw_gt, w.before args s = true) ∧ meth.sig.returnType = M.2.2.2.1 ∧ meth.locks = false ∧ meth.name = M.1.name
/-- THE JUDGEMENT: from this place of a method, with these locals and this stack, over this store, the machine comes to what F says -/
def RR (g : GG) (M : MM) (F : State → Array Value → List Frame → State → Prop) (z : Nat × Nat × Nat) (pc : Nat) (ls : List (Nat × Value)) (st : List Value) (σ : SS) : Prop :=
  ∀ (p : Program) (e : Env) (s : State) (m : MethodId) (args : Array Value) (below : List Frame) (meth : Method) (c : Code) (H : Heap) (locs : List Loc) (lsA : Array Slot),
    Cx M p s m args meth c → Wc g z.1 σ H → Ko g s → va_S (AA g) s.heap H locs → (∀ q, s.heap.size ≤ q → AA g q) → lv_has lsA M.2.2.1 ls →
    W p g.1 e M.2.2.2.2 s m args below meth c H locs z.2.1 z.2.2 (F s args below) (F0 m pc lsA st)
/-- a method's end: it answers o, the store is σ', of n cells -/
def FinR (g : GG) (M : MM) (o : Option Value) (n : Nat) (σ' : SS) : State → Array Value → List Frame → State → Prop := fun s args below =>
  MQ below (fun _ st oc t => oc = .returned o ∧ Wc g n σ' t.heap ∧ va_F (AA g) st t) args s M.2.2.2.2.cells M.2.2.2.2.slots (AA g)
/-- A METHOD'S CONTRACT -/
def Ct (g : GG) (M : MM) (av : List Value) (n : Nat) (σ : SS) (o : Option Value) (n' : Nat) (σ' : SS) : Prop :=
  Met g.1 M.1 (.code M.1 M.2.1 M.2.2.1 M.2.2.2.1 :: lw_gt) M.2.2.2.2 (va_Pc av (fun U => Wc g n σ U.heap ∧ Ko g U ∧ (∀ q, U.heap.size ≤ q → AA g q))) (fun _ st oc t => oc = .returned o ∧ Wc g n' σ' t.heap ∧ va_F (AA g) st t) M.2.2.2.2.cells M.2.2.2.2.slots (AA g)
section ROWS
variable {g : GG} {M : MM} {F : State → Array Value → List Frame → State → Prop} {z : Nat × Nat × Nat} {pc : Nat} {ls : List (Nat × Value)} {rest : List Value} {σ : SS}

theorem r_iadd {x y : Int32} (hd : decode M.2.1 pc = .ok (.iadd, 1)) (k : RR g M F z (pc + 1) ls (.int (x + y) :: rest) σ) : RR g M F z pc ls (.int y :: .int x :: rest) σ := fun _ _ _ _ _ _ _ _ _ _ _ C w o v a l => lv_iadd C.1 C.2.1 hd (k _ _ _ _ _ _ _ _ _ _ _ C w o v a l)
theorem r_isub {x y : Int32} (hd : decode M.2.1 pc = .ok (.isub, 1)) (k : RR g M F z (pc + 1) ls (.int (x - y) :: rest) σ) : RR g M F z pc ls (.int y :: .int x :: rest) σ := fun _ _ _ _ _ _ _ _ _ _ _ C w o v a l => lv_isub C.1 C.2.1 hd (k _ _ _ _ _ _ _ _ _ _ _ C w o v a l)
theorem r_imul {x y : Int32} (hd : decode M.2.1 pc = .ok (.imul, 1)) (k : RR g M F z (pc + 1) ls (.int (x * y) :: rest) σ) : RR g M F z pc ls (.int y :: .int x :: rest) σ := fun _ _ _ _ _ _ _ _ _ _ _ C w o v a l => lv_imul C.1 C.2.1 hd (k _ _ _ _ _ _ _ _ _ _ _ C w o v a l)
theorem r_iand {x y : Int32} (hd : decode M.2.1 pc = .ok (.iand, 1)) (k : RR g M F z (pc + 1) ls (.int (x &&& y) :: rest) σ) : RR g M F z pc ls (.int y :: .int x :: rest) σ := fun _ _ _ _ _ _ _ _ _ _ _ C w o v a l => lv_iand C.1 C.2.1 hd (k _ _ _ _ _ _ _ _ _ _ _ C w o v a l)
theorem r_ior {x y : Int32} (hd : decode M.2.1 pc = .ok (.ior, 1)) (k : RR g M F z (pc + 1) ls (.int (x ||| y) :: rest) σ) : RR g M F z pc ls (.int y :: .int x :: rest) σ := fun _ _ _ _ _ _ _ _ _ _ _ C w o v a l => lv_ior C.1 C.2.1 hd (k _ _ _ _ _ _ _ _ _ _ _ C w o v a l)
theorem r_ixor {x y : Int32} (hd : decode M.2.1 pc = .ok (.ixor, 1)) (k : RR g M F z (pc + 1) ls (.int (x ^^^ y) :: rest) σ) : RR g M F z pc ls (.int y :: .int x :: rest) σ := fun _ _ _ _ _ _ _ _ _ _ _ C w o v a l => lv_ixor C.1 C.2.1 hd (k _ _ _ _ _ _ _ _ _ _ _ C w o v a l)
theorem r_ineg {x : Int32} (hd : decode M.2.1 pc = .ok (.ineg, 1)) (k : RR g M F z (pc + 1) ls (.int (-x) :: rest) σ) : RR g M F z pc ls (.int x :: rest) σ := fun _ _ _ _ _ _ _ _ _ _ _ C w o v a l => lv_ineg C.1 C.2.1 hd (k _ _ _ _ _ _ _ _ _ _ _ C w o v a l)
theorem r_ladd {x y : Int64} (hd : decode M.2.1 pc = .ok (.ladd, 1)) (k : RR g M F z (pc + 1) ls (.long (x + y) :: rest) σ) : RR g M F z pc ls (.long y :: .long x :: rest) σ := fun _ _ _ _ _ _ _ _ _ _ _ C w o v a l => lv_ladd C.1 C.2.1 hd (k _ _ _ _ _ _ _ _ _ _ _ C w o v a l)
theorem r_lsub {x y : Int64} (hd : decode M.2.1 pc = .ok (.lsub, 1)) (k : RR g M F z (pc + 1) ls (.long (x - y) :: rest) σ) : RR g M F z pc ls (.long y :: .long x :: rest) σ := fun _ _ _ _ _ _ _ _ _ _ _ C w o v a l => lv_lsub C.1 C.2.1 hd (k _ _ _ _ _ _ _ _ _ _ _ C w o v a l)
theorem r_lmul {x y : Int64} (hd : decode M.2.1 pc = .ok (.lmul, 1)) (k : RR g M F z (pc + 1) ls (.long (x * y) :: rest) σ) : RR g M F z pc ls (.long y :: .long x :: rest) σ := fun _ _ _ _ _ _ _ _ _ _ _ C w o v a l => lv_lmul C.1 C.2.1 hd (k _ _ _ _ _ _ _ _ _ _ _ C w o v a l)
theorem r_lneg {x : Int64} (hd : decode M.2.1 pc = .ok (.lneg, 1)) (k : RR g M F z (pc + 1) ls (.long (-x) :: rest) σ) : RR g M F z pc ls (.long x :: rest) σ := fun _ _ _ _ _ _ _ _ _ _ _ C w o v a l => lv_lneg C.1 C.2.1 hd (k _ _ _ _ _ _ _ _ _ _ _ C w o v a l)
theorem r_ishl {x y : Int32} (hd : decode M.2.1 pc = .ok (.ishl, 1)) (k : RR g M F z (pc + 1) ls (.int (x <<< (y &&& 31)) :: rest) σ) : RR g M F z pc ls (.int y :: .int x :: rest) σ := fun _ _ _ _ _ _ _ _ _ _ _ C w o v a l => lv_ishl C.1 C.2.1 hd (k _ _ _ _ _ _ _ _ _ _ _ C w o v a l)
theorem r_ishr {x y : Int32} (hd : decode M.2.1 pc = .ok (.ishr, 1)) (k : RR g M F z (pc + 1) ls (.int (x >>> (y &&& 31)) :: rest) σ) : RR g M F z pc ls (.int y :: .int x :: rest) σ := fun _ _ _ _ _ _ _ _ _ _ _ C w o v a l => lv_ishr C.1 C.2.1 hd (k _ _ _ _ _ _ _ _ _ _ _ C w o v a l)
theorem r_lcmp {x y : Int64} (hd : decode M.2.1 pc = .ok (.lcmp, 1)) (k : RR g M F z (pc + 1) ls (.int (lg_cmp x y) :: rest) σ) : RR g M F z pc ls (.long y :: .long x :: rest) σ := fun _ _ _ _ _ _ _ _ _ _ _ C w o v a l => W.lcmp C.1 C.2.1 hd (k _ _ _ _ _ _ _ _ _ _ _ C w o v a l)
theorem r_idiv {x y : Int32} (hd : decode M.2.1 pc = .ok (.idiv, 1)) (h : ¬ y = 0) (k : RR g M F z (pc + 1) ls (.int (x / y) :: rest) σ) : RR g M F z pc ls (.int y :: .int x :: rest) σ := fun _ _ _ _ _ _ _ _ _ _ _ C w o v a l => lv_idiv C.1 C.2.1 hd h (k _ _ _ _ _ _ _ _ _ _ _ C w o v a l)
theorem r_irem {x y : Int32} (hd : decode M.2.1 pc = .ok (.irem, 1)) (h : ¬ y = 0) (k : RR g M F z (pc + 1) ls (.int (irm x y) :: rest) σ) : RR g M F z pc ls (.int y :: .int x :: rest) σ := fun _ _ _ _ _ _ _ _ _ _ _ C w o v a l => lv_irem C.1 C.2.1 hd h (k _ _ _ _ _ _ _ _ _ _ _ C w o v a l)
theorem r_ldiv {x y : Int64} (hd : decode M.2.1 pc = .ok (.ldiv, 1)) (h : ¬ y = 0) (k : RR g M F z (pc + 1) ls (.long (x / y) :: rest) σ) : RR g M F z pc ls (.long y :: .long x :: rest) σ := fun _ _ _ _ _ _ _ _ _ _ _ C w o v a l => lv_ldiv C.1 C.2.1 hd h (k _ _ _ _ _ _ _ _ _ _ _ C w o v a l)
theorem r_lrem {x y : Int64} (hd : decode M.2.1 pc = .ok (.lrem, 1)) (h : ¬ y = 0) (k : RR g M F z (pc + 1) ls (.long (lrm x y) :: rest) σ) : RR g M F z pc ls (.long y :: .long x :: rest) σ := fun _ _ _ _ _ _ _ _ _ _ _ C w o v a l => lv_lrem C.1 C.2.1 hd h (k _ _ _ _ _ _ _ _ _ _ _ C w o v a l)
theorem r_iushr {x y : Int32} (hd : decode M.2.1 pc = .ok (.iushr, 1)) (k : RR g M F z (pc + 1) ls (.int ((x.toUInt32 >>> (y.toUInt32 &&& Int32.toUInt32 31)).toInt32) :: rest) σ) : RR g M F z pc ls (.int y :: .int x :: rest) σ := fun _ _ _ _ _ _ _ _ _ _ _ C w o v a l => lv_iushr C.1 C.2.1 hd rfl (k _ _ _ _ _ _ _ _ _ _ _ C w o v a l)
theorem r_i2l {x : Int32} (hd : decode M.2.1 pc = .ok (.i2l, 1)) (k : RR g M F z (pc + 1) ls (.long x.toInt64 :: rest) σ) : RR g M F z pc ls (.int x :: rest) σ := fun _ _ _ _ _ _ _ _ _ _ _ C w o v a l => lv_i2l C.1 C.2.1 hd rfl (k _ _ _ _ _ _ _ _ _ _ _ C w o v a l)
theorem r_l2i {x : Int64} (hd : decode M.2.1 pc = .ok (.l2i, 1)) (k : RR g M F z (pc + 1) ls (.int x.toInt32 :: rest) σ) : RR g M F z pc ls (.long x :: rest) σ := fun _ _ _ _ _ _ _ _ _ _ _ C w o v a l => lv_l2i C.1 C.2.1 hd rfl (k _ _ _ _ _ _ _ _ _ _ _ C w o v a l)
theorem r_i2b {x : Int32} (hd : decode M.2.1 pc = .ok (.i2b, 1)) (k : RR g M F z (pc + 1) ls (.int x.toInt8.toInt32 :: rest) σ) : RR g M F z pc ls (.int x :: rest) σ := fun _ _ _ _ _ _ _ _ _ _ _ C w o v a l => lv_i2b C.1 C.2.1 hd rfl (k _ _ _ _ _ _ _ _ _ _ _ C w o v a l)
theorem r_iconst {n : Int} {v : Int32} (hd : decode M.2.1 pc = .ok (.iconst n, 1)) (hv : Int32.ofInt n = v) (k : RR g M F z (pc + 1) ls (.int v :: rest) σ) : RR g M F z pc ls rest σ := fun _ _ _ _ _ _ _ _ _ _ _ C w o v a l => lv_iconst C.1 C.2.1 hd hv (k _ _ _ _ _ _ _ _ _ _ _ C w o v a l)
theorem r_bipush {n : Int} {v : Int32} (hd : decode M.2.1 pc = .ok (.bipush n, 2)) (hv : (Int8.ofInt n).toInt32 = v) (k : RR g M F z (pc + 2) ls (.int v :: rest) σ) : RR g M F z pc ls rest σ := fun _ _ _ _ _ _ _ _ _ _ _ C w o v a l => lv_bipush C.1 C.2.1 hd hv (k _ _ _ _ _ _ _ _ _ _ _ C w o v a l)
theorem r_sipush {n : Int} {v : Int32} (hd : decode M.2.1 pc = .ok (.sipush n, 3)) (hv : (Int16.ofInt n).toInt32 = v) (k : RR g M F z (pc + 3) ls (.int v :: rest) σ) : RR g M F z pc ls rest σ := fun _ _ _ _ _ _ _ _ _ _ _ C w o v a l => lv_sipush C.1 C.2.1 hd hv (k _ _ _ _ _ _ _ _ _ _ _ C w o v a l)
theorem r_lconst {n : Fin 2} {v : Int64} (hd : decode M.2.1 pc = .ok (.lconst n, 1)) (hv : Int64.ofNat (n : Nat) = v) (k : RR g M F z (pc + 1) ls (.long v :: rest) σ) : RR g M F z pc ls rest σ := fun _ _ _ _ _ _ _ _ _ _ _ C w o v a l => lv_lconst C.1 C.2.1 hd hv (k _ _ _ _ _ _ _ _ _ _ _ C w o v a l)
theorem r_iload_n {kk : Fin 4} {i j : Nat} {x : Int32} (hd : decode M.2.1 pc = .ok (.iload_n kk, 1)) (hi : (kk : Nat) = i) (hl : ls[j]? = some (i, .int x)) (k : RR g M F z (pc + 1) ls (.int x :: rest) σ) : RR g M F z pc ls rest σ := fun _ _ _ _ _ _ _ _ _ _ _ C w o v a l => lv_iload_n C.1 C.2.1 hd hi (lv_at l j hl) (k _ _ _ _ _ _ _ _ _ _ _ C w o v a l)
theorem r_iload {i j : Nat} {x : Int32} (hd : decode M.2.1 pc = .ok (.iload i, 2)) (hl : ls[j]? = some (i, .int x)) (k : RR g M F z (pc + 2) ls (.int x :: rest) σ) : RR g M F z pc ls rest σ := fun _ _ _ _ _ _ _ _ _ _ _ C w o v a l => lv_iload C.1 C.2.1 hd (lv_at l j hl) (k _ _ _ _ _ _ _ _ _ _ _ C w o v a l)
theorem r_lload_n {kk : Fin 4} {i j : Nat} {x : Int64} (hd : decode M.2.1 pc = .ok (.lload_n kk, 1)) (hi : (kk : Nat) = i) (hl : ls[j]? = some (i, .long x)) (k : RR g M F z (pc + 1) ls (.long x :: rest) σ) : RR g M F z pc ls rest σ := fun _ _ _ _ _ _ _ _ _ _ _ C w o v a l => lv_lload_n C.1 C.2.1 hd hi (lv_at l j hl) (k _ _ _ _ _ _ _ _ _ _ _ C w o v a l)
theorem r_lload {i j : Nat} {x : Int64} (hd : decode M.2.1 pc = .ok (.lload i, 2)) (hl : ls[j]? = some (i, .long x)) (k : RR g M F z (pc + 2) ls (.long x :: rest) σ) : RR g M F z pc ls rest σ := fun _ _ _ _ _ _ _ _ _ _ _ C w o v a l => lv_lload C.1 C.2.1 hd (lv_at l j hl) (k _ _ _ _ _ _ _ _ _ _ _ C w o v a l)
theorem r_aload_n {kk : Fin 4} {i j : Nat} {x : Nat} (hd : decode M.2.1 pc = .ok (.aload_n kk, 1)) (hi : (kk : Nat) = i) (hl : ls[j]? = some (i, .ref x)) (k : RR g M F z (pc + 1) ls (.ref x :: rest) σ) : RR g M F z pc ls rest σ := fun _ _ _ _ _ _ _ _ _ _ _ C w o v a l => lv_aload_n C.1 C.2.1 hd hi (lv_at l j hl) (k _ _ _ _ _ _ _ _ _ _ _ C w o v a l)
theorem r_aload {i j : Nat} {x : Nat} (hd : decode M.2.1 pc = .ok (.aload i, 2)) (hl : ls[j]? = some (i, .ref x)) (k : RR g M F z (pc + 2) ls (.ref x :: rest) σ) : RR g M F z pc ls rest σ := fun _ _ _ _ _ _ _ _ _ _ _ C w o v a l => lv_aload C.1 C.2.1 hd (lv_at l j hl) (k _ _ _ _ _ _ _ _ _ _ _ C w o v a l)
theorem r_istore_n {kk : Fin 4} {i : Nat} {x : Int32} {ls1 : List (Nat × Value)} (hd : decode M.2.1 pc = .ok (.istore_n kk, 1)) (hi : (kk : Nat) = i) (hn : i < M.2.2.1) (hl : (i, Value.int x) :: ls.filter (fun q => !(q.1 == i) && !(q.1 + 1 == i && q.2.category == 2)) = ls1) (k : RR g M F z (pc + 1) ls1 rest σ) : RR g M F z pc ls (.int x :: rest) σ := fun _ _ _ _ _ _ _ _ _ _ _ C w o v a l => lv_istore_n C.1 C.2.1 hd hi l hn hl (fun _ l2 => k _ _ _ _ _ _ _ _ _ _ _ C w o v a l2)
theorem r_istore {i : Nat} {x : Int32} {ls1 : List (Nat × Value)} (hd : decode M.2.1 pc = .ok (.istore i, 2)) (hn : i < M.2.2.1) (hl : (i, Value.int x) :: ls.filter (fun q => !(q.1 == i) && !(q.1 + 1 == i && q.2.category == 2)) = ls1) (k : RR g M F z (pc + 2) ls1 rest σ) : RR g M F z pc ls (.int x :: rest) σ := fun _ _ _ _ _ _ _ _ _ _ _ C w o v a l => lv_istore C.1 C.2.1 hd l hn hl (fun _ l2 => k _ _ _ _ _ _ _ _ _ _ _ C w o v a l2)
theorem r_lstore_n {kk : Fin 4} {i : Nat} {x : Int64} {ls1 : List (Nat × Value)} (hd : decode M.2.1 pc = .ok (.lstore_n kk, 1)) (hi : (kk : Nat) = i) (hn : i + 1 < M.2.2.1) (hl : (i, Value.long x) :: ls.filter (fun q => !(q.1 == i) && (!(q.1 == i + 1) && !(q.1 + 1 == i && q.2.category == 2))) = ls1) (k : RR g M F z (pc + 1) ls1 rest σ) : RR g M F z pc ls (.long x :: rest) σ := fun _ _ _ _ _ _ _ _ _ _ _ C w o v a l => lv_lstore_n C.1 C.2.1 hd hi l hn hl (fun _ l2 => k _ _ _ _ _ _ _ _ _ _ _ C w o v a l2)
theorem r_lstore {i : Nat} {x : Int64} {ls1 : List (Nat × Value)} (hd : decode M.2.1 pc = .ok (.lstore i, 2)) (hn : i + 1 < M.2.2.1) (hl : (i, Value.long x) :: ls.filter (fun q => !(q.1 == i) && (!(q.1 == i + 1) && !(q.1 + 1 == i && q.2.category == 2))) = ls1) (k : RR g M F z (pc + 2) ls1 rest σ) : RR g M F z pc ls (.long x :: rest) σ := fun _ _ _ _ _ _ _ _ _ _ _ C w o v a l => lv_lstore C.1 C.2.1 hd l hn hl (fun _ l2 => k _ _ _ _ _ _ _ _ _ _ _ C w o v a l2)
theorem r_astore_n {kk : Fin 4} {i : Nat} {x : Nat} {ls1 : List (Nat × Value)} (hd : decode M.2.1 pc = .ok (.astore_n kk, 1)) (hi : (kk : Nat) = i) (hn : i < M.2.2.1) (hl : (i, Value.ref x) :: ls.filter (fun q => !(q.1 == i) && !(q.1 + 1 == i && q.2.category == 2)) = ls1) (k : RR g M F z (pc + 1) ls1 rest σ) : RR g M F z pc ls (.ref x :: rest) σ := fun _ _ _ _ _ _ _ _ _ _ _ C w o v a l => lv_astore_n C.1 C.2.1 hd hi l hn hl (fun _ l2 => k _ _ _ _ _ _ _ _ _ _ _ C w o v a l2)
theorem r_astore {i : Nat} {x : Nat} {ls1 : List (Nat × Value)} (hd : decode M.2.1 pc = .ok (.astore i, 2)) (hn : i < M.2.2.1) (hl : (i, Value.ref x) :: ls.filter (fun q => !(q.1 == i) && !(q.1 + 1 == i && q.2.category == 2)) = ls1) (k : RR g M F z (pc + 2) ls1 rest σ) : RR g M F z pc ls (.ref x :: rest) σ := fun _ _ _ _ _ _ _ _ _ _ _ C w o v a l => lv_astore C.1 C.2.1 hd l hn hl (fun _ l2 => k _ _ _ _ _ _ _ _ _ _ _ C w o v a l2)
theorem r_iinc {i j : Nat} {n : Int} {x v : Int32} {ls1 : List (Nat × Value)} (hd : decode M.2.1 pc = .ok (.iinc i n, 3)) (hk : ls[j]? = some (i, .int x)) (hv : x + Int32.ofInt n = v) (hn : i < M.2.2.1) (hl : (i, Value.int v) :: ls.filter (fun q => !(q.1 == i) && !(q.1 + 1 == i && q.2.category == 2)) = ls1) (k : RR g M F z (pc + 3) ls1 rest σ) : RR g M F z pc ls rest σ := fun _ _ _ _ _ _ _ _ _ _ _ C w o v a l => lv_iinc C.1 C.2.1 hd l hk hv hn hl (fun _ l2 => k _ _ _ _ _ _ _ _ _ _ _ C w o v a l2)
theorem r_dup {va : Value} (hd : decode M.2.1 pc = .ok (.dup, 1)) (hc : va.category = 1) (k : RR g M F z (pc + 1) ls (va :: va :: rest) σ) : RR g M F z pc ls (va :: rest) σ := fun _ _ _ _ _ _ _ _ _ _ _ C w o v a l => lv_dup C.1 C.2.1 hd hc (k _ _ _ _ _ _ _ _ _ _ _ C w o v a l)
theorem r_dup2 {va vb : Value} (hd : decode M.2.1 pc = .ok (.dup2, 1)) (hc : va.category = 1) (hc2 : vb.category = 1) (k : RR g M F z (pc + 1) ls (va :: vb :: va :: vb :: rest) σ) : RR g M F z pc ls (va :: vb :: rest) σ := fun _ _ _ _ _ _ _ _ _ _ _ C w o v a l => lv_dup2_11 C.1 C.2.1 hd hc hc2 (k _ _ _ _ _ _ _ _ _ _ _ C w o v a l)
theorem r_pop {va : Value} (hd : decode M.2.1 pc = .ok (.pop, 1)) (hc : va.category = 1) (k : RR g M F z (pc + 1) ls rest σ) : RR g M F z pc ls (va :: rest) σ := fun _ _ _ _ _ _ _ _ _ _ _ C w o v a l => lv_pop C.1 C.2.1 hd hc (k _ _ _ _ _ _ _ _ _ _ _ C w o v a l)
theorem r_if_eq {x : Int32} {off : Int} {tgt : Nat} (hd : decode M.2.1 pc = .ok (.ifCond .eq off, 3)) (ht : (pc : Int) + off = (tgt : Int)) (kt : x = 0 → RR g M F z tgt ls rest σ) (kf : ¬ x = 0 → RR g M F z (pc + 3) ls rest σ) : RR g M F z pc ls (.int x :: rest) σ := fun _ _ _ _ _ _ _ _ _ _ _ C w o v a l => lv_if_eq C.1 C.2.1 hd ht (fun h => kt h _ _ _ _ _ _ _ _ _ _ _ C w o v a l) (fun h => kf h _ _ _ _ _ _ _ _ _ _ _ C w o v a l)
theorem r_icmp_eq {x y : Int32} {off : Int} {tgt : Nat} (hd : decode M.2.1 pc = .ok (.if_icmp .eq off, 3)) (ht : (pc : Int) + off = (tgt : Int)) (kt : x = y → RR g M F z tgt ls rest σ) (kf : ¬ x = y → RR g M F z (pc + 3) ls rest σ) : RR g M F z pc ls (.int y :: .int x :: rest) σ := fun _ _ _ _ _ _ _ _ _ _ _ C w o v a l => lv_icmp_eq C.1 C.2.1 hd ht (fun h => kt h _ _ _ _ _ _ _ _ _ _ _ C w o v a l) (fun h => kf h _ _ _ _ _ _ _ _ _ _ _ C w o v a l)
theorem r_if_lt {x : Int32} {off : Int} {tgt : Nat} (hd : decode M.2.1 pc = .ok (.ifCond .lt off, 3)) (ht : (pc : Int) + off = (tgt : Int)) (kt : x < 0 → RR g M F z tgt ls rest σ) (kf : ¬ x < 0 → RR g M F z (pc + 3) ls rest σ) : RR g M F z pc ls (.int x :: rest) σ := fun _ _ _ _ _ _ _ _ _ _ _ C w o v a l => lv_if_lt C.1 C.2.1 hd ht (fun h => kt h _ _ _ _ _ _ _ _ _ _ _ C w o v a l) (fun h => kf h _ _ _ _ _ _ _ _ _ _ _ C w o v a l)
theorem r_icmp_lt {x y : Int32} {off : Int} {tgt : Nat} (hd : decode M.2.1 pc = .ok (.if_icmp .lt off, 3)) (ht : (pc : Int) + off = (tgt : Int)) (kt : x < y → RR g M F z tgt ls rest σ) (kf : ¬ x < y → RR g M F z (pc + 3) ls rest σ) : RR g M F z pc ls (.int y :: .int x :: rest) σ := fun _ _ _ _ _ _ _ _ _ _ _ C w o v a l => lv_icmp_lt C.1 C.2.1 hd ht (fun h => kt h _ _ _ _ _ _ _ _ _ _ _ C w o v a l) (fun h => kf h _ _ _ _ _ _ _ _ _ _ _ C w o v a l)
theorem r_if_ge {x : Int32} {off : Int} {tgt : Nat} (hd : decode M.2.1 pc = .ok (.ifCond .ge off, 3)) (ht : (pc : Int) + off = (tgt : Int)) (kt : 0 ≤ x → RR g M F z tgt ls rest σ) (kf : ¬ 0 ≤ x → RR g M F z (pc + 3) ls rest σ) : RR g M F z pc ls (.int x :: rest) σ := fun _ _ _ _ _ _ _ _ _ _ _ C w o v a l => lv_if_ge C.1 C.2.1 hd ht (fun h => kt h _ _ _ _ _ _ _ _ _ _ _ C w o v a l) (fun h => kf h _ _ _ _ _ _ _ _ _ _ _ C w o v a l)
theorem r_icmp_ge {x y : Int32} {off : Int} {tgt : Nat} (hd : decode M.2.1 pc = .ok (.if_icmp .ge off, 3)) (ht : (pc : Int) + off = (tgt : Int)) (kt : y ≤ x → RR g M F z tgt ls rest σ) (kf : ¬ y ≤ x → RR g M F z (pc + 3) ls rest σ) : RR g M F z pc ls (.int y :: .int x :: rest) σ := fun _ _ _ _ _ _ _ _ _ _ _ C w o v a l => lv_icmp_ge C.1 C.2.1 hd ht (fun h => kt h _ _ _ _ _ _ _ _ _ _ _ C w o v a l) (fun h => kf h _ _ _ _ _ _ _ _ _ _ _ C w o v a l)
theorem r_if_gt {x : Int32} {off : Int} {tgt : Nat} (hd : decode M.2.1 pc = .ok (.ifCond .gt off, 3)) (ht : (pc : Int) + off = (tgt : Int)) (kt : 0 < x → RR g M F z tgt ls rest σ) (kf : ¬ 0 < x → RR g M F z (pc + 3) ls rest σ) : RR g M F z pc ls (.int x :: rest) σ := fun _ _ _ _ _ _ _ _ _ _ _ C w o v a l => lv_if_gt C.1 C.2.1 hd ht (fun h => kt h _ _ _ _ _ _ _ _ _ _ _ C w o v a l) (fun h => kf h _ _ _ _ _ _ _ _ _ _ _ C w o v a l)
theorem r_icmp_gt {x y : Int32} {off : Int} {tgt : Nat} (hd : decode M.2.1 pc = .ok (.if_icmp .gt off, 3)) (ht : (pc : Int) + off = (tgt : Int)) (kt : y < x → RR g M F z tgt ls rest σ) (kf : ¬ y < x → RR g M F z (pc + 3) ls rest σ) : RR g M F z pc ls (.int y :: .int x :: rest) σ := fun _ _ _ _ _ _ _ _ _ _ _ C w o v a l => lv_icmp_gt C.1 C.2.1 hd ht (fun h => kt h _ _ _ _ _ _ _ _ _ _ _ C w o v a l) (fun h => kf h _ _ _ _ _ _ _ _ _ _ _ C w o v a l)
theorem r_if_le {x : Int32} {off : Int} {tgt : Nat} (hd : decode M.2.1 pc = .ok (.ifCond .le off, 3)) (ht : (pc : Int) + off = (tgt : Int)) (kt : x ≤ 0 → RR g M F z tgt ls rest σ) (kf : ¬ x ≤ 0 → RR g M F z (pc + 3) ls rest σ) : RR g M F z pc ls (.int x :: rest) σ := fun _ _ _ _ _ _ _ _ _ _ _ C w o v a l => lv_if_le C.1 C.2.1 hd ht (fun h => kt h _ _ _ _ _ _ _ _ _ _ _ C w o v a l) (fun h => kf h _ _ _ _ _ _ _ _ _ _ _ C w o v a l)
theorem r_icmp_le {x y : Int32} {off : Int} {tgt : Nat} (hd : decode M.2.1 pc = .ok (.if_icmp .le off, 3)) (ht : (pc : Int) + off = (tgt : Int)) (kt : x ≤ y → RR g M F z tgt ls rest σ) (kf : ¬ x ≤ y → RR g M F z (pc + 3) ls rest σ) : RR g M F z pc ls (.int y :: .int x :: rest) σ := fun _ _ _ _ _ _ _ _ _ _ _ C w o v a l => lv_icmp_le C.1 C.2.1 hd ht (fun h => kt h _ _ _ _ _ _ _ _ _ _ _ C w o v a l) (fun h => kf h _ _ _ _ _ _ _ _ _ _ _ C w o v a l)
theorem r_if_ne {x : Int32} {off : Int} {tgt : Nat} (hd : decode M.2.1 pc = .ok (.ifCond .ne off, 3)) (ht : (pc : Int) + off = (tgt : Int)) (kt : ¬ x = 0 → RR g M F z tgt ls rest σ) (kf : x = 0 → RR g M F z (pc + 3) ls rest σ) : RR g M F z pc ls (.int x :: rest) σ := fun _ _ _ _ _ _ _ _ _ _ _ C w o v a l => lv_if_ne C.1 C.2.1 hd ht (fun h => kt h _ _ _ _ _ _ _ _ _ _ _ C w o v a l) (fun h => kf h _ _ _ _ _ _ _ _ _ _ _ C w o v a l)
theorem r_icmp_ne {x y : Int32} {off : Int} {tgt : Nat} (hd : decode M.2.1 pc = .ok (.if_icmp .ne off, 3)) (ht : (pc : Int) + off = (tgt : Int)) (kt : ¬ x = y → RR g M F z tgt ls rest σ) (kf : x = y → RR g M F z (pc + 3) ls rest σ) : RR g M F z pc ls (.int y :: .int x :: rest) σ := fun _ _ _ _ _ _ _ _ _ _ _ C w o v a l => lv_icmp_ne C.1 C.2.1 hd ht (fun h => kt h _ _ _ _ _ _ _ _ _ _ _ C w o v a l) (fun h => kf h _ _ _ _ _ _ _ _ _ _ _ C w o v a l)
theorem r_goto {off : Int} {tgt : Nat} (hd : decode M.2.1 pc = .ok (.goto off, 3)) (ht : (pc : Int) + off = (tgt : Int)) (k : RR g M F z tgt ls rest σ) : RR g M F z pc ls rest σ := fun _ _ _ _ _ _ _ _ _ _ _ C w o v a l => lv_goto C.1 C.2.1 hd ht (k _ _ _ _ _ _ _ _ _ _ _ C w o v a l)
theorem r_tabIn {dflt lo hi : Int} {offs : Array Int} {len : Nat} {x : Int32} {off : Int} {tgt : Nat} (hd : decode M.2.1 pc = .ok (.tableswitch dflt lo hi offs, len)) (h1 : ¬ x.toInt < lo) (h2 : ¬ hi < x.toInt) (ho : offs[(x.toInt - lo).toNat]? = some off) (ht : (pc : Int) + off = (tgt : Int)) (k : RR g M F z tgt ls rest σ) : RR g M F z pc ls (.int x :: rest) σ := fun _ _ _ _ _ _ _ _ _ _ _ C w o v a l => lv_tableIn C.1 C.2.1 hd h1 h2 ho ht (k _ _ _ _ _ _ _ _ _ _ _ C w o v a l)
theorem r_tabOut {dflt lo hi : Int} {offs : Array Int} {len : Nat} {x : Int32} {tgt : Nat} (hd : decode M.2.1 pc = .ok (.tableswitch dflt lo hi offs, len)) (h : x.toInt < lo ∨ hi < x.toInt) (ht : (pc : Int) + dflt = (tgt : Int)) (k : RR g M F z tgt ls rest σ) : RR g M F z pc ls (.int x :: rest) σ := fun _ _ _ _ _ _ _ _ _ _ _ C w o v a l => lv_tableOut C.1 C.2.1 hd h ht (k _ _ _ _ _ _ _ _ _ _ _ C w o v a l)
theorem r_ldc {index : Nat} {v : Int32} (hd : decode M.2.1 pc = .ok (.ldc index, 2)) (hc : Jvm.Cond.constant M.1.cls index v ∈ lw_gt) (k : RR g M F z (pc + 2) ls (.int v :: rest) σ) : RR g M F z pc ls rest σ := fun _ _ _ _ _ _ _ _ _ _ _ C w o v a l => lv_ldc C.1 C.2.1 C.2.2.2.1 (C.2.2.2.2.1 _ hc) hd (k _ _ _ _ _ _ _ _ _ _ _ C w o v a l)
theorem r_ldcw {index : Nat} {v : Int32} (hd : decode M.2.1 pc = .ok (.ldc_w index, 3)) (hc : Jvm.Cond.constant M.1.cls index v ∈ lw_gt) (k : RR g M F z (pc + 3) ls (.int v :: rest) σ) : RR g M F z pc ls rest σ := fun _ _ _ _ _ _ _ _ _ _ _ C w o v a l => lv_ldcw C.1 C.2.1 C.2.2.2.1 (C.2.2.2.2.1 _ hc) hd (k _ _ _ _ _ _ _ _ _ _ _ C w o v a l)
theorem r_ldc2 {index : Nat} {v : Int64} (hd : decode M.2.1 pc = .ok (.ldc2_w index, 3)) (hc : Jvm.Cond.constantLong M.1.cls index v ∈ lw_gt) (k : RR g M F z (pc + 3) ls (.long v :: rest) σ) : RR g M F z pc ls rest σ := fun _ _ _ _ _ _ _ _ _ _ _ C w o v a l => lv_ldc2 C.1 C.2.1 C.2.2.2.1 (C.2.2.2.2.1 _ hc) hd (k _ _ _ _ _ _ _ _ _ _ _ C w o v a l)
theorem r_pick {ls1 : List (Nat × Value)} {st : List Value} (ks : List Nat) (hl : lv_pick ls ks = ls1) (k : RR g M F z pc ls1 st σ) : RR g M F z pc ls st σ := fun _ _ _ _ _ _ _ _ _ _ _ C w o v a l => k _ _ _ _ _ _ _ _ _ _ _ C w o v a (lv_sub l ks hl)
theorem ko_at {s : State} (o : Ko g s) {t : Nat} {q : ClassId × FieldType} (h : (tysG g)[t]? = some q) : (tysG g)[t]? = some q := h
/-- a field, by its class's table -/
theorem r_getf {ci N kf n index c0 : Nat} {C : String} {T : u_T} {v : Value} (hc : vwCl[ci]? = some (C, T, N)) (hin : ∀ w ∈ u_ws C T N, w ∈ lw_gt) (hk : kf < N) (hsc : (T kf).1 = C) (hl : Cond.fieldLink M.1.cls index C (T kf).2.1 (T kf).2.2.1 ∈ lw_gt)
    (hs : shp c0 = (ci, n)) (h9 : ci < 9) (hz : 1 ≤ c0 ∧ c0 ≤ cnt z.1) (hv : (fldsC g σ c0 ci)[kf]? = some v) (hd : decode M.2.1 pc = .ok (.getfield index, 3)) (k : RR g M F z (pc + 3) ls (v :: rest) σ) : RR g M F z pc ls (.ref (ad g c0) :: rest) σ :=
  fun _ _ _ _ _ _ _ _ _ _ _ C w o v a l => va_get C.1 C.2.1 C.2.2.2.2.1 hin C.2.2.2.1 o.1 (w.P hz (cellE_o hs h9)) 0 rfl hc kf hk (C.2.2.2.2.1 _ hl) (fun x hx => by rw [hsc] at hx; exact hx) hv hd (k _ _ _ _ _ _ _ _ _ _ _ C w o v a l)
theorem fldsC_at {σ : SS} {c ci k : Nat} (h : k < nfC ci) : (fldsC g σ c ci)[k]? = some (fval g σ c ci k) := by
  unfold fldsC; rw [List.getElem?_map, List.getElem?_range h]; rfl
theorem fldsC_set {σ σ' : SS} {c ci k : Nat} {v : Value} (hk : fval g σ' c ci k = v) (ho : ∀ j, j ≠ k → fval g σ' c ci j = fval g σ c ci j) (h : k < nfC ci) : (fldsC g σ c ci).set k v = fldsC g σ' c ci := by
  apply List.ext_getElem?
  intro j
  by_cases hj : j = k
  · subst hj
    rw [List.getElem?_set_self (by unfold fldsC; rw [List.length_map, List.length_range]; exact h), fldsC_at h, hk]
  · rw [List.getElem?_set_ne (Ne.symm hj)]
    unfold fldsC
    rw [List.getElem?_map, List.getElem?_map]
    cases hr : (List.range (nfC ci))[j]? with
    | none => rfl
    | some q =>
      have hq : q = j := by
        have hlt := (List.getElem?_eq_some_iff.mp hr).1
        rw [List.getElem?_eq_getElem hlt, List.getElem_range] at hr
        exact (Option.some.inj hr).symm
      subst hq
      show some _ = some _
      rw [ho q hj]
/-- a field that isn't final is written -/
theorem r_putf {ci N kf n index c0 : Nat} {C : String} {T : u_T} {ty0 : Nat → FieldType} {ty : FieldType} {v : Value} {σ1 : SS} (hc : vwCl[ci]? = some (C, T, N)) (hin : ∀ w ∈ u_ws C T N, w ∈ lw_gt) (hty : ∀ k, k < N → parseFieldDescriptor (T k).2.2.1 = some (ty0 k)) (hnm : ∀ a, a < N → ∀ b, b < N → a ≠ b → (T a).2.1 ≠ (T b).2.1) (hk : kf < N) (hsc : (T kf).1 = C) (hl : Cond.fieldLink M.1.cls index C (T kf).2.1 (T kf).2.2.1 ∈ lw_gt)
    (hfin : (T kf).2.2.2 = false) (hd0 : parseFieldDescriptor (T kf).2.2.1 = some ty) (hn : narrow ty v = v) (hfit : fits ty v = true) (hs : shp c0 = (ci, n)) (h9 : ci < 9) (hz : 1 ≤ c0 ∧ c0 ≤ cnt z.1) (hN : nfC ci = N)
    (hset : (fldsC g σ c0 ci).set kf v = fldsC g σ1 c0 ci) (ho : ∀ c', c' ≠ c0 → gI σ1 c' = gI σ c' ∧ gL σ1 c' = gL σ c' ∧ gR σ1 c' = gR σ c') (hw : z.1 = NF → WT σ → WT σ1)
    (hd : decode M.2.1 pc = .ok (.putfield index, 3)) (k : RR g M F z (pc + 3) ls rest σ1) : RR g M F z pc ls (v :: .ref (ad g c0) :: rest) σ := by
  intro p e s m args below meth c H locs lsA C w o va a l
  have hts := C.2.2.2.2.1
  have hlt : c0 < 1000 := Nat.lt_of_le_of_lt (Nat.le_trans hz.2 (cnt_le _)) w.2.1
  have hap := va_apart (own := M.1.cls) hts hin ty0 hty hnm o.1 hc
  obtain ⟨r, q0, cell, q1, q2, q3, q4⟩ := w.at hz (cellE_o hs h9)
  have hr : r = (_, T, N) := Option.some.inj (q0.symm.trans hc)
  subst hr
  obtain ⟨hS, hfc, kC, hkC, hkind⟩ := o.1.1 ci _ hc
  obtain ⟨cf, kf', fi, f, hi, hsl⟩ := hS kf hk
  have hlay := hts _ (hin _ (u_in_lay hk))
  unfold u_lay at hlay
  rw [if_neg (by rw [hfin]; decide)] at hlay
  have hst := (u_facts hfc hkC (u_lays hts hin hk) hi).1
  have h6 := u_store hfc hkC hkind hlay hi hd0 hn hfit
  have hi2 := hi
  rw [hsc] at hi2
  refine W.putK C.1 C.2.1 (f := f) ⟨C.2.2.2.1, hts _ hl, ⟨_, _, _, hi2⟩, hst⟩ (by rw [q2]; exact h6) q1 q3 (by rw [hsl]; exact k2_hasslot (q4 kf hk)) rfl rfl hd fun H' e1 e2 e3 => ?_
  rw [hsl] at e1 ⊢
  have hlen : kf < (fldsC g σ c0 ci).length := by unfold fldsC; rw [List.length_map, List.length_range, hN]; exact hk
  refine k _ _ _ _ _ _ _ _ _ _ _ C (w.set hz (cellE_o hs h9) ⟨_, hc, t_OB.to (V := updV (vp_V (fldsC g σ c0 ci)) kf v) ⟨_, e1, q2, q3, t_set q4 hap hk v⟩ (fun j _ => by rw [vp_updV_set hlen v j, hset])⟩ e2 e3 ho (fun hn => hw hn (w.2.2.2 hn))) o (va.put e2 e3 (ad_AA g hz.1 hlt)) a l
end ROWS
