/-! ===== polynomials as lists of (monomial, number) ===== -/
abbrev Tm : Type := Int × Int
def Srt (L : List Tm) : Prop := L.Pairwise (fun a b => a.1 < b.1)
def Red (p : Int) (L : List Tm) : Prop := ∀ t ∈ L, 0 < t.2 ∧ t.2 < p
def Red0 (p : Int) (L : List Tm) : Prop := ∀ t ∈ L, 0 ≤ t.2 ∧ t.2 < p
def Can (p : Int) (L : List Tm) : Prop := Srt L ∧ Red p L
def cf : List Tm → Int → Int
  | [], _ => 0
  | t :: L, k => (if t.1 = k then t.2 else 0) + cf L k
theorem cf_app (L M : List Tm) (k : Int) : cf (L ++ M) k = cf L k + cf M k := by
  induction L with
  | nil => simp [cf]
  | cons t L ih => simp only [List.cons_append, cf, ih]; omega
theorem cf_none {L : List Tm} {k : Int} (h : ∀ t ∈ L, t.1 ≠ k) : cf L k = 0 := by
  induction L with
  | nil => rfl
  | cons t L ih =>
    simp only [cf]
    rw [if_neg (h t List.mem_cons_self), ih (fun s hs => h s (List.mem_cons_of_mem _ hs))]
    omega
theorem Srt.tail {t : Tm} {L : List Tm} (h : Srt (t :: L)) : Srt L := (List.pairwise_cons.mp h).2
theorem Srt.head {t : Tm} {L : List Tm} (h : Srt (t :: L)) : ∀ s ∈ L, t.1 < s.1 := (List.pairwise_cons.mp h).1
theorem cf_hd {t : Tm} {L : List Tm} (h : Srt (t :: L)) : cf L t.1 = 0 := cf_none fun s hs => by have := h.head s hs; omega
theorem cf_lt {t : Tm} {L : List Tm} {k : Int} (h : Srt (t :: L)) (hk : k < t.1) : cf (t :: L) k = 0 :=
  cf_none fun s hs => by
    rcases List.mem_cons.mp hs with rfl | hs
    · omega
    · have := h.head s hs; omega
theorem Red.tail {p : Int} {t : Tm} {L : List Tm} (h : Red p (t :: L)) : Red p L := fun s hs => h s (List.mem_cons_of_mem _ hs)
theorem can_ext {p : Int} : ∀ {L M : List Tm}, Can p L → Can p M → (∀ k, cf L k % p = cf M k % p) → L = M
  | [], [], _, _, _ => rfl
  | [], b :: M, _, h2, h => by
    have h1 := h b.1
    have hb := h2.2 b List.mem_cons_self
    simp only [cf, if_true, cf_hd h2.1] at h1
    rw [Int.add_zero, Int.emod_eq_of_lt (by omega) hb.2, Int.zero_emod] at h1
    omega
  | a :: L, [], h1, _, h => by
    have h2 := h a.1
    have ha := h1.2 a List.mem_cons_self
    simp only [cf, if_true, cf_hd h1.1] at h2
    rw [Int.add_zero, Int.emod_eq_of_lt (by omega) ha.2, Int.zero_emod] at h2
    omega
  | a :: L, b :: M, h1, h2, h => by
    have ha := h1.2 a List.mem_cons_self
    have hb := h2.2 b List.mem_cons_self
    have e1 : cf (a :: L) a.1 = a.2 := by simp only [cf, if_true, cf_hd h1.1]; omega
    have e2 : cf (b :: M) b.1 = b.2 := by simp only [cf, if_true, cf_hd h2.1]; omega
    rcases Int.lt_trichotomy a.1 b.1 with hl | he | hg
    · have := h a.1
      rw [e1, cf_lt h2.1 hl, Int.emod_eq_of_lt (by omega) ha.2, Int.zero_emod] at this
      omega
    · have h3 := h a.1
      rw [e1, he, e2, Int.emod_eq_of_lt (by omega) ha.2, Int.emod_eq_of_lt (by omega) hb.2] at h3
      have hab : a = b := Prod.ext he h3
      subst hab
      congr 1
      refine can_ext ⟨h1.1.tail, h1.2.tail⟩ ⟨h2.1.tail, h2.2.tail⟩ (fun k => ?_)
      have hk := h k
      simp only [cf] at hk
      by_cases e : a.1 = k
      · subst e
        rw [cf_hd h1.1, cf_hd h2.1]
      · rw [if_neg e] at hk
        rw [show 0 + cf L k = cf L k by omega, show 0 + cf M k = cf M k by omega] at hk
        exact hk
    · have := h b.1
      rw [e2, cf_lt h1.1 hg, Int.emod_eq_of_lt (by omega) hb.2, Int.zero_emod] at this
      omega
-- a term more
def insT (p : Int) : List Tm → Int → Int → List Tm
  | [], m, v => [(m, v)]
  | t :: L, m, v => if t.1 < m then t :: insT p L m v else if t.1 = m then (t.1, (t.2 + v) % p) :: L else (m, v) :: t :: L
theorem ins_mem {p : Int} {m v : Int} : ∀ {L : List Tm} {t : Tm}, t ∈ insT p L m v → t.1 = m ∨ ∃ s ∈ L, s.1 = t.1
  | [], t, h => by
    rcases List.mem_singleton.mp h with rfl
    exact Or.inl rfl
  | a :: L, t, h => by
    unfold insT at h
    split at h
    · rcases List.mem_cons.mp h with rfl | h
      · exact Or.inr ⟨t, List.mem_cons_self, rfl⟩
      · rcases ins_mem h with h | ⟨s, hs, e⟩
        · exact Or.inl h
        · exact Or.inr ⟨s, List.mem_cons_of_mem _ hs, e⟩
    · split at h
      · rcases List.mem_cons.mp h with rfl | h
        · exact Or.inr ⟨a, List.mem_cons_self, rfl⟩
        · exact Or.inr ⟨t, List.mem_cons_of_mem _ h, rfl⟩
      · rcases List.mem_cons.mp h with rfl | h
        · exact Or.inl rfl
        · exact Or.inr ⟨t, h, rfl⟩
theorem ins_srt {p m v : Int} : ∀ {L : List Tm}, Srt L → Srt (insT p L m v)
  | [], _ => List.pairwise_singleton _ _
  | a :: L, h => by
    unfold insT
    split
    · refine List.pairwise_cons.mpr ⟨fun s hs => ?_, ins_srt h.tail⟩
      rcases ins_mem hs with e | ⟨r, hr, e⟩
      · omega
      · have := h.head r hr; omega
    · split
      · exact List.pairwise_cons.mpr ⟨fun s hs => h.head s hs, h.tail⟩
      · refine List.pairwise_cons.mpr ⟨fun s hs => ?_, h⟩
        rcases List.mem_cons.mp hs with rfl | hs
        · show m < s.1; omega
        · have := h.head s hs; show m < s.1; omega
theorem ins_cf {p m v k : Int} : ∀ {L : List Tm}, cf (insT p L m v) k % p = (cf L k + if m = k then v else 0) % p
  | [] => by simp only [insT, cf]; congr 1; omega
  | a :: L => by
    unfold insT
    split
    · simp only [cf]
      have := ins_cf (p := p) (m := m) (v := v) (k := k) (L := L)
      rw [Int.add_emod, this, ← Int.add_emod]
      congr 1; omega
    · split
      · rename_i h1 h2
        simp only [cf]
        by_cases hk : a.1 = k
        · rw [if_pos hk, if_pos hk, if_pos (by omega), Int.add_emod, Int.emod_emod, ← Int.add_emod]
          congr 1; omega
        · rw [if_neg hk, if_neg hk, if_neg (by omega)]
          congr 1; omega
      · simp only [cf]
        congr 1; omega
theorem ins_red {p m v : Int} (hp : 0 < p) (hv : 0 ≤ v ∧ v < p) : ∀ {L : List Tm}, Red0 p L → Red0 p (insT p L m v)
  | [], _ => fun t ht => by rcases List.mem_singleton.mp ht with rfl; exact hv
  | a :: L, h => by
    have hL : Red0 p L := fun s hs => h s (List.mem_cons_of_mem _ hs)
    unfold insT
    split
    · intro t ht
      rcases List.mem_cons.mp ht with rfl | ht
      · exact h t List.mem_cons_self
      · exact ins_red hp hv hL t ht
    · split
      · intro t ht
        rcases List.mem_cons.mp ht with rfl | ht
        · exact ⟨Int.emod_nonneg _ (by omega), Int.emod_lt_of_pos _ hp⟩
        · exact hL t ht
      · intro t ht
        rcases List.mem_cons.mp ht with rfl | ht
        · exact hv
        · exact h t ht
def heapT (p : Int) (L : List Tm) (m v : Int) : List Tm := if v = 0 then L else insT p L m v
def heapsL (p : Int) (L raw : List Tm) : List Tm := raw.foldl (fun L t => heapT p L t.1 t.2) L
theorem heapT_cf {p m v k : Int} {L : List Tm} : cf (heapT p L m v) k % p = (cf L k + if m = k then v else 0) % p := by
  unfold heapT
  split
  · rename_i h; subst h; congr 1; split <;> omega
  · exact ins_cf
theorem heaps_srt {p : Int} : ∀ {raw L : List Tm}, Srt L → Srt (heapsL p L raw)
  | [], _, h => h
  | t :: raw, L, h => heaps_srt (raw := raw) (by show Srt (if t.2 = 0 then L else insT p L t.1 t.2); split; exact h; exact ins_srt h)
theorem heaps_red {p : Int} (hp : 0 < p) : ∀ {raw L : List Tm}, Red0 p raw → Red0 p L → Red0 p (heapsL p L raw)
  | [], _, _, h => h
  | t :: raw, L, hr, h => heaps_red hp (raw := raw) (fun s hs => hr s (List.mem_cons_of_mem _ hs)) (by show Red0 p (if t.2 = 0 then L else insT p L t.1 t.2); split; exact h; exact ins_red hp (hr t List.mem_cons_self) h)
theorem heaps_cf {p : Int} (k : Int) : ∀ {raw L : List Tm}, cf (heapsL p L raw) k % p = (cf L k + cf raw k) % p
  | [], L => by show cf L k % p = _; congr 1; simp [cf]
  | t :: raw, L => by
    show cf (heapsL p (heapT p L t.1 t.2) raw) k % p = _
    rw [heaps_cf k (raw := raw), Int.add_emod, heapT_cf, ← Int.add_emod]
    simp only [cf]
    congr 1; omega
def nz (L : List Tm) : List Tm := L.filter (fun t => decide (t.2 ≠ 0))
theorem nz_cf (L : List Tm) (k : Int) : cf (nz L) k = cf L k := by
  induction L with
  | nil => rfl
  | cons t L ih =>
    unfold nz at ih ⊢
    rw [List.filter_cons]
    split
    · simp only [cf, ih]
    · rename_i h
      simp only [cf, ih]
      have : t.2 = 0 := by simpa using h
      rw [this]; split <;> omega
theorem nz_can {p : Int} {L : List Tm} (h : Srt L) (h0 : Red0 p L) : Can p (nz L) := by
  refine ⟨List.Pairwise.filter _ h, fun t ht => ?_⟩
  have h1 := List.mem_filter.mp ht
  have h2 := h0 t h1.1
  have h3 : t.2 ≠ 0 := by simpa using h1.2
  omega
/-- the polynomial that terms make -/
def canon (p : Int) (raw : List Tm) : List Tm := nz (heapsL p [] raw)
theorem canon_can {p : Int} (hp : 0 < p) {raw : List Tm} (h : Red0 p raw) : Can p (canon p raw) :=
  nz_can (heaps_srt List.Pairwise.nil) (heaps_red hp h (fun _ h => by cases h))
theorem canon_cf (p : Int) (raw : List Tm) (k : Int) : cf (canon p raw) k % p = cf raw k % p := by
  unfold canon
  rw [nz_cf, heaps_cf]
  congr 1
  simp [cf]
theorem canon_uniq {p : Int} (hp : 0 < p) {L raw : List Tm} (hL : Can p L) (hr : Red0 p raw) (h : ∀ k, cf L k % p = cf raw k % p) : L = canon p raw :=
  can_ext hL (canon_can hp hr) (fun k => (h k).trans (canon_cf p raw k).symm)
theorem canon_id {p : Int} (hp : 0 < p) {L : List Tm} (hL : Can p L) : canon p L = L :=
  (canon_uniq hp hL (fun t ht => by have := hL.2 t ht; omega) (fun _ => rfl)).symm
theorem canon_congr {p : Int} (hp : 0 < p) {r s : List Tm} (h1 : Red0 p r) (h2 : Red0 p s) (h : ∀ k, cf r k % p = cf s k % p) : canon p r = canon p s :=
  canon_uniq hp (canon_can hp h1) h2 (fun k => (canon_cf p r k).trans (h k))
-- f + num mono g
def cons0 (s m : Int) (L : List Tm) : List Tm := if s = 0 then L else (m, s) :: L
def mg (p num sh : Int) : List Tm → List Tm → List Tm
  | [], [] => []
  | a :: f, [] => cons0 a.2 a.1 (mg p num sh f [])
  | [], b :: g => cons0 ((0 + num * b.2) % p) (b.1 + sh) (mg p num sh [] g)
  | a :: f, b :: g => if a.1 < b.1 + sh then cons0 a.2 a.1 (mg p num sh f (b :: g)) else if b.1 + sh < a.1 then cons0 ((0 + num * b.2) % p) (b.1 + sh) (mg p num sh (a :: f) g) else cons0 ((a.2 + num * b.2) % p) a.1 (mg p num sh f g)
  termination_by f g => f.length + g.length
def tmT (p num sh : Int) (t : Tm) : Tm := (t.1 + sh, num * t.2 % p)
theorem cons0_cf (s m : Int) (L : List Tm) (k : Int) : cf (cons0 s m L) k = (if m = k then s else 0) + cf L k := by
  unfold cons0
  split
  · rename_i h; rw [h]; split <;> omega
  · rfl
theorem cons0_mem {s m : Int} {L : List Tm} {t : Tm} (h : t ∈ cons0 s m L) : (t = (m, s) ∧ s ≠ 0) ∨ t ∈ L := by
  unfold cons0 at h
  split at h
  · exact Or.inr h
  · rename_i hs
    rcases List.mem_cons.mp h with h | h
    · exact Or.inl ⟨h, hs⟩
    · exact Or.inr h
theorem cons0_srt {s m : Int} {L : List Tm} (h : Srt L) (hm : ∀ t ∈ L, m < t.1) : Srt (cons0 s m L) := by
  unfold cons0
  split
  · exact h
  · exact List.pairwise_cons.mpr ⟨hm, h⟩
theorem tm_cf (p num sh : Int) (g : List Tm) (k : Int) : cf (g.map (tmT p num sh)) k % p = (num * cf g (k - sh)) % p := by
  induction g with
  | nil => simp [cf]
  | cons b g ih =>
    simp only [List.map_cons, cf]
    rw [Int.add_emod, ih]
    by_cases h : (tmT p num sh b).1 = k
    · rw [if_pos h, if_pos (by unfold tmT at h; simp only at h; omega)]
      show (num * b.2 % p % p + num * cf g (k - sh) % p) % p = _
      rw [Int.emod_emod, ← Int.add_emod, Int.mul_add]
    · rw [if_neg h, if_neg (by unfold tmT at h; simp only at h; omega), Int.zero_add, Int.zero_emod, Int.zero_add, Int.emod_emod]
theorem mg_mem {p num sh : Int} : ∀ {f g : List Tm} {t : Tm}, t ∈ mg p num sh f g → (∃ s ∈ f, s.1 = t.1) ∨ (∃ s ∈ g, s.1 + sh = t.1)
  | [], [], t, h => by rw [mg] at h; cases h
  | a :: f, [], t, h => by
    rw [mg] at h
    rcases cons0_mem h with ⟨rfl, -⟩ | h
    · exact Or.inl ⟨a, List.mem_cons_self, rfl⟩
    · rcases mg_mem h with ⟨s, hs, e⟩ | ⟨s, hs, e⟩
      · exact Or.inl ⟨s, List.mem_cons_of_mem _ hs, e⟩
      · exact Or.inr ⟨s, hs, e⟩
  | [], b :: g, t, h => by
    rw [mg] at h
    rcases cons0_mem h with ⟨rfl, -⟩ | h
    · exact Or.inr ⟨b, List.mem_cons_self, rfl⟩
    · rcases mg_mem h with ⟨s, hs, e⟩ | ⟨s, hs, e⟩
      · exact Or.inl ⟨s, hs, e⟩
      · exact Or.inr ⟨s, List.mem_cons_of_mem _ hs, e⟩
  | a :: f, b :: g, t, h => by
    rw [mg] at h
    split at h
    · rcases cons0_mem h with ⟨rfl, -⟩ | h
      · exact Or.inl ⟨a, List.mem_cons_self, rfl⟩
      · rcases mg_mem h with ⟨s, hs, e⟩ | ⟨s, hs, e⟩
        · exact Or.inl ⟨s, List.mem_cons_of_mem _ hs, e⟩
        · exact Or.inr ⟨s, hs, e⟩
    · split at h
      · rcases cons0_mem h with ⟨rfl, -⟩ | h
        · exact Or.inr ⟨b, List.mem_cons_self, rfl⟩
        · rcases mg_mem h with ⟨s, hs, e⟩ | ⟨s, hs, e⟩
          · exact Or.inl ⟨s, hs, e⟩
          · exact Or.inr ⟨s, List.mem_cons_of_mem _ hs, e⟩
      · rcases cons0_mem h with ⟨rfl, -⟩ | h
        · exact Or.inl ⟨a, List.mem_cons_self, rfl⟩
        · rcases mg_mem h with ⟨s, hs, e⟩ | ⟨s, hs, e⟩
          · exact Or.inl ⟨s, List.mem_cons_of_mem _ hs, e⟩
          · exact Or.inr ⟨s, List.mem_cons_of_mem _ hs, e⟩
  termination_by f g => f.length + g.length
theorem mg_cf {p num sh : Int} (k : Int) : ∀ {f g : List Tm}, cf (mg p num sh f g) k % p = (cf f k + cf (g.map (tmT p num sh)) k) % p
  | [], [] => by rw [mg]; rfl
  | a :: f, [] => by
    rw [mg, cons0_cf, Int.add_emod, mg_cf k, ← Int.add_emod]
    simp only [cf, List.map_nil]
    congr 1; omega
  | [], b :: g => by
    rw [mg, cons0_cf, Int.add_emod, mg_cf k, ← Int.add_emod]
    simp only [cf, List.map_cons, tmT]
    rw [Int.zero_add]
    congr 1; omega
  | a :: f, b :: g => by
    rw [mg]
    split
    · rw [cons0_cf, Int.add_emod, mg_cf k, ← Int.add_emod]
      simp only [cf, List.map_cons]
      congr 1; omega
    · split
      · rw [cons0_cf, Int.add_emod, mg_cf k, ← Int.add_emod]
        simp only [cf, List.map_cons, tmT]
        rw [Int.zero_add]
        congr 1; omega
      · rename_i h1 h2
        have he : b.1 + sh = a.1 := by omega
        rw [cons0_cf, Int.add_emod, mg_cf k, ← Int.add_emod]
        simp only [cf, List.map_cons, tmT, he]
        by_cases hk : a.1 = k
        · simp only [if_pos hk]
          have e1 : ∀ x y z w : Int, ((x + y) % p + z) % p = (x + y + z) % p := fun x y z w => by rw [Int.emod_add_emod]
          rw [Int.emod_add_emod, show a.2 + cf f k + (num * b.2 % p + cf (List.map (tmT p num sh) g) k) = num * b.2 % p + (a.2 + cf f k + cf (List.map (tmT p num sh) g) k) by omega, Int.emod_add_emod]
          congr 1; omega
        · simp only [if_neg hk]
          congr 1; omega
  termination_by f g => f.length + g.length
theorem mg_can {p num sh : Int} (hp : 0 < p) : ∀ {f g : List Tm}, Can p f → Srt g → Can p (mg p num sh f g)
  | [], [], _, _ => by rw [mg]; exact ⟨List.Pairwise.nil, fun _ h => by cases h⟩
  | a :: f, [], hf, hg => by
    rw [mg]
    have ih := mg_can hp (num := num) (sh := sh) (f := f) (g := []) ⟨hf.1.tail, hf.2.tail⟩ hg
    refine ⟨cons0_srt ih.1 (fun t ht => ?_), fun t ht => ?_⟩
    · rcases mg_mem ht with ⟨s, hs, e⟩ | ⟨s, hs, e⟩
      · have := hf.1.head s hs; omega
      · cases hs
    · rcases cons0_mem ht with ⟨rfl, -⟩ | h
      · exact hf.2 a List.mem_cons_self
      · exact ih.2 t h
  | [], b :: g, hf, hg => by
    rw [mg]
    have ih := mg_can hp (num := num) (sh := sh) (f := []) (g := g) hf hg.tail
    refine ⟨cons0_srt ih.1 (fun t ht => ?_), fun t ht => ?_⟩
    · rcases mg_mem ht with ⟨s, hs, e⟩ | ⟨s, hs, e⟩
      · cases hs
      · have := hg.head s hs; omega
    · rcases cons0_mem ht with ⟨rfl, h0⟩ | h
      · have := Int.emod_nonneg (0 + num * b.2) (show p ≠ 0 by omega)
        have := Int.emod_lt_of_pos (0 + num * b.2) hp
        simp only; omega
      · exact ih.2 t h
  | a :: f, b :: g, hf, hg => by
    rw [mg]
    split
    · rename_i h1
      have ih := mg_can hp (num := num) (sh := sh) (f := f) (g := b :: g) ⟨hf.1.tail, hf.2.tail⟩ hg
      refine ⟨cons0_srt ih.1 (fun t ht => ?_), fun t ht => ?_⟩
      · rcases mg_mem ht with ⟨s, hs, e⟩ | ⟨s, hs, e⟩
        · have := hf.1.head s hs; omega
        · rcases List.mem_cons.mp hs with rfl | hs
          · omega
          · have := hg.head s hs; omega
      · rcases cons0_mem ht with ⟨rfl, -⟩ | h
        · exact hf.2 a List.mem_cons_self
        · exact ih.2 t h
    · split
      · rename_i h1 h2
        have ih := mg_can hp (num := num) (sh := sh) (f := a :: f) (g := g) hf hg.tail
        refine ⟨cons0_srt ih.1 (fun t ht => ?_), fun t ht => ?_⟩
        · rcases mg_mem ht with ⟨s, hs, e⟩ | ⟨s, hs, e⟩
          · rcases List.mem_cons.mp hs with rfl | hs
            · omega
            · have := hf.1.head s hs; omega
          · have := hg.head s hs; omega
        · rcases cons0_mem ht with ⟨rfl, h0⟩ | h
          · have := Int.emod_nonneg (0 + num * b.2) (show p ≠ 0 by omega)
            have := Int.emod_lt_of_pos (0 + num * b.2) hp
            simp only; omega
          · exact ih.2 t h
      · rename_i h1 h2
        have ih := mg_can hp (num := num) (sh := sh) (f := f) (g := g) ⟨hf.1.tail, hf.2.tail⟩ hg.tail
        refine ⟨cons0_srt ih.1 (fun t ht => ?_), fun t ht => ?_⟩
        · rcases mg_mem ht with ⟨s, hs, e⟩ | ⟨s, hs, e⟩
          · have := hf.1.head s hs; omega
          · have := hg.head s hs; omega
        · rcases cons0_mem ht with ⟨rfl, h0⟩ | h
          · have := Int.emod_nonneg (a.2 + num * b.2) (show p ≠ 0 by omega)
            have := Int.emod_lt_of_pos (a.2 + num * b.2) hp
            simp only; omega
          · exact ih.2 t h
  termination_by f g => f.length + g.length
theorem red0_of {p : Int} {L : List Tm} (h : Red p L) : Red0 p L := fun t ht => by have := h t ht; omega
theorem red0_app {p : Int} {L M : List Tm} (h1 : Red0 p L) (h2 : Red0 p M) : Red0 p (L ++ M) := fun t ht => by
  rcases List.mem_append.mp ht with h | h
  · exact h1 t h
  · exact h2 t h
theorem red0_tm {p num sh : Int} (hp : 0 < p) (g : List Tm) : Red0 p (g.map (tmT p num sh)) := fun t ht => by
  obtain ⟨b, -, rfl⟩ := List.mem_map.mp ht
  exact ⟨Int.emod_nonneg _ (by omega), Int.emod_lt_of_pos _ hp⟩
theorem mg_canon {p num sh : Int} (hp : 0 < p) {f g : List Tm} (hf : Can p f) (hg : Srt g) : mg p num sh f g = canon p (f ++ g.map (tmT p num sh)) :=
  canon_uniq hp (mg_can hp hf hg) (red0_app (red0_of hf.2) (red0_tm hp g)) (fun k => by rw [mg_cf, cf_app])

