/-! ===== weak division, as a function ===== -/
theorem key_add {w : Nat → Int} {x y z a b c : Int} : key w x y z + key w a b c - 262143 = key w (x + a) (y + b) (z + c) := by
  unfold key pk
  rw [Int.add_mul x a, Int.add_mul y b, Int.add_mul z c]
  omega
theorem key_sub {w : Nat → Int} {x y z a b c : Int} : key w x y z - key w a b c + 262143 = key w (x - a) (y - b) (z - c) := by
  unfold key pk
  rw [Int.sub_mul x a, Int.sub_mul y b, Int.sub_mul z c]
  omega
/-- a monomial's key by these weights and variables, not too high -/
def okK (nv : Int) (w : Nat → Int) (m : Int) : Prop := okm m ∧ ¬ hi m ∧ gk w m ∧ inV nv m
/-- a polynomial that can stand in a slot -/
def okQ (p nv : Int) (w : Nat → Int) (L : List Tm) : Prop := Can p L ∧ (∀ t ∈ L, okK nv w t.1) ∧ L.length ≤ 60
theorem okQ.P {p nv : Int} {w : Nat → Int} {L : List Tm} (h : okQ p nv w L) : okP p w L := ⟨h.1, fun t ht => ⟨(h.2.1 t ht).1, (h.2.1 t ht).2.1, (h.2.1 t ht).2.2.1⟩⟩
theorem okQ.nil {p nv : Int} {w : Nat → Int} : okQ p nv w [] := ⟨⟨List.Pairwise.nil, fun t (ht : t ∈ []) => absurd ht List.not_mem_nil⟩, fun t (ht : t ∈ []) => absurd ht List.not_mem_nil, Nat.zero_le _⟩
theorem okK.r {nv : Int} {w : Nat → Int} {m : Int} (h : okK nv w m) : 0 ≤ exx m ∧ exx m ≤ 30 ∧ 0 ≤ exy m ∧ exy m ≤ 30 ∧ 0 ≤ exz m ∧ exz m ≤ 30 := by
  have := ex_r m
  have h2 := h.2.1
  unfold hi at h2
  omega
def dvs (a b : Int) : Prop := exx a ≤ exx b ∧ exy a ≤ exy b ∧ exz a ≤ exz b
theorem sh_ok {nv : Int} {w : Nat → Int} {t a c : Int} (hw : wtOK w) (ht : okK nv w t) (ha : okK nv w a) (hc : okK nv w c) (hd : dvs c a) :
    okm (t + (a - c)) ∧ gk w (t + (a - c)) ∧ inV nv (t + (a - c)) ∧ exx (t + (a - c)) = exx t + exx a - exx c ∧ exy (t + (a - c)) = exy t + exy a - exy c ∧ exz (t + (a - c)) = exz t + exz a - exz c := by
  have rt := ht.r
  have ra := ha.r
  have rc := hc.r
  unfold dvs at hd
  have e : t + (a - c) = key w (exx t + (exx a - exx c)) (exy t + (exy a - exy c)) (exz t + (exz a - exz c)) := by
    have h1 := key_add (w := w) (x := exx t) (y := exy t) (z := exz t) (a := exx a - exx c) (b := exy a - exy c) (c := exz a - exz c)
    have h2 := key_sub (w := w) (x := exx a) (y := exy a) (z := exz a) (a := exx c) (b := exy c) (c := exz c)
    rw [← key_gk ha.2.2.1, ← key_gk hc.2.2.1] at h2
    rw [← key_gk ht.2.2.1, ← h2] at h1
    omega
  have hx : 0 ≤ exx t + (exx a - exx c) ∧ exx t + (exx a - exx c) < 63 := by omega
  have hy : 0 ≤ exy t + (exy a - exy c) ∧ exy t + (exy a - exy c) < 63 := by omega
  have hz : 0 ≤ exz t + (exz a - exz c) ∧ exz t + (exz a - exz c) < 63 := by omega
  rw [e]
  refine ⟨okm_key hw hx hy hz, gk_key (by omega) (by omega) (by omega), ?_, ?_, ?_, ?_⟩
  · have v1 := ht.2.2.2
    have v2 := ha.2.2.2
    have v3 := hc.2.2.2
    unfold inV at v1 v2 v3 ⊢
    unfold key
    rw [exy_pk (by omega) (by omega) (by omega), exz_pk (by omega) (by omega) (by omega)]
    omega
  · unfold key; rw [exx_pk (by omega) (by omega) (by omega)]; omega
  · unfold key; rw [exy_pk (by omega) (by omega) (by omega)]; omega
  · unfold key; rw [exz_pk (by omega) (by omega) (by omega)]; omega
theorem sh_r {nv : Int} {w : Nat → Int} {a c : Int} (hw : wtOK w) (ha : okK nv w a) (hc : okK nv w c) (hd : dvs c a) : 0 ≤ a - c + 262143 ∧ a - c + 262143 < 500000000 := by
  have ra := ha.r
  have rc := hc.r
  unfold dvs at hd
  have h2 := key_sub (w := w) (x := exx a) (y := exy a) (z := exz a) (a := exx c) (b := exy c) (c := exz c)
  rw [← key_gk ha.2.2.1, ← key_gk hc.2.2.1] at h2
  rw [h2]
  have := okm_key hw (x := exx a - exx c) (y := exy a - exy c) (z := exz a - exz c) (by omega) (by omega) (by omega)
  exact ⟨this.1, this.2.1⟩
theorem mixOk_of {p nv : Int} {w : Nat → Int} {f g : List Tm} {a c : Int} (hw : wtOK w) (hf : okQ p nv w f) (hg : okQ p nv w g) (ha : okK nv w a) (hc : okK nv w c) (hd : dvs c a) : mixOk p (a - c + 262143) f g := by
  refine ⟨⟨hf.2.2, hg.2.2⟩, fun t ht => ⟨(hf.2.1 t ht).1, ?_⟩, fun t ht => ⟨(hg.2.1 t ht).1, ?_, ?_⟩⟩
  · have := hf.1.2 t ht; omega
  · rw [show a - c + 262143 - 262143 = a - c by omega]
    exact (sh_ok hw (hg.2.1 t ht) ha hc hd).1
  · have := hg.1.2 t ht; omega
theorem mg_ok {p nv : Int} {w : Nat → Int} {f g : List Tm} {a c num : Int} (hp : 0 < p) (hw : wtOK w) (hf : okQ p nv w f) (hg : okQ p nv w g) (ha : okK nv w a) (hc : okK nv w c) (hd : dvs c a) (hft : fits 60 (mg p num (a - c) f g)) : okQ p nv w (mg p num (a - c) f g) := by
  refine ⟨mg_can hp hf.1 hg.1.1, fun t ht => ?_, hft.1⟩
  have hh := hft.2 t ht
  rcases mg_mem ht with ⟨s, hs, e⟩ | ⟨s, hs, e⟩
  · rw [← e]; exact hf.2.1 s hs
  · rw [← e] at hh ⊢
    have := sh_ok hw (hg.2.1 s hs) ha hc hd
    exact ⟨this.1, hh, this.2.1, this.2.2.1⟩
def hdM (L : List Tm) : Int := (L.headD (0, 0)).1
def hdN (L : List Tm) : Int := (L.headD (0, 0)).2
theorem hd_mem {L : List Tm} (h : L ≠ []) : (hdM L, hdN L) ∈ L := by
  cases L with
  | nil => exact absurd rfl h
  | cons t L => exact List.mem_cons_self ..
theorem Has.hd {I : MI} {a : Nat} {L : List Tm} (h : Has I a L) (hn : L ≠ []) : I (a + 1) 0 = hdM L ∧ I (a + 2) 0 = hdN L := by
  cases L with
  | nil => exact absurd rfl hn
  | cons t L => exact h.2 0 t rfl
def upT {α : Type} (T : Nat → α) (i : Nat) (x : α) : Nat → α := fun j => if j = i then x else T j
abbrev isBest (T : Nat → Eq3) (h : List Tm) (r : Int × Int) (k : Nat) : Prop := (T k).1 ≠ [] ∧ (exx (hdM (T k).1) ≤ exx (hdM h) ∧ exy (hdM (T k).1) ≤ exy (hdM h) ∧ exz (hdM (T k).1) ≤ exz (hdM h)) ∧ (r.1 = -1 ∨ ecL (T k).1 < r.2)
/-- the best of the first k, its ecart -/
def bst (T : Nat → Eq3) (h : List Tm) : Nat → Int × Int
  | 0 => (-1, 0)
  | k + 1 => if isBest T h (bst T h k) k then ((k : Int), ecL (T k).1) else bst T h k
theorem bst_r {T : Nat → Eq3} {h : List Tm} : ∀ k, (bst T h k).1 = -1 ∨ ∃ i : Nat, i < k ∧ (bst T h k).1 = (i : Int) ∧ (T i).1 ≠ [] ∧ dvs (hdM (T i).1) (hdM h) ∧ (bst T h k).2 = ecL (T i).1
  | 0 => Or.inl rfl
  | k + 1 => by
    rw [bst]
    by_cases c : isBest T h (bst T h k) k
    · rw [if_pos c]
      exact Or.inr ⟨k, by omega, rfl, c.1, c.2.1, rfl⟩
    · rw [if_neg c]
      rcases bst_r k with h1 | ⟨i, h1, h2⟩
      · exact Or.inl h1
      · exact Or.inr ⟨i, by omega, h2⟩
def bestD (T : Nat → Eq3) (h : List Tm) (many : Nat) : Int := if h = [] then -1 else (bst T h many).1
/-- by what a step multiplies -/
def tmsD (p : Int) (h t : List Tm) : Int := hdN h * inv p (hdN t) % p
def nowD (p : Int) (now by_ : Eq3) : Eq3 := mixE p (ngP p (tmsD p now.1 by_.1)) (hdM now.1 - hdM by_.1) now by_
def rowD (which : Nat) (now by_ : Eq3) : Nat → Int := fun j => if j = 0 then (which : Int) else if j = 1 then ecL by_.1 else if j = 2 then ecL now.1 else if j = 3 then (if ecL now.1 < ecL by_.1 then 1 else 0) else lowL now.1
def cmsD (now by_ : Eq3) : Prop := ecL now.1 < ecL by_.1
abbrev Dv : Type := Nat × Nat × (Nat → Eq3) × Eq3 × (Nat → Nat → Int)
/-- T and its number after a step, whatever comes of h -/
def stpT (s : Dv) (k : Nat) : Nat × (Nat → Eq3) := if ecL s.2.2.2.1.1 < ecL (s.2.2.1 k).1 then (s.2.1 + 1, upT s.2.2.1 s.2.1 s.2.2.2.1) else (s.2.1, s.2.2.1)
def stpD (p : Int) (s : Dv) (k : Nat) : Dv := (s.1 + 1, (stpT s k).1, (stpT s k).2, nowD p s.2.2.2.1 (s.2.2.1 k), upT s.2.2.2.2 s.1 (rowD k s.2.2.2.1 (s.2.2.1 k)))
def badD (s : Dv) (k : Nat) : Prop := 40 ≤ s.1 ∨ (ecL s.2.2.2.1.1 < ecL (s.2.2.1 k).1 ∧ 20 ≤ s.2.1)
def okE3 (p nv : Int) (w : Nat → Int) (E : Eq3) : Prop := okQ p nv w E.1 ∧ okQ p nv w E.2.1 ∧ ∀ k, k < 8 → okQ p nv w (E.2.2 k)

