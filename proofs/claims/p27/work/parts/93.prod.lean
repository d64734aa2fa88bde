/-! ===== products: no exponent above 30 goes away ===== -/
theorem eM_ex (a : Int) : eM a = 4096 * exx a + 64 * exy a + exz a := by
  have := eM_r a
  unfold exx exy exz
  omega
theorem eM_add {a b : Int} (h : eM a + eM b < 262144) : eM (a + (b - 262143)) = eM a + eM b := by
  have := eM_r a
  have := eM_r b
  unfold eM at *
  omega
theorem ex_add {a b : Int} (hx : exx a + exx b < 64) (hy : exy a + exy b < 64) (hz : exz a + exz b < 64) : exx (a + (b - 262143)) = exx a + exx b ∧ exy (a + (b - 262143)) = exy a + exy b ∧ exz (a + (b - 262143)) = exz a + exz b := by
  have ra := ex_r a
  have rb := ex_r b
  have e1 := eM_ex a
  have e2 := eM_ex b
  have e := eM_add (a := a) (b := b) (by omega)
  generalize eM a = p at *
  generalize eM b = q at *
  have e3 : eM (a + (b - 262143)) = 4096 * (exx a + exx b) + 64 * (exy a + exy b) + (exz a + exz b) := by omega
  generalize hc : a + (b - 262143) = c at *
  have hcx : exx c = eM c / 4096 := rfl
  have hcy : exy c = eM c / 64 % 64 := rfl
  have hcz : exz c = eM c % 64 := rfl
  rw [hcx, hcy, hcz, e3]
  omega
theorem ex_addv {nv : Int} {w : Nat → Int} {a b v : Int} (ha : okK nv w a) (hb : okK nv w b) (hv : v = 0 ∨ v = 1 ∨ v = 2) : ex (a + (b - 262143)) v = ex a v + ex b v := by
  have r1 := ha.r
  have r2 := hb.r
  have e := ex_add (a := a) (b := b) (by omega) (by omega) (by omega)
  rcases hv with rfl | rfl | rfl
  · exact e.1
  · exact e.2.1
  · exact e.2.2
theorem okK_lt {nv : Int} {w : Nat → Int} {m : Int} (hw : wtOK w) (h : okK nv w m) : 0 ≤ m ∧ m < 100000000 := by
  have r := h.r
  have g : dg m = exx m * w 0 + exy m * w 1 + exz m * w 2 := h.2.2.1
  have w0 := hw 0 (by omega)
  have w1 := hw 1 (by omega)
  have w2 := hw 2 (by omega)
  have m0 := mul4 (x := exx m) (c := w 0) (by omega) w0
  have m1 := mul4 (x := exy m) (c := w 1) (by omega) w1
  have m2 := mul4 (x := exz m) (c := w 2) (by omega) w2
  have e0 : exx m * w 0 ≤ 30 * 4 := Int.mul_le_mul (by omega) w0.2 (by omega) (by omega)
  have e1 : exy m * w 1 ≤ 30 * 4 := Int.mul_le_mul (by omega) w1.2 (by omega) (by omega)
  have e2 : exz m * w 2 ≤ 30 * 4 := Int.mul_le_mul (by omega) w2.2 (by omega) (by omega)
  refine ⟨h.1.1, ?_⟩
  unfold dg at g
  omega
/-- the greatest by an exponent, then by the key -/
theorem max_tm (v : Int) : ∀ {a : List Tm}, a ≠ [] → ∃ m ∈ a, ∀ t ∈ a, ex t.1 v < ex m.1 v ∨ (ex t.1 v = ex m.1 v ∧ t.1 ≤ m.1)
  | [], h => absurd rfl h
  | [t], _ => ⟨t, List.mem_cons_self, fun u hu => by
      have e : u = t := by
        rcases List.mem_cons.mp hu with z | z
        · exact z
        · cases z
      rw [e]; exact Or.inr ⟨rfl, Int.le_refl _⟩⟩
  | t :: u :: a, _ => by
    obtain ⟨m, h1, h2⟩ := max_tm v (a := u :: a) (by intro z; cases z)
    by_cases c : ex t.1 v < ex m.1 v ∨ (ex t.1 v = ex m.1 v ∧ t.1 ≤ m.1)
    · refine ⟨m, List.mem_cons_of_mem _ h1, fun x hx => ?_⟩
      rcases List.mem_cons.mp hx with z | z
      · rw [z]; exact c
      · exact h2 x z
    · refine ⟨t, List.mem_cons_self, fun x hx => ?_⟩
      rcases List.mem_cons.mp hx with z | z
      · rw [z]; exact Or.inr ⟨rfl, Int.le_refl _⟩
      · have := h2 x z
        omega
theorem prdR_mem {p : Int} : ∀ {a b : List Tm} {y : Tm}, y ∈ prdR p a b → ∃ t ∈ a, ∃ u ∈ b, y.1 = u.1 + (t.1 - 262143)
  | [], _, y, h => by cases h
  | t :: a, b, y, h => by
    have h2 : y ∈ b.map (tmT p t.2 (t.1 - 262143)) ++ prdR p a b := h
    rcases List.mem_append.mp h2 with z | z
    · obtain ⟨u, h3, h4⟩ := List.mem_map.mp z
      exact ⟨t, List.mem_cons_self, u, h3, by rw [← h4]; rfl⟩
    · obtain ⟨t', h3, u, h4, h5⟩ := prdR_mem z
      exact ⟨t', List.mem_cons_of_mem _ h3, u, h4, h5⟩
theorem prdR_red {p : Int} (hp : 0 < p) : ∀ (a b : List Tm), Red0 p (prdR p a b)
  | [], _ => fun t h => by cases h
  | s :: a, b => fun t h => by
    have h2 : t ∈ b.map (tmT p s.2 (s.1 - 262143)) ++ prdR p a b := h
    rcases List.mem_append.mp h2 with z | z
    · exact red0_tm hp b t z
    · exact prdR_red hp a b t z
theorem prime_mul {p : Nat} {x y : Int} (h : isP p) (hx : 0 < x ∧ x < (p : Int)) (hy : 0 < y ∧ y < (p : Int)) : x * y % (p : Int) ≠ 0 := by
  intro z
  obtain ⟨a, ea⟩ : ∃ a : Nat, x = (a : Int) := ⟨x.toNat, by omega⟩
  obtain ⟨b, eb⟩ : ∃ b : Nat, y = (b : Int) := ⟨y.toNat, by omega⟩
  rw [ea, eb, ← Int.natCast_mul, ← Int.natCast_emod] at z
  have hd : p ∣ a * b := Nat.dvd_of_mod_eq_zero (by omega)
  have h2 := (isP_co h (k := a) (by omega) (by omega)).dvd_of_dvd_mul_left hd
  have := Nat.le_of_dvd (by omega) h2
  omega
theorem srt_inj {L : List Tm} (h : Srt L) {t u : Tm} (ht : t ∈ L) (hu : u ∈ L) (e : t.1 = u.1) : t = u := by
  have h1 := cf_in h ht
  have h2 := cf_in h hu
  rw [e] at h1
  exact Prod.ext e (h1.symm.trans h2)
theorem prd_top {p : Nat} {nv : Int} {w : Nat → Int} {a b : List Tm} (hp : isP p) (ha : okQ (p : Int) nv w a) (hb : okQ (p : Int) nv w b) {v : Int} (hv : v = 0 ∨ v = 1 ∨ v = 2) {t u : Tm} (ht : t ∈ a) (hu : u ∈ b) (h30 : 30 < ex t.1 v + ex u.1 v) : ∃ y ∈ canon (p : Int) (prdR (p : Int) a b), hi y.1 := by
  obtain ⟨ta, ha1, ha2⟩ := max_tm v (a := a) (fun z => by rw [z] at ht; cases ht)
  obtain ⟨tb, hb1, hb2⟩ := max_tm v (a := b) (fun z => by rw [z] at hu; cases hu)
  have oa := ha.2.1 ta ha1
  have ob := hb.2.1 tb hb1
  have hk : ∀ t' ∈ a, ∀ u' ∈ b, u'.1 + (t'.1 - 262143) = tb.1 + (ta.1 - 262143) → t' = ta ∧ u' = tb := by
    intro t' h1 u' h2 e
    have x1 := ex_addv (v := v) (hb.2.1 u' h2) (ha.2.1 t' h1) hv
    have x2 := ex_addv (v := v) ob oa hv
    rw [e, x2] at x1
    have q1 := ha2 t' h1
    have q2 := hb2 u' h2
    exact ⟨srt_inj ha.1.1 h1 ha1 (by omega), srt_inj hb.1.1 h2 hb1 (by omega)⟩
  have ex1 : ex (tb.1 + (ta.1 - 262143)) v = ex tb.1 v + ex ta.1 v := ex_addv ob oa hv
  have hp2 : 2 ≤ p := hp.1
  obtain ⟨a1, a2, ea⟩ := List.append_of_mem ha1
  have hs : Srt (a1 ++ ta :: a2) := by rw [← ea]; exact ha.1.1
  have hpw := List.pairwise_append.mp hs
  have n1 : cf (prdR (p : Int) a1 b) (tb.1 + (ta.1 - 262143)) = 0 := by
    refine cf_none (fun y hy e => ?_)
    obtain ⟨t', h1, u', h2, h3⟩ := prdR_mem hy
    have := (hk t' (by rw [ea]; exact List.mem_append.mpr (Or.inl h1)) u' h2 (h3.symm.trans e)).1
    have lt := hpw.2.2 t' h1 ta List.mem_cons_self
    rw [this] at lt
    omega
  have n2 : cf (prdR (p : Int) a2 b) (tb.1 + (ta.1 - 262143)) = 0 := by
    refine cf_none (fun y hy e => ?_)
    obtain ⟨t', h1, u', h2, h3⟩ := prdR_mem hy
    have := (hk t' (by rw [ea]; exact List.mem_append.mpr (Or.inr (List.mem_cons_of_mem _ h1))) u' h2 (h3.symm.trans e)).1
    have lt := (List.pairwise_cons.mp hpw.2.1).1 t' h1
    rw [this] at lt
    omega
  have hc : cf (prdR (p : Int) a b) (tb.1 + (ta.1 - 262143)) % (p : Int) = ta.2 * tb.2 % (p : Int) := by
    rw [ea, prdR_app, cf_app, n1]
    show (0 + cf (b.map (tmT (p : Int) ta.2 (ta.1 - 262143)) ++ prdR (p : Int) a2 b) _) % (p : Int) = _
    rw [cf_app, n2, Int.zero_add, Int.add_zero, tm_cf, show tb.1 + (ta.1 - 262143) - (ta.1 - 262143) = tb.1 by omega, cf_in hb.1.1 hb1]
  have hne : cf (canon (p : Int) (prdR (p : Int) a b)) (tb.1 + (ta.1 - 262143)) ≠ 0 := by
    intro z
    have := canon_cf (p : Int) (prdR (p : Int) a b) (tb.1 + (ta.1 - 262143))
    rw [z, hc, Int.zero_emod] at this
    exact prime_mul hp (ha.1.2 ta ha1) (hb.1.2 tb hb1) this.symm
  obtain ⟨y, hy1, hy2⟩ := cf_ne hne
  refine ⟨y, hy1, ?_⟩
  rw [hy2]
  have q1 := ha2 t ht
  have q2 := hb2 u hu
  have big : 30 < ex (tb.1 + (ta.1 - 262143)) v := by omega
  unfold hi
  rcases hv with rfl | rfl | rfl
  · exact Or.inl big
  · exact Or.inr (Or.inl big)
  · exact Or.inr (Or.inr big)
/-- one more term -/
theorem mg_prd {p : Int} (hp : 0 < p) {a b : List Tm} {t : Tm} (hb : Srt b) : mg p t.2 (t.1 - 262143) (canon p (prdR p a b)) b = canon p (prdR p (a ++ [t]) b) := by
  have hc := canon_can hp (prdR_red hp a b)
  rw [mg_canon hp hc hb]
  refine canon_congr hp (fun x hx => ?_) (prdR_red hp _ _) (fun k => ?_)
  · rcases List.mem_append.mp hx with z | z
    · have := hc.2 x z; omega
    · exact red0_tm hp b x z
  · rw [prdR_app, cf_app, cf_app]
    show _ = (cf (prdR p a b) k + cf (b.map (tmT p t.2 (t.1 - 262143)) ++ []) k) % p
    rw [List.append_nil]
    rw [Int.add_emod, canon_cf p (prdR p a b) k, ← Int.add_emod]
theorem canon_mem {p : Int} (hp : 0 < p) {a b : List Tm} {y : Tm} (h : y ∈ canon p (prdR p a b)) : ∃ t ∈ a, ∃ u ∈ b, y.1 = u.1 + (t.1 - 262143) := by
  have hc := canon_can hp (prdR_red hp a b)
  have h1 := cf_in hc.1 h
  have h2 := hc.2 y h
  have h3 := canon_cf p (prdR p a b) y.1
  have hne : cf (prdR p a b) y.1 ≠ 0 := by
    intro z
    rw [z, h1, Int.zero_emod, Int.emod_eq_of_lt (by omega) h2.2] at h3
    omega
  obtain ⟨x, hx1, hx2⟩ := cf_ne hne
  obtain ⟨t, q1, u, q2, q3⟩ := prdR_mem hx1
  exact ⟨t, q1, u, q2, by rw [← hx2]; exact q3⟩

