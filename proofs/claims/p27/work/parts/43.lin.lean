/-! ===== rows modulo p: spans, leads, rests ===== -/
abbrev Vc : Type := Nat → Int
def cg (p : Int) (W : Nat) (x y : Vc) : Prop := ∀ c, c < W → x c % p = y c % p
def Sub (p : Int) (W : Nat) (U : Vc → Prop) : Prop := U (fun _ => 0) ∧ (∀ x y, U x → U y → U (fun c => x c + y c)) ∧ (∀ a x, U x → U (fun c => a * x c)) ∧ ∀ x y, cg p W x y → U x → U y
def Spn (p : Int) (W : Nat) (A : Vc → Prop) : Vc → Prop := fun x => ∀ U : Vc → Prop, Sub p W U → (∀ y, A y → U y) → U x
theorem emz {p x : Int} : x % p = 0 ↔ p ∣ x := ⟨Int.dvd_of_emod_eq_zero, Int.emod_eq_zero_of_dvd⟩
theorem emq {p x y : Int} : x % p = y % p ↔ p ∣ x - y := by rw [← emz]; exact Int.emod_eq_emod_iff_emod_sub_eq_zero
theorem cg.rf {p : Int} {W : Nat} {x : Vc} : cg p W x x := fun _ _ => rfl
theorem cg.sy {p : Int} {W : Nat} {x y : Vc} (h : cg p W x y) : cg p W y x := fun c hc => (h c hc).symm
theorem cg.tr {p : Int} {W : Nat} {x y z : Vc} (h : cg p W x y) (h2 : cg p W y z) : cg p W x z := fun c hc => (h c hc).trans (h2 c hc)
theorem cg.wk {p : Int} {W V : Nat} {x y : Vc} (h : cg p W x y) (hv : V ≤ W) : cg p V x y := fun c hc => h c (by omega)
theorem Sub.sub {p : Int} {W : Nat} {U : Vc → Prop} (h : Sub p W U) {x y : Vc} (hx : U x) (hy : U y) : U (fun c => x c - y c) := by
  have h1 := h.2.2.1 (-1) y hy
  have h2 := h.2.1 x _ hx h1
  have e : (fun c => x c + -1 * y c) = (fun c => x c - y c) := funext fun c => by omega
  rw [e] at h2; exact h2
theorem spn_sub {p : Int} {W : Nat} {A : Vc → Prop} : Sub p W (Spn p W A) :=
  ⟨fun U hU _ => hU.1, fun x y hx hy U hU hA => hU.2.1 x y (hx U hU hA) (hy U hU hA), fun a x hx U hU hA => hU.2.2.1 a x (hx U hU hA), fun x y hc hx U hU hA => hU.2.2.2 x y hc (hx U hU hA)⟩
theorem spn_in {p : Int} {W : Nat} {A : Vc → Prop} {y : Vc} (h : A y) : Spn p W A y := fun _ _ hA => hA y h
theorem spn_le {p : Int} {W : Nat} {A U : Vc → Prop} (hU : Sub p W U) (h : ∀ y, A y → U y) {x : Vc} (hx : Spn p W A x) : U x := hx U hU h
def sm (g : Nat → Int) : Nat → Int
  | 0 => 0
  | n + 1 => sm g n + g n
theorem sm_add (f g : Nat → Int) : ∀ n, sm (fun l => f l + g l) n = sm f n + sm g n
  | 0 => rfl
  | n + 1 => by rw [sm, sm, sm, sm_add f g n]; omega
theorem sm_mul (a : Int) (g : Nat → Int) : ∀ n, sm (fun l => a * g l) n = a * sm g n
  | 0 => by rw [sm, sm, Int.mul_zero]
  | n + 1 => by rw [sm, sm, sm_mul a g n, Int.mul_add]
theorem sm_zero {p : Int} {g : Nat → Int} : ∀ {n : Nat}, (∀ j, j < n → p ∣ g j) → p ∣ sm g n
  | 0, _ => Int.dvd_zero _
  | n + 1, h => Int.dvd_add (sm_zero fun j hj => h j (by omega)) (h n (by omega))
theorem sm_one {p : Int} {g : Nat → Int} {l : Nat} : ∀ {n : Nat}, l < n → (∀ j, j < n → j ≠ l → p ∣ g j) → p ∣ sm g n - g l
  | 0, h, _ => absurd h (Nat.not_lt_zero _)
  | n + 1, hl, h => by
    rw [sm]
    by_cases e : l = n
    · subst e
      have := sm_zero (p := p) (g := g) (n := l) (fun j hj => h j (by omega) (by omega))
      rw [show sm g l + g l - g l = sm g l by omega]; exact this
    · have h1 := sm_one (p := p) (g := g) (l := l) (n := n) (by omega) (fun j hj hjl => h j (by omega) hjl)
      have h2 := h n (by omega) (fun q => e q.symm)
      rw [show sm g n + g n - g l = (sm g n - g l) + g n by omega]
      exact Int.dvd_add h1 h2
section ECH
variable {p : Int} {W : Nat} {K : Nat → Prop} {Rw : Nat → Vc} {x : Vc}
/-- rows with 1 at their leads, 0 ahead -/
def EchS (p : Int) (W : Nat) (K : Nat → Prop) (Rw : Nat → Vc) : Prop := ∀ l, l < W → K l → p ∣ Rw l l - 1 ∧ ∀ c, c < l → p ∣ Rw l c
def rws (W : Nat) (K : Nat → Prop) (Rw : Nat → Vc) : Vc → Prop := fun y => ∃ l, l < W ∧ K l ∧ y = Rw l
def Cmb (p : Int) (W : Nat) (K : Nat → Prop) (Rw : Nat → Vc) (x : Vc) : Prop := ∃ a : Nat → Int, (∀ l, l < W → ¬ K l → a l = 0) ∧ ∀ c, c < W → p ∣ x c - sm (fun l => a l * Rw l c) W
theorem cmb_sub : Sub p W (Cmb p W K Rw) := by
  refine ⟨⟨fun _ => 0, fun _ _ _ => rfl, fun c hc => ?_⟩, fun x y hx hy => ?_, fun a x hx => ?_, fun x y hc hx => ?_⟩
  · have : p ∣ sm (fun l => (0 : Int) * Rw l c) W := sm_zero fun j _ => by show p ∣ 0 * Rw j c; rw [Int.zero_mul]; exact Int.dvd_zero _
    show p ∣ 0 - sm (fun l => (0 : Int) * Rw l c) W
    exact Int.dvd_sub (Int.dvd_zero _) this
  · obtain ⟨a, ha, hx⟩ := hx
    obtain ⟨b, hb, hy⟩ := hy
    refine ⟨fun l => a l + b l, fun l hl hk => by show a l + b l = 0; rw [ha l hl hk, hb l hl hk]; rfl, fun c hc => ?_⟩
    have e : sm (fun l => (a l + b l) * Rw l c) W = sm (fun l => a l * Rw l c) W + sm (fun l => b l * Rw l c) W := by
      rw [← sm_add]; congr 1; exact funext fun l => Int.add_mul _ _ _
    have h := Int.dvd_add (hx c hc) (hy c hc)
    show p ∣ x c + y c - sm (fun l => (a l + b l) * Rw l c) W
    rw [e, show x c + y c - (sm (fun l => a l * Rw l c) W + sm (fun l => b l * Rw l c) W) = (x c - sm (fun l => a l * Rw l c) W) + (y c - sm (fun l => b l * Rw l c) W) by omega]
    exact h
  · obtain ⟨b, hb, hx⟩ := hx
    refine ⟨fun l => a * b l, fun l hl hk => by show a * b l = 0; rw [hb l hl hk, Int.mul_zero], fun c hc => ?_⟩
    have e : sm (fun l => a * b l * Rw l c) W = a * sm (fun l => b l * Rw l c) W := by
      rw [← sm_mul]; congr 1; exact funext fun l => Int.mul_assoc _ _ _
    show p ∣ a * x c - sm (fun l => a * b l * Rw l c) W
    rw [e, ← Int.mul_sub]
    exact Int.dvd_mul_of_dvd_right (hx c hc)
  · obtain ⟨b, hb, hx⟩ := hx
    refine ⟨b, hb, fun c hc2 => ?_⟩
    have h := Int.dvd_sub (hx c hc2) (emq.mp (hc c hc2))
    rw [show x c - sm (fun l => b l * Rw l c) W - (x c - y c) = y c - sm (fun l => b l * Rw l c) W by omega] at h
    exact h
theorem cmb_row {l : Nat} (hl : l < W) (hk : K l) : Cmb p W K Rw (Rw l) := by
  refine ⟨fun j => if j = l then 1 else 0, fun j _ hjk => ?_, fun c hc => ?_⟩
  · show (if j = l then (1 : Int) else 0) = 0
    have hjl : j ≠ l := fun q => hjk (q ▸ hk)
    rw [if_neg hjl]
  · have h := sm_one (p := p) (g := fun j => (if j = l then 1 else 0) * Rw j c) (l := l) hl (fun j _ hjl => by show p ∣ (if j = l then 1 else 0) * Rw j c; rw [if_neg hjl, Int.zero_mul]; exact Int.dvd_zero _)
    change p ∣ _ - (if l = l then 1 else 0) * Rw l c at h
    rw [if_pos rfl, Int.one_mul] at h
    have h2 := Int.dvd_neg.mpr h
    rw [Int.neg_sub] at h2
    exact h2
theorem cmb_of (h : Spn p W (rws W K Rw) x) : Cmb p W K Rw x := spn_le cmb_sub (fun y hy => by obtain ⟨l, hl, hk, e⟩ := hy; rw [e]; exact cmb_row hl hk) h
/-- where the first places at leads are 0, the coefficients are -/
theorem cmb_lo (hE : EchS p W K Rw) {a : Nat → Int} (ha : ∀ l, l < W → ¬ K l → a l = 0) (hx : ∀ c, c < W → p ∣ x c - sm (fun l => a l * Rw l c) W) {m : Nat} (hm : m ≤ W) (h0 : ∀ l, l < m → K l → p ∣ x l) : ∀ l, l < m → p ∣ a l := by
  intro l
  induction l using Nat.strongRecOn with
  | _ l ih =>
    intro hl
    rcases Classical.em (K l) with hk | hk
    · have h1 := sm_one (p := p) (g := fun j => a j * Rw j l) (l := l) (n := W) (by omega) (fun j hj hjl => by
        show p ∣ a j * Rw j l
        by_cases hjl2 : j < l
        · exact Int.dvd_mul_of_dvd_left (ih j hjl2 (by omega))
        · rcases Classical.em (K j) with hkj | hkj
          · exact Int.dvd_mul_of_dvd_right ((hE j hj hkj).2 l (by omega))
          · rw [ha j hj hkj, Int.zero_mul]; exact Int.dvd_zero _)
      have h2 := hx l (by omega)
      have h3 := h0 l hl hk
      have h4 : p ∣ a l * (Rw l l - 1) := Int.dvd_mul_of_dvd_right (hE l (by omega) hk).1
      rw [Int.mul_sub, Int.mul_one] at h4
      have h5 := Int.dvd_sub h3 (Int.dvd_add (Int.dvd_add h2 h1) h4)
      rw [show x l - (x l - sm (fun j => a j * Rw j l) W + (sm (fun j => a j * Rw j l) W - a l * Rw l l) + (a l * Rw l l - a l)) = a l by omega] at h5
      exact h5
    · rw [ha l (by omega) hk]; exact Int.dvd_zero _
/-- an element with 0 at all leads is 0 -/
theorem ech_zero (hE : EchS p W K Rw) (h : Spn p W (rws W K Rw) x) (h0 : ∀ l, l < W → K l → p ∣ x l) : ∀ c, c < W → p ∣ x c := by
  obtain ⟨a, ha, hx⟩ := cmb_of h
  have hl := cmb_lo hE ha hx (Nat.le_refl W) h0
  intro c hc
  have h1 := sm_zero (p := p) (g := fun l => a l * Rw l c) (n := W) (fun j hj => Int.dvd_mul_of_dvd_left (hl j hj))
  have h2 := Int.dvd_add (hx c hc) h1
  rw [Int.sub_add_cancel] at h2
  exact h2
/-- an element's first place is a lead -/
theorem ech_lead (hE : EchS p W K Rw) (h : Spn p W (rws W K Rw) x) {c : Nat} (hc : c < W) (hx0 : ∀ j, j < c → p ∣ x j) (hxc : ¬ p ∣ x c) : K c := by
  refine Classical.byContradiction fun hk => hxc ?_
  obtain ⟨a, ha, hx⟩ := cmb_of h
  have hl := cmb_lo hE ha hx (m := c) (by omega) (fun l hl _ => hx0 l hl)
  have h1 := sm_zero (p := p) (g := fun l => a l * Rw l c) (n := W) (fun j hj => by
    show p ∣ a j * Rw j c
    by_cases hjc : j < c
    · exact Int.dvd_mul_of_dvd_left (hl j hjc)
    · rcases Classical.em (K j) with hkj | hkj
      · exact Int.dvd_mul_of_dvd_right ((hE j hj hkj).2 c (by
          have : j ≠ c := fun q => hk (q ▸ hkj)
          omega))
      · rw [ha j hj hkj, Int.zero_mul]; exact Int.dvd_zero _)
  have h2 := Int.dvd_add (hx c hc) h1
  rw [Int.sub_add_cancel] at h2
  exact h2
end ECH
/-- c is the first place of an element -/
def LdU (p : Int) (W : Nat) (U : Vc → Prop) (c : Nat) : Prop := c < W ∧ ∃ x, U x ∧ (∀ j, j < c → p ∣ x j) ∧ ¬ p ∣ x c
/-- rows that stand for U -/
def EchU (p : Int) (W : Nat) (K : Nat → Prop) (Rw : Nat → Vc) (U : Vc → Prop) : Prop := EchS p W K Rw ∧ ∀ x, U x ↔ Spn p W (rws W K Rw) x
theorem EchU.sub {p : Int} {W : Nat} {K : Nat → Prop} {Rw : Nat → Vc} {U : Vc → Prop} (h : EchU p W K Rw U) : Sub p W U := by
  have e : U = Spn p W (rws W K Rw) := funext fun x => propext (h.2 x)
  rw [e]; exact spn_sub
theorem EchU.lead {p : Int} {W : Nat} {K : Nat → Prop} {Rw : Nat → Vc} {U : Vc → Prop} (h : EchU p W K Rw U) (hp : 2 ≤ p) {c : Nat} (hc : c < W) : K c ↔ LdU p W U c := by
  constructor
  · intro hk
    have he := h.1 c hc hk
    refine ⟨hc, Rw c, (h.2 _).mpr (spn_in ⟨c, hc, hk, rfl⟩), he.2, fun q => ?_⟩
    have h1 := Int.dvd_sub q he.1
    rw [show Rw c c - (Rw c c - 1) = 1 by omega] at h1
    have := Int.le_of_dvd (by decide) h1
    omega
  · intro ⟨_, x, hx, h0, h1⟩
    exact ech_lead h.1 ((h.2 x).mp hx) hc h0 h1
/-- the rest of x -/
def RstU (p : Int) (W : Nat) (K : Nat → Prop) (U : Vc → Prop) (x y : Vc) : Prop := U (fun c => x c - y c) ∧ ∀ c, c < W → K c → p ∣ y c
theorem rst_uniq {p : Int} {W : Nat} {K : Nat → Prop} {Rw : Nat → Vc} {U : Vc → Prop} {x y z : Vc} (h : EchU p W K Rw U) (h1 : RstU p W K U x y) (h2 : RstU p W K U x z) : cg p W y z := by
  have h3 := h.sub.sub h2.1 h1.1
  have e : (fun c => (x c - z c) - (x c - y c)) = (fun c => y c - z c) := funext fun c => by omega
  rw [e] at h3
  intro c hc
  exact emq.mpr (ech_zero h.1 ((h.2 _).mp h3) (fun l hl hk => Int.dvd_sub (h1.2 l hl hk) (h2.2 l hl hk)) c hc)

