/-! what a law's text says: codes in the order in which they are worked off, or the place of the fault -/
abbrev PR : Type := Nat ⊕ (Nat × List Int32)
def prB (x : PR) (f : Nat → List Int32 → PR) : PR := match x with
  | .inl a => .inl a
  | .inr q => f q.1 q.2
section LS
variable (T : Vec) (e : Nat)
def opL (op : Int32) (P : Nat → PR) : Nat → Nat → List Int32 → PR
  | 0, q, cs => .inr (q, cs)
  | n + 1, q, cs => if cd T e q = op then prB (P (nx T e q)) (fun q' c => opL op P n q' (cs ++ (c ++ [op]))) else .inr (q, cs)
def chain (op : Int32) (P : Nat → PR) (q : Nat) : PR := prB (P q) (fun q' c => opL T e op P 401 q' c)
def pPart (q : Nat) : PR := if 0 ≤ cd T e q ∧ cd T e q ≤ 1006 then .inr (nx T e q, [cd T e q]) else .inl q
def pSum (q : Nat) : PR := chain T e 2043 (pPart T e) q
def pPlain (q : Nat) : PR := if 1007 ≤ cd T e q ∧ cd T e q ≤ 1009 then .inr (nx T e q, [cd T e q]) else
  prB (pSum T e q) (fun q1 a => if cd T e q1 = 2060 ∨ cd T e q1 = 2062 then prB (pSum T e (nx T e q1)) (fun q2 b => .inr (q2, a ++ (b ++ [cd T e q1]))) else .inl q1)
def pSome (A : Nat → PR) (q : Nat) : PR := chain T e 1014 (chain T e 1015 A) q
def pAtom : Nat → Nat → PR
  | 0, q => if cd T e q = 1016 ∨ cd T e q = 2040 then .inl q else pPlain T e q
  | r + 1, q => if cd T e q = 1016 then prB (pAtom r (nx T e q)) (fun q' c => .inr (q', c ++ [1016])) else if cd T e q = 2040 then prB (pSome T e (pAtom r) (nx T e q)) (fun q' c => if cd T e q' = 2041 then .inr (nx T e q', c) else .inl q') else pPlain T e q
/-- a line: its first word, its number, its condition -/
abbrev LN : Type := Nat × Int32 × List Int32
def pLine (q : Nat) : Nat ⊕ (Nat × LN) := if 1010 ≤ cd T e q ∧ cd T e q ≤ 1012 then
    (if 0 ≤ cd T e (nx T e q) ∧ cd T e (nx T e q) ≤ 99 then
      (if cd T e (nx T e (nx T e q)) = 1013 then (match pSome T e (pAtom T e 6) (nx T e (nx T e (nx T e q))) with
          | .inl f => .inl f
          | .inr q' => .inr (q'.1, ((cd T e q - 1010).toNatClampNeg, cd T e (nx T e q), q'.2)))
        else .inr (nx T e (nx T e q), ((cd T e q - 1010).toNatClampNeg, cd T e (nx T e q), [])))
      else .inl (nx T e q))
    else .inl q
/-- lines from number n on -/
def pLines : Nat → Nat → List LN → Nat ⊕ List LN
  | 0, q, _ => .inl q
  | m + 1, q, ls => match pLine T e q with
    | .inl f => .inl f
    | .inr q' => if cd T e q'.1 = 2059 then pLines m (nx T e q'.1) (ls ++ [q'.2]) else if cd T e q'.1 = 3001 then .inr (ls ++ [q'.2]) else .inl q'.1
def pLaw : Nat ⊕ List LN := if cd T e (nxt T e 0) = 3001 then .inr [] else pLines T e 12 (nxt T e 0) []
end LS
/-! working codes off -/
def evS (E : Nat → Int32) (c : Int32) (st : List Int32) : List Int32 :=
  if c ≤ 1009 then (if st.length < 32 then (if c < 1000 then c else E (c - 1000).toNatClampNeg) :: st else st)
  else if c = 1016 then (match st with
    | [] => []
    | a :: st => (1 - a) :: st)
  else match st with
    | b :: a :: st => f_X3_joined c a b :: st
    | st => st
def ev (E : Nat → Int32) : List Int32 → List Int32 → List Int32
  | [], st => st
  | c :: cs, st => ev E cs (evS E c st)
theorem ev_app {E : Nat → Int32} : ∀ (a b st : List Int32), ev E (a ++ b) st = ev E b (ev E a st)
  | [], _, _ => rfl
  | c :: a, b, st => ev_app a b (evS E c st)
/-- codes that leave one number more, with D places -/
def EV (E : Nat → Int32) (D : Nat) (cs : List Int32) (x : Int32) : Prop := ∀ st, st.length + D ≤ 32 → ev E cs st = x :: st
theorem EV_mono {E : Nat → Int32} {D D' : Nat} {cs : List Int32} {x : Int32} (h : EV E D cs x) (hD : D ≤ D') : EV E D' cs x := fun st hs => h st (by omega)
theorem EV_push {E : Nat → Int32} {c : Int32} (hc : c ≤ 1009) : EV E 1 [c] (if c < 1000 then c else E (c - 1000).toNatClampNeg) := by
  intro st hs
  show evS E c st = _
  unfold evS
  rw [if_pos hc, if_pos (by omega)]
theorem EV_not {E : Nat → Int32} {D : Nat} {cs : List Int32} {x : Int32} (h : EV E D cs x) : EV E D (cs ++ [1016]) (1 - x) := by
  intro st hs
  rw [ev_app, h st hs]
  rfl
theorem EV_op {E : Nat → Int32} {D D' : Nat} {a b : List Int32} {x z op : Int32} (ho : ¬ op ≤ 1009) (ho2 : ¬ op = 1016) (h1 : EV E D a x) (h2 : EV E D' b z) (hD : D' + 1 ≤ D) : EV E D (a ++ (b ++ [op])) (f_X3_joined op x z) := by
  intro st hs
  rw [ev_app, h1 st hs, ev_app, h2 (x :: st) (by simp; omega)]
  show evS E op (z :: x :: st) = _
  unfold evS
  rw [if_neg ho, if_neg ho2]
/-! the law of lines -/
def lnB (E : Nat → Int32) (cs : List Int32) : Bool := match (ev E cs []).reverse with
  | [] => true
  | a :: _ => decide (¬ a = 0)
def lawOf (ls : List LN) : LawS := ls.map (fun q => (q.1, q.2.1, fun E => lnB E q.2.2))
/-! where reading comes to -/
section LG
variable {T : Vec} {e : Nat}
def gq (T : Vec) (e q : Nat) : Prop := q ≤ e ∧ (q = e ∨ bgn T e q = true)
theorem gq_nx {q : Nat} (he : e ≤ 400) (hq : q < e) : gq T e (nx T e q) := ⟨(nx_lt he hq).2, nx_bg he hq⟩
/-- a reader goes on, by at least as many places as it gives codes -/
def PG (T : Vec) (e : Nat) (P : Nat → PR) : Prop := ∀ q, gq T e q → (∀ f, P q = .inl f → f ≤ e) ∧ ∀ q' cs, P q = .inr (q', cs) → gq T e q' ∧ q < q' ∧ q + cs.length ≤ q'
theorem prB_inl {x : PR} {f : Nat → List Int32 → PR} {a : Nat} (h : prB x f = .inl a) : x = .inl a ∨ ∃ q' cs, x = .inr (q', cs) ∧ f q' cs = .inl a := by
  cases x with
  | inl b => exact Or.inl h
  | inr q => exact Or.inr ⟨q.1, q.2, rfl, h⟩
theorem prB_inr {x : PR} {f : Nat → List Int32 → PR} {r : Nat × List Int32} (h : prB x f = .inr r) : ∃ q' cs, x = .inr (q', cs) ∧ f q' cs = .inr r := by
  cases x with
  | inl b => cases h
  | inr q => exact ⟨q.1, q.2, rfl, h⟩
theorem opL_g {op : Int32} {P : Nat → PR} (he : e ≤ 400) (hop : ¬ op = 3001) (hP : PG T e P) : ∀ (n q : Nat) (cs : List Int32) (q0 : Nat), gq T e q → q0 < q → q0 + cs.length ≤ q → (∀ f, opL T e op P n q cs = .inl f → f ≤ e) ∧ ∀ q' cs', opL T e op P n q cs = .inr (q', cs') → gq T e q' ∧ q0 < q' ∧ q0 + cs'.length ≤ q'
  | 0, q, cs, q0, hq, h0, hl => ⟨fun f h => (by cases h), fun q' cs' h => by cases h; exact ⟨hq, h0, hl⟩⟩
  | n + 1, q, cs, q0, hq, h0, hl => by
    unfold opL
    by_cases hc : cd T e q = op
    · rw [if_pos hc]
      have hqe : q < e := cd_lt (by rw [hc]; exact hop)
      have hn := nx_lt (T := T) he hqe
      obtain ⟨p1, p2⟩ := hP (nx T e q) (gq_nx he hqe)
      refine ⟨fun f h => ?_, fun q' cs' h => ?_⟩
      · rcases prB_inl h with h | ⟨q1, c1, h1, h2⟩
        · exact p1 f h
        · obtain ⟨a, b, c⟩ := p2 q1 c1 h1
          exact (opL_g he hop hP n q1 _ q0 a (by omega) (by simp; omega)).1 f h2
      · obtain ⟨q1, c1, h1, h2⟩ := prB_inr h
        obtain ⟨a, b, c⟩ := p2 q1 c1 h1
        exact (opL_g he hop hP n q1 _ q0 a (by omega) (by simp; omega)).2 q' cs' h2
    · rw [if_neg hc]
      exact ⟨fun f h => (by cases h), fun q' cs' h => by cases h; exact ⟨hq, h0, hl⟩⟩
theorem chain_g {op : Int32} {P : Nat → PR} (he : e ≤ 400) (hop : ¬ op = 3001) (hP : PG T e P) : PG T e (chain T e op P) := by
  intro q hq
  obtain ⟨p1, p2⟩ := hP q hq
  unfold chain
  refine ⟨fun f h => ?_, fun q' cs' h => ?_⟩
  · rcases prB_inl h with h | ⟨q1, c1, h1, h2⟩
    · exact p1 f h
    · obtain ⟨a, b, c⟩ := p2 q1 c1 h1
      exact (opL_g he hop hP 401 q1 _ q a b c).1 f h2
  · obtain ⟨q1, c1, h1, h2⟩ := prB_inr h
    obtain ⟨a, b, c⟩ := p2 q1 c1 h1
    exact (opL_g he hop hP 401 q1 _ q a b c).2 q' cs' h2
theorem n3001 {a b : Int32} (h : a ≤ b) (hb : b < 3001) : ¬ a = 3001 := by
  rintro rfl
  exact Int32.not_lt.mpr h hb
theorem part_g (he : e ≤ 400) : PG T e (pPart T e) := by
  intro q hq
  unfold pPart
  by_cases h : 0 ≤ cd T e q ∧ cd T e q ≤ 1006
  · rw [if_pos h]
    have hqe : q < e := cd_lt (n3001 h.2 (by decide))
    have hn := nx_lt (T := T) he hqe
    exact ⟨fun f h => (by cases h), fun q' cs' h => by cases h; exact ⟨gq_nx he hqe, hn.1, by simp; omega⟩⟩
  · rw [if_neg h]
    exact ⟨fun f h => (by cases h; exact hq.1), fun q' cs' h => by cases h⟩
theorem plain_g (he : e ≤ 400) : PG T e (pPlain T e) := by
  intro q hq
  unfold pPlain
  by_cases h : 1007 ≤ cd T e q ∧ cd T e q ≤ 1009
  · rw [if_pos h]
    have hqe : q < e := cd_lt (n3001 h.2 (by decide))
    have hn := nx_lt (T := T) he hqe
    exact ⟨fun f h => (by cases h), fun q' cs' h => by cases h; exact ⟨gq_nx he hqe, hn.1, by simp; omega⟩⟩
  · rw [if_neg h]
    have hS : PG T e (pSum T e) := chain_g he (by decide) (part_g he)
    obtain ⟨p1, p2⟩ := hS q hq
    refine ⟨fun f h => ?_, fun q' cs' h => ?_⟩
    · rcases prB_inl h with h | ⟨q1, c1, h1, h2⟩
      · exact p1 f h
      · obtain ⟨a, b, c⟩ := p2 q1 c1 h1
        by_cases h3 : cd T e q1 = 2060 ∨ cd T e q1 = 2062
        · rw [if_pos h3] at h2
          have hqe : q1 < e := cd_lt (by rcases h3 with h3 | h3 <;> rw [h3] <;> decide)
          rcases prB_inl h2 with h2 | ⟨q2, c2, h4, h5⟩
          · exact (hS _ (gq_nx he hqe)).1 f h2
          · cases h5
        · rw [if_neg h3] at h2
          cases h2
          exact a.1
    · obtain ⟨q1, c1, h1, h2⟩ := prB_inr h
      obtain ⟨a, b, c⟩ := p2 q1 c1 h1
      by_cases h3 : cd T e q1 = 2060 ∨ cd T e q1 = 2062
      · rw [if_pos h3] at h2
        have hqe : q1 < e := cd_lt (by rcases h3 with h3 | h3 <;> rw [h3] <;> decide)
        have hn := nx_lt (T := T) he hqe
        obtain ⟨q2, c2, h4, h5⟩ := prB_inr h2
        obtain ⟨a2, b2, c3⟩ := (hS _ (gq_nx he hqe)).2 q2 c2 h4
        cases h5
        exact ⟨a2, by omega, by simp; omega⟩
      · rw [if_neg h3] at h2
        cases h2
theorem some_g {A : Nat → PR} (he : e ≤ 400) (hA : PG T e A) : PG T e (pSome T e A) := chain_g he (by decide) (chain_g he (by decide) hA)
theorem atom_g (he : e ≤ 400) : ∀ r, PG T e (pAtom T e r)
  | 0, q, hq => by
    unfold pAtom
    by_cases h : cd T e q = 1016 ∨ cd T e q = 2040
    · rw [if_pos h]
      exact ⟨fun f h => (by cases h; exact hq.1), fun q' cs' h => by cases h⟩
    · rw [if_neg h]
      exact plain_g he q hq
  | r + 1, q, hq => by
    unfold pAtom
    by_cases h : cd T e q = 1016
    · rw [if_pos h]
      have hqe : q < e := cd_lt (by rw [h]; decide)
      have hn := nx_lt (T := T) he hqe
      obtain ⟨p1, p2⟩ := atom_g he r _ (gq_nx he hqe)
      refine ⟨fun f h => ?_, fun q' cs' h => ?_⟩
      · rcases prB_inl h with h | ⟨q1, c1, h1, h2⟩
        · exact p1 f h
        · cases h2
      · obtain ⟨q1, c1, h1, h2⟩ := prB_inr h
        obtain ⟨a, b, c⟩ := p2 q1 c1 h1
        cases h2
        exact ⟨a, by omega, by simp; omega⟩
    · rw [if_neg h]
      by_cases h2 : cd T e q = 2040
      · rw [if_pos h2]
        have hqe : q < e := cd_lt (by rw [h2]; decide)
        have hn := nx_lt (T := T) he hqe
        obtain ⟨p1, p2⟩ := some_g he (atom_g he r) _ (gq_nx he hqe)
        refine ⟨fun f h => ?_, fun q' cs' h => ?_⟩
        · rcases prB_inl h with h | ⟨q1, c1, h1, h2⟩
          · exact p1 f h
          · obtain ⟨a, b, c⟩ := p2 q1 c1 h1
            by_cases h3 : cd T e q1 = 2041
            · rw [if_pos h3] at h2
              cases h2
            · rw [if_neg h3] at h2
              cases h2
              exact a.1
        · obtain ⟨q1, c1, h1, h2⟩ := prB_inr h
          obtain ⟨a, b, c⟩ := p2 q1 c1 h1
          by_cases h3 : cd T e q1 = 2041
          · rw [if_pos h3] at h2
            have hqe1 : q1 < e := cd_lt (by rw [h3]; decide)
            have hn1 := nx_lt (T := T) he hqe1
            cases h2
            exact ⟨gq_nx he hqe1, by omega, by omega⟩
          · rw [if_neg h3] at h2
            cases h2
      · rw [if_neg h2]
        exact plain_g he q hq
end LG
