/-! what a round does, to a vector -/
abbrev LawS : Type := List (Nat × Int32 × ((Nat → Int32) → Bool))
def bit1 (k : Nat) : Int32 := (1 : Int32) <<< (nI k &&& 31)
def lsum (L : LawS) (kind : Nat) (e : Nat → Int32) : Int32 := L.foldl (fun a q => if q.1 = kind ∧ q.2.2 e = true then a + q.2.1 else a) 0
def actS (v : Vec) (c : Nat) : Int32 := bset (fun k => decide (nd v k 3 = 2)) c
def envS (c : Nat) (v : Vec) (k : Nat) : Nat → Int32
  | 0 => nI k
  | 1 => f_X12_greater 0 (nd v k 1 + nd v k 2)
  | 2 => f_X12_greater 0 (-(nd v k 1 + nd v k 2))
  | 3 => nI (pc (nd v k 5))
  | 4 => nd v k 6
  | 5 => nd v k 7
  | 6 => nd v k 4
  | 7 => b2i (decide (zrem (v 6) 2 = 0))
  | 8 => b2i (decide (actS v c &&& (bit1 k ^^^ (-1)) = 0))
  | _ => b2i (decide (0 < nd v k 8))
def lateS (L : LawS) (c : Nat) (v : Vec) (k : Nat) : Int32 := (if nd v k 9 = 1 then nd v k 10 else 0) + lsum L 0 (envS c v k)
def omitS (L : LawS) (c : Nat) (v : Vec) (k : Nat) : Int32 := if nd v k 9 = 2 then 100 else f_X12_lesser 100 (nd v k 8 + lsum L 1 (envS c v k))
def holdS (L : LawS) (c : Nat) (v : Vec) (k : Nat) : Int32 := lsum L 2 (envS c v k)
def sendS (L : LawS) (c : Nat) (v : Vec) (k : Nat) : Int32 := nd v k 0 + lateS L c v k
def shiftS (L : LawS) (c : Nat) (v : Vec) (k o : Nat) : Int32 := sendS L c v k + (if nd v k 9 = 3 ∧ o % 2 = 1 then nd v k 10 else 0)
def offS (L : LawS) (c : Nat) (v : Vec) (o k : Nat) : Int32 := shiftS L c v o k - nd v k 0
def hearB (L : LawS) (c : Nat) (v : Vec) (k o : Nat) : Bool := decide (-(v 5) ≤ offS L c v o k ∧ offS L c v o k ≤ v 5)
def heardS (L : LawS) (c : Nat) (v : Vec) (k : Nat) : Int32 := bset (fun o => decide (o ≠ k) && hearB L c v k o) c
def passB (L : LawS) (c : Nat) (v : Vec) (k : Nat) : Bool := decide (nd v k 3 = 2) && (decide (nd v k 9 ≠ 2) && decide (-(v 4) ≤ sendS L c v k ∧ sendS L c v k ≤ v 4))
def passS (L : LawS) (c : Nat) (v : Vec) : Int32 := bset (passB L c v) c
/-- THE LOG: a row more -/
def noteS (v : Vec) (k what x : Int32) : Vec := fun i => if i = 7 then f_X12_lesser 60 (v 7 + 1) else if i = 97 then v 6 else if i = 98 then k else if i = 99 then what else if i = 100 then x else if 101 ≤ i ∧ i < 337 then v (i - 4) else v i
def itS {α : Type} (f : Nat → α → α) : Nat → α → α
  | 0, v => v
  | k + 1, v => f k (itS f k v)
/-- (a) -/
def drawV (v : Vec) : Vec := vset v 8 (1103515245 * v 8 + 12345)
def drawX (v : Vec) : Int32 := zrem (zushr (drawV v 8) 16 &&& 32767) 100
def sndStep (d : Int32) (om : Nat → Int32) (old pas : Int32) (k : Nat) (q : Vec × Int32) : Vec × Int32 :=
  if tbit old k then (if d = 0 then q.1 else drawV q.1, if (tbit pas k && !(if d = 0 then decide (om k = 100) else decide (drawX q.1 < om k))) = true then q.2 ||| bit1 k else q.2) else q
def sndS (d : Int32) (om : Nat → Int32) (old pas : Int32) (c : Nat) (v : Vec) : Vec × Int32 := itS (sndStep d om old pas) c (v, 0)
/-- (b) -/
def waitStep (k : Nat) (v : Vec) : Vec := if nd v k 3 = 1 then ns v k 4 (f_X12_greater 0 (nd v k 4 - 1)) else v
def callX (v : Vec) (c : Nat) : Int32 := bset (fun k => decide (nd v k 3 = 1) && decide (f_X12_greater 0 (nd v k 4 - 1) = 0)) c
def lowS (x : Int32) : Nat := if tbit x 0 then 0 else if tbit x 1 then 1 else if tbit x 2 then 2 else if tbit x 3 then 3 else if tbit x 4 then 4 else if tbit x 5 then 5 else if tbit x 6 then 6 else 7
def startS (v : Vec) (x : Int32) : Vec := noteS (ns (ns (ns v (lowS x) 3 2) (lowS x) 5 x) (lowS x) 2 0) (nI (lowS x)) 0 0
def collW (L : LawS) (c : Nat) (v : Vec) (k : Nat) : Int32 := f_X12_lesser 99 (3 + nI k + holdS L c v k)
def collStep (w : Nat → Int32) (x : Int32) (k : Nat) (v : Vec) : Vec := if tbit x k then noteS (ns v k 4 (w k)) (nI k) 1 (w k) else v
def callsS (L : LawS) (c : Nat) (v : Vec) : Vec :=
  if pc (callX v c) = 1 then startS (itS waitStep c v) (callX v c) else itS (collStep (collW L c (itS waitStep c v)) (callX v c)) c (itS waitStep c v)
def joinStep (off : Nat → Nat → Int32) (to : Nat) (k : Nat) (v : Vec) : Vec :=
  if nd v k 3 = 1 then noteS (ns (ns (ns v k 0 (f_X12_held (off to k + nd v k 0) 999)) k 5 (nd (ns v k 0 (f_X12_held (off to k + nd v k 0) 999)) to 5 ||| bit1 k)) k 3 2) (nI k) 2 (nI to) else v
/-- (c) -/
def cntStep (old snd : Int32) (heard : Nat → Int32) (k : Nat) (v : Vec) : Vec :=
  if tbit old k then ns (ns (ns v k 6 (nI (pc ((snd &&& (bit1 k ^^^ (-1))) &&& heard k)) + nI (pc (snd &&& bit1 k)))) k 7 (nI (pc ((snd &&& (bit1 k ^^^ (-1))) &&& (heard k ^^^ (-1)))))) k 5 (((snd &&& (bit1 k ^^^ (-1))) &&& heard k) ||| (snd &&& bit1 k)) else v
/-- (d): the vector, and how many are frozen -/
def nextS (x : Int32) (k : Nat) : Nat := if tbit x ((k + 1) % 8) then (k + 1) % 8 else if tbit x ((k + 2) % 8) then (k + 2) % 8 else if tbit x ((k + 3) % 8) then (k + 3) % 8 else if tbit x ((k + 4) % 8) then (k + 4) % 8 else if tbit x ((k + 5) % 8) then (k + 5) % 8 else if tbit x ((k + 6) % 8) then (k + 6) % 8 else if tbit x ((k + 7) % 8) then (k + 7) % 8 else k
def frzS (v : Vec) (k : Nat) (what : Int32) : Vec := noteS (ns v k 3 3) (nI k) what (nd (ns v k 3 3) k 7)
def denB (snd : Int32) (wer : Nat → Int32) (k : Nat) : Bool := !(decide (nextS snd k = k) || tbit (wer (nextS snd k)) k)
def denF (snd : Int32) (wer : Nat → Int32) (k : Nat) : Bool := decide (nextS snd (nextS snd k) = k) || !(tbit (wer (nextS snd (nextS snd k))) k)
def denStep (snd : Int32) (wer : Nat → Int32) (k : Nat) (q : Vec × Int32) : Vec × Int32 :=
  if (tbit snd k && denB snd wer k) = true then (if denF snd wer k = true then (frzS q.1 k 3, q.2 + 1) else (ns q.1 k 5 (nd q.1 k 5 &&& (bit1 (nextS snd k) ^^^ (-1))), q.2)) else q
/-- (e) -/
def outStep (old : Int32) (k : Nat) (q : Vec × Int32) : Vec × Int32 :=
  if (tbit old k && (decide (nd q.1 k 3 = 2) && (decide (0 < nd q.1 k 7) && decide (nd q.1 k 6 ≤ nd q.1 k 7)))) = true then (frzS q.1 k 4, q.2 + 1) else q
/-- (f) -/
def insS (x : Int32) : List Int32 → List Int32
  | [] => [x]
  | a :: l => if a ≤ x then x :: a :: l else a :: insS x l
def srtS (l : List Int32) : List Int32 := l.foldl (fun a x => insS x a) []
def cutS (n : Nat) : Nat := if n < 3 then 0 else if n < 8 then 1 else 2
def midL (l : List Int32) : Int32 := if l.length = 0 then 0 else ((srtS l).getD (l.length - 1 - cutS l.length) 0 + (srtS l).getD (cutS l.length) 0) / 2
def offL (off : Nat → Nat → Int32) (heard : Nat → Int32) (snd : Int32) (c k : Nat) : List Int32 := (List.range c).filterMap (fun o => if o = k ∨ tbit (snd &&& heard k) o = false then none else some (off o k))
def midK (off : Nat → Nat → Int32) (heard : Nat → Int32) (snd : Int32) (c k : Nat) : Int32 := midL (0 :: offL off heard snd c k)
def corStep (by_ : Nat → Int32) (old : Int32) (k : Nat) (v : Vec) : Vec :=
  if (tbit old k && decide (nd v k 3 = 2)) = true then (if zrem (v 6) 2 = 0 then ns v k 0 (nd v k 0 + by_ k) else ns v k 2 (f_X12_held (nd v k 2 + by_ k / 4) 9)) else v
/-- (g) -/
def runStep (k : Nat) (v : Vec) : Vec := if nd v k 3 = 0 then v else ns v k 0 (f_X12_held (nd v k 0 + nd v k 1 + nd v k 2) 999)
/-- a ROUND -/
def roundS (L : LawS) (c : Nat) (d : Int32) (q : Vec × Int32) : Vec × Int32 :=
  let v := q.1
  let old := actS v c
  let s := sndS d (omitS L c v) old (passS L c v) c v
  let snd := s.2
  let v1 := if snd = 0 then callsS L c s.1 else itS (joinStep (offS L c v) (lowS snd)) c s.1
  let v2 := itS (cntStep old snd (heardS L c v)) c v1
  let q3 := itS (denStep snd (fun k => nd v2 k 5)) c (v2, q.2)
  let q4 := itS (outStep old) c q3
  let v5 := itS (corStep (midK (offS L c v) (heardS L c v) snd c) old) c q4.1
  let v6 := itS runStep c v5
  (vset v6 6 (f_X12_lesser 9999 (v6 6 + 1)), q4.2)
def goesS (L : LawS) (c : Nat) (d : Int32) (n : Nat) (v : Vec) : Vec × Int32 := itS (fun _ q => roundS L c d q) n (v, 0)
/-- what holds of a vector -/
def WFv (c : Nat) (v : Vec) : Prop := c ≤ 8 ∧ v 3 = nI c ∧ ∀ k, k < 8 → isS (nd v k 5)
def sameT (u v : Vec) : Prop := ∀ i, (i = 1 ∨ i = 2 ∨ 337 ≤ i) → u i = v i
def askP (o : ZId) (k : Nat) : Prop := o = (0, 38, 0) ∨ (o = MO0 ∧ (k = 9 ∨ k = 10 ∨ k = 11 ∨ k = 13 ∨ k = 15 ∨ k = 16 ∨ k = 17 ∨ k = 18))
/-- the text of the vector tells the law L -/
def LawM (v : Vec) (L : LawS) : Prop := ∀ (c : Nat) (μ : ZMem), sameT (μ MV0) v → WFv c (μ MV0) → ∀ k, k < 8 → ok (f_X12_asks (nI k) μ) (fun μ' => fr askP μ μ' ∧ μ' MO0 16 = lateS L c (μ MV0) k ∧ μ' MO0 17 = omitS L c (μ MV0) k ∧ μ' MO0 18 = holdS L c (μ MV0) k)
/-! the model's log -/
theorem nI_dec {n : Nat} : nI (n + 1) + (-1) = nI n := by
  have : ∀ x : Int32, x + (-1) = x - 1 := fun x => by rw [Int32.sub_eq_add_neg]
  rw [this, nI_pred]
theorem logs_eq {μ : ZMem} {k what x : Int32} : f_X12_logs k what x μ = some (mput μ MV0 (noteS (μ MV0) k what x)) := by
  unfold f_X12_logs
  refine (bd_eq (lp_seq (r := mput μ MV0 (fun i => if 100 < i ∧ i < 337 then μ MV0 (i - 4) else μ MV0 i)) 236 (fun j => (nI (239 - j), mput μ MV0 (fun i => if 336 - j < i ∧ i < 337 then μ MV0 (i - 4) else μ MV0 i))) ?_ ?_ (FU_lt (by omega)) ?_)).trans ?_
  · intro j hj
    simp only [un2]
    rw [if_neg (by rw [show (4 : Int32) = nI 4 from rfl]; exact nI_nlt (by omega) (by omega))]
    have e1 : (97 : Int32) + nI (239 - j) - 4 = nI (332 - j) := by
      rw [show (97 : Int32) = nI 97 from rfl, nI_add, show (4 : Int32) = nI 4 from rfl]
      rw [show 97 + (239 - j) = (332 - j) + 4 by omega, ← nI_add, Int32.add_sub_cancel]
    have e2 : (97 : Int32) + nI (239 - j) = nI (336 - j) := by
      rw [show (97 : Int32) = nI 97 from rfl, nI_add, show 97 + (239 - j) = 336 - j by omega]
    rw [e1, e2, gd_eq (zin_nI (by omega) (by omega)), gd_eq (zin_nI (by omega) (by omega)), nI_clamp (by omega), nI_clamp (by omega), zlt_eq]
    rw [show 239 - j = (239 - (j + 1)) + 1 by omega, nI_dec, mset_eq, mput_at, mput_mput]
    congr 4
    funext i
    by_cases h1 : i = 336 - j
    · subst h1
      rw [vset_at, if_neg (by omega), if_pos (by omega)]
      congr 1
      omega
    · rw [vset_ne h1]
      by_cases h2 : 336 - j < i ∧ i < 337
      · rw [if_pos h2, if_pos (by omega)]
      · rw [if_neg h2, if_neg (by omega)]
  · simp only [un2]
    rw [if_pos (by rw [show (4 : Int32) = nI 4 from rfl]; exact nI_lt (by omega) (by omega))]
  · simp only [Nat.sub_zero]
    rw [show (fun i => if 336 < i ∧ i < 337 then μ MV0 (i - 4) else μ MV0 i) = μ MV0 from by funext i; rw [if_neg (by omega)], mput_self]
    rfl
  · simp only [zlt, mset_eq, mput_at, mput_mput]
    congr 2
    funext i
    simp only [noteS, vset]
    by_cases h7 : i = 7
    · subst h7; simp
    · by_cases h97 : i = 97
      · subst h97; simp
      · by_cases h98 : i = 98
        · subst h98; simp
        · by_cases h99 : i = 99
          · subst h99; simp
          · by_cases h100 : i = 100
            · subst h100; simp
            · simp only [h7, h97, h98, h99, h100, if_false]
              by_cases h : 101 ≤ i ∧ i < 337
              · rw [if_pos (by omega), if_pos h]
              · rw [if_neg (by omega), if_neg h]
