/-! LEVEL 2: what a text says: its words, its lines, its code -/
/-- where a run of such signs ends -/
def xRun (p : Int → Bool) (b : Int → Int) (n : Int) : Nat → Int → Int
  | 0, i => i
  | q + 1, i => if i < n ∧ p (b i) = true then xRun p b n q (i + 1) else i
def xL (c : Int) : Bool := decide (97 ≤ c ∧ c ≤ 122)
def xD (c : Int) : Bool := decide (48 ≤ c ∧ c ≤ 57)
/-- signs from a place on, so many -/
def xSl (b : Int → Int) (p : Int) : Nat → List Int
  | 0 => []
  | q + 1 => b p :: xSl b (p + 1) q
/-- the words' texts by their kinds -/
def xWs : List (Nat × Int) := [(2, 100), (3, 101), (4, 102), (5, 103), (6, 104), (18, 105), (17, 106), (7, 107), (8, 108), (9, 109), (10, 110), (11, 111), (12, 112), (13, 113), (14, 114), (15, 115), (16, 116)]
def xKd (s : List Int) : List (Nat × Int) → Int
  | [] => 131
  | w :: ws => if s = jtx w.1 then w.2 else xKd s ws
def xSg (c : Int) : Int := if c = 40 then 120 else if c = 41 then 121 else if c = 59 then 122 else if c = 43 then 123 else if c = 60 then 124 else if c = 62 then 125 else 131
def xLe (b : Int → Int) (n p : Int) : Int := xRun xL b n 400 (p + 1)
def xDe (b : Int → Int) (n p : Int) : Int := xRun xD b n 400 (p + 1)
/-- the kind of the word that begins at a place, and where it ends -/
def xKi (b : Int → Int) (n p : Int) : Int :=
  if xL (b p) = true then xKd (xSl b p (xLe b n p - p).toNat) xWs
  else if xD (b p) = true then (if xDe b n p - p = 1 then b p - 48 else if xDe b n p - p = 2 then (b p - 48) * 10 + b (p + 1) - 48 else 131)
  else xSg (b p)
def xEn (b : Int → Int) (n p : Int) : Int :=
  if xL (b p) = true then xLe b n p else if xD (b p) = true then xDe b n p else p + 1
/-- the words from a place on: kind and begin; the last one is the end -/
def xTo (b : Int → Int) (n : Int) : Nat → Int → List (Int × Int)
  | 0, _ => [(130, n)]
  | q + 1, p => if n ≤ p then [(130, n)] else if b p = 32 then xTo b n q (p + 1) else (xKi b n p, p) :: xTo b n q (xEn b n p)
def xNum (k : Int) : Bool := decide (0 ≤ k ∧ k < 100)
def xFac (k : Int) : Bool := decide (111 ≤ k ∧ k ≤ 116)
def xTag (k : Int) : Bool := decide (108 ≤ k ∧ k ≤ 110)
/-- what a reading gives: a wrong place, or code and the words that are left -/
abbrev xRes := Int ⊕ (List Int × List (Int × Int))
def xHd (ts : List (Int × Int)) : Int := match ts with | [] => 0 | t :: _ => t.2
def xK (ts : List (Int × Int)) : Int := match ts with | [] => 130 | t :: _ => t.1
def xTl (ts : List (Int × Int)) : List (Int × Int) := match ts with | [] => [] | _ :: r => r
def xSum : Nat → List (Int × Int) → xRes
  | 0, ts => .inl (xHd ts)
  | q + 1, ts => if xNum (xK ts) = true ∨ xFac (xK ts) = true then
      (if xK (xTl ts) = 123 then (match xSum q (xTl (xTl ts)) with | .inl e => .inl e | .inr r => .inr (xK ts :: r.1, r.2)) else .inr ([xK ts], xTl ts))
    else .inl (xHd ts)
def xCmp (ts : List (Int × Int)) : xRes :=
  match xSum 401 ts with
  | .inl e => .inl e
  | .inr r => if xK r.2 = 124 ∨ xK r.2 = 125 then (match xSum 401 (xTl r.2) with | .inl e => .inl e | .inr s => .inr (r.1 ++ 132 :: (s.1 ++ [xK r.2]), s.2)) else .inl (xHd r.2)
def xPla (ts : List (Int × Int)) : xRes := if xTag (xK ts) = true then .inr ([xK ts], xTl ts) else xCmp ts
def xMor (p : List (Int × Int) → xRes) (op : Int) : Nat → List Int → List (Int × Int) → xRes
  | 0, _, ts => .inl (xHd ts)
  | q + 1, c, ts => if xK ts = op then (match p (xTl ts) with | .inl e => .inl e | .inr r => xMor p op q (c ++ (r.1 ++ [op])) r.2) else .inr (c, ts)
def xEve (p : List (Int × Int) → xRes) (ts : List (Int × Int)) : xRes := match p ts with | .inl e => .inl e | .inr r => xMor p 106 402 r.1 r.2
def xSom (p : List (Int × Int) → xRes) (ts : List (Int × Int)) : xRes := match xEve p ts with | .inl e => .inl e | .inr r => xMor (xEve p) 105 402 r.1 r.2
/-- an atom, so many deeper ones allowed -/
def xAto : Nat → List (Int × Int) → xRes
  | 0, ts => xPla ts
  | d + 1, ts => if xK ts = 107 then (match xAto d (xTl ts) with | .inl e => .inl e | .inr r => .inr (r.1 ++ [107], r.2))
    else if xK ts = 120 then (match xSom (xAto d) (xTl ts) with | .inl e => .inl e | .inr r => if xK r.2 = 121 then .inr (r.1, xTl r.2) else .inl (xHd r.2))
    else xPla ts
/-- a line: kind, number, code -/
abbrev xLn := Int × Int × List Int
def xLin (ts : List (Int × Int)) : Int ⊕ (xLn × List (Int × Int)) :=
  if 100 ≤ xK ts ∧ xK ts ≤ 103 then
    (if xK ts = 100 then (if xK (xTl ts) = 104 then (match xSom (xAto 6) (xTl (xTl ts)) with | .inl e => .inl e | .inr r => .inr ((100, 0, r.1), r.2)) else .inl (xHd (xTl ts)))
     else if xNum (xK (xTl ts)) = true ∧ ¬ (xK ts = 101 ∧ 48 < xK (xTl ts)) then
      (if xK (xTl (xTl ts)) = 104 then (match xSom (xAto 6) (xTl (xTl (xTl ts))) with | .inl e => .inl e | .inr r => .inr ((xK ts, xK (xTl ts), r.1), r.2))
       else .inr ((xK ts, xK (xTl ts), []), xTl (xTl ts)))
     else .inl (xHd (xTl ts)))
  else .inl (xHd ts)
/-- so many lines at most -/
def xLis : Nat → List xLn → List (Int × Int) → Int ⊕ List xLn
  | 0, _, ts => .inl (xHd ts)
  | q + 1, a, ts => match xLin ts with
    | .inl e => .inl e
    | .inr r => if xK r.2 = 130 then .inr (a ++ [r.1]) else if xK r.2 = 122 then xLis q (a ++ [r.1]) (xTl r.2) else .inl (xHd r.2)
def xTxt (ts : List (Int × Int)) : Int ⊕ List xLn := if xK ts = 130 then .inr [] else xLis 10 [] ts
/-- a text of so many signs -/
def xPar (b : Int → Int) (n : Int) : Int ⊕ List xLn := xTxt (xTo b n 401 0)
/-- the code's machine: what waits, the first sum, the sum -/
def xSt (e : Int → Int) (x : Int × Int × Int) (c : Int) : Int × Int × Int :=
  if xNum c = true then (x.1, x.2.1, x.2.2 + c)
  else if xFac c = true then (x.1, x.2.1, x.2.2 + e c)
  else if xTag c = true then (2 * x.1 + e c, x.2.1, x.2.2)
  else if c = 132 then (x.1, x.2.2, 0)
  else if c = 124 then (2 * x.1 + (if x.2.1 < x.2.2 then 1 else 0), x.2.1, 0)
  else if c = 125 then (2 * x.1 + (if x.2.2 < x.2.1 then 1 else 0), x.2.1, 0)
  else if c = 107 then (if x.1 % 2 = 0 then x.1 + 1 else x.1 - 1, x.2.1, x.2.2)
  else if c = 106 then (if x.1 % 2 = 0 then x.1 / 2 - x.1 / 2 % 2 else x.1 / 2, x.2.1, x.2.2)
  else if c = 105 then (if x.1 % 2 = 0 then x.1 / 2 else x.1 / 2 - x.1 / 2 % 2 + 1, x.2.1, x.2.2)
  else x
def xEv (e : Int → Int) (cs : List Int) (x : Int × Int × Int) : Int × Int × Int := cs.foldl (xSt e) x
/-- whether a line's condition is so -/
def xHo (e : Int → Int) (cs : List Int) : Bool := decide ((xEv e cs (1, 0, 0)).1 % 2 = 1)
/-- the first line that says stop -/
def xStop (e : Int → Int) : Int → List xLn → Int
  | _, [] => -1
  | i, l :: ls => if l.1 = 100 ∧ xHo e l.2.2 = true then i else xStop e (i + 1) ls
/-- the last number of a kind -/
def xLast (e : Int → Int) (k : Int) : Int → List xLn → Int
  | w, [] => w
  | w, l :: ls => xLast e k (if l.1 = k ∧ xHo e l.2.2 = true then l.2.1 else w) ls
