/-! the plain machine's steps, but for the file calls -/
def sGo (X : AI) : AI := up2 X 1 3 (X 1 3 + 2)
def sFail (x : Int32) (X : AI) : AI := up2 (up2 X 1 0 3) 1 1 x
def sRd (X : AI) (i : Int32) : Int32 := if i < 0 then 0 else if (256 : Int32) ≤ i then 0 else X 6 (nT i)
def sNote (i w : Int32) (X : AI) : AI := if X 20 1 < 0 then X else if (2 : Int32) ≤ X 20 1 then X else up2 (up2 (up2 X 26 (nT (X 20 1)) i) 27 (nT (X 20 1)) w) 20 1 (X 20 1 + 1)
def sWr (i w : Int32) (X : AI) : AI := if i < 0 then X else if (256 : Int32) ≤ i then X else up2 (sNote i (X 6 (nT i)) X) 6 (nT i) w
def sPush (w : Int32) (X : AI) : AI := sWr (X 1 4 - 1) w (up2 X 1 4 (X 1 4 - 1))
def sPullV (X : AI) : Int32 := sRd X (X 1 4 + 1 - 1)
def sPullX (X : AI) : AI := up2 X 1 4 (X 1 4 + 1)
def sZL (X : AI) : Int32 := (if X 1 5 = 0 then 0 else 1) + (if X 1 6 = 0 then 0 else 2)
def sReg (X : AI) (i : Int32) : Int32 := if i < 0 then 0 else if (4 : Int32) ≤ i then 0 else X 2 (nT i)
def sSet (i w : Int32) (X : AI) : AI := if i < 0 then X else if (4 : Int32) ≤ i then X else up2 X 2 (nT i) w
def sJump (op y : Int32) (X : AI) : AI := if (op = 13 ∧ X 1 5 = 0) ∨ (op = 14 ∧ X 1 6 = 0) then sGo X else up2 X 1 3 y
def sMade (op w y : Int32) : Int64 := if op = 4 then (w + y).toInt64 else if op = 5 then (w - y).toInt64 else if op = 6 then w.toInt64 * y.toInt64 else if op = 7 then (w &&& y).toInt64 else if op = 8 then (w ^^^ y).toInt64 else if op = 9 then (w <<< ((y - y / 16 * 16) &&& 31)).toInt64 else if op = 10 then (w >>> ((y - y / 16 * 16) &&& 31)).toInt64 else (w - y).toInt64
def sW16 (r : Int64) : Int32 := (r &&& (65535 : Int64)).toInt32
def sLess (op : Int32) (r : Int64) : Int32 := if ¬ (op < 7) ∧ ¬ ((10 : Int32) < op) then 0 else if lg_cmp r 0 < 0 then 1 else if lg_cmp r 65535 ≤ 0 then 0 else 1
def sCalc (op d y : Int32) (X : AI) : AI :=
  let r := sMade op (sReg X d) y
  let Y := up2 (up2 X 1 6 (sLess op r)) 1 5 (if sW16 r = 0 then 1 else 0)
  sGo (if op = 11 then Y else sSet d (sW16 r) Y)
def sMove (op d y : Int32) (X : AI) : AI := if op = 0 then up2 X 1 0 2 else if op = 1 then sGo (sSet d y X) else if y < 256 then (if op = 2 then sGo (sSet d (sRd X y) X) else sGo (sWr y (sReg X d) X)) else sFail 1 X
def sStack (op d y : Int32) (X : AI) : AI :=
  if op = 15 then (if (1 : Int32) ≤ X 1 4 then up2 (sPush (X 1 3 + 2) X) 1 3 y else sFail 3 X)
  else if op = 17 then (if (1 : Int32) ≤ X 1 4 then sGo (sPush y X) else sFail 3 X)
  else if X 1 4 + 1 ≤ 256 then (if op = 16 then up2 (sPullX X) 1 3 (sPullV X) else sGo (sSet d (sPullV X) (sPullX X))) else sFail 3 X
def sRti (X : AI) : AI :=
  if X 1 4 + 2 ≤ 256 then
    let fl := sPullV X
    let Y := up2 (up2 (sPullX X) 1 5 (if fl &&& 1 = 0 then 0 else 1)) 1 6 (if fl &&& 2 = 0 then 0 else 1)
    up2 (up2 (sPullX Y) 1 3 (sPullV Y)) 1 7 1
  else sFail 3 X
def sInt (X : AI) : AI :=
  if (2 : Int32) ≤ X 1 4 then
    let v : Int32 := if X 1 8 = 0 then 1 else 0
    let Y := if X 1 8 = 0 then up2 X 1 9 0 else up2 X 1 8 0
    let Y1 := sPush (Y 1 3) Y
    let Y2 := up2 (sPush (sZL Y1) Y1) 1 7 0
    up2 Y2 1 3 (sRd Y2 v)
  else sFail 3 X
/-- how many keys have come: the first that are told for no later step -/
def sCome (X : AI) (s : Int32) : Nat → Nat → Nat
  | 0, i => i
  | n + 1, i => if X 10 0 ≤ Int32.ofNat i then i else if 20 ≤ i then i else if s < X 12 i then i else sCome X s n (i + 1)
def sTold (X : AI) (s : Int32) : Nat → Nat → Bool
  | 0, _ => false
  | n + 1, i => if X 10 0 ≤ Int32.ofNat i then false else if 20 ≤ i then false else if X 12 i = s then true else sTold X s n (i + 1)
def sKeys (X : AI) : AI := if sTold X (X 1 2) 21 0 = true then up2 X 1 9 1 else X
def sTime (X : AI) : AI := if X 1 10 ≤ 0 then X else
  let Y := up2 X 1 11 (X 1 11 + 1)
  if Y 1 11 = Y 1 10 then up2 (up2 Y 1 11 0) 1 8 1 else Y
def sKeyV (X : AI) (i : Int32) : Int32 := if i < 0 then 0 else if (20 : Int32) ≤ i then 0 else X 11 (nT i)
def sKey (d : Int32) (X : AI) : AI := if X 1 13 < Int32.ofNat (sCome X (X 1 2) 21 0) then sGo (sSet d (sKeyV X (X 1 13 + 1 - 1)) (up2 X 1 13 (X 1 13 + 1))) else sGo (sSet d 65535 X)
def sTape (w : Int32) (X : AI) : AI := if X 1 12 < 0 then sFail 4 X else if X 1 12 < 60 then sGo (up2 (up2 X 7 (nT (X 1 12)) w) 1 12 (X 1 12 + 1)) else sFail 4 X
